-- the class's machine of rules: rows as lists
def RS {α : Type} (f : α → Int32) (a : Nat → Int32) : List α → Prop
  | [] => True
  | x :: l => a l.length = f x ∧ RS f a l
theorem RS_nil {α : Type} {f : α → Int32} {a : Nat → Int32} : RS f a [] := True.intro
theorem RS_upd {α : Type} {f : α → Int32} {a : Nat → Int32} {k : Nat} {x : Int32} : ∀ {l : List α}, l.length ≤ k → RS f a l → RS f (upd a k x) l
  | [], _, _ => True.intro
  | y :: l, h, hr => by
    have h1 : l.length < k := by rw [List.length_cons] at h; omega
    exact ⟨by rw [pk_un (by omega)]; exact hr.1, RS_upd (by omega) hr.2⟩
theorem RS_cons {α : Type} {f : α → Int32} {a : Nat → Int32} {x : α} {l : List α} (h : RS f a l) : RS f (upd a l.length (f x)) (x :: l) := ⟨pk_us, RS_upd (Nat.le_refl _) h⟩
theorem RS_app {α : Type} {f : α → Int32} {a : Nat → Int32} : ∀ {x l : List α}, RS f a (x ++ l) → RS f a l
  | [], _, h => h
  | _ :: x, l, h => RS_app (x := x) (l := l) h.2
theorem RS_at {α : Type} {f : α → Int32} {a : Nat → Int32} {y : α} : ∀ {x l : List α}, RS f a (x ++ y :: l) → a l.length = f y := fun {x l} h => (RS_app (x := x) (l := y :: l) h).1
theorem i_m1 (x : Int32) : x + (-1) = x - 1 := by rw [Int32.sub_eq_add_neg]
theorem nb1 : vp_nar .boolean (1 : Int32) = 1 := by decide +kernel
theorem nb0 : vp_nar .boolean (0 : Int32) = 0 := by decide +kernel
theorem a_await {wa : Nat → Int32} {w : List Nat} {k : Nat} {rs : List Nat} (hk : k < 23) (h : jrowL.getD k [] = rs.map nI) (hc : w.length + rs.length ≤ 4096) (hr : RS nI wa w) : ∃ wa', f_Pa_await wa (nI w.length) k = some (1, wa', nI (rs ++ w).length) ∧ RS nI wa' (rs ++ w) := by
  have hn : jrowN k = rs.length := by unfold jrowN; rw [h, List.length_map]
  have key : ∀ j, j ≤ rs.length → ∀ wa, RS nI wa (rs.drop j ++ w) → ∃ wa', jl (Pa_await_b20_b k) (wa, nI (rs.drop j ++ w).length, nI j - 1) = some (1, wa', nI (rs ++ w).length) ∧ RS nI wa' (rs ++ w) := by
    intro j
    induction j with
    | zero =>
      intro _ wa hw
      refine ⟨wa, jl_done ?_, hw⟩
      show Pa_await_b20_s k wa (nI (rs.drop 0 ++ w).length) (nI 0 - 1) = _
      unfold Pa_await_b20_s
      rw [if_pos (show nI 0 - 1 < 0 by decide), nb1]
      rfl
    | succ j ih =>
      intro hj wa hw
      have e1 : nI (j + 1) - 1 = nI j := nI_pred j
      have e2 : (rs.drop (j + 1) ++ w).length < 4096 := by rw [List.length_append, List.length_drop]; omega
      have e3 : jrow k j = nI (rs[j]'(by omega)) := by
        unfold jrow
        rw [h, List.getD_eq_getElem?_getD, List.getElem?_map, List.getElem?_eq_getElem (by omega)]
        rfl
      have e4 : rs.drop j ++ w = rs[j]'(by omega) :: (rs.drop (j + 1) ++ w) := by
        rw [List.drop_eq_getElem_cons (by omega)]; rfl
      have e5 : Pa_await_b20_b k (wa, nI (rs.drop (j + 1) ++ w).length, nI (j + 1) - 1) = some (.inl (upd wa (rs.drop (j + 1) ++ w).length (nI (rs[j]'(by omega))), nI (rs.drop j ++ w).length, nI j - 1)) := by
        show Pa_await_b20_s k wa (nI (rs.drop (j + 1) ++ w).length) (nI (j + 1) - 1) = _
        unfold Pa_await_b20_s
        rw [e1, if_neg (nI_pos (by omega)), if_neg (by omega), if_neg (nI_in (by omega) (by omega)), if_neg (nI_in (by omega) (by omega)), nI_clamp (by omega), nI_clamp (by omega), e3, i_m1, nI_1, e4]
        rfl
      obtain ⟨wa', g1, g2⟩ := ih (by omega) (upd wa (rs.drop (j + 1) ++ w).length (nI (rs[j]'(by omega)))) (by rw [e4]; exact RS_cons hw)
      exact ⟨wa', by rw [jl_step e5]; exact g1, g2⟩
  have e6 : rs.drop rs.length ++ w = w := by rw [List.drop_length]; rfl
  obtain ⟨wa', g1, g2⟩ := key rs.length (Nat.le_refl _) wa (by rw [e6]; exact hr)
  rw [e6] at g1
  refine ⟨wa', ?_, g2⟩
  unfold f_Pa_await
  have e7 : (4096 : Int32) - nI w.length = nI (4096 - w.length) := pk_sub (a := 4096) (b := w.length) (by omega)
  rw [if_neg (by omega), hn, e7, if_pos (show Int32.ofNat rs.length ≤ nI (4096 - w.length) from nI_le (by omega) (by omega)), if_neg (by omega)]
  exact g1
/-- the last n of a growth are k parts -/
def rt : Nat → List (Nat × Nat × Nat) → Nat → Prop
  | 0, _, n => n = 0
  | k + 1, G, n => ∃ x G', G = x :: G' ∧ 1 ≤ x.2.1 ∧ x.2.1 ≤ n ∧ x.2.1 ≤ G.length ∧ rt k (G.drop x.2.1) (n - x.2.1)
section AM
variable {K P V : Nat → Nat} {m : Nat}
def eK (x : Nat × Nat × Nat) : Int32 := nI (x.1 % 32)
def eP (P : Nat → Nat) (x : Nat × Nat × Nat) : Int32 := if x.1 % 32 = 19 ∨ x.1 % 32 = 0 then -1 else nI (P (x.1 / 32))
def eV (V : Nat → Nat) (x : Nat × Nat × Nat) : Int32 := if x.1 % 32 = 9 ∨ x.1 % 32 = 16 ∨ x.1 % 32 = 17 then nI (V (x.1 / 32)) else 0
def eS (x : Nat × Nat × Nat) : Int32 := nI x.2.1
def eN (x : Nat × Nat × Nat) : Int32 := nI x.2.2
/-- the growth holds G -/
def nkE (K : Nat → Nat) (m : Nat) (x : Nat × Nat × Nat) : Prop := ((x.1 % 32 = 9 ∨ x.1 % 32 = 16) → x.1 / 32 < m ∧ K (x.1 / 32) = 2) ∧ (x.1 % 32 = 17 → x.1 / 32 < m ∧ K (x.1 / 32) = 3)
def RG (K : Nat → Nat) (m : Nat) (P V : Nat → Nat) (gk gp gv gs gn : Nat → Int32) (G : List (Nat × Nat × Nat)) : Prop := RS eK gk G ∧ RS (eP P) gp G ∧ RS (eV V) gv G ∧ RS eS gs G ∧ RS eN gn G ∧ ∀ x, x ∈ G → nkE K m x
theorem nkE_w {n : Nat} {x : Nat × Nat × Nat} (h : nkE K m x) (hn : m ≤ n) : nkE K n x := ⟨fun q => ⟨Nat.lt_of_lt_of_le (h.1 q).1 hn, (h.1 q).2⟩, fun q => ⟨Nat.lt_of_lt_of_le (h.2 q).1 hn, (h.2 q).2⟩⟩
theorem RG_w {n : Nat} {gk gp gv gs gn : Nat → Int32} {G : List (Nat × Nat × Nat)} (h : RG K m P V gk gp gv gs gn G) (hn : m ≤ n) : RG K n P V gk gp gv gs gn G := ⟨h.1, h.2.1, h.2.2.1, h.2.2.2.1, h.2.2.2.2.1, fun x hx => nkE_w (h.2.2.2.2.2 x hx) hn⟩
theorem RG_app {gk gp gv gs gn : Nat → Int32} {X G : List (Nat × Nat × Nat)} (h : RG K m P V gk gp gv gs gn (X ++ G)) : RG K m P V gk gp gv gs gn G := ⟨RS_app h.1, RS_app h.2.1, RS_app h.2.2.1, RS_app h.2.2.2.1, RS_app h.2.2.2.2.1, fun x hx => h.2.2.2.2.2 x (List.mem_append_right _ hx)⟩
theorem RG_cons {gk gp gv gs gn : Nat → Int32} {x : Nat × Nat × Nat} {G : List (Nat × Nat × Nat)} (hx : nkE K m x) (h : RG K m P V gk gp gv gs gn G) : RG K m P V (upd gk G.length (eK x)) (upd gp G.length (eP P x)) (upd gv G.length (eV V x)) (upd gs G.length (eS x)) (upd gn G.length (eN x)) (x :: G) := ⟨RS_cons h.1, RS_cons h.2.1, RS_cons h.2.2.1, RS_cons h.2.2.2.1, RS_cons h.2.2.2.2.1, fun y hy => by
  rcases List.mem_cons.mp hy with e | e
  · rw [e]; exact hx
  · exact h.2.2.2.2.2 y e⟩
theorem i_ab (a b : Int32) : a - b = a + 1 - b - 1 := by
  rw [Int32.sub_eq_add_neg, Int32.sub_eq_add_neg, Int32.sub_eq_add_neg, Int32.add_assoc a 1, Int32.add_comm 1, ← Int32.add_assoc, Int32.add_assoc, show (1 : Int32) + -1 = 0 by decide, Int32.add_zero]
theorem i_sub3 {g x : Nat} (h : x ≤ g + 1) : nI g - nI x = nI (g + 1 - x) - 1 := by rw [← pk_sub h, ← nI_1]; exact i_ab _ _
theorem i_imax {x : Nat} (h1 : 1 ≤ x) (h : x < 2 ^ 31) : (if (1 : Int32) < nI x then nI x else 1) = nI x := by
  by_cases q : x = 1
  · subst q; decide
  · rw [if_pos (show (1 : Int32) < nI x from nI_lt (a := 1) (by omega) h)]
theorem a_addL {gk gp gv gs gn : Nat → Int32} {a1 a2 a3 : Int32} {N fr : Nat} (hN : N ≤ 8000) (hf : fr ≤ N) : ∀ k q G, G.length ≤ 8001 → RS eS gs G → rt k G (G.length - fr) → fr ≤ G.length → jl (Gr_add_b37_b gk gp gv gs gn (nI N) a1 a2 a3 (nI fr)) (nI q, nI G.length - 1) = some (1, upd gk N a1, upd gp N a2, upd gv N a3, upd gs N (nI (N - fr + 1)), upd gn N (nI (q + k)), nI (N + 1)) := by
  intro k
  induction k with
  | zero =>
    intro q G hl hs hr hg
    have h0 : G.length = fr := by have : G.length - fr = 0 := hr; omega
    apply jl_done
    show Gr_add_b37_s gk gp gv gs gn (nI N) a1 a2 a3 (nI fr) (nI q) (nI G.length - 1) = _
    unfold Gr_add_b37_s
    have h1 : nI G.length - 1 < nI fr := by
      rw [h0]
      cases fr with
      | zero => decide
      | succ f => rw [nI_pred]; exact nI_lt (by omega) (by omega)
    have h2 := nI_in (c := N) (N := 8001) (by omega) (by omega)
    rw [if_pos h1, if_neg h2, if_neg h2, if_neg h2, if_neg h2, if_neg h2, nb1, nI_clamp (by omega), pk_sub hf, nI_1, nI_1]
    rfl
  | succ k ih =>
    intro q G hl hs hr hg
    obtain ⟨x, G', e1, e2, e3, e4, e5⟩ := hr
    subst e1
    have h3 : (nI (x :: G').length - 1 : Int32) = nI G'.length := nI_pred _
    have h4 : gs G'.length = nI x.2.1 := hs.1
    have hl' : G'.length + 1 ≤ 8001 := by rw [List.length_cons] at hl; exact hl
    have e4' : x.2.1 ≤ G'.length + 1 := by rw [List.length_cons] at e4; exact e4
    have e3' : x.2.1 ≤ G'.length + 1 - fr := by rw [List.length_cons] at e3; exact e3
    have h5 : ((x :: G').drop x.2.1).length = G'.length + 1 - x.2.1 := by rw [List.length_drop, List.length_cons]
    have h6 : Gr_add_b37_b gk gp gv gs gn (nI N) a1 a2 a3 (nI fr) (nI q, nI (x :: G').length - 1) = some (.inl (nI (q + 1), nI ((x :: G').drop x.2.1).length - 1)) := by
      show Gr_add_b37_s gk gp gv gs gn (nI N) a1 a2 a3 (nI fr) (nI q) (nI (x :: G').length - 1) = _
      unfold Gr_add_b37_s
      rw [h3, if_neg (nI_nlt (by omega) (by omega)), if_neg (nI_in (by omega) (by omega)), nI_clamp (by omega), h4, i_imax e2 (by omega), nI_1, h5]
      rw [i_sub3 e4']
    rw [jl_step h6]
    have h8 : rt k ((x :: G').drop x.2.1) (((x :: G').drop x.2.1).length - fr) := by
      rw [h5, show G'.length + 1 - x.2.1 - fr = G'.length + 1 - fr - x.2.1 by omega]
      exact e5
    have h7 := ih (q + 1) ((x :: G').drop x.2.1) (by rw [h5]; omega) (RS_app (x := (x :: G').take x.2.1) (by rw [List.take_append_drop]; exact hs)) h8 (by rw [h5]; omega)
    rw [h7, show q + 1 + k = q + (k + 1) by omega]
theorem a_add {gk gp gv gs gn : Nat → Int32} {a1 a2 a3 : Int32} {fr k : Nat} {G : List (Nat × Nat × Nat)} (hN : G.length ≤ 8000) (hf : fr ≤ G.length) (hs : RS eS gs G) (hr : rt k G (G.length - fr)) : f_Gr_add gk gp gv gs gn (nI G.length) a1 a2 a3 (nI fr) = some (1, upd gk G.length a1, upd gp G.length a2, upd gv G.length a3, upd gs G.length (nI (G.length - fr + 1)), upd gn G.length (nI k), nI (G.length + 1)) := by
  unfold f_Gr_add
  rw [if_neg (show ¬ (8001 : Int32) ≤ nI G.length from nI_ge (b := 8001) (by omega) (by omega)), if_neg (nI_pos (by omega)), if_pos (nI_le hf (by omega))]
  have := a_addL (gk := gk) (gp := gp) (gv := gv) (gs := gs) (gn := gn) (a1 := a1) (a2 := a2) (a3 := a3) (N := G.length) (fr := fr) (by omega) hf k 0 G (by omega) hs hr hf
  rw [Nat.zero_add] at this
  exact this
end AM
-- forests: num nothing, add one behind another, pow a node
abbrev Fo := Lean.Grind.CommRing.Expr
def fs : Fo → Nat
  | .add a b => fs a + fs b
  | .pow a _ => fs a + 1
  | _ => 0
def fn : Fo → Nat
  | .add a b => fn a + fn b
  | .pow _ _ => 1
  | _ => 0
/-- a forest's growth, the newest first -/
def fp : Fo → List (Nat × Nat × Nat)
  | .add a b => fp b ++ fp a
  | .pow a c => (c, fs a + 1, fn a) :: fp a
  | _ => []
theorem fp_len (F : Fo) : (fp F).length = fs F := by
  induction F with
  | add a b ha hb => show (fp b ++ fp a).length = fs a + fs b; rw [List.length_append, ha, hb, Nat.add_comm]
  | pow a c ha => show (fp a).length + 1 = fs a + 1; rw [ha]
  | _ => rfl
theorem rt_fp (F : Fo) : ∀ G k n, rt k G n → rt (fn F + k) (fp F ++ G) (fs F + n) := by
  induction F with
  | add a b ha hb =>
    intro G k n h
    show rt (fn a + fn b + k) (fp b ++ fp a ++ G) (fs a + fs b + n)
    have h1 := hb _ _ _ (ha G k n h)
    rw [List.append_assoc, show fn a + fn b + k = fn b + (fn a + k) by omega, show fs a + fs b + n = fs b + (fs a + n) by omega]
    exact h1
  | pow a c ha =>
    intro G k n h
    show rt (1 + k) ((c, fs a + 1, fn a) :: fp a ++ G) (fs a + 1 + n)
    rw [Nat.add_comm 1 k]
    refine ⟨(c, fs a + 1, fn a), fp a ++ G, rfl, by show 1 ≤ fs a + 1; omega, by show fs a + 1 ≤ _; omega, ?_, ?_⟩
    · show fs a + 1 ≤ (fp a ++ G).length + 1
      rw [List.length_append, fp_len]; omega
    · show rt k ((fp a ++ G).drop (fs a)) (fs a + 1 + n - (fs a + 1))
      rw [List.drop_left' (fp_len a), show fs a + 1 + n - (fs a + 1) = n by omega]
      exact h
  | _ => intro G k n h; show rt (0 + k) ([] ++ G) (0 + n); rw [Nat.zero_add, Nat.zero_add]; exact h
theorem rt_F (F : Fo) (G : List (Nat × Nat × Nat)) : rt (fn F) (fp F ++ G) (fs F) := rt_fp F G 0 0 rfl
theorem fp_z (F : Fo) (c : Nat) : fp (.pow (.add (.num 0) F) c) = fp (.pow F c) := by
  show (c, 0 + fs F + 1, 0 + fn F) :: (fp F ++ []) = (c, fs F + 1, fn F) :: fp F
  rw [List.append_nil, Nat.zero_add, Nat.zero_add]
