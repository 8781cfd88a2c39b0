-- the reference's out row, and the roots of a forest
def TXL : List (List Nat) := [[112, 111, 114, 80], [101, 112, 121, 84], [109, 111, 105, 120, 97], [102, 101, 100], [97, 109, 109, 101, 108], [97, 116, 97, 100], [107, 99, 101, 104, 99], [109, 114, 111, 110], [110, 117, 102], [108, 108, 97], [116, 101, 108], [110, 105], [99, 101, 114], [40], [41], [58], [61, 58], [62, 61], [62, 45], [44], [46], [124], [], [112, 111, 114, 80], [101, 112, 121, 84], [109, 111, 105, 120, 97], [102, 101, 100], [97, 109, 109, 101, 108], [97, 116, 97, 100], [107, 99, 101, 104, 99], [109, 114, 111, 110], [110, 117, 102], [108, 108, 97], [116, 101, 108], [110, 105], [99, 101, 114], [112, 111, 114, 80], [101, 112, 121, 84], [32, 58], [32, 61, 58, 32], [32, 124, 32], [32, 110, 117, 102], [32, 108, 108, 97], [32, 62, 61, 32], [32, 44], [32, 116, 101, 108], [32, 110, 105, 32], [32, 62, 45, 32], [32, 99, 101, 114]]
theorem tx_all : ∀ k, k < 49 → pg (jsn k) (jstrN k) [] = TXL.getD k [] := by decide +kernel
theorem pg_app {f : Nat → Nat} {L : List Nat} : ∀ n, pg f n L = pg f n [] ++ L := by
  intro n
  induction n with
  | zero => rfl
  | succ n ih => show f n :: pg f n L = f n :: pg f n [] ++ L; rw [ih]; rfl
theorem pT_x {L : List Nat} (k : Nat) (hk : k < 49) : pT k L = TXL.getD k [] ++ L := by
  unfold pT
  rw [pg_app, tx_all k hk]
/-- the last byte is none that takes no blank -/
def GE (L : List Nat) : Prop := ∃ c M, L = c :: M ∧ c ≠ 40 ∧ c ≠ 10 ∧ c ≠ 32
theorem bl_ge {L : List Nat} (h : GE L) : bl L = 32 :: L := by
  obtain ⟨c, M, rfl, h1, h2, h3⟩ := h
  show (if c = 40 ∨ c = 10 ∨ c = 32 then c :: M else 32 :: c :: M) = _
  rw [if_neg (by omega)]
theorem bl_32 {L : List Nat} : bl (32 :: L) = 32 :: L := rfl
theorem bl_40 {L : List Nat} : bl (40 :: L) = 40 :: L := rfl
theorem bl_10 {L : List Nat} : bl (10 :: L) = 10 :: L := rfl
theorem bl_bl (L : List Nat) : bl (bl L) = bl L := by
  cases L with
  | nil => rfl
  | cons c M =>
    have e : bl (c :: M) = if c = 40 ∨ c = 10 ∨ c = 32 then c :: M else 32 :: c :: M := rfl
    by_cases q : c = 40 ∨ c = 10 ∨ c = 32
    · rw [e, if_pos q, e, if_pos q]
    · rw [e, if_neg q]; rfl
theorem ge_c {c : Nat} {M : List Nat} (h1 : c ≠ 40) (h2 : c ≠ 10) (h3 : c ≠ 32) : GE (c :: M) := ⟨c, M, rfl, h1, h2, h3⟩
section OW
variable {out : Nat → Int32} {size : Int32} {L : List Nat}
/-- the reference's out row holds L, or as much of it as there is room for -/
def OT (out : Nat → Int32) (size : Int32) (L : List Nat) : Prop := (∀ x, x ∈ L → x < 128) ∧ size = nI (min L.length 8001) ∧ trn nI out 8001 L
theorem OT_ov {M : List Nat} (h : OT out size L) (hl : 8000 < L.length) (hx : xt L M) : OT out size M := by
  obtain ⟨A, rfl, hA⟩ := hx
  obtain ⟨h1, h2, h4⟩ := h
  have hlen : (A ++ L).length = A.length + L.length := List.length_append
  refine ⟨fun x hx => ?_, ?_, ?_⟩
  · rcases List.mem_append.mp hx with q | q
    · exact hA x q
    · exact h1 x q
  · rw [h2, hlen, Nat.min_eq_right (by omega), Nat.min_eq_right (by omega)]
  · exact trn_app A (by omega) h4
theorem OT_nil : OT out 0 [] := ⟨fun x hx => (by cases hx), rfl, trn_of (Nat.zero_le _) True.intro⟩
theorem OT_sz (h : OT out size L) : (8000 : Int32) < size ↔ 8000 < L.length := by
  rw [h.2.1]
  constructor
  · intro x
    have := (nI_ltI (a := 8000) (b := min L.length 8001) (by omega) (by omega)).mp x
    omega
  · intro x
    exact (nI_ltI (a := 8000) (b := min L.length 8001) (by omega) (by omega)).mpr (by omega)
theorem o_put {c : Nat} (h : OT out size L) (hc : c < 128) : ∃ out' size', f_Mo_put out size (nI c) = some (out', size') ∧ OT out' size' (c :: L) := by
  unfold f_Mo_put
  by_cases q : 8000 < L.length
  · rw [if_pos ((OT_sz h).mpr q)]
    exact ⟨_, _, rfl, OT_ov h q (xt_1 L hc)⟩
  · rw [if_neg (fun x => q ((OT_sz h).mp x))]
    obtain ⟨h1, h2, h4⟩ := h
    have e1 : min L.length 8001 = L.length := Nat.min_eq_left (by omega)
    rw [e1] at h2
    replace h4 := trn_le (by omega) h4
    subst h2
    rw [if_neg (nI_in (show L.length < 8001 by omega) (by decide)), nI_clamp (by omega), nI_1]
    refine ⟨_, _, rfl, fun x hx => ?_, ?_, ?_⟩
    · rcases List.mem_cons.mp hx with a | a
      · rw [a]; exact hc
      · exact h1 x a
    · rw [List.length_cons, Nat.min_eq_left (by omega)]
    · exact trn_of (by rw [List.length_cons]; omega) (RS_cons h4)
theorem o_pg {σ : Type} {body : ((Nat → Int32) × Int32 × Int32) → Option (((Nat → Int32) × Int32 × Int32) ⊕ σ)} {f : Nat → Nat} {N a : Nat} (hf : ∀ j, j < N → f j < 128)
    (hb : ∀ j, j < N → ∀ r l, body (r, l, nI (a + j)) = jb (f_Mo_put r l (nI (f j))) (fun x => some (.inl (x.1, x.2, nI (a + j) + 1)))) :
    ∀ n, n ≤ N → ∀ out size, OT out size L → ∃ out' size', jl body (out, size, nI a) = jl body (out', size', nI (a + n)) ∧ OT out' size' (pg f n L) := by
  intro n
  induction n with
  | zero => intro _ out size h; exact ⟨out, size, rfl, h⟩
  | succ n ih =>
    intro hn out size h
    obtain ⟨r1, l1, e1, h1⟩ := ih (by omega) out size h
    obtain ⟨r2, l2, e2, h2⟩ := o_put (c := f n) h1 (hf n (by omega))
    refine ⟨r2, l2, ?_, h2⟩
    rw [e1]
    apply jl_step
    rw [hb n (by omega), e2, jb_some, nI_1]
    rfl
theorem o_text {k : Nat} (hk : k < 49) (h : OT out size L) : ∃ out' size', f_Mo_text out size k = some (out', size') ∧ OT out' size' (pT k L) := by
  have hs := js_small k hk
  obtain ⟨r, l, e, f⟩ := o_pg (body := Mo_text_b2_b k) (f := jsn k) (N := jstrN k) (a := 0) (fun j hj => (js_char k hk j hj).2) (fun j hj r l => by
    rw [Nat.zero_add]
    show Mo_text_b2_s k r l (nI j) = _
    unfold Mo_text_b2_s
    rw [if_neg (by omega), js_len k hk, jb_some, if_neg (nI_ge (by omega) (by omega)), if_neg (by omega), (js_char k hk j hj).1, jb_some]) (jstrN k) (Nat.le_refl _) out size h
  refine ⟨r, l, ?_, f⟩
  unfold f_Mo_text Mo_text_b2
  rw [show (0 : Int32) = nI 0 from rfl, e, Nat.zero_add]
  apply jl_done
  show Mo_text_b2_s k r l (nI (jstrN k)) = _
  unfold Mo_text_b2_s
  rw [if_neg (by omega), js_len k hk, jb_some, if_pos (Int32.le_refl _)]
theorem o_name {nc : Nat} {st sp : Nat → Nat} {mle mst : Nat → Int32} (hT : TB nc st sp) (hR : RNr mle mst nc st sp) {x : Nat} (hx : x < nc) (h : OT out size L) : ∃ out' size', f_Mo_sayName mle mst out size (nI x) = some (out', size') ∧ OT out' size' (pN st sp x L) := by
  have hT1 := hT.1
  have hT2 := hT.2.1
  have hl := st_le hT (show x + 1 ≤ nc by omega)
  have hs := hT.2.2.2.1 x hx
  obtain ⟨r, l, e, f⟩ := o_pg (body := Mo_sayName_b7_b mle mst (nI x)) (f := fun j => sp (st x + j)) (N := st (x + 1) - st x) (a := st x) (fun j hj => inn_lt (hT.2.2.2.2.1.1 _ (by omega))) (fun j hj r l => by
    show Mo_sayName_b7_s mle mst (nI x) r l (nI (st x + j)) = _
    unfold Mo_sayName_b7_s
    rw [nI_1, if_neg (nI_in (show x + 1 < 6001 by omega) (by decide)), nI_clamp (by omega), hR.1 _ (by omega), if_neg (nI_ge (by omega) (by omega)), if_neg (nI_in (show st x + j < 12000 by omega) (by decide)), nI_clamp (by omega), hR.2 _ (by omega)]) (st (x + 1) - st x) (Nat.le_refl _) out size h
  refine ⟨r, l, ?_, f⟩
  unfold f_Mo_sayName Mo_sayName_b7
  rw [if_neg (nI_in (show x < 6001 by omega) (by decide)), nI_clamp (by omega), hR.1 _ (by omega), e]
  apply jl_done
  show Mo_sayName_b7_s mle mst (nI x) r l (nI (st x + (st (x + 1) - st x))) = _
  unfold Mo_sayName_b7_s
  rw [nI_1, if_neg (nI_in (show x + 1 < 6001 by omega) (by decide)), nI_clamp (by omega), hR.1 _ (by omega), if_pos (nI_le (by omega) (by omega))]
end OW
/-- the roots of a forest: place, parts, label -/
def rs : Fo → Nat → List (Nat × Fo × Nat)
  | .add X Y, p => rs X p ++ rs Y (p + fs X)
  | .pow X c, p => [(p, X, c)]
  | _, _ => []
def rno (x : Nat × Fo × Nat) : Fo := .pow x.2.1 x.2.2
def rsz (x : Nat × Fo × Nat) : Nat := fs x.2.1 + 1
def rki (x : Nat × Fo × Nat) : Nat := x.2.2 % 32
/-- roots that stand one behind another from p to E -/
def chn : List (Nat × Fo × Nat) → Nat → Nat → Prop
  | [], p, E => p = E
  | x :: l, p, E => x.1 = p ∧ chn l (p + rsz x) E
theorem chn_app : ∀ (l m : List (Nat × Fo × Nat)) (p E F : Nat), chn l p E → chn m E F → chn (l ++ m) p F := by
  intro l
  induction l with
  | nil => intro m p E F h h'; have e : p = E := h; subst e; exact h'
  | cons x l ih => intro m p E F h h'; exact ⟨h.1, ih m _ E F h.2 h'⟩
theorem chn_rs (F : Fo) : ∀ p, chn (rs F p) p (p + fs F) := by
  induction F with
  | add X Y hX hY =>
    intro p
    show chn (rs X p ++ rs Y (p + fs X)) p (p + (fs X + fs Y))
    rw [← Nat.add_assoc]
    exact chn_app _ _ _ _ _ (hX p) (hY _)
  | pow X c _ => intro p; exact ⟨rfl, rfl⟩
  | _ => intro p; exact rfl
theorem rk_rs (F : Fo) : ∀ p, (rs F p).map rki = rk F := by
  induction F with
  | add X Y hX hY => intro p; show (rs X p ++ rs Y (p + fs X)).map rki = rk X ++ rk Y; rw [List.map_append, hX, hY]
  | _ => intro p; rfl
section RL
variable (st sp : Nat → Nat) (cv : Nat → Int32)
def rdl (q w E n : Nat) : List (Nat × Fo × Nat) → List Nat → List Nat
  | [], L => L
  | x :: l, L => rdl q w E n l (rd st sp cv (rno x) x.1 q w E n L)
end RL
theorem rdl_app {st sp : Nat → Nat} {cv : Nat → Int32} {q w E n : Nat} : ∀ (l m : List (Nat × Fo × Nat)) (L : List Nat), rdl st sp cv q w E n (l ++ m) L = rdl st sp cv q w E n m (rdl st sp cv q w E n l L) := by
  intro l
  induction l with
  | nil => intro m L; rfl
  | cons x l ih => intro m L; exact ih m _
theorem rd_rs {st sp : Nat → Nat} {cv : Nat → Int32} (F : Fo) : ∀ (p q w E n : Nat) (L : List Nat), rd st sp cv F p q w E n L = rdl st sp cv q w E n (rs F p) L := by
  induction F with
  | add X Y hX hY =>
    intro p q w E n L
    show rd st sp cv Y (p + fs X) q w E n (rd st sp cv X p q w E n L) = rdl st sp cv q w E n (rs X p ++ rs Y (p + fs X)) L
    rw [rdl_app, hX, hY]
  | _ => intro p q w E n L; rfl
/-- kinds and sizes in the rows -/
def ks (ck cs : Nat → Int32) : Fo → Nat → Prop
  | .add X Y, p => ks ck cs X p ∧ ks ck cs Y (p + fs X)
  | .pow X c, p => ck p = nI (c % 32) ∧ cs p = nI (fs X + 1) ∧ ks ck cs X (p + 1)
  | _, _ => True
theorem ks_pr {P : Nat → Nat} {ck cp cs cw : Nat → Int32} (F : Fo) : ∀ (p : Nat) (w : Int32), pr P ck cp cs cw F p w → ks ck cs F p := by
  induction F with
  | add X Y hX hY => intro p w h; exact ⟨hX _ _ h.1, hY _ _ h.2⟩
  | pow X c hX => intro p w h; exact ⟨h.1, h.2.2.1, hX _ _ h.2.2.2.2⟩
  | _ => intro p w _; exact True.intro
/-- what holds of a forest in the rows -/
def TF (ck cs cv : Nat → Int32) (nc nt : Nat) (F : Fo) (p : Nat) : Prop := ks ck cs F p ∧ vl nc cv F p ∧ wf F ∧ p + fs F ≤ nt
theorem TF_rs {ck cs cv : Nat → Int32} {nc nt : Nat} (F : Fo) : ∀ p, TF ck cs cv nc nt F p → ∀ x, x ∈ rs F p → TF ck cs cv nc nt (rno x) x.1 ∧ nd (rno x) ≤ nd F ∧ rsz x ≤ fs F := by
  induction F with
  | add X Y hX hY =>
    intro p h x hx
    obtain ⟨h1, h2, h3, h4⟩ := h
    have h4' : p + (fs X + fs Y) ≤ nt := h4
    have hn : nd (.add X Y) = max (nd X) (nd Y) := nd_add
    rcases List.mem_append.mp (show x ∈ rs X p ++ rs Y (p + fs X) from hx) with q | q
    · obtain ⟨a, b, c⟩ := hX p ⟨h1.1, h2.1, h3.1, by omega⟩ x q
      exact ⟨a, by omega, by show rsz x ≤ fs X + fs Y; omega⟩
    · obtain ⟨a, b, c⟩ := hY _ ⟨h1.2, h2.2, h3.2, by omega⟩ x q
      exact ⟨a, by omega, by show rsz x ≤ fs X + fs Y; omega⟩
  | pow X c hX =>
    intro p h x hx
    have e := List.mem_singleton.mp (show x ∈ [(p, X, c)] from hx)
    subst e
    exact ⟨h, Nat.le_refl _, Nat.le_refl _⟩
  | _ => intro p h x hx; cases hx
/-- how deep the last root is, and the others -/
theorem nd_rs (F : Fo) : ∀ p, (∀ x, x ∈ (rs F p).dropLast → nd (rno x) ≤ (ndp F).1) ∧ ∀ x, (rs F p).getLast? = some x → nd (rno x) ≤ (ndp F).2 := by
  induction F with
  | add X Y hX hY =>
    intro p
    by_cases q : fn Y = 0
    · have e : ndp (.add X Y) = ndp X := if_pos q
      have e2 : rs Y (p + fs X) = [] := by
        have := rk_rs Y (p + fs X)
        have h0 := rk_len Y
        rw [q] at h0
        rw [List.eq_nil_of_length_eq_zero h0] at this
        exact List.map_eq_nil_iff.mp this
      have e3 : rs (.add X Y) p = rs X p := by show rs X p ++ rs Y (p + fs X) = _; rw [e2, List.append_nil]
      rw [e, e3]
      exact hX p
    · have e : ndp (.add X Y) = (max (max (ndp X).1 (ndp X).2) (ndp Y).1, (ndp Y).2) := if_neg q
      have e2 : rs Y (p + fs X) ≠ [] := fun z => by
        have h0 := rk_len Y
        rw [← rk_rs Y (p + fs X), z] at h0
        exact q h0.symm
      have e3 : rs (.add X Y) p = rs X p ++ rs Y (p + fs X) := rfl
      rw [e, e3, List.dropLast_append_of_ne_nil e2]
      constructor
      · intro x hx
        rcases List.mem_append.mp hx with a | a
        · have hall : nd (rno x) ≤ max (ndp X).1 (ndp X).2 := by
            rcases List.eq_nil_or_concat (rs X p) with z | ⟨l, y, z⟩
            · rw [z] at a; cases a
            · have hh := hX p
              rw [z] at a hh
              rw [List.concat_eq_append] at a hh
              rw [List.dropLast_concat, List.getLast?_concat] at hh
              rcases List.mem_append.mp a with b | b
              · have := hh.1 x b; omega
              · have := hh.2 y rfl
                rw [List.mem_singleton.mp b]; omega
          show nd (rno x) ≤ max (max (ndp X).1 (ndp X).2) (ndp Y).1
          omega
        · have := (hY (p + fs X)).1 x a
          show nd (rno x) ≤ max (max (ndp X).1 (ndp X).2) (ndp Y).1
          omega
      · intro x hx
        rcases List.eq_nil_or_concat (rs Y (p + fs X)) with z | ⟨l, y, z⟩
        · exact absurd z e2
        · have hh := (hY (p + fs X)).2
          rw [List.concat_eq_append] at z
          rw [z] at hx hh
          rw [← List.append_assoc, List.getLast?_concat] at hx
          rw [List.getLast?_concat] at hh
          exact hh x hx
  | pow X c _ =>
    intro p
    refine ⟨fun x hx => (by cases hx), fun x hx => ?_⟩
    have e : (p, X, c) = x := Option.some.inj hx
    subst e
    show max 0 (ndp (.pow X c)).2 ≤ (ndp (.pow X c)).2
    omega
  | _ => intro p; exact ⟨fun x hx => (by cases hx), fun x hx => (by cases hx)⟩
theorem lpos {α : Type} {l : List α} (h : l ≠ []) : 1 ≤ l.length := by
  cases l with
  | nil => exact absurd rfl h
  | cons a l => rw [List.length_cons]; omega
