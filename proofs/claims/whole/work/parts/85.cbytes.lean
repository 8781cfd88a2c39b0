-- what is written: its bytes, the newest first
def bl (L : List Nat) : List Nat := match L with
  | [] => []
  | c :: _ => if c = 40 ∨ c = 10 ∨ c = 32 then L else 32 :: L
def pg (f : Nat → Nat) : Nat → List Nat → List Nat
  | 0, L => L
  | n + 1, L => f n :: pg f n L
def pT (k : Nat) (L : List Nat) : List Nat := pg (jsn k) (jstrN k) L
def pN (st sp : Nat → Nat) (x : Nat) (L : List Nat) : List Nat := pg (fun j => sp (st x + j)) (st (x + 1) - st x) L
def tkL (k : Nat) (L : List Nat) : List Nat := if k = 0 then L else if k = 16 ∨ k = 17 ∨ k = 21 ∨ k = 22 then pT (k - 2) L else pT (k - 2) (bl L)
def sdL (v : Nat) (L : List Nat) : List Nat := if v = 0 then L else (48 + (v - 1) % 10) :: (if 10 < v then (48 + (v - 1) / 10) :: L else L)
def stL (v : Nat) (L : List Nat) : List Nat := sdL v (pT (if v = 0 then 23 else 24) (bl L))
/-- bytes put behind others -/
def xt (L M : List Nat) : Prop := ∃ A, M = A ++ L ∧ ∀ x, x ∈ A → x < 128
theorem xt_r (L : List Nat) : xt L L := ⟨[], rfl, fun x hx => by cases hx⟩
theorem xt_t {L M N : List Nat} (h : xt L M) (h' : xt M N) : xt L N := by
  obtain ⟨A, rfl, a⟩ := h
  obtain ⟨C, rfl, c⟩ := h'
  refine ⟨C ++ A, (List.append_assoc C A L).symm, fun x hx => ?_⟩
  rcases List.mem_append.mp hx with q | q
  · exact c x q
  · exact a x q
theorem xt_1 {c : Nat} (L : List Nat) (hc : c < 128) : xt L (c :: L) := ⟨[c], rfl, fun x hx => by rw [List.mem_singleton.mp hx]; exact hc⟩
theorem xt_bl (L : List Nat) : xt L (bl L) := by
  unfold bl
  split
  · exact xt_r _
  · split
    · exact xt_r _
    · exact xt_1 _ (by decide)
theorem xt_pg {f : Nat → Nat} (L : List Nat) : ∀ n, (∀ j, j < n → f j < 128) → xt L (pg f n L) := by
  intro n
  induction n with
  | zero => intro _; exact xt_r L
  | succ n ih => intro h; exact xt_t (ih (fun j hj => h j (by omega))) (xt_1 _ (h n (by omega)))
theorem xt_pT {k : Nat} (L : List Nat) (hk : k < 49) : xt L (pT k L) := xt_pg L _ (fun j hj => (js_char k hk j hj).2)
theorem xt_tk {k : Nat} (L : List Nat) (hk : k < 24) : xt L (tkL k L) := by
  unfold tkL
  split
  · exact xt_r L
  · split
    · exact xt_pT L (by omega)
    · exact xt_t (xt_bl L) (xt_pT _ (by omega))
theorem xt_sd {v : Nat} (L : List Nat) (hv : v ≤ 100) : xt L (sdL v L) := by
  unfold sdL
  split
  · exact xt_r L
  · have h1 : (v - 1) / 10 ≤ 9 := by omega
    split
    · exact xt_t (xt_1 L (by omega)) (xt_1 _ (by omega))
    · exact xt_1 L (by omega)
theorem xt_st {v : Nat} (L : List Nat) (hv : v ≤ 100) : xt L (stL v L) := xt_t (xt_bl L) (xt_t (xt_pT _ (by split <;> decide)) (xt_sd _ hv))
theorem xt_pN {nc : Nat} {st sp : Nat → Nat} (hT : TB nc st sp) {x : Nat} (L : List Nat) (hx : x < nc) : xt L (pN st sp x L) := xt_pg L _ (fun j hj => by
  have := st_le hT (show x + 1 ≤ nc by omega)
  exact inn_lt (hT.2.2.2.2.1.1 _ (by omega)))
/-- a row holds the oldest n bytes -/
def trn (f : Nat → Int32) (row : Nat → Int32) (n : Nat) (L : List Nat) : Prop := ∃ A K, L = A ++ K ∧ K.length = min L.length n ∧ RS f row K
theorem trn_app {f row : Nat → Int32} {n : Nat} (A : List Nat) {L : List Nat} (h : n ≤ L.length) (hL : trn f row n L) : trn f row n (A ++ L) := by
  obtain ⟨C, K, h1, h2, h3⟩ := hL
  refine ⟨A ++ C, K, by rw [List.append_assoc, ← h1], ?_, h3⟩
  rw [h2, List.length_append]
  omega
theorem trn_le {f row : Nat → Int32} {n : Nat} {L : List Nat} (h : L.length ≤ n) (hL : trn f row n L) : RS f row L := by
  obtain ⟨C, K, h1, h2, h3⟩ := hL
  have h4 := congrArg List.length h1
  rw [List.length_append] at h4
  have h5 : C = [] := List.eq_nil_of_length_eq_zero (by omega)
  subst h5
  rw [h1]
  exact h3
theorem trn_of {f row : Nat → Int32} {n : Nat} {L : List Nat} (h : L.length ≤ n) (hL : RS f row L) : trn f row n L := ⟨[], L, rfl, by omega, hL⟩
section CW
variable {row : Nat → Int32} {len ov : Int32} {L : List Nat}
/-- the class's draft holds L, or as much of it as there is room for -/
def CT (row : Nat → Int32) (len ov : Int32) (L : List Nat) : Prop := (∀ x, x ∈ L → x < 128) ∧ len = nI (min L.length 8000) ∧ ov = (if 8000 < L.length then 1 else 0) ∧ trn bb row 8000 L
theorem CT_ov {M : List Nat} (h : CT row len ov L) (hl : 8000 < L.length) (hx : xt L M) : CT row len ov M := by
  obtain ⟨A, rfl, hA⟩ := hx
  obtain ⟨h1, h2, h3, h4⟩ := h
  have hlen : (A ++ L).length = A.length + L.length := List.length_append
  refine ⟨fun x hx => ?_, ?_, ?_, ?_⟩
  · rcases List.mem_append.mp hx with q | q
    · exact hA x q
    · exact h1 x q
  · rw [h2, hlen, Nat.min_eq_right (by omega), Nat.min_eq_right (by omega)]
  · rw [h3, hlen, if_pos hl, if_pos (by omega)]
  · exact trn_app A (by omega) h4
theorem CT_nil : CT row 0 0 [] := ⟨fun x hx => (by cases hx), rfl, rfl, trn_of (Nat.zero_le _) True.intro⟩
theorem w_put {c : Nat} (h : CT row len ov L) (hc : c < 128) : ∃ row' len' ov', f_By_put row len ov (nI c) = some (row', len', ov') ∧ CT row' len' ov' (c :: L) := by
  obtain ⟨h1, h2, h3, h4⟩ := h
  by_cases q : L.length < 8000
  · have e1 : min L.length 8000 = L.length := Nat.min_eq_left (by omega)
    rw [e1] at h2
    replace h4 := trn_le (by omega) h4
    subst h2
    refine ⟨upd row L.length (bb c), nI (L.length + 1), ov, ?_, fun x hx => ?_, ?_, ?_, ?_⟩
    · unfold f_By_put
      have e : nI L.length < (8000 : Int32) := nI_lt (b := 8000) q (by omega)
      rw [if_pos e, if_neg (nI_in q (by decide)), nI_clamp (by omega), pk_vb, nI_1]
      rfl
    · rcases List.mem_cons.mp hx with a | a
      · rw [a]; exact hc
      · exact h1 x a
    · rw [List.length_cons, Nat.min_eq_left (by omega)]
    · rw [h3, List.length_cons, if_neg (by omega), if_neg (by omega)]
    · exact trn_of (by rw [List.length_cons]; omega) (RS_cons h4)
  · have e1 : min L.length 8000 = 8000 := Nat.min_eq_right (by omega)
    rw [e1] at h2
    subst h2
    refine ⟨row, nI 8000, 1, ?_, fun x hx => ?_, ?_, ?_, ?_⟩
    · unfold f_By_put
      rw [if_neg (show ¬ nI 8000 < (8000 : Int32) by decide)]
    · rcases List.mem_cons.mp hx with a | a
      · rw [a]; exact hc
      · exact h1 x a
    · rw [List.length_cons, Nat.min_eq_right (by omega)]
    · rw [List.length_cons, if_pos (by omega)]
    · exact trn_app [c] (by omega) h4
/-- whether the last byte is a blank -/
def nb32 (L : List Nat) : Prop := ∀ c M, L = c :: M → c ≠ 32
theorem w_blank (h : CT row len ov L) (hb : nb32 L) : ∃ row' len' ov', f_Wr_putBlank row len ov = some (row', len', ov') ∧ CT row' len' ov' (bl L) := by
  by_cases q : 8000 < L.length
  · -- too long already
    have hh := h
    obtain ⟨h1, h2, h3, h4⟩ := hh
    rw [Nat.min_eq_right (by omega)] at h2
    subst h2
    unfold f_Wr_putBlank
    have ha : ∃ x, f_By_at row (nI 8000) (nI 8000 - 1) = some x := by
      unfold f_By_at
      rw [if_neg (by decide), if_neg (by decide), if_neg (by decide)]
      exact ⟨_, rfl⟩
    obtain ⟨x, hx⟩ := ha
    rw [hx, jb_some]
    have stay : CT row (nI 8000) ov (bl L) := CT_ov h q (xt_bl L)
    by_cases a1 : x = -1
    · rw [if_pos a1]; exact ⟨_, _, _, rfl, stay⟩
    · rw [if_neg a1]
      by_cases a2 : x = 40
      · rw [if_pos a2]; exact ⟨_, _, _, rfl, stay⟩
      · rw [if_neg a2]
        by_cases a3 : x = 10
        · rw [if_pos a3]; exact ⟨_, _, _, rfl, stay⟩
        · rw [if_neg a3]
          obtain ⟨r, l, o, e, f⟩ := w_put (c := 32) h (by decide)
          rw [show f_By_put row (nI 8000) ov 32 = _ from e, jb_some]
          refine ⟨_, _, _, rfl, ?_⟩
          unfold f_By_put at e
          rw [if_neg (show ¬ nI 8000 < (8000 : Int32) by decide)] at e
          have e' := Option.some.inj e
          have e1 : row = r := congrArg (fun o => o.1) e'
          have e2 : nI 8000 = l := congrArg (fun o => o.2.1) e'
          have e3 : (1 : Int32) = o := congrArg (fun o => o.2.2) e'
          have e4 : ov = 1 := by rw [h3, if_pos q]
          subst e1 e2 e3
          rw [e4] at stay
          exact stay
  · have hh := h
    obtain ⟨h1, h2, h3, h4⟩ := hh
    have e1 : min L.length 8000 = L.length := Nat.min_eq_left (by omega)
    rw [e1] at h2
    replace h4 := trn_le (by omega) h4
    subst h2
    cases L with
    | nil =>
      refine ⟨row, _, ov, ?_, h⟩
      unfold f_Wr_putBlank f_By_at
      rw [if_pos (show nI ([] : List Nat).length - 1 < 0 by decide)]
      unfold By_at_b25
      rw [jb_some, if_pos rfl]
    | cons c M =>
      have hc := h1 c (List.mem_cons.mpr (Or.inl rfl))
      have e3 : nI (c :: M).length - 1 = nI M.length := nI_pred _
      have hl : (c :: M).length = M.length + 1 := rfl
      have e4 : f_By_at row (nI (c :: M).length) (nI (c :: M).length - 1) = some (nI c) := by
        rw [e3]
        unfold f_By_at
        rw [if_neg (nI_pos (by omega)), if_neg (nI_ge (by omega) (by omega)), if_neg (nI_in (show M.length < 8000 by omega) (by decide)), nI_clamp (by omega), h4.1, bb_and c (by omega)]
      have b32 := hb c M rfl
      unfold f_Wr_putBlank
      rw [e4, jb_some, if_neg (nI_m1 (by omega))]
      have ebl : bl (c :: M) = if c = 40 ∨ c = 10 ∨ c = 32 then c :: M else 32 :: c :: M := rfl
      by_cases a2 : c = 40
      · rw [if_pos (show nI c = 40 by rw [a2]; rfl), ebl, if_pos (Or.inl a2)]; exact ⟨_, _, _, rfl, h⟩
      · rw [if_neg (show ¬ nI c = 40 from fun x => a2 ((nI_eq (by omega) (by omega)).mp x))]
        by_cases a3 : c = 10
        · rw [if_pos (show nI c = 10 by rw [a3]; rfl), ebl, if_pos (Or.inr (Or.inl a3))]; exact ⟨_, _, _, rfl, h⟩
        · rw [if_neg (show ¬ nI c = 10 from fun x => a3 ((nI_eq (by omega) (by omega)).mp x)), ebl, if_neg (by omega)]
          obtain ⟨r, l, o, e, f⟩ := w_put (c := 32) h (by decide)
          rw [show f_By_put row (nI (c :: M).length) ov 32 = _ from e, jb_some]
          exact ⟨_, _, _, rfl, f⟩
theorem w_pg {σ : Type} {body : ((Nat → Int32) × Int32 × Int32 × Int32) → Option (((Nat → Int32) × Int32 × Int32 × Int32) ⊕ σ)} {f : Nat → Nat} {N : Nat} (hN : N < 2 ^ 31) (hf : ∀ j, j < N → f j < 128)
    (hb : ∀ j, j < N → ∀ r l o, body (r, l, o, nI j) = jb (f_By_put r l o (nI (f j))) (fun x => some (.inl (x.1, x.2.1, x.2.2, nI j + 1)))) :
    ∀ n, n ≤ N → ∀ row len ov, CT row len ov L → ∃ row' len' ov', jl body (row, len, ov, 0) = jl body (row', len', ov', nI n) ∧ CT row' len' ov' (pg f n L) := by
  intro n
  induction n with
  | zero => intro _ row len ov h; exact ⟨row, len, ov, rfl, h⟩
  | succ n ih =>
    intro hn row len ov h
    obtain ⟨r1, l1, o1, e1, h1⟩ := ih (by omega) row len ov h
    obtain ⟨r2, l2, o2, e2, h2⟩ := w_put (c := f n) h1 (hf n (by omega))
    refine ⟨r2, l2, o2, ?_, h2⟩
    rw [e1]
    apply jl_step
    rw [hb n (by omega), e2, jb_some, nI_1]
theorem w_text {k : Nat} (hk : k < 49) (h : CT row len ov L) : ∃ row' len' ov', f_Wr_putText row len ov k = some (row', len', ov') ∧ CT row' len' ov' (pT k L) := by
  have hs := js_small k hk
  obtain ⟨r, l, o, e, f⟩ := w_pg (body := Wr_putText_b2_b k) (f := jsn k) (N := jstrN k) (by omega) (fun j hj => (js_char k hk j hj).2) (fun j hj r l o => by
    show Wr_putText_b2_s k r l o (nI j) = _
    unfold Wr_putText_b2_s
    rw [if_neg (by omega), js_len k hk, jb_some, if_neg (nI_ge (by omega) (by omega)), if_neg (by omega), (js_char k hk j hj).1, jb_some]) (jstrN k) (Nat.le_refl _) row len ov h
  refine ⟨r, l, o, ?_, f⟩
  unfold f_Wr_putText Wr_putText_b2
  rw [e]
  apply jl_done
  show Wr_putText_b2_s k r l o (nI (jstrN k)) = _
  unfold Wr_putText_b2_s
  rw [if_neg (by omega), js_len k hk, jb_some, if_pos (Int32.le_refl _)]
theorem sp_tok : ∀ k, 4 ≤ k → k < 24 → f_To_spelling (nI k) = some (k - 2) := by
  intro k h1 h2
  have : ∀ m, m < 20 → f_To_spelling (nI (m + 4)) = some (m + 4 - 2) := by decide +kernel
  have := this (k - 4) (by omega)
  rw [show k - 4 + 4 = k by omega] at this
  exact this
theorem w_token {k : Nat} (hk : k = 0 ∨ 4 ≤ k ∧ k < 24) (h : CT row len ov L) (hb : nb32 L) : ∃ row' len' ov', f_Wr_putToken row len ov (nI k) = some (row', len', ov') ∧ CT row' len' ov' (tkL k L) := by
  unfold f_Wr_putToken tkL
  by_cases q0 : k = 0
  · subst q0
    rw [if_pos rfl, if_pos (show nI 0 = 0 from rfl)]
    exact ⟨_, _, _, rfl, h⟩
  · rw [if_neg q0, if_neg (show ¬ nI k = 0 from fun x => q0 ((nI_eq (b := 0) (by omega) (by omega)).mp x))]
    have hk2 : 4 ≤ k ∧ k < 24 := by omega
    have b33 : ∀ {row len ov L}, CT row len ov L → ∃ row' len' ov', Wr_putToken_b33 row len ov (nI k) = some (row', len', ov') ∧ CT row' len' ov' (pT (k - 2) L) := by
      intro row len ov L h
      obtain ⟨r, l, o, e, f⟩ := w_text (k := k - 2) (by omega) h
      refine ⟨r, l, o, ?_, f⟩
      unfold Wr_putToken_b33
      rw [sp_tok k hk2.1 hk2.2, jb_some, e, jb_some]
    have ne : ∀ c, c < 24 → k ≠ c → ¬ nI k = nI c := fun c hc hn x => hn ((nI_eq (by omega) (by omega)).mp x)
    by_cases q1 : k = 16
    · rw [if_pos (show nI k = 16 by rw [q1]; rfl), if_pos (by omega)]; exact b33 h
    · rw [if_neg (show ¬ nI k = 16 from ne 16 (by omega) q1)]
      by_cases q2 : k = 17
      · rw [if_pos (show nI k = 17 by rw [q2]; rfl), if_pos (by omega)]; exact b33 h
      · rw [if_neg (show ¬ nI k = 17 from ne 17 (by omega) q2)]
        by_cases q3 : k = 21
        · rw [if_pos (show nI k = 21 by rw [q3]; rfl), if_pos (by omega)]; exact b33 h
        · rw [if_neg (show ¬ nI k = 21 from ne 21 (by omega) q3)]
          by_cases q4 : k = 22
          · rw [if_pos (show nI k = 22 by rw [q4]; rfl), if_pos (by omega)]; exact b33 h
          · rw [if_neg (show ¬ nI k = 22 from ne 22 (by omega) q4), if_neg (by omega)]
            obtain ⟨r, l, o, e, f⟩ := w_blank h hb
            rw [e, jb_some]
            exact b33 f
theorem w_sort {v : Nat} (hv : v ≤ 100) (h : CT row len ov L) (hb : nb32 L) : ∃ row' len' ov', f_Wr_putSort row len ov (nI v) = some (row', len', ov') ∧ CT row' len' ov' (stL v L) := by
  unfold f_Wr_putSort stL
  obtain ⟨r, l, o, e, f⟩ := w_blank h hb
  rw [e, jb_some]
  by_cases q : v = 0
  · subst q
    rw [if_neg (show ¬ (0 : Int32) < nI 0 by decide), if_pos rfl]
    obtain ⟨r1, l1, o1, e1, f1⟩ := w_text (k := 23) (by decide) f
    refine ⟨r1, l1, o1, ?_, f1⟩
    unfold Wr_putSort_b16
    rw [e1, jb_some, if_pos (show nI 0 - 1 < (10 : Int32) by decide)]
    unfold Wr_putSort_b43
    rw [if_pos (show nI 0 - 1 < (0 : Int32) by decide)]
  · rw [if_pos (show (0 : Int32) < nI v from nI_lt (a := 0) (by omega) (by omega)), if_neg q]
    obtain ⟨r1, l1, o1, e1, f1⟩ := w_text (k := 24) (by decide) f
    have ev : nI v - 1 = nI (v - 1) := by have := nI_pred (v - 1); rw [show v - 1 + 1 = v by omega] at this; exact this
    have ed : ∀ x, x < 100 → (48 : Int32) + nI x / 10 = nI (48 + x / 10) ∧ (48 : Int32) + (nI x - nI x / 10 * 10) = nI (48 + x % 10) := by decide +kernel
    obtain ⟨d1, d2⟩ := ed (v - 1) (by omega)
    unfold Wr_putSort_b16 sdL
    rw [e1, jb_some, ev, if_neg q]
    have b43 : ∀ {row len ov L}, CT row len ov L → ∃ row' len' ov', Wr_putSort_b43 row len ov (nI (v - 1)) = some (row', len', ov') ∧ CT row' len' ov' ((48 + (v - 1) % 10) :: L) := by
      intro row len ov L h
      obtain ⟨r, l, o, e, f⟩ := w_put (c := 48 + (v - 1) % 10) h (by omega)
      refine ⟨r, l, o, ?_, f⟩
      unfold Wr_putSort_b43
      rw [if_neg (nI_pos (by omega)), d2, e, jb_some]
    by_cases q2 : 10 < v
    · rw [if_neg (show ¬ nI (v - 1) < 10 from nI_nlt (b := 10) (by omega) (by omega)), if_pos q2, d1]
      obtain ⟨r2, l2, o2, e2, f2⟩ := w_put (c := 48 + (v - 1) / 10) f1 (by omega)
      rw [e2, jb_some]
      exact b43 f2
    · rw [if_pos (show nI (v - 1) < 10 from nI_lt (b := 10) (by omega) (by omega)), if_neg q2]
      exact b43 f1
theorem w_name {nc : Nat} {st sp : Nat → Nat} {csp cst nw ol : Nat → Int32} (hT : TB nc st sp) (hR : RNc csp cst nw ol nc st sp) {x : Nat} (hx : x < nc) (h : CT row len ov L) (hb : nb32 L) : ∃ row' len' ov', f_Wr_putName csp cst (nI nc) row len ov (nI x) = some (row', len', ov') ∧ CT row' len' ov' (pN st sp x (bl L)) := by
  have hT1 := hT.1
  have hT2 := hT.2.1
  have hl := st_le hT (show x + 1 ≤ nc by omega)
  have hs := hT.2.2.2.1 x hx
  unfold f_Wr_putName
  obtain ⟨r, l, o, e, f⟩ := w_blank h hb
  have elen : f_Na_lengthOf cst (nI nc) (nI x) = some (nI (st (x + 1) - st x)) := by
    unfold f_Na_lengthOf
    rw [if_neg (nI_pos (by omega)), if_neg (nI_ge (by omega) (by omega)), nI_1, if_neg (nI_in (show x + 1 < 4097 by omega) (by decide)), if_neg (nI_in (show x < 4097 by omega) (by decide)), nI_clamp (by omega), nI_clamp (by omega), hR.1 _ (by omega), hR.1 _ (by omega), pk_sub (by omega)]
  rw [e, jb_some, elen, jb_some]
  obtain ⟨r1, l1, o1, e1, f1⟩ := w_pg (body := Wr_putName_b13_b csp cst (nI nc) (nI x) (nI (st (x + 1) - st x))) (f := fun j => sp (st x + j)) (N := st (x + 1) - st x) (by omega) (fun j hj => inn_lt (hT.2.2.2.2.1.1 _ (by omega))) (fun j hj r l o => by
    show Wr_putName_b13_s csp cst (nI nc) (nI x) (nI (st (x + 1) - st x)) r l o (nI j) = _
    unfold Wr_putName_b13_s f_Na_byteOf
    rw [if_neg (nI_ge (by omega) (by omega)), if_neg (nI_pos (by omega)), elen, jb_some, if_neg (nI_ge (by omega) (by omega)), if_neg (nI_in (show x < 4097 by omega) (by decide)), nI_clamp (by omega), hR.1 _ (by omega), nI_add, if_neg (nI_in (show st x + j < 12288 by omega) (by decide)), nI_clamp (by omega), hR.2.1 _ (by omega), jb_some]) (st (x + 1) - st x) (Nat.le_refl _) r l o f
  refine ⟨r1, l1, o1, ?_, f1⟩
  unfold Wr_putName_b13
  rw [e1]
  apply jl_done
  show Wr_putName_b13_s csp cst (nI nc) (nI x) (nI (st (x + 1) - st x)) r1 l1 o1 (nI (st (x + 1) - st x)) = _
  unfold Wr_putName_b13_s
  rw [if_pos (Int32.le_refl _)]
end CW
