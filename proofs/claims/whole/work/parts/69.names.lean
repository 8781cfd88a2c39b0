-- a name's number, on both sides
def hvE (B : Nat → Nat) (a : Nat) : Nat → Int32
  | 0 => 0
  | w + 1 => 31 * hvE B a w + nI (B (a + w))
def bkE (B : Nat → Nat) (a w : Nat) : Nat := (hvE B a w).toBitVec.toNat % 1024
def lsE (st sp : Nat → Nat) (h : Nat) : Nat → Nat
  | 0 => 0
  | n + 1 => if bkE sp (st n) (st (n + 1) - st n) = h then n + 1 else lsE st sp h n
def nmC (st sp B : Nat → Nat) (a w nc : Nat) : Nat := if fdN st sp B a w nc 0 < nc then nc else nc + 1
def nmS (st sp B : Nat → Nat) (a w nc : Nat) : Nat → Nat := if fdN st sp B a w nc 0 < nc then st else stN st nc w
def nmP (st sp B : Nat → Nat) (a w nc : Nat) : Nat → Nat := if fdN st sp B a w nc 0 < nc then sp else spN sp (st nc) B a w
section NN
variable {st sp B : Nat → Nat} {a w nc : Nat} {ys mp ml mle mst : Nat → Int32} {i : Nat}
theorem m_number (hT : TB nc st sp) (hR : RNr mle mst nc st sp) (hi : i < 8001) (hw : ml i = nI w) (hp : mp i = nI a) (haw : a + w ≤ 8000) (hb : ∀ j, j < w → B (a + j) < 256 ∧ ys (a + j) = nI (B (a + j))) (h1 : 1 ≤ w) (hr : fdN st sp B a w nc 0 < nc ∨ (nc + 1 ≤ 4096 ∧ st nc + w ≤ 12000)) : ∃ mle' mst', f_Mo_number ys mp ml mle mst (nI nc) (nI i) = some (nI (fdN st sp B a w nc 0), mle', mst', nI (nmC st sp B a w nc)) ∧ RNr mle' mst' (nmC st sp B a w nc) (nmS st sp B a w nc) (nmP st sp B a w nc) := by
  have hT1 := hT.1
  have find : ∀ n k, k + n = nc → jl (Mo_number_b2_b ys mp ml mle mst (nI nc) (nI i)) (nI k) = if fdN st sp B a w n k < nc then some (nI (fdN st sp B a w n k), mle, mst, nI nc) else Mo_number_b115 ys mp ml mle mst (nI nc) (nI i) 0 := by
    intro n
    induction n with
    | zero =>
      intro k hk
      rw [if_neg (show ¬ fdN st sp B a w 0 k < nc by show ¬ k < nc; omega)]
      refine jl_jm ?_
      show Mo_number_b2_s ys mp ml mle mst (nI nc) (nI i) (nI k) = _
      unfold Mo_number_b2_s
      rw [if_pos (nI_le (by omega) (by omega))]
    | succ n ih =>
      intro k hk
      have body := m_cmp hT hR hi hw hp haw hb h1 (show k < nc by omega)
      show jl (Mo_number_b2_b ys mp ml mle mst (nI nc) (nI i)) (nI k) = if (if smB st sp B a w k = true then k else fdN st sp B a w n (k + 1)) < nc then some (nI (if smB st sp B a w k = true then k else fdN st sp B a w n (k + 1)), mle, mst, nI nc) else _
      by_cases q : smB st sp B a w k = true
      · rw [if_pos q] at body
        rw [if_pos q, if_pos (by omega)]
        exact jl_done body
      · rw [if_neg q] at body
        rw [if_neg q]
        exact (jl_step body).trans (ih (k + 1) (by omega))
  have f := find nc 0 (by omega)
  unfold nmC nmS nmP
  by_cases q : fdN st sp B a w nc 0 < nc
  · rw [if_pos q] at f
    refine ⟨mle, mst, ?_, ?_⟩
    · rw [if_pos q]; exact f
    · rw [if_pos q, if_pos q, if_pos q]; exact hR
  · rw [if_neg q] at f
    obtain ⟨mle', mst', g1, g2⟩ := m_new hT hR hi hw hp haw hb (hr.resolve_left q)
    have e : fdN st sp B a w nc 0 = nc := by have := (fdN_le (st := st) (sp := sp) (B := B) (a := a) (w := w) nc 0).1; omega
    refine ⟨mle', mst', ?_, ?_⟩
    · rw [if_neg q, e]; exact f.trans g1
    · rw [if_neg q, if_neg q, if_neg q]; exact g2
theorem TB_new (hT : TB nc st sp) (h1 : 1 ≤ w) (hb : nmOK B a w) (hr : nc + 1 ≤ 4096 ∧ st nc + w ≤ 12000) (hn : ¬ fdN st sp B a w nc 0 < nc) : TB (nc + 1) (stN st nc w) (spN sp (st nc) B a w) := by
  obtain ⟨t1, t2, t3, t4, t5, t6⟩ := hT
  have no : ∀ k, k < nc → ¬ smN st sp B a w k := by
    obtain ⟨f1, f2, f3, f4⟩ := fdN_le (st := st) (sp := sp) (B := B) (a := a) (w := w) nc 0
    exact fun k hk => f3 k (Nat.zero_le _) (by omega)
  have e1 : ∀ k, k ≤ nc → stN st nc w k = st k := fun k hk => if_neg (by omega)
  have e2 : stN st nc w (nc + 1) = st nc + w := if_pos rfl
  have e3 : ∀ z, z < st nc → spN sp (st nc) B a w z = sp z := fun z hz => if_neg (by omega)
  have e4 : ∀ j, j < w → spN sp (st nc) B a w (st nc + j) = B (a + j) := fun j hj => by
    show (if st nc ≤ st nc + j ∧ st nc + j < st nc + w then B (a + (st nc + j - st nc)) else _) = _
    rw [if_pos (by omega), show st nc + j - st nc = j by omega]
  have mono : ∀ k, k ≤ nc → st k ≤ st nc := fun k hk => st_mono t4 k nc hk (Nat.le_refl _)
  refine ⟨hr.1, by rw [e2]; exact hr.2, by rw [e1 0 (Nat.zero_le _)]; exact t3, fun k hk => ?_, ⟨fun z hz => ?_, fun k hk => ?_⟩, fun k j hk hj => ?_⟩
  · by_cases q : k = nc
    · subst q; rw [e1 k (Nat.le_refl _), e2]; omega
    · rw [e1 k (by omega), e1 (k + 1) (by omega)]; exact t4 k (by omega)
  · rw [e2] at hz
    by_cases q : z < st nc
    · rw [e3 z q]; exact t5.1 z q
    · have := hb.1 (z - st nc) (by omega)
      rw [show z = st nc + (z - st nc) by omega, e4 _ (by omega)]
      exact this
  · by_cases q : k = nc
    · subst q
      rw [e1 k (Nat.le_refl _)]
      have := e4 0 (by omega)
      rw [Nat.add_zero, Nat.add_zero] at this
      rw [this]; exact hb.2
    · have mk := mono (k + 1) (by omega)
      have sk := t4 k (by omega)
      rw [e1 k (by omega), e3 _ (by omega)]; exact t5.2 k (by omega)
  · have mk := mono (k + 1) (by omega)
    have sk := t4 k (by omega)
    intro s
    obtain ⟨s1, s2⟩ := s
    rw [e1 k (by omega), e1 (k + 1) (by omega)] at s1 s2
    by_cases q : j = nc
    · subst q
      rw [e2, e1 j (Nat.le_refl _)] at s1
      refine no k (by omega) ⟨by omega, fun x hx => ?_⟩
      have := s2 x (by omega)
      rw [e1 j (Nat.le_refl _), e4 x hx, e3 _ (by omega)] at this
      exact this.symm
    · have mj := mono (j + 1) (by omega)
      have sj := t4 j (by omega)
      rw [e1 j (by omega), e1 (j + 1) (by omega)] at s1
      refine t6 k j hk (by omega) ⟨s1, fun x hx => ?_⟩
      have := s2 x hx
      rw [e1 j (by omega), e3 _ (by omega), e3 _ (by omega)] at this
      exact this
theorem TB_nm (hT : TB nc st sp) (h1 : 1 ≤ w) (hb : nmOK B a w) (hr : fdN st sp B a w nc 0 < nc ∨ (nc + 1 ≤ 4096 ∧ st nc + w ≤ 12000)) : TB (nmC st sp B a w nc) (nmS st sp B a w nc) (nmP st sp B a w nc) := by
  unfold nmC nmS nmP
  by_cases q : fdN st sp B a w nc 0 < nc
  · rw [if_pos q, if_pos q, if_pos q]; exact hT
  · rw [if_neg q, if_neg q, if_neg q]; exact TB_new hT h1 hb (hr.resolve_left q) q
-- the class
variable {row csp cst nw ol : Nat → Int32} {len : Int32} {n : Nat}
theorem hv_eq {B' : Nat → Nat} {a' : Nat} : ∀ w, (∀ j, j < w → B' (a' + j) = B (a + j)) → hvE B' a' w = hvE B a w := by
  intro w
  induction w with
  | zero => intro _; rfl
  | succ w ih =>
    intro h
    show 31 * hvE B' a' w + nI (B' (a' + w)) = 31 * hvE B a w + nI (B (a + w))
    rw [ih (fun j hj => h j (by omega)), h w (by omega)]
theorem c_bucket (h : RB row len B n) (hn : a + w ≤ n) : f_Na_bucketOf row len (nI a) (nI w) = some (nI (bkE B a w)) := by
  have hb := h.1
  have key : ∀ f j, w = j + f → jl (Na_bucketOf_b5_b row len (nI a) (nI w)) (hvE B a j, nI j) = some (nI (bkE B a w)) := by
    intro f
    induction f with
    | zero =>
      intro j hj
      have ej : j = w := by omega
      subst ej
      apply jl_done
      show Na_bucketOf_b5_s row len (nI a) (nI j) (hvE B a j) (nI j) = _
      unfold Na_bucketOf_b5_s
      rw [if_pos (nI_le (Nat.le_refl _) (by omega)), pk_and (hvE B a j) (m := 1023) 10 (by decide)]
      rfl
    | succ f ih =>
      intro j hj
      have body : Na_bucketOf_b5_b row len (nI a) (nI w) (hvE B a j, nI j) = some (.inl (hvE B a (j + 1), nI (j + 1))) := by
        show Na_bucketOf_b5_s row len (nI a) (nI w) (hvE B a j) (nI j) = _
        unfold Na_bucketOf_b5_s
        rw [if_neg (nI_ge (by omega) (by omega)), nI_add, p_at h (show a + j < n by omega), jb_some, nI_1]
        rfl
      rw [jl_step body]
      exact ih (j + 1) (by omega)
  exact key w 0 (by omega)
/-- the class's rows of names -/
def RNc (csp cst nw ol : Nat → Int32) (nc : Nat) (st sp : Nat → Nat) : Prop := (∀ k, k ≤ nc → cst k = nI (st k)) ∧ (∀ i, i < st nc → csp i = nI (sp i)) ∧ (∀ h, h < 1024 → nw h = nI (lsE st sp h nc)) ∧ ∀ k, k < nc → ol k = nI (lsE st sp (bkE sp (st k) (st (k + 1) - st k)) k)
theorem ls_le (h : Nat) : ∀ n, lsE st sp h n ≤ n := by
  intro n
  induction n with
  | zero => exact Nat.le_refl _
  | succ n ih =>
    show (if bkE sp (st n) (st (n + 1) - st n) = h then n + 1 else lsE st sp h n) ≤ n + 1
    split
    · exact Nat.le_refl _
    · omega
theorem ls_at (h : Nat) : ∀ n, (∀ k, lsE st sp h n = k + 1 → bkE sp (st k) (st (k + 1) - st k) = h) ∧ ∀ j, lsE st sp h n ≤ j → j < n → ¬ bkE sp (st j) (st (j + 1) - st j) = h := by
  intro n
  induction n with
  | zero => exact ⟨fun k e => absurd e (by show ¬ 0 = k + 1; omega), fun j _ hj => absurd hj (by omega)⟩
  | succ n ih =>
    show (∀ k, (if bkE sp (st n) (st (n + 1) - st n) = h then n + 1 else lsE st sp h n) = k + 1 → _) ∧ ∀ j, (if bkE sp (st n) (st (n + 1) - st n) = h then n + 1 else lsE st sp h n) ≤ j → _
    by_cases q : bkE sp (st n) (st (n + 1) - st n) = h
    · rw [if_pos q]
      refine ⟨fun k e => ?_, fun j h1 h2 => absurd h2 (by omega)⟩
      have : k = n := by omega
      subst this
      exact q
    · rw [if_neg q]
      refine ⟨ih.1, fun j h1 h2 => ?_⟩
      by_cases e : j = n
      · subst e; exact q
      · exact ih.2 j h1 (by omega)
end NN
