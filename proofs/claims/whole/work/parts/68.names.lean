-- names: the least one that is spelt so, or a new one
def smN (st sp B : Nat → Nat) (a w k : Nat) : Prop := st (k + 1) - st k = w ∧ ∀ j, j < w → sp (st k + j) = B (a + j)
def smB (st sp B : Nat → Nat) (a w k : Nat) : Bool := decide (st (k + 1) - st k = w) && (List.range w).all (fun j => decide (sp (st k + j) = B (a + j)))
def fdN (st sp B : Nat → Nat) (a w : Nat) : Nat → Nat → Nat
  | 0, k => k
  | n + 1, k => if smB st sp B a w k = true then k else fdN st sp B a w n (k + 1)
def stN (st : Nat → Nat) (nc w : Nat) : Nat → Nat := fun k => if k = nc + 1 then st nc + w else st k
def spN (sp : Nat → Nat) (s0 : Nat) (B : Nat → Nat) (a w : Nat) : Nat → Nat := fun i => if s0 ≤ i ∧ i < s0 + w then B (a + (i - s0)) else sp i
theorem inn_lt {c : Nat} (h : innB c = true) : c < 128 := by
  unfold innB letB digB at h
  simp only [Bool.or_eq_true, decide_eq_true_eq] at h
  omega
/-- a name's bytes -/
def nmOK (B : Nat → Nat) (a w : Nat) : Prop := (∀ j, j < w → innB (B (a + j)) = true) ∧ letB (B a) = true
/-- a table of names -/
def TB (nc : Nat) (st sp : Nat → Nat) : Prop := nc ≤ 4096 ∧ st nc ≤ 12000 ∧ st 0 = 0 ∧ (∀ k, k < nc → st k < st (k + 1)) ∧ ((∀ i, i < st nc → innB (sp i) = true) ∧ ∀ k, k < nc → letB (sp (st k)) = true) ∧ ∀ k j, k < j → j < nc → ¬ smN st sp sp (st k) (st (k + 1) - st k) j
section NM
variable {st sp B : Nat → Nat} {a w nc : Nat}
theorem smB_iff {k : Nat} : smB st sp B a w k = true ↔ smN st sp B a w k := by
  unfold smB smN
  simp only [Bool.and_eq_true, decide_eq_true_eq, List.all_eq_true, List.mem_range]
theorem fdN_le : ∀ n k, fdN st sp B a w n k ≤ k + n ∧ k ≤ fdN st sp B a w n k ∧ (∀ j, k ≤ j → j < fdN st sp B a w n k → ¬ smN st sp B a w j) ∧ (fdN st sp B a w n k < k + n → smN st sp B a w (fdN st sp B a w n k)) := by
  intro n
  induction n with
  | zero => intro k; exact ⟨Nat.le_refl _, Nat.le_refl _, fun j h1 h2 => absurd h2 (by show ¬ j < k; omega), fun h => absurd h (by show ¬ k < k + 0; omega)⟩
  | succ n ih =>
    intro k
    show (if smB st sp B a w k = true then k else fdN st sp B a w n (k + 1)) ≤ _ ∧ _ ≤ (if smB st sp B a w k = true then k else fdN st sp B a w n (k + 1)) ∧ (∀ j, k ≤ j → j < (if smB st sp B a w k = true then k else fdN st sp B a w n (k + 1)) → _) ∧ ((if smB st sp B a w k = true then k else fdN st sp B a w n (k + 1)) < _ → smN st sp B a w (if smB st sp B a w k = true then k else fdN st sp B a w n (k + 1)))
    by_cases q : smB st sp B a w k = true
    · rw [if_pos q]
      exact ⟨by omega, Nat.le_refl _, fun j h1 h2 => absurd h2 (by omega), fun _ => smB_iff.mp q⟩
    · rw [if_neg q]
      obtain ⟨h1, h2, h3, h4⟩ := ih (k + 1)
      refine ⟨by omega, by omega, fun j a1 a2 => ?_, fun h => h4 (by omega)⟩
      by_cases e : j = k
      · subst e; exact fun s => q (smB_iff.mpr s)
      · exact h3 j (by omega) a2
variable {ys mp ml mle mst : Nat → Int32} {i : Nat}
/-- the reference's rows of names -/
def RNr (mle mst : Nat → Int32) (nc : Nat) (st sp : Nat → Nat) : Prop := (∀ k, k ≤ nc → mst k = nI (st k)) ∧ ∀ i, i < st nc → mle i = nI (sp i)
theorem st_le (hT : TB nc st sp) {k : Nat} (hk : k ≤ nc) : st k ≤ st nc := st_mono hT.2.2.2.1 k nc hk (Nat.le_refl _)
theorem m_cmp (hT : TB nc st sp) (hR : RNr mle mst nc st sp) (hi : i < 8001) (hw : ml i = nI w) (hp : mp i = nI a) (haw : a + w ≤ 8000) (hb : ∀ j, j < w → B (a + j) < 256 ∧ ys (a + j) = nI (B (a + j))) (h1 : 1 ≤ w) {k : Nat} (hk : k < nc) : Mo_number_b2_s ys mp ml mle mst (nI nc) (nI i) (nI k) = if smB st sp B a w k = true then some (.inr (nI k, mle, mst, nI nc)) else some (.inl (nI (k + 1))) := by
  have hin := nI_in (c := i) (N := 8001) hi (by omega)
  have hin' := hin
  rw [nI_clamp (by omega)] at hin'
  have hk1 := hT.2.2.2.1 k hk
  have hk2 := st_le hT (show k + 1 ≤ nc by omega)
  have hT1 := hT.1
  have hT2 := hT.2.1
  -- the letters compared
  have run : ∀ f j, w ≤ j + f → j ≤ w → st (k + 1) - st k = w → (∀ j', j' < j → sp (st k + j') = B (a + j')) → jl (Mo_number_b43_b ys mp ml mle mst (nI nc) (nI i) (nI k)) (1, nI j) = if smB st sp B a w k = true then some (.inr (nI k, mle, mst, nI nc)) else some (.inl (nI (k + 1))) := by
    intro f
    induction f with
    | zero =>
      intro j h2 h3 h4 h5
      have ej : j = w := by omega
      subst ej
      rw [if_pos (smB_iff.mpr ⟨h4, h5⟩)]
      refine jl_jm ?_
      show Mo_number_b43_s ys mp ml mle mst (nI nc) (nI i) (nI k) 1 (nI j) = _
      unfold Mo_number_b43_s Mo_number_b101
      rw [if_neg hin, nI_clamp (by omega), hw, if_pos (nI_le (Nat.le_refl _) (by omega)), if_neg (show ¬ (1 : Int32) = 0 by decide)]
    | succ f ih =>
      intro j h2 h3 h4 h5
      by_cases ej : j = w
      · subst ej
        rw [if_pos (smB_iff.mpr ⟨h4, h5⟩)]
        refine jl_jm ?_
        show Mo_number_b43_s ys mp ml mle mst (nI nc) (nI i) (nI k) 1 (nI j) = _
        unfold Mo_number_b43_s Mo_number_b101
        rw [if_neg hin, nI_clamp (by omega), hw, if_pos (nI_le (Nat.le_refl _) (by omega)), if_neg (show ¬ (1 : Int32) = 0 by decide)]
      · have hj : j < w := by omega
        have e1 := hR.1 k (by omega)
        have e2 := hR.2 (st k + j) (by omega)
        have e3 := hb j hj
        have e4 := inn_lt (hT.2.2.2.2.1.1 (st k + j) (by omega))
        have body : Mo_number_b43_b ys mp ml mle mst (nI nc) (nI i) (nI k) (1, nI j) = some (.inl (if sp (st k + j) = B (a + j) then (1 : Int32) else 0, nI (j + 1))) := by
          show Mo_number_b43_s ys mp ml mle mst (nI nc) (nI i) (nI k) 1 (nI j) = _
          unfold Mo_number_b43_s Mo_number_b94
          rw [if_neg hin, nI_clamp (n := i) (by omega), hw, if_neg (nI_ge (by omega) (by omega)), if_neg (show ¬ (1 : Int32) = 0 by decide), if_neg (nI_in (c := k) (N := 6001) (by omega) (by omega)), nI_clamp (n := k) (by omega), e1, nI_add, if_neg (nI_in (c := st k + j) (N := 12000) (by omega) (by omega)), if_neg hin', hp, nI_add, if_neg (nI_in (c := a + j) (N := 8000) (by omega) (by omega)), nI_clamp (n := st k + j) (by omega), nI_clamp (n := a + j) (by omega), e2, e3.2, nI_1]
          by_cases q : sp (st k + j) = B (a + j)
          · rw [if_pos (by rw [q]), if_pos q]
          · rw [if_neg (fun e => q ((nI_eq (by omega) (by omega)).mp e)), if_neg q]
        rw [jl_step body]
        by_cases q : sp (st k + j) = B (a + j)
        · rw [if_pos q]
          exact ih (j + 1) (by omega) (by omega) h4 (fun j' hj' => by
            by_cases e : j' = j
            · rw [e]; exact q
            · exact h5 j' (by omega))
        · rw [if_neg q, if_neg (show ¬ smB st sp B a w k = true from fun s => q ((smB_iff.mp s).2 j hj))]
          refine jl_jm ?_
          show Mo_number_b43_s ys mp ml mle mst (nI nc) (nI i) (nI k) 0 (nI (j + 1)) = _
          unfold Mo_number_b43_s Mo_number_b101
          rw [if_neg hin, nI_clamp (n := i) (by omega), hw, if_pos (show (0 : Int32) = 0 from rfl), if_pos (show (0 : Int32) = 0 from rfl), nI_1]
          by_cases r : nI w ≤ nI (j + 1)
          · rw [if_pos r]
          · rw [if_neg r]
  unfold Mo_number_b2_s Mo_number_b39 Mo_number_b43
  rw [if_neg (show ¬ nI nc ≤ nI k from nI_ge hk (by omega)), nI_1, if_neg (nI_in (c := k + 1) (N := 6001) (by omega) (by omega)), if_neg (nI_in (c := k) (N := 6001) (by omega) (by omega)), if_neg hin, nI_clamp (n := k + 1) (by omega), nI_clamp (n := k) (by omega), nI_clamp (n := i) (by omega), hw, hR.1 (k + 1) (by omega), hR.1 k (by omega), pk_sub (by omega)]
  by_cases q : st (k + 1) - st k = w
  · rw [if_pos (by rw [q])]
    exact run w 0 (by omega) (by omega) q (fun j' hj' => absurd hj' (by omega))
  · rw [if_neg (fun e => q ((nI_eq (by omega) (by omega)).mp e)), if_neg (show ¬ smB st sp B a w k = true from fun s => q (smB_iff.mp s).1)]
    refine jl_jm ?_
    show Mo_number_b43_s ys mp ml mle mst (nI nc) (nI i) (nI k) 0 0 = _
    unfold Mo_number_b43_s Mo_number_b101
    rw [if_neg hin, nI_clamp (n := i) (by omega), hw, if_pos (show (0 : Int32) = 0 from rfl), if_pos (show (0 : Int32) = 0 from rfl), nI_1]
    by_cases r : nI w ≤ 0
    · rw [if_pos r]
    · rw [if_neg r]
theorem m_new (hT : TB nc st sp) (hR : RNr mle mst nc st sp) (hi : i < 8001) (hw : ml i = nI w) (hp : mp i = nI a) (haw : a + w ≤ 8000) (hb : ∀ j, j < w → B (a + j) < 256 ∧ ys (a + j) = nI (B (a + j))) (hr : nc + 1 ≤ 4096 ∧ st nc + w ≤ 12000) : ∃ mle' mst', Mo_number_b115 ys mp ml mle mst (nI nc) (nI i) 0 = some (nI nc, mle', mst', nI (nc + 1)) ∧ RNr mle' mst' (nc + 1) (stN st nc w) (spN sp (st nc) B a w) := by
  have hin := nI_in (c := i) (N := 8001) hi (by omega)
  have hin' := hin
  rw [nI_clamp (by omega)] at hin'
  have e0 := hR.1 nc (Nat.le_refl _)
  have ec : nI nc + 1 - 1 = nI nc := by rw [nI_1]; exact nI_pred nc
  have key : ∀ f j mle1, w ≤ j + f → j ≤ w → (∀ z, z < st nc → mle1 z = nI (sp z)) → (∀ j', j' < j → mle1 (st nc + j') = nI (B (a + j'))) → ∃ mle', jl (Mo_number_b115_b ys mp ml mst (nI nc) (nI i)) (mle1, nI j) = some (nI nc, mle', upd mst (nc + 1) (nI (st nc + w)), nI (nc + 1)) ∧ (∀ z, z < st nc → mle' z = nI (sp z)) ∧ (∀ j', j' < w → mle' (st nc + j') = nI (B (a + j'))) := by
    intro f
    induction f with
    | zero =>
      intro j mle1 h1 h2 h3 h4
      have ej : j = w := by omega
      subst ej
      refine ⟨mle1, jl_done ?_, h3, h4⟩
      show Mo_number_b115_s ys mp ml mst (nI nc) (nI i) mle1 (nI j) = _
      unfold Mo_number_b115_s
      rw [if_neg hin, nI_clamp (n := i) (by omega), hw, if_pos (nI_le (Nat.le_refl _) (by omega)), ec, if_neg (nI_in (c := nc) (N := 6001) (by omega) (by omega)), if_neg hin', nI_1, if_neg (nI_in (c := nc + 1) (N := 6001) (by omega) (by omega)), nI_clamp (n := nc + 1) (by omega), nI_clamp (n := nc) (by omega), e0, nI_add]
    | succ f ih =>
      intro j mle1 h1 h2 h3 h4
      by_cases ej : j = w
      · subst ej
        refine ⟨mle1, jl_done ?_, h3, h4⟩
        show Mo_number_b115_s ys mp ml mst (nI nc) (nI i) mle1 (nI j) = _
        unfold Mo_number_b115_s
        rw [if_neg hin, nI_clamp (n := i) (by omega), hw, if_pos (nI_le (Nat.le_refl _) (by omega)), ec, if_neg (nI_in (c := nc) (N := 6001) (by omega) (by omega)), if_neg hin', nI_1, if_neg (nI_in (c := nc + 1) (N := 6001) (by omega) (by omega)), nI_clamp (n := nc + 1) (by omega), nI_clamp (n := nc) (by omega), e0, nI_add]
      · have hj : j < w := by omega
        have body : Mo_number_b115_b ys mp ml mst (nI nc) (nI i) (mle1, nI j) = some (.inl (upd mle1 (st nc + j) (nI (B (a + j))), nI (j + 1))) := by
          show Mo_number_b115_s ys mp ml mst (nI nc) (nI i) mle1 (nI j) = _
          unfold Mo_number_b115_s
          rw [if_neg hin, nI_clamp (n := i) (by omega), hw, if_neg (nI_ge hj (by omega)), if_neg (nI_in (c := nc) (N := 6001) (by omega) (by omega)), if_neg hin', hp, nI_add, if_neg (nI_in (c := a + j) (N := 8000) (by omega) (by omega)), nI_clamp (n := nc) (by omega), e0, nI_add, if_neg (nI_in (c := st nc + j) (N := 12000) (by omega) (by omega)), nI_clamp (n := st nc + j) (by omega), nI_clamp (n := a + j) (by omega), (hb j hj).2, nI_1]
        obtain ⟨mle', k1, k2, k3⟩ := ih (j + 1) (upd mle1 (st nc + j) (nI (B (a + j)))) (by omega) (by omega) (fun z hz => by rw [pk_un (by omega)]; exact h3 z hz) (fun j' hj' => by
          by_cases e : j' = j
          · subst e; exact pk_us
          · rw [pk_un (by omega)]; exact h4 j' (by omega))
        exact ⟨mle', by rw [jl_step body]; exact k1, k2, k3⟩
  obtain ⟨mle', k1, k2, k3⟩ := key w 0 mle (by omega) (by omega) hR.2 (fun j' hj' => absurd hj' (by omega))
  refine ⟨mle', upd mst (nc + 1) (nI (st nc + w)), k1, fun k hk => ?_, fun z hz => ?_⟩
  · by_cases e : k = nc + 1
    · subst e
      show upd mst (nc + 1) _ (nc + 1) = nI (if nc + 1 = nc + 1 then st nc + w else _)
      rw [if_pos rfl]; exact pk_us
    · show upd mst (nc + 1) _ k = nI (if k = nc + 1 then st nc + w else st k)
      rw [if_neg e, pk_un e]; exact hR.1 k (by omega)
  · have hz' : z < st nc + w := by have : stN st nc w (nc + 1) = st nc + w := if_pos rfl; omega
    show mle' z = nI (if st nc ≤ z ∧ z < st nc + w then B (a + (z - st nc)) else sp z)
    by_cases e : z < st nc
    · rw [if_neg (by omega)]; exact k2 z e
    · rw [if_pos (by omega), ← k3 (z - st nc) (by omega), show st nc + (z - st nc) = z by omega]
end NM
