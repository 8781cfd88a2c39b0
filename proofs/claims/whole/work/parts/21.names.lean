-- the names: nc of them, name k spelt by the bytes st k .. st (k + 1) of sp
def RN (csp cst : Nat → Int32) (cc : Int32) (mle mst : Nat → Int32) (mn : Int32) (nc : Nat) (st sp : Nat → Nat) : Prop :=
  nc ≤ 4096 ∧ st nc ≤ 12000 ∧ st 0 = 0 ∧ cc = nI nc ∧ mn = nI nc ∧ (∀ k, k < nc → st k < st (k + 1)) ∧ (∀ k, k ≤ nc → cst k = nI (st k) ∧ mst k = nI (st k)) ∧ ∀ i, i < st nc → sp i < 128 ∧ csp i = nI (sp i) ∧ mle i = nI (sp i)
theorem st_mono {st : Nat → Nat} {nc : Nat} (h : ∀ k, k < nc → st k < st (k + 1)) : ∀ a b, a ≤ b → b ≤ nc → st a ≤ st b := by
  intro a b hab hb
  obtain ⟨d, rfl⟩ : ∃ d, b = a + d := ⟨b - a, by omega⟩
  induction d with
  | zero => exact Nat.le_refl _
  | succ d ih =>
    have h1 := ih (by omega) (by omega)
    have h2 := h (a + d) (by omega)
    exact Nat.le_trans h1 (Nat.le_of_lt h2)
theorem p_lengthOf {cst : Nat → Int32} {nc k : Nat} {st : Nat → Nat} (hc : nc ≤ 4096) (hs : st nc ≤ 12000) (hm : ∀ k, k < nc → st k < st (k + 1)) (hst : ∀ k, k ≤ nc → cst k = nI (st k)) (hk : k < nc) : f_Na_lengthOf cst (nI nc) (nI k) = some (nI (st (k + 1) - st k)) := by
  have h1 := hm k hk
  have h2 := st_mono hm (k + 1) nc hk (Nat.le_refl _)
  unfold f_Na_lengthOf
  rw [if_neg (nI_pos (by omega)), if_neg (by rw [nI_leI (by omega) (by omega)]; omega), nI_1, if_neg (nI_in (show k + 1 < 4097 by omega) (by decide)), if_neg (nI_in (show k < 4097 by omega) (by decide)), nI_clamp (by omega), nI_clamp (by omega), hst _ (by omega), hst _ (by omega), pk_sub (by omega)]
theorem p_lengthOf_out {cst : Nat → Int32} {nc : Nat} {x : Int32} (h : x < 0 ∨ nI nc ≤ x) : f_Na_lengthOf cst (nI nc) x = some 0 := by
  unfold f_Na_lengthOf Na_lengthOf_b30
  by_cases z : x < 0
  · rw [if_pos z]
  · rw [if_neg z, if_pos (h.resolve_left z)]
theorem p_byteOf {csp cst mle mst : Nat → Int32} {cc mn : Int32} {nc : Nat} {st sp : Nat → Nat} (h : RN csp cst cc mle mst mn nc st sp) {k j : Nat} (hk : k < nc) (hj : j < st (k + 1) - st k) : f_Na_byteOf csp cst cc (nI k) (nI j) = some (nI (sp (st k + j))) := by
  obtain ⟨h1, h2, h0, rfl, rfl, h3, h4, h5⟩ := h
  have h6 := st_mono h3 (k + 1) nc hk (Nat.le_refl _)
  have h7 := h3 k hk
  unfold f_Na_byteOf
  rw [if_neg (nI_pos (by omega)), p_lengthOf h1 h2 h3 (fun k hk => (h4 k hk).1) hk, jb_some, if_neg (by rw [nI_leI (by omega) (by omega)]; omega), if_neg (nI_in (show k < 4097 by omega) (by decide)), nI_clamp (by omega), (h4 k (by omega)).1, nI_add, if_neg (nI_in (show st k + j < 12288 by omega) (by decide)), nI_clamp (by omega), (h5 _ (by omega)).2.1]
theorem p_spelt {csp cst mle mst : Nat → Int32} {cc mn : Int32} {nc : Nat} {st sp : Nat → Nat} (h : RN csp cst cc mle mst mn nc st sp) (a i : Int32) : ∃ r, f_TR_spelt csp cst cc a i = some r ∧ f_Mo_spelt mle mst mn a i = some r := by
  have h' := h
  obtain ⟨h1, h2, h0, rfl, rfl, h3, h4, h5⟩ := h
  by_cases zi : i < 0
  · refine ⟨-1, ?_, ?_⟩
    · unfold f_TR_spelt f_Na_byteOf Na_byteOf_b29; rw [if_pos zi, jb_some]
    · unfold f_Mo_spelt Mo_spelt_b35
      by_cases za : a < 0
      · rw [if_pos za]
      · rw [if_neg za]
        by_cases zb : nI nc ≤ a
        · rw [if_pos zb]
        · rw [if_neg zb, if_pos zi]
  · rcases pk_ix a (n := nc) (by omega) with q | q | ⟨k, hk, rfl⟩
    · refine ⟨-1, ?_, ?_⟩
      · unfold f_TR_spelt f_Na_byteOf Na_byteOf_b29
        rw [if_neg zi, p_lengthOf_out (Or.inl q), jb_some, if_pos (Int32.not_lt.mp zi), jb_some]
      · unfold f_Mo_spelt Mo_spelt_b35; rw [if_pos q]
    · refine ⟨-1, ?_, ?_⟩
      · unfold f_TR_spelt f_Na_byteOf Na_byteOf_b29
        rw [if_neg zi, p_lengthOf_out (Or.inr q), jb_some, if_pos (Int32.not_lt.mp zi), jb_some]
      · unfold f_Mo_spelt Mo_spelt_b35
        by_cases za : a < 0
        · rw [if_pos za]
        · rw [if_neg za, if_pos q]
    · have h6 := st_mono h3 (k + 1) nc hk (Nat.le_refl _)
      have h7 := h3 k hk
      rcases pk_ix i (n := st (k + 1) - st k) (by omega) with q | q | ⟨j, hj, rfl⟩
      · exact absurd q zi
      · refine ⟨-1, ?_, ?_⟩
        · unfold f_TR_spelt f_Na_byteOf Na_byteOf_b29
          rw [if_neg zi, p_lengthOf h1 h2 h3 (fun k hk => (h4 k hk).1) hk, jb_some, if_pos q, jb_some]
        · unfold f_Mo_spelt Mo_spelt_b35
          rw [if_neg (nI_pos (by omega)), if_neg (by rw [nI_leI (by omega) (by omega)]; omega), if_neg zi, nI_1, if_neg (nI_in (show k + 1 < 6001 by omega) (by decide)), if_neg (nI_in (show k < 6001 by omega) (by decide)), nI_clamp (by omega), nI_clamp (by omega), (h4 _ (by omega)).2, (h4 k (by omega)).2, pk_sub (by omega), if_neg (Int32.not_lt.mpr q)]
      · refine ⟨nI (sp (st k + j)), ?_, ?_⟩
        · unfold f_TR_spelt; rw [p_byteOf h' hk hj, jb_some]
        · unfold f_Mo_spelt
          rw [if_neg (nI_pos (by omega)), if_neg (by rw [nI_leI (by omega) (by omega)]; omega), if_neg zi, nI_1, if_neg (nI_in (show k + 1 < 6001 by omega) (by decide)), if_neg (nI_in (show k < 6001 by omega) (by decide)), nI_clamp (by omega), nI_clamp (by omega), (h4 _ (by omega)).2, (h4 k (by omega)).2, pk_sub (by omega), if_pos (by rw [nI_ltI (by omega) (by omega)]; exact hj), if_neg (nI_inC (show k < 6001 by omega) (by decide)), nI_add, if_neg (nI_in (show st k + j < 12000 by omega) (by decide)), nI_clamp (by omega), (h5 _ (by omega)).2.2]
