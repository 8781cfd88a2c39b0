-- the node that has a node as a part: wh; what sizes and these say of each other
def RW (cw : Nat → Int32) (nt : Nat) (sz wh : Nat → Nat) : Prop :=
  cw 0 = -1 ∧ (∀ k, 1 ≤ k → k < nt → cw k = nI (wh k) ∧ wh k < k ∧ k < wh k + sz (wh k)) ∧ (∀ k j, k < j → j < k + sz k → j < nt → k ≤ wh j) ∧ ∀ k, k < nt → k + sz k < nt → wh (k + sz k) < k
section SM
variable {ck cp cv cs cn cw : Nat → Int32} {cc : Int32} {dk dp dv ds dn dw : Nat → Int32} {dc : Int32} {mk mp mv ms mw mc : Nat → Int32} {nt nu : Nat} {sz pn sy py wh wy : Nat → Nat}
theorem same_iff (hs : ∀ k, k < nt → cs k = nI (sz k) ∧ ds k = nI (sy k) ∧ 1 ≤ sz k ∧ k + sz k ≤ nt ∧ 1 ≤ sy k ∧ k + sy k ≤ nt) (hn : nt ≤ 8001) (hw : RW cw nt sz wh) (hw1 : RW dw nt sy wy) : (∀ k, k < nt → cs k = ds k) ↔ ∀ k, k < nt → cw k = dw k := by
  obtain ⟨w0, w1, w2, w3⟩ := hw
  obtain ⟨y0, y1, y2, y3⟩ := hw1
  constructor
  · intro h k hk
    have e : ∀ k, k < nt → sz k = sy k := by
      intro k hk
      have := h k hk
      obtain ⟨a1, a2, a3, a4, a5, a6⟩ := hs k hk
      rw [a1, a2, nI_eq (by omega) (by omega)] at this
      exact this
    rcases Nat.eq_zero_or_pos k with rfl | z
    · rw [w0, y0]
    · obtain ⟨b1, b2, b3⟩ := w1 k z hk
      obtain ⟨c1, c2, c3⟩ := y1 k z hk
      have d1 : wy k ≤ wh k := w2 (wy k) k c2 (by rw [e _ (by omega)]; exact c3) hk
      have d2 : wh k ≤ wy k := y2 (wh k) k b2 (by rw [← e _ (by omega)]; exact b3) hk
      rw [b1, c1, Nat.le_antisymm d2 d1]
  · intro h k hk
    have e : ∀ k, 1 ≤ k → k < nt → wh k = wy k := by
      intro k z hk
      obtain ⟨b1, b2, b3⟩ := w1 k z hk
      obtain ⟨c1, c2, c3⟩ := y1 k z hk
      have := h k hk
      rw [b1, c1, nI_eq (by omega) (by omega)] at this
      exact this
    obtain ⟨a1, a2, a3, a4, a5, a6⟩ := hs k hk
    rw [a1, a2]
    congr 1
    rcases Nat.lt_trichotomy (sz k) (sy k) with q | q | q
    · have h1 := w3 k hk (by omega)
      have h2 := y2 k (k + sz k) (by omega) (by omega) (by omega)
      rw [e _ (by omega) (by omega)] at h1
      omega
    · exact q
    · have h1 := y3 k hk (by omega)
      have h2 := w2 k (k + sy k) (by omega) (by omega) (by omega)
      rw [e _ (by omega) (by omega)] at h2
      omega
theorem c_same (hn : nt ≤ 8001) : ∃ r, Tr_equalsButForPlaces_b15 ck cv cs (nI nt) dk dv ds (nI nt) 0 = some r ∧ ((r = 1 ∧ ∀ j, j < nt → ck j = dk j ∧ cv j = dv j ∧ cs j = ds j) ∨ (r = 0 ∧ ¬ ∀ j, j < nt → ck j = dk j ∧ cv j = dv j ∧ cs j = ds j)) := by
  unfold Tr_equalsButForPlaces_b15
  refine jl_for (body := Tr_equalsButForPlaces_b15_b ck cv cs (nI nt) dk dv ds (nI nt)) (fun k s => s = nI k ∧ ∀ j, j < k → ck j = dk j ∧ cv j = dv j ∧ cs j = ds j) (fun r => (r = 1 ∧ ∀ j, j < nt → ck j = dk j ∧ cv j = dv j ∧ cs j = ds j) ∨ (r = 0 ∧ ¬ ∀ j, j < nt → ck j = dk j ∧ cv j = dv j ∧ cs j = ds j)) nt ?_ ?_ 0 0 (Nat.zero_le _) ⟨rfl, fun j hj => absurd hj (by omega)⟩
  · intro k s hk hI
    obtain ⟨rfl, hI⟩ := hI
    have b1 : ¬ (nI k < 0 ∨ 8001 ≤ (nI k).toNatClampNeg) := nI_in (by omega) (by decide)
    show (∃ s', Tr_equalsButForPlaces_b15_s ck cv cs (nI nt) dk dv ds (nI nt) (nI k) = some (.inl s') ∧ _) ∨ ∃ r, Tr_equalsButForPlaces_b15_s ck cv cs (nI nt) dk dv ds (nI nt) (nI k) = some (.inr r) ∧ _
    unfold Tr_equalsButForPlaces_b15_s
    have bC : ¬ (nI k < 0 ∨ 8001 ≤ k) := nI_inC (show k < 8001 by omega) (by decide)
    rw [if_neg (by rw [nI_leI (by omega) (by omega)]; omega), nI_clamp (by omega)]
    simp only [if_neg bC]
    by_cases h1 : ck k = dk k
    · by_cases h2 : cv k = dv k
      · by_cases h3 : cs k = ds k
        · left
          exact ⟨nI (k + 1), by simp only [if_pos h1, if_pos h2, if_pos h3, nI_1], rfl, lt_s hI ⟨h1, h2, h3⟩⟩
        · right
          exact ⟨0, by simp only [if_pos h1, if_pos h2, if_neg h3, vb0], Or.inr ⟨rfl, fun q => h3 (q k hk).2.2⟩⟩
      · right
        exact ⟨0, by simp only [if_pos h1, if_neg h2, vb0], Or.inr ⟨rfl, fun q => h2 (q k hk).2.1⟩⟩
    · right
      exact ⟨0, by simp only [if_neg h1, vb0], Or.inr ⟨rfl, fun q => h1 (q k hk).1⟩⟩
  · intro s hI
    obtain ⟨rfl, hI⟩ := hI
    refine ⟨1, ?_, Or.inl ⟨rfl, hI⟩⟩
    show Tr_equalsButForPlaces_b15_s ck cv cs (nI nt) dk dv ds (nI nt) (nI nt) = _
    unfold Tr_equalsButForPlaces_b15_s
    rw [if_pos (Int32.le_refl _), vb1]
theorem m_same {P : Nat → Prop} (hn : nt ≤ 8001) (hc : mc 0 = nI nt) (hP : ∀ k, k < nt → (P k ↔ (mk k = mk (9000 + k) ∧ mv k = mv (9000 + k) ∧ mw k = mw (9000 + k)))) : ∃ r, Mo_same_b23 mk mv mw mc 1 0 = some r ∧ ((r = 1 ∧ ∀ j, j < nt → P j) ∨ (r = 0 ∧ ¬ ∀ j, j < nt → P j)) := by
  unfold Mo_same_b23
  have e0 : (0 : Int32).toNatClampNeg = 0 := sb_cl0
  have b0 : ¬ ((0 : Int32) < 0 ∨ 2 ≤ 0) := by decide
  refine jl_for (body := Mo_same_b23_b mk mv mw mc) (fun k s => (s = (1, nI k) ∧ ∀ j, j < k → P j) ∨ (s = (0, nI k) ∧ ¬ ∀ j, j < nt → P j)) (fun r => (r = 1 ∧ ∀ j, j < nt → P j) ∨ (r = 0 ∧ ¬ ∀ j, j < nt → P j)) nt ?_ ?_ 0 (1, 0) (Nat.zero_le _) (Or.inl ⟨rfl, fun j hj => absurd hj (by omega)⟩)
  · intro k s hk hI
    have bC : ¬ (nI k < 0 ∨ 18000 ≤ k) := nI_inC (show k < 18000 by omega) (by decide)
    have bD : ¬ (nI (9000 + k) < 0 ∨ 18000 ≤ 9000 + k) := nI_inC (show 9000 + k < 18000 by omega) (by decide)
    have e9 : (9000 : Int32) + nI k = nI (9000 + k) := nI_add 9000 k
    have e8 : (nI k).toNatClampNeg = k := nI_clamp (by omega)
    have e7 : (nI (9000 + k)).toNatClampNeg = 9000 + k := nI_clamp (by omega)
    have hle : ¬ nI nt ≤ nI k := by rw [nI_leI (by omega) (by omega)]; omega
    rcases hI with ⟨rfl, hI⟩ | ⟨rfl, hI⟩
    · show (∃ s', Mo_same_b23_s mk mv mw mc 1 (nI k) = some (.inl s') ∧ _) ∨ _
      unfold Mo_same_b23_s Mo_same_b98 Mo_same_b99
      simp only [e0, if_neg b0, hc, if_neg hle, if_neg n10, e9, e8, e7, if_neg bC, if_neg bD, nI_1]
      left
      by_cases h : P k
      · obtain ⟨h1, h2, h3⟩ := (hP k hk).mp h
        exact ⟨(1, nI (k + 1)), by simp only [if_pos h1, if_pos h2, if_pos h3], Or.inl ⟨rfl, lt_s hI h⟩⟩
      · refine ⟨(0, nI (k + 1)), ?_, Or.inr ⟨rfl, fun q => h (q k hk)⟩⟩
        by_cases h1 : mk k = mk (9000 + k)
        · by_cases h2 : mv k = mv (9000 + k)
          · have h3 : ¬ mw k = mw (9000 + k) := fun q => h ((hP k hk).mpr ⟨h1, h2, q⟩)
            simp only [if_pos h1, if_pos h2, if_neg h3]
          · simp only [if_pos h1, if_neg h2]
        · simp only [if_neg h1]
    · right
      refine ⟨0, ?_, Or.inr ⟨rfl, hI⟩⟩
      show Mo_same_b23_s mk mv mw mc 0 (nI k) = _
      unfold Mo_same_b23_s
      simp only [e0, if_neg b0, hc, if_neg hle, vb0, if_pos]
  · intro s hI
    rcases hI with ⟨rfl, hI⟩ | ⟨rfl, hI⟩
    · refine ⟨1, ?_, Or.inl ⟨rfl, hI⟩⟩
      show Mo_same_b23_s mk mv mw mc 1 (nI nt) = _
      unfold Mo_same_b23_s
      simp only [e0, if_neg b0, hc, if_pos (Int32.le_refl (nI nt)), vb1]
    · refine ⟨0, ?_, Or.inr ⟨rfl, hI⟩⟩
      show Mo_same_b23_s mk mv mw mc 0 (nI nt) = _
      unfold Mo_same_b23_s
      simp only [e0, if_neg b0, hc, if_pos (Int32.le_refl (nI nt)), vb0]
theorem o_same (h : RT ck cp cv cs cn cw cc mk mp mv ms mw mc 0 nt sz pn) (h1 : RT dk dp dv ds dn dw dc mk mp mv ms mw mc 1 nu sy py) (hw : RW cw nt sz wh) (hw1 : RW dw nu sy wy) : ∃ r, f_TR_same ck cv cs cc dk dv ds dc = some r ∧ f_Mo_same mk mv mw mc = some r := by
  obtain ⟨-, a1, a2, rfl, a3, a4⟩ := h
  obtain ⟨-, b1, b2, rfl, b3, b4⟩ := h1
  have e0 : (0 : Int32).toNatClampNeg = 0 := sb_cl0
  have e1 : (1 : Int32).toNatClampNeg = 1 := by decide
  have g0 : ¬ ((0 : Int32) < 0 ∨ 2 ≤ 0) := by decide
  have g1 : ¬ ((1 : Int32) < 0 ∨ 2 ≤ 1) := by decide
  by_cases hnu : nt = nu
  · subst hnu
    obtain ⟨r, hr, hr2⟩ := c_same (ck := ck) (cv := cv) (cs := cs) (dk := dk) (dv := dv) (ds := ds) (nt := nt) a2
    have key := same_iff (cs := cs) (ds := ds) (nt := nt) (fun k hk => ⟨(a4 k hk).1.2.2.2.2.1, (b4 k hk).1.2.2.2.2.1, (a4 k hk).2.1, (a4 k hk).2.2.1, (b4 k hk).2.1, (b4 k hk).2.2.1⟩) a2 hw hw1
    obtain ⟨r', hr', hr2'⟩ := m_same (mk := mk) (mv := mv) (mw := mw) (mc := mc) (nt := nt) (P := fun k => ck k = dk k ∧ cv k = dv k ∧ cw k = dw k) a2 a3 (by
      intro k hk
      have z1 := (a4 k hk).1
      have z2 := (b4 k hk).1
      simp only [Nat.mul_zero, Nat.zero_add] at z1
      rw [z1.1, z1.2.2.1, z1.2.2.2.1, z2.1, z2.2.2.1, z2.2.2.2.1])
    have hrr : r = r' := by
      rcases hr2 with ⟨p1, p2⟩ | ⟨p1, p2⟩ <;> rcases hr2' with ⟨q1, q2⟩ | ⟨q1, q2⟩
      · rw [p1, q1]
      · exact absurd (fun j hj => ⟨(p2 j hj).1, (p2 j hj).2.1, key.mp (fun k hk => (p2 k hk).2.2) j hj⟩) q2
      · exact absurd (fun j hj => ⟨(q2 j hj).1, (q2 j hj).2.1, key.mpr (fun k hk => (q2 k hk).2.2) j hj⟩) p2
      · rw [p1, q1]
    subst hrr
    have hb : vp_nar .boolean r = r := by
      rcases hr2 with ⟨p1, -⟩ | ⟨p1, -⟩
      · rw [p1, vb1]
      · rw [p1, vb0]
    refine ⟨r, ?_, ?_⟩
    · unfold f_TR_same f_Tr_equalsButForPlaces
      rw [if_pos rfl, hr, jb_some, hb]
    · unfold f_Mo_same Mo_same_b20
      simp only [e0, e1, if_neg g0, if_neg g1, a3, b3, if_pos]
      exact hr'
  · have hne : ¬ nI nt = nI nu := by rw [nI_eq (by omega) (by omega)]; exact hnu
    refine ⟨0, ?_, ?_⟩
    · unfold f_TR_same f_Tr_equalsButForPlaces
      rw [if_neg hne, jb_some, vb0, vb0]
    · unfold f_Mo_same Mo_same_b20 Mo_same_b23
      simp only [e0, e1, if_neg g0, if_neg g1, a3, b3, if_neg hne]
      refine jl_done ?_
      show Mo_same_b23_s mk mv mw mc 0 0 = _
      unfold Mo_same_b23_s
      simp only [e0, if_neg g0, a3, if_neg (show ¬ nI nt ≤ (0 : Int32) from nI_nle (by omega) (by omega)), if_pos, vb0]
end SM
