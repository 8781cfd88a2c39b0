section MW
variable {bytes : Nat → Int32} {size : Int32} {B : Nat → Nat} {n : Nat}
theorem m_sortP (h : RM bytes size B n) {p w : Nat} (hp : p + w ≤ n) : Mo_wordOf_b2_s bytes (nI p) (nI w) (nI 11) = some (.inr (if (soE B p w).isSome = true then (3 : Int32) else 2)) := by
  have hn := h.1
  unfold Mo_wordOf_b2_s
  have s36 : spB B p w 36 = spB B p w 0 := Bool.eq_iff_iff.mpr (spB_iff.trans (sp36.1.trans spB_iff.symm))
  have s37 : spB B p w 37 = spB B p w 1 := Bool.eq_iff_iff.mpr (spB_iff.trans (sp36.2.trans spB_iff.symm))
  have s374 : spB B p 4 37 = spB B p 4 1 := Bool.eq_iff_iff.mpr (spB_iff.trans (sp36.2.trans spB_iff.symm))
  rw [if_pos (show (11 : Int32) ≤ nI 11 by decide), m_spellsB h hp (by decide), jb_some, m_spellsB h hp (by decide), jb_some, s36, s37]
  unfold soE
  by_cases z0 : spB B p w 0 = true
  · simp only [if_pos z0, if_neg n10, Option.isSome_some, if_true]
  · simp only [if_neg z0, if_true]
    by_cases z1 : spB B p w 1 = true
    · have hw : w = 4 := (spB_iff.mp z1).1.trans jw_prop.2.1
      have z4 : spB B p 4 1 = true := by rw [← hw]; exact z1
      simp only [if_pos z1, if_neg n10, if_pos z4, if_pos hw, Option.isSome_some, if_true]
    · simp only [if_neg z1, if_true]
      have w4 : (nI w ≤ (4 : Int32)) = (w ≤ 4) := propext (nI_leI (b := 4) (by omega) (by decide))
      have e5 : (nI w = (5 : Int32)) = (w = 5) := propext (nI_eq (b := 5) (by omega) (by decide))
      have e6 : (nI w = (6 : Int32)) = (w = 6) := propext (nI_eq (b := 6) (by omega) (by decide))
      have no : Mo_wordOf_b81 bytes (nI p) (nI w) = some 2 := by
        unfold Mo_wordOf_b81 Mo_wordOf_b82 Mo_wordOf_b110 Mo_wordOf_b111 Mo_wordOf_b168 Mo_wordOf_b169
        simp only [if_true]
      simp only [w4, no]
      by_cases h4 : w ≤ 4
      · simp only [if_pos h4]
        have key : (if spB B p 4 1 = true then (if w = 4 then some 1 else if w = 5 then (if digB (B (p + 4)) = true then some (1 + (B (p + 4) - 48)) else none) else if w = 6 then (if digB (B (p + 4)) = true ∧ ¬ B (p + 4) = 48 ∧ digB (B (p + 5)) = true then some (1 + 10 * (B (p + 4) - 48) + (B (p + 5) - 48)) else none) else none) else none : Option Nat) = none := by
          have a2 : ¬ w = 5 := by omega
          have a3 : ¬ w = 6 := by omega
          by_cases zt : spB B p 4 1 = true
          · have a1 : ¬ w = 4 := fun q => z1 (by rw [q]; exact zt)
            simp only [if_pos zt, if_neg a1, if_neg a2, if_neg a3]
          · simp only [if_neg zt]
        rw [key]
        rfl
      · simp only [if_neg h4]
        have t4 : f_Mo_spells bytes (nI p) (4 : Int32) 37 = some (if spB B p 4 37 = true then 1 else 0) := m_spellsB (w := 4) h (by omega) (by decide)
        rw [t4, jb_some, s374]
        have a1 : ¬ w = 4 := by omega
        by_cases zt : spB B p 4 1 = true
        · simp only [if_pos zt, if_neg n10, if_neg a1]
          unfold Mo_wordOf_b82 Mo_wordOf_b110 Mo_wordOf_b111 Mo_wordOf_b168 Mo_wordOf_b169 Mo_wordOf_b181
          have d1 : nI p + (4 : Int32) = nI (p + 4) := nI_add p 4
          have d2 : nI p + (5 : Int32) = nI (p + 5) := nI_add p 5
          have q4 := h.2.2 (p + 4) (by omega)
          have b4 : ¬ (nI (p + 4) < 0 ∨ 8000 ≤ p + 4) := nI_inC (by omega) (by decide)
          have c4 : (nI (p + 4)).toNatClampNeg = p + 4 := nI_clamp (by omega)
          have m48 : (nI (B (p + 4)) = (48 : Int32)) = (B (p + 4) = 48) := propext (nI_eq (b := 48) (by omega) (by decide))
          simp only [if_neg n10, e5, e6, d1, d2, c4, if_neg b4, q4.2, m_isDigit _ q4.1, jb_some, m48, if_true]
          by_cases k5 : w = 5
          · have k6 : ¬ w = 6 := by omega
            by_cases g : digB (B (p + 4)) = true
            · simp only [if_pos k5, if_neg k6, if_pos g, if_neg n10, Option.isSome_some, if_true]
              rfl
            · simp only [if_pos k5, if_neg k6, if_neg g, if_true]
              rfl
          · by_cases k6 : w = 6
            · have q5 := h.2.2 (p + 5) (by omega)
              have b5 : ¬ (nI (p + 5) < 0 ∨ 8000 ≤ p + 5) := nI_inC (by omega) (by decide)
              have c5 : (nI (p + 5)).toNatClampNeg = p + 5 := nI_clamp (by omega)
              simp only [if_neg k5, if_pos k6, c5, if_neg b5, q5.2, m_isDigit _ q5.1, jb_some]
              by_cases g : digB (B (p + 4)) = true
              · by_cases g0 : B (p + 4) = 48
                · have y2 : ¬ (digB (B (p + 4)) = true ∧ ¬ B (p + 4) = 48 ∧ digB (B (p + 5)) = true) := fun q => q.2.1 g0
                  simp only [if_pos g, if_neg n10, if_pos g0, if_neg y2, if_true]
                  rfl
                · by_cases g5 : digB (B (p + 5)) = true
                  · have y2 : digB (B (p + 4)) = true ∧ ¬ B (p + 4) = 48 ∧ digB (B (p + 5)) = true := ⟨g, g0, g5⟩
                    simp only [if_pos g, if_neg n10, if_neg g0, if_pos g5, if_pos y2, Option.isSome_some, if_true]
                    rfl
                  · have y2 : ¬ (digB (B (p + 4)) = true ∧ ¬ B (p + 4) = 48 ∧ digB (B (p + 5)) = true) := fun q => g5 q.2.2
                    simp only [if_pos g, if_neg n10, if_neg g0, if_neg g5, if_neg y2, if_true]
                    rfl
              · have y2 : ¬ (digB (B (p + 4)) = true ∧ ¬ B (p + 4) = 48 ∧ digB (B (p + 5)) = true) := fun q => g q.1
                simp only [if_neg g, if_neg y2, if_true]
                rfl
            · simp only [if_neg k5, if_neg k6]
              rfl
        · simp only [if_neg zt, if_true]
          rfl
end MW
