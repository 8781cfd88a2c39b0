section SO
variable {row : Nat → Int32} {len : Int32} {bytes : Nat → Int32} {size : Int32} {B : Nat → Nat} {n : Nat}
theorem digB_iff {c : Nat} : digB c = true ↔ 48 ≤ c ∧ c ≤ 57 := by unfold digB; exact decide_eq_true_iff
theorem c_digit (h : RB row len B n) {i : Nat} (hi : i < n) : f_Tk_digitAt row len (nI i) = some (if digB (B i) = true then nI (B i - 48) else -1) := by
  have q := (h.2.2 i hi).1
  unfold f_Tk_digitAt
  rw [p_at h hi, jb_some, c_isDigit _ q, jb_some]
  by_cases z : digB (B i) = true
  · have := digB_iff.mp z
    simp only [if_pos z, if_neg n10]
    rw [show (48 : Int32) = nI 48 from rfl, pk_sub (by omega)]
  · simp only [if_neg z, if_true]
theorem ne_m1 {a : Nat} (h : a < 2 ^ 31) : ¬ nI a = (-1 : Int32) := fun q => nI_pos h (by rw [q]; decide)
theorem c_sortAt (h : RB row len B n) {p w : Nat} (hp : p + w ≤ n) : f_Tk_sortAt row len (nI p) (nI w) = some (match soE B p w with | some v => nI v | none => -1) := by
  have hn := h.1
  unfold f_Tk_sortAt Tk_sortAt_b89 soE
  rw [c_isWordB h hp (by decide), jb_some]
  by_cases z0 : spB B p w 0 = true
  · simp only [if_pos z0, if_neg n10]; rfl
  · simp only [if_neg z0, if_true]
    have w4 : (nI w < (4 : Int32)) = (w < 4) := propext (nI_ltI (b := 4) (by omega) (by decide))
    have w6 : ((6 : Int32) < nI w) = (6 < w) := propext (nI_ltI (a := 6) (by decide) (by omega))
    have e4 : (nI w = (4 : Int32)) = (w = 4) := propext (nI_eq (b := 4) (by omega) (by decide))
    have e5 : (nI w = (5 : Int32)) = (w = 5) := propext (nI_eq (b := 5) (by omega) (by decide))
    simp only [w4, w6, e4, e5]
    by_cases h4 : w < 4
    · simp only [if_pos h4]
      have a1 : ¬ w = 4 := by omega
      have a2 : ¬ w = 5 := by omega
      have a3 : ¬ w = 6 := by omega
      simp only [if_neg a1, if_neg a2, if_neg a3]
      by_cases zt : spB B p 4 1 = true
      · simp only [if_pos zt]
      · simp only [if_neg zt]
    · simp only [if_neg h4]
      by_cases h6 : 6 < w
      · simp only [if_pos h6]
        have a1 : ¬ w = 4 := by omega
        have a2 : ¬ w = 5 := by omega
        have a3 : ¬ w = 6 := by omega
        simp only [if_neg a1, if_neg a2, if_neg a3]
        by_cases zt : spB B p 4 1 = true
        · simp only [if_pos zt]
        · simp only [if_neg zt]
      · simp only [if_neg h6]
        have t4 : f_Tk_isWord row len (nI p) (4 : Int32) 1 = some (if spB B p 4 1 = true then 1 else 0) := c_isWordB (w := 4) h (by omega) (by decide)
        rw [t4, jb_some]
        by_cases zt : spB B p 4 1 = true
        · simp only [if_pos zt, if_neg n10]
          by_cases k4 : w = 4
          · simp only [if_pos k4]; rfl
          · simp only [if_neg k4]
            have d1 : nI p + (4 : Int32) = nI (p + 4) := nI_add p 4
            have q4 := (h.2.2 (p + 4) (by omega)).1
            rw [d1, c_digit h (show p + 4 < n by omega), jb_some]
            by_cases k5 : w = 5
            · simp only [if_pos k5]
              by_cases g : digB (B (p + 4)) = true
              · have := digB_iff.mp g
                simp only [if_pos g, if_neg (ne_m1 (show B (p + 4) - 48 < 2 ^ 31 by omega))]
                rw [show (1 : Int32) = nI 1 from rfl, nI_add]
              · simp only [if_neg g, if_true]
            · have k6 : w = 6 := by omega
              simp only [if_neg k5, if_pos k6]
              have d2 : nI p + (5 : Int32) = nI (p + 5) := nI_add p 5
              have q5 := (h.2.2 (p + 5) (by omega)).1
              rw [d2, c_digit h (show p + 5 < n by omega), jb_some]
              by_cases g : digB (B (p + 4)) = true
              · have g' := digB_iff.mp g
                simp only [if_pos g]
                by_cases g0 : B (p + 4) = 48
                · have y : nI (B (p + 4) - 48) ≤ (0 : Int32) := by rw [g0]; decide
                  have y2 : ¬ (digB (B (p + 4)) = true ∧ ¬ B (p + 4) = 48 ∧ digB (B (p + 5)) = true) := fun q => q.2.1 g0
                  simp only [if_pos y, if_neg y2]
                · have y : ¬ nI (B (p + 4) - 48) ≤ (0 : Int32) := nI_nle (by omega) (by omega)
                  simp only [if_neg y]
                  by_cases g5 : digB (B (p + 5)) = true
                  · have g5' := digB_iff.mp g5
                    have y2 : digB (B (p + 4)) = true ∧ ¬ B (p + 4) = 48 ∧ digB (B (p + 5)) = true := ⟨g, g0, g5⟩
                    simp only [if_pos g5, if_pos y2, if_neg (ne_m1 (show B (p + 5) - 48 < 2 ^ 31 by omega))]
                    rw [show (1 : Int32) = nI 1 from rfl, show (10 : Int32) = nI 10 from rfl, pk_mul, nI_add, nI_add]
                  · have y2 : ¬ (digB (B (p + 4)) = true ∧ ¬ B (p + 4) = 48 ∧ digB (B (p + 5)) = true) := fun q => g5 q.2.2
                    simp only [if_neg g5, if_neg y2, if_true]
              · have y : (-1 : Int32) ≤ 0 := by decide
                have y2 : ¬ (digB (B (p + 4)) = true ∧ ¬ B (p + 4) = 48 ∧ digB (B (p + 5)) = true) := fun q => g q.1
                simp only [if_neg g, if_pos y, if_neg y2]
        · simp only [if_neg zt, if_true]
end SO
