section BM
variable {row : Nat → Int32} {len : Int32} {bytes : Nat → Int32} {size : Int32} {B : Nat → Nat} {n e : Nat}
theorem m_rk0 {i0 j : Nat} (hj : j ≤ 8001) (he : e ≤ 8000) : jl (Mo_behindBlanks_b104_b bytes (nI e) (nI i0)) (nI 0, nI j) = some (.inl (nI j)) := by
  refine jl_done ?_
  show Mo_behindBlanks_b104_s bytes (nI e) (nI i0) (nI 0) (nI j) = _
  unfold Mo_behindBlanks_b104_s Mo_behindBlanks_b204 Mo_behindBlanks_b221
  have z : nI 0 ≤ (0 : Int32) := by decide
  rw [if_pos z]
  by_cases h : nI e ≤ nI j
  · rw [if_pos h]; rfl
  · rw [if_neg h, if_pos z]; rfl
theorem m_rk (h : RM bytes size B n) (he : e ≤ n) {i0 : Nat} : ∀ f o j, e ≤ j + f → 1 ≤ o → o ≤ j → j ≤ 8000 → jl (Mo_behindBlanks_b104_b bytes (nI e) (nI i0)) (nI o, nI j) = some (match rkE B e f o j with | some p => .inl (nI p) | none => .inr ((-1 : Int32) - nI i0)) := by
  have hn := h.1
  have out : ∀ o j : Nat, 1 ≤ o → o ≤ 8000 → e ≤ j → j ≤ 8001 → jl (Mo_behindBlanks_b104_b bytes (nI e) (nI i0)) (nI o, nI j) = some (.inr ((-1 : Int32) - nI i0)) := by
    intro o j ho ho8 hj h8
    refine jl_done ?_
    show Mo_behindBlanks_b104_s bytes (nI e) (nI i0) (nI o) (nI j) = _
    unfold Mo_behindBlanks_b104_s Mo_behindBlanks_b204
    rw [if_pos (by rw [nI_leI (by omega) (by omega)]; omega), if_neg (nI_nle (by omega) (by omega))]
    rfl
  intro f
  induction f with
  | zero =>
    intro o j hj ho hoj h8
    rw [out o j ho (by omega) (by omega) (by omega)]
    rfl
  | succ f ih =>
    intro o j hj ho hoj h8
    by_cases h0 : e ≤ j
    · rw [out o j ho (by omega) h0 (by omega), rk_step, if_pos (by omega)]
    · have i1 : f_Mo_isAt bytes (nI e) (nI j) (123 : Int32) (45 : Int32) = some (if j + 1 < e ∧ B j = 123 ∧ B (j + 1) = 45 then 1 else 0) := m_isAt (a := 123) (b := 45) h he (by decide) (by decide) h8
      have i2 : f_Mo_isAt bytes (nI e) (nI j) (45 : Int32) (125 : Int32) = some (if j + 1 < e ∧ B j = 45 ∧ B (j + 1) = 125 then 1 else 0) := m_isAt (a := 45) (b := 125) h he (by decide) (by decide) h8
      have body : Mo_behindBlanks_b104_b bytes (nI e) (nI i0) (nI o, nI j) = if j + 1 < e ∧ B j = 123 ∧ B (j + 1) = 45 then some (.inl (nI (o + 1), nI (j + 2))) else if j + 1 < e ∧ B j = 45 ∧ B (j + 1) = 125 then some (.inl (nI (o - 1), nI (j + 2))) else some (.inl (nI o, nI (j + 1))) := by
        show Mo_behindBlanks_b104_s bytes (nI e) (nI i0) (nI o) (nI j) = _
        unfold Mo_behindBlanks_b104_s Mo_behindBlanks_b160 Mo_behindBlanks_b188 Mo_behindBlanks_b199
        have d1 : nI j + (2 : Int32) = nI (j + 2) := nI_add j 2
        have d2 : nI o - (1 : Int32) = nI (o - 1) := pk_sub (a := o) (b := 1) ho
        have z00 : (0 : Int32) = 0 := rfl
        rw [if_neg (by rw [nI_leI (by omega) (by omega)]; omega), if_neg (nI_nle (by omega) (by omega))]
        simp only [i1, i2, jb_some, nI_1, d1, d2]
        by_cases k1 : j + 1 < e ∧ B j = 123 ∧ B (j + 1) = 45
        · simp only [if_pos k1, if_neg n10, jb_some]
        · by_cases k2 : j + 1 < e ∧ B j = 45 ∧ B (j + 1) = 125
          · simp only [if_neg k1, if_pos k2, if_neg n10, jb_some, if_pos z00, if_true]
          · simp only [if_neg k1, if_neg k2, jb_some, if_pos z00, if_true]
      rw [rk_step]
      by_cases h1 : e ≤ j + 1
      · rw [if_pos h1]
        rw [if_neg (by omega), if_neg (by omega)] at body
        rw [jl_step body, out o (j + 1) ho (by omega) h1 (by omega)]
      · rw [if_neg h1]
        by_cases k1 : B j = 123 ∧ B (j + 1) = 45
        · rw [if_pos ⟨by omega, k1⟩] at body
          rw [if_pos k1, jl_step body]
          exact ih (o + 1) (j + 2) (by omega) (by omega) (by omega) (by omega)
        · rw [if_neg (fun q => k1 q.2)] at body
          rw [if_neg k1]
          by_cases k2 : B j = 45 ∧ B (j + 1) = 125
          · rw [if_pos ⟨by omega, k2⟩] at body
            rw [if_pos k2, jl_step body]
            by_cases k3 : o = 1
            · subst k3
              rw [if_pos rfl]
              exact m_rk0 (by omega) (by omega)
            · rw [if_neg k3]
              exact ih (o - 1) (j + 2) (by omega) (by omega) (by omega) (by omega)
          · rw [if_neg (fun q => k2 q.2)] at body
            rw [if_neg k2, jl_step body]
            exact ih o (j + 1) (by omega) (by omega) (by omega) (by omega)
/-- where the blank ends that begins at i; i if there is none -/
def nbE (B : Nat → Nat) (e i : Nat) : Nat := if B i = 32 ∨ B i = 9 ∨ B i = 10 ∨ B i = 13 then i + 1 else if i + 1 < e ∧ B (i + 1) = 45 then (if B i = 45 then lnE B e e i else if B i = 123 then (match rkE B e e 1 (i + 2) with | some p => p | none => i) else i) else i
def blE (B : Nat → Nat) (e : Nat) : Nat → Nat → Nat
  | 0, i => i
  | f + 1, i => if e ≤ i then i else if nbE B e i = i then i else blE B e f (nbE B e i)
theorem rkE_le : ∀ f o i p, rkE B e f o i = some p → i + 2 ≤ p ∧ p ≤ e := by
  intro f
  induction f with
  | zero => intro o i p h; cases h
  | succ f ih =>
    intro o i p h
    rw [rk_step] at h
    by_cases h1 : e ≤ i + 1
    · rw [if_pos h1] at h; cases h
    · rw [if_neg h1] at h
      split at h
      · have := ih _ _ _ h; omega
      · split at h
        · split at h
          · cases h; omega
          · have := ih _ _ _ h; omega
        · have := ih _ _ _ h; omega
theorem nbE_ge (i : Nat) : i ≤ nbE B e i := by
  unfold nbE
  split
  · omega
  · split
    · split
      · exact lnE_ge _ _
      · split
        · split
          · rename_i p hp; have := rkE_le _ _ _ _ hp; omega
          · exact Nat.le_refl _
        · exact Nat.le_refl _
    · exact Nat.le_refl _
theorem nbE_le {i : Nat} (hi : i < e) : nbE B e i ≤ e := by
  unfold nbE
  split
  · omega
  · split
    · split
      · exact lnE_le _ _ (by omega)
      · split
        · split
          · rename_i p hp; exact (rkE_le _ _ _ _ hp).2
          · omega
        · omega
    · omega
theorem c_remark (h : RB row len B n) (he : e ≤ n) {i : Nat} (hi : i + 1 < e) (k : B i = 123 ∧ B (i + 1) = 45) : f_Tk_behindRemark row len (nI i) (nI e) = some (nI (match rkE B e e 1 (i + 2) with | some p => p | none => i)) := by
  have hn := h.1
  unfold f_Tk_behindRemark Tk_behindRemark_b5
  have body : Tk_behindRemark_b5_b row len (nI i) (nI e) (0, nI i) = some (.inl (nI 1, nI (i + 2))) := by
    show Tk_behindRemark_b5_s row len (nI i) (nI e) 0 (nI i) = _
    unfold Tk_behindRemark_b5_s Tk_behindRemark_b50 Tk_behindRemark_b70 Tk_behindRemark_b71 Tk_behindRemark_b93 Tk_behindRemark_b107 Tk_behindRemark_b112
    have d1 : nI i + (2 : Int32) = nI (i + 2) := nI_add i 2
    rw [nI_1, if_neg (by rw [nI_leI (by omega) (by omega)]; omega), p_at h (by omega), p_at h (by omega), jb_some, jb_some, k.1, k.2, d1]
    rfl
  rw [jl_step body, c_rk h he e 1 (i + 2) (by omega) (by omega) (by omega) (by omega)]
  cases rkE B e e 1 (i + 2) <;> rfl
theorem c_blank (h : RB row len B n) (he : e ≤ n) {i : Nat} (hi : i < e) : f_Tk_behindBlank row len (nI i) (nI e) = some (nI (nbE B e i)) := by
  have hn := h.1
  have q1 := (h.2.2 i (by omega)).1
  have c1 : (nI (B i) = (32 : Int32)) = (B i = 32) := propext (nI_eq (b := 32) (by omega) (by decide))
  have c2 : (nI (B i) = (9 : Int32)) = (B i = 9) := propext (nI_eq (b := 9) (by omega) (by decide))
  have c3 : (nI (B i) = (10 : Int32)) = (B i = 10) := propext (nI_eq (b := 10) (by omega) (by decide))
  have c4 : (nI (B i) = (13 : Int32)) = (B i = 13) := propext (nI_eq (b := 13) (by omega) (by decide))
  have c5 : (nI (B i) = (45 : Int32)) = (B i = 45) := propext (nI_eq (b := 45) (by omega) (by decide))
  have c6 : (nI (B i) = (123 : Int32)) = (B i = 123) := propext (nI_eq (b := 123) (by omega) (by decide))
  unfold f_Tk_behindBlank Tk_behindBlank_b30 Tk_behindBlank_b57 Tk_behindBlank_b58 Tk_behindBlank_b78 Tk_behindBlank_b98 nbE
  rw [p_at h (by omega), jb_some, nI_1]
  simp only [c1, c2, c3, c4, c5, c6]
  by_cases k1 : B i = 32 ∨ B i = 9 ∨ B i = 10 ∨ B i = 13
  · rw [if_pos k1]
    rcases k1 with k | k | k | k <;> simp [k]
  · rw [if_neg k1]
    have k32 : ¬ B i = 32 := fun q => k1 (Or.inl q)
    have k9 : ¬ B i = 9 := fun q => k1 (Or.inr (Or.inl q))
    have k10 : ¬ B i = 10 := fun q => k1 (Or.inr (Or.inr (Or.inl q)))
    have k13 : ¬ B i = 13 := fun q => k1 (Or.inr (Or.inr (Or.inr q)))
    rw [if_neg k32, if_neg k9, if_neg k10, if_neg k13]
    have z00 : (0 : Int32) = 0 := rfl
    by_cases h1 : i + 1 < e
    · have q2 := (h.2.2 (i + 1) (by omega)).1
      have c7 : (nI (B (i + 1)) = (45 : Int32)) = (B (i + 1) = 45) := propext (nI_eq (b := 45) (by omega) (by decide))
      rw [if_neg (by rw [nI_leI (by omega) (by omega)]; omega), p_at h (by omega), jb_some]
      simp only [c7]
      by_cases k2 : B (i + 1) = 45
      · have k22 : i + 1 < e ∧ B (i + 1) = 45 := ⟨h1, k2⟩
        simp only [if_pos k2, if_pos k22, if_neg n10]
        by_cases k3 : B i = 45
        · simp only [if_pos k3]
          unfold f_Tk_behindLine Tk_behindLine_b2
          rw [c_line h he e i (by omega) (by omega), jb_some]
        · simp only [if_neg k3]
          by_cases k4 : B i = 123
          · simp only [if_pos k4]
            rw [c_remark h he h1 ⟨k4, k2⟩, jb_some]
          · simp only [if_neg k4]
      · have k22 : ¬ (i + 1 < e ∧ B (i + 1) = 45) := fun q => k2 q.2
        simp only [if_neg k2, if_neg k22, if_pos z00, if_true]
        by_cases k3 : B i = 45
        · by_cases k4 : B i = 123
          · simp only [if_pos k3, if_pos k4, if_true]
          · simp only [if_pos k3, if_neg k4, if_true]
        · by_cases k4 : B i = 123
          · simp only [if_neg k3, if_pos k4, if_true]
          · simp only [if_neg k3, if_neg k4, if_true]
    · have k22 : ¬ (i + 1 < e ∧ B (i + 1) = 45) := fun q => h1 q.1
      rw [if_pos (by rw [nI_leI (by omega) (by omega)]; omega)]
      simp only [if_neg k22, if_pos z00, if_true]
      by_cases k3 : B i = 45
      · by_cases k4 : B i = 123
        · simp only [if_pos k3, if_pos k4, if_true]
        · simp only [if_pos k3, if_neg k4, if_true]
      · by_cases k4 : B i = 123
        · simp only [if_neg k3, if_pos k4, if_true]
        · simp only [if_neg k3, if_neg k4, if_true]
end BM
