section BN
variable {row : Nat → Int32} {len : Int32} {bytes : Nat → Int32} {size : Int32} {B : Nat → Nat} {n e : Nat}
theorem bl_step {f i : Nat} : blE B e (f + 1) i = if e ≤ i then i else if nbE B e i = i then i else blE B e f (nbE B e i) := rfl
theorem blE_ge : ∀ f i, i ≤ blE B e f i := by
  intro f
  induction f with
  | zero => intro i; exact Nat.le_refl _
  | succ f ih =>
    intro i
    rw [bl_step]
    split
    · exact Nat.le_refl _
    · split
      · exact Nat.le_refl _
      · exact Nat.le_trans (nbE_ge i) (ih _)
theorem blE_le : ∀ f i, i ≤ e → blE B e f i ≤ e := by
  intro f
  induction f with
  | zero => intro i h; exact h
  | succ f ih =>
    intro i h
    rw [bl_step]
    split
    · exact h
    · split
      · exact h
      · exact ih _ (nbE_le (by omega))
theorem blE_fix : ∀ f i, e ≤ i + f → e ≤ blE B e f i ∨ nbE B e (blE B e f i) = blE B e f i := by
  intro f
  induction f with
  | zero => intro i h; exact Or.inl h
  | succ f ih =>
    intro i h
    rw [bl_step]
    by_cases h1 : e ≤ i
    · rw [if_pos h1]; exact Or.inl h1
    · rw [if_neg h1]
      by_cases h2 : nbE B e i = i
      · rw [if_pos h2]; exact Or.inr h2
      · rw [if_neg h2]
        have := nbE_ge (B := B) (e := e) i
        exact ih _ (by omega)
theorem c_blanks (h : RB row len B n) (he : e ≤ n) : ∀ f i c, e ≤ i + f → c ≤ i → i ≤ e → jl (Tk_behindBlanks_b5_b row len (nI e)) (nI i, nI c) = some (nI (blE B e f i)) := by
  have hn := h.1
  have out : ∀ i c : Nat, e ≤ i → c ≤ i → i ≤ e → jl (Tk_behindBlanks_b5_b row len (nI e)) (nI i, nI c) = some (nI i) := by
    intro i c h1 h2 h3
    refine jl_done ?_
    show Tk_behindBlanks_b5_s row len (nI e) (nI i) (nI c) = _
    unfold Tk_behindBlanks_b5_s
    have k : nI e ≤ nI i := by rw [nI_leI (by omega) (by omega)]; omega
    by_cases z : (8000 : Int32) ≤ nI c
    · rw [if_pos z]
    · rw [if_neg z, if_pos k]
  intro f
  induction f with
  | zero => intro i c h1 h2 h3; exact out i c h1 h2 h3
  | succ f ih =>
    intro i c h1 h2 h3
    rw [bl_step]
    by_cases h0 : e ≤ i
    · rw [if_pos h0]; exact out i c h0 h2 h3
    · rw [if_neg h0]
      have g1 := nbE_ge (B := B) (e := e) i
      have g2 := nbE_le (B := B) (e := e) (i := i) (by omega)
      have pre : Tk_behindBlanks_b5_b row len (nI e) (nI i, nI c) = if nI (nbE B e i) = nI i then some (.inr (nI i)) else some (.inl (nI (nbE B e i), nI (c + 1))) := by
        show Tk_behindBlanks_b5_s row len (nI e) (nI i) (nI c) = _
        unfold Tk_behindBlanks_b5_s
        rw [if_neg (show ¬ (8000 : Int32) ≤ nI c by rw [show (8000 : Int32) = nI 8000 from rfl, nI_leI (by omega) (by omega)]; omega), if_neg (by rw [nI_leI (by omega) (by omega)]; omega), c_blank h he (by omega), jb_some, nI_1]
      by_cases k : nbE B e i = i
      · rw [if_pos k]
        rw [if_pos (by rw [k])] at pre
        exact jl_done pre
      · rw [if_neg k]
        rw [if_neg (nIne (by omega) (by omega) k)] at pre
        rw [jl_step pre]
        exact ih _ (c + 1) (by omega) (by omega) g2
def untE (B : Nat → Nat) (e p : Nat) : Prop := p + 1 < e ∧ B p = 123 ∧ B (p + 1) = 45
def mblE (B : Nat → Nat) (e p : Nat) : Int32 := if p + 1 < e ∧ B p = 123 ∧ B (p + 1) = 45 then (-1 : Int32) - nI p else nI p
theorem m_blstep (h : RM bytes size B n) (he : e ≤ n) {i : Nat} (hi : i < e) : Mo_behindBlanks_b2_b bytes (nI e) (nI i) = if nbE B e i = i then some (.inr (mblE B e i)) else some (.inl (nI (nbE B e i))) := by
  have hn := h.1
  have q1 := h.2.2 i (by omega)
  have z00 : (0 : Int32) = 0 := rfl
  have c1 : (nI (B i) = (32 : Int32)) = (B i = 32) := propext (nI_eq (b := 32) (by omega) (by decide))
  have c2 : (nI (B i) = (9 : Int32)) = (B i = 9) := propext (nI_eq (b := 9) (by omega) (by decide))
  have c3 : (nI (B i) = (10 : Int32)) = (B i = 10) := propext (nI_eq (b := 10) (by omega) (by decide))
  have c4 : (nI (B i) = (13 : Int32)) = (B i = 13) := propext (nI_eq (b := 13) (by omega) (by decide))
  have i1 : f_Mo_isAt bytes (nI e) (nI i) (45 : Int32) (45 : Int32) = some (if i + 1 < e ∧ B i = 45 ∧ B (i + 1) = 45 then 1 else 0) := m_isAt (a := 45) (b := 45) h he (by decide) (by decide) (by omega)
  have i2 : f_Mo_isAt bytes (nI e) (nI i) (123 : Int32) (45 : Int32) = some (if i + 1 < e ∧ B i = 123 ∧ B (i + 1) = 45 then 1 else 0) := m_isAt (a := 123) (b := 45) h he (by decide) (by decide) (by omega)
  show Mo_behindBlanks_b2_s bytes (nI e) (nI i) = _
  unfold Mo_behindBlanks_b2_s Mo_behindBlanks_b41 Mo_behindBlanks_b221
  rw [if_neg (by rw [nI_leI (by omega) (by omega)]; omega), if_neg (nI_in (show i < 8000 by omega) (by decide)), nI_clamp (by omega), q1.2, nI_1]
  simp only [c1, c2, c3, c4, i1, i2, jb_some]
  by_cases k1 : B i = 32 ∨ B i = 9 ∨ B i = 10 ∨ B i = 13
  · have e1 : nbE B e i = i + 1 := by unfold nbE; rw [if_pos k1]
    have e2 : ¬ i + 1 = i := by omega
    simp only [e1, if_neg e2]
    rcases k1 with k | k | k | k <;> simp [k]
  · have k32 : ¬ B i = 32 := fun q => k1 (Or.inl q)
    have k9 : ¬ B i = 9 := fun q => k1 (Or.inr (Or.inl q))
    have k10 : ¬ B i = 10 := fun q => k1 (Or.inr (Or.inr (Or.inl q)))
    have k13 : ¬ B i = 13 := fun q => k1 (Or.inr (Or.inr (Or.inr q)))
    simp only [if_neg k32, if_neg k9, if_neg k10, if_neg k13]
    by_cases kp : i + 1 < e ∧ B i = 45 ∧ B (i + 1) = 45
    · have e1 : nbE B e i = lnE B e e i := by unfold nbE; rw [if_neg k1, if_pos ⟨kp.1, kp.2.2⟩, if_pos kp.2.1]
      have e2 : ¬ lnE B e e i = i := by
        obtain ⟨f, hf⟩ : ∃ f, e = f + 1 := ⟨e - 1, by omega⟩
        have e3 : lnE B e (f + 1) i = lnE B e f (i + 1) := by
          show (if e ≤ i then i else if B i = 10 then i else lnE B e f (i + 1)) = _
          rw [if_neg (by omega), if_neg k10]
        have e4 := lnE_ge (B := B) (e := e) f (i + 1)
        rw [show lnE B e e i = lnE B e (f + 1) i by rw [← hf], e3]
        omega
      rw [e1, if_neg e2]
      simp only [if_pos kp, if_neg n10]
      unfold Mo_behindBlanks_b59
      exact m_line h he e i (by omega) (by omega)
    · simp only [if_neg kp, if_true]
      by_cases kq : i + 1 < e ∧ B i = 123 ∧ B (i + 1) = 45
      · have e1 : nbE B e i = (match rkE B e e 1 (i + 2) with | some p => p | none => i) := by unfold nbE; rw [if_neg k1, if_pos ⟨kq.1, kq.2.2⟩, if_neg (by omega), if_pos kq.2.1]; cases rkE B e e 1 (i + 2) <;> rfl
        simp only [if_pos kq, if_neg n10]
        unfold Mo_behindBlanks_b104
        have d1 : nI i + (2 : Int32) = nI (i + 2) := nI_add i 2
        have r := m_rk (i0 := i) h he e 1 (i + 2) (by omega) (by omega) (by omega) (by omega)
        rw [d1]
        refine Eq.trans r ?_
        rw [e1]
        cases hr : rkE B e e 1 (i + 2) with
        | none =>
          dsimp only
          rw [if_pos rfl]
          unfold mblE
          rw [if_pos kq]
        | some p =>
          have := rkE_le _ _ _ _ hr
          dsimp only
          rw [if_neg (by omega)]
      · have e1 : nbE B e i = i := by
          unfold nbE
          rw [if_neg k1]
          by_cases k2 : i + 1 < e ∧ B (i + 1) = 45
          · rw [if_pos k2, if_neg (fun q => kp ⟨k2.1, q, k2.2⟩), if_neg (fun q => kq ⟨k2.1, q, k2.2⟩)]
          · rw [if_neg k2]
        rw [if_pos e1]
        unfold mblE
        simp only [if_neg kq, if_true]
theorem m_blanks (h : RM bytes size B n) (he : e ≤ n) : ∀ f i, e ≤ i + f → i ≤ e → jl (Mo_behindBlanks_b2_b bytes (nI e)) (nI i) = some (mblE B e (blE B e f i)) := by
  have hn := h.1
  have out : ∀ i : Nat, e ≤ i → i ≤ e → jl (Mo_behindBlanks_b2_b bytes (nI e)) (nI i) = some (mblE B e i) := by
    intro i h1 h2
    refine jl_done ?_
    show Mo_behindBlanks_b2_s bytes (nI e) (nI i) = _
    unfold Mo_behindBlanks_b2_s mblE
    rw [if_pos (by rw [nI_leI (by omega) (by omega)]; omega), if_neg (fun q => by omega)]
  intro f
  induction f with
  | zero => intro i h1 h2; exact out i h1 h2
  | succ f ih =>
    intro i h1 h2
    rw [bl_step]
    by_cases h0 : e ≤ i
    · rw [if_pos h0]; exact out i h0 h2
    · rw [if_neg h0]
      have g1 := nbE_ge (B := B) (e := e) i
      have g2 := nbE_le (B := B) (e := e) (i := i) (by omega)
      have pre := m_blstep h he (i := i) (by omega)
      by_cases k : nbE B e i = i
      · rw [if_pos k] at pre ⊢
        exact jl_done pre
      · rw [if_neg k] at pre ⊢
        rw [jl_step pre]
        exact ih _ (by omega) g2
end BN
