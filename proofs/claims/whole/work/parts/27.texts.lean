-- letters, digits, texts
def letB (c : Nat) : Bool := decide (97 ≤ c ∧ c ≤ 122) || decide (65 ≤ c ∧ c ≤ 90) || decide (c = 95)
def digB (c : Nat) : Bool := decide (48 ≤ c ∧ c ≤ 57)
def innB (c : Nat) : Bool := letB c || digB c || decide (c = 39)
theorem c_isLetter : ∀ c, c < 256 → f_Tk_isLetter (nI c) = some (if letB c = true then 1 else 0) := by decide +kernel
theorem m_isLetter : ∀ c, c < 256 → f_Mo_isLetter (nI c) = some (if letB c = true then 1 else 0) := by decide +kernel
theorem c_isDigit : ∀ c, c < 256 → f_Tk_isDigit (nI c) = some (if digB c = true then 1 else 0) := by decide +kernel
theorem m_isDigit : ∀ c, c < 256 → f_Mo_isDigit (nI c) = some (if digB c = true then 1 else 0) := by decide +kernel
theorem c_isInName : ∀ c, c < 256 → f_Tk_isInName (nI c) = some (if innB c = true then 1 else 0) := by decide +kernel
theorem c_isLetterN : f_Tk_isLetter (-1) = some 0 := by decide +kernel
def jsn (k j : Nat) : Nat := (jstr k j).toNatClampNeg
theorem js_len : ∀ k, k < 49 → f_Js_length k = some (nI (jstrN k)) := by decide +kernel
theorem js_char : ∀ k, k < 49 → ∀ j, j < jstrN k → f_Js_charAt k (nI j) = some (nI (jsn k j)) ∧ jsn k j < 128 := by decide +kernel
theorem js_small : ∀ k, k < 49 → jstrN k ≤ 5 := by decide +kernel
section SP
variable {row : Nat → Int32} {len : Int32} {bytes : Nat → Int32} {size : Int32} {B : Nat → Nat} {n : Nat}
/-- whether the w bytes at p spell text k -/
def spE (B : Nat → Nat) (p w k : Nat) : Prop := w = jstrN k ∧ ∀ j, j < w → B (p + j) = jsn k j
theorem c_isWord (h : RB row len B n) {p w k : Nat} (hp : p + w ≤ n) (hk : k < 49) : ∃ r, f_Tk_isWord row len (nI p) (nI w) k = some r ∧ ((r = 1 ∧ spE B p w k) ∨ (r = 0 ∧ ¬ spE B p w k)) := by
  have hn := h.1
  have h5 := js_small k hk
  unfold f_Tk_isWord
  rw [if_neg (by omega), js_len k hk, jb_some]
  by_cases hw : jstrN k = w
  · rw [if_pos (by rw [hw])]
    unfold Tk_isWord_b13
    refine jl_for (body := Tk_isWord_b13_b row len (nI p) (nI w) k) (fun j s => s = nI j ∧ ∀ i, i < j → B (p + i) = jsn k i) (fun r => (r = 1 ∧ spE B p w k) ∨ (r = 0 ∧ ¬ spE B p w k)) w ?_ ?_ 0 0 (Nat.zero_le _) ⟨rfl, fun i hi => absurd hi (by omega)⟩
    · intro j s hj hI
      obtain ⟨rfl, hI⟩ := hI
      have q := (h.2.2 (p + j) (by omega)).1
      obtain ⟨g1, g2⟩ := js_char k hk j (by omega)
      show (∃ s', Tk_isWord_b13_s row len (nI p) (nI w) k (nI j) = some (.inl s') ∧ _) ∨ ∃ r, Tk_isWord_b13_s row len (nI p) (nI w) k (nI j) = some (.inr r) ∧ _
      unfold Tk_isWord_b13_s
      rw [if_neg (by rw [nI_leI (by omega) (by omega)]; omega), nI_add, p_at h (by omega), jb_some, if_neg (by omega), g1, jb_some]
      by_cases z : B (p + j) = jsn k j
      · left
        refine ⟨nI (j + 1), by rw [if_pos (by rw [z]), nI_1], rfl, lt_s hI z⟩
      · right
        refine ⟨0, by rw [if_neg (nIne (by omega) (by omega) z), vb0], Or.inr ⟨rfl, fun q => z (q.2 j hj)⟩⟩
    · intro s hI
      obtain ⟨rfl, hI⟩ := hI
      refine ⟨1, ?_, Or.inl ⟨rfl, hw.symm, hI⟩⟩
      show Tk_isWord_b13_s row len (nI p) (nI w) k (nI w) = _
      unfold Tk_isWord_b13_s
      rw [if_pos (Int32.le_refl _), vb1]
  · rw [if_neg (nIne (by omega) (by omega) hw), vb0]
    exact ⟨0, rfl, Or.inr ⟨rfl, fun q => hw q.1.symm⟩⟩
theorem m_spells (h : RM bytes size B n) {p w k : Nat} (hp : p + w ≤ n) (hk : k < 49) : ∃ r, f_Mo_spells bytes (nI p) (nI w) k = some r ∧ ((r = 1 ∧ spE B p w k) ∨ (r = 0 ∧ ¬ spE B p w k)) := by
  have hn := h.1
  have h5 := js_small k hk
  unfold f_Mo_spells
  rw [if_neg (by omega), js_len k hk, jb_some]
  by_cases hw : w = jstrN k
  · rw [if_pos (by rw [hw])]
    unfold Mo_spells_b13
    refine jl_for (body := Mo_spells_b13_b bytes (nI p) (nI w) k) (fun j s => s = nI j ∧ ∀ i, i < j → B (p + i) = jsn k i) (fun r => (r = 1 ∧ spE B p w k) ∨ (r = 0 ∧ ¬ spE B p w k)) w ?_ ?_ 0 0 (Nat.zero_le _) ⟨rfl, fun i hi => absurd hi (by omega)⟩
    · intro j s hj hI
      obtain ⟨rfl, hI⟩ := hI
      have q := h.2.2 (p + j) (by omega)
      obtain ⟨g1, g2⟩ := js_char k hk j (by omega)
      show (∃ s', Mo_spells_b13_s bytes (nI p) (nI w) k (nI j) = some (.inl s') ∧ _) ∨ ∃ r, Mo_spells_b13_s bytes (nI p) (nI w) k (nI j) = some (.inr r) ∧ _
      unfold Mo_spells_b13_s
      rw [if_neg (by rw [nI_leI (by omega) (by omega)]; omega), nI_add, if_neg (nI_in (show p + j < 8000 by omega) (by decide)), nI_clamp (by omega), q.2, if_neg (by omega), g1, jb_some]
      by_cases z : B (p + j) = jsn k j
      · left
        refine ⟨nI (j + 1), by rw [if_pos (by rw [z]), nI_1], rfl, lt_s hI z⟩
      · right
        refine ⟨0, by rw [if_neg (nIne (by omega) (by omega) z), vb0], Or.inr ⟨rfl, fun q => z (q.2 j hj)⟩⟩
    · intro s hI
      obtain ⟨rfl, hI⟩ := hI
      refine ⟨1, ?_, Or.inl ⟨rfl, hw, hI⟩⟩
      show Mo_spells_b13_s bytes (nI p) (nI w) k (nI w) = _
      unfold Mo_spells_b13_s
      rw [if_pos (Int32.le_refl _), vb1]
  · rw [if_neg (nIne (by omega) (by omega) hw), vb0]
    exact ⟨0, rfl, Or.inr ⟨rfl, fun q => hw q.1⟩⟩
end SP
