-- words and sorts
def spB (B : Nat → Nat) (p w k : Nat) : Bool := decide (w = jstrN k) && (List.range w).all (fun j => decide (B (p + j) = jsn k j))
theorem spB_iff {B : Nat → Nat} {p w k : Nat} : spB B p w k = true ↔ spE B p w k := by
  unfold spB spE
  simp only [Bool.and_eq_true, decide_eq_true_eq, List.all_eq_true, List.mem_range]
def wdF (B : Nat → Nat) (p w : Nat) : Nat → Nat → Nat
  | 0, _ => 2
  | f + 1, m => if spB B p w (2 + m) = true then 4 + m else wdF B p w f (m + 1)
/-- the value of the sort that stands there -/
def soE (B : Nat → Nat) (p w : Nat) : Option Nat :=
  if spB B p w 0 = true then some 0 else if spB B p 4 1 = true then (if w = 4 then some 1 else if w = 5 then (if digB (B (p + 4)) = true then some (1 + (B (p + 4) - 48)) else none) else if w = 6 then (if digB (B (p + 4)) = true ∧ ¬ B (p + 4) = 48 ∧ digB (B (p + 5)) = true then some (1 + 10 * (B (p + 4) - 48) + (B (p + 5) - 48)) else none) else none) else none
theorem jw_len : ∀ m, m < 11 → 2 ≤ jstrN (2 + m) ∧ jstrN (2 + m) ≤ 5 ∧ jstrN (25 + m) = jstrN (2 + m) ∧ f_To_spelling (nI (4 + m)) = some (2 + m) := by decide +kernel
theorem jw_same : ∀ m, m < 11 → ∀ j, j < jstrN (2 + m) → jsn (25 + m) j = jsn (2 + m) j := by decide +kernel
theorem jw_low : ∀ m, m < 11 → 97 ≤ jsn (2 + m) 0 := by decide +kernel
theorem jw_prop : jstrN 0 = 4 ∧ jstrN 1 = 4 ∧ jstrN 36 = 4 ∧ jstrN 37 = 4 ∧ jsn 0 0 = 80 ∧ jsn 1 0 = 84 ∧ ∀ j, j < 4 → jsn 36 j = jsn 0 j ∧ jsn 37 j = jsn 1 j := by decide +kernel
theorem sp25 {B : Nat → Nat} {p w m : Nat} (hm : m < 11) : spE B p w (25 + m) ↔ spE B p w (2 + m) := by
  have h1 := jw_len m hm
  unfold spE
  rw [h1.2.2.1]
  constructor
  · rintro ⟨a, b⟩
    exact ⟨a, fun j hj => by rw [b j hj, jw_same m hm j (by omega)]⟩
  · rintro ⟨a, b⟩
    exact ⟨a, fun j hj => by rw [b j hj, jw_same m hm j (by omega)]⟩
theorem sp36 {B : Nat → Nat} {p w : Nat} : (spE B p w 36 ↔ spE B p w 0) ∧ (spE B p w 37 ↔ spE B p w 1) := by
  obtain ⟨a1, a2, a3, a4, -, -, a5⟩ := jw_prop
  unfold spE
  rw [a1, a2, a3, a4]
  constructor
  · constructor
    · rintro ⟨a, b⟩; exact ⟨a, fun j hj => by rw [b j hj, (a5 j (by omega)).1]⟩
    · rintro ⟨a, b⟩; exact ⟨a, fun j hj => by rw [b j hj, (a5 j (by omega)).1]⟩
  · constructor
    · rintro ⟨a, b⟩; exact ⟨a, fun j hj => by rw [b j hj, (a5 j (by omega)).2]⟩
    · rintro ⟨a, b⟩; exact ⟨a, fun j hj => by rw [b j hj, (a5 j (by omega)).2]⟩
section WD
variable {row : Nat → Int32} {len : Int32} {bytes : Nat → Int32} {size : Int32} {B : Nat → Nat} {n : Nat}
theorem c_isWordB (h : RB row len B n) {p w k : Nat} (hp : p + w ≤ n) (hk : k < 49) : f_Tk_isWord row len (nI p) (nI w) k = some (if spB B p w k = true then 1 else 0) := by
  obtain ⟨r, e1, ⟨rfl, e2⟩ | ⟨rfl, e2⟩⟩ := c_isWord h hp hk
  · rw [e1, if_pos (spB_iff.mpr e2)]
  · rw [e1, if_neg (fun q => e2 (spB_iff.mp q))]
theorem m_spellsB (h : RM bytes size B n) {p w k : Nat} (hp : p + w ≤ n) (hk : k < 49) : f_Mo_spells bytes (nI p) (nI w) k = some (if spB B p w k = true then 1 else 0) := by
  obtain ⟨r, e1, ⟨rfl, e2⟩ | ⟨rfl, e2⟩⟩ := m_spells h hp hk
  · rw [e1, if_pos (spB_iff.mpr e2)]
  · rw [e1, if_neg (fun q => e2 (spB_iff.mp q))]
theorem c_wdF (h : RB row len B n) {p w : Nat} (hp : p + w ≤ n) : ∀ f m, m + f = 11 → jl (Tk_wordAt_b14_b row len (nI p) (nI w)) (nI (4 + m)) = some (nI (wdF B p w f m)) := by
  have hn := h.1
  intro f
  induction f with
  | zero =>
    intro m hm
    refine jl_done ?_
    show Tk_wordAt_b14_s row len (nI p) (nI w) (nI (4 + m)) = _
    unfold Tk_wordAt_b14_s
    rw [if_pos (show (14 : Int32) < nI (4 + m) by rw [show (14 : Int32) = nI 14 from rfl, nI_ltI (by omega) (by omega)]; omega)]
    rfl
  | succ f ih =>
    intro m hm
    have body : Tk_wordAt_b14_b row len (nI p) (nI w) (nI (4 + m)) = if spB B p w (2 + m) = true then some (.inr (nI (4 + m))) else some (.inl (nI (4 + (m + 1)))) := by
      show Tk_wordAt_b14_s row len (nI p) (nI w) (nI (4 + m)) = _
      unfold Tk_wordAt_b14_s
      rw [if_neg (show ¬ (14 : Int32) < nI (4 + m) by rw [show (14 : Int32) = nI 14 from rfl, nI_ltI (by omega) (by omega)]; omega), (jw_len m (by omega)).2.2.2, jb_some, c_isWordB h hp (by omega), jb_some, nI_1]
      by_cases z : spB B p w (2 + m) = true
      · simp only [if_pos z, if_neg n10]
      · simp only [if_neg z, if_true]; rfl
    show _ = some (nI (if spB B p w (2 + m) = true then 4 + m else wdF B p w f (m + 1)))
    by_cases z : spB B p w (2 + m) = true
    · rw [if_pos z] at body ⊢
      exact jl_done body
    · rw [if_neg z] at body ⊢
      rw [jl_step body]
      exact ih (m + 1) (by omega)
theorem wdF_none {p w : Nat} (hw : w < 2 ∨ 5 < w) : ∀ f m, m + f = 11 → wdF B p w f m = 2 := by
  intro f
  induction f with
  | zero => intro m _; rfl
  | succ f ih =>
    intro m hm
    have h1 := jw_len m (by omega)
    show (if spB B p w (2 + m) = true then 4 + m else wdF B p w f (m + 1)) = 2
    rw [if_neg (fun q => by have := (spB_iff.mp q).1; omega)]
    exact ih (m + 1) (by omega)
theorem c_wordAt (h : RB row len B n) {p w : Nat} (hp : p + w ≤ n) : f_Tk_wordAt row len (nI p) (nI w) = some (nI (wdF B p w 11 0)) := by
  have hn := h.1
  unfold f_Tk_wordAt
  by_cases h1 : w < 2
  · rw [if_pos (show nI w < (2 : Int32) by rw [show (2 : Int32) = nI 2 from rfl, nI_ltI (by omega) (by omega)]; exact h1), wdF_none (Or.inl h1) 11 0 rfl]
    rfl
  · rw [if_neg (show ¬ nI w < (2 : Int32) by rw [show (2 : Int32) = nI 2 from rfl, nI_ltI (by omega) (by omega)]; exact h1)]
    by_cases h2 : w ≤ 5
    · rw [if_pos (show nI w ≤ (5 : Int32) by rw [show (5 : Int32) = nI 5 from rfl, nI_leI (by omega) (by omega)]; exact h2)]
      unfold Tk_wordAt_b14
      exact c_wdF h hp 11 0 rfl
    · rw [if_neg (show ¬ nI w ≤ (5 : Int32) by rw [show (5 : Int32) = nI 5 from rfl, nI_leI (by omega) (by omega)]; exact h2), wdF_none (Or.inr (by omega)) 11 0 rfl]
      rfl
end WD
