section MX
variable {bytes : Nat → Int32} {size : Int32} {B : Nat → Nat} {n : Nat}
theorem m_wdF (h : RM bytes size B n) {p w : Nat} (hp : p + w ≤ n) : ∀ f m, m + f = 11 → jl (Mo_wordOf_b2_b bytes (nI p) (nI w)) (nI m) = some (if wdF B p w f m = 2 then (if (soE B p w).isSome = true then (3 : Int32) else 2) else nI (wdF B p w f m + 16)) := by
  have hn := h.1
  intro f
  induction f with
  | zero =>
    intro m hm
    have e : m = 11 := by omega
    subst e
    rw [if_pos (show wdF B p w 0 11 = 2 from rfl)]
    exact jl_done (m_sortP h hp)
  | succ f ih =>
    intro m hm
    have s25 : spB B p w (25 + m) = spB B p w (2 + m) := Bool.eq_iff_iff.mpr (spB_iff.trans ((sp25 (by omega)).trans spB_iff.symm))
    have body : Mo_wordOf_b2_b bytes (nI p) (nI w) (nI m) = if spB B p w (2 + m) = true then some (.inr (nI (20 + m))) else some (.inl (nI (m + 1))) := by
      show Mo_wordOf_b2_s bytes (nI p) (nI w) (nI m) = _
      unfold Mo_wordOf_b2_s
      have d1 : (20 : Int32) + nI m = nI (20 + m) := nI_add 20 m
      rw [if_neg (show ¬ (11 : Int32) ≤ nI m by rw [show (11 : Int32) = nI 11 from rfl, nI_leI (by omega) (by omega)]; omega), if_neg (nI_in (show m < 11 by omega) (by decide)), nI_clamp (by omega), m_spellsB h hp (by omega), jb_some, s25, nI_1, d1]
      by_cases z : spB B p w (2 + m) = true
      · simp only [if_pos z, if_neg n10]
      · simp only [if_neg z, if_true]
    have hd : wdF B p w (f + 1) m = if spB B p w (2 + m) = true then 4 + m else wdF B p w f (m + 1) := rfl
    rw [hd]
    by_cases z : spB B p w (2 + m) = true
    · rw [if_pos z] at body
      rw [if_pos z, if_neg (by omega), jl_done body]
      congr 2
      omega
    · rw [if_neg z] at body
      rw [if_neg z, jl_step body]
      exact ih (m + 1) (by omega)
theorem m_wordOf (h : RM bytes size B n) {p w : Nat} (hp : p + w ≤ n) : f_Mo_wordOf bytes (nI p) (nI w) = some (if wdF B p w 11 0 = 2 then (if (soE B p w).isSome = true then (3 : Int32) else 2) else nI (wdF B p w 11 0 + 16)) := by
  unfold f_Mo_wordOf Mo_wordOf_b2
  exact m_wdF h hp 11 0 rfl
theorem wdF_first {p w : Nat} (hw : B p < 97) : ∀ f m, m + f = 11 → wdF B p w f m = 2 := by
  intro f
  induction f with
  | zero => intro m _; rfl
  | succ f ih =>
    intro m hm
    have h1 := jw_len m (by omega)
    have h2 := jw_low m (by omega)
    show (if spB B p w (2 + m) = true then 4 + m else wdF B p w f (m + 1)) = 2
    rw [if_neg (fun q => by
      have q' := spB_iff.mp q
      have q2 := q'.2 0 (by have := q'.1; omega)
      rw [Nat.add_zero] at q2
      omega)]
    exact ih (m + 1) (by omega)
theorem so_first {p w v : Nat} (h : soE B p w = some v) : B p < 97 := by
  unfold soE at h
  by_cases z0 : spB B p w 0 = true
  · have q := spB_iff.mp z0
    have q2 := q.2 0 (by rw [q.1, jw_prop.1]; decide)
    rw [Nat.add_zero, jw_prop.2.2.2.2.1] at q2
    omega
  · rw [if_neg z0] at h
    by_cases z1 : spB B p 4 1 = true
    · have q := spB_iff.mp z1
      have q2 := q.2 0 (by decide)
      rw [Nat.add_zero, jw_prop.2.2.2.2.2.1] at q2
      omega
    · rw [if_neg z1] at h; cases h
theorem so_wd {p w v : Nat} (h : soE B p w = some v) : wdF B p w 11 0 = 2 := wdF_first (so_first h) 11 0 rfl
theorem wdF_lt {p w : Nat} : ∀ f m, m + f = 11 → wdF B p w f m = 2 ∨ (4 ≤ wdF B p w f m ∧ wdF B p w f m ≤ 14) := by
  intro f
  induction f with
  | zero => intro m _; exact Or.inl rfl
  | succ f ih =>
    intro m hm
    show (if spB B p w (2 + m) = true then 4 + m else wdF B p w f (m + 1)) = 2 ∨ (4 ≤ (if spB B p w (2 + m) = true then 4 + m else wdF B p w f (m + 1)) ∧ (if spB B p w (2 + m) = true then 4 + m else wdF B p w f (m + 1)) ≤ 14)
    by_cases z : spB B p w (2 + m) = true
    · rw [if_pos z]; right; omega
    · rw [if_neg z]; exact ih (m + 1) (by omega)
end MX
