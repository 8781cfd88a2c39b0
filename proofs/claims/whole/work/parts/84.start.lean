-- the start
section IN
theorem m_clear {tk tw tv th ts tc : Nat → Int32} {t : Nat} (ht : t < 2) : ∃ ts1, f_Mo_clear tk tw tv th ts tc (nI t) = some (upd tk (9000 * t) 0, upd tw (9000 * t) (-1), upd tv (9000 * t) 0, upd th (9000 * t) (-1), ts1, upd (upd tc t 0) t 1) ∧ ts1 (9000 * t) = 1 ∧ ∀ z, z ≠ 9000 * t → ts1 z = ts z := by
  obtain ⟨ts1, a1, a2, a3, a4⟩ := m_add (tk := tk) (tw := tw) (tv := tv) (th := th) (ts := ts) (tc := upd tc t 0) (n := 0) (l := []) (kd := 0) (pl := -1) (va := 0) (w := -1) ht pk_us (by omega) rfl
  refine ⟨ts1, ?_, a2, fun z hz => a3 z hz (fun q => by cases q)⟩
  unfold f_Mo_clear
  rw [if_neg (nI_in ht (by omega)), nI_clamp (by omega)]
  exact jb_ok a1
/-- both trees are empty texts at first -/
theorem m_init : ∃ tk tw tv th ts tc, f_Mo_init = some (tk, tw, tv, th, ts, tc) ∧ ∀ t, t < 2 → tc t = 1 ∧ tk (9000 * t) = 0 ∧ tw (9000 * t) = -1 ∧ tv (9000 * t) = 0 ∧ th (9000 * t) = -1 ∧ ts (9000 * t) = 1 := by
  obtain ⟨s1, a1, a2, a3⟩ := m_clear (tk := fun _ => 0) (tw := fun _ => 0) (tv := fun _ => 0) (th := fun _ => 0) (ts := fun _ => 0) (tc := fun _ => 0) (t := 0) (by omega)
  obtain ⟨s2, b1, b2, b3⟩ := m_clear (tk := upd (fun _ => 0) (9000 * 0) 0) (tw := upd (fun _ => 0) (9000 * 0) (-1)) (tv := upd (fun _ => 0) (9000 * 0) 0) (th := upd (fun _ => 0) (9000 * 0) (-1)) (ts := s1) (tc := upd (upd (fun _ => 0) 0 0) 0 1) (t := 1) (by omega)
  refine ⟨upd (upd (fun _ => 0) (9000 * 0) 0) (9000 * 1) 0, upd (upd (fun _ => 0) (9000 * 0) (-1)) (9000 * 1) (-1), upd (upd (fun _ => 0) (9000 * 0) 0) (9000 * 1) 0, upd (upd (fun _ => 0) (9000 * 0) (-1)) (9000 * 1) (-1), s2, upd (upd (upd (upd (fun _ => 0) 0 0) 0 1) 1 0) 1 1, ?_, fun t ht => ?_⟩
  rotate_left
  · have : t = 0 ∨ t = 1 := by omega
    rcases this with e | e
    · subst e
      refine ⟨?_, ?_, ?_, ?_, ?_, ?_⟩
      · rw [pk_un (by omega), pk_un (by omega)]; exact pk_us
      · rw [pk_un (by omega)]; exact pk_us
      · rw [pk_un (by omega)]; exact pk_us
      · rw [pk_un (by omega)]; exact pk_us
      · rw [pk_un (by omega)]; exact pk_us
      · rw [b3 _ (by omega)]; exact a2
    · subst e
      exact ⟨pk_us, pk_us, pk_us, pk_us, pk_us, b2⟩
  · unfold f_Mo_init
    exact (jb_ok a1).trans (jb_ok b1)
theorem TB_0 : TB 0 (fun _ => 0) (fun _ => 0) := ⟨by omega, Nat.zero_le _, rfl, fun k hk => absurd hk (by omega), ⟨fun i hi => absurd hi (Nat.not_lt_zero _), fun k hk => absurd hk (by omega)⟩, fun k j _ hj => absurd hj (by omega)⟩
theorem RNr_0 : RNr (fun _ => 0) (fun _ => 0) 0 (fun _ => 0) (fun _ => 0) := ⟨fun k _ => rfl, fun i hi => absurd hi (Nat.not_lt_zero _)⟩
theorem RNc_0 : RNc (fun _ => 0) (fun _ => 0) (fun _ => 0) (fun _ => 0) 0 (fun _ => 0) (fun _ => 0) := ⟨fun k _ => rfl, fun i hi => absurd hi (Nat.not_lt_zero _), fun h _ => rfl, fun k hk => absurd hk (by omega)⟩
end IN
