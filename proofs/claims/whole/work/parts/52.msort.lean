-- the reference's sorts
section MS
variable {K P V B : Nat → Nat} {m r : Nat} {mt mp ml ys : Nat → Int32} {s : Nat ⊕ Nat} {A : AR} {D : Nat}
theorem so_cases {p w v : Nat} (h : soE B p w = some v) : (w = 4 ∧ B p ≠ 84 ∧ v = 0) ∨ (w = 4 ∧ B p = 84 ∧ v = 1) ∨ (w = 5 ∧ B p = 84 ∧ 48 ≤ B (p + 4) ∧ v = 1 + (B (p + 4) - 48)) ∨ (w = 6 ∧ B p = 84 ∧ 48 ≤ B (p + 4) ∧ 48 ≤ B (p + 5) ∧ v = 1 + 10 * (B (p + 4) - 48) + (B (p + 5) - 48)) := by
  have jp := jw_prop
  have dg : ∀ c, digB c = true → 48 ≤ c := fun c hc => (of_decide_eq_true hc).1
  unfold soE at h
  by_cases q0 : spB B p w 0 = true
  · rw [if_pos q0] at h
    obtain ⟨g1, g2⟩ := spB_iff.mp q0
    have g3 := g2 0 (by omega)
    rw [jp.2.2.2.2.1, Nat.add_zero] at g3
    left
    exact ⟨by omega, by omega, (Option.some.inj h).symm⟩
  · rw [if_neg q0] at h
    by_cases q1 : spB B p 4 1 = true
    · rw [if_pos q1] at h
      obtain ⟨g1, g2⟩ := spB_iff.mp q1
      have g3 := g2 0 (by omega)
      rw [jp.2.2.2.2.2.1, Nat.add_zero] at g3
      right
      by_cases w4 : w = 4
      · rw [if_pos w4] at h
        left; exact ⟨w4, g3, (Option.some.inj h).symm⟩
      · rw [if_neg w4] at h
        right
        by_cases w5 : w = 5
        · rw [if_pos w5] at h
          by_cases d4 : digB (B (p + 4)) = true
          · rw [if_pos d4] at h
            left; exact ⟨w5, g3, dg _ d4, (Option.some.inj h).symm⟩
          · rw [if_neg d4] at h; cases h
        · rw [if_neg w5] at h
          by_cases w6 : w = 6
          · rw [if_pos w6] at h
            by_cases d4 : digB (B (p + 4)) = true ∧ ¬ B (p + 4) = 48 ∧ digB (B (p + 5)) = true
            · rw [if_pos d4] at h
              right; exact ⟨w6, g3, dg _ d4.1, dg _ d4.2.2, (Option.some.inj h).symm⟩
            · rw [if_neg d4] at h; cases h
          · rw [if_neg w6] at h; cases h
    · rw [if_neg q1] at h; cases h
def HV (K P V : Nat → Nat) (m : Nat) (ml ys : Nat → Int32) (B : Nat → Nat) : Prop := ∀ i, i ≤ m → K i = 3 → ∃ w, ml i = nI w ∧ P i + w ≤ 8000 ∧ (∀ k, k < w → B (P i + k) < 256 ∧ ys (P i + k) = nI (B (P i + k))) ∧ soE B (P i) w = some (V i)
theorem m_sort123 (h : HM K P m mt mp) (hs : ix s ≤ m) (hD : D < 20000) {x : Int32} : Mo_sort_b123 ys mt mp ml (sA s) (sB s) (sF P s) A.1 A.2.1 A.2.2.1 A.2.2.2.1 A.2.2.2.2.1 A.2.2.2.2.2 (nI D) x = some (nI D, sA (tokS K 3 s), sB (tokS K 3 s), sF P (tokS K 3 s), (dr A D 17 (nI (P (ix s))) x).1, (dr A D 17 (nI (P (ix s))) x).2.1, (dr A D 17 (nI (P (ix s))) x).2.2.1, (dr A D 17 (nI (P (ix s))) x).2.2.2.1, (dr A D 17 (nI (P (ix s))) x).2.2.2.2.1, (dr A D 17 (nI (P (ix s))) x).2.2.2.2.2, nI (D + 1)) := by
  have hm := h.1
  unfold Mo_sort_b123
  have e := m_take (r := 3) h hs (by omega) (by omega)
  have e1 : mp (sA s).toNatClampNeg = nI (P (ix s)) := by rw [sA_ix, nI_clamp (by omega)]; exact (h.2.1 _ hs).2
  have e2 : ¬ (sA s < 0 ∨ 8001 ≤ (sA s).toNatClampNeg) := by rw [sA_ix]; exact nI_in (by omega) (by omega)
  rw [if_neg e2, e1, m_draft hD, jb_some, show f_Mo_take mt mp (sA s) (sB s) (sF P s) 3 = _ from e, jb_some]
theorem m_sort (h : HM K P m mt mp) (hv : HV K P V m ml ys B) (hs : ix s ≤ m) (hD : D < 20000) : ∃ x, f_Mo_sort ys mt mp ml (sA s) (sB s) (sF P s) A.1 A.2.1 A.2.2.1 A.2.2.2.1 A.2.2.2.2.1 A.2.2.2.2.2 (nI D) = some (nI D, sA (tokS K 3 s), sB (tokS K 3 s), sF P (tokS K 3 s), (dr A D 17 (nI (P (ix s))) x).1, (dr A D 17 (nI (P (ix s))) x).2.1, (dr A D 17 (nI (P (ix s))) x).2.2.1, (dr A D 17 (nI (P (ix s))) x).2.2.2.1, (dr A D 17 (nI (P (ix s))) x).2.2.2.2.1, (dr A D 17 (nI (P (ix s))) x).2.2.2.2.2, nI (D + 1)) ∧ ∀ i, s = .inr i → K i = 3 → x = nI (V i) := by
  have hm := h.1
  have no : ¬ lk K s = 3 → ∃ x, f_Mo_sort ys mt mp ml (sA s) (sB s) (sF P s) A.1 A.2.1 A.2.2.1 A.2.2.2.1 A.2.2.2.2.1 A.2.2.2.2.2 (nI D) = some (nI D, sA (tokS K 3 s), sB (tokS K 3 s), sF P (tokS K 3 s), (dr A D 17 (nI (P (ix s))) x).1, (dr A D 17 (nI (P (ix s))) x).2.1, (dr A D 17 (nI (P (ix s))) x).2.2.1, (dr A D 17 (nI (P (ix s))) x).2.2.2.1, (dr A D 17 (nI (P (ix s))) x).2.2.2.2.1, (dr A D 17 (nI (P (ix s))) x).2.2.2.2.2, nI (D + 1)) := by
    intro q
    refine ⟨0, ?_⟩
    unfold f_Mo_sort
    rw [m_look h hs, jb_some, if_neg q]
    exact m_sort123 h hs hD
  cases s with
  | inl j =>
    obtain ⟨x, g⟩ := no (lk_bad (r := 3) (by omega) (by omega))
    exact ⟨x, g, fun i e => by cases e⟩
  | inr i =>
    have hi : i ≤ m := hs
    by_cases q : K i = 3
    · obtain ⟨w, e1, e2, e3, e4⟩ := hv i hi q
      have hin := nI_in (c := i) (N := 8001) (by omega) (by omega)
      have hin' := hin
      rw [nI_clamp (by omega)] at hin'
      have e5 := (h.2.1 i hi).2
      have hsc := so_cases e4
      have w4 : 4 ≤ w := by omega
      have y0 := e3 0 (by omega)
      rw [Nat.add_zero] at y0
      -- the first byte tells
      have L : f_Mo_sort ys mt mp ml (nI i) 0 (-1) A.1 A.2.1 A.2.2.1 A.2.2.2.1 A.2.2.2.2.1 A.2.2.2.2.2 (nI D) = if B (P i) = 84 then Mo_sort_b46 ys mt mp ml (nI i) 0 (-1) A.1 A.2.1 A.2.2.1 A.2.2.2.1 A.2.2.2.2.1 A.2.2.2.2.2 (nI D) 1 4 else Mo_sort_b123 ys mt mp ml (nI i) 0 (-1) A.1 A.2.1 A.2.2.1 A.2.2.2.1 A.2.2.2.2.1 A.2.2.2.2.2 (nI D) 0 := by
        unfold f_Mo_sort
        have lk3 : lk K (.inr i) = 3 := lk_eq (r := 3) h (by omega) q
        rw [show f_Mo_look mt (nI i) 0 = _ from m_look (s := .inr i) h hs, jb_some, if_pos lk3, if_neg hin, nI_clamp (by omega), e1, if_neg (show ¬ nI w ≤ 3 from nI_ge (a := 3) (by omega) (by omega)), if_neg hin', e5, if_neg (nI_in (c := P i) (N := 8000) (by omega) (by omega)), nI_clamp (by omega), y0.2]
        by_cases q84 : B (P i) = 84
        · rw [if_pos (show nI (B (P i)) = 84 by rw [q84]; rfl), if_pos q84]
        · rw [if_neg (show ¬ nI (B (P i)) = 84 from fun e => q84 ((nI_eq (b := 84) (by omega) (by omega)).mp e)), if_neg q84]
      -- one digit more
      have stop : ∀ l1 l2, w ≤ l2 → l2 < 100 → Mo_sort_b46 ys mt mp ml (nI i) 0 (-1) A.1 A.2.1 A.2.2.1 A.2.2.2.1 A.2.2.2.2.1 A.2.2.2.2.2 (nI D) l1 (nI l2) = Mo_sort_b123 ys mt mp ml (nI i) 0 (-1) A.1 A.2.1 A.2.2.1 A.2.2.2.1 A.2.2.2.2.1 A.2.2.2.2.2 (nI D) l1 := by
        intro l1 l2 hl hl2
        have g := m_sort123 (ys := ys) (ml := ml) (A := A) (x := l1) (s := .inr i) h hs hD
        rw [show Mo_sort_b123 ys mt mp ml (nI i) 0 (-1) A.1 A.2.1 A.2.2.1 A.2.2.2.1 A.2.2.2.2.1 A.2.2.2.2.2 (nI D) l1 = _ from g]
        unfold Mo_sort_b46
        apply jl_done
        show Mo_sort_b46_s ys mt mp ml (nI i) 0 (-1) A.1 A.2.1 A.2.2.1 A.2.2.2.1 A.2.2.2.2.1 A.2.2.2.2.2 (nI D) l1 (nI l2) = _
        unfold Mo_sort_b46_s
        rw [if_neg hin, nI_clamp (by omega), e1, if_pos (nI_le hl (by omega)), show Mo_sort_b123 ys mt mp ml (nI i) 0 (-1) A.1 A.2.1 A.2.2.1 A.2.2.2.1 A.2.2.2.2.1 A.2.2.2.2.2 (nI D) l1 = _ from g, jm_some]
      have more4 : 4 < w → ∀ l1, Mo_sort_b46 ys mt mp ml (nI i) 0 (-1) A.1 A.2.1 A.2.2.1 A.2.2.2.1 A.2.2.2.2.1 A.2.2.2.2.2 (nI D) l1 (nI 4) = Mo_sort_b46 ys mt mp ml (nI i) 0 (-1) A.1 A.2.1 A.2.2.1 A.2.2.2.1 A.2.2.2.2.1 A.2.2.2.2.2 (nI D) (1 + nI (B (P i + 4)) - 48) (nI 5) := by
        intro hw l1
        unfold Mo_sort_b46
        apply jl_step
        show Mo_sort_b46_s ys mt mp ml (nI i) 0 (-1) A.1 A.2.1 A.2.2.1 A.2.2.2.1 A.2.2.2.2.1 A.2.2.2.2.2 (nI D) l1 (nI 4) = _
        unfold Mo_sort_b46_s Mo_sort_b116
        have a4 : nI (P i) + 4 = nI (P i + 4) := nI_add (P i) 4
        rw [if_neg hin, nI_clamp (by omega), e1, if_neg (nI_ge (by omega) (by omega)), if_pos (show nI 4 = 4 by decide), if_neg hin', e5, a4, if_neg (nI_in (c := P i + 4) (N := 8000) (by omega) (by omega)), nI_clamp (by omega), (e3 4 hw).2]
        rfl
      have more5 : 5 < w → ∀ l1, Mo_sort_b46 ys mt mp ml (nI i) 0 (-1) A.1 A.2.1 A.2.2.1 A.2.2.2.1 A.2.2.2.2.1 A.2.2.2.2.2 (nI D) l1 (nI 5) = Mo_sort_b46 ys mt mp ml (nI i) 0 (-1) A.1 A.2.1 A.2.2.1 A.2.2.2.1 A.2.2.2.2.1 A.2.2.2.2.2 (nI D) (1 + 10 * (l1 - 1) + nI (B (P i + 5)) - 48) (nI 6) := by
        intro hw l1
        unfold Mo_sort_b46
        apply jl_step
        show Mo_sort_b46_s ys mt mp ml (nI i) 0 (-1) A.1 A.2.1 A.2.2.1 A.2.2.2.1 A.2.2.2.2.1 A.2.2.2.2.2 (nI D) l1 (nI 5) = _
        unfold Mo_sort_b46_s Mo_sort_b116
        have a5 : nI (P i) + nI 5 = nI (P i + 5) := nI_add (P i) 5
        rw [if_neg hin, nI_clamp (by omega), e1, if_neg (nI_ge (by omega) (by omega)), if_neg (show ¬ nI 5 = 4 by decide), if_neg hin', e5, a5, if_neg (nI_in (c := P i + 5) (N := 8000) (by omega) (by omega)), nI_clamp (by omega), (e3 5 hw).2]
        rfl
      have d1 : ∀ c, 48 ≤ c → (1 : Int32) + nI c - 48 = nI (1 + (c - 48)) := fun c hc => by
        have g1 : (1 : Int32) + nI c = nI (1 + c) := nI_add 1 c
        have g2 : nI (1 + c) - 48 = nI (1 + c - 48) := pk_sub (a := 1 + c) (b := 48) (by omega)
        rw [g1, g2, show 1 + c - 48 = 1 + (c - 48) by omega]
      have fin := fun x => m_sort123 (ys := ys) (ml := ml) (A := A) (x := x) (s := .inr i) h hs hD
      show ∃ x, f_Mo_sort ys mt mp ml (nI i) 0 (-1) A.1 A.2.1 A.2.2.1 A.2.2.2.1 A.2.2.2.2.1 A.2.2.2.2.2 (nI D) = _ ∧ _
      rw [L]
      rcases hsc with ⟨c1, c2, c3⟩ | ⟨c1, c2, c3⟩ | ⟨c1, c2, c4, c3⟩ | ⟨c1, c2, c4, c5, c3⟩
      · rw [if_neg c2]
        exact ⟨0, fin 0, fun i' e _ => by rw [← Sum.inr.inj e, c3]; rfl⟩
      · rw [if_pos c2]
        refine ⟨1, ?_, fun i' e _ => by rw [← Sum.inr.inj e, c3]; rfl⟩
        rw [show Mo_sort_b46 ys mt mp ml (nI i) 0 (-1) A.1 A.2.1 A.2.2.1 A.2.2.2.1 A.2.2.2.2.1 A.2.2.2.2.2 (nI D) 1 4 = _ from stop 1 4 (by omega) (by omega)]
        exact fin 1
      · rw [if_pos c2]
        refine ⟨nI (1 + (B (P i + 4) - 48)), ?_, fun i' e _ => by rw [← Sum.inr.inj e, c3]⟩
        rw [show Mo_sort_b46 ys mt mp ml (nI i) 0 (-1) A.1 A.2.1 A.2.2.1 A.2.2.2.1 A.2.2.2.2.1 A.2.2.2.2.2 (nI D) 1 4 = _ from more4 (by omega) 1, stop _ 5 (by omega) (by omega), d1 _ c4]
        exact fin _
      · rw [if_pos c2]
        refine ⟨nI (1 + 10 * (B (P i + 4) - 48) + (B (P i + 5) - 48)), ?_, fun i' e _ => by rw [← Sum.inr.inj e, c3]⟩
        have g1 : nI (1 + (B (P i + 4) - 48)) - 1 = nI (B (P i + 4) - 48) := by rw [Nat.add_comm]; exact nI_pred _
        have g2 : (10 : Int32) * nI (B (P i + 4) - 48) = nI (10 * (B (P i + 4) - 48)) := pk_mul 10 _
        have g3 : (1 : Int32) + nI (10 * (B (P i + 4) - 48)) = nI (1 + 10 * (B (P i + 4) - 48)) := nI_add 1 _
        have g4 : nI (1 + 10 * (B (P i + 4) - 48)) + nI (B (P i + 5)) - 48 = nI (1 + 10 * (B (P i + 4) - 48) + (B (P i + 5) - 48)) := by
          rw [nI_add]
          have := pk_sub (a := 1 + 10 * (B (P i + 4) - 48) + B (P i + 5)) (b := 48) (by omega)
          rw [show 1 + 10 * (B (P i + 4) - 48) + B (P i + 5) - 48 = 1 + 10 * (B (P i + 4) - 48) + (B (P i + 5) - 48) by omega] at this
          exact this
        rw [show Mo_sort_b46 ys mt mp ml (nI i) 0 (-1) A.1 A.2.1 A.2.2.1 A.2.2.2.1 A.2.2.2.2.1 A.2.2.2.2.2 (nI D) 1 4 = _ from more4 (by omega) 1, more5 (by omega), stop _ 6 (by omega) (by omega), d1 _ c4, g1, g2, g3, g4]
        exact fin _
    · obtain ⟨x, g⟩ := no (lk_ne (r := 3) h (by omega) q)
      exact ⟨x, g, fun i' e hk => absurd (by rw [Sum.inr.inj e]; exact hk) q⟩
end MS
