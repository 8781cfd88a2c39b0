-- the reference's term at every depth
section RF
variable {K P V B : Nat → Nat} {m r d : Nat} {tk tp tv mt mp ml ys : Nat → Int32} {s s' : Nat ⊕ Nat} {A A' A3 : AR} {D D' D3 x c i o : Nat} {F F' F1 F3 H : Fo} {R : Nat → Prop}
/-- a term where nothing is read any more -/
theorem m_12b {T : (Nat → Int32) → (Nat → Int32) → (Nat → Int32) → (Nat → Int32) → Int32 → Int32 → Int32 → (Nat → Int32) → (Nat → Int32) → (Nat → Int32) → (Nat → Int32) → (Nat → Int32) → (Nat → Int32) → Int32 → Int32 → Option (Int32 × Int32 × Int32 × Int32 × (Nat → Int32) × (Nat → Int32) × (Nat → Int32) × (Nat → Int32) × (Nat → Int32) × (Nat → Int32) × Int32)} {j : Nat} {a1 : Int32} (hs : sA s = nI j) (hn : ∃ q, f_Mo_need mp (sA s) (sB s) (sF P s) q = some (sB (.inl j), sF P (.inl j)) ∧ ∀ z, Mo_termS_b12 T ys mt mp ml (sA s) (sB s) (sF P s) A.1 A.2.1 A.2.2.1 A.2.2.2.1 A.2.2.2.2.1 A.2.2.2.2.2 (nI D) a1 q = z → f_Mo_termS T ys mt mp ml (sA s) (sB s) (sF P s) A.1 A.2.1 A.2.2.1 A.2.2.2.1 A.2.2.2.2.1 A.2.2.2.2.2 (nI D) a1 = z) (hD : D < 20000) (ha : ∃ d, a1 = nI d) : f_Mo_termS T ys mt mp ml (sA s) (sB s) (sF P s) A.1 A.2.1 A.2.2.1 A.2.2.2.1 A.2.2.2.2.1 A.2.2.2.2.2 (nI D) a1 = some (-1, sA (.inl j), sB (.inl j), sF P (.inl j), (dr A D 0 (-1) 0).1, (dr A D 0 (-1) 0).2.1, (dr A D 0 (-1) 0).2.2.1, (dr A D 0 (-1) 0).2.2.2.1, (dr A D 0 (-1) 0).2.2.2.2.1, (dr A D 0 (-1) 0).2.2.2.2.2, nI (D + 1)) := by
  obtain ⟨q, h1, h2⟩ := hn
  obtain ⟨d, ha⟩ := ha
  apply h2
  unfold Mo_termS_b12
  refine (jb_ok h1).trans ((jb_ok (m_draft hD)).trans ?_)
  show (if (1 : Int32) = 0 then _ else _) = _
  rw [if_neg (show ¬ (1 : Int32) = 0 by decide), ha, hs]
  have := m_end0 (P := P) (T := T) (ys := ys) (mt := mt) (mp := mp) (ml := ml) (d := d) (s := .inl j) (A := dr A D 0 (-1) 0) (D := D + 1) (l2 := D) (l3 := nI D) hD
  have e : (dr A D 0 (-1) 0).2.2.2.1 D = -1 := pk_us
  rw [e] at this
  exact this
theorem m_term (h : HT K P V m tk tp tv) (hM : HM K P m mt mp) (hV : HV K P V m ml ys B) (hP : HP K P m) : ∀ (k d n : Nat), d + k = 100 → k + 1 ≤ n → TS K P V m tk tp tv mt mp ml ys (f_Mo_term n) d := by
  intro k
  induction k with
  | zero =>
    intro d n hd hn s A D hs hW hD
    have hd' : d = 100 := by omega
    subst hd'
    obtain ⟨n', e⟩ : ∃ n', n = n' + 1 := ⟨n - 1, by omega⟩
    subst e
    have hlt := dr_lt hP hs (by omega) (by omega) hD
    have hfl : f_Mo_termS (f_Mo_term n') ys mt mp ml (sA s) (sB s) (sF P s) A.1 A.2.1 A.2.2.1 A.2.2.2.1 A.2.2.2.2.1 A.2.2.2.2.2 (nI D) (nI (100 + 1)) = some (-1, sA (flS s), sB (flS s), sF P (flS s), (dr A D 0 (-1) 0).1, (dr A D 0 (-1) 0).2.1, (dr A D 0 (-1) 0).2.2.1, (dr A D 0 (-1) 0).2.2.2.1, (dr A D 0 (-1) 0).2.2.2.2.1, (dr A D 0 (-1) 0).2.2.2.2.2, nI (D + 1)) := by
      have g := m_12b (P := P) (T := f_Mo_term n') (ys := ys) (mt := mt) (mp := mp) (ml := ml) (s := s) (A := A) (D := D) (j := ix s) (a1 := nI (100 + 1)) (sA_ix s) ⟨0, by
        have := m_need0 (s := s) hM hs
        cases s with
        | inl j => exact this
        | inr i => exact this, fun z hz => by
        unfold f_Mo_termS
        rw [if_pos (show (100 : Int32) < nI (100 + 1) by decide)]
        exact hz⟩ (by omega) ⟨101, rfl⟩
      cases s with
      | inl j => exact g
      | inr i => exact g
    refine ⟨flS s, .num 0, _, _, _, hfl, ?_, ?_, by rw [ix_fl]; exact hs, ?_, ?_⟩
    · cases s with
      | inl j => exact rfl
      | inr i => exact d_deepF hP rfl hs
    · refine ⟨fun i' e => ?_, fun i' e => ?_⟩
      · cases s with
        | inl j => cases e
        | inr i => cases e
      · cases s with
        | inl j => cases e
        | inr i => cases e
    · cases s with
      | inl j => exact rp_w rfl (W_dr hW) (by omega) (Or.inl rfl)
      | inr i => exact rp_w rfl (W_dr hW) (by omega) (Or.inl rfl)
    · cases s with
      | inl j => exact Nat.le_refl _
      | inr i =>
        have h1 : D ≤ 2 * P i + 8 := hD
        have h2 := hP.2.2.1 i hs
        show D + 1 ≤ 18200 - 20 * (100 + 1)
        omega
  | succ k ih =>
    intro d n hd hn s A D hs hW hD
    obtain ⟨n', e⟩ : ∃ n', n = n' + 1 := ⟨n - 1, by omega⟩
    subst e
    have hT := ih (d + 1) n' (by omega) (by omega)
    have hlt := dr_lt hP hs (by omega) (by omega) hD
    have not100 : ¬ (100 : Int32) < nI (d + 1) := nI_nlt (b := d + 1) (a := 100) (by omega) (by omega)
    cases s with
    | inl j =>
      have g := m_12b (P := P) (T := f_Mo_term n') (ys := ys) (mt := mt) (mp := mp) (ml := ml) (s := .inl j) (A := A) (D := D) (j := j) (a1 := nI (d + 1)) rfl ⟨1, m_need1, fun z hz => by
        unfold f_Mo_termS
        rw [if_neg not100]
        exact hz⟩ (by omega) ⟨d + 1, rfl⟩
      exact ⟨.inl j, .num 0, _, _, _, g, rfl, ⟨(fun i' e => by cases e), (fun i' e => by cases e)⟩, hs, rp_w rfl (W_dr hW) (by omega) (Or.inl rfl), Nat.le_refl _⟩
    | inr i =>
      have hDi : D ≤ 2 * P i + 8 := hD
      have hPi := hP.2.2.1 i hs
      obtain ⟨s', F, A', D', k1, k2, k3, k4, k5, k6, k7, k8⟩ := m_loop (l2 := D) h hM hV hP (show d + 1 ≤ 100 by omega) hT (by omega) m i (dr A D 0 (-1) 0) (D + 1) D (by omega) hs (W_dr hW) (by omega) (by omega)
      have run : f_Mo_term (n' + 1) ys mt mp ml (sA (.inr i)) (sB (.inr i)) (sF P (.inr i)) A.1 A.2.1 A.2.2.1 A.2.2.2.1 A.2.2.2.2.1 A.2.2.2.2.2 (nI D) (nI (d + 1)) = some (A'.2.2.2.1 D, sA s', sB s', sF P s', A'.1, A'.2.1, A'.2.2.1, A'.2.2.2.1, A'.2.2.2.2.1, A'.2.2.2.2.2, nI D') := by
        show f_Mo_termS (f_Mo_term n') ys mt mp ml (sA (.inr i)) (sB (.inr i)) (sF P (.inr i)) A.1 A.2.1 A.2.2.1 A.2.2.2.1 A.2.2.2.2.1 A.2.2.2.2.2 (nI D) (nI (d + 1)) = _
        unfold f_Mo_termS
        rw [if_neg not100]
        unfold Mo_termS_b12
        refine (jb_ok (m_need1 (mp := mp) (P := P) (s := .inr i))).trans ((jb_ok (m_draft (by omega))).trans ?_)
        show (if (0 : Int32) = 0 then _ else _) = _
        rw [if_pos (show (0 : Int32) = 0 from rfl)]
        exact k1
      refine ⟨s', F, A', D', A'.2.2.2.1 D, run, d_deep hP (by omega) hs k2, ⟨k3.1, fun i' e => wT_w (k3.2 i' e) (by omega)⟩, k4, ⟨k5, by omega, (k5 D (by omega)).2, fun i' e => ?_⟩, ?_⟩
      · obtain ⟨p1, p2, p3, y, p4, p5, p6, p7⟩ := k8 i' e
        have ny := nI_m1 (x := y) (by omega)
        have jf := jn_f (A := dr A D 0 (-1) 0) (o := D) (y := nI y) ny pk_us
        have eD : A'.2.2.2.1 D = nI y := by
          have := (p6 D (by omega)).2.2.2.1
          rw [jf] at this
          rw [this]
          exact pk_us
        refine ⟨fun z hz => ?_, p3, y, eD, p5, by omega, ch_mono _ _ _ _ _ _ p7 (fun z hz => by omega)⟩
        refine eqA_tr (eqA_tr (eqA_dr (k := 0) (p := -1) (v := 0) hz) ?_) (p6 z (by omega))
        rw [jf]
        exact ⟨rfl, rfl, rfl, pk_un (by omega), pk_un (by omega), rfl⟩
      · cases s' with
        | inl j =>
          have := k7 j rfl
          show D' ≤ 18200 - 20 * (d + 1)
          omega
        | inr i' =>
          obtain ⟨p1, _⟩ := k8 i' rfl
          show D' + 2 * P i ≤ D + 2 * P i' + 0
          omega
end RF
