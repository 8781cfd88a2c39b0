-- the reference's let, and the ends of its loop
section RF
variable {K P V B : Nat → Nat} {m r d : Nat} {tk tp tv mt mp ml ys : Nat → Int32} {s s' : Nat ⊕ Nat} {A A' A3 : AR} {D D' D3 x c i o : Nat} {F F' F1 F3 H : Fo} {R : Nat → Prop}
theorem m_472 {T : (Nat → Int32) → (Nat → Int32) → (Nat → Int32) → (Nat → Int32) → Int32 → Int32 → Int32 → (Nat → Int32) → (Nat → Int32) → (Nat → Int32) → (Nat → Int32) → (Nat → Int32) → (Nat → Int32) → Int32 → Int32 → Option (Int32 × Int32 × Int32 × Int32 × (Nat → Int32) × (Nat → Int32) × (Nat → Int32) × (Nat → Int32) × (Nat → Int32) × (Nat → Int32) × Int32)} {l2 : Nat} (h2 : l2 < 20000) : Mo_termS_b472 T ys mt mp ml (sA s) (sB s) (sF P s) A.1 A.2.1 A.2.2.1 A.2.2.2.1 A.2.2.2.2.1 A.2.2.2.2.2 (nI D) (nI l2) = some (A.2.2.2.1 l2, sA s, sB s, sF P s, A.1, A.2.1, A.2.2.1, A.2.2.2.1, A.2.2.2.2.1, A.2.2.2.2.2, nI D) := by
  unfold Mo_termS_b472
  rw [if_neg (nI_in h2 (by omega)), nI_clamp (by omega)]
theorem m_end0 {T : (Nat → Int32) → (Nat → Int32) → (Nat → Int32) → (Nat → Int32) → Int32 → Int32 → Int32 → (Nat → Int32) → (Nat → Int32) → (Nat → Int32) → (Nat → Int32) → (Nat → Int32) → (Nat → Int32) → Int32 → Int32 → Option (Int32 × Int32 × Int32 × Int32 × (Nat → Int32) × (Nat → Int32) × (Nat → Int32) × (Nat → Int32) × (Nat → Int32) × (Nat → Int32) × Int32)} {l2 : Nat} {l3 : Int32} (h2 : l2 < 20000) : Mo_termS_b39 T ys mt mp ml (sA s) (sB s) (sF P s) A.1 A.2.1 A.2.2.1 A.2.2.2.1 A.2.2.2.2.1 A.2.2.2.2.2 (nI D) (nI d) (nI l2) l3 0 = some (A.2.2.2.1 l2, sA s, sB s, sF P s, A.1, A.2.1, A.2.2.1, A.2.2.2.1, A.2.2.2.2.1, A.2.2.2.2.2, nI D) := by
  unfold Mo_termS_b39
  refine jl_jm ?_
  show Mo_termS_b39_s T ys mt mp ml (nI d) (nI l2) (sA s) (sB s) (sF P s) A.1 A.2.1 A.2.2.1 A.2.2.2.1 A.2.2.2.2.1 A.2.2.2.2.2 (nI D) l3 0 = _
  unfold Mo_termS_b39_s
  rw [if_pos (show (0 : Int32) = 0 from rfl), m_472 h2]
theorem m_endB {T : (Nat → Int32) → (Nat → Int32) → (Nat → Int32) → (Nat → Int32) → Int32 → Int32 → Int32 → (Nat → Int32) → (Nat → Int32) → (Nat → Int32) → (Nat → Int32) → (Nat → Int32) → (Nat → Int32) → Int32 → Int32 → Option (Int32 × Int32 × Int32 × Int32 × (Nat → Int32) × (Nat → Int32) × (Nat → Int32) × (Nat → Int32) × (Nat → Int32) × (Nat → Int32) × Int32)} {l2 j : Nat} {l3 : Int32} (h2 : l2 < 20000) : Mo_termS_b39 T ys mt mp ml (sA (.inl j)) (sB (.inl j)) (sF P (.inl j)) A.1 A.2.1 A.2.2.1 A.2.2.2.1 A.2.2.2.2.1 A.2.2.2.2.2 (nI D) (nI d) (nI l2) l3 1 = some (A.2.2.2.1 l2, sA (.inl j), sB (.inl j), sF P (.inl j), A.1, A.2.1, A.2.2.1, A.2.2.2.1, A.2.2.2.2.1, A.2.2.2.2.2, nI D) := by
  unfold Mo_termS_b39
  refine jl_jm ?_
  show Mo_termS_b39_s T ys mt mp ml (nI d) (nI l2) (sA (.inl j)) (sB (.inl j)) (sF P (.inl j)) A.1 A.2.1 A.2.2.1 A.2.2.2.1 A.2.2.2.2.1 A.2.2.2.2.2 (nI D) l3 1 = _
  unfold Mo_termS_b39_s
  rw [if_neg (show ¬ (1 : Int32) = 0 by decide), if_neg (show ¬ sB (.inl j) = 0 by show ¬ (1 : Int32) = 0; decide), m_472 h2]
theorem m_341b {T : (Nat → Int32) → (Nat → Int32) → (Nat → Int32) → (Nat → Int32) → Int32 → Int32 → Int32 → (Nat → Int32) → (Nat → Int32) → (Nat → Int32) → (Nat → Int32) → (Nat → Int32) → (Nat → Int32) → Int32 → Int32 → Option (Int32 × Int32 × Int32 × Int32 × (Nat → Int32) × (Nat → Int32) × (Nat → Int32) × (Nat → Int32) × (Nat → Int32) × (Nat → Int32) × Int32)} {l2 l3 l6 : Int32} {j : Nat} (hM : HM K P m mt mp) (hj : j ≤ m) : Mo_termS_b341 T ys mt mp ml (sA (.inl j)) (sB (.inl j)) (sF P (.inl j)) A.1 A.2.1 A.2.2.1 A.2.2.2.1 A.2.2.2.2.1 A.2.2.2.2.2 (nI D) (nI d) l2 l3 l6 = some (.inl (sA (.inl j), sB (.inl j), sF P (.inl j), A.1, A.2.1, A.2.2.1, A.2.2.2.1, A.2.2.2.2.1, A.2.2.2.2.2, nI D, l3, 0)) := by
  unfold Mo_termS_b341
  refine jl_jm ?_
  show Mo_termS_b341_s T ys mt mp ml (nI d) l2 l3 (sA (.inl j)) (sB (.inl j)) (sF P (.inl j)) A.1 A.2.1 A.2.2.1 A.2.2.2.1 A.2.2.2.2.1 A.2.2.2.2.2 (nI D) l6 = _
  unfold Mo_termS_b341_s
  rw [if_neg (show ¬ sB (.inl j) = 0 by show ¬ (1 : Int32) = 0; decide), m_397n (s := .inl j) hM hj (lk_bad (r := 20) (by omega) (by omega))]
  unfold Mo_termS_b452
  rw [if_neg (show ¬ sB (.inl j) = 0 by show ¬ (1 : Int32) = 0; decide)]
  rfl
theorem m_let {T : (Nat → Int32) → (Nat → Int32) → (Nat → Int32) → (Nat → Int32) → Int32 → Int32 → Int32 → (Nat → Int32) → (Nat → Int32) → (Nat → Int32) → (Nat → Int32) → (Nat → Int32) → (Nat → Int32) → Int32 → Int32 → Option (Int32 × Int32 × Int32 × Int32 × (Nat → Int32) × (Nat → Int32) × (Nat → Int32) × (Nat → Int32) × (Nat → Int32) × (Nat → Int32) × Int32)} {l2 : Int32} (h : HT K P V m tk tp tv) (hM : HM K P m mt mp) (hP : HP K P m) (hd : d ≤ 100) (hT : TS K P V m tk tp tv mt mp ml ys T d) (hi : i ≤ m) (hW : Wj A D) (hD : D ≤ 2 * P i + 9) (ho : o < D) (hk : K i = 12) : ∃ (s2 s4 : Nat ⊕ Nat) (F2 F3 : Fo) (A3 : AR) (D3 : Nat) (R : Nat → Prop), Mo_termS_b39_s T ys mt mp ml (nI d) l2 (sA (.inr i)) (sB (.inr i)) (sF P (.inr i)) A.1 A.2.1 A.2.2.1 A.2.2.2.1 A.2.2.2.2.1 A.2.2.2.2.2 (nI D) (nI o) 1 = some (.inl (sA (tokS K 13 s4), sB (tokS K 13 s4), sF P (tokS K 13 s4), (jn A3 o (nI D)).1, (jn A3 o (nI D)).2.1, (jn A3 o (nI D)).2.2.1, (jn A3 o (nI D)).2.2.2.1, (jn A3 o (nI D)).2.2.2.2.1, (jn A3 o (nI D)).2.2.2.2.2, nI D3, nI D, 1)) ∧ Dv K P V m tk tp tv 36 d (tokS K 2 (tokS K 12 (.inr i))) s2 F2 ∧ Dv K P V m tk tp tv 38 d (tokS K 18 s2) s4 F3 ∧ ix s4 ≤ m ∧ Wj A3 D3 ∧ D + 1 ≤ D3 ∧ (∀ j, s4 = .inl j → D3 ≤ 18200 - 20 * (d + 1) + 5) ∧ (∀ i4, s4 = .inr i4 → ON P V A3 R D (12 + 32 * i) (.add (.add (.add (.num 0) (lfF 9 (tokS K 12 (.inr i)))) F2) F3) ∧ (∀ z, R z → D + 1 ≤ z ∧ z < D3) ∧ (∀ z, z < D → eqA A A3 z) ∧ D3 + 2 * P i ≤ D + 2 * P i4 ∧ wN (1 + 3 * (100 - d)) F2 ∧ wT (1 + 3 * (100 - d)) F3) := by
  have hs : ix (.inr i : Nat ⊕ Nat) ≤ m := hi
  have him := lt_m hP hi (by omega)
  have hp := (hP.1 i him).1
  have hPi := hP.2.2.1 i hi
  have hm := hM.1
  have hin := nI_in (c := i) (N := 8001) (by omega) (by omega)
  have epl : mp (nI i).toNatClampNeg = nI (P i) := by rw [nI_clamp (by omega)]; exact (hM.2.1 i hi).2
  have e12 : tokS K 12 (.inr i) = .inr (i + 1) := if_pos hk
  have hs1 : ix (.inr (i + 1) : Nat ⊕ Nat) ≤ m := him
  have ed : nI d + 1 = nI (d + 1) := nI_1 d
  have g0 := m_look (mp := mp) (P := P) (s := .inr i) hM hs
  have c1 : (12 + 32 * i) % 32 = 12 := by omega
  have c2 : (12 + 32 * i) / 32 = i := by omega
  have o0 : ON P V (dr A D 12 (nI (P i)) 0) (fun _ => False) D (12 + 32 * i) (.num 0) := on_new (by rw [c1]; rfl) (by rw [c1, c2]; rfl) (by rw [c1]; rfl)
  have g1 := m_draft (A := A) (D := D) (k := 12) (p := nI (P i)) (v := 0) (by omega)
  have w1 : Wj (dr A D 12 (nI (P i)) 0) (D + 1) := W_dr hW
  have g2 := m_take (r := 12) (s := .inr i) hM hs (by omega) (by omega)
  rw [e12] at g2
  have g3 := m_name (A := dr A D 12 (nI (P i)) 0) (D := D + 1) (k := 9) (s := .inr (i + 1)) hM hs1 (by omega)
  have w2 : Wj (dr (dr A D 12 (nI (P i)) 0) (D + 1) 9 (nI (P (i + 1))) (nI (i + 1))) (D + 1 + 1) := W_dr w1
  have g4 := m_join (o := D) (y := nI (D + 1)) w2 (by omega) (by omega)
  have w3 := W_jn (o := D) (y := nI (D + 1)) w2 (Or.inr ⟨D + 1, by omega, rfl⟩)
  have hs2 : ix (tokS K 2 (.inr (i + 1))) ≤ m := ix_tok hP hs1 (by omega)
  obtain ⟨s2, F2, A4, D4, v2, t1, t2, t3, t4, t5, t6⟩ := m_told (A := jn (dr (dr A D 12 (nI (P i)) 0) (D + 1) 9 (nI (P (i + 1))) (nI (i + 1))) D (nI (D + 1))) (D := D + 1 + 1) h hM hP hd hT hs2 w3 (by
    cases hq : tokS K 2 (.inr (i + 1)) with
    | inl j => show D + 1 + 1 ≤ 19900; omega
    | inr i2 =>
      obtain ⟨i1, e1, k1, f1⟩ := tokS_inr hq
      have e1' : i + 1 = i1 := Sum.inr.inj e1
      subst e1'
      subst f1
      have := (hP.1 (i + 1) (lt_m hP him (by omega))).1
      show D + 1 + 1 ≤ 2 * P (i + 1 + 1) + 8
      omega)
  have D4b : D4 ≤ 18300 := by
    cases hq : tokS K 2 (.inr (i + 1)) with
    | inl j => rw [hq] at t5; have a1 : D4 ≤ D + 1 + 1 + 1 := t5; omega
    | inr i2 =>
      rw [hq] at t5
      cases s2 with
      | inl j => have a1 : D4 ≤ 18200 - 20 * (d + 1) := t5; omega
      | inr i3 =>
        have a1 : D4 + 2 * P i2 ≤ D + 1 + 1 + 2 * P i3 + 1 := t5
        obtain ⟨i1, e1, k1, f1⟩ := tokS_inr hq
        have e1' : i + 1 = i1 := Sum.inr.inj e1
        subst e1'
        subst f1
        have := (hP.1 (i + 1) (lt_m hP him (by omega))).1
        have := hP.2.2.1 i3 t3
        omega
  have tD := t4.2.1
  have g5 := m_join (o := D) (y := v2) t4.1 (by omega) (by omega)
  have w5 := W_jn (o := D) t4.1 t4.2.2.1
  have g6 := m_take (r := 18) hM t3 (by omega) (by omega)
  have hs3 : ix (tokS K 18 s2) ≤ m := ix_tok hP t3 (by omega)
  -- what ends it
  have fin : ∀ (s4 : Nat ⊕ Nat) (A6 : AR) (D6 : Nat) (v4 : Int32), ix s4 ≤ m → Wj A6 D6 → D < D6 → D6 ≤ 20000 → (v4 = -1 ∨ ∃ z, z < D6 ∧ v4 = nI z) → Mo_termS_b140 T ys mt mp ml (sA s4) (sB s4) (sF P s4) A6.1 A6.2.1 A6.2.2.1 A6.2.2.2.1 A6.2.2.2.2.1 A6.2.2.2.2.2 (nI D6) (nI d) l2 (nI o) 1 (nI D) v4 (nI D) = some (.inl (sA (tokS K 13 s4), sB (tokS K 13 s4), sF P (tokS K 13 s4), (jn (jn A6 D v4) o (nI D)).1, (jn (jn A6 D v4) o (nI D)).2.1, (jn (jn A6 D v4) o (nI D)).2.2.1, (jn (jn A6 D v4) o (nI D)).2.2.2.1, (jn (jn A6 D v4) o (nI D)).2.2.2.2.1, (jn (jn A6 D v4) o (nI D)).2.2.2.2.2, nI D6, nI D, 1)) := by
    intro s4 A6 D6 v4 h4 hw hD6 hD6' hv
    unfold Mo_termS_b140
    exact (jb_ok (m_join (o := D) (y := v4) hw hD6 hD6')).trans ((jb_ok (m_take (r := 13) hM h4 (by omega) (by omega))).trans (jb_ok (m_join (A := jn A6 D v4) (o := o) (y := nI D) (W_jn (o := D) hw hv) (by omega) hD6')))
  have start : ∀ z, (if sB (tokS K 18 s2) = 0 then jb (T ys mt mp ml (sA (tokS K 18 s2)) (sB (tokS K 18 s2)) (sF P (tokS K 18 s2)) (jn A4 D v2).1 (jn A4 D v2).2.1 (jn A4 D v2).2.2.1 (jn A4 D v2).2.2.2.1 (jn A4 D v2).2.2.2.2.1 (jn A4 D v2).2.2.2.2.2 (nI D4) (nI (d + 1))) (fun o145 => Mo_termS_b140 T ys mt mp ml o145.2.1 o145.2.2.1 o145.2.2.2.1 o145.2.2.2.2.1 o145.2.2.2.2.2.1 o145.2.2.2.2.2.2.1 o145.2.2.2.2.2.2.2.1 o145.2.2.2.2.2.2.2.2.1 o145.2.2.2.2.2.2.2.2.2.1 o145.2.2.2.2.2.2.2.2.2.2 (nI d) l2 (nI o) 1 (nI D) o145.1 (nI D)) else Mo_termS_b140 T ys mt mp ml (sA (tokS K 18 s2)) (sB (tokS K 18 s2)) (sF P (tokS K 18 s2)) (jn A4 D v2).1 (jn A4 D v2).2.1 (jn A4 D v2).2.2.1 (jn A4 D v2).2.2.2.1 (jn A4 D v2).2.2.2.2.1 (jn A4 D v2).2.2.2.2.2 (nI D4) (nI d) l2 (nI o) 1 (nI D) (-1) (nI D)) = z → Mo_termS_b39_s T ys mt mp ml (nI d) l2 (sA (.inr i)) (sB (.inr i)) (sF P (.inr i)) A.1 A.2.1 A.2.2.1 A.2.2.2.1 A.2.2.2.2.1 A.2.2.2.2.2 (nI D) (nI o) 1 = z := by
    intro z hz
    unfold Mo_termS_b39_s
    rw [if_neg (show ¬ (1 : Int32) = 0 by decide), if_pos (show sB (.inr i) = 0 from rfl)]
    refine (jb_ok g0).trans ?_
    rw [if_pos (show lk K (.inr i) = 28 from lk_eq (r := 12) hM (by omega) hk)]
    show (if nI i < 0 ∨ 8001 ≤ (nI i).toNatClampNeg then none else _) = _
    rw [if_neg hin]
    show jb (f_Mo_draft A.1 A.2.1 A.2.2.1 A.2.2.2.1 A.2.2.2.2.1 A.2.2.2.2.2 (nI D) 12 (mp (nI i).toNatClampNeg) 0) _ = _
    rw [epl, ed]
    exact (jb_ok g1).trans ((jb_ok g2).trans ((jb_ok g3).trans ((jb_ok g4).trans ((jb_ok t1).trans ((jb_ok g5).trans ((jb_ok g6).trans hz))))))
  cases hq3 : tokS K 18 s2 with
  | inl j =>
    refine ⟨s2, .inl j, F2, .num 0, jn (jn A4 D v2) D (-1), D4, (fun _ => False), ?_, ?_, by rw [hq3]; exact rfl, by rw [hq3] at hs3; exact hs3, W_jn w5 (Or.inl rfl), by omega, fun j' _ => ?_, fun i4 e => by cases e⟩
    · apply start
      rw [hq3, if_neg (show ¬ sB (.inl j) = 0 by show ¬ (1 : Int32) = 0; decide)]
      exact fin (.inl j) (jn A4 D v2) D4 (-1) (by rw [hq3] at hs3; exact hs3) w5 (by omega) (by omega) (Or.inl rfl)
    · rw [e12]; exact t2
    · cases hq : tokS K 2 (.inr (i + 1)) with
      | inl j1 => rw [hq] at t5; have a1 : D4 ≤ D + 1 + 1 + 1 := t5; omega
      | inr i2 =>
        rw [hq] at t5
        cases s2 with
        | inl j2 => have a1 : D4 ≤ 18200 - 20 * (d + 1) := t5; omega
        | inr i3 =>
          have a1 : D4 + 2 * P i2 ≤ D + 1 + 1 + 2 * P i3 + 1 := t5
          obtain ⟨i1, e1, k1, f1⟩ := tokS_inr hq
          have e1' : i + 1 = i1 := Sum.inr.inj e1
          subst e1'
          subst f1
          have := (hP.1 (i + 1) (lt_m hP him (by omega))).1
          have := hP.2.2.1 i3 t3
          omega
  | inr i3 =>
    obtain ⟨i2, e2, k2, f2⟩ := tokS_inr hq3
    subst e2
    subst f2
    obtain ⟨i1, e1⟩ := dv_inr t2
    obtain ⟨i0, e0, k0, f0⟩ := tokS_inr e1
    have e0' : i + 1 = i0 := Sum.inr.inj e0
    subst e0'
    subst f0
    rw [e1] at t5
    have a1 : D4 + 2 * P (i + 1 + 1) ≤ D + 1 + 1 + 2 * P i2 + 1 := t5
    have hp1 := (hP.1 (i + 1) (lt_m hP him (by omega))).1
    have him2 := lt_m (i := i2) hP t3 (by omega)
    have hp2 := (hP.1 i2 him2).1
    obtain ⟨s4, F3, A6, D6, v4, u1, u2, u3, u4, u5, u6⟩ := hT (.inr (i2 + 1)) (jn A4 D v2) D4 him2 w5 (by show D4 ≤ 2 * P (i2 + 1) + 8; omega)
    have hPi2 := hP.2.2.1 i2 t3
    have D6b : D6 ≤ 18300 := by
      cases s4 with
      | inl j => have b1 : D6 ≤ 18200 - 20 * (d + 1) := u6; omega
      | inr i4 => have b1 : D6 + 2 * P (i2 + 1) ≤ D4 + 2 * P i4 + 0 := u6; have := hP.2.2.1 i4 u4; omega
    have uD := u5.2.1
    refine ⟨.inr i2, s4, F2, F3, jn A6 D v4, D6, (fun z => ((False ∨ (D + 1 ≤ z ∧ z < D + 1 + 1)) ∨ (D + 1 + 1 ≤ z ∧ z < D4)) ∨ (D4 ≤ z ∧ z < D6)), ?_, ?_, by rw [hq3]; exact u2, u4, W_jn u5.1 u5.2.2.1, by omega, fun j e => ?_, fun i4 e => ?_⟩
    · apply start
      rw [hq3, if_pos (show sB (.inr (i2 + 1)) = 0 from rfl)]
      exact (jb_ok u1).trans (fin s4 A6 D6 v4 u4 u5.1 (by omega) (by omega) u5.2.2.1)
    · rw [e12]; exact t2
    · subst e; have b1 : D6 ≤ 18200 - 20 * (d + 1) := u6; omega
    · subst e
      have b1 : D6 + 2 * P (i2 + 1) ≤ D4 + 2 * P i4 + 0 := u6
      obtain ⟨o1, f1⟩ := on_rp (s' := .inr (i + 1 + 1)) (D := D + 1) (D' := D + 1 + 1) rfl (by omega) o0 (fun z hz => absurd hz id) (by omega) (rp_name (s' := .inr (i + 1 + 1)) (c := 9) (i := i + 1) (Or.inl rfl) w1)
      obtain ⟨o2, f2⟩ := on_rp (s' := .inr i2) rfl (by omega) o1 (fun z hz => by rcases hz with a | a; exact absurd a id; exact a.2) (by omega) t4
      obtain ⟨o3, f3⟩ := on_rp (s' := .inr i4) rfl (by omega) o2 (fun z hz => by rcases hz with (a | a) | a; exact absurd a id; omega; exact a.2) (by omega) u5
      rw [e12]
      refine ⟨o3, fun z hz => by rcases hz with ((a | a) | a) | a; exact absurd a id; omega; omega; omega, fun z hz => ?_, by omega, t6 i2 rfl, u3.2 i4 rfl⟩
      refine eqA_tr (eqA_tr (eqA_tr (eqA_dr hz) (f1 z (by omega) (by omega) id)) (f2 z (by omega) (by omega) (fun a => by rcases a with a | a; exact a; omega))) (f3 z (by omega) (by omega) (fun a => by rcases a with (a | a) | a; exact a; omega; omega))
end RF
