-- what begins no declaration
section RF
variable {K P V B : Nat → Nat} {m r d k e : Nat} {tk tp tv mt mp ml ys : Nat → Int32} {s s' : Nat ⊕ Nat} {A A' A3 A0 : AR} {D D' D3 x c i o lo : Nat} {F F' F1 F3 H : Fo} {R : Nat → Prop}
theorem so_bad {j : Nat} {k' p v : Int32} (hj : j ≤ m) : SO P V A 0 m 0 c 8 0 (.inl j) (dr A 0 k' p v) 1 (fun _ => False) (.num 0) := ⟨hj, W_dr Wj_0, ⟨Nat.le_refl _, by omega⟩, fun j' _ => by omega, fun i' ee => by cases ee⟩
theorem m_49b {j : Nat} {l1 s1 : Int32} (h : HT K P V m tk tp tv) (hM : HM K P m mt mp) (hP : HP K P m) (hT : TS K P V m tk tp tv mt mp ml ys (f_Mo_term 102) 0) (hj : j ≤ m) (h1 : ¬ l1 = 21) (h2 : ¬ l1 = 22) (h3 : ¬ l1 = 23) (h4 : ¬ l1 = 24) : ∃ (A' : AR) (D' : Nat) (v : Int32), Mo_declaration_b49 ys mt mp ml (sA (.inl j)) (sB (.inl j)) (sF P (.inl j)) A.1 A.2.1 A.2.2.1 A.2.2.2.1 A.2.2.2.2.1 A.2.2.2.2.2 0 l1 s1 = some (v, sA (.inl j), sB (.inl j), sF P (.inl j), A'.1, A'.2.1, A'.2.2.1, A'.2.2.2.1, A'.2.2.2.2.1, A'.2.2.2.2.2, nI D') := by
  have hm := hM.1
  have hin := nI_in (c := j) (N := 8001) (by omega) (by omega)
  have S1 : SO P V A 0 m 0 0 8 0 (.inl j) (dr A 0 s1 (mp (nI j).toNatClampNeg) 0) 1 (fun _ => False) (.num 0) := so_bad hj
  have g1 := m_draft (A := A) (D := 0) (k := s1) (p := mp (nI j).toNatClampNeg) (v := 0) (by omega)
  have g2 := m_takeB (a1 := l1) hM hj
  have open49 : ∀ z, _ = z → Mo_declaration_b49 ys mt mp ml (sA (.inl j)) (sB (.inl j)) (sF P (.inl j)) A.1 A.2.1 A.2.2.1 A.2.2.2.1 A.2.2.2.2.1 A.2.2.2.2.2 0 l1 s1 = z := fun z hz => by
    unfold Mo_declaration_b49
    show (if nI j < 0 ∨ 8001 ≤ (nI j).toNatClampNeg then none else _) = _
    rw [if_neg hin]
    exact (jb_ok g1).trans ((jb_ok g2).trans hz)
  by_cases q : (23 : Int32) < l1
  · have g3 := m_join (o := 0) (y := -1) S1.2.1 (by omega) (by omega)
    refine ⟨jn (dr A 0 s1 (mp (nI j).toNatClampNeg) 0) 0 (-1), 1, nI 0, ?_⟩
    apply open49
    rw [if_pos q]
    show (if (1 : Int32) = 0 then _ else _) = _
    rw [if_neg (show ¬ (1 : Int32) = 0 by decide)]
    unfold Mo_declaration_b158
    refine (jb_ok g3).trans ?_
    rw [if_neg h4]
    exact m_177n (A := jn (dr A 0 s1 (mp (nI j).toNatClampNeg) 0) 0 (-1)) (s := .inl j) (D := 1) (l2 := nI 0) hM hj h1 h2 h3
  · have g3 := m_name (A := dr A 0 s1 (mp (nI j).toNatClampNeg) 0) (D := 1) (k := 9) (s := .inl j) hM hj (by omega)
    obtain ⟨S2, w2⟩ := so_name hP (by omega) (by omega) S1
    have g4 := m_join (o := 0) (y := nI 1) w2 (by omega) (by omega)
    obtain ⟨s3, Gs, X, A3, D3, R3, g5, d3, S3, v3⟩ := so_groups h hM hP (by omega) hT (by omega) (by omega) S2
    cases s3 with
    | inr i3 => exact absurd d3 id
    | inl j3 =>
      have ej : j3 = j := d3
      subst ej
      have g6 := m_takeB (a1 := 6) hM hj
      have hx := S3.2.2.1
      have hlt := so_lt hP (by omega) (by omega) S3
      have g7 := m_join (o := 0) (y := -1) S3.2.1 (by omega) (by omega)
      refine ⟨jn A3 0 (-1), D3, nI 0, ?_⟩
      apply open49
      rw [if_neg q]
      refine (jb_ok g3).trans ((jb_ok g4).trans ((jb_ok g5).trans ?_))
      rw [if_neg h1]
      refine (jb_ok g6).trans ?_
      show (if (1 : Int32) = 0 then _ else _) = _
      rw [if_neg (show ¬ (1 : Int32) = 0 by decide)]
      unfold Mo_declaration_b134
      refine (jb_ok g7).trans ?_
      exact m_177n (A := jn A3 0 (-1)) (s := .inl j3) (D := D3) (l2 := nI 0) hM hj h1 h2 h3
theorem cm_decl : ∀ a, a < 24 → (a < 4 ∨ 9 < a) → (cm a < 20 ∨ 25 < cm a) ∧ cm a < 40 := by decide +kernel
theorem m_decl (h : HT K P V m tk tp tv) (hM : HM K P m mt mp) (hP : HP K P m) (hT : TS K P V m tk tp tv mt mp ml ys (f_Mo_term 102) 0) (hi : i ≤ m) : ∃ (s' : Nat ⊕ Nat) (F : Fo) (A' : AR) (D' : Nat) (v : Int32), f_Mo_declaration ys mt mp ml (sA (.inr i)) (sB (.inr i)) (sF P (.inr i)) A.1 A.2.1 A.2.2.1 A.2.2.2.1 A.2.2.2.2.1 A.2.2.2.2.2 0 = some (v, sA s', sB s', sF P s', A'.1, A'.2.1, A'.2.2.1, A'.2.2.2.1, A'.2.2.2.2.1, A'.2.2.2.2.2, nI D') ∧ MD K P V m tk tp tv i s' F A' D' v := by
  have hk := h.2.2 i
  by_cases q4 : K i = 4
  · exact md_axi h hM hP hT hi q4
  by_cases q5 : K i = 5
  · exact md_def h hM hP hT hi q5
  by_cases q6 : K i = 6
  · exact md_lem h hM hP hT hi q6
  by_cases q7 : K i = 7
  · exact md_dat h hM hP hT hi q7
  by_cases q8 : K i = 8
  · exact md_chk h hM hP hT hi q8
  by_cases q9 : K i = 9
  · exact md_nrm h hM hP hT hi q9
  have hs : ix (.inr i : Nat ⊕ Nat) ≤ m := hi
  have hc := cm_decl (K i) (by omega) (by omega)
  have g0 := m_look (mp := mp) (P := P) (s := .inr i) hM hs
  have ne : ∀ a, 20 ≤ a → a ≤ 25 → ¬ lk K (.inr i) = nI a := fun a h1 h2 ee => by
    have e1 : nI (cm (K i)) = nI a := ee
    have := (nI_eq (by omega) (by omega)).mp e1
    omega
  have run : ∃ (A' : AR) (D' : Nat) (v : Int32), Mo_declaration_b23 ys mt mp ml (sA (.inr i)) (sB (.inr i)) (sF P (.inr i)) A.1 A.2.1 A.2.2.1 A.2.2.2.1 A.2.2.2.2.1 A.2.2.2.2.2 0 (lk K (.inr i)) 0 = some (v, sA (.inl i), sB (.inl i), sF P (.inl i), A'.1, A'.2.1, A'.2.2.1, A'.2.2.2.1, A'.2.2.2.2.1, A'.2.2.2.2.2, nI D') := by
    by_cases q : (23 : Int32) < lk K (.inr i)
    · obtain ⟨A', D', v, g⟩ := m_49b (A := A) (l1 := lk K (.inr i)) (s1 := lk K (.inr i) - 24 + 6) h hM hP hT hi (ne 21 (by omega) (by omega)) (ne 22 (by omega) (by omega)) (ne 23 (by omega) (by omega)) (ne 24 (by omega) (by omega))
      refine ⟨A', D', v, ?_⟩
      unfold Mo_declaration_b23
      refine (jb_ok (m_need0 (s := .inr i) hM hs)).trans ?_
      rw [if_pos q]
      exact g
    · obtain ⟨A', D', v, g⟩ := m_49b (A := A) (l1 := lk K (.inr i)) (s1 := lk K (.inr i) - 20 + 1) h hM hP hT hi (ne 21 (by omega) (by omega)) (ne 22 (by omega) (by omega)) (ne 23 (by omega) (by omega)) (ne 24 (by omega) (by omega))
      refine ⟨A', D', v, ?_⟩
      unfold Mo_declaration_b23
      refine (jb_ok (m_need0 (s := .inr i) hM hs)).trans ?_
      rw [if_neg q]
      exact g
  obtain ⟨A', D', v, g⟩ := run
  refine ⟨.inl i, .num 0, A', D', v, ?_, hi, fun j ee => ?_, fun i' ee => by cases ee⟩
  · unfold f_Mo_declaration
    refine (jb_ok g0).trans ?_
    unfold Mo_declaration_b22
    rcases hc.1 with q | q
    · rw [if_pos (show lk K (.inr i) < 20 from nI_lt (b := 20) q (by omega))]; exact g
    · rw [if_neg (show ¬ lk K (.inr i) < 20 from nI_nlt (b := 20) (by omega) (by omega)), if_pos (show (25 : Int32) < lk K (.inr i) from nI_lt (a := 25) q (by omega))]; exact g
  · have : i = j := Sum.inl.inj ee
    subst this
    exact dc_bad h hP hi (by omega)
end RF
