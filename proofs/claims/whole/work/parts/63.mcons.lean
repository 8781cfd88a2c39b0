-- the reference's constructors
section RF
variable {K P V B : Nat → Nat} {m r d k e : Nat} {tk tp tv mt mp ml ys : Nat → Int32} {s s' : Nat ⊕ Nat} {A A' A3 A0 : AR} {D D' D3 x c i o lo : Nat} {F F' F1 F3 H : Fo} {R : Nat → Prop}
theorem ev_a2 {X Y Z : Fo} : ev (.add (.add X Y) Z) (.add X (.add Y Z)) := ⟨by show fp Z ++ (fp Y ++ fp X) = (fp Z ++ fp Y) ++ fp X; rw [List.append_assoc], by show fs X + fs Y + fs Z = fs X + (fs Y + fs Z); omega, by show fn X + fn Y + fn Z = fn X + (fn Y + fn Z); omega⟩
theorem so_w {e' k' : Nat} (h : SO P V A0 lo m x c e k s A D R H) (he : e ≤ e') (hk : k ≤ k') : SO P V A0 lo m x c e' k' s A D R H :=
  ⟨h.1, h.2.1, h.2.2.1, fun j ee => by have := h.2.2.2.1 j ee; omega, fun i' ee => by obtain ⟨a1, a2⟩ := h.2.2.2.2 i' ee; exact ⟨by omega, a2⟩⟩
theorem so_new {k' p v : Int32} (hi : i ≤ m) (hW : Wj A D) (hD : D + 1 ≤ 2 * P i + e) (h1 : k' = nI (c % 32)) (h2 : p = (if c % 32 = 19 ∨ c % 32 = 0 then -1 else nI (P (c / 32)))) (h3 : v = (if c % 32 = 9 ∨ c % 32 = 16 then nI (c / 32) else if c % 32 = 17 then nI (V (c / 32)) else 0)) : SO P V A D m D c e k (.inr i) (dr A D k' p v) (D + 1) (fun _ => False) (.num 0) :=
  ⟨hi, W_dr hW, ⟨Nat.le_refl _, Nat.lt_succ_self _⟩, (fun j ee => by cases ee), fun i' ee => by
    have e' : i = i' := Sum.inr.inj ee
    subst e'
    exact ⟨hD, on_new h1 h2 h3, fun z hz => absurd hz id, fun z hz => eqA_dr hz⟩⟩
/-- a node that is done, as a root -/
theorem so_rp (h : SO P V A0 lo m x c e k s A D R H) : RP P V s A0 A lo D (nI x) (.pow H c) := by
  cases s with
  | inl j => exact rp_w rfl h.2.1 (by have := h.2.2.1; omega) (Or.inr ⟨x, h.2.2.1.2, rfl⟩)
  | inr i =>
    obtain ⟨a1, a2, a3, a4⟩ := h.2.2.2.2 i rfl
    exact rp_on a2 a3 h.2.2.1 h.2.1 a4
theorem m_cons (h : HT K P V m tk tp tv) (hM : HM K P m mt mp) (hP : HP K P m) (hT : TS K P V m tk tp tv mt mp ml ys (f_Mo_term 102) 0) : ∀ (n : Nat) (s : Nat ⊕ Nat) (A : AR) (D : Nat) (R : Nat → Prop) (H : Fo), (∀ i, s = .inr i → m - i ≤ n) → SO P V A0 lo m x c 8 20 s A D R H →
    ∃ (s' : Nat ⊕ Nat) (Cs X : Fo) (A' : AR) (D' : Nat) (R' : Nat → Prop), jl (Mo_declaration_b216_b ys mt mp ml 23 (nI x)) (sA s, sB s, sF P s, A.1, A.2.1, A.2.2.1, A.2.2.2.1, A.2.2.2.2.1, A.2.2.2.2.2, nI D) = Mo_declaration_b300 ys mt mp ml (sA s') (sB s') (sF P s') A'.1 A'.2.1 A'.2.2.1 A'.2.2.2.1 A'.2.2.2.2.1 A'.2.2.2.2.2 (nI D') (nI x) ∧ Dv K P V m tk tp tv 35 0 s s' Cs ∧ SO P V A0 lo m x c 8 20 s' A' D' R' X ∧ (∀ i', s' = .inr i' → ev X (.add H Cs) ∧ (wQ 302 H → wQ 302 X)) := by
  intro n
  induction n using Nat.strongRecOn with
  | ind n ih =>
    intro s A D R H hn hS
    have hs := hS.1
    have hlt := so_lt hP (by omega) (by omega) hS
    have g0 := m_look (mp := mp) (P := P) hM hs
    by_cases q : ∃ i, s = .inr i ∧ K i = 23
    · obtain ⟨i, ei, q2⟩ := q
      subst ei
      have hi : i ≤ m := hs
      have him := lt_m hP hi (by omega)
      have hp := (hP.1 i him).1
      have hPi := hP.2.2.1 i hi
      have hm := hM.1
      have hni := hn i rfl
      obtain ⟨a1, a2, a3, a4⟩ := hS.2.2.2.2 i rfl
      have e23 : tokS K 23 (.inr i) = .inr (i + 1) := if_pos q2
      have hin := nI_in (c := i) (N := 8001) (by omega) (by omega)
      have epl : mp (nI i).toNatClampNeg = nI (P i) := by rw [nI_clamp (by omega)]; exact (hM.2.1 i hi).2
      have g1 := m_draft (A := A) (D := D) (k := 5) (p := nI (P i)) (v := 0) (by omega)
      have g2 := m_take (r := 23) (s := .inr i) hM hs (by omega) (by omega)
      rw [e23] at g2
      have c1 : (5 + 32 * i) % 32 = 5 := by omega
      have c2 : (5 + 32 * i) / 32 = i := by omega
      have S0 : SO P V A D m D (5 + 32 * i) 7 0 (.inr (i + 1)) (dr A D 5 (nI (P i)) 0) (D + 1) (fun _ => False) (.num 0) := so_new him hS.2.1 (by omega) (by rw [c1]; rfl) (by rw [c1, c2]; rfl) (by rw [c1]; rfl)
      have g3 := m_name (A := dr A D 5 (nI (P i)) 0) (D := D + 1) (k := 9) (s := .inr (i + 1)) hM him (by omega)
      obtain ⟨S1, w1⟩ := so_name hP (by omega) (by omega) S0
      have g4 := m_join (o := D) (y := nI (D + 1)) w1 (by omega) (by omega)
      have g5 := m_take (r := 17) hM S1.1 (by omega) (by omega)
      have S2 := so_tok (r := 17) hP (by omega) (by omega) S1
      obtain ⟨s3, F, A3, D3, v, t1, t2, t3, t4, t5, t6⟩ := m_opt hT S2.1 S2.2.1 (so_dr' S2 (by omega) (by omega)) (fun v at' bd ft AA DD => Mo_declaration_b288 ys mt mp ml at' bd ft AA.1 AA.2.1 AA.2.2.1 AA.2.2.2.1 AA.2.2.2.2.1 AA.2.2.2.2.2 DD 23 (nI x) (nI D) v (nI D))
      obtain ⟨S3, D3b⟩ := so_root (a := 0) (q := 18180) (n := 1) hP (by omega) (by omega) (by omega) (by omega) S2 t3 t4 t5 (fun i' ee => by rw [ee] at t2; exact dv_inr t2)
      have tD := t4.2.1
      have g6 := m_join (o := D) (y := v) t4.1 (by omega) (by omega)
      have hx := hS.2.2.1
      have g7 := m_join (A := jn A3 D v) (o := x) (y := nI D) S3.2.1 (by omega) (by omega)
      -- the constructor joined
      have rel : ∀ i3, s3 = .inr i3 → D3 + 2 * P i + 2 ≤ D + 2 * P i3 := by
        intro i3 ee
        rw [ee] at t2 t5
        obtain ⟨j2, f2⟩ := dv_inr t2
        obtain ⟨j1, f1, kk1, ff1⟩ := tokS_inr f2
        obtain ⟨j0, f0, kk0, ff0⟩ := tokS_inr f1
        have e0 : i + 1 = j0 := Sum.inr.inj f0
        subst e0
        subst ff0
        subst ff1
        rw [f2] at t5
        have b1 : D3 + 2 * P (i + 1 + 1 + 1) ≤ D + 1 + 1 + 2 * P i3 + 0 := t5
        have p1 := (hP.1 (i + 1) (lt_m hP him (by omega))).1
        have p2 := (hP.1 (i + 1 + 1) (lt_m hP (lt_m hP (i := i + 1) him (by omega)) (by omega))).1
        omega
      have badb : ∀ j, s3 = .inl j → D3 ≤ 18300 := by
        intro j ee
        rw [ee] at t5
        cases hq : tokS K 17 (tokS K 2 (.inr (i + 1))) with
        | inl j2 => rw [hq] at t5; have b1 : D3 ≤ D + 1 + 1 + 1 := t5; omega
        | inr j2 => rw [hq] at t5; have b1 : D3 ≤ 18200 - 20 * (0 + 1) := t5; omega
      have dn : DN P 0 18300 1 (.inr i) s3 D D3 := by
        cases s3 with
        | inl j => exact badb j rfl
        | inr i3 => have := rel i3 rfl; show D3 + 2 * P i ≤ D + 2 * P i3 + 0; omega
      obtain ⟨S4, _⟩ := so_root (a := 0) (q := 18300) (n := 1) (k := 20) hP (by omega) (by omega) (by omega) (by omega) hS S3.1 (so_rp S3) dn (fun i' ee => ⟨i, rfl⟩)
      obtain ⟨s', Cs, X, A', D', R', j1, j2, j3, j4⟩ := ih (n - 1) (by omega) s3 _ D3 _ _ (fun i3 ee => by
          have := rel i3 ee
          subst ee
          have hi3 : i3 ≤ m := S3.1
          have := P_lt hP (i := i) (j := i3) (by omega) hi
          omega) ⟨S4.1, S4.2.1, S4.2.2.1, (fun j ee => by have := badb j ee; omega), S4.2.2.2.2⟩
      refine ⟨s', .add (.pow (.add (.add (.num 0) (lfF 9 (tokS K 23 (.inr i)))) F) (5 + 32 * i)) Cs, X, A', D', R', ?_, d_cons h hP (by omega) hi q2 (by rw [e23]; exact t2) j2, j3, fun i' ee => ?_⟩
      · refine (jl_step ?_).trans j1
        show Mo_declaration_b216_s ys mt mp ml 23 (nI x) (sA (.inr i)) (sB (.inr i)) (sF P (.inr i)) A.1 A.2.1 A.2.2.1 A.2.2.2.1 A.2.2.2.2.1 A.2.2.2.2.2 (nI D) = _
        unfold Mo_declaration_b216_s
        rw [if_pos (show (23 : Int32) = 23 from rfl)]
        refine (jb_ok g0).trans ?_
        rw [if_pos (show lk K (.inr i) = 12 from lk_eq (r := 23) hM (by omega) q2)]
        show (if nI i < 0 ∨ 8001 ≤ (nI i).toNatClampNeg then none else _) = _
        rw [if_neg hin]
        show jb (f_Mo_draft A.1 A.2.1 A.2.2.1 A.2.2.2.1 A.2.2.2.2.1 A.2.2.2.2.2 (nI D) 5 (mp (nI i).toNatClampNeg) 0) _ = _
        rw [epl]
        refine (jb_ok g1).trans ((jb_ok g2).trans ((jb_ok g3).trans ((jb_ok g4).trans ((jb_ok g5).trans (t1.trans ?_)))))
        unfold Mo_declaration_b288
        exact (jb_ok g6).trans (jb_ok g7)
      · rw [e23]
        refine ⟨ev_tr (j4 i' ee).1 ev_a2, fun hH => (j4 i' ee).2 (wQ_add hH ?_)⟩
        rw [ee] at j2
        obtain ⟨i3, e3⟩ := dv_inr j2
        exact wf_con (by omega) (wB_leaf (by omega)) (rk_leaf (by omega)) (wT_w (t6 i3 e3) (by omega)) (by omega)
    · have nq : ¬ lk K s = 12 := by
        cases s with
        | inl j => exact lk_bad (r := 23) (by omega) (by omega)
        | inr i => exact lk_ne (r := 23) hM (by omega) (fun ee => q ⟨i, rfl, ee⟩)
      refine ⟨s, .num 0, H, A, D, R, ?_, ?_, hS, fun i' ee => ⟨⟨rfl, rfl, rfl⟩, id⟩⟩
      · have : ∃ z, Mo_declaration_b300 ys mt mp ml (sA s) (sB s) (sF P s) A.1 A.2.1 A.2.2.1 A.2.2.2.1 A.2.2.2.2.1 A.2.2.2.2.2 (nI D) (nI x) = z := ⟨_, rfl⟩
        obtain ⟨z, hz⟩ := this
        rw [hz]
        refine jl_jm ?_
        show Mo_declaration_b216_s ys mt mp ml 23 (nI x) (sA s) (sB s) (sF P s) A.1 A.2.1 A.2.2.1 A.2.2.2.1 A.2.2.2.2.1 A.2.2.2.2.2 (nI D) = _
        unfold Mo_declaration_b216_s
        rw [if_pos (show (23 : Int32) = 23 from rfl)]
        refine (jb_ok g0).trans ?_
        rw [if_neg nq, hz]
      · cases s with
        | inl j => exact rfl
        | inr i => exact d_skip35 h hP (by omega) hs (fun ee => q ⟨i, rfl, ee⟩)
end RF
