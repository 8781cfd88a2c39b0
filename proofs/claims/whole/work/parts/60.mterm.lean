-- the reference's term
section RF
variable {K P V B : Nat → Nat} {m r d : Nat} {tk tp tv mt mp ml ys : Nat → Int32} {s s' : Nat ⊕ Nat} {A A' A3 : AR} {D D' D3 x c i o : Nat} {F F' F1 F3 H : Fo} {R : Nat → Prop}
/-- what the loop of a term leaves, o open -/
def lpT (P V : Nat → Nat) (d i o : Nat) (s' : Nat ⊕ Nat) (A A' : AR) (D D' : Nat) (F : Fo) : Prop := Wj A' D' ∧ D ≤ D' ∧ (∀ j, s' = .inl j → D' ≤ 18200 - 20 * d - 5) ∧ ∀ i', s' = .inr i' → D' + 1 + 2 * P i ≤ D + 2 * P i' ∧ D' ≤ 19000 ∧ fn F = 1 ∧ ∃ x, D ≤ x ∧ x < D' ∧ (∀ z, z < D → eqA (jn A o (nI x)) A' z) ∧ ch P V A' F (fun z => D ≤ z ∧ z < D') (nI x) (-1) x
theorem m_loop {T : (Nat → Int32) → (Nat → Int32) → (Nat → Int32) → (Nat → Int32) → Int32 → Int32 → Int32 → (Nat → Int32) → (Nat → Int32) → (Nat → Int32) → (Nat → Int32) → (Nat → Int32) → (Nat → Int32) → Int32 → Int32 → Option (Int32 × Int32 × Int32 × Int32 × (Nat → Int32) × (Nat → Int32) × (Nat → Int32) × (Nat → Int32) × (Nat → Int32) × (Nat → Int32) × Int32)} {l2 : Nat} (h : HT K P V m tk tp tv) (hM : HM K P m mt mp) (hV : HV K P V m ml ys B) (hP : HP K P m) (hd : d ≤ 100) (hT : TS K P V m tk tp tv mt mp ml ys T d) (hl : l2 < 20000) : ∀ (n i : Nat) (A : AR) (D o : Nat), m - i ≤ n → i ≤ m → Wj A D → D ≤ 2 * P i + 9 → o < D → ∃ (s' : Nat ⊕ Nat) (F : Fo) (A' : AR) (D' : Nat), Mo_termS_b39 T ys mt mp ml (sA (.inr i)) (sB (.inr i)) (sF P (.inr i)) A.1 A.2.1 A.2.2.1 A.2.2.2.1 A.2.2.2.2.1 A.2.2.2.2.2 (nI D) (nI d) (nI l2) (nI o) 1 = some (A'.2.2.2.1 l2, sA s', sB s', sF P s', A'.1, A'.2.1, A'.2.2.1, A'.2.2.2.1, A'.2.2.2.2.1, A'.2.2.2.2.2, nI D') ∧ Dv K P V m tk tp tv 37 d (.inr i) s' F ∧ (TT s' F ∧ ∀ i', s' = .inr i' → wT (4 + 3 * (100 - d)) F) ∧ ix s' ≤ m ∧ lpT P V d i o s' A A' D D' F := by
  intro n
  induction n using Nat.strongRecOn with
  | ind n ih =>
    intro i A D o hn hi hW hD ho
    have hs : ix (.inr i : Nat ⊕ Nat) ≤ m := hi
    have hPi := hP.2.2.1 i hi
    have hm := hM.1
    have g0 := m_look (mp := mp) (P := P) (s := .inr i) hM hs
    -- a node that waits for its last part
    have cont : ∀ (c : Nat) (s3 : Nat ⊕ Nat) (A3 : AR) (D3 : Nat) (R : Nat → Prop) (H1 : Fo) (x : Nat), D ≤ x ∧ x < D3 → ¬ (c % 32 = 19 ∨ c % 32 = 0) → Mo_termS_b39_s T ys mt mp ml (nI d) (nI l2) (sA (.inr i)) (sB (.inr i)) (sF P (.inr i)) A.1 A.2.1 A.2.2.1 A.2.2.2.1 A.2.2.2.2.1 A.2.2.2.2.2 (nI D) (nI o) 1 = some (.inl (sA s3, sB s3, sF P s3, (jn A3 o (nI x)).1, (jn A3 o (nI x)).2.1, (jn A3 o (nI x)).2.2.1, (jn A3 o (nI x)).2.2.2.1, (jn A3 o (nI x)).2.2.2.2.1, (jn A3 o (nI x)).2.2.2.2.2, nI D3, nI x, 1)) → ix s3 ≤ m → Wj A3 D3 → D + 1 ≤ D3 → (∀ j, s3 = .inl j → D3 ≤ 18200 - 20 * d - 5) → (∀ i3, s3 = .inr i3 → ON P V A3 R x c H1 ∧ (∀ z, R z → D ≤ z ∧ z < D3) ∧ (∀ z, z < D → eqA A A3 z) ∧ D3 + 2 * P i ≤ D + 2 * P i3 ∧ i < i3) →
        ∃ (s' : Nat ⊕ Nat) (F3 : Fo) (A' : AR) (D' : Nat), Mo_termS_b39 T ys mt mp ml (sA (.inr i)) (sB (.inr i)) (sF P (.inr i)) A.1 A.2.1 A.2.2.1 A.2.2.2.1 A.2.2.2.2.1 A.2.2.2.2.2 (nI D) (nI d) (nI l2) (nI o) 1 = some (A'.2.2.2.1 l2, sA s', sB s', sF P s', A'.1, A'.2.1, A'.2.2.1, A'.2.2.2.1, A'.2.2.2.2.1, A'.2.2.2.2.2, nI D') ∧ Dv K P V m tk tp tv 37 d s3 s' F3 ∧ (TT s' F3 ∧ ∀ i', s' = .inr i' → wT (4 + 3 * (100 - d)) F3) ∧ ix s' ≤ m ∧ lpT P V d i o s' A A' D D' (.pow (.add H1 F3) c) := by
      intro c s3 A3 D3 R H1 x hx hc hb hs3 hW3 hD3 hbad hgood
      have hWj : Wj (jn A3 o (nI x)) D3 := W_jn hW3 (Or.inr ⟨x, hx.2, rfl⟩)
      have step : Mo_termS_b39 T ys mt mp ml (sA (.inr i)) (sB (.inr i)) (sF P (.inr i)) A.1 A.2.1 A.2.2.1 A.2.2.2.1 A.2.2.2.2.1 A.2.2.2.2.2 (nI D) (nI d) (nI l2) (nI o) 1 = Mo_termS_b39 T ys mt mp ml (sA s3) (sB s3) (sF P s3) (jn A3 o (nI x)).1 (jn A3 o (nI x)).2.1 (jn A3 o (nI x)).2.2.1 (jn A3 o (nI x)).2.2.2.1 (jn A3 o (nI x)).2.2.2.2.1 (jn A3 o (nI x)).2.2.2.2.2 (nI D3) (nI d) (nI l2) (nI x) 1 := by
        unfold Mo_termS_b39
        exact jl_step hb
      cases s3 with
      | inl j =>
        refine ⟨.inl j, .num 0, jn A3 o (nI x), D3, by rw [step]; exact m_endB hl, rfl, ⟨(fun i' e => by cases e), (fun i' e => by cases e)⟩, hs3, hWj, by omega, fun _ _ => hbad j rfl, fun i' e => by cases e⟩
      | inr i3 =>
        obtain ⟨q1, q2, q3, q4, q5⟩ := hgood i3 rfl
        have hi3 : i3 ≤ m := hs3
        obtain ⟨s', F3, A', D', k1, k2, k3, k4, k5, k6, k7, k8⟩ := ih (n - 1) (by omega) i3 (jn A3 o (nI x)) D3 x (by omega) hi3 hWj (by omega) hx.2
        refine ⟨s', F3, A', D', by rw [step]; exact k1, k2, k3, k4, k5, by omega, k7, fun i' e => ?_⟩
        obtain ⟨p1, p2, p3, y, p4, p5, p6, p7⟩ := k8 i' e
        obtain ⟨r1, r2⟩ := on_loop hW ho hx q1 q2 q3 p6 p3 ⟨p4, p5⟩ (by omega) p7
        exact ⟨by omega, p2, rfl, x, hx.1, by omega, r2, r1⟩
    by_cases q12 : K i = 12
    · -- let
      have him := lt_m hP hi (by omega)
      obtain ⟨s2, s4, F2, F3, A3, D3, R, k1, k2, k3, k4, k5, k6, k7, k8⟩ := m_let (l2 := nI l2) h hM hP hd hT hi hW hD ho q12
      have hs5 : ix (tokS K 13 s4) ≤ m := ix_tok hP k4 (by omega)
      obtain ⟨s', F4, A', D', j1, j2, j3, j4, j5⟩ := cont (12 + 32 * i) (tokS K 13 s4) A3 D3 R (.add (.add (.add (.num 0) (lfF 9 (tokS K 12 (.inr i)))) F2) F3) D ⟨by omega, by omega⟩ (by omega) k1 hs5 k5 k6 (fun j e => by
          cases s4 with
          | inl j' => have := k7 j' rfl; omega
          | inr i4 => obtain ⟨_, _, _, a, _⟩ := k8 i4 rfl; have := hP.2.2.1 i4 k4; omega) (fun i5 e => by
          obtain ⟨i4, e4, kk, f4⟩ := tokS_inr e
          subst e4
          subst f4
          obtain ⟨a1, a2, a3, a4, _⟩ := k8 i4 rfl
          have p1 := (hP.1 i4 (lt_m hP k4 (by omega))).1
          have a5 : P i ≤ P i4 := by omega
          exact ⟨a1, fun z hz => ⟨by have := (a2 z hz).1; omega, (a2 z hz).2⟩, a3, by omega, P_lt hP (by omega) hi⟩)
      refine ⟨s', _, A', D', j1, d_let h hP hd hi q12 k2 k3 j2, ⟨fun i' e => ⟨_, _, rfl, by omega⟩, fun i' e => ?_⟩, j4, j5⟩
      rw [e] at j2
      obtain ⟨i5, e5⟩ := dv_inr j2
      obtain ⟨i4, e4, _, _⟩ := tokS_inr e5
      obtain ⟨_, _, _, _, b1, b2⟩ := k8 i4 e4
      have et : tokS K 12 (.inr i) = .inr (i + 1) := if_pos q12
      rw [et]
      exact wT_let (b := 1 + 3 * (100 - d)) (by omega) (wB_leaf (by omega)) (rk_leaf (by omega)) b1 b2 (j3.2 i' e) (by omega) (by omega)
    by_cases q10 : K i = 10 ∨ K i = 11
    · -- fun, all
      have him := lt_m hP hi (by omega)
      have hp := (hP.1 i him).1
      obtain ⟨t, u, ht, hkt⟩ : ∃ t u, (t = 10 ∧ u = 19 ∨ t = 11 ∧ u = 21) ∧ K i = t := by
        rcases q10 with e | e
        · exact ⟨10, 19, Or.inl ⟨rfl, rfl⟩, e⟩
        · exact ⟨11, 21, Or.inr ⟨rfl, rfl⟩, e⟩
      obtain ⟨s2, F1, H1, A3, D3, R, k1, k2, k4, k5, k6, k7, k8⟩ := m_bind (l2 := nI l2) ht h hM hP hd hT hi hW hD ho hkt
      have et : tokS K t (.inr i) = .inr (i + 1) := if_pos hkt
      have hs5 : ix (tokS K u s2) ≤ m := ix_tok hP k4 (by omega)
      have hb : Mo_termS_b39_s T ys mt mp ml (nI d) (nI l2) (sA (.inr i)) (sB (.inr i)) (sF P (.inr i)) A.1 A.2.1 A.2.2.1 A.2.2.2.1 A.2.2.2.2.1 A.2.2.2.2.2 (nI D) (nI o) 1 = some (.inl (sA (tokS K u s2), sB (tokS K u s2), sF P (tokS K u s2), (jn A3 o (nI D)).1, (jn A3 o (nI D)).2.1, (jn A3 o (nI D)).2.2.1, (jn A3 o (nI D)).2.2.2.1, (jn A3 o (nI D)).2.2.2.2.1, (jn A3 o (nI D)).2.2.2.2.2, nI D3, nI D, 1)) := by
        unfold Mo_termS_b39_s
        rw [if_neg (show ¬ (1 : Int32) = 0 by decide), if_pos (show sB (.inr i) = 0 from rfl)]
        refine (jb_ok g0).trans ?_
        rw [if_neg (show ¬ lk K (.inr i) = 28 from lk_ne (r := 12) hM (by omega) (by omega))]
        have elk : lk K (.inr i) = nI (cm t) := by show nI (cm (K i)) = _; rw [hkt]
        rcases ht with ⟨e1, e2⟩ | ⟨e1, e2⟩
        · rw [if_pos (show lk K (.inr i) = 26 from lk_eq (r := 10) hM (by omega) (by omega)), elk]
          exact k1
        · rw [if_neg (show ¬ lk K (.inr i) = 26 from lk_ne (r := 10) hM (by omega) (by omega)), if_pos (show lk K (.inr i) = 27 from lk_eq (r := 11) hM (by omega) (by omega)), elk]
          exact k1
      obtain ⟨s', F3, A', D', j1, j2, j3, j4, j5⟩ := cont (t + 32 * i) (tokS K u s2) A3 D3 R H1 D ⟨by omega, by omega⟩ (by omega) hb hs5 k5 k6 (fun j e => by
          cases s2 with
          | inl j' => have := k7 j' rfl; omega
          | inr i2 => obtain ⟨_, _, _, _, a, _⟩ := k8 i2 rfl; have := hP.2.2.1 i2 k4; omega) (fun i5 e => by
          obtain ⟨i2, e4, kk, f4⟩ := tokS_inr e
          subst e4
          subst f4
          obtain ⟨a1, a0, a2, a3, a4, _⟩ := k8 i2 rfl
          have p1 := (hP.1 i2 (lt_m hP k4 (by omega))).1
          exact ⟨a1, fun z hz => ⟨by have := (a2 z hz).1; omega, (a2 z hz).2⟩, a3, by omega, P_lt hP (by omega) hi⟩)
      have dv : Dv K P V m tk tp tv 37 d (.inr i) s' (.pow (.add (.add (.num 0) F1) F3) (t + 32 * i)) := by
        rcases ht with ⟨e1, e2⟩ | ⟨e1, e2⟩
        · subst e1; subst e2; exact d_fun h hP hd hi hkt (by rw [et]; exact k2) j2
        · subst e1; subst e2; exact d_all h hP hd hi hkt (by rw [et]; exact k2) j2
      cases s' with
      | inl j => exact ⟨.inl j, _, A', D', j1, dv, ⟨(fun i' e => by cases e), (fun i' e => by cases e)⟩, j4, j5.1, j5.2.1, j5.2.2.1, fun i' e => by cases e⟩
      | inr i' =>
        obtain ⟨i3, e3⟩ := dv_inr j2
        obtain ⟨i2, e2, _, _⟩ := tokS_inr e3
        obtain ⟨a1, a0, a2, a3, a4, a5, a6⟩ := k8 i2 e2
        exact ⟨.inr i', .pow (.add H1 F3) (t + 32 * i), A', D', j1, d_ev (ev_pow (ev_add (ev_sy a0) ev_rfl)) dv, ⟨fun i' e => ⟨_, _, rfl, by omega⟩, fun i3 e => wT_bind (b := 2 + 3 * (100 - d)) (by omega) a5 a6 (j3.2 i3 e) (by omega)⟩, j4, j5⟩
    -- atoms
    have h37 : K i ≠ 10 ∧ K i ≠ 11 ∧ K i ≠ 12 := ⟨by omega, by omega, q12⟩
    have gA := m_isAtom (mp := mp) (P := P) (s := .inr i) hM hs
    have toAtom : ∀ z, jb (f_Mo_need mp (sA (.inr i)) (sB (.inr i)) (sF P (.inr i)) (iaS K (.inr i))) (fun o127 => if o127.1 = 0 then jb (f_Mo_atom T ys mt mp ml (sA (.inr i)) o127.1 o127.2 A.1 A.2.1 A.2.2.1 A.2.2.2.1 A.2.2.2.2.1 A.2.2.2.2.2 (nI D) (nI d)) (fun o129 => Mo_termS_b339 T ys mt mp ml o129.2.1 o129.2.2.1 o129.2.2.2.1 o129.2.2.2.2.1 o129.2.2.2.2.2.1 o129.2.2.2.2.2.2.1 o129.2.2.2.2.2.2.2.1 o129.2.2.2.2.2.2.2.2.1 o129.2.2.2.2.2.2.2.2.2.1 o129.2.2.2.2.2.2.2.2.2.2 (nI d) (nI l2) (nI o) o129.1) else Mo_termS_b339 T ys mt mp ml (sA (.inr i)) o127.1 o127.2 A.1 A.2.1 A.2.2.1 A.2.2.2.1 A.2.2.2.2.1 A.2.2.2.2.2 (nI D) (nI d) (nI l2) (nI o) (-1)) = z → Mo_termS_b39_s T ys mt mp ml (nI d) (nI l2) (sA (.inr i)) (sB (.inr i)) (sF P (.inr i)) A.1 A.2.1 A.2.2.1 A.2.2.2.1 A.2.2.2.2.1 A.2.2.2.2.2 (nI D) (nI o) 1 = z := by
      intro z hz
      unfold Mo_termS_b39_s
      rw [if_neg (show ¬ (1 : Int32) = 0 by decide), if_pos (show sB (.inr i) = 0 from rfl)]
      refine (jb_ok g0).trans ?_
      rw [if_neg (show ¬ lk K (.inr i) = 28 from lk_ne (r := 12) hM (by omega) q12), if_neg (show ¬ lk K (.inr i) = 26 from lk_ne (r := 10) hM (by omega) (by omega)), if_neg (show ¬ lk K (.inr i) = 27 from lk_ne (r := 11) hM (by omega) (by omega))]
      exact (jb_ok gA).trans hz
    -- a fault there
    have bad : ∀ (j : Nat) (A1 : AR) (D1 : Nat), Mo_termS_b39_s T ys mt mp ml (nI d) (nI l2) (sA (.inr i)) (sB (.inr i)) (sF P (.inr i)) A.1 A.2.1 A.2.2.1 A.2.2.2.1 A.2.2.2.2.1 A.2.2.2.2.2 (nI D) (nI o) 1 = some (.inl (sA (.inl j), sB (.inl j), sF P (.inl j), A1.1, A1.2.1, A1.2.2.1, A1.2.2.2.1, A1.2.2.2.2.1, A1.2.2.2.2.2, nI D1, nI o, 0)) → Mo_termS_b39 T ys mt mp ml (sA (.inr i)) (sB (.inr i)) (sF P (.inr i)) A.1 A.2.1 A.2.2.1 A.2.2.2.1 A.2.2.2.2.1 A.2.2.2.2.2 (nI D) (nI d) (nI l2) (nI o) 1 = some (A1.2.2.2.1 l2, sA (.inl j), sB (.inl j), sF P (.inl j), A1.1, A1.2.1, A1.2.2.1, A1.2.2.2.1, A1.2.2.2.2.1, A1.2.2.2.2.2, nI D1) := by
      intro j A1 D1 hb
      have : Mo_termS_b39 T ys mt mp ml (sA (.inr i)) (sB (.inr i)) (sF P (.inr i)) A.1 A.2.1 A.2.2.1 A.2.2.2.1 A.2.2.2.2.1 A.2.2.2.2.2 (nI D) (nI d) (nI l2) (nI o) 1 = Mo_termS_b39 T ys mt mp ml (sA (.inl j)) (sB (.inl j)) (sF P (.inl j)) A1.1 A1.2.1 A1.2.2.1 A1.2.2.2.1 A1.2.2.2.2.1 A1.2.2.2.2.2 (nI D1) (nI d) (nI l2) (nI o) 0 := by
        unfold Mo_termS_b39
        exact jl_step hb
      rw [this]
      exact m_end0 hl
    by_cases qA : K i = 2 ∨ K i = 3 ∨ K i = 14 ∨ K i = 15
    · have ia : iaS K (.inr i) = 1 := if_pos qA
      obtain ⟨s1, F1, A1, D1, v1, t1, t2, t3, t4, t5, t6⟩ := m_atom h hM hV hP hd hT hi hW hD qA
      have st1 : Mo_termS_b39_s T ys mt mp ml (nI d) (nI l2) (sA (.inr i)) (sB (.inr i)) (sF P (.inr i)) A.1 A.2.1 A.2.2.1 A.2.2.2.1 A.2.2.2.2.1 A.2.2.2.2.2 (nI D) (nI o) 1 = Mo_termS_b341 T ys mt mp ml (sA s1) (sB s1) (sF P s1) A1.1 A1.2.1 A1.2.2.1 A1.2.2.2.1 A1.2.2.2.2.1 A1.2.2.2.2.2 (nI D1) (nI d) (nI l2) (nI o) v1 := by
        apply toAtom
        rw [ia]
        refine (jb_ok (m_need1 (mp := mp) (P := P) (s := .inr i))).trans ?_
        show (if (0 : Int32) = 0 then _ else _) = _
        rw [if_pos (show (0 : Int32) = 0 from rfl)]
        exact jb_ok t1
      cases s1 with
      | inl j =>
        have b1 : D1 ≤ 18200 - 20 * (d + 1) + 5 := t5
        exact ⟨.inl j, F1, A1, D1, bad j A1 D1 (by rw [st1]; exact m_341b hM t3), d_atoms (T2 := F1) (s2 := .inl j) h hP hd hi h37 t2 rfl, ⟨(fun i' e => by cases e), (fun i' e => by cases e)⟩, t3, t4.1, t4.2.1, fun _ _ => by omega, fun i' e => by cases e⟩
      | inr i1 =>
        have b1 : D1 + 1 + 2 * P i ≤ D + 2 * P i1 := t5
        have hi1 : i1 ≤ m := t3
        obtain ⟨⟨B1, c1, eF, hc1⟩, _, _⟩ := t2.2 i1 rfl
        subst eF
        obtain ⟨_, _, y, ev1, yD, _, _⟩ := t4.2.2.2 i1 rfl
        subst ev1
        have D1b : D1 ≤ 18000 := by have := hP.2.2.1 i1 t3; omega
        obtain ⟨s', T', A', D', y', k1, k2, k3, k4, k5, k6, k7, k8⟩ := m_apps (l2 := nI l2) (l3 := nI o) (A0 := A) (lo := D) h hM hV hP hd hT m i1 A1 D1 y B1 c1 (by omega) hi1 t4.1 (by omega) (by omega) hc1 t4 (wT_C (t6 i1 rfl))
        have st2 := st1.trans k1
        cases s' with
        | inl j =>
          have b2 := k6 j rfl
          refine ⟨.inl j, T', A', D', bad j A' D' ?_, d_atoms (s2 := .inl j) h hP hd hi h37 t2 (k8 (.inl j) T' rfl), ⟨(fun i' e => by cases e), (fun i' e => by cases e)⟩, k2, k3, by omega, fun _ _ => by omega, fun i' e => by cases e⟩
          rw [st2, m_397n (s := .inl j) hM k2 (lk_bad (r := 20) (by omega) (by omega))]
          unfold Mo_termS_b452
          rw [if_neg (show ¬ sB (.inl j) = 0 by show ¬ (1 : Int32) = 0; decide)]
          rfl
        | inr i' =>
          obtain ⟨b2, b3, A2, c2, eT, hc2, rp, wc⟩ := k7 i' rfl
          have wc3 := wC_T wc
          rw [show 2 + 3 * (100 - d) + 1 = 3 + 3 * (100 - d) by omega] at wc3
          subst eT
          have hi' : i' ≤ m := k2
          have hPi' := hP.2.2.1 i' hi'
          obtain ⟨yD', yp⟩ := rp_root rp (by omega) hc2 k5
          by_cases q20 : K i' = 20
          · -- an arrow
            have him' := lt_m hP hi' (by omega)
            have hp' := (hP.1 i' him').1
            have e20 : tokS K 20 (.inr i') = .inr (i' + 1) := if_pos q20
            have c1' : (13 + 32 * (c2 / 32)) % 32 = 13 := by omega
            have c2' : (13 + 32 * (c2 / 32)) / 32 = c2 / 32 := by omega
            obtain ⟨o1, o2⟩ := on_pre (k := 13) (p := nI (P (c2 / 32))) (v := 0) (c := 13 + 32 * (c2 / 32)) (show D' < 20000 by omega) (by rw [c1']; rfl) (by rw [c1', c2']; rfl) (by rw [c1']; rfl) rp rfl
            have g1 := m_draft (A := A') (D := D') (k := 13) (p := nI (P (c2 / 32))) (v := 0) (by omega)
            have w1 : Wj (dr A' D' 13 (nI (P (c2 / 32))) 0) (D' + 1) := W_dr k3
            have g2 := m_join (o := D') (y := nI y') w1 (by omega) (by omega)
            have w2 := W_jn (o := D') (y := nI y') w1 (Or.inr ⟨y', by omega, rfl⟩)
            have g3 := m_take (r := 20) (s := .inr i') hM k2 (by omega) (by omega)
            rw [e20] at g3
            have g4 := m_join (A := jn (dr A' D' 13 (nI (P (c2 / 32))) 0) D' (nI y')) (o := o) (y := nI D') w2 (by omega) (by omega)
            have hb : Mo_termS_b39_s T ys mt mp ml (nI d) (nI l2) (sA (.inr i)) (sB (.inr i)) (sF P (.inr i)) A.1 A.2.1 A.2.2.1 A.2.2.2.1 A.2.2.2.2.1 A.2.2.2.2.2 (nI D) (nI o) 1 = some (.inl (sA (.inr (i' + 1)), sB (.inr (i' + 1)), sF P (.inr (i' + 1)), (jn (jn (dr A' D' 13 (nI (P (c2 / 32))) 0) D' (nI y')) o (nI D')).1, (jn (jn (dr A' D' 13 (nI (P (c2 / 32))) 0) D' (nI y')) o (nI D')).2.1, (jn (jn (dr A' D' 13 (nI (P (c2 / 32))) 0) D' (nI y')) o (nI D')).2.2.1, (jn (jn (dr A' D' 13 (nI (P (c2 / 32))) 0) D' (nI y')) o (nI D')).2.2.2.1, (jn (jn (dr A' D' 13 (nI (P (c2 / 32))) 0) D' (nI y')) o (nI D')).2.2.2.2.1, (jn (jn (dr A' D' 13 (nI (P (c2 / 32))) 0) D' (nI y')) o (nI D')).2.2.2.2.2, nI (D' + 1), nI D', 1)) := by
              rw [st2]
              unfold Mo_termS_b397
              refine (jb_ok (m_look (mp := mp) (P := P) (s := .inr i') hM k2)).trans ?_
              rw [if_pos (show lk K (.inr i') = 9 from lk_eq (r := 20) hM (by omega) q20)]
              unfold Mo_termS_b411
              rw [if_neg (show ¬ (1 : Int32) = 0 by decide), if_neg (nI_in (c := y') (N := 20000) (by omega) (by omega)), nI_clamp k5, yp]
              refine (jb_ok g1).trans ((jb_ok g2).trans ((jb_ok g3).trans ?_))
              unfold Mo_termS_b452
              refine (if_pos (show sB (.inr (i' + 1)) = 0 from rfl)).trans ?_
              exact jb_ok g4
            obtain ⟨s3, F3, A5, D5, j1, j2, j3, j4, j5⟩ := cont (13 + 32 * (c2 / 32)) (.inr (i' + 1)) (jn (dr A' D' 13 (nI (P (c2 / 32))) 0) D' (nI y')) (D' + 1) (fun z => D ≤ z ∧ z < D') (.pow A2 c2) D' ⟨by omega, by omega⟩ (by omega) hb him' w2 (by omega) (fun j e => by cases e) (fun i3 e => by
              have e' : i' + 1 = i3 := Sum.inr.inj e
              subst e'
              exact ⟨o1, fun z hz => by omega, o2, by omega, P_lt hP (by omega) hi⟩)
            exact ⟨s3, _, A5, D5, j1, d_atoms h hP hd hi h37 t2 (k8 _ _ (e_arrow h hP hd hi' hc2 q20 j2 j3.1)), ⟨fun i3 e => ⟨_, _, rfl, by omega⟩, fun i3 e => wT_w (wT_two (b := 3 + 3 * (100 - d)) (by omega) wc3 (wT_w (j3.2 i3 e) (by omega)) (fun q => by omega)) (by omega)⟩, j4, j5⟩
          · -- the end
            have g4 := m_join (A := A') (o := o) (y := nI y') k3 (by omega) (by omega)
            have hb : Mo_termS_b39_s T ys mt mp ml (nI d) (nI l2) (sA (.inr i)) (sB (.inr i)) (sF P (.inr i)) A.1 A.2.1 A.2.2.1 A.2.2.2.1 A.2.2.2.2.1 A.2.2.2.2.2 (nI D) (nI o) 1 = some (.inl (sA (.inr i'), sB (.inr i'), sF P (.inr i'), (jn A' o (nI y')).1, (jn A' o (nI y')).2.1, (jn A' o (nI y')).2.2.1, (jn A' o (nI y')).2.2.2.1, (jn A' o (nI y')).2.2.2.2.1, (jn A' o (nI y')).2.2.2.2.2, nI D', nI y', 0)) := by
              rw [st2, m_397n (s := .inr i') hM k2 (lk_ne (r := 20) hM (by omega) q20)]
              unfold Mo_termS_b452
              refine (if_pos (show sB (.inr i') = 0 from rfl)).trans ?_
              exact jb_ok g4
            have step : Mo_termS_b39 T ys mt mp ml (sA (.inr i)) (sB (.inr i)) (sF P (.inr i)) A.1 A.2.1 A.2.2.1 A.2.2.2.1 A.2.2.2.2.1 A.2.2.2.2.2 (nI D) (nI d) (nI l2) (nI o) 1 = Mo_termS_b39 T ys mt mp ml (sA (.inr i')) (sB (.inr i')) (sF P (.inr i')) (jn A' o (nI y')).1 (jn A' o (nI y')).2.1 (jn A' o (nI y')).2.2.1 (jn A' o (nI y')).2.2.2.1 (jn A' o (nI y')).2.2.2.2.1 (jn A' o (nI y')).2.2.2.2.2 (nI D') (nI d) (nI l2) (nI y') 0 := by
              unfold Mo_termS_b39
              exact jl_step hb
            obtain ⟨_, _, _, h4⟩ := rp
            obtain ⟨f1, f2, x, f3, f4, f5, f6⟩ := h4 i' rfl
            have ex : y' = x := (nI_eq k5 (by omega)).mp f3
            subst ex
            refine ⟨.inr i', .pow A2 c2, jn A' o (nI y'), D', by rw [step]; exact m_end0 hl, d_atoms h hP hd hi h37 t2 (k8 _ _ (e_none h hP hd hi' ⟨_, _, rfl, hc2⟩ ⟨q20, b2⟩)), ⟨fun i3 e => ⟨_, _, rfl, hc2⟩, fun i3 e => wT_w wc3 (by omega)⟩, k2, W_jn k3 (Or.inr ⟨y', by omega, rfl⟩), by omega, (fun j e => by cases e), fun i3 e => ?_⟩
            have e' : i' = i3 := Sum.inr.inj e
            subst e'
            refine ⟨by omega, by omega, f2, y', f5, f4, jn_fr f1 hW (by omega) ho, ?_⟩
            exact ch_fr _ _ _ _ _ f6 (fun z hz => jn_o f1 hW (by omega) ho z hz.1)
    · have ia : iaS K (.inr i) = 0 := if_neg qA
      have hb : Mo_termS_b39_s T ys mt mp ml (nI d) (nI l2) (sA (.inr i)) (sB (.inr i)) (sF P (.inr i)) A.1 A.2.1 A.2.2.1 A.2.2.2.1 A.2.2.2.2.1 A.2.2.2.2.2 (nI D) (nI o) 1 = some (.inl (sA (.inl i), sB (.inl i), sF P (.inl i), A.1, A.2.1, A.2.2.1, A.2.2.2.1, A.2.2.2.2.1, A.2.2.2.2.2, nI D, nI o, 0)) := by
        apply toAtom
        rw [ia]
        refine (jb_ok (m_need0 (mp := mp) (P := P) (s := .inr i) hM hs)).trans ?_
        show (if (1 : Int32) = 0 then _ else _) = _
        rw [if_neg (show ¬ (1 : Int32) = 0 by decide)]
        exact m_341b hM hi
      refine ⟨.inl i, .num 0, A, D, bad i A D hb, d_atoms (F1 := .num 0) (s1 := .inl i) (s2 := .inl i) h hP hd hi h37 (a_fault h hP hd hi ⟨by omega, by omega, by omega, by omega⟩) rfl, ⟨(fun i' e => by cases e), (fun i' e => by cases e)⟩, hi, hW, Nat.le_refl _, fun _ _ => by omega, fun i' e => by cases e⟩
end RF
