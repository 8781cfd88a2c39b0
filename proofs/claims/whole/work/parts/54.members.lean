-- the reference's members and groups
section RF
variable {K P V B : Nat → Nat} {m r d : Nat} {tk tp tv mt mp ml ys : Nat → Int32} {s s' : Nat ⊕ Nat} {A A' : AR} {D D' x c : Nat} {F F' : Fo}
theorem ev_as {X Y Z : Fo} : ev (.add (.add X Y) Z) (.add X (.add (.add (.num 0) Y) Z)) := ⟨by show fp Z ++ (fp Y ++ fp X) = (fp Z ++ (fp Y ++ [])) ++ fp X; rw [List.append_nil, List.append_assoc], by show fs X + fs Y + fs Z = fs X + (0 + fs Y + fs Z); omega, by show fn X + fn Y + fn Z = fn X + (0 + fn Y + fn Z); omega⟩
theorem dv_inr {i' : Nat} (hD : Dv K P V m tk tp tv r d s (.inr i') F) : ∃ i, s = .inr i := by
  cases s with
  | inl j => exact absurd hD id
  | inr i => exact ⟨i, rfl⟩
/-- a name as a draft -/
theorem rp_name {i : Nat} (hk : c = 9 ∨ c = 16) (hW : Wj A D) : RP P V s' A (dr A D (nI c) (nI (P i)) (nI i)) D (D + 1) (nI D) (.pow (.num 0) (c + 32 * i)) := by
  have e1 : (c + 32 * i) % 32 = c := by omega
  have e2 : (c + 32 * i) / 32 = i := by omega
  exact rp_leaf (by rw [e1]) (by rw [e1, e2, if_neg (by omega)]) (by rw [e1, e2, if_pos hk]) hW
theorem m_members {T : (Nat → Int32) → (Nat → Int32) → (Nat → Int32) → (Nat → Int32) → Int32 → Int32 → Int32 → (Nat → Int32) → (Nat → Int32) → (Nat → Int32) → (Nat → Int32) → (Nat → Int32) → (Nat → Int32) → Int32 → Int32 → Option (Int32 × Int32 × Int32 × Int32 × (Nat → Int32) × (Nat → Int32) × (Nat → Int32) × (Nat → Int32) × (Nat → Int32) × (Nat → Int32) × Int32)} (h : HT K P V m tk tp tv) (hM : HM K P m mt mp) (hP : HP K P m) (hd : d ≤ 100) (hT : TS K P V m tk tp tv mt mp ml ys T d) : ∀ (n : Nat) (s : Nat ⊕ Nat) (A : AR) (D : Nat) (R : Nat → Prop) (H : Fo), (∀ i, s = .inr i → m - i ≤ n) → ix s ≤ m → Wj A D → DR P 9 19000 s D → x < D → (∀ i, s = .inr i → ON P V A R x c H ∧ ∀ z, R z → z < D) →
    ∃ (s1 s' : Nat ⊕ Nat) (Ms Tf X : Fo) (A' : AR) (D' : Nat) (R' : Nat → Prop), f_Mo_members T ys mt mp ml (sA s) (sB s) (sF P s) A.1 A.2.1 A.2.2.1 A.2.2.2.1 A.2.2.2.2.1 A.2.2.2.2.2 (nI D) (nI x) (nI (d + 1)) = some (sA s', sB s', sF P s', A'.1, A'.2.1, A'.2.2.1, A'.2.2.2.1, A'.2.2.2.2.1, A'.2.2.2.2.2, nI D') ∧ Dv K P V m tk tp tv 34 d (tokS K 2 s) s1 Ms ∧ Dv K P V m tk tp tv 38 d (tokS K 17 s1) s' Tf ∧ ix s' ≤ m ∧ Wj A' D' ∧ D ≤ D' ∧ DN P 0 (18200 - 20 * (d + 1)) 2 s s' D D' ∧ (∀ i', s' = .inr i' → ON P V A' R' x c (.add X Tf) ∧ ev X (.add (.add H (lfF 9 s)) Ms) ∧ (∀ z, R' z → R z ∨ (D ≤ z ∧ z < D')) ∧ (∀ z, z < D → z ≠ x → ¬ R z → eqA A A' z) ∧ (wB H → wB X ∧ rk X ≠ []) ∧ wT (1 + 3 * (100 - d)) Tf) := by
  intro n
  induction n using Nat.strongRecOn with
  | ind n ih =>
    intro s A D R H hn hs hW hD hx hO
    have hlt := dr_lt hP hs (by omega) (by omega) hD
    have hs1 : ix (tokS K 2 s) ≤ m := ix_tok hP hs (by omega)
    have g1 := m_name (A := A) (k := 9) hM hs (show D < 20000 by omega)
    have w1 : Wj (dr A D 9 (nI (P (ix s))) (nI (ix s))) (D + 1) := W_dr hW
    have g2 := m_join (y := nI D) w1 (show x < D + 1 by omega) (by omega)
    have g3 := m_look (mp := mp) (P := P) hM hs1
    have w2 : Wj (jn (dr A D 9 (nI (P (ix s))) (nI (ix s))) x (nI D)) (D + 1) := W_jn w1 (Or.inr ⟨D, by omega, rfl⟩)
    -- the name joined
    have o1 : ∀ i, s = .inr i → ∀ i1, tokS K 2 s = .inr i1 → ON P V (jn (dr A D 9 (nI (P (ix s))) (nI (ix s))) x (nI D)) (fun z => R z ∨ (D ≤ z ∧ z < D + 1)) x c (.add H (lfF 9 s)) ∧ (∀ z, z < D → z ≠ x → ¬ R z → eqA A (jn (dr A D 9 (nI (P (ix s))) (nI (ix s))) x (nI D)) z) := by
      intro i e i1 e1
      subst e
      obtain ⟨o2, o3⟩ := hO i rfl
      exact on_rp (s' := .inr i1) rfl (by omega) o2 o3 hx (rp_name (s' := .inr i1) (c := 9) (Or.inl rfl) hW)
    by_cases q : ∃ i1, tokS K 2 s = .inr i1 ∧ K i1 = 2
    · -- one more
      obtain ⟨i1, q1, q2⟩ := q
      obtain ⟨i, e, k2, e1⟩ := tokS_inr q1
      subst e
      subst e1
      have hi : i ≤ m := hs
      have him := lt_m hP hi (by omega)
      have hp := (hP.1 i him).1
      have hD' : D ≤ 2 * P i + 9 := hD
      have hni := hn i rfl
      obtain ⟨o2, o3⟩ := o1 i rfl (i + 1) q1
      obtain ⟨_, o5⟩ := hO i rfl
      obtain ⟨s1, s', Ms, Tf, X, A', D', R', k1, k3, k4, k5, k6, k7, k8, k9⟩ := ih (n - 1) (by omega) (.inr (i + 1)) (jn (dr A D 9 (nI (P i)) (nI i)) x (nI D)) (D + 1) (fun z => R z ∨ (D ≤ z ∧ z < D + 1)) (.add H (lfF 9 (.inr i))) (fun i2 e2 => by have := Sum.inr.inj e2; omega) him w2 (by show D + 1 ≤ 2 * P (i + 1) + 9; omega) (by omega) (fun i2 _ => ⟨o2, fun z hz => by rcases hz with hz | hz; exact Nat.lt_succ_of_lt (o5 z hz); exact hz.2⟩)
      refine ⟨s1, s', .add (.add (.num 0) (lfF 9 (.inr (i + 1)))) Ms, Tf, X, A', D', R', ?_, ?_, k4, k5, k6, by omega, ?_, ?_⟩
      · unfold f_Mo_members Mo_members_b0 at k1 ⊢
        refine (jl_step ?_).trans k1
        show Mo_members_b0_s T ys mt mp ml (nI x) (nI (d + 1)) (sA (.inr i)) (sB (.inr i)) (sF P (.inr i)) A.1 A.2.1 A.2.2.1 A.2.2.2.1 A.2.2.2.2.1 A.2.2.2.2.2 (nI D) = _
        unfold Mo_members_b0_s
        rw [q1] at g1 g3
        refine (jb_ok g1).trans ((jb_ok g2).trans ((jb_ok g3).trans ?_))
        rw [if_pos (show lk K (.inr (i + 1)) = 2 from lk_eq (r := 2) hM (by omega) q2)]
        rfl
      · rw [q1]
        exact d_more h hP hd him q2 k3
      · cases s' with
        | inl j => exact k8
        | inr i' =>
          have k8' : D' + 2 * P (i + 1) ≤ D + 1 + 2 * P i' + 0 := k8
          show D' + 2 * P i ≤ D + 2 * P i' + 0
          omega
      · intro i' e'
        obtain ⟨p1, p2, p3, p4, p5, p6⟩ := k9 i' e'
        refine ⟨p1, ev_tr p2 ev_as, ?_, ?_, fun hH => p5 (wB_add hH (wB_leaf (by omega))), p6⟩
        · intro z hz
          rcases p3 z hz with (a | a) | a
          · exact Or.inl a
          · exact Or.inr ⟨a.1, by omega⟩
          · exact Or.inr ⟨by omega, a.2⟩
        · intro z hz hzx hzR
          exact eqA_tr (o3 z hz hzx hzR) (p4 z (by omega) hzx (fun a => by rcases a with a | a; exact hzR a; omega))
    · -- the type
      have nq : ¬ lk K (tokS K 2 s) = 2 := by
        cases hq : tokS K 2 s with
        | inl j => exact lk_bad (r := 2) (by omega) (by omega)
        | inr i1 => exact lk_ne (r := 2) hM (by omega) (fun e => q ⟨i1, hq, e⟩)
      have hs2 : ix (tokS K 17 (tokS K 2 s)) ≤ m := ix_tok hP hs1 (by omega)
      have g4 := m_take (r := 17) hM hs1 (by omega) (by omega)
      have dr2 : DR P 8 19900 (tokS K 17 (tokS K 2 s)) (D + 1) := by
        cases hq : tokS K 17 (tokS K 2 s) with
        | inl j =>
          show D + 1 ≤ 19900
          cases s with
          | inl j => have : D ≤ 19000 := hD; omega
          | inr i => have : D ≤ 2 * P i + 9 := hD; have := hP.2.2.1 i hs; omega
        | inr i2 =>
          obtain ⟨i1, e1, k1, f1⟩ := tokS_inr hq
          obtain ⟨i, e0, k0, f0⟩ := tokS_inr e1
          subst e0
          subst f0
          subst f1
          have : D ≤ 2 * P i + 9 := hD
          have h1 := (hP.1 i (lt_m hP hs (by omega))).1
          have h2 := (hP.1 (i + 1) (lt_m hP (i := i + 1) (lt_m hP hs (by omega)) (by omega))).1
          show D + 1 ≤ 2 * P (i + 1 + 1) + 8
          omega
      obtain ⟨s', Tf, A3, D3, v, t1, t2, t3, t4, t5, t6⟩ := hT (tokS K 17 (tokS K 2 s)) (jn (dr A D 9 (nI (P (ix s))) (nI (ix s))) x (nI D)) (D + 1) hs2 w2 dr2
      have hD3 : D3 ≤ 19950 := by
        cases hq : tokS K 17 (tokS K 2 s) with
        | inl j => rw [hq] at t6 dr2; have a1 : D3 ≤ D + 1 + 1 := t6; have a2 : D + 1 ≤ 19900 := dr2; omega
        | inr i2 =>
          rw [hq] at t6 dr2
          have a2 : D + 1 ≤ 2 * P i2 + 8 := dr2
          cases s' with
          | inl j => have a1 : D3 ≤ 18200 - 20 * (d + 1) := t6; omega
          | inr i' => have a1 : D3 + 2 * P i2 ≤ D + 1 + 2 * P i' + 0 := t6; have := hP.2.2.1 i' t4; omega
      have g5 := m_join (y := v) t5.1 (show x < D3 by have := t5.2.1; omega) (by omega)
      refine ⟨tokS K 2 s, s', .num 0, Tf, .add H (lfF 9 s), jn A3 x v, D3, (fun z => (R z ∨ (D ≤ z ∧ z < D + 1)) ∨ (D + 1 ≤ z ∧ z < D3)), ?_, ?_, t2, t4, W_jn t5.1 t5.2.2.1, by have := t5.2.1; omega, ?_, ?_⟩
      · unfold f_Mo_members Mo_members_b0
        apply jl_done
        show Mo_members_b0_s T ys mt mp ml (nI x) (nI (d + 1)) (sA s) (sB s) (sF P s) A.1 A.2.1 A.2.2.1 A.2.2.2.1 A.2.2.2.2.1 A.2.2.2.2.2 (nI D) = _
        unfold Mo_members_b0_s
        refine (jb_ok g1).trans ((jb_ok g2).trans ((jb_ok g3).trans ?_))
        rw [if_neg nq]
        refine (jb_ok g4).trans ((jb_ok t1).trans ((jb_ok g5).trans ?_))
        rfl
      · cases hq : tokS K 2 s with
        | inl j => exact rfl
        | inr i1 => exact d_skip34 h hP hd (by rw [hq] at hs1; exact hs1) (fun e => q ⟨i1, hq, e⟩)
      · cases s with
        | inl j => have a1 : D3 ≤ D + 1 + 1 := t6; show D3 ≤ D + 2; omega
        | inr i =>
          have hDi : D ≤ 2 * P i + 9 := hD
          have hPi := hP.2.2.1 i hs
          cases hq : tokS K 17 (tokS K 2 (.inr i)) with
          | inl j =>
            rw [hq] at t6 t2
            have a1 : D3 ≤ D + 1 + 1 := t6
            cases s' with
            | inl j' => show D3 ≤ 18200 - 20 * (d + 1); omega
            | inr i' => exact absurd t2 id
          | inr i2 =>
            rw [hq] at t6
            obtain ⟨i1, e1, k1, f1⟩ := tokS_inr hq
            obtain ⟨i0, e0, k0, f0⟩ := tokS_inr e1
            have e0' : i = i0 := Sum.inr.inj e0
            subst e0'
            subst f0
            subst f1
            have h1 := (hP.1 i (lt_m hP hs (by omega))).1
            have h2 := (hP.1 (i + 1) (lt_m hP (i := i + 1) (lt_m hP hs (by omega)) (by omega))).1
            cases s' with
            | inl j' => exact t6
            | inr i' =>
              have a1 : D3 + 2 * P (i + 1 + 1) ≤ D + 1 + 2 * P i' + 0 := t6
              show D3 + 2 * P i ≤ D + 2 * P i' + 0
              omega
      · intro i' e'
        subst e'
        obtain ⟨i2, e2⟩ := dv_inr t2
        obtain ⟨i1, e1, _, _⟩ := tokS_inr e2
        obtain ⟨i, e0, _, _⟩ := tokS_inr e1
        obtain ⟨o2, o3⟩ := o1 i e0 i1 e1
        obtain ⟨_, o5⟩ := hO i e0
        obtain ⟨p1, p2⟩ := on_rp (s' := .inr i') rfl (by omega) o2 (fun z hz => by rcases hz with hz | hz; exact Nat.lt_succ_of_lt (o5 z hz); exact hz.2) (by omega) t5
        refine ⟨p1, ⟨rfl, rfl, rfl⟩, ?_, ?_, fun hH => ⟨wB_add hH (by rw [e0]; exact wB_leaf (by omega)), by rw [e0]; exact fun q => List.cons_ne_nil _ _ (List.append_eq_nil_iff.mp q).2⟩, t3.2 i' rfl⟩
        · intro z hz
          have := t5.2.1
          rcases hz with (a | a) | a
          · exact Or.inl a
          · exact Or.inr ⟨a.1, by omega⟩
          · exact Or.inr ⟨by omega, a.2⟩
        · intro z hz hzx hzR
          exact eqA_tr (o3 z hz hzx hzR) (p2 z (by omega) hzx (fun a => by rcases a with a | a; exact hzR a; omega))
end RF
