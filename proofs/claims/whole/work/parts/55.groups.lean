-- the reference's groups
section RF
variable {K P V B : Nat → Nat} {m r d : Nat} {tk tp tv mt mp ml ys : Nat → Int32} {s s' : Nat ⊕ Nat} {A A' : AR} {D D' x c : Nat} {F F' : Fo}
theorem m_groups {T : (Nat → Int32) → (Nat → Int32) → (Nat → Int32) → (Nat → Int32) → Int32 → Int32 → Int32 → (Nat → Int32) → (Nat → Int32) → (Nat → Int32) → (Nat → Int32) → (Nat → Int32) → (Nat → Int32) → Int32 → Int32 → Option (Int32 × Int32 × Int32 × Int32 × (Nat → Int32) × (Nat → Int32) × (Nat → Int32) × (Nat → Int32) × (Nat → Int32) × (Nat → Int32) × Int32)} (h : HT K P V m tk tp tv) (hM : HM K P m mt mp) (hP : HP K P m) (hd : d ≤ 100) (hT : TS K P V m tk tp tv mt mp ml ys T d) : ∀ (n : Nat) (s : Nat ⊕ Nat) (A : AR) (D : Nat) (R : Nat → Prop) (H : Fo), (∀ i, s = .inr i → m - i ≤ n) → ix s ≤ m → Wj A D → DR P 8 19000 s D → x < D → (∀ i, s = .inr i → ON P V A R x c H ∧ ∀ z, R z → z < D) →
    ∃ (s' : Nat ⊕ Nat) (Gs X : Fo) (A' : AR) (D' : Nat) (R' : Nat → Prop), f_Mo_groups T ys mt mp ml (sA s) (sB s) (sF P s) A.1 A.2.1 A.2.2.1 A.2.2.2.1 A.2.2.2.2.1 A.2.2.2.2.2 (nI D) (nI x) (nI (d + 1)) = some (sA s', sB s', sF P s', A'.1, A'.2.1, A'.2.2.1, A'.2.2.2.1, A'.2.2.2.2.1, A'.2.2.2.2.2, nI D') ∧ Dv K P V m tk tp tv 30 d s s' Gs ∧ (∀ i, s = .inr i → K i = 15 → Dv K P V m tk tp tv 32 d s s' Gs) ∧ ix s' ≤ m ∧ Wj A' D' ∧ D ≤ D' ∧ DN P 0 (18200 - 20 * (d + 1)) 0 s s' D D' ∧ (∀ i', s' = .inr i' → ON P V A' R' x c X ∧ ev X (.add H Gs) ∧ (∀ z, R' z → R z ∨ (D ≤ z ∧ z < D')) ∧ (∀ z, z < D → z ≠ x → ¬ R z → eqA A A' z) ∧ (wG (2 + 3 * (100 - d)) H → wG (2 + 3 * (100 - d)) X) ∧ (wP (2 + 3 * (100 - d)) H → wP (2 + 3 * (100 - d)) X) ∧ (rk H ≠ [] → rk X ≠ []) ∧ (∀ i, s = .inr i → K i = 15 → rk X ≠ [])) := by
  intro n
  induction n using Nat.strongRecOn with
  | ind n ih =>
    intro s A D R H hn hs hW hD hx hO
    have hlt := dr_lt hP hs (by omega) (by omega) hD
    have g0 := m_look (mp := mp) (P := P) hM hs
    by_cases q : ∃ i, s = .inr i ∧ K i = 15
    · obtain ⟨i, e, q2⟩ := q
      subst e
      have hi : i ≤ m := hs
      have him := lt_m hP hi (by omega)
      have hp := (hP.1 i him).1
      have hPi := hP.2.2.1 i hi
      have hD' : D ≤ 2 * P i + 8 := hD
      have hni := hn i rfl
      obtain ⟨oH, oR⟩ := hO i rfl
      have e15 : tokS K 15 (.inr i) = .inr (i + 1) := if_pos q2
      have hin := nI_in (c := i) (N := 8001) (by have := hM.1; omega) (by omega)
      have epl : mp (nI i).toNatClampNeg = nI (P i) := by rw [nI_clamp (by have := hM.1; omega)]; exact (hM.2.1 i hi).2
      have g1 := m_draft (A := A) (D := D) (k := 8) (p := nI (P i)) (v := 0) (by omega)
      have g2 := m_take (r := 15) (s := .inr i) hM hs (by omega) (by omega)
      rw [e15] at g2
      have c1 : (8 + 32 * i) % 32 = 8 := by omega
      have c2 : (8 + 32 * i) / 32 = i := by omega
      have o0 : ON P V (dr A D 8 (nI (P i)) 0) (fun _ => False) D (8 + 32 * i) (.num 0) := on_new (by rw [c1]; rfl) (by rw [c1, c2]; rfl) (by rw [c1]; rfl)
      obtain ⟨s1, s2, Ms, Tf, X, A2, D2, R2, k1, k2, k3, k4, k5, k6, k7, k8⟩ := m_members (x := D) (c := 8 + 32 * i) h hM hP hd hT m (.inr (i + 1)) (dr A D 8 (nI (P i)) 0) (D + 1) (fun _ => False) (.num 0) (fun i2 e2 => by omega) him (W_dr hW) (by show D + 1 ≤ 2 * P (i + 1) + 9; omega) (by omega) (fun i2 _ => ⟨o0, fun z hz => absurd hz id⟩)
      have D2b : D2 ≤ 18210 := by
        cases s2 with
        | inl j => have a1 : D2 ≤ 18200 - 20 * (d + 1) := k7; omega
        | inr i2 => have a1 : D2 + 2 * P (i + 1) ≤ D + 1 + 2 * P i2 + 0 := k7; have := hP.2.2.1 i2 k4; omega
      have g4 := m_take (r := 16) hM k4 (by omega) (by omega)
      have hs3 : ix (tokS K 16 s2) ≤ m := ix_tok hP k4 (by omega)
      have g5 := m_join (y := nI D) k5 (show x < D2 by omega) (by omega)
      -- the group as a root
      have rp : ∀ i3, tokS K 16 s2 = .inr i3 → RP P V (.inr i3) A A2 D D2 (nI D) (.pow (.add X Tf) (8 + 32 * i)) := by
        intro i3 e3
        obtain ⟨i2, e2, _, _⟩ := tokS_inr e3
        obtain ⟨p1, p2, p3, p4, p5, p6⟩ := k8 i2 e2
        refine ⟨k5, by omega, Or.inr ⟨D, by omega, rfl⟩, fun i' _ => ⟨fun z hz => eqA_tr (eqA_dr hz) (p4 z (by omega) (by omega) id), rfl, D, rfl, by omega, by omega, ?_⟩⟩
        exact ch_mono _ _ _ _ _ _ (on_close p1) (fun z hz => by
          rcases hz with a | a
          · rcases p3 z a with a | a
            · exact absurd a id
            · omega
          · omega)
      have gw1 : ∀ i3, tokS K 16 s2 = .inr i3 → wG (2 + 3 * (100 - d)) (.pow (.add X Tf) (8 + 32 * i)) := by
        intro i3 e3
        obtain ⟨i2, e2, _, _⟩ := tokS_inr e3
        obtain ⟨p1, p2, p3, p4, p5, p6⟩ := k8 i2 e2
        obtain ⟨q1, q2⟩ := p5 wB_0
        have := wG_one' (b := 1 + 3 * (100 - d)) c1 q1 q2 p6 (by omega)
        rw [show 1 + 3 * (100 - d) + 1 = 2 + 3 * (100 - d) by omega] at this
        exact this
      have dg : Dv K P V m tk tp tv 31 d (.inr i) (tokS K 16 s2) (.pow (.add X Tf) (8 + 32 * i)) := by
        cases hq : tokS K 16 s2 with
        | inl j =>
          have := d_group h hP hd hi (by rw [e15]; exact k2) k3
          rw [hq] at this
          exact this
        | inr i3 =>
          obtain ⟨i2, e2, _, _⟩ := tokS_inr hq
          obtain ⟨p1, p2, p3, p4, p5, p6⟩ := k8 i2 e2
          have := d_group h hP hd hi (by rw [e15]; exact k2) k3
          rw [hq, e15] at this
          exact d_ev (ev_pow (ev_add (ev_sy p2) ev_rfl)) this
      have oj : ∀ i3, tokS K 16 s2 = .inr i3 → ON P V (jn A2 x (nI D)) (fun z => R z ∨ (D ≤ z ∧ z < D2)) x c (.add H (.pow (.add X Tf) (8 + 32 * i))) ∧ (∀ z, z < D → z ≠ x → ¬ R z → eqA A (jn A2 x (nI D)) z) := fun i3 e3 => on_rp (s' := .inr i3) rfl (by omega) oH oR hx (rp i3 e3)
      obtain ⟨s', Gs, X', A', D', R', j1, j2, j3, j4, j5, j6, j7, j8⟩ := ih (n - 1) (by omega) (tokS K 16 s2) (jn A2 x (nI D)) D2 (fun z => R z ∨ (D ≤ z ∧ z < D2)) (.add H (.pow (.add X Tf) (8 + 32 * i))) (fun i3 e3 => by
          obtain ⟨i2, e2, kk, f2⟩ := tokS_inr e3
          subst e2
          have a1 : D2 + 2 * P (i + 1) ≤ D + 1 + 2 * P i2 + 0 := k7
          have hi2 : i2 ≤ m := k4
          rcases Nat.lt_or_ge i2 (i + 1) with a | a
          · exfalso
            have mono : ∀ t, i2 + t ≤ m → P i2 + t ≤ P (i2 + t) := by
              intro t
              induction t with
              | zero => intro _; exact Nat.le_refl _
              | succ t iht => intro ht; have := iht (by omega); have := (hP.1 (i2 + t) (by omega)).1; show P i2 + (t + 1) ≤ P (i2 + t + 1); omega
            have := mono (i + 1 - i2) (by omega)
            rw [show i2 + (i + 1 - i2) = i + 1 by omega] at this
            omega
          · omega) hs3 (W_jn k5 (Or.inr ⟨D, by omega, rfl⟩)) (by
          cases hq : tokS K 16 s2 with
          | inl j => show D2 ≤ 19000; omega
          | inr i3 =>
            obtain ⟨i2, e2, kk, f2⟩ := tokS_inr hq
            subst e2
            subst f2
            have a1 : D2 + 2 * P (i + 1) ≤ D + 1 + 2 * P i2 + 0 := k7
            have a2 := (hP.1 i2 (lt_m hP k4 (by omega))).1
            show D2 ≤ 2 * P (i2 + 1) + 8
            omega) (by omega) (fun i3 e3 => ⟨(oj i3 e3).1, fun z hz => by rcases hz with a | a; have := oR z a; omega; exact a.2⟩)
      refine ⟨s', .add (.add (.num 0) (.pow (.add X Tf) (8 + 32 * i))) Gs, X', A', D', R', ?_, d_groups h hP hd hi q2 dg j2, fun i2 e2 k15 => d_binders h hP hd hi (by omega) dg j2, j4, j5, by omega, ?_, ?_⟩
      · unfold f_Mo_groups Mo_groups_b0 at j1 ⊢
        refine (jl_step ?_).trans j1
        show Mo_groups_b0_s T ys mt mp ml (nI x) (nI (d + 1)) (sA (.inr i)) (sB (.inr i)) (sF P (.inr i)) A.1 A.2.1 A.2.2.1 A.2.2.2.1 A.2.2.2.2.1 A.2.2.2.2.2 (nI D) = _
        unfold Mo_groups_b0_s
        refine (jb_ok g0).trans ?_
        rw [if_pos (show lk K (.inr i) = 4 from lk_eq (r := 15) hM (by omega) q2)]
        show (if nI i < 0 ∨ 8001 ≤ (nI i).toNatClampNeg then none else _) = _
        rw [if_neg hin]
        show jb (f_Mo_draft A.1 A.2.1 A.2.2.1 A.2.2.2.1 A.2.2.2.2.1 A.2.2.2.2.2 (nI D) 8 (mp (nI i).toNatClampNeg) 0) _ = _
        rw [epl]
        refine (jb_ok g1).trans ((jb_ok g2).trans ((jb_ok k1).trans ((jb_ok g4).trans ((jb_ok g5).trans ?_))))
        rfl
      · cases s' with
        | inl j =>
          show D' ≤ 18200 - 20 * (d + 1)
          cases hq : tokS K 16 s2 with
          | inl j' =>
            rw [hq] at j7
            have a1 : D' ≤ D2 + 0 := j7
            cases s2 with
            | inl j2 => have a2 : D2 ≤ 18200 - 20 * (d + 1) := k7; omega
            | inr i2 => have a2 : D2 + 2 * P (i + 1) ≤ D + 1 + 2 * P i2 + 0 := k7; have := hP.2.2.1 i2 k4; omega
          | inr i3 => rw [hq] at j7; exact j7
        | inr i' =>
          obtain ⟨i3, e3⟩ := dv_inr j2
          rw [e3] at j7
          obtain ⟨i2, e2, kk, f2⟩ := tokS_inr e3
          subst e2
          subst f2
          have a1 : D2 + 2 * P (i + 1) ≤ D + 1 + 2 * P i2 + 0 := k7
          have a2 := (hP.1 i2 (lt_m hP k4 (by omega))).1
          have a3 : D' + 2 * P (i2 + 1) ≤ D2 + 2 * P i' + 0 := j7
          show D' + 2 * P i ≤ D + 2 * P i' + 0
          omega
      · intro i' e'
        subst e'
        obtain ⟨i3, e3⟩ := dv_inr j2
        obtain ⟨p1, p2, p3, p4, p5, p6, p7, p8⟩ := j8 i' rfl
        have wg := gw1 i3 e3
        obtain ⟨_, o3⟩ := oj i3 e3
        refine ⟨p1, ev_tr p2 ev_as, ?_, ?_, fun hH => p5 (wG_add hH wg), fun hH => p6 (wP_add hH wg), fun _ => p7 (fun q => List.cons_ne_nil _ _ (List.append_eq_nil_iff.mp q).2), fun _ _ _ => p7 (fun q => List.cons_ne_nil _ _ (List.append_eq_nil_iff.mp q).2)⟩
        · intro z hz
          rcases p3 z hz with (a | a) | a
          · exact Or.inl a
          · exact Or.inr ⟨a.1, by omega⟩
          · exact Or.inr ⟨by omega, a.2⟩
        · intro z hz hzx hzR
          exact eqA_tr (o3 z hz hzx hzR) (p4 z (by omega) hzx (fun a => by rcases a with a | a; exact hzR a; omega))
    · -- no group
      have nq : ¬ lk K s = 4 := by
        cases s with
        | inl j => exact lk_bad (r := 15) (by omega) (by omega)
        | inr i => exact lk_ne (r := 15) hM (by omega) (fun e => q ⟨i, rfl, e⟩)
      refine ⟨s, .num 0, H, A, D, R, ?_, ?_, fun i e k15 => absurd ⟨i, e, k15⟩ q, hs, hW, Nat.le_refl _, ?_, ?_⟩
      · unfold f_Mo_groups Mo_groups_b0
        apply jl_done
        show Mo_groups_b0_s T ys mt mp ml (nI x) (nI (d + 1)) (sA s) (sB s) (sF P s) A.1 A.2.1 A.2.2.1 A.2.2.2.1 A.2.2.2.2.1 A.2.2.2.2.2 (nI D) = _
        unfold Mo_groups_b0_s
        refine (jb_ok g0).trans ?_
        rw [if_neg nq]
      · cases s with
        | inl j => exact rfl
        | inr i => exact d_skip30 h hP hd hs (fun e => q ⟨i, rfl, e⟩)
      · cases s with
        | inl j => exact Nat.le_refl _
        | inr i => exact Nat.le_refl _
      · intro i' e'
        exact ⟨(hO i' e').1, ⟨rfl, rfl, rfl⟩, fun z hz => Or.inl hz, (fun z _ _ _ => eqA_rfl), id, id, id, fun i e k15 => absurd ⟨i, e, k15⟩ q⟩
end RF
