-- the reference's fun and all
section RF
variable {K P V B : Nat → Nat} {m r d : Nat} {tk tp tv mt mp ml ys : Nat → Int32} {s s' : Nat ⊕ Nat} {A A' A3 : AR} {D D' D3 x c i o : Nat} {F F' F1 F3 H : Fo} {R : Nat → Prop}
theorem m_299 {T : (Nat → Int32) → (Nat → Int32) → (Nat → Int32) → (Nat → Int32) → Int32 → Int32 → Int32 → (Nat → Int32) → (Nat → Int32) → (Nat → Int32) → (Nat → Int32) → (Nat → Int32) → (Nat → Int32) → Int32 → Int32 → Option (Int32 × Int32 × Int32 × Int32 × (Nat → Int32) × (Nat → Int32) × (Nat → Int32) × (Nat → Int32) × (Nat → Int32) × (Nat → Int32) × Int32)} {l2 l6 : Int32} {u : Nat} (hM : HM K P m mt mp) (hs : ix s ≤ m) (h2 : 2 ≤ u) (hu : u ≤ 23) (hW : Wj A D) (ho : o < D) (hD : D ≤ 20000) : Mo_termS_b299 T ys mt mp ml (sA s) (sB s) (sF P s) A.1 A.2.1 A.2.2.1 A.2.2.2.1 A.2.2.2.2.1 A.2.2.2.2.2 (nI D) (nI d) l2 (nI o) 1 l6 (nI (cm u)) = some (.inl (sA (tokS K u s), sB (tokS K u s), sF P (tokS K u s), (jn A o l6).1, (jn A o l6).2.1, (jn A o l6).2.2.1, (jn A o l6).2.2.2.1, (jn A o l6).2.2.2.2.1, (jn A o l6).2.2.2.2.2, nI D, l6, 1)) := by
  unfold Mo_termS_b299
  exact (jb_ok (m_take hM hs h2 hu)).trans (jb_ok (m_join hW ho hD))
theorem m_284 {T : (Nat → Int32) → (Nat → Int32) → (Nat → Int32) → (Nat → Int32) → Int32 → Int32 → Int32 → (Nat → Int32) → (Nat → Int32) → (Nat → Int32) → (Nat → Int32) → (Nat → Int32) → (Nat → Int32) → Int32 → Int32 → Option (Int32 × Int32 × Int32 × Int32 × (Nat → Int32) × (Nat → Int32) × (Nat → Int32) × (Nat → Int32) × (Nat → Int32) × (Nat → Int32) × Int32)} {l2 l6 : Int32} {t u : Nat} (ht : t = 10 ∧ u = 19 ∨ t = 11 ∧ u = 21) (hM : HM K P m mt mp) (hs : ix s ≤ m) (hW : Wj A D) (ho : o < D) (hD : D ≤ 20000) : Mo_termS_b284 T ys mt mp ml (sA s) (sB s) (sF P s) A.1 A.2.1 A.2.2.1 A.2.2.2.1 A.2.2.2.2.1 A.2.2.2.2.2 (nI D) (nI d) l2 (nI o) 1 (nI (cm t)) l6 = some (.inl (sA (tokS K u s), sB (tokS K u s), sF P (tokS K u s), (jn A o l6).1, (jn A o l6).2.1, (jn A o l6).2.2.1, (jn A o l6).2.2.2.1, (jn A o l6).2.2.2.2.1, (jn A o l6).2.2.2.2.2, nI D, l6, 1)) := by
  unfold Mo_termS_b284
  rcases ht with ⟨e1, e2⟩ | ⟨e1, e2⟩
  · subst e1; subst e2
    rw [if_pos (show nI (cm 10) = 26 by decide)]
    exact m_299 (u := 19) hM hs (by omega) (by omega) hW ho hD
  · subst e1; subst e2
    rw [if_neg (show ¬ nI (cm 11) = 26 by decide)]
    exact m_299 (u := 21) hM hs (by omega) (by omega) hW ho hD
theorem m_bind {T : (Nat → Int32) → (Nat → Int32) → (Nat → Int32) → (Nat → Int32) → Int32 → Int32 → Int32 → (Nat → Int32) → (Nat → Int32) → (Nat → Int32) → (Nat → Int32) → (Nat → Int32) → (Nat → Int32) → Int32 → Int32 → Option (Int32 × Int32 × Int32 × Int32 × (Nat → Int32) × (Nat → Int32) × (Nat → Int32) × (Nat → Int32) × (Nat → Int32) × (Nat → Int32) × Int32)} {l2 : Int32} {t u : Nat} (ht : t = 10 ∧ u = 19 ∨ t = 11 ∧ u = 21) (h : HT K P V m tk tp tv) (hM : HM K P m mt mp) (hP : HP K P m) (hd : d ≤ 100) (hT : TS K P V m tk tp tv mt mp ml ys T d) (hi : i ≤ m) (hW : Wj A D) (hD : D ≤ 2 * P i + 9) (ho : o < D) (hk : K i = t) : ∃ (s2 : Nat ⊕ Nat) (F1 H1 : Fo) (A3 : AR) (D3 : Nat) (R : Nat → Prop), Mo_termS_b176 T ys mt mp ml (sA (.inr i)) (sB (.inr i)) (sF P (.inr i)) A.1 A.2.1 A.2.2.1 A.2.2.2.1 A.2.2.2.2.1 A.2.2.2.2.2 (nI D) (nI d) l2 (nI o) 1 (nI (cm t)) = some (.inl (sA (tokS K u s2), sB (tokS K u s2), sF P (tokS K u s2), (jn A3 o (nI D)).1, (jn A3 o (nI D)).2.1, (jn A3 o (nI D)).2.2.1, (jn A3 o (nI D)).2.2.2.1, (jn A3 o (nI D)).2.2.2.2.1, (jn A3 o (nI D)).2.2.2.2.2, nI D3, nI D, 1)) ∧ Dv K P V m tk tp tv 32 d (.inr (i + 1)) s2 F1 ∧ ix s2 ≤ m ∧ Wj A3 D3 ∧ D + 1 ≤ D3 ∧ (∀ j, s2 = .inl j → D3 ≤ 18200 - 20 * (d + 1) + 3) ∧ (∀ i2, s2 = .inr i2 → ON P V A3 R D (t + 32 * i) H1 ∧ ev H1 (.add (.num 0) F1) ∧ (∀ z, R z → D + 1 ≤ z ∧ z < D3) ∧ (∀ z, z < D → eqA A A3 z) ∧ D3 + 2 * P (i + 1) ≤ D + 2 + 2 * P i2 ∧ wG (2 + 3 * (100 - d)) H1 ∧ rk H1 ≠ []) := by
  have hs : ix (.inr i : Nat ⊕ Nat) ≤ m := hi
  have ht2 : 2 ≤ t ∧ t ≤ 23 := by omega
  have him := lt_m hP hi (by omega)
  have hp := (hP.1 i him).1
  have hPi := hP.2.2.1 i hi
  have hPi1 := hP.2.2.1 (i + 1) him
  have hm := hM.1
  have hin := nI_in (c := i) (N := 8001) (by omega) (by omega)
  have hin1 := nI_in (c := i + 1) (N := 8001) (by omega) (by omega)
  have epl : mp (nI i).toNatClampNeg = nI (P i) := by rw [nI_clamp (by omega)]; exact (hM.2.1 i hi).2
  have epl1 : mp (nI (i + 1)).toNatClampNeg = nI (P (i + 1)) := by rw [nI_clamp (by omega)]; exact (hM.2.1 (i + 1) him).2
  have et : tokS K t (.inr i) = .inr (i + 1) := if_pos hk
  have hs1 : ix (.inr (i + 1) : Nat ⊕ Nat) ≤ m := him
  have ed : nI d + 1 = nI (d + 1) := nI_1 d
  have c1 : (t + 32 * i) % 32 = t := by omega
  have c2 : (t + 32 * i) / 32 = i := by omega
  have o0 : ON P V (dr A D (nI t) (nI (P i)) 0) (fun _ => False) D (t + 32 * i) (.num 0) := on_new (by rw [c1]) (by rw [c1, c2, if_neg (by omega)]) (by rw [c1, if_neg (by omega), if_neg (by omega)])
  have g1 := m_draft (A := A) (D := D) (k := nI t) (p := nI (P i)) (v := 0) (by omega)
  have w1 : Wj (dr A D (nI t) (nI (P i)) 0) (D + 1) := W_dr hW
  have g2 := m_take (r := t) (s := .inr i) hM hs ht2.1 ht2.2
  rw [et] at g2
  have g3 := m_look (mp := mp) (P := P) (s := .inr (i + 1)) hM hs1
  -- up to the look behind the word
  have start : ∀ z, (Mo_termS_b191 T ys mt mp ml (sA (.inr i)) (sB (.inr i)) (sF P (.inr i)) A.1 A.2.1 A.2.2.1 A.2.2.2.1 A.2.2.2.2.1 A.2.2.2.2.2 (nI D) (nI d) l2 (nI o) 1 (nI (cm t)) (nI t) = z) → Mo_termS_b176 T ys mt mp ml (sA (.inr i)) (sB (.inr i)) (sF P (.inr i)) A.1 A.2.1 A.2.2.1 A.2.2.2.1 A.2.2.2.2.1 A.2.2.2.2.2 (nI D) (nI d) l2 (nI o) 1 (nI (cm t)) = z := by
    intro z hz
    unfold Mo_termS_b176
    rcases ht with ⟨e1, e2⟩ | ⟨e1, e2⟩
    · subst e1; rw [if_pos (show nI (cm 10) = 26 by decide)]; exact hz
    · subst e1; rw [if_neg (show ¬ nI (cm 11) = 26 by decide)]; exact hz
  by_cases q2 : K (i + 1) = 2
  · -- names without brackets
    have c3 : (8 + 32 * (i + 1)) % 32 = 8 := by omega
    have c4 : (8 + 32 * (i + 1)) / 32 = i + 1 := by omega
    have o1 : ON P V (dr (dr A D (nI t) (nI (P i)) 0) (D + 1) 8 (nI (P (i + 1))) 0) (fun _ => False) (D + 1) (8 + 32 * (i + 1)) (.num 0) := on_new (by rw [c3]; rfl) (by rw [c3, c4]; rfl) (by rw [c3]; rfl)
    have g4 := m_draft (A := dr A D (nI t) (nI (P i)) 0) (D := D + 1) (k := 8) (p := nI (P (i + 1))) (v := 0) (by omega)
    obtain ⟨s1, s2, Ms, Tf, X, A2, D2, R2, k1, k2, k3, k4, k5, k6, k7, k8⟩ := m_members (x := D + 1) (c := 8 + 32 * (i + 1)) h hM hP hd hT m (.inr (i + 1)) (dr (dr A D (nI t) (nI (P i)) 0) (D + 1) 8 (nI (P (i + 1))) 0) (D + 1 + 1) (fun _ => False) (.num 0) (fun i2 e2 => by omega) hs1 (W_dr w1) (by show D + 1 + 1 ≤ 2 * P (i + 1) + 9; omega) (by omega) (fun i2 _ => ⟨o1, fun z hz => absurd hz id⟩)
    have D2b : D2 ≤ 18300 := by
      cases s2 with
      | inl j => have a1 : D2 ≤ 18200 - 20 * (d + 1) := k7; omega
      | inr i2 => have a1 : D2 + 2 * P (i + 1) ≤ D + 1 + 1 + 2 * P i2 + 0 := k7; have := hP.2.2.1 i2 k4; omega
    have g5 := m_join (o := D) (y := nI (D + 1)) k5 (by omega) (by omega)
    have w5 := W_jn (o := D) (y := nI (D + 1)) k5 (Or.inr ⟨D + 1, by omega, rfl⟩)
    have db := d_bare h hP hd hs1 q2 k2 k3
    refine ⟨s2, .pow (.add X Tf) (8 + 32 * (i + 1)), .add (.num 0) (.pow (.add X Tf) (8 + 32 * (i + 1))), jn A2 D (nI (D + 1)), D2, (fun z => False ∨ (D + 1 ≤ z ∧ z < D2)), ?_, ?_, k4, w5, by omega, ?_, ?_⟩
    · apply start
      unfold Mo_termS_b191
      show (if nI i < 0 ∨ 8001 ≤ (nI i).toNatClampNeg then none else _) = _
      rw [if_neg hin]
      show jb (f_Mo_draft A.1 A.2.1 A.2.2.1 A.2.2.2.1 A.2.2.2.2.1 A.2.2.2.2.2 (nI D) (nI t) (mp (nI i).toNatClampNeg) 0) _ = _
      rw [epl]
      refine (jb_ok g1).trans ((jb_ok g2).trans ((jb_ok g3).trans ?_))
      rw [if_pos (show lk K (.inr (i + 1)) = 2 from lk_eq (r := 2) hM (by omega) q2)]
      show (if nI (i + 1) < 0 ∨ 8001 ≤ (nI (i + 1)).toNatClampNeg then none else _) = _
      rw [if_neg hin1]
      show jb (f_Mo_draft (dr A D (nI t) (nI (P i)) 0).1 (dr A D (nI t) (nI (P i)) 0).2.1 (dr A D (nI t) (nI (P i)) 0).2.2.1 (dr A D (nI t) (nI (P i)) 0).2.2.2.1 (dr A D (nI t) (nI (P i)) 0).2.2.2.2.1 (dr A D (nI t) (nI (P i)) 0).2.2.2.2.2 (nI (D + 1)) 8 (mp (nI (i + 1)).toNatClampNeg) 0) _ = _
      rw [epl1, ed]
      refine (jb_ok g4).trans ((jb_ok k1).trans ((jb_ok g5).trans ?_))
      exact m_284 (A := jn A2 D (nI (D + 1))) ht hM k4 w5 (by omega) (by omega)
    · cases s2 with
      | inl j => exact db
      | inr i2 =>
        obtain ⟨p1, p2, p3, p4⟩ := k8 i2 rfl
        exact d_ev (ev_pow (ev_add (ev_sy p2) ev_rfl)) db
    · intro j e
      subst e
      have a1 : D2 ≤ 18200 - 20 * (d + 1) := k7
      omega
    · intro i2 e
      subst e
      obtain ⟨p1, p2, p3, p4, p5, p6⟩ := k8 i2 rfl
      obtain ⟨x1, x2⟩ := p5 wB_0
      have wg := wG_one' (b := 1 + 3 * (100 - d)) c3 x1 x2 p6 (by omega)
      rw [show 1 + 3 * (100 - d) + 1 = 2 + 3 * (100 - d) by omega] at wg
      have rp1 : RP P V (.inr i2) (dr A D (nI t) (nI (P i)) 0) A2 (D + 1) D2 (nI (D + 1)) (.pow (.add X Tf) (8 + 32 * (i + 1))) := rp_on p1 (fun z hz => by rcases p3 z hz with a | a; exact absurd a id; omega) ⟨by omega, by omega⟩ k5 (fun z hz => eqA_tr (eqA_dr hz) (p4 z (by omega) (by omega) id))
      obtain ⟨r1, r2⟩ := on_rp (s' := .inr i2) rfl (by omega) o0 (fun z hz => absurd hz id) (by omega) rp1
      have a1 : D2 + 2 * P (i + 1) ≤ D + 1 + 1 + 2 * P i2 + 0 := k7
      refine ⟨r1, ⟨rfl, rfl, rfl⟩, fun z hz => by rcases hz with a | a; exact absurd a id; exact a, (fun z hz => eqA_tr (eqA_dr hz) (r2 z (by omega) (by omega) id)), by omega, wG_add wG_0 wg, (fun q => List.cons_ne_nil _ _ (List.append_eq_nil_iff.mp q).2)⟩
  · by_cases q15 : K (i + 1) = 15
    · -- groups
      obtain ⟨s2, Gs, X, A2, D2, R2, k1, k2, k3, k4, k5, k6, k7, k8⟩ := m_groups (x := D) (c := t + 32 * i) h hM hP hd hT m (.inr (i + 1)) (dr A D (nI t) (nI (P i)) 0) (D + 1) (fun _ => False) (.num 0) (fun i2 e2 => by omega) hs1 w1 (by show D + 1 ≤ 2 * P (i + 1) + 8; omega) (by omega) (fun i2 _ => ⟨o0, fun z hz => absurd hz id⟩)
      have D2b : D2 ≤ 18300 := by
        cases s2 with
        | inl j => have a1 : D2 ≤ 18200 - 20 * (d + 1) := k7; omega
        | inr i2 => have a1 : D2 + 2 * P (i + 1) ≤ D + 1 + 2 * P i2 + 0 := k7; have := hP.2.2.1 i2 k4; omega
      refine ⟨s2, Gs, X, A2, D2, R2, ?_, k3 (i + 1) rfl q15, k4, k5, k6, ?_, ?_⟩
      · apply start
        unfold Mo_termS_b191
        show (if nI i < 0 ∨ 8001 ≤ (nI i).toNatClampNeg then none else _) = _
        rw [if_neg hin]
        show jb (f_Mo_draft A.1 A.2.1 A.2.2.1 A.2.2.2.1 A.2.2.2.2.1 A.2.2.2.2.2 (nI D) (nI t) (mp (nI i).toNatClampNeg) 0) _ = _
        rw [epl]
        refine (jb_ok g1).trans ((jb_ok g2).trans ((jb_ok g3).trans ?_))
        rw [if_neg (show ¬ lk K (.inr (i + 1)) = 2 from lk_ne (r := 2) hM (by omega) q2)]
        refine (jb_ok g3).trans ?_
        rw [if_pos (show lk K (.inr (i + 1)) = 4 from lk_eq (r := 15) hM (by omega) q15)]
        unfold Mo_termS_b272
        refine (jb_ok (m_need1 (mp := mp) (P := P) (s := .inr (i + 1)))).trans ?_
        rw [ed]
        refine (jb_ok k1).trans ?_
        exact m_284 (A := A2) ht hM k4 k5 (by omega) (by omega)
      · intro j e
        subst e
        have a1 : D2 ≤ 18200 - 20 * (d + 1) := k7
        omega
      · intro i2 e
        subst e
        obtain ⟨p1, p2, p3, p4, p5, p6, p7, p8⟩ := k8 i2 rfl
        have a1 : D2 + 2 * P (i + 1) ≤ D + 1 + 2 * P i2 + 0 := k7
        exact ⟨p1, p2, fun z hz => by rcases p3 z hz with a | a; exact absurd a id; exact a, (fun z hz => eqA_tr (eqA_dr hz) (p4 z (by omega) (by omega) id)), by omega, p5 wG_0, p8 (i + 1) rfl q15⟩
    · -- neither
      obtain ⟨s2, Gs, X, A2, D2, R2, k1, k2, k3, k4, k5, k6, k7, k8⟩ := m_groups (x := D) (c := t + 32 * i) h hM hP hd hT m (.inl (i + 1)) (dr A D (nI t) (nI (P i)) 0) (D + 1) (fun _ => False) (.num 0) (fun i2 e2 => by cases e2) him w1 (by show D + 1 ≤ 19000; omega) (by omega) (fun i2 e2 => by cases e2)
      have k7' : D2 ≤ D + 1 + 0 := k7
      cases s2 with
      | inr i2 => exact absurd k2 id
      | inl j =>
        have ej : j = i + 1 := k2
        subst ej
        have e15 : tokS K 15 (.inr (i + 1)) = .inl (i + 1) := if_neg q15
        have dg := d_group (F2 := .num 0) (F3 := .num 0) (s2 := .inl (i + 1)) (s3 := .inl (i + 1)) (i := i + 1) h hP hd him (by rw [e15]; exact rfl) (by exact rfl)
        refine ⟨.inl (i + 1), _, .num 0, A2, D2, R2, ?_, d_binders (F2 := .num 0) (s2 := .inl (i + 1)) (i := i + 1) h hP hd him q2 dg (by exact rfl), k4, k5, k6, fun j e => by omega, fun i2 e => by cases e⟩
        apply start
        unfold Mo_termS_b191
        show (if nI i < 0 ∨ 8001 ≤ (nI i).toNatClampNeg then none else _) = _
        rw [if_neg hin]
        show jb (f_Mo_draft A.1 A.2.1 A.2.2.1 A.2.2.2.1 A.2.2.2.2.1 A.2.2.2.2.2 (nI D) (nI t) (mp (nI i).toNatClampNeg) 0) _ = _
        rw [epl]
        refine (jb_ok g1).trans ((jb_ok g2).trans ((jb_ok g3).trans ?_))
        rw [if_neg (show ¬ lk K (.inr (i + 1)) = 2 from lk_ne (r := 2) hM (by omega) q2)]
        refine (jb_ok g3).trans ?_
        rw [if_neg (show ¬ lk K (.inr (i + 1)) = 4 from lk_ne (r := 15) hM (by omega) q15)]
        unfold Mo_termS_b272
        refine (jb_ok (m_need0 (mp := mp) (P := P) (s := .inr (i + 1)) hM hs1)).trans ?_
        rw [ed]
        refine (jb_ok k1).trans ?_
        exact m_284 (A := A2) (s := .inl (i + 1)) ht hM k4 k5 (by omega) (by omega)
end RF
