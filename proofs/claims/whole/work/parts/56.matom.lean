-- the reference's atoms
section RF
variable {K P V B : Nat → Nat} {m r d : Nat} {tk tp tv mt mp ml ys : Nat → Int32} {s s' : Nat ⊕ Nat} {A A' A1 : AR} {D D' D1 x c i : Nat} {F F' F1 : Fo}
theorem on_z {R : Nat → Prop} (h : ON P V A R x c (.add (.num 0) F)) (hn : fn F = 1) : ON P V A R x c F := by
  obtain ⟨h1, h2, h3, l, h4, h5, h6⟩ := h
  have e : fn (.add (.num 0) F) = 1 := by show 0 + fn F = 1; omega
  exact ⟨h1, h2, h3, l, ch_z h4 (by omega), fun q => by omega, fun _ => h6 (by omega)⟩
/-- a node drafted behind its first part -/
theorem on_pre {k p v v1 : Int32} {i1 : Nat} (hD : D1 < 20000) (h1 : k = nI (c % 32)) (h2 : p = (if c % 32 = 19 ∨ c % 32 = 0 then -1 else nI (P (c / 32)))) (h3 : v = (if c % 32 = 9 ∨ c % 32 = 16 then nI (c / 32) else if c % 32 = 17 then nI (V (c / 32)) else 0)) (hr : RP P V s' A A1 D D1 v1 F1) (hs : s' = .inr i1) : ON P V (jn (dr A1 D1 k p v) D1 v1) (fun z => D ≤ z ∧ z < D1) D1 c F1 ∧ (∀ z, z < D → eqA A (jn (dr A1 D1 k p v) D1 v1) z) := by
  obtain ⟨hw, hd, hv, hh⟩ := hr
  obtain ⟨f1, f2, y, f3, f4, f5, f6⟩ := hh i1 hs
  have o0 : ON P V (dr A1 D1 k p v) (fun _ => False) D1 c (.num 0) := on_new h1 h2 h3
  have ny : ¬ v1 = -1 := by rw [f3]; exact nI_m1 (by omega)
  have fr : ∀ z, z < D1 → eqA A1 (jn (dr A1 D1 k p v) D1 v1) z := by
    intro z hz
    refine eqA_tr (eqA_dr (D := D1) (k := k) (p := p) (v := v) hz) ?_
    rw [jn_f ny pk_us]
    exact ⟨rfl, rfl, rfl, pk_un (by omega), pk_un (by omega), rfl⟩
  have o1 := on_join (A' := jn (dr A1 D1 k p v) D1 v1) (R2 := fun z => D ≤ z ∧ z < D1) (y := y) (T := F1) (fun z hz => absurd hz id) o0 f2 (by omega) (fun z hz => absurd hz id) (fun z hz => by rw [f3]; exact eqA_rfl) (by omega) (ch_fr F1 _ _ _ _ f6 (fun z hz => fr z hz.2))
  obtain ⟨g1, g2, g3, l, g4, g5, g6⟩ := on_z o1 f2
  refine ⟨⟨g1, by omega, g3, l, ch_mono _ _ _ _ _ _ g4 (fun z hz => by rcases hz with a | a; exact absurd a id; exact a), g5, g6⟩, fun z hz => eqA_tr (f1 z hz) (fr z (by omega))⟩
/-- a call that leaves a finished node -/
theorem rp_on {R : Nat → Prop} {H : Fo} (hO : ON P V A' R x c H) (hR : ∀ z, R z → D ≤ z ∧ z < D') (hx : D ≤ x ∧ x < D') (hW : Wj A' D') (hf : ∀ z, z < D → eqA A A' z) : RP P V s' A A' D D' (nI x) (.pow H c) := by
  refine ⟨hW, by omega, Or.inr ⟨x, hx.2, rfl⟩, fun i' _ => ⟨hf, rfl, x, rfl, hx.2, hx.1, ?_⟩⟩
  exact ch_mono _ _ _ _ _ _ (on_close hO) (fun z hz => by rcases hz with a | a; exact hR z a; rw [a]; exact hx)
theorem rp_w {s' : Nat ⊕ Nat} {v : Int32} {j : Nat} (e : s' = .inl j) (hW : Wj A' D') (hD : D ≤ D') (hv : v = -1 ∨ ∃ z, z < D' ∧ v = nI z) : RP P V s' A A' D D' v F := ⟨hW, hD, hv, fun i' e' => by rw [e] at e'; cases e'⟩
/-- how many drafts an atom makes -/
def DA (P : Nat → Nat) (d i : Nat) (s' : Nat ⊕ Nat) (D D' : Nat) : Prop := match s' with
  | .inl _ => D' ≤ 18200 - 20 * (d + 1) + 5
  | .inr i' => D' + 1 + 2 * P i ≤ D + 2 * P i'
theorem m_atom {T : (Nat → Int32) → (Nat → Int32) → (Nat → Int32) → (Nat → Int32) → Int32 → Int32 → Int32 → (Nat → Int32) → (Nat → Int32) → (Nat → Int32) → (Nat → Int32) → (Nat → Int32) → (Nat → Int32) → Int32 → Int32 → Option (Int32 × Int32 × Int32 × Int32 × (Nat → Int32) × (Nat → Int32) × (Nat → Int32) × (Nat → Int32) × (Nat → Int32) × (Nat → Int32) × Int32)} (h : HT K P V m tk tp tv) (hM : HM K P m mt mp) (hV : HV K P V m ml ys B) (hP : HP K P m) (hd : d ≤ 100) (hT : TS K P V m tk tp tv mt mp ml ys T d) (hi : i ≤ m) (hW : Wj A D) (hD : D ≤ 2 * P i + 9) (hk : K i = 2 ∨ K i = 3 ∨ K i = 14 ∨ K i = 15) : ∃ (s' : Nat ⊕ Nat) (F : Fo) (A' : AR) (D' : Nat) (v : Int32), f_Mo_atom T ys mt mp ml (sA (.inr i)) (sB (.inr i)) (sF P (.inr i)) A.1 A.2.1 A.2.2.1 A.2.2.2.1 A.2.2.2.2.1 A.2.2.2.2.2 (nI D) (nI d) = some (v, sA s', sB s', sF P s', A'.1, A'.2.1, A'.2.2.1, A'.2.2.2.1, A'.2.2.2.2.1, A'.2.2.2.2.2, nI D') ∧ A40 K P V m tk tp tv d i s' F ∧ ix s' ≤ m ∧ RP P V s' A A' D D' v F ∧ DA P d i s' D D' ∧ (∀ i', s' = .inr i' → wT (2 + 3 * (100 - d)) F) := by
  have hs : ix (.inr i : Nat ⊕ Nat) ≤ m := hi
  have him := lt_m hP hi (by omega)
  have hp := (hP.1 i him).1
  have hPi := hP.2.2.1 i hi
  have hm := hM.1
  have g0 := m_look (mp := mp) (P := P) (s := .inr i) hM hs
  have hin := nI_in (c := i) (N := 8001) (by omega) (by omega)
  have epl : mp (nI i).toNatClampNeg = nI (P i) := by rw [nI_clamp (by omega)]; exact (hM.2.1 i hi).2
  rcases hk with q | q | q | q
  · -- a name
    have e : tokS K 2 (.inr i) = .inr (i + 1) := if_pos q
    have g1 := m_name (A := A) (k := 16) (s := .inr i) hM hs (show D < 20000 by omega)
    rw [e] at g1
    refine ⟨.inr (i + 1), _, dr A D 16 (nI (P i)) (nI i), D + 1, nI D, ?_, a_name h hP hd hi q, him, rp_name (c := 16) (Or.inr rfl) hW, ?_, fun _ _ => wT_w (wT_leaf (by omega)) (by omega)⟩
    · unfold f_Mo_atom
      refine (jb_ok g0).trans ?_
      rw [if_pos (show lk K (.inr i) = 2 from lk_eq (r := 2) hM (by omega) q)]
      exact jb_ok g1
    · show D + 1 + 1 + 2 * P i ≤ D + 2 * P (i + 1)
      omega
  · -- a sort
    have e : tokS K 3 (.inr i) = .inr (i + 1) := if_pos q
    obtain ⟨y, g1, g2⟩ := m_sort (A := A) (s := .inr i) hM hV hs (show D < 20000 by omega)
    rw [e] at g1
    have c1 : (17 + 32 * i) % 32 = 17 := by omega
    have c2 : (17 + 32 * i) / 32 = i := by omega
    refine ⟨.inr (i + 1), _, dr A D 17 (nI (P i)) y, D + 1, nI D, ?_, a_sort h hP hd hi q, him, rp_leaf (c := 17 + 32 * i) (by rw [c1]; rfl) (by rw [c1, c2]; rfl) (by rw [c1, c2, g2 i rfl q]; rfl) hW, ?_, fun _ _ => wT_w (wT_leaf (by omega)) (by omega)⟩
    · unfold f_Mo_atom
      refine (jb_ok g0).trans ?_
      rw [if_neg (show ¬ lk K (.inr i) = 2 from lk_ne (r := 2) hM (by omega) (by omega))]
      refine (jb_ok g0).trans ?_
      rw [if_pos (show lk K (.inr i) = 3 from lk_eq (r := 3) hM (by omega) q)]
      exact jb_ok g1
    · show D + 1 + 1 + 2 * P i ≤ D + 2 * P (i + 1)
      omega
  · -- rec
    have e : tokS K 14 (.inr i) = .inr (i + 1) := if_pos q
    have hs1 : ix (.inr (i + 1) : Nat ⊕ Nat) ≤ m := him
    have hs2 : ix (tokS K 2 (.inr (i + 1))) ≤ m := ix_tok hP hs1 (by omega)
    have hs3 : ix (tokS K 3 (tokS K 2 (.inr (i + 1)))) ≤ m := ix_tok hP hs2 (by omega)
    have g1 := m_draft (A := A) (D := D) (k := 18) (p := nI (P i)) (v := 0) (by omega)
    have g2 := m_take (r := 14) (s := .inr i) hM hs (by omega) (by omega)
    rw [e] at g2
    have w1 : Wj (dr A D 18 (nI (P i)) 0) (D + 1) := W_dr hW
    have g3 := m_name (A := dr A D 18 (nI (P i)) 0) (D := D + 1) (k := 16) (s := .inr (i + 1)) hM hs1 (by omega)
    have w2 : Wj (dr (dr A D 18 (nI (P i)) 0) (D + 1) 16 (nI (P (i + 1))) (nI (i + 1))) (D + 1 + 1) := W_dr w1
    have g4 := m_join (o := D) (y := nI (D + 1)) w2 (by omega) (by omega)
    have w3 := W_jn (o := D) (y := nI (D + 1)) w2 (Or.inr ⟨D + 1, by omega, rfl⟩)
    obtain ⟨y, g5, g6⟩ := m_sort (A := jn (dr (dr A D 18 (nI (P i)) 0) (D + 1) 16 (nI (P (i + 1))) (nI (i + 1))) D (nI (D + 1))) (D := D + 1 + 1) hM hV hs2 (by omega)
    have w4 : Wj (dr (jn (dr (dr A D 18 (nI (P i)) 0) (D + 1) 16 (nI (P (i + 1))) (nI (i + 1))) D (nI (D + 1))) (D + 1 + 1) 17 (nI (P (ix (tokS K 2 (.inr (i + 1)))))) y) (D + 1 + 1 + 1) := W_dr w3
    have g7 := m_join (o := D) (y := nI (D + 1 + 1)) w4 (by omega) (by omega)
    have w5 := W_jn (o := D) (y := nI (D + 1 + 1)) w4 (Or.inr ⟨D + 1 + 1, by omega, rfl⟩)
    have ar := a_rec h hP hd hi q
    rw [e] at ar
    refine ⟨tokS K 3 (tokS K 2 (.inr (i + 1))), _, jn (dr (jn (dr (dr A D 18 (nI (P i)) 0) (D + 1) 16 (nI (P (i + 1))) (nI (i + 1))) D (nI (D + 1))) (D + 1 + 1) 17 (nI (P (ix (tokS K 2 (.inr (i + 1)))))) y) D (nI (D + 1 + 1)), D + 1 + 1 + 1, nI D, ?_, ar, hs3, ?_, ?_, fun i' e' => by
      obtain ⟨i2, e2, k2, f2⟩ := tokS_inr e'
      obtain ⟨i1, e1, k1, f1⟩ := tokS_inr e2
      rw [e2]
      exact wT_w (wT_rec (by omega) (by omega) (by omega)) (by omega)⟩
    rotate_left
    · cases hq : tokS K 3 (tokS K 2 (.inr (i + 1))) with
      | inl j => exact rp_w rfl w5 (by omega) (Or.inr ⟨D, by omega, rfl⟩)
      | inr i3 =>
        obtain ⟨i2, e2, k2, f2⟩ := tokS_inr hq
        obtain ⟨i1, e1, k1, f1⟩ := tokS_inr e2
        have e1' : i + 1 = i1 := Sum.inr.inj e1
        subst e1'
        subst f1
        have c1 : (18 + 32 * i) % 32 = 18 := by omega
        have c2 : (18 + 32 * i) / 32 = i := by omega
        have d1 : (17 + 32 * (i + 1 + 1)) % 32 = 17 := by omega
        have d2 : (17 + 32 * (i + 1 + 1)) / 32 = i + 1 + 1 := by omega
        have o0 : ON P V (dr A D 18 (nI (P i)) 0) (fun _ => False) D (18 + 32 * i) (.num 0) := on_new (by rw [c1]; rfl) (by rw [c1, c2]; rfl) (by rw [c1]; rfl)
        obtain ⟨o1, o2⟩ := on_rp (s' := .inr i3) (D := D + 1) (D' := D + 1 + 1) rfl (by omega) o0 (fun z hz => absurd hz id) (by omega) (rp_name (s' := .inr i3) (c := 16) (i := i + 1) (Or.inr rfl) w1)
        have y1 := g6 _ e2 k2
        rw [e2] at w5 ⊢
        obtain ⟨o3, o4⟩ := on_rp (s' := .inr i3) (D := D + 1 + 1) (D' := D + 1 + 1 + 1) rfl (by omega) o1 (fun z hz => by rcases hz with a | a; exact absurd a id; exact a.2) (by omega) (rp_leaf (s' := .inr i3) (k := 17) (p := nI (P (i + 1 + 1))) (v := y) (c := 17 + 32 * (i + 1 + 1)) (by rw [d1]; rfl) (by rw [d1, d2]; rfl) (by rw [d1, d2, y1]; rfl) w3)
        refine rp_on o3 ?_ ⟨by omega, by omega⟩ w5 ?_
        · intro z hz
          rcases hz with (a | a) | a
          · exact absurd a id
          · omega
          · omega
        · intro z hz
          refine eqA_tr (eqA_tr (eqA_dr hz) (o2 z (by omega) (by omega) id)) (o4 z (by omega) (by omega) ?_)
          intro a
          rcases a with a | a
          · exact a
          · omega
    · cases hq : tokS K 3 (tokS K 2 (.inr (i + 1))) with
      | inl j => show D + 1 + 1 + 1 ≤ 18200 - 20 * (d + 1) + 5; omega
      | inr i3 =>
        obtain ⟨i2, e2, k2, f2⟩ := tokS_inr hq
        obtain ⟨i1, e1, k1, f1⟩ := tokS_inr e2
        have e1' : i + 1 = i1 := Sum.inr.inj e1
        subst e1'
        subst f1
        subst f2
        have p1 := (hP.1 _ (lt_m hP (i := i + 1) him (by omega))).1
        have p2 := (hP.1 _ (lt_m hP (i := i + 1 + 1) (lt_m hP (i := i + 1) him (by omega)) (by omega))).1
        show D + 1 + 1 + 1 + 1 + 2 * P i ≤ D + 2 * P (i + 1 + 1 + 1)
        omega
    · unfold f_Mo_atom
      refine (jb_ok g0).trans ?_
      rw [if_neg (show ¬ lk K (.inr i) = 2 from lk_ne (r := 2) hM (by omega) (by omega))]
      refine (jb_ok g0).trans ?_
      rw [if_neg (show ¬ lk K (.inr i) = 3 from lk_ne (r := 3) hM (by omega) (by omega))]
      refine (jb_ok g0).trans ?_
      rw [if_pos (show lk K (.inr i) = 30 from lk_eq (r := 14) hM (by omega) q)]
      show (if nI i < 0 ∨ 8001 ≤ (nI i).toNatClampNeg then none else _) = _
      rw [if_neg hin]
      show jb (f_Mo_draft A.1 A.2.1 A.2.2.1 A.2.2.2.1 A.2.2.2.2.1 A.2.2.2.2.2 (nI D) 18 (mp (nI i).toNatClampNeg) 0) _ = _
      rw [epl]
      exact (jb_ok g1).trans ((jb_ok g2).trans ((jb_ok g3).trans ((jb_ok g4).trans ((jb_ok g5).trans (jb_ok g7)))))
  · -- brackets
    have e : tokS K 15 (.inr i) = .inr (i + 1) := if_pos q
    have g2 := m_take (r := 15) (s := .inr i) hM hs (by omega) (by omega)
    rw [e] at g2
    obtain ⟨s1, F1, A1, D1, v1, t1, t2, t3, t4, t5, t6⟩ := hT (.inr (i + 1)) A D him hW (by show D ≤ 2 * P (i + 1) + 8; omega)
    have ed : nI d + 1 = nI (d + 1) := nI_1 d
    have D1b : D1 ≤ 18300 := by
      cases s1 with
      | inl j => have a1 : D1 ≤ 18200 - 20 * (d + 1) := t6; omega
      | inr i1 => have a1 : D1 + 2 * P (i + 1) ≤ D + 2 * P i1 + 0 := t6; have := hP.2.2.1 i1 t4; omega
    have start : f_Mo_atom T ys mt mp ml (sA (.inr i)) (sB (.inr i)) (sF P (.inr i)) A.1 A.2.1 A.2.2.1 A.2.2.2.1 A.2.2.2.2.1 A.2.2.2.2.2 (nI D) (nI d) = Mo_atom_b115 T ys mt mp ml (sA s1) (sB s1) (sF P s1) A1.1 A1.2.1 A1.2.2.1 A1.2.2.2.1 A1.2.2.2.2.1 A1.2.2.2.2.2 (nI D1) (nI d) (nI (P i)) v1 := by
      unfold f_Mo_atom
      refine (jb_ok g0).trans ?_
      rw [if_neg (show ¬ lk K (.inr i) = 2 from lk_ne (r := 2) hM (by omega) (by omega))]
      refine (jb_ok g0).trans ?_
      rw [if_neg (show ¬ lk K (.inr i) = 3 from lk_ne (r := 3) hM (by omega) (by omega))]
      refine (jb_ok g0).trans ?_
      rw [if_neg (show ¬ lk K (.inr i) = 30 from lk_ne (r := 14) hM (by omega) (by omega))]
      show (if nI i < 0 ∨ 8001 ≤ (nI i).toNatClampNeg then none else _) = _
      rw [if_neg hin]
      refine (jb_ok g2).trans ?_
      show (if (0 : Int32) = 0 then _ else _) = _
      rw [if_pos (show (0 : Int32) = 0 from rfl), ed]
      refine (jb_ok t1).trans ?_
      rw [← epl]
      rfl
    rw [start]
    have g3 := m_look (mp := mp) (P := P) hM t4
    have close : ∀ (s2 : Nat ⊕ Nat) (A2 : AR) (D2 : Nat) (v : Int32), ix s2 ≤ m → Mo_atom_b164 T ys mt mp ml (sA s2) (sB s2) (sF P s2) A2.1 A2.2.1 A2.2.2.1 A2.2.2.2.1 A2.2.2.2.2.1 A2.2.2.2.2.2 (nI D2) v = some (v, sA (tokS K 16 s2), sB (tokS K 16 s2), sF P (tokS K 16 s2), A2.1, A2.2.1, A2.2.2.1, A2.2.2.2.1, A2.2.2.2.2.1, A2.2.2.2.2.2, nI D2) := by
      intro s2 A2 D2 v h2
      unfold Mo_atom_b164
      exact jb_ok (m_take (r := 16) hM h2 (by omega) (by omega))
    by_cases q17 : ∃ i1, s1 = .inr i1 ∧ K i1 = 17
    · obtain ⟨i1, e1, k17⟩ := q17
      subst e1
      have him1 := lt_m (i := i1) hP t4 (by omega)
      have hp1 := (hP.1 i1 him1).1
      have hPi1 := hP.2.2.1 i1 t4
      have a1 : D1 + 2 * P (i + 1) ≤ D + 2 * P i1 + 0 := t6
      have e17 : tokS K 17 (.inr i1) = .inr (i1 + 1) := if_pos k17
      have c1 : (15 + 32 * i) % 32 = 15 := by omega
      have c2 : (15 + 32 * i) / 32 = i := by omega
      obtain ⟨o1, o2⟩ := on_pre (k := 15) (p := nI (P i)) (v := 0) (c := 15 + 32 * i) (show D1 < 20000 by omega) (by rw [c1]; rfl) (by rw [c1, c2]; rfl) (by rw [c1]; rfl) t5 rfl
      have g4 := m_draft (A := A1) (D := D1) (k := 15) (p := nI (P i)) (v := 0) (by omega)
      have w1 : Wj (dr A1 D1 15 (nI (P i)) 0) (D1 + 1) := W_dr t5.1
      have v1o : v1 = -1 ∨ ∃ z, z < D1 + 1 ∧ v1 = nI z := by
        rcases t5.2.2.1 with a | ⟨z, a, b⟩
        · exact Or.inl a
        · exact Or.inr ⟨z, by omega, b⟩
      have g5 := m_join (o := D1) (y := v1) w1 (by omega) (by omega)
      have w2 := W_jn (o := D1) w1 v1o
      have g6 := m_take (r := 17) (s := .inr i1) hM t4 (by omega) (by omega)
      rw [e17] at g6
      obtain ⟨s3, F2, A4, D4, v2, u1, u2, u3, u4, u5, u6⟩ := hT (.inr (i1 + 1)) (jn (dr A1 D1 15 (nI (P i)) 0) D1 v1) (D1 + 1) him1 w2 (by show D1 + 1 ≤ 2 * P (i1 + 1) + 8; omega)
      have D4b : D4 ≤ 18300 := by
        cases s3 with
        | inl j => have b1 : D4 ≤ 18200 - 20 * (d + 1) := u6; omega
        | inr i3 => have b1 : D4 + 2 * P (i1 + 1) ≤ D1 + 1 + 2 * P i3 + 0 := u6; have := hP.2.2.1 i3 u4; omega
      have u2' := u5.2.1
      have g7 := m_join (o := D1) (y := v2) u5.1 (by omega) (by omega)
      have w4 := W_jn (o := D1) u5.1 u5.2.2.1
      have run : Mo_atom_b115 T ys mt mp ml (sA (.inr i1)) (sB (.inr i1)) (sF P (.inr i1)) A1.1 A1.2.1 A1.2.2.1 A1.2.2.2.1 A1.2.2.2.2.1 A1.2.2.2.2.2 (nI D1) (nI d) (nI (P i)) v1 = some (nI D1, sA (tokS K 16 s3), sB (tokS K 16 s3), sF P (tokS K 16 s3), (jn A4 D1 v2).1, (jn A4 D1 v2).2.1, (jn A4 D1 v2).2.2.1, (jn A4 D1 v2).2.2.2.1, (jn A4 D1 v2).2.2.2.2.1, (jn A4 D1 v2).2.2.2.2.2, nI D4) := by
        unfold Mo_atom_b115
        refine (jb_ok g3).trans ?_
        rw [if_pos (show lk K (.inr i1) = 6 from lk_eq (r := 17) hM (by omega) k17), ed]
        refine (jb_ok g4).trans ((jb_ok g5).trans ((jb_ok g6).trans ((jb_ok u1).trans ((jb_ok g7).trans ?_))))
        exact close s3 (jn A4 D1 v2) D4 (nI D1) u4
      rw [run]
      have hs5 : ix (tokS K 16 s3) ≤ m := ix_tok hP u4 (by omega)
      cases s3 with
      | inl j =>
        refine ⟨.inl j, .num 0, jn A4 D1 v2, D4, nI D1, rfl, a_typedF h hP hd hi q t2 k17 u2, hs5, rp_w rfl w4 (by have := t5.2.1; omega) (Or.inr ⟨D1, by omega, rfl⟩), ?_, fun i' e => by cases e⟩
        have b1 : D4 ≤ 18200 - 20 * (d + 1) := u6
        show D4 ≤ 18200 - 20 * (d + 1) + 5
        omega
      | inr i3 =>
        have b1 : D4 + 2 * P (i1 + 1) ≤ D1 + 1 + 2 * P i3 + 0 := u6
        have hPi3 := hP.2.2.1 i3 u4
        refine ⟨tokS K 16 (.inr i3), _, jn A4 D1 v2, D4, nI D1, rfl, a_typed h hP hd hi q t2 k17 u2, hs5, ?_, ?_, fun i' e' => wT_w (wT_two (b := 1 + 3 * (100 - d)) (by omega) (t3.2 i1 rfl) (wT_w (u3.2 i3 rfl) (by omega)) (fun _ => (u3.2 i3 rfl).2.1)) (by omega)⟩
        · obtain ⟨o3, o4⟩ := on_rp (s' := .inr i3) rfl (by omega) o1 (fun z hz => by omega) (by omega) u5
          have td := t5.2.1
          refine rp_on o3 ?_ ⟨by omega, by omega⟩ w4 ?_
          · intro z hz
            rcases hz with a | a
            · omega
            · omega
          · intro z hz
            exact eqA_tr (o2 z hz) (o4 z (by omega) (by omega) (by omega))
        · cases hq : tokS K 16 (.inr i3) with
          | inl j => show D4 ≤ 18200 - 20 * (d + 1) + 5; omega
          | inr i5 =>
            obtain ⟨i4, e4, k4, f4⟩ := tokS_inr hq
            have e4' : i3 = i4 := Sum.inr.inj e4
            subst e4'
            subst f4
            have p2 := (hP.1 i3 (lt_m hP u4 (by omega))).1
            show D4 + 1 + 2 * P i ≤ D + 2 * P (i3 + 1)
            omega
    · have n17 : ¬ lk K s1 = 6 := by
        cases s1 with
        | inl j => exact lk_bad (r := 17) (by omega) (by omega)
        | inr i1 => exact lk_ne (r := 17) hM (by omega) (fun e => q17 ⟨i1, rfl, e⟩)
      have run : Mo_atom_b115 T ys mt mp ml (sA s1) (sB s1) (sF P s1) A1.1 A1.2.1 A1.2.2.1 A1.2.2.2.1 A1.2.2.2.2.1 A1.2.2.2.2.2 (nI D1) (nI d) (nI (P i)) v1 = some (v1, sA (tokS K 16 s1), sB (tokS K 16 s1), sF P (tokS K 16 s1), A1.1, A1.2.1, A1.2.2.1, A1.2.2.2.1, A1.2.2.2.2.1, A1.2.2.2.2.2, nI D1) := by
        unfold Mo_atom_b115
        refine (jb_ok g3).trans ?_
        rw [if_neg n17]
        exact close s1 A1 D1 v1 t4
      rw [run]
      have hs5 : ix (tokS K 16 s1) ≤ m := ix_tok hP t4 (by omega)
      cases s1 with
      | inl j =>
        refine ⟨.inl j, .num 0, A1, D1, v1, rfl, a_brackF h hP hd hi q t2, hs5, rp_w rfl t5.1 t5.2.1 t5.2.2.1, ?_, fun i' e => by cases e⟩
        have b1 : D1 ≤ 18200 - 20 * (d + 1) := t6
        show D1 ≤ 18200 - 20 * (d + 1) + 5
        omega
      | inr i1 =>
        have a1 : D1 + 2 * P (i + 1) ≤ D + 2 * P i1 + 0 := t6
        have hPi1 := hP.2.2.1 i1 t4
        refine ⟨tokS K 16 (.inr i1), F1, A1, D1, v1, rfl, a_close h hP hd hi q t2 (t3.1 i1 rfl) (fun e => q17 ⟨i1, rfl, e⟩), hs5, ⟨t5.1, t5.2.1, t5.2.2.1, fun i' _ => t5.2.2.2 i1 rfl⟩, ?_, fun i' _ => wT_w (t3.2 i1 rfl) (by omega)⟩
        cases hq : tokS K 16 (.inr i1) with
        | inl j => show D1 ≤ 18200 - 20 * (d + 1) + 5; omega
        | inr i5 =>
          obtain ⟨i4, e4, k4, f4⟩ := tokS_inr hq
          have e4' : i1 = i4 := Sum.inr.inj e4
          subst e4'
          subst f4
          have p2 := (hP.1 i1 (lt_m hP t4 (by omega))).1
          show D1 + 1 + 2 * P i ≤ D + 2 * P (i1 + 1)
          omega
end RF
