-- the reference's declarations
section RF
variable {K P V B : Nat → Nat} {m r d k e : Nat} {tk tp tv mt mp ml ys : Nat → Int32} {s s' : Nat ⊕ Nat} {A A' A3 A0 : AR} {D D' D3 x c i o lo : Nat} {F F' F1 F3 H : Fo} {R : Nat → Prop}
theorem so_told {T : (Nat → Int32) → (Nat → Int32) → (Nat → Int32) → (Nat → Int32) → Int32 → Int32 → Int32 → (Nat → Int32) → (Nat → Int32) → (Nat → Int32) → (Nat → Int32) → (Nat → Int32) → (Nat → Int32) → Int32 → Int32 → Option (Int32 × Int32 × Int32 × Int32 × (Nat → Int32) × (Nat → Int32) × (Nat → Int32) × (Nat → Int32) × (Nat → Int32) × (Nat → Int32) × Int32)} (h : HT K P V m tk tp tv) (hM : HM K P m mt mp) (hP : HP K P m) (hd : d ≤ 100) (hT : TS K P V m tk tp tv mt mp ml ys T d) (hk : k ≤ 80) (he : e ≤ 8) (ho : SO P V A0 lo m x c e k s A D R H) : ∃ (s' : Nat ⊕ Nat) (F : Fo) (A' : AR) (D' : Nat) (v : Int32), f_Mo_told T ys mt mp ml (sA s) (sB s) (sF P s) A.1 A.2.1 A.2.2.1 A.2.2.2.1 A.2.2.2.2.1 A.2.2.2.2.2 (nI D) (nI (d + 1)) = some (v, sA s', sB s', sF P s', A'.1, A'.2.1, A'.2.2.1, A'.2.2.2.1, A'.2.2.2.2.1, A'.2.2.2.2.2, nI D') ∧ Dv K P V m tk tp tv 36 d s s' F ∧ f_Mo_join A'.2.2.2.1 A'.2.2.2.2.1 A'.2.2.2.2.2 (nI x) v = some ((jn A' x v).2.2.2.1, (jn A' x v).2.2.2.2.1, (jn A' x v).2.2.2.2.2) ∧ SO P V A0 lo m x c (e + 1) (k + 1) s' (jn A' x v) D' (fun z => R z ∨ (D ≤ z ∧ z < D')) (.add H F) ∧ (∀ i', s' = .inr i' → wN (1 + 3 * (100 - d)) F) := by
  obtain ⟨s', F, A', D', v, t1, t2, t3, t4, t5, t6⟩ := m_told h hM hP hd hT ho.1 ho.2.1 (so_dr' ho (by omega) he)
  obtain ⟨S1, Db⟩ := so_root (a := 1) (q := 18200 - 20 * (d + 1)) (n := 1) hP (by omega) (by omega) (by omega) (by omega) ho t3 t4 t5 (fun i' ee => by rw [ee] at t2; exact dv_inr t2)
  have := t4.2.1
  have := ho.2.2.1
  exact ⟨s', F, A', D', v, t1, t2, m_join t4.1 (by omega) (by omega), S1, t6⟩
theorem so_opt {T : (Nat → Int32) → (Nat → Int32) → (Nat → Int32) → (Nat → Int32) → Int32 → Int32 → Int32 → (Nat → Int32) → (Nat → Int32) → (Nat → Int32) → (Nat → Int32) → (Nat → Int32) → (Nat → Int32) → Int32 → Int32 → Option (Int32 × Int32 × Int32 × Int32 × (Nat → Int32) × (Nat → Int32) × (Nat → Int32) × (Nat → Int32) × (Nat → Int32) × (Nat → Int32) × Int32)} {ρ : Type} (hP : HP K P m) (hd : d ≤ 100) (hT : TS K P V m tk tp tv mt mp ml ys T d) (hk : k ≤ 80) (he : e ≤ 8) (ho : SO P V A0 lo m x c e k s A D R H) (Bk : Int32 → Int32 → Int32 → Int32 → AR → Int32 → Option ρ) : ∃ (s' : Nat ⊕ Nat) (F : Fo) (A' : AR) (D' : Nat) (v : Int32), (if sB s = 0 then jb (T ys mt mp ml (sA s) (sB s) (sF P s) A.1 A.2.1 A.2.2.1 A.2.2.2.1 A.2.2.2.2.1 A.2.2.2.2.2 (nI D) (nI (d + 1))) (fun o => Bk o.1 o.2.1 o.2.2.1 o.2.2.2.1 (o.2.2.2.2.1, o.2.2.2.2.2.1, o.2.2.2.2.2.2.1, o.2.2.2.2.2.2.2.1, o.2.2.2.2.2.2.2.2.1, o.2.2.2.2.2.2.2.2.2.1) o.2.2.2.2.2.2.2.2.2.2) else Bk (-1) (sA s) (sB s) (sF P s) A (nI D)) = Bk v (sA s') (sB s') (sF P s') A' (nI D') ∧ Dv K P V m tk tp tv 38 d s s' F ∧ f_Mo_join A'.2.2.2.1 A'.2.2.2.2.1 A'.2.2.2.2.2 (nI x) v = some ((jn A' x v).2.2.2.1, (jn A' x v).2.2.2.2.1, (jn A' x v).2.2.2.2.2) ∧ SO P V A0 lo m x c e (k + 1) s' (jn A' x v) D' (fun z => R z ∨ (D ≤ z ∧ z < D')) (.add H F) ∧ (∀ i', s' = .inr i' → wT (1 + 3 * (100 - d)) F) := by
  obtain ⟨s', F, A', D', v, t1, t2, t3, t4, t5, t6⟩ := m_opt hT ho.1 ho.2.1 (so_dr' ho (by omega) he) Bk
  obtain ⟨S1, Db⟩ := so_root (a := 0) (q := 18200 - 20 * (d + 1)) (n := 1) hP (by omega) (by omega) (by omega) (by omega) ho t3 t4 t5 (fun i' ee => by rw [ee] at t2; exact dv_inr t2)
  have := t4.2.1
  have := ho.2.2.1
  exact ⟨s', F, A', D', v, t1, t2, m_join t4.1 (by omega) (by omega), S1, t6⟩
theorem m_216n {l1 l2 : Int32} (hM : HM K P m mt mp) (hs : ix s ≤ m) (hl : ¬ l1 = 23) : Mo_declaration_b216 ys mt mp ml (sA s) (sB s) (sF P s) A.1 A.2.1 A.2.2.1 A.2.2.2.1 A.2.2.2.2.1 A.2.2.2.2.2 (nI D) l1 l2 = some (l2, sA (stS K s), sB (stS K s), sF P (stS K s), A.1, A.2.1, A.2.2.1, A.2.2.2.1, A.2.2.2.2.1, A.2.2.2.2.2, nI D) := by
  unfold Mo_declaration_b216
  refine jl_jm ?_
  show Mo_declaration_b216_s ys mt mp ml l1 l2 (sA s) (sB s) (sF P s) A.1 A.2.1 A.2.2.1 A.2.2.2.1 A.2.2.2.2.1 A.2.2.2.2.2 (nI D) = _
  unfold Mo_declaration_b216_s
  rw [if_neg hl, m_300 hM hs]
theorem m_177n {l1 l2 : Int32} (hM : HM K P m mt mp) (hs : ix s ≤ m) (h1 : ¬ l1 = 21) (h2 : ¬ l1 = 22) (hl : ¬ l1 = 23) : Mo_declaration_b177 ys mt mp ml (sA s) (sB s) (sF P s) A.1 A.2.1 A.2.2.1 A.2.2.2.1 A.2.2.2.2.1 A.2.2.2.2.2 (nI D) l1 l2 = some (l2, sA (stS K s), sB (stS K s), sF P (stS K s), A.1, A.2.1, A.2.2.1, A.2.2.2.1, A.2.2.2.2.1, A.2.2.2.2.2, nI D) := by
  unfold Mo_declaration_b177
  rw [if_neg h1, if_neg h2]
  exact m_216n hM hs hl
theorem m_177t {l1 : Int32} (hM : HM K P m mt mp) (hP : HP K P m) (hT : TS K P V m tk tp tv mt mp ml ys (f_Mo_term 102) 0) (h1 : l1 = 21 ∨ l1 = 22) (hk : k ≤ 80) (he : e ≤ 9) (ho : SO P V A0 lo m x c e k s A D R H) : ∃ (s' : Nat ⊕ Nat) (F : Fo) (A' : AR) (D' : Nat) (R' : Nat → Prop), Mo_declaration_b177 ys mt mp ml (sA s) (sB s) (sF P s) A.1 A.2.1 A.2.2.1 A.2.2.2.1 A.2.2.2.2.1 A.2.2.2.2.2 (nI D) l1 (nI x) = some (nI x, sA (stS K s'), sB (stS K s'), sF P (stS K s'), A'.1, A'.2.1, A'.2.2.1, A'.2.2.2.1, A'.2.2.2.2.1, A'.2.2.2.2.2, nI D') ∧ Dv K P V m tk tp tv 38 0 (tokS K 18 s) s' F ∧ SO P V A0 lo m x c (e - 1) (k + 1) s' A' D' R' (.add H F) ∧ (∀ i', s' = .inr i' → wT 301 F) := by
  have S1 := so_tok (r := 18) hP (by omega) he ho
  have g1 := m_take (r := 18) hM ho.1 (by omega) (by omega)
  obtain ⟨s', F, A', D', v, t1, t2, t3, t4, t5⟩ := so_opt hP (by omega) hT hk (by omega) S1 (fun v at' bd ft AA DD => Mo_declaration_b213 ys mt mp ml at' bd ft AA.1 AA.2.1 AA.2.2.1 AA.2.2.2.1 AA.2.2.2.2.1 AA.2.2.2.2.2 DD l1 (nI x) v (nI x))
  refine ⟨s', F, jn A' x v, D', _, ?_, t2, t4, t5⟩
  have n23 : ¬ l1 = 23 := by rcases h1 with q | q <;> rw [q] <;> decide
  have run : Mo_declaration_b189 ys mt mp ml (sA s) (sB s) (sF P s) A.1 A.2.1 A.2.2.1 A.2.2.2.1 A.2.2.2.2.1 A.2.2.2.2.2 (nI D) l1 (nI x) = some (nI x, sA (stS K s'), sB (stS K s'), sF P (stS K s'), (jn A' x v).1, (jn A' x v).2.1, (jn A' x v).2.2.1, (jn A' x v).2.2.2.1, (jn A' x v).2.2.2.2.1, (jn A' x v).2.2.2.2.2, nI D') := by
    unfold Mo_declaration_b189
    refine (jb_ok g1).trans (t1.trans ?_)
    unfold Mo_declaration_b213
    refine (jb_ok t3).trans ?_
    exact m_216n (A := jn A' x v) hM t4.1 n23
  unfold Mo_declaration_b177
  rcases h1 with q | q
  · rw [if_pos q]; exact run
  · rw [if_neg (show ¬ l1 = 21 by rw [q]; decide), if_pos q]; exact run
theorem dc_ev (h : ev F F') (hD : DC K P V m tk tp tv i s F) : DC K P V m tk tp tv i s F' := by
  cases s with
  | inl j => exact hD
  | inr i' =>
    obtain ⟨⟨h1, h2, h3⟩, h4⟩ := hD
    refine ⟨⟨h1, by rw [← h.2.1]; exact h2, by rw [← h.2.1]; exact h3⟩, fun G gk gp gv gs gn wa wc bp bf bc dp hG hR => ?_⟩
    rw [← h.1]
    exact h4 G gk gp gv gs gn wa wc bp bf bc dp hG hR
/-- what the reference makes of a declaration -/
def MD (K P V : Nat → Nat) (m : Nat) (tk tp tv : Nat → Int32) (i : Nat) (s' : Nat ⊕ Nat) (F : Fo) (A' : AR) (D' : Nat) (v : Int32) : Prop := ix s' ≤ m ∧ (∀ j, s' = .inl j → DC K P V m tk tp tv i (.inl j) F) ∧ (∀ i', s' = .inr i' → K i' = 22 ∧ DC K P V m tk tp tv i (.inr (i' + 1)) F ∧ v = nI 0 ∧ D' ≤ 19000 ∧ ((∃ H c, F = .pow H c) ∧ wD 303 F) ∧ ch P V A' F (fun z => z < D') (nI 0) (-1) 0)
theorem md_of {Y : Fo} (hP : HP K P m) (hk : k ≤ 100) (he : e ≤ 9) (ho : SO P V A0 0 m 0 c e k s A D R H) (hd : DC K P V m tk tp tv i (tokS K 22 s) (.pow Y c)) (hv : ∀ i', s = .inr i' → ev H Y ∧ wD 303 (.pow H c)) : MD K P V m tk tp tv i (stS K s) (.pow H c) A D (nI 0) := by
  cases s with
  | inl j =>
    refine ⟨ho.1, fun j' ee => ?_, fun i' ee => by cases ee⟩
    have : j = j' := Sum.inl.inj ee
    subst this
    exact hd
  | inr i' =>
    by_cases q : K i' = 22
    · have e1 : tokS K 22 (.inr i') = .inr (i' + 1) := if_pos q
      have e2 : stS K (.inr i') = .inr i' := if_pos q
      rw [e1] at hd
      rw [e2]
      refine ⟨ho.1, (fun j' ee => by cases ee), fun i2 ee => ?_⟩
      have : i' = i2 := Sum.inr.inj ee
      subst this
      have hb := so_lt hP hk he ho
      obtain ⟨_, _, _, h4⟩ := so_rp ho
      obtain ⟨_, _, y, f3, f4, _, f6⟩ := h4 i' rfl
      have ey : 0 = y := (nI_eq (by omega) (by omega)).mp f3
      subst ey
      exact ⟨q, dc_ev (ev_pow (ev_sy (hv i' rfl).1)) hd, rfl, by omega, ⟨⟨_, _, rfl⟩, (hv i' rfl).2⟩, ch_mono _ _ _ _ _ _ f6 (fun z hz => hz.2)⟩
    · have e1 : tokS K 22 (.inr i') = .inl i' := if_neg q
      have e2 : stS K (.inr i') = .inl i' := if_neg q
      rw [e1] at hd
      rw [e2]
      refine ⟨ho.1, fun j' ee => ?_, fun i2 ee => by cases ee⟩
      have : i' = j' := Sum.inl.inj ee
      subst this
      exact hd
theorem Wj_0 : Wj A 0 := fun x hx => absurd hx (by omega)
theorem m_takeB {j : Nat} {a1 : Int32} (hM : HM K P m mt mp) (hj : j ≤ m) : f_Mo_take mt mp (sA (.inl j)) (sB (.inl j)) (sF P (.inl j)) a1 = some (sA (.inl j), sB (.inl j), sF P (.inl j)) := by
  unfold f_Mo_take
  refine (jb_ok (m_look (mp := mp) (P := P) (s := .inl j) hM hj)).trans ?_
  by_cases q : lk K (.inl j) = a1
  · rw [if_pos q]
    unfold Mo_take_b14
    refine (jb_ok m_need1).trans ?_
    rfl
  · rw [if_neg q]
    unfold Mo_take_b14
    refine (jb_ok (m_need0 (s := .inl j) hM hj)).trans ?_
    rfl
theorem md_axi (h : HT K P V m tk tp tv) (hM : HM K P m mt mp) (hP : HP K P m) (hT : TS K P V m tk tp tv mt mp ml ys (f_Mo_term 102) 0) (hi : i ≤ m) (hk : K i = 4) : ∃ (s' : Nat ⊕ Nat) (F : Fo) (A' : AR) (D' : Nat) (v : Int32), f_Mo_declaration ys mt mp ml (sA (.inr i)) (sB (.inr i)) (sF P (.inr i)) A.1 A.2.1 A.2.2.1 A.2.2.2.1 A.2.2.2.2.1 A.2.2.2.2.2 0 = some (v, sA s', sB s', sF P s', A'.1, A'.2.1, A'.2.2.1, A'.2.2.2.1, A'.2.2.2.2.1, A'.2.2.2.2.2, nI D') ∧ MD K P V m tk tp tv i s' F A' D' v := by
  have hs : ix (.inr i : Nat ⊕ Nat) ≤ m := hi
  have hm := hM.1
  have g0 := m_look (mp := mp) (P := P) (s := .inr i) hM hs
  have elk : lk K (.inr i) = 20 := lk_eq (r := 4) hM (by omega) hk
  rw [elk] at g0
  have hin := nI_in (c := i) (N := 8001) (by omega) (by omega)
  have epl : mp (nI i).toNatClampNeg = nI (P i) := by rw [nI_clamp (by omega)]; exact (hM.2.1 i hi).2
  have ek : tokS K 4 (.inr i) = .inr (i + 1) := if_pos hk
  have c1 : (1 + 32 * i) % 32 = 1 := by omega
  have c2 : (1 + 32 * i) / 32 = i := by omega
  have S0 : SO P V A 0 m 0 (1 + 32 * i) 8 0 (.inr i) (dr A 0 1 (nI (P i)) 0) 1 (fun _ => False) (.num 0) := so_new (D := 0) hi Wj_0 (by omega) (by rw [c1]; rfl) (by rw [c1, c2]; rfl) (by rw [c1]; rfl)
  have g1 := m_draft (A := A) (D := 0) (k := 1) (p := nI (P i)) (v := 0) (by omega)
  have g2 := m_take (r := 4) (s := .inr i) hM hs (by omega) (by omega)
  have S1 := so_tok (r := 4) hP (by omega) (by omega) S0
  have start : ∀ z, Mo_declaration_b49 ys mt mp ml (sA (.inr i)) (sB (.inr i)) (sF P (.inr i)) A.1 A.2.1 A.2.2.1 A.2.2.2.1 A.2.2.2.2.1 A.2.2.2.2.2 0 20 1 = z → f_Mo_declaration ys mt mp ml (sA (.inr i)) (sB (.inr i)) (sF P (.inr i)) A.1 A.2.1 A.2.2.1 A.2.2.2.1 A.2.2.2.2.1 A.2.2.2.2.2 0 = z := by
    intro z hz
    unfold f_Mo_declaration
    refine (jb_ok g0).trans ?_
    rw [if_neg (show ¬ (20 : Int32) < 20 by decide), if_neg (show ¬ (25 : Int32) < 20 by decide)]
    unfold Mo_declaration_b23
    refine (jb_ok (m_need1 (mp := mp) (P := P) (s := .inr i))).trans ?_
    rw [if_neg (show ¬ (23 : Int32) < 20 by decide), show (20 : Int32) - 20 + 1 = 1 by decide]
    exact hz
  have open49 : ∀ z, _ = z → Mo_declaration_b49 ys mt mp ml (sA (.inr i)) (sB (.inr i)) (sF P (.inr i)) A.1 A.2.1 A.2.2.1 A.2.2.2.1 A.2.2.2.2.1 A.2.2.2.2.2 0 20 1 = z := fun z hz => by
    unfold Mo_declaration_b49
    show (if nI i < 0 ∨ 8001 ≤ (nI i).toNatClampNeg then none else _) = _
    rw [if_neg hin]
    show jb (f_Mo_draft A.1 A.2.1 A.2.2.1 A.2.2.2.1 A.2.2.2.2.1 A.2.2.2.2.2 0 1 (mp (nI i).toNatClampNeg) 0) _ = _
    rw [epl]
    refine (jb_ok g1).trans ((jb_ok g2).trans ?_)
    rw [if_neg (show ¬ (23 : Int32) < 20 by decide)]
    exact hz
  have g3 := m_name (A := dr A 0 1 (nI (P i)) 0) (D := 1) (k := 9) hM S1.1 (by omega)
  obtain ⟨S2, w2⟩ := so_name hP (by omega) (by omega) S1
  have g4 := m_join (o := 0) (y := nI 1) w2 (by omega) (by omega)
  obtain ⟨s3, Gs, X, A3, D3, R3, g5, d3, S3, v3⟩ := so_groups h hM hP (by omega) hT (by omega) (by omega) S2
  have g6 := m_take (r := 17) hM S3.1 (by omega) (by omega)
  have S4 := so_tok (r := 17) hP (by omega) (by omega) S3
  obtain ⟨s5, F5, A5, D5, v5, g7, d5, g8, S5, w5⟩ := so_opt hP (by omega) hT (by omega) (by omega) S4 (fun v at' bd ft AA DD => Mo_declaration_b134 ys mt mp ml at' bd ft AA.1 AA.2.1 AA.2.2.1 AA.2.2.2.1 AA.2.2.2.2.1 AA.2.2.2.2.2 DD 20 (nI 0) v (nI 0))
  refine ⟨stS K s5, _, jn A5 0 v5, D5, nI 0, ?_, md_of hP (by omega) (by omega) S5 (dc_of hP hi (by decide) (x_axi h hi hk) (fun G hG => dd_axi h hP hi d3 d5 hG)) (fun i' ee => ?_)⟩
  · apply start
    apply open49
    refine (jb_ok g3).trans ((jb_ok g4).trans ((jb_ok g5).trans ?_))
    rw [if_neg (show ¬ (20 : Int32) = 21 by decide)]
    refine (jb_ok g6).trans (g7.trans ?_)
    unfold Mo_declaration_b134
    refine (jb_ok g8).trans ?_
    exact m_177n (A := jn A5 0 v5) hM S5.1 (by decide) (by decide) (by decide)
  · subst ee
    obtain ⟨j4, f4⟩ := dv_inr d5
    obtain ⟨j3, f3, _, _⟩ := tokS_inr f4
    exact ⟨ev_add (v3 j3 f3).1 ev_rfl, wD_axi (b := 302) (by omega) ((v3 j3 f3).2 (by rw [ek]; exact wP_name (by omega) (by omega))) (wT_w (w5 _ rfl) (by omega))⟩
theorem md_def (h : HT K P V m tk tp tv) (hM : HM K P m mt mp) (hP : HP K P m) (hT : TS K P V m tk tp tv mt mp ml ys (f_Mo_term 102) 0) (hi : i ≤ m) (hk : K i = 5) : ∃ (s' : Nat ⊕ Nat) (F : Fo) (A' : AR) (D' : Nat) (v : Int32), f_Mo_declaration ys mt mp ml (sA (.inr i)) (sB (.inr i)) (sF P (.inr i)) A.1 A.2.1 A.2.2.1 A.2.2.2.1 A.2.2.2.2.1 A.2.2.2.2.2 0 = some (v, sA s', sB s', sF P s', A'.1, A'.2.1, A'.2.2.1, A'.2.2.2.1, A'.2.2.2.2.1, A'.2.2.2.2.2, nI D') ∧ MD K P V m tk tp tv i s' F A' D' v := by
  have hs : ix (.inr i : Nat ⊕ Nat) ≤ m := hi
  have hm := hM.1
  have g0 := m_look (mp := mp) (P := P) (s := .inr i) hM hs
  have elk : lk K (.inr i) = 21 := lk_eq (r := 5) hM (by omega) hk
  rw [elk] at g0
  have hin := nI_in (c := i) (N := 8001) (by omega) (by omega)
  have epl : mp (nI i).toNatClampNeg = nI (P i) := by rw [nI_clamp (by omega)]; exact (hM.2.1 i hi).2
  have ek : tokS K 5 (.inr i) = .inr (i + 1) := if_pos hk
  have c1 : (2 + 32 * i) % 32 = 2 := by omega
  have c2 : (2 + 32 * i) / 32 = i := by omega
  have S0 : SO P V A 0 m 0 (2 + 32 * i) 8 0 (.inr i) (dr A 0 2 (nI (P i)) 0) 1 (fun _ => False) (.num 0) := so_new (D := 0) hi Wj_0 (by omega) (by rw [c1]; rfl) (by rw [c1, c2]; rfl) (by rw [c1]; rfl)
  have g1 := m_draft (A := A) (D := 0) (k := 2) (p := nI (P i)) (v := 0) (by omega)
  have g2 := m_take (r := 5) (s := .inr i) hM hs (by omega) (by omega)
  have S1 := so_tok (r := 5) hP (by omega) (by omega) S0
  have start : ∀ z, Mo_declaration_b49 ys mt mp ml (sA (.inr i)) (sB (.inr i)) (sF P (.inr i)) A.1 A.2.1 A.2.2.1 A.2.2.2.1 A.2.2.2.2.1 A.2.2.2.2.2 0 21 2 = z → f_Mo_declaration ys mt mp ml (sA (.inr i)) (sB (.inr i)) (sF P (.inr i)) A.1 A.2.1 A.2.2.1 A.2.2.2.1 A.2.2.2.2.1 A.2.2.2.2.2 0 = z := by
    intro z hz
    unfold f_Mo_declaration
    refine (jb_ok g0).trans ?_
    rw [if_neg (show ¬ (21 : Int32) < 20 by decide), if_neg (show ¬ (25 : Int32) < 21 by decide)]
    unfold Mo_declaration_b23
    refine (jb_ok (m_need1 (mp := mp) (P := P) (s := .inr i))).trans ?_
    rw [if_neg (show ¬ (23 : Int32) < 21 by decide), show (21 : Int32) - 20 + 1 = 2 by decide]
    exact hz
  have open49 : ∀ z, _ = z → Mo_declaration_b49 ys mt mp ml (sA (.inr i)) (sB (.inr i)) (sF P (.inr i)) A.1 A.2.1 A.2.2.1 A.2.2.2.1 A.2.2.2.2.1 A.2.2.2.2.2 0 21 2 = z := fun z hz => by
    unfold Mo_declaration_b49
    show (if nI i < 0 ∨ 8001 ≤ (nI i).toNatClampNeg then none else _) = _
    rw [if_neg hin]
    show jb (f_Mo_draft A.1 A.2.1 A.2.2.1 A.2.2.2.1 A.2.2.2.2.1 A.2.2.2.2.2 0 2 (mp (nI i).toNatClampNeg) 0) _ = _
    rw [epl]
    refine (jb_ok g1).trans ((jb_ok g2).trans ?_)
    rw [if_neg (show ¬ (23 : Int32) < 21 by decide)]
    exact hz
  have g3 := m_name (A := dr A 0 2 (nI (P i)) 0) (D := 1) (k := 9) hM S1.1 (by omega)
  obtain ⟨S2, w2⟩ := so_name hP (by omega) (by omega) S1
  have g4 := m_join (o := 0) (y := nI 1) w2 (by omega) (by omega)
  obtain ⟨s3, Gs, X, A3, D3, R3, g5, d3, S3, v3⟩ := so_groups h hM hP (by omega) hT (by omega) (by omega) S2
  obtain ⟨s4, F4, A4, D4, v4, g6, d4, g7, S4, w4⟩ := so_told h hM hP (by omega) hT (by omega) (by omega) S3
  obtain ⟨s5, F5, A5, D5, R5, g8, d5, S5, w5⟩ := m_177t (l1 := 21) hM hP hT (Or.inl rfl) (by omega) (by omega) S4
  refine ⟨stS K s5, _, A5, D5, nI 0, ?_, md_of hP (by omega) (by omega) S5 (dc_of hP hi (by decide) (x_def h hi hk) (fun G hG => dd_def h hP hi d3 d4 d5 hG)) (fun i' ee => ?_)⟩
  · apply start
    apply open49
    refine (jb_ok g3).trans ((jb_ok g4).trans ((jb_ok g5).trans ?_))
    rw [if_pos (show (21 : Int32) = 21 from rfl)]
    exact (jb_ok g6).trans ((jb_ok g7).trans g8)
  · subst ee
    obtain ⟨j4, f4⟩ := dv_inr d5
    obtain ⟨j3, f3, _, _⟩ := tokS_inr f4
    have w4' := w4 j3 f3
    rw [f3] at d4
    obtain ⟨j2, f2⟩ := dv_inr d4
    exact ⟨ev_add (ev_add (v3 j2 f2).1 ev_rfl) ev_rfl, wD_two (b := 302) (by omega) ((v3 j2 f2).2 (by rw [ek]; exact wP_name (by omega) (by omega))) (wN_w w4' (by omega)) (fun q => by omega) (wT_w (w5 _ rfl) (by omega))⟩
theorem md_lem (h : HT K P V m tk tp tv) (hM : HM K P m mt mp) (hP : HP K P m) (hT : TS K P V m tk tp tv mt mp ml ys (f_Mo_term 102) 0) (hi : i ≤ m) (hk : K i = 6) : ∃ (s' : Nat ⊕ Nat) (F : Fo) (A' : AR) (D' : Nat) (v : Int32), f_Mo_declaration ys mt mp ml (sA (.inr i)) (sB (.inr i)) (sF P (.inr i)) A.1 A.2.1 A.2.2.1 A.2.2.2.1 A.2.2.2.2.1 A.2.2.2.2.2 0 = some (v, sA s', sB s', sF P s', A'.1, A'.2.1, A'.2.2.1, A'.2.2.2.1, A'.2.2.2.2.1, A'.2.2.2.2.2, nI D') ∧ MD K P V m tk tp tv i s' F A' D' v := by
  have hs : ix (.inr i : Nat ⊕ Nat) ≤ m := hi
  have hm := hM.1
  have g0 := m_look (mp := mp) (P := P) (s := .inr i) hM hs
  have elk : lk K (.inr i) = 22 := lk_eq (r := 6) hM (by omega) hk
  rw [elk] at g0
  have hin := nI_in (c := i) (N := 8001) (by omega) (by omega)
  have epl : mp (nI i).toNatClampNeg = nI (P i) := by rw [nI_clamp (by omega)]; exact (hM.2.1 i hi).2
  have ek : tokS K 6 (.inr i) = .inr (i + 1) := if_pos hk
  have c1 : (3 + 32 * i) % 32 = 3 := by omega
  have c2 : (3 + 32 * i) / 32 = i := by omega
  have S0 : SO P V A 0 m 0 (3 + 32 * i) 8 0 (.inr i) (dr A 0 3 (nI (P i)) 0) 1 (fun _ => False) (.num 0) := so_new (D := 0) hi Wj_0 (by omega) (by rw [c1]; rfl) (by rw [c1, c2]; rfl) (by rw [c1]; rfl)
  have g1 := m_draft (A := A) (D := 0) (k := 3) (p := nI (P i)) (v := 0) (by omega)
  have g2 := m_take (r := 6) (s := .inr i) hM hs (by omega) (by omega)
  have S1 := so_tok (r := 6) hP (by omega) (by omega) S0
  have start : ∀ z, Mo_declaration_b49 ys mt mp ml (sA (.inr i)) (sB (.inr i)) (sF P (.inr i)) A.1 A.2.1 A.2.2.1 A.2.2.2.1 A.2.2.2.2.1 A.2.2.2.2.2 0 22 3 = z → f_Mo_declaration ys mt mp ml (sA (.inr i)) (sB (.inr i)) (sF P (.inr i)) A.1 A.2.1 A.2.2.1 A.2.2.2.1 A.2.2.2.2.1 A.2.2.2.2.2 0 = z := by
    intro z hz
    unfold f_Mo_declaration
    refine (jb_ok g0).trans ?_
    rw [if_neg (show ¬ (22 : Int32) < 20 by decide), if_neg (show ¬ (25 : Int32) < 22 by decide)]
    unfold Mo_declaration_b23
    refine (jb_ok (m_need1 (mp := mp) (P := P) (s := .inr i))).trans ?_
    rw [if_neg (show ¬ (23 : Int32) < 22 by decide), show (22 : Int32) - 20 + 1 = 3 by decide]
    exact hz
  have open49 : ∀ z, _ = z → Mo_declaration_b49 ys mt mp ml (sA (.inr i)) (sB (.inr i)) (sF P (.inr i)) A.1 A.2.1 A.2.2.1 A.2.2.2.1 A.2.2.2.2.1 A.2.2.2.2.2 0 22 3 = z := fun z hz => by
    unfold Mo_declaration_b49
    show (if nI i < 0 ∨ 8001 ≤ (nI i).toNatClampNeg then none else _) = _
    rw [if_neg hin]
    show jb (f_Mo_draft A.1 A.2.1 A.2.2.1 A.2.2.2.1 A.2.2.2.2.1 A.2.2.2.2.2 0 3 (mp (nI i).toNatClampNeg) 0) _ = _
    rw [epl]
    refine (jb_ok g1).trans ((jb_ok g2).trans ?_)
    rw [if_neg (show ¬ (23 : Int32) < 22 by decide)]
    exact hz
  have g3 := m_name (A := dr A 0 3 (nI (P i)) 0) (D := 1) (k := 9) hM S1.1 (by omega)
  obtain ⟨S2, w2⟩ := so_name hP (by omega) (by omega) S1
  have g4 := m_join (o := 0) (y := nI 1) w2 (by omega) (by omega)
  obtain ⟨s3, Gs, X, A3, D3, R3, g5, d3, S3, v3⟩ := so_groups h hM hP (by omega) hT (by omega) (by omega) S2
  have g6 := m_take (r := 17) hM S3.1 (by omega) (by omega)
  have S4 := so_tok (r := 17) hP (by omega) (by omega) S3
  obtain ⟨s5, F5, A5, D5, v5, g7, d5, g8, S5, w5⟩ := so_opt hP (by omega) hT (by omega) (by omega) S4 (fun v at' bd ft AA DD => Mo_declaration_b134 ys mt mp ml at' bd ft AA.1 AA.2.1 AA.2.2.1 AA.2.2.2.1 AA.2.2.2.2.1 AA.2.2.2.2.2 DD 22 (nI 0) v (nI 0))
  obtain ⟨s6, F6, A6, D6, R6, g9, d6, S6, w6⟩ := m_177t (l1 := 22) hM hP hT (Or.inr rfl) (by omega) (by omega) S5
  refine ⟨stS K s6, _, A6, D6, nI 0, ?_, md_of hP (by omega) (by omega) S6 (dc_of hP hi (by decide) (x_lem h hi hk) (fun G hG => dd_lem h hP hi d3 d5 d6 hG)) (fun i' ee => ?_)⟩
  · apply start
    apply open49
    refine (jb_ok g3).trans ((jb_ok g4).trans ((jb_ok g5).trans ?_))
    rw [if_neg (show ¬ (22 : Int32) = 21 by decide)]
    refine (jb_ok g6).trans (g7.trans ?_)
    unfold Mo_declaration_b134
    refine (jb_ok g8).trans ?_
    exact g9
  · subst ee
    obtain ⟨j6, f6⟩ := dv_inr d6
    obtain ⟨j5, f5, _, _⟩ := tokS_inr f6
    have w5' := w5 j5 f5
    rw [f5] at d5
    obtain ⟨j4, f4⟩ := dv_inr d5
    obtain ⟨j3, f3, _, _⟩ := tokS_inr f4
    exact ⟨ev_add (ev_add (v3 j3 f3).1 ev_rfl) ev_rfl, wD_two (b := 302) (by omega) ((v3 j3 f3).2 (by rw [ek]; exact wP_name (by omega) (by omega))) (wT_N (wT_w w5' (by omega))) (fun _ => wT_w w5' (by omega)) (wT_w (w6 _ rfl) (by omega))⟩
theorem md_dat (h : HT K P V m tk tp tv) (hM : HM K P m mt mp) (hP : HP K P m) (hT : TS K P V m tk tp tv mt mp ml ys (f_Mo_term 102) 0) (hi : i ≤ m) (hk : K i = 7) : ∃ (s' : Nat ⊕ Nat) (F : Fo) (A' : AR) (D' : Nat) (v : Int32), f_Mo_declaration ys mt mp ml (sA (.inr i)) (sB (.inr i)) (sF P (.inr i)) A.1 A.2.1 A.2.2.1 A.2.2.2.1 A.2.2.2.2.1 A.2.2.2.2.2 0 = some (v, sA s', sB s', sF P s', A'.1, A'.2.1, A'.2.2.1, A'.2.2.2.1, A'.2.2.2.2.1, A'.2.2.2.2.2, nI D') ∧ MD K P V m tk tp tv i s' F A' D' v := by
  have hs : ix (.inr i : Nat ⊕ Nat) ≤ m := hi
  have hm := hM.1
  have g0 := m_look (mp := mp) (P := P) (s := .inr i) hM hs
  have elk : lk K (.inr i) = 23 := lk_eq (r := 7) hM (by omega) hk
  rw [elk] at g0
  have hin := nI_in (c := i) (N := 8001) (by omega) (by omega)
  have epl : mp (nI i).toNatClampNeg = nI (P i) := by rw [nI_clamp (by omega)]; exact (hM.2.1 i hi).2
  have ek : tokS K 7 (.inr i) = .inr (i + 1) := if_pos hk
  have c1 : (4 + 32 * i) % 32 = 4 := by omega
  have c2 : (4 + 32 * i) / 32 = i := by omega
  have S0 : SO P V A 0 m 0 (4 + 32 * i) 8 0 (.inr i) (dr A 0 4 (nI (P i)) 0) 1 (fun _ => False) (.num 0) := so_new (D := 0) hi Wj_0 (by omega) (by rw [c1]; rfl) (by rw [c1, c2]; rfl) (by rw [c1]; rfl)
  have g1 := m_draft (A := A) (D := 0) (k := 4) (p := nI (P i)) (v := 0) (by omega)
  have g2 := m_take (r := 7) (s := .inr i) hM hs (by omega) (by omega)
  have S1 := so_tok (r := 7) hP (by omega) (by omega) S0
  have start : ∀ z, Mo_declaration_b49 ys mt mp ml (sA (.inr i)) (sB (.inr i)) (sF P (.inr i)) A.1 A.2.1 A.2.2.1 A.2.2.2.1 A.2.2.2.2.1 A.2.2.2.2.2 0 23 4 = z → f_Mo_declaration ys mt mp ml (sA (.inr i)) (sB (.inr i)) (sF P (.inr i)) A.1 A.2.1 A.2.2.1 A.2.2.2.1 A.2.2.2.2.1 A.2.2.2.2.2 0 = z := by
    intro z hz
    unfold f_Mo_declaration
    refine (jb_ok g0).trans ?_
    rw [if_neg (show ¬ (23 : Int32) < 20 by decide), if_neg (show ¬ (25 : Int32) < 23 by decide)]
    unfold Mo_declaration_b23
    refine (jb_ok (m_need1 (mp := mp) (P := P) (s := .inr i))).trans ?_
    rw [if_neg (show ¬ (23 : Int32) < 23 by decide), show (23 : Int32) - 20 + 1 = 4 by decide]
    exact hz
  have open49 : ∀ z, _ = z → Mo_declaration_b49 ys mt mp ml (sA (.inr i)) (sB (.inr i)) (sF P (.inr i)) A.1 A.2.1 A.2.2.1 A.2.2.2.1 A.2.2.2.2.1 A.2.2.2.2.2 0 23 4 = z := fun z hz => by
    unfold Mo_declaration_b49
    show (if nI i < 0 ∨ 8001 ≤ (nI i).toNatClampNeg then none else _) = _
    rw [if_neg hin]
    show jb (f_Mo_draft A.1 A.2.1 A.2.2.1 A.2.2.2.1 A.2.2.2.2.1 A.2.2.2.2.2 0 4 (mp (nI i).toNatClampNeg) 0) _ = _
    rw [epl]
    refine (jb_ok g1).trans ((jb_ok g2).trans ?_)
    rw [if_neg (show ¬ (23 : Int32) < 23 by decide)]
    exact hz
  have g3 := m_name (A := dr A 0 4 (nI (P i)) 0) (D := 1) (k := 9) hM S1.1 (by omega)
  obtain ⟨S2, w2⟩ := so_name hP (by omega) (by omega) S1
  have g4 := m_join (o := 0) (y := nI 1) w2 (by omega) (by omega)
  obtain ⟨s3, Gs, X, A3, D3, R3, g5, d3, S3, v3⟩ := so_groups h hM hP (by omega) hT (by omega) (by omega) S2
  have g6 := m_take (r := 17) hM S3.1 (by omega) (by omega)
  have S4 := so_tok (r := 17) hP (by omega) (by omega) S3
  obtain ⟨s5, F5, A5, D5, v5, g7, d5, g8, S5, w5⟩ := so_opt hP (by omega) hT (by omega) (by omega) S4 (fun v at' bd ft AA DD => Mo_declaration_b134 ys mt mp ml at' bd ft AA.1 AA.2.1 AA.2.2.1 AA.2.2.2.1 AA.2.2.2.2.1 AA.2.2.2.2.2 DD 23 (nI 0) v (nI 0))
  obtain ⟨s6, Cs, X6, A6, D6, R6, g9, d6, S6, v6⟩ := m_cons h hM hP hT m s5 (jn A5 0 v5) D5 _ _ (fun i2 _ => by omega) (so_w S5 (by omega) (by omega))
  refine ⟨stS K s6, _, A6, D6, nI 0, ?_, md_of hP (by omega) (by omega) S6 (dc_of hP hi (by decide) (x_dat h hi hk) (fun G hG => dd_dat h hP hi d3 d5 d6 hG)) (fun i' ee => ?_)⟩
  · apply start
    apply open49
    refine (jb_ok g3).trans ((jb_ok g4).trans ((jb_ok g5).trans ?_))
    rw [if_neg (show ¬ (23 : Int32) = 21 by decide)]
    refine (jb_ok g6).trans (g7.trans ?_)
    unfold Mo_declaration_b134
    refine (jb_ok g8).trans ?_
    unfold Mo_declaration_b177
    rw [if_neg (show ¬ (23 : Int32) = 21 by decide), if_neg (show ¬ (23 : Int32) = 22 by decide)]
    exact g9.trans (m_300 hM S6.1)
  · have v6' := v6 i' ee
    subst ee
    obtain ⟨j6, f6⟩ := dv_inr d6
    subst f6
    obtain ⟨j4, f4⟩ := dv_inr d5
    obtain ⟨j3, f3, _, _⟩ := tokS_inr f4
    exact ⟨ev_tr v6'.1 (ev_add (ev_add (v3 j3 f3).1 ev_rfl) ev_rfl), wD_dat (b := 302) (by omega) (v6'.2 (wQ_0 ((v3 j3 f3).2 (by rw [ek]; exact wP_name (by omega) (by omega))) (wT_w (w5 _ rfl) (by omega))))⟩
theorem md_chk (h : HT K P V m tk tp tv) (hM : HM K P m mt mp) (hP : HP K P m) (hT : TS K P V m tk tp tv mt mp ml ys (f_Mo_term 102) 0) (hi : i ≤ m) (hk : K i = 8) : ∃ (s' : Nat ⊕ Nat) (F : Fo) (A' : AR) (D' : Nat) (v : Int32), f_Mo_declaration ys mt mp ml (sA (.inr i)) (sB (.inr i)) (sF P (.inr i)) A.1 A.2.1 A.2.2.1 A.2.2.2.1 A.2.2.2.2.1 A.2.2.2.2.2 0 = some (v, sA s', sB s', sF P s', A'.1, A'.2.1, A'.2.2.1, A'.2.2.2.1, A'.2.2.2.2.1, A'.2.2.2.2.2, nI D') ∧ MD K P V m tk tp tv i s' F A' D' v := by
  have hs : ix (.inr i : Nat ⊕ Nat) ≤ m := hi
  have hm := hM.1
  have g0 := m_look (mp := mp) (P := P) (s := .inr i) hM hs
  have elk : lk K (.inr i) = 24 := lk_eq (r := 8) hM (by omega) hk
  rw [elk] at g0
  have hin := nI_in (c := i) (N := 8001) (by omega) (by omega)
  have epl : mp (nI i).toNatClampNeg = nI (P i) := by rw [nI_clamp (by omega)]; exact (hM.2.1 i hi).2
  have ek : tokS K 8 (.inr i) = .inr (i + 1) := if_pos hk
  have c1 : (6 + 32 * i) % 32 = 6 := by omega
  have c2 : (6 + 32 * i) / 32 = i := by omega
  have S0 : SO P V A 0 m 0 (6 + 32 * i) 8 0 (.inr i) (dr A 0 6 (nI (P i)) 0) 1 (fun _ => False) (.num 0) := so_new (D := 0) hi Wj_0 (by omega) (by rw [c1]; rfl) (by rw [c1, c2]; rfl) (by rw [c1]; rfl)
  have g1 := m_draft (A := A) (D := 0) (k := 6) (p := nI (P i)) (v := 0) (by omega)
  have g2 := m_take (r := 8) (s := .inr i) hM hs (by omega) (by omega)
  have S1 := so_tok (r := 8) hP (by omega) (by omega) S0
  have start : ∀ z, Mo_declaration_b49 ys mt mp ml (sA (.inr i)) (sB (.inr i)) (sF P (.inr i)) A.1 A.2.1 A.2.2.1 A.2.2.2.1 A.2.2.2.2.1 A.2.2.2.2.2 0 24 6 = z → f_Mo_declaration ys mt mp ml (sA (.inr i)) (sB (.inr i)) (sF P (.inr i)) A.1 A.2.1 A.2.2.1 A.2.2.2.1 A.2.2.2.2.1 A.2.2.2.2.2 0 = z := by
    intro z hz
    unfold f_Mo_declaration
    refine (jb_ok g0).trans ?_
    rw [if_neg (show ¬ (24 : Int32) < 20 by decide), if_neg (show ¬ (25 : Int32) < 24 by decide)]
    unfold Mo_declaration_b23
    refine (jb_ok (m_need1 (mp := mp) (P := P) (s := .inr i))).trans ?_
    rw [if_pos (show (23 : Int32) < 24 by decide), show (24 : Int32) - 24 + 6 = 6 by decide]
    exact hz
  have open49 : ∀ z, _ = z → Mo_declaration_b49 ys mt mp ml (sA (.inr i)) (sB (.inr i)) (sF P (.inr i)) A.1 A.2.1 A.2.2.1 A.2.2.2.1 A.2.2.2.2.1 A.2.2.2.2.2 0 24 6 = z := fun z hz => by
    unfold Mo_declaration_b49
    show (if nI i < 0 ∨ 8001 ≤ (nI i).toNatClampNeg then none else _) = _
    rw [if_neg hin]
    show jb (f_Mo_draft A.1 A.2.1 A.2.2.1 A.2.2.2.1 A.2.2.2.2.1 A.2.2.2.2.2 0 6 (mp (nI i).toNatClampNeg) 0) _ = _
    rw [epl]
    refine (jb_ok g1).trans ((jb_ok g2).trans ?_)
    rw [if_pos (show (23 : Int32) < 24 by decide)]
    exact hz
  obtain ⟨s5, F5, A5, D5, v5, g7, d5, g8, S5, w5⟩ := so_opt hP (by omega) hT (by omega) (by omega) S1 (fun v at' bd ft AA DD => Mo_declaration_b158 ys mt mp ml at' bd ft AA.1 AA.2.1 AA.2.2.1 AA.2.2.2.1 AA.2.2.2.2.1 AA.2.2.2.2.2 DD 24 (nI 0) v (nI 0))
  obtain ⟨s6, F6, A6, D6, v6, g9, d6, g10, S6, w6⟩ := so_told h hM hP (by omega) hT (by omega) (by omega) S5
  refine ⟨stS K s6, _, jn A6 0 v6, D6, nI 0, ?_, md_of hP (by omega) (by omega) S6 (dc_of hP hi (by decide) (x_chk h hi hk) (fun G hG => dd_chk h hP hi d5 d6 hG)) (fun i' ee => ⟨ev_rfl, by
    have w6' := w6 i' ee
    rw [ee] at d6
    obtain ⟨j5, f5⟩ := dv_inr d6
    exact wD_chk (b := 302) (by omega) (wT_w (w5 j5 f5) (by omega)) (wN_w w6' (by omega))⟩)⟩
  apply start
  apply open49
  refine g7.trans ?_
  unfold Mo_declaration_b158
  refine (jb_ok g8).trans ?_
  rw [if_pos (show (24 : Int32) = 24 from rfl)]
  refine (jb_ok g9).trans ((jb_ok g10).trans ?_)
  exact m_177n (A := jn A6 0 v6) hM S6.1 (by decide) (by decide) (by decide)
theorem md_nrm (h : HT K P V m tk tp tv) (hM : HM K P m mt mp) (hP : HP K P m) (hT : TS K P V m tk tp tv mt mp ml ys (f_Mo_term 102) 0) (hi : i ≤ m) (hk : K i = 9) : ∃ (s' : Nat ⊕ Nat) (F : Fo) (A' : AR) (D' : Nat) (v : Int32), f_Mo_declaration ys mt mp ml (sA (.inr i)) (sB (.inr i)) (sF P (.inr i)) A.1 A.2.1 A.2.2.1 A.2.2.2.1 A.2.2.2.2.1 A.2.2.2.2.2 0 = some (v, sA s', sB s', sF P s', A'.1, A'.2.1, A'.2.2.1, A'.2.2.2.1, A'.2.2.2.2.1, A'.2.2.2.2.2, nI D') ∧ MD K P V m tk tp tv i s' F A' D' v := by
  have hs : ix (.inr i : Nat ⊕ Nat) ≤ m := hi
  have hm := hM.1
  have g0 := m_look (mp := mp) (P := P) (s := .inr i) hM hs
  have elk : lk K (.inr i) = 25 := lk_eq (r := 9) hM (by omega) hk
  rw [elk] at g0
  have hin := nI_in (c := i) (N := 8001) (by omega) (by omega)
  have epl : mp (nI i).toNatClampNeg = nI (P i) := by rw [nI_clamp (by omega)]; exact (hM.2.1 i hi).2
  have ek : tokS K 9 (.inr i) = .inr (i + 1) := if_pos hk
  have c1 : (7 + 32 * i) % 32 = 7 := by omega
  have c2 : (7 + 32 * i) / 32 = i := by omega
  have S0 : SO P V A 0 m 0 (7 + 32 * i) 8 0 (.inr i) (dr A 0 7 (nI (P i)) 0) 1 (fun _ => False) (.num 0) := so_new (D := 0) hi Wj_0 (by omega) (by rw [c1]; rfl) (by rw [c1, c2]; rfl) (by rw [c1]; rfl)
  have g1 := m_draft (A := A) (D := 0) (k := 7) (p := nI (P i)) (v := 0) (by omega)
  have g2 := m_take (r := 9) (s := .inr i) hM hs (by omega) (by omega)
  have S1 := so_tok (r := 9) hP (by omega) (by omega) S0
  have start : ∀ z, Mo_declaration_b49 ys mt mp ml (sA (.inr i)) (sB (.inr i)) (sF P (.inr i)) A.1 A.2.1 A.2.2.1 A.2.2.2.1 A.2.2.2.2.1 A.2.2.2.2.2 0 25 7 = z → f_Mo_declaration ys mt mp ml (sA (.inr i)) (sB (.inr i)) (sF P (.inr i)) A.1 A.2.1 A.2.2.1 A.2.2.2.1 A.2.2.2.2.1 A.2.2.2.2.2 0 = z := by
    intro z hz
    unfold f_Mo_declaration
    refine (jb_ok g0).trans ?_
    rw [if_neg (show ¬ (25 : Int32) < 20 by decide), if_neg (show ¬ (25 : Int32) < 25 by decide)]
    unfold Mo_declaration_b23
    refine (jb_ok (m_need1 (mp := mp) (P := P) (s := .inr i))).trans ?_
    rw [if_pos (show (23 : Int32) < 25 by decide), show (25 : Int32) - 24 + 6 = 7 by decide]
    exact hz
  have open49 : ∀ z, _ = z → Mo_declaration_b49 ys mt mp ml (sA (.inr i)) (sB (.inr i)) (sF P (.inr i)) A.1 A.2.1 A.2.2.1 A.2.2.2.1 A.2.2.2.2.1 A.2.2.2.2.2 0 25 7 = z := fun z hz => by
    unfold Mo_declaration_b49
    show (if nI i < 0 ∨ 8001 ≤ (nI i).toNatClampNeg then none else _) = _
    rw [if_neg hin]
    show jb (f_Mo_draft A.1 A.2.1 A.2.2.1 A.2.2.2.1 A.2.2.2.2.1 A.2.2.2.2.2 0 7 (mp (nI i).toNatClampNeg) 0) _ = _
    rw [epl]
    refine (jb_ok g1).trans ((jb_ok g2).trans ?_)
    rw [if_pos (show (23 : Int32) < 25 by decide)]
    exact hz
  obtain ⟨s5, F5, A5, D5, v5, g7, d5, g8, S5, w5⟩ := so_opt hP (by omega) hT (by omega) (by omega) S1 (fun v at' bd ft AA DD => Mo_declaration_b158 ys mt mp ml at' bd ft AA.1 AA.2.1 AA.2.2.1 AA.2.2.2.1 AA.2.2.2.2.1 AA.2.2.2.2.2 DD 25 (nI 0) v (nI 0))
  refine ⟨stS K s5, _, jn A5 0 v5, D5, nI 0, ?_, md_of hP (by omega) (by omega) S5 (dc_of hP hi (by decide) (x_nrm h hi hk) (fun G hG => dd_nrm h hP hi d5 hG)) (fun i' ee => ⟨ev_rfl, wD_nrm (b := 302) (by omega) (wT_w (w5 i' ee) (by omega))⟩)⟩
  apply start
  apply open49
  refine g7.trans ?_
  unfold Mo_declaration_b158
  refine (jb_ok g8).trans ?_
  rw [if_neg (show ¬ (25 : Int32) = 24 by decide)]
  exact m_177n (A := jn A5 0 v5) hM S5.1 (by decide) (by decide) (by decide)
end RF
