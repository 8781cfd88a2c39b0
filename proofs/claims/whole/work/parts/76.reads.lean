-- both read the declarations of a text
section RD
variable {K P V Wd B : Nat → Nat} {m nb t i k : Nat} {tk tp tv row mt mp ml ys : Nat → Int32} {len size : Int32} {s s' : Nat ⊕ Nat} {F F' F0 F1 : Fo}
theorem KR_add {n : Nat} {X Y : Fo} {w : Int32} {T : TBt} {l : List Nat} {tk tw tv th ts tc tk1 tw1 tv1 th1 ts1 tc1 tk' tw' tv' th' ts' tc' : Nat → Int32} (hl : ∀ x, x ∈ l → x < n) (h : KR P V Wd B t n X w T (lsT t l) tk tw tv th ts tc tk1 tw1 tv1 th1 ts1 tc1) (h' : KR P V Wd B t (n + fs X) Y w (ntT P Wd B X T) (lsT t l) tk1 tw1 tv1 th1 ts1 tc1 tk' tw' tv' th' ts' tc') : KR P V Wd B t n (.add X Y) w T (lsT t l) tk tw tv th ts tc tk' tw' tv' th' ts' tc' := by
  obtain ⟨k3, k4, k5, k6, k7⟩ := h
  obtain ⟨j3, j4, j5, j6, j7⟩ := h'
  have inL : ∀ z, z ∈ lsT t l → z < 9000 * t + n := fun z hz => by
    obtain ⟨y, y1, y2⟩ := ls_mem.mp hz
    have := hl y y1
    omega
  refine ⟨⟨pr_fr X _ _ k3 (fun z z1 z2 => ?_), j3⟩, ⟨pv_fr X _ _ k4 (fun z z1 z2 => (j7 (9000 * t + z) (by omega)).2.2.1), j4⟩, ?_, ?_, fun z hz => ?_⟩
  · have g := j7 (9000 * t + z) (by omega)
    exact ⟨g.1, g.2.1, g.2.2.2.2.1 (fun mm => by have := inL _ mm; omega), g.2.2.2.1⟩
  · show tc' t = nI (n + (fs X + fs Y)); rw [j5, Nat.add_assoc]
  · intro z hz; rw [j6 z hz, k6 z hz]
  · have hz' : z < 9000 * t + n ∨ 9000 * t + n + (fs X + fs Y) ≤ z := hz
    have g := j7 z (by omega)
    have g' := k7 z (by omega)
    refine ⟨g.1.trans g'.1, g.2.1.trans g'.2.1, g.2.2.1.trans g'.2.2.1, g.2.2.2.1.trans g'.2.2.2.1, fun mm => (g.2.2.2.2.1 mm).trans (g'.2.2.2.2.1 mm), fun mm => ?_⟩
    show ts' z = ts z + nI (fs X + fs Y)
    rw [g.2.2.2.2.2 mm, g'.2.2.2.2.2 mm, Int32.add_assoc, nI_add]
theorem KR_nil {n : Nat} {w : Int32} {T : TBt} {L : List Nat} {tk tw tv th ts tc : Nat → Int32} (hc : tc t = nI n) : KR P V Wd B t n (.num 0) w T L tk tw tv th ts tc tk tw tv th ts tc := by
  refine ⟨True.intro, True.intro, hc, fun _ _ => rfl, fun z _ => ⟨rfl, rfl, rfl, rfl, fun _ => rfl, fun _ => ?_⟩⟩
  show ts z = ts z + nI 0
  have e : nI 0 = 0 := rfl
  rw [e, Int32.add_zero]
theorem rm_0 (F : Fo) : ∀ T, fn F = 0 → rmT P V Wd B nb F T := by
  induction F with
  | add X Y hX hY =>
    intro T h
    have h' : fn X + fn Y = 0 := h
    exact ⟨hX T (by omega), hY _ (by omega)⟩
  | pow X c hX => intro T h; exact absurd h (by show ¬ 1 = 0; omega)
  | _ => intro T _; exact True.intro
theorem nk_add' {X Y : Fo} (h1 : nkF K m X) (h2 : nkF K m Y) : nkF K m (.add X Y) := fun x hx => by
  rcases List.mem_append.mp (show x ∈ fp Y ++ fp X from hx) with a | a
  · exact h2 x a
  · exact h1 x a
theorem nk_w {n : Nat} {X : Fo} (h : nkF K m X) (hn : m ≤ n) : nkF K n X := fun x hx => nkE_w (h x hx) hn
/-- a text's declarations -/
def wX (F : Fo) : Prop := wf F ∧ nd F ≤ 303 ∧ ∀ k, k ∈ rk F → dcK k
theorem wX_0 : wX (.num 0) := ⟨True.intro, Nat.zero_le _, fun k hk => by cases hk⟩
theorem wX_add {X Y : Fo} (h1 : wX X) (h2 : wX Y) : wX (.add X Y) := ⟨⟨h1.1, h2.1⟩, by rw [nd_add]; have := h1.2.1; have := h2.2.1; omega, fun k hk => by
  rcases List.mem_append.mp (show k ∈ rk X ++ rk Y from hk) with a | a
  · exact h1.2.2 k a
  · exact h2.2.2 k a⟩
theorem wX_D {X : Fo} (h : wD 303 X) : wX X := by
  obtain ⟨h1, h2, k, h3, h4⟩ := h
  refine ⟨h1, h2, fun j hj => ?_⟩
  rw [h3] at hj
  rw [List.mem_singleton.mp hj]; exact h4
theorem nk_nil : nkF K m (.num 0) := fun x hx => by cases hx
theorem rd_loop (h : HT K P V m tk tp tv) (hM : HM K P m mt mp) (hP : HP K P m) (hTS : TS K P V m tk tp tv mt mp ml ys (f_Mo_term 102) 0) (hnb : nb ≤ 8000) (hB : RM ys size B nb) (hW : HW K P Wd m mp ml) (ht : t < 2) {T0 : TBt} (hT0 : TB T0.1 T0.2.1 T0.2.2) (HRM : 4 ≤ K 0 → K 0 ≤ 9 → ∀ F, nkF K m F → rmT P V Wd B nb F T0) {sz e' tn : Int32} : ∀ (n i : Nat) (Fa : Fo) (A : AR) (D0 : Int32) (pile tk' tw tv' th ts tc mle mst : Nat → Int32) (c0 : Nat), m - i ≤ n → i ≤ m → nkF K m Fa → fs Fa ≤ P i → (fn Fa = 0 ∧ i = 0 ∨ 4 ≤ K 0 ∧ K 0 ≤ 9) → tc t = nI (1 + fs Fa) → th (9000 * t) = -1 → RNr mle mst (ntT P Wd B Fa T0).1 (ntT P Wd B Fa T0).2.1 (ntT P Wd B Fa T0).2.2 →
    ∃ (s' : Nat ⊕ Nat) (F1 : Fo) (A' : AR) (D' : Int32) (pile2 tk2 tw2 tv2 th2 ts2 tc2 mle2 mst2 : Nat → Int32) (at2 bd2 : Int32), jl (Mo_read_b54_b ys sz e' mt mp ml tn (nI t)) (sA (.inr i), sB (.inr i), sF P (.inr i), A.1, A.2.1, A.2.2.1, A.2.2.2.1, A.2.2.2.2.1, A.2.2.2.2.2, D0, pile, tk', tw, tv', th, ts, tc, mle, mst, nI (ntT P Wd B Fa T0).1, nI c0) = some (nI (c0 + fn F1), 0, e', mt, mp, ml, tn, at2, bd2, sF P s', A'.1, A'.2.1, A'.2.2.1, A'.2.2.2.1, A'.2.2.2.2.1, A'.2.2.2.2.2, D', pile2, tk2, tw2, tv2, th2, ts2, tc2, mle2, mst2, nI (ntT P Wd B F1 (ntT P Wd B Fa T0)).1) ∧ CO K P V m tk tp tv row len i Fa s' F1 ∧ (nkF K (m - 1) F1 ∧ wX F1) ∧ fs Fa + fs F1 ≤ 8000 ∧ rmT P V Wd B nb F1 (ntT P Wd B Fa T0) ∧ KR P V Wd B t (1 + fs Fa) F1 (nI 0) (ntT P Wd B Fa T0) (lsT t [0]) tk' tw tv' th ts tc tk2 tw2 tv2 th2 ts2 tc2 ∧ RNr mle2 mst2 (ntT P Wd B F1 (ntT P Wd B Fa T0)).1 (ntT P Wd B F1 (ntT P Wd B Fa T0)).2.1 (ntT P Wd B F1 (ntT P Wd B Fa T0)).2.2 := by
  intro n
  induction n using Nat.strongRecOn with
  | ind n ih =>
    intro i Fa A D0 pile tk' tw tv' th ts tc mle mst c0 hn hi hnk hF hst hc hw hR
    have hs : ix (.inr i : Nat ⊕ Nat) ≤ m := hi
    have hPi := hP.2.2.1 i hi
    have hm := h.1
    have g0 := m_look (mp := mp) (P := P) (s := .inr i) hM hs
    have hTa : TB (ntT P Wd B Fa T0).1 (ntT P Wd B Fa T0).2.1 (ntT P Wd B Fa T0).2.2 := by
      rcases hst with q | q
      · rw [nt_0 Fa T0 q.1]; exact hT0
      · exact TB_nt Fa T0 hT0 (HRM q.1 q.2 Fa hnk)
    by_cases k0 : K i = 0
    · refine ⟨.inr i, .num 0, A, D0, pile, tk', tw, tv', th, ts, tc, mle, mst, nI i, 0, ?_, co_end h hP hi k0, ⟨nk_nil, wX_0⟩, by show fs Fa + 0 ≤ 8000; omega, True.intro, KR_nil hc, hR⟩
      apply jl_done
      show Mo_read_b54_s ys sz e' mt mp ml tn (nI t) (sA (.inr i)) (sB (.inr i)) (sF P (.inr i)) A.1 A.2.1 A.2.2.1 A.2.2.2.1 A.2.2.2.2.1 A.2.2.2.2.2 D0 pile tk' tw tv' th ts tc mle mst (nI (ntT P Wd B Fa T0).1) (nI c0) = _
      unfold Mo_read_b54_s
      refine (jb_ok g0).trans ?_
      rw [if_pos (show lk K (.inr i) = 0 from lk_eq (r := 0) hM (by omega) k0)]
      rfl
    · obtain ⟨s1, F, A1, D1, v1, d1, d2, d3, d4⟩ := m_decl (A := A) h hM hP hTS hi
      have nk0 : ¬ lk K (.inr i) = 0 := lk_ne (r := 0) hM (by omega) k0
      cases s1 with
      | inl j =>
        have dc := d3 j rfl
        have hj : j ≤ m := d2
        refine ⟨.inl j, .num 0, A1, nI D1, pile, tk', tw, tv', th, ts, tc, mle, mst, nI j, 1, ?_, co_fault h hP hi k0 dc, ⟨nk_nil, wX_0⟩, by show fs Fa + 0 ≤ 8000; omega, True.intro, KR_nil hc, hR⟩
        have body : Mo_read_b54_b ys sz e' mt mp ml tn (nI t) (sA (.inr i), sB (.inr i), sF P (.inr i), A.1, A.2.1, A.2.2.1, A.2.2.2.1, A.2.2.2.2.1, A.2.2.2.2.2, D0, pile, tk', tw, tv', th, ts, tc, mle, mst, nI (ntT P Wd B Fa T0).1, nI c0) = some (.inl (sA (.inl j), sB (.inl j), sF P (.inl j), A1.1, A1.2.1, A1.2.2.1, A1.2.2.2.1, A1.2.2.2.2.1, A1.2.2.2.2.2, nI D1, pile, tk', tw, tv', th, ts, tc, mle, mst, nI (ntT P Wd B Fa T0).1, nI c0)) := by
          show Mo_read_b54_s ys sz e' mt mp ml tn (nI t) (sA (.inr i)) (sB (.inr i)) (sF P (.inr i)) A.1 A.2.1 A.2.2.1 A.2.2.2.1 A.2.2.2.2.1 A.2.2.2.2.2 D0 pile tk' tw tv' th ts tc mle mst (nI (ntT P Wd B Fa T0).1) (nI c0) = _
          unfold Mo_read_b54_s
          refine (jb_ok g0).trans ?_
          rw [if_neg nk0, if_pos (show sB (.inr i) = 0 from rfl)]
          refine (jb_ok d1).trans ?_
          rw [if_neg (show ¬ sB (.inl j) = 0 by show ¬ (1 : Int32) = 0; decide)]
          rfl
        refine (jl_step body).trans (jl_done ?_)
        show Mo_read_b54_s ys sz e' mt mp ml tn (nI t) (sA (.inl j)) (sB (.inl j)) (sF P (.inl j)) A1.1 A1.2.1 A1.2.2.1 A1.2.2.2.1 A1.2.2.2.2.1 A1.2.2.2.2.2 (nI D1) pile tk' tw tv' th ts tc mle mst (nI (ntT P Wd B Fa T0).1) (nI c0) = _
        unfold Mo_read_b54_s
        refine (jb_ok (m_look (mp := mp) (P := P) (s := .inl j) hM hj)).trans ?_
        rw [if_neg (show ¬ lk K (.inl j) = 0 by show ¬ (1 : Int32) = 0; decide), if_neg (show ¬ sB (.inl j) = 0 by show ¬ (1 : Int32) = 0; decide)]
        rfl
      | inr i1 =>
        obtain ⟨e22, dc, ev, hD1, ⟨⟨H, c, eF⟩, wd⟩, hch⟩ := d4 i1 rfl
        subst ev
        have hkk := dc_kind h hP hi dc
        have hk0 : 4 ≤ K 0 ∧ K 0 ≤ 9 := by
          rcases hst with q | q
          · rw [q.2] at hkk; exact hkk
          · exact q
        have hi9 : i1 + 1 ≤ m := dc.1.1
        have nkF' := nk_w (dc_nk dc) hi9
        have nkF2 : nkF K (m - 1) F := fun x hx => by
          have g := dc_nk dc x hx
          refine ⟨fun q => ?_, fun q => ?_⟩
          · obtain ⟨g1, g2⟩ := g.1 q
            have : x.1 / 32 ≠ i1 := fun e => by rw [e, e22] at g2; omega
            exact ⟨by omega, g2⟩
          · obtain ⟨g1, g2⟩ := g.2 q
            have : x.1 / 32 ≠ i1 := fun e => by rw [e, e22] at g2; omega
            exact ⟨by omega, g2⟩
        have nkA := nk_add' hnk nkF'
        have rmA := HRM hk0.1 hk0.2 _ nkA
        have dc2 := dc
        obtain ⟨⟨hi2, hp2, hf1⟩, _⟩ := dc2
        have hPi2 := hP.2.2.1 (i1 + 1) hi2
        have hii : i < i1 + 1 := P_lt hP (by omega) hi
        subst eF
        have hf1' : P i + (fs H + 1) ≤ P (i1 + 1) := hp2
        obtain ⟨pile1, tk1, tw1, tv1, th1, ts1, tc1, mle1, mst1, e1, e2, e3⟩ := m_keep (pile := pile) (tk := tk') (tw := tw) (tv := tv') (ts := ts) hnb hB hW ht hch (by omega) nkF' rmA.2 hTa hR hc (by omega) (by omega) hw
        have e2' := e2
        obtain ⟨_, _, kc, _, kf⟩ := e2'
        obtain ⟨s', F1, A', D', pile2, tk2, tw2, tv2, th2, ts2, tc2, mle2, mst2, at2, bd2, j1, j2, j3, j4, j5, j6, j7⟩ := ih (n - 1) (by omega) (i1 + 1) (.add Fa (.pow H c)) A1 (nI D1) pile1 tk1 tw1 tv1 th1 ts1 tc1 mle1 mst1 (c0 + 1) (by omega) hi2 nkA (by show fs Fa + (fs H + 1) ≤ P (i1 + 1); omega) (Or.inr hk0) (by rw [kc]; show nI (1 + fs Fa + (fs H + 1)) = nI (1 + (fs Fa + (fs H + 1))); rw [Nat.add_assoc]) (by rw [(kf (9000 * t) (by omega)).2.2.2.1]; exact hw) e3
        refine ⟨s', .add (.pow H c) F1, A', D', pile2, tk2, tw2, tv2, th2, ts2, tc2, mle2, mst2, at2, bd2, ?_, co_step h hP hi k0 hii dc j2, ⟨nk_add' nkF2 j3.1, wX_add (wX_D wd) j3.2⟩, by have : fs Fa + (fs H + 1) + fs F1 ≤ 8000 := j4; show fs Fa + (fs H + 1 + fs F1) ≤ 8000; omega, ⟨rmA.2, j5⟩, KR_add (fun x hx => by have : x = 0 := List.mem_singleton.mp hx; omega) e2 (by
          have e9 : 1 + fs (.add Fa (.pow H c)) = 1 + fs Fa + fs (.pow H c) := by show 1 + (fs Fa + (fs H + 1)) = 1 + fs Fa + (fs H + 1); omega
          rw [e9] at j6; exact j6), j7⟩
        have e10 : c0 + fn (.add (.pow H c) F1) = c0 + 1 + fn F1 := by show c0 + (1 + fn F1) = c0 + 1 + fn F1; omega
        rw [e10]
        refine (jl_step ?_).trans j1
        show Mo_read_b54_s ys sz e' mt mp ml tn (nI t) (sA (.inr i)) (sB (.inr i)) (sF P (.inr i)) A.1 A.2.1 A.2.2.1 A.2.2.2.1 A.2.2.2.2.1 A.2.2.2.2.2 D0 pile tk' tw tv' th ts tc mle mst (nI (ntT P Wd B Fa T0).1) (nI c0) = _
        unfold Mo_read_b54_s
        refine (jb_ok g0).trans ?_
        rw [if_neg nk0, if_pos (show sB (.inr i) = 0 from rfl)]
        refine (jb_ok d1).trans ?_
        rw [if_pos (show sB (.inr i1) = 0 from rfl)]
        refine (jb_ok e1).trans ?_
        unfold Mo_read_b106
        have e11 : sA (.inr i1) + 1 = sA (.inr (i1 + 1)) := nI_1 i1
        rw [e11, nI_1]
        rfl
end RD
