-- what both make of a text
section RR
variable {B : Nat → Nat} {e n t : Nat} {row ys csp cst nw ol mle mst : Nat → Int32} {len size : Int32} {T0 : TBt}
theorem nt_text {P Wd : Nat → Nat} {F1 : Fo} : ntT P Wd B (.pow (.add (.num 0) F1) 0) T0 = ntT P Wd B F1 T0 := by
  show ntT P Wd B F1 (nlT P Wd B 0 T0) = _
  have : nlT P Wd B 0 T0 = T0 := if_neg (by decide)
  rw [this]
theorem dig_le {c : Nat} (h : digB c = true) : c - 48 ≤ 9 := by
  unfold digB at h
  simp only [decide_eq_true_eq] at h
  omega
theorem so_le {a w v : Nat} (h : soE B a w = some v) : v ≤ 100 := by
  unfold soE at h
  split at h
  · have := Option.some.inj h; omega
  · split at h
    · split at h
      · have := Option.some.inj h; omega
      · split at h
        · split at h
          · rename_i q
            have := dig_le q
            have := Option.some.inj h; omega
          · cases h
        · split at h
          · split at h
            · rename_i q
              have := dig_le q.1
              have := dig_le q.2.2
              have := Option.some.inj h; omega
            · cases h
          · cases h
    · cases h
theorem rd_core (hRB : RB row len B n) (hRM : RM ys size B n) (he : e ≤ n) (hT0 : TB T0.1 T0.2.1 T0.2.2) (hRc : RNc csp cst nw ol T0.1 T0.2.1 T0.2.2) (hRm : RNr mle mst T0.1 T0.2.1 T0.2.2) (ht : t < 2) (HRM : ∀ m, tkM B e m → 4 ≤ kS B e 0 → kS B e 0 ≤ 9 → ∀ F, nkF (kS B e) m F → rmT (pS B e) (vS B e) (wS B e) B n F T0)
    {k0 p0 v0 : Nat → Int32} {c0 nx0 : Int32} {gk gp gv gs gn : Nat → Int32} {gcn : Nat} {wa : Nat → Int32} {wc : Int32} {bp bf : Nat → Int32} {bc dp : Int32} (hg : gcn ≤ 8001) {en : Int32} {to0 pl0 le0 : Nat → Int32} {tn0 at0 bd0 ft0 D0 : Int32} {A : AR} {pile tk tw tv th ts tc : Nat → Int32} :
    ∃ (ft nm : Int32) (X : Fo) (T1 : TBt) (k1 p1 v1 : Nat → Int32) (c1 nx1 : Int32) (gk1 gp1 gv1 gs1 gn1 wa1 : Nat → Int32) (wc1 : Int32) (bp1 bf1 : Nat → Int32) (bc1 dp1 : Int32) (to1 pl1 le1 : Nat → Int32) (tn1 at1 bd1 D1 : Int32) (A1 : AR) (pile1 tk1 tw1 tv1 th1 ts1 tc1 mle1 mst1 : Nat → Int32),
      f_Pa_parse row len k0 p0 v0 c0 nx0 gk gp gv gs gn (nI gcn) wa wc bp bf bc dp (nI e) = some (ft, k1, p1, v1, c1, nx1, gk1, gp1, gv1, gs1, gn1, nI (fs X + 1), wa1, wc1, bp1, bf1, bc1, dp1) ∧ fs X + 1 ≤ 8001 ∧ nm = nI (fn X) ∧ (TB T1.1 T1.2.1 T1.2.2 ∧ ∃ m F1, tkM B e m ∧ nkF (kS B e) (m - 1) F1 ∧ T1 = ntT (pS B e) (wS B e) B F1 T0) ∧
      f_Mo_read ys size en to0 pl0 le0 tn0 at0 bd0 ft0 A.1 A.2.1 A.2.2.1 A.2.2.2.1 A.2.2.2.2.1 A.2.2.2.2.2 D0 pile tk tw tv th ts tc mle mst (nI T0.1) (nI t) (nI e) = some (nm, 0, nI e, to1, pl1, le1, tn1, at1, bd1, ft, A1.1, A1.2.1, A1.2.2.1, A1.2.2.2.1, A1.2.2.2.2.1, A1.2.2.2.2.2, D1, pile1, tk1, tw1, tv1, th1, ts1, tc1, mle1, mst1, nI T1.1) ∧ RNr mle1 mst1 T1.1 T1.2.1 T1.2.2 ∧
      (∀ z, z < 9000 * t ∨ 9000 * t + 9000 ≤ z → tk1 z = tk z ∧ tw1 z = tw z ∧ tv1 z = tv z ∧ th1 z = th z ∧ ts1 z = ts z) ∧ (∀ z, z ≠ t → tc1 z = tc z) ∧
      (∀ (nu ck cp cv cs cn wo : Nat → Int32) (N0 : Int32), wo 0 = -1 → ∃ nu' ck' cp' cv' cs' cn' wo' cv2 csp2 cst2 nw2 ol2, f_Gr_layOut gk1 gp1 gv1 gs1 gn1 (nI (fs X + 1)) nu ck cp cv cs cn wo N0 = some (nu', ck', cp', cv', cs', cn', wo', nI (fs X + 1)) ∧ f_Tr_numberNames ck' cp' (nI (fs X + 1)) row len cv' csp cst nw ol (nI T0.1) = some (cv2, csp2, cst2, nw2, ol2, nI T1.1) ∧ RNc csp2 cst2 nw2 ol2 T1.1 T1.2.1 T1.2.2 ∧ cn' 0 = nI (fn X) ∧ TRl T1.1 ck' cp' cv2 cs' cn' wo' (nI (fs X + 1)) tk1 tw1 tv1 ts1 th1 tc1 t) := by
  have hn := hRB.1
  obtain ⟨m, hme, hm⟩ := tkM_ex (B := B) (e := e)
  obtain ⟨k1, p1, v1, s1, s2⟩ := c_scan (k := k0) (pl := p0) (v := v0) (nx := nx0) (c0 := c0) hRB he hm hme
  obtain ⟨to1, pl1, le1, q1, q2⟩ := m_scan (k := to0) (pl := pl0) (v := le0) (c0 := tn0) hRM he hm hme
  have hT : HT (kS B e) (pS B e) (vS B e) m k1 p1 v1 := HT_of s2 (by omega)
  have hP : HP (kS B e) (pS B e) m := HP_of hm (by omega)
  have hM := HM_of q2 (show m ≤ 8000 by omega)
  have hW := HW_of q2 (show m ≤ 8000 by omega)
  have hV := HV_of q2 hRM he
  have hTS := m_term hT hM hV hP 100 0 102 (by omega) (by omega)
  -- the empty text
  obtain ⟨ts1, a1, a2, a3, a4⟩ := m_add (tk := tk) (tw := tw) (tv := tv) (th := th) (ts := ts) (tc := upd tc t 0) (n := 0) (l := []) (kd := 0) (pl := -1) (va := 0) (w := -1) ht pk_us (by omega) rfl
  have e90 : 9000 * t + 0 = 9000 * t := rfl
  obtain ⟨s', F1, A1, D1, pile1, tk1, tw1, tv1, th1, ts2, tc1, mle1, mst1, at1, bd1, r1, r2, r3, r4, r5, r6, r7⟩ := rd_loop (row := row) (len := len) (tv := v1) (sz := size) (e' := nI e) (tn := nI (m + 1)) hT hM hP hTS hn hRM hW ht hT0 (HRM m hm) m 0 (.num 0) A D0 pile (upd tk (9000 * t + 0) 0) (upd tw (9000 * t + 0) (-1)) (upd tv (9000 * t + 0) 0) (upd th (9000 * t + 0) (-1)) ts1 (upd (upd tc t 0) t (nI (0 + 1))) mle mst 0 (by omega) (Nat.zero_le _) nk_nil (Nat.zero_le _) (Or.inl ⟨rfl, rfl⟩) pk_us pk_us hRm
  have r4' : 0 + fs F1 ≤ 8000 := r4
  have tT : TB (ntT (pS B e) (wS B e) B F1 T0).1 (ntT (pS B e) (wS B e) B F1 T0).2.1 (ntT (pS B e) (wS B e) B F1 T0).2.2 := TB_nt F1 T0 hT0 r5
  obtain ⟨nx1, gk1, gp1, gv1, gs1, gn1, wa1, wc1, bp1, bf1, bc1, dp1, c1, nG, c2⟩ := r2 gk gp gv gs gn wa wc bp bf bc dp 0 RG_nil (Nat.zero_le _) (Nat.le_refl _)
  have rmX : rmT (pS B e) (vS B e) (wS B e) B n (.pow (.add (.num 0) F1) 0) T0 := by
    have e0 : nlT (pS B e) (wS B e) B 0 T0 = T0 := if_neg (by decide)
    refine ⟨fun q => absurd q (by decide), True.intro, ?_⟩
    show rmT (pS B e) (vS B e) (wS B e) B n F1 (nlT (pS B e) (wS B e) B 0 T0)
    rw [e0]; exact r5
  have hV3 : ∀ i, i < m → kS B e i = 3 → vS B e i ≤ 100 := fun i _ hk => by
    have hk' : tkK B e (tkA B e i) = 3 := hk
    obtain ⟨h1, h2, h3, h4, _⟩ := tk_word (B := B) (e := e) (Or.inr hk')
    have := wk_3 (B := B) (a := tkA B e i) (w := tkW B e (tkA B e i)) (by rw [← h3]; exact hk')
    show tkV B e (tkA B e i) ≤ 100
    rw [h4]
    exact so_le this
  have nkX : nkF (kS B e) m (.pow (.add (.num 0) F1) 0) := fun x hx => by
    rcases List.mem_cons.mp (show x ∈ (0, 0 + fs F1 + 1, 0 + fn F1) :: (fp F1 ++ []) from hx) with a | a
    · subst a; exact ⟨fun q => by have q' : 0 % 32 = 9 ∨ 0 % 32 = 16 := q; omega, fun q => by have q' : 0 % 32 = 17 := q; omega⟩
    · rw [List.append_nil] at a
      exact nkE_w (r3.1 x a) (Nat.sub_le _ _)
  obtain ⟨z3, z4, z5, z6, z7⟩ := r6
  have e1 : 1 + fs (.num 0 : Fo) = 1 := rfl
  rw [e1] at z3 z4 z5 z7
  refine ⟨sF (pS B e) s', nI (0 + fn F1), .add (.num 0) F1, ntT (pS B e) (wS B e) B F1 T0, k1, p1, v1, nI (m + 1), nx1, gk1, gp1, gv1, gs1, gn1, wa1, wc1, bp1, bf1, bc1, dp1, to1, pl1, le1, nI (m + 1), at1, bd1, D1, A1, pile1, tk1, tw1, tv1, th1, ts2, tc1, mle1, mst1, ?_, by show 0 + fs F1 + 1 ≤ 8001; omega, rfl, ⟨tT, m, F1, hm, r3.1, rfl⟩, ?_, r7, fun z hz => ?_, fun z hz => ?_, fun nu ck cp cv cs cn wo N0 hw => ?_⟩
  · unfold f_Pa_parse
    refine (jb_ok s1).trans ?_
    have cut : f_Gr_cutTo (nI gcn) 0 = some 0 := by
      unfold f_Gr_cutTo
      rw [if_neg (show ¬ (0 : Int32) < 0 by decide)]
      by_cases q : gcn = 0
      · subst q; rfl
      · rw [if_neg (nI_nle (by omega) (by omega))]
    exact (jb_ok cut).trans c1
  · unfold f_Mo_read
    have hsz := hRM.2.1
    rw [if_neg (nI_pos (by omega)), if_neg (show ¬ (1 : Int32) < nI t from nI_nlt (b := t) (a := 1) (by omega) (by omega)), if_neg (nI_pos (by omega)), if_pos (show nI e ≤ size by rw [hsz]; exact nI_le he (by omega))]
    have clr : f_Mo_clear tk tw tv th ts tc (nI t) = some (upd tk (9000 * t + 0) 0, upd tw (9000 * t + 0) (-1), upd tv (9000 * t + 0) 0, upd th (9000 * t + 0) (-1), ts1, upd (upd tc t 0) t (nI (0 + 1))) := by
      unfold f_Mo_clear
      rw [if_neg (nI_in ht (by omega)), nI_clamp (by omega)]
      exact jb_ok a1
    refine (jb_ok clr).trans ((jb_ok q1).trans ?_)
    exact r1
  · have g := z7 z (by omega)
    have nz : z ≠ 9000 * t + 0 := by omega
    have nL : ¬ z ∈ lsT t [0] := fun q => by
      obtain ⟨y, y1, y2⟩ := ls_mem.mp q
      have : y = 0 := List.mem_singleton.mp y1
      omega
    refine ⟨g.1.trans (pk_un nz), g.2.1.trans (pk_un nz), g.2.2.1.trans (pk_un nz), g.2.2.2.1.trans (pk_un nz), (g.2.2.2.2.1 nL).trans (a3 z nz (fun q => by cases q))⟩
  · rw [z6 z hz, pk_un hz, pk_un hz]
  · obtain ⟨nu', ck', cp', cv', cs', cn', wo', l1, l2, l3, l4⟩ := l_outF (nu := nu) (ck := ck) (cp := cp) (cv := cv) (cs := cs) (cn := cn) (wo := wo) (N0 := N0) c2 (by show 0 + fs F1 + 1 ≤ 8001; omega) hw
    obtain ⟨cv2, csp2, cst2, nw2, ol2, n1, n2, n3⟩ := c_numsF (F := .pow (.add (.num 0) F1) 0) (w := -1) (t := T0) hRB (by show 0 + fs F1 + 1 ≤ 8001; omega) l2 l4 rmX hT0 hRc
    rw [nt_text] at n1 n3
    refine ⟨nu', ck', cp', cv', cs', cn', wo', cv2, csp2, cst2, nw2, ol2, l1, n1, n3, l3.1, pS B e, .add (.num 0) F1, ht, ⟨by show 0 + fs F1 + 1 ≤ 8001; omega, wX_add wX_0 r3.2, vl_of hV3 _ 0 T0 nkX n2 (by rw [nt_text]; exact Nat.le_refl _)⟩, rfl, ?_, l2, l3, fun k hk => ?_⟩
    · rw [z5]
      show nI (1 + fs F1) = nI (0 + fs F1 + 1)
      rw [show 1 + fs F1 = 0 + fs F1 + 1 by omega]
    · have root := z7 (9000 * t) (by omega)
      have inL : 9000 * t ∈ lsT t [0] := ls_mem.mpr ⟨0, List.mem_singleton.mpr rfl, rfl⟩
      have rk : tk1 (9000 * t) = 0 := root.1.trans pk_us
      have rw' : tw1 (9000 * t) = -1 := root.2.1.trans pk_us
      have rv : tv1 (9000 * t) = 0 := root.2.2.1.trans pk_us
      have rh : th1 (9000 * t) = -1 := root.2.2.2.1.trans pk_us
      have rs : ts2 (9000 * t) = nI (0 + fs F1 + 1) := by
        rw [root.2.2.2.2.2 inL, show ts1 (9000 * t) = 1 from a2]
        have := nI_add 1 (fs F1)
        rw [show 0 + fs F1 + 1 = 1 + fs F1 by omega]
        exact this
      have pM : pr (pS B e) (fun k => tk1 (9000 * t + k)) (fun k => tw1 (9000 * t + k)) (fun k => ts2 (9000 * t + k)) (fun k => th1 (9000 * t + k)) (.pow (.add (.num 0) F1) 0) 0 (-1) := ⟨rk, rw', rs, rh, True.intro, z3⟩
      have vM : pv (pS B e) (vS B e) (wS B e) B (fun k => tv1 (9000 * t + k)) (.pow (.add (.num 0) F1) 0) 0 T0 := by
        have e0 : nlT (pS B e) (wS B e) B 0 T0 = T0 := if_neg (by decide)
        refine ⟨rv, True.intro, ?_⟩
        show pv (pS B e) (vS B e) (wS B e) B _ F1 (0 + 1 + 0) (nlT (pS B e) (wS B e) B 0 T0)
        rw [e0]
        exact z4
      have ag := pr_ag _ 0 (-1) pM l2 k (Nat.zero_le _) (by show k < 0 + (0 + fs F1 + 1); have : k < 0 + fs F1 + 1 := hk; omega)
      have av := pv_ag _ 0 T0 vM n2 k (Nat.zero_le _) (by show k < 0 + (0 + fs F1 + 1); have : k < 0 + fs F1 + 1 := hk; omega)
      exact ⟨ag.1, ag.2.1, av, ag.2.2.1, ag.2.2.2⟩
end RR
