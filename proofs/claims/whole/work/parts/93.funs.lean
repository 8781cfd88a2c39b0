-- one node
section SN
variable {mk mv ms mc mle mst ck cs cv : Nat → Int32} {st sp : Nat → Nat} {nc nt t D : Nat} {T : TSh} {x y z : Nat × Fo × Nat} {out : Nat → Int32} {size : Int32} {L : List Nat}
theorem nd_X (hk : rki x = 5 ∨ rki x = 10 ∨ rki x = 11 ∨ rki x = 12 ∨ rki x = 13) (hd : nd (rno x) ≤ D + 1) {pre : List (Nat × Fo × Nat)} (e : rpt x = pre ++ [y]) : (∀ z, z ∈ pre → nd (rno z) ≤ D) ∧ nd (rno y) ≤ D + 1 := by
  have hn := nd_rs x.2.1 (x.1 + 1)
  have e9 : rs x.2.1 (x.1 + 1) = pre ++ [y] := e
  rw [e9, List.dropLast_concat, List.getLast?_concat] at hn
  have hdz : max 0 (if rki x = 5 ∨ rki x = 10 ∨ rki x = 11 ∨ rki x = 12 ∨ rki x = 13 then max (1 + (ndp x.2.1).1) (ndp x.2.1).2 else if rki x = 14 ∧ (rk x.2.1).head? = some 14 then max (ndp x.2.1).1 (1 + (ndp x.2.1).2) else 1 + max (ndp x.2.1).1 (ndp x.2.1).2) ≤ D + 1 := hd
  rw [if_pos hk] at hdz
  exact ⟨fun z hz => by have := hn.1 z hz; omega, by have := hn.2 y rfl; omega⟩
theorem nd_O (hk : ¬ (rki x = 5 ∨ rki x = 10 ∨ rki x = 11 ∨ rki x = 12 ∨ rki x = 13)) (h14 : rki x ≠ 14) (hx : TF ck cs cv nc nt (rno x) x.1) (hd : nd (rno x) ≤ D + 1) : ∀ z, z ∈ rpt x → nd (rno z) ≤ D := by
  intro z hz
  have h1 := (TF_rs (ck := ck) (cs := cs) (cv := cv) (nc := nc) (nt := nt) x.2.1 (x.1 + 1) ⟨hx.1.2.2, hx.2.1.2.2, hx.2.2.1.2, by have h4 : x.1 + (fs x.2.1 + 1) ≤ nt := hx.2.2.2; omega⟩ z hz).2.1
  have h2 : nd (rno x) = 1 + nd x.2.1 := nd_pow ⟨hk, h14⟩
  omega
theorem leaf_0 (hx : TF ck cs cv nc nt (rno x) x.1) (hk : rki x = 9 ∨ rki x = 16 ∨ rki x = 17 ∨ rki x = 19) : rpt x = [] ∧ rsz x = 1 := by
  have h1 := (TF_k hx).2.2.2.2.2.2.2.2.2.2.2.2.2.2.2.2 hk
  have h2 : (rpt x).map rki = [] := by rw [rpt_k, h1]
  have f0 : fn x.2.1 = 0 := by rw [← rk_len, h1]; rfl
  exact ⟨mp_nil h2, by show fs x.2.1 + 1 = 1; rw [fs_0 _ f0]⟩
theorem m_stop : jl (Mo_showS_b2_b T mk mv ms mc mle mst (nI t)) (out, size, -1) = some (out, size) := by
  apply jl_done
  show Mo_showS_b2_s T mk mv ms mc mle mst (nI t) out size (-1) = _
  unfold Mo_showS_b2_s
  rw [if_pos rfl]
theorem al_t (hk : rki x ≠ 8 ∧ rki x ≠ 15) (he : edB (rki x) = false) : al st sp cv x L = rdl st sp cv (rki x) x.1 (x.1 + rsz x) (fn x.2.1) (rpt x) (wdL st sp cv (rki x) x.1 L) := by
  rw [al_u, lv_99 hk he, en_99 hk]
theorem word_b {k j i : Nat} (hb : bl L = L) (h0 : k ≠ 0) (h : ¬ (k = 16 ∨ k = 17 ∨ k = 21 ∨ k = 22)) (hj : j < 25) (hj2 : j ≠ 22 ∧ j ≠ 13) (e : k - 2 = j) (hi : i < 49) (e2 : TXL.getD i [] = 32 :: TXL.getD j []) : pT i L = 32 :: tkL k L ∧ GE (tkL k L) := by
  have e3 : tkL k L = pT j L := by unfold tkL; rw [if_neg h0, if_neg h, hb, e]
  rw [e3]
  exact ⟨by rw [pT_x i hi, e2, pT_x j (by omega)]; rfl, ge_pT hj hj2⟩
/-- fun and all, up to what they yield -/
theorem m_fun (hR : HR mk mv ms mc ck cs cv t nt) (hT : TB nc st sp) (hS : SH mk mv ms mc mle mst ck cs cv st sp nc nt t T D) (hx : TF ck cs cv nc nt (rno x) x.1) (hk : rki x = 10 ∨ rki x = 11) (hd : nd (rno x) ≤ D + 1) (hb : bl L = L) (h : OT out size L) : ∃ out' size' y M, y ∈ rpt x ∧ tmK (rki y) ∧ nd (rno y) ≤ D + 1 ∧ Mo_showS_b205 T mk mv ms mc mle mst out size (nI t) (nI x.1) (nI (rki x)) = some (.inl (out', size', nI y.1)) ∧ OT out' size' M ∧ bl M = M ∧ al st sp cv y M = al st sp cv x L := by
  obtain ⟨g, k, n1, n2, n3⟩ := (TF_k hx).2.2.2.2.2.2.2.2.2.2.2.2.1 hk
  obtain ⟨u, m, u1, u2, u3⟩ := mp_cons (show (rpt x).map rki = 8 :: (g ++ [k]) by rw [rpt_k, n1])
  obtain ⟨gs, l2, g1, g2, g3⟩ := mp_app _ _ _ u3
  obtain ⟨y, y1, y2⟩ := mp_one g3
  subst y1
  have er : rpt x = (u :: gs) ++ [y] := by rw [u1, g1]; rfl
  have h8 : ∀ z, z ∈ u :: gs → rki z = 8 := fun z hz => by
    rcases List.mem_cons.mp hz with a | a
    · rw [a]; exact u2
    · exact mp_all g2 n2 z a
  have hyk : tmK (rki y) := by rw [y2]; exact n3
  have ht := tm_lk hyk
  have hdd := nd_X (by omega) hd er
  have hym : y ∈ rpt x := by rw [er]; exact List.mem_append_right _ (List.mem_cons.mpr (Or.inl rfl))
  have hyT := TF_p hx y hym
  have hn : (rpt x).length = gs.length + 2 := by rw [er, List.length_append]; rfl
  have hfn : fn x.2.1 = gs.length + 2 := by rw [← rpt_n (x := x), hn]
  have hlen : gs.length + 2 < 9000 := by
    have h2 := fn_fs x.2.1
    have h3 : rsz x = fs x.2.1 + 1 := rfl
    have h4 := hR.2.1
    have h5 := (TF_k hx).2.2.1
    omega
  -- the word
  have wb : ∃ i, (i = 41 ∨ i = 42) ∧ (Mo_showS_b205 T mk mv ms mc mle mst out size (nI t) (nI x.1) (nI (rki x)) = Mo_showS_b222 T mk mv ms mc mle mst out size (nI t) (nI x.1) (nI (rki x)) i) ∧ pT i L = 32 :: tkL (fwT (rki x)) L ∧ GE (tkL (fwT (rki x)) L) := by
    by_cases a : rki x = 10
    · refine ⟨41, Or.inl rfl, ?_, ?_⟩
      · unfold Mo_showS_b205
        rw [if_pos (show nI (rki x) = 10 by rw [a]; rfl)]
      · rw [a]; exact word_b (k := 10) (j := 8) hb (by decide) (by decide) (by decide) (by decide) rfl (by decide) rfl
    · refine ⟨42, Or.inr rfl, ?_, ?_⟩
      · unfold Mo_showS_b205
        rw [if_neg (nk_10 a)]
      · rw [hk.resolve_left a]; exact word_b (k := 11) (j := 9) hb (by decide) (by decide) (by decide) (by decide) rfl (by decide) rfl
  obtain ⟨i, hi, w1, w2, w3⟩ := wb
  obtain ⟨o1, s1, e1, f1⟩ := o_text (k := i) (by omega) h
  rw [w2] at f1
  -- the end
  have fin : ∀ (M : List Nat) (o : Nat → Int32) (s : Int32), GE M → OT o s M → ∃ o' s' M', jl (Mo_showS_b236_b T mk mv ms mc mle mst (nI t) (nI x.1) (nI (rki x)) (nI (gs.length + 2))) (o, s, nI (gs.length + 1)) = some (.inl (o', s', nI y.1)) ∧ OT o' s' M' ∧ bl M' = M' ∧ al st sp cv y M' = rd st sp cv (rno y) y.1 (rki x) x.1 (x.1 + rsz x) (fn x.2.1) M := by
    intro M o s hg h
    have em : nI (gs.length + 2) - 1 = nI (gs.length + 1) := nI_pred _
    have hpt : f_Mo_part ms mc (nI t) (nI x.1) (nI (gs.length + 1)) = some (nI y.1) := m_ptM (l := u :: gs) (y := y) (m := []) hR hx er
    have pm := (pos_mid (l := u :: gs) (y := y) (m := []) er).1
    have pl : (u :: gs).length = gs.length + 1 := rfl
    have ctx : ∀ tk, tbQ (rki x) (rki y) (decide (y.1 + rsz y = x.1 + rsz x)) (decide (y.1 = x.1 + 2)) = tk → rd st sp cv (rno y) y.1 (rki x) x.1 (x.1 + rsz x) (fn x.2.1) M = al st sp cv y (tkL tk M) := by
      intro tk htk
      rw [c_A ht.1 (by omega) (by omega), tb_v (by omega) (by omega) (by omega), htk]
    by_cases a : rki x = 10
    · obtain ⟨o2, s2, e2, f2⟩ := o_text (k := 43) (by decide) h
      rw [x43] at f2
      refine ⟨o2, s2, _, ?_, f2, bl_32, ?_⟩
      · apply jl_done
        show Mo_showS_b236_s T mk mv ms mc mle mst (nI t) (nI x.1) (nI (rki x)) (nI (gs.length + 2)) o s (nI (gs.length + 1)) = _
        unfold Mo_showS_b236_s Mo_showS_b314 Mo_showS_b625
        rw [em, if_pos (Int32.le_refl _), if_pos (show nI (rki x) = 10 by rw [a]; rfl), e2, jb_some, hpt, jb_some, jm_some]
      · rw [ctx 19 (by rw [a]; rfl), k19 hg, al_c hyT (by omega) (by decide)]
    · obtain ⟨o2, s2, e2, f2⟩ := o_text (k := 44) (by decide) h
      rw [x44] at f2
      refine ⟨o2, s2, _, ?_, f2, bl_32, ?_⟩
      · apply jl_done
        show Mo_showS_b236_s T mk mv ms mc mle mst (nI t) (nI x.1) (nI (rki x)) (nI (gs.length + 2)) o s (nI (gs.length + 1)) = _
        unfold Mo_showS_b236_s Mo_showS_b314 Mo_showS_b625
        rw [em, if_pos (Int32.le_refl _), if_neg (nk_10 a), e2, jb_some, hpt, jb_some, jm_some]
      · rw [ctx 21 (by rw [hk.resolve_left a]; rfl), k21, al_c hyT (by omega) (by decide)]
  -- the groups
  have grp : ∃ o s, jl (Mo_showS_b236_b T mk mv ms mc mle mst (nI t) (nI x.1) (nI (rki x)) (nI (gs.length + 2))) (o1, s1, nI 0) = jl (Mo_showS_b236_b T mk mv ms mc mle mst (nI t) (nI x.1) (nI (rki x)) (nI (gs.length + 2))) (o, s, nI (gs.length + 1)) ∧ OT o s (rdl st sp cv (rki x) x.1 (x.1 + rsz x) (fn x.2.1) (u :: gs) (tkL (fwT (rki x)) L)) ∧ GE (rdl st sp cv (rki x) x.1 (x.1 + rsz x) (fn x.2.1) (u :: gs) (tkL (fwT (rki x)) L)) := by
    have em : nI (gs.length + 2) - 1 = nI (gs.length + 1) := nI_pred _
    by_cases two : gs = []
    · subst two
      have hum : u ∈ rpt x := by rw [u1]; exact List.mem_cons.mpr (Or.inl rfl)
      have huT := TF_p hx u hum
      have hud := hdd.1 u (List.mem_cons.mpr (Or.inl rfl))
      have hpt : f_Mo_part ms mc (nI t) (nI x.1) (nI 0) = some (nI u.1) := m_ptM (l := []) (y := u) hR hx u1
      obtain ⟨o2, s2, e2, f2⟩ := m_grp hR hT hS huT u2 (fun z hz => nd_O (by omega) (by omega) huT (by omega) z hz) bl_32 f1
      have eb : rdl st sp cv 8 u.1 (u.1 + rsz u) (fn u.2.1) (rpt u) (32 :: tkL (fwT (rki x)) L) = rdl st sp cv 8 u.1 (u.1 + rsz u) (fn u.2.1) (rpt u) (tkL (fwT (rki x)) L) := by
        have g := rd_bl (st := st) (sp := sp) (cv := cv) u.2.1 (u.1 + 1) 8 u.1 (u.1 + rsz u) (fn u.2.1) (tkL (fwT (rki x)) L) huT.2.2.1.2 (Or.inr rfl) (ns_first (TF_k huT).2.2.2 (by omega))
        rw [bl_ge w3, rd_rs, rd_rs] at g
        exact g
      rw [eb] at f2
      have ec : rdl st sp cv (rki x) x.1 (x.1 + rsz x) (fn x.2.1) [u] (tkL (fwT (rki x)) L) = rdl st sp cv 8 u.1 (u.1 + rsz u) (fn u.2.1) (rpt u) (tkL (fwT (rki x)) L) := c_8b u2 hk (by rw [hfn]; exact Nat.le_refl _)
      refine ⟨o2, s2, ?_, by rw [ec]; exact f2, ?_⟩
      · apply jl_step
        show Mo_showS_b236_s T mk mv ms mc mle mst (nI t) (nI x.1) (nI (rki x)) (nI 2) o1 s1 (nI 0) = _
        unfold Mo_showS_b236_s Mo_showS_b256 Mo_showS_b291
        rw [if_neg (show ¬ nI 2 - 1 ≤ nI 0 by decide), if_pos (show nI 0 ≤ 0 by decide), if_pos (show nI 2 = 2 from rfl), hpt, jb_some, e2, jb_some]
        rfl
      · rw [ec]
        have g := rd_ge (cv := cv) hT u.2.1 (u.1 + 1) 8 u.1 (u.1 + rsz u) (fn u.2.1) (tkL (fwT (rki x)) L) huT.2.2.1.2 huT.2.1.2.2 (ns_last (TF_k huT).2.2.2 (by unfold lkB; omega) (by omega))
        rw [rd_rs] at g
        exact g
    · have hl1 : 1 ≤ gs.length := lpos two
      have go : ∀ (l pre : List (Nat × Fo × Nat)) (M : List Nat) (o : Nat → Int32) (s : Int32), u :: gs = pre ++ l → (pre = [] → M = tkL (fwT (rki x)) L ∧ OT o s (32 :: M)) → (pre ≠ [] → GE M ∧ OT o s M) → ∃ o' s', jl (Mo_showS_b236_b T mk mv ms mc mle mst (nI t) (nI x.1) (nI (rki x)) (nI (gs.length + 2))) (o, s, nI pre.length) = jl (Mo_showS_b236_b T mk mv ms mc mle mst (nI t) (nI x.1) (nI (rki x)) (nI (gs.length + 2))) (o', s', nI (gs.length + 1)) ∧ (l = [] → OT o' s' M ∧ GE M) ∧ (l ≠ [] → OT o' s' (rdl st sp cv (rki x) x.1 (x.1 + rsz x) (fn x.2.1) l M) ∧ GE (rdl st sp cv (rki x) x.1 (x.1 + rsz x) (fn x.2.1) l M)) := by
        intro l
        induction l with
        | nil =>
          intro pre M o s e p1 p2
          rw [List.append_nil] at e
          have pne : pre ≠ [] := fun z => by rw [z] at e; cases e
          refine ⟨o, s, ?_, fun _ => ⟨(p2 pne).2, (p2 pne).1⟩, fun q => absurd rfl q⟩
          rw [← e]
          rfl
        | cons v l ih =>
          intro pre M o s e p1 p2
          have er2 : rpt x = pre ++ v :: (l ++ [y]) := by rw [er, e, List.append_assoc]; rfl
          have hvm : v ∈ u :: gs := by rw [e]; exact List.mem_append_right _ (List.mem_cons.mpr (Or.inl rfl))
          have hvT := TF_p hx v (by rw [er2]; exact List.mem_append_right _ (List.mem_cons.mpr (Or.inl rfl)))
          have hvd := hdd.1 v hvm
          have hv8 := h8 v hvm
          have lk8 : lkB (rki v) := by unfold lkB; omega
          have hpt := m_ptM hR hx er2
          have hpl : pre.length + l.length + 1 = gs.length + 1 := by
            have := congrArg List.length e
            rw [List.length_cons, List.length_append, List.length_cons] at this
            omega
          have ex : ∃ o2 s2, Mo_showS_b236_b T mk mv ms mc mle mst (nI t) (nI x.1) (nI (rki x)) (nI (gs.length + 2)) (o, s, nI pre.length) = some (.inl (o2, s2, nI (pre.length + 1))) ∧ OT o2 s2 (al st sp cv v M) := by
            by_cases q : pre = []
            · obtain ⟨q1, q2⟩ := p1 q
              obtain ⟨o2, s2, e2, f2⟩ := hS v _ o s hvT hvd (by omega) bl_32 q2
              rw [al_32 hvT (by omega) (by rw [q1]; exact w3)] at f2
              refine ⟨o2, s2, ?_, f2⟩
              show Mo_showS_b236_s T mk mv ms mc mle mst (nI t) (nI x.1) (nI (rki x)) (nI (gs.length + 2)) o s (nI pre.length) = _
              unfold Mo_showS_b236_s Mo_showS_b256 Mo_showS_b291
              rw [em, if_neg (nI_ge (by omega) (by omega)), if_pos (show nI pre.length ≤ 0 by rw [q]; decide), if_neg (fun z => by have := (nI_eq (b := 2) (by omega) (by omega)).mp z; omega), hpt, jb_some, e2, jb_some, nI_1]
            · obtain ⟨q1, q2⟩ := p2 q
              obtain ⟨o3, s3, e3, f3⟩ := o_put (c := 32) q2 (by decide)
              obtain ⟨o2, s2, e2, f2⟩ := hS v _ o3 s3 hvT hvd (by omega) bl_32 f3
              rw [al_32 hvT (by omega) q1] at f2
              have pl1 : 1 ≤ pre.length := lpos q
              refine ⟨o2, s2, ?_, f2⟩
              show Mo_showS_b236_s T mk mv ms mc mle mst (nI t) (nI x.1) (nI (rki x)) (nI (gs.length + 2)) o s (nI pre.length) = _
              unfold Mo_showS_b236_s Mo_showS_b256 Mo_showS_b291
              rw [em, if_neg (nI_ge (by omega) (by omega)), if_neg (nI_nle (by omega) (by omega)), show f_Mo_put o s 32 = _ from e3, jb_some, if_neg (fun z => by have := (nI_eq (b := 2) (by omega) (by omega)).mp z; omega), hpt, jb_some, e2, jb_some, nI_1]
          obtain ⟨o2, s2, e2, f2⟩ := ex
          have ec : rd st sp cv (rno v) v.1 (rki x) x.1 (x.1 + rsz x) (fn x.2.1) M = al st sp cv v M := c_8 hv8 (Or.inr (by omega))
          have geV := al_ge (st := st) (sp := sp) (L := M) hT hvT lk8
          obtain ⟨o3, s3, e3, f3, f4⟩ := ih (pre ++ [v]) (al st sp cv v M) o2 s2 (by rw [e, List.append_assoc]; rfl) (fun z => absurd z (by simp)) (fun _ => ⟨geV, f2⟩)
          refine ⟨o3, s3, ?_, fun z => absurd z (by simp), fun _ => ?_⟩
          · rw [List.length_append] at e3
            exact (jl_step e2).trans e3
          · show OT o3 s3 (rdl st sp cv (rki x) x.1 (x.1 + rsz x) (fn x.2.1) l (rd st sp cv (rno v) v.1 (rki x) x.1 (x.1 + rsz x) (fn x.2.1) M)) ∧ GE (rdl st sp cv (rki x) x.1 (x.1 + rsz x) (fn x.2.1) l (rd st sp cv (rno v) v.1 (rki x) x.1 (x.1 + rsz x) (fn x.2.1) M))
            rw [ec]
            by_cases ln : l = []
            · subst ln; exact f3 rfl
            · exact f4 ln
      obtain ⟨o, s, g1, _, g2⟩ := go (u :: gs) [] (tkL (fwT (rki x)) L) o1 s1 rfl (fun _ => ⟨rfl, f1⟩) (fun z => absurd rfl z)
      exact ⟨o, s, g1, g2 (by simp)⟩
  obtain ⟨o2, s2, e2, f2, gg⟩ := grp
  obtain ⟨o3, s3, M, e3, f3, b3, a3⟩ := fin _ o2 s2 gg f2
  refine ⟨o3, s3, y, M, hym, hyk, hdd.2, ?_, f3, b3, ?_⟩
  · rw [w1]
    unfold Mo_showS_b222 Mo_showS_b236
    rw [e1, jb_some, m_cnt hR hx, jb_some, hn, show (0 : Int32) = nI 0 from rfl, e2, e3]
  · rw [a3, al_t (by omega) (by rcases hk with a | a <;> rw [a] <;> rfl), er, rdl_app]
    have ew : wdL st sp cv (rki x) x.1 L = tkL (fwT (rki x)) L := by unfold wdL; rw [if_neg (by omega), if_neg (by omega)]
    rw [ew]
    rfl
end SN
