-- a node and all that is in it
section SA
variable {mk mv ms mc mle mst ck cs cv : Nat → Int32} {st sp : Nat → Nat} {nc nt t D : Nat} {T : TSh} {x y z : Nat × Fo × Nat} {out : Nat → Int32} {size : Int32} {L : List Nat}
theorem sz_9 (hx : TF ck cs cv nc nt (rno x) x.1) (hk : rki x = 9 ∨ rki x = 16) : rsz x = 1 := (leaf_0 hx (by omega)).2
theorem m_shL (hR : HR mk mv ms mc ck cs cv t nt) (hT : TB nc st sp) (hN : RNr mle mst nc st sp) (hS : SH mk mv ms mc mle mst ck cs cv st sp nc nt t T D) : ∀ (N : Nat) (x : Nat × Fo × Nat) (L : List Nat) (out : Nat → Int32) (size : Int32), rsz x ≤ N → TF ck cs cv nc nt (rno x) x.1 → nd (rno x) ≤ D + 1 → 1 ≤ rki x ∧ rki x ≤ 19 → bl L = L → OT out size L → ∃ out' size', jl (Mo_showS_b2_b T mk mv ms mc mle mst (nI t)) (out, size, nI x.1) = some (out', size') ∧ OT out' size' (al st sp cv x L) := by
  intro N
  induction N with
  | zero => intro x L out size hN'; have := rsz1 (x := x); omega
  | succ N ih =>
    intro x L out size hN' hx hd hk hb h
    have hxb := (TF_k hx).2.2.1
    have hns := (TF_k hx).2.2.2
    have hx1 := rsz1 (x := x)
    have h8k := hR.2.1
    have hT1 := hT.1
    by_cases long : 8000 < L.length
    · refine ⟨out, size, ?_, OT_ov h long (al_xt hT hx)⟩
      apply jl_done
      show Mo_showS_b2_s T mk mv ms mc mle mst (nI t) out size (nI x.1) = _
      unfold Mo_showS_b2_s
      rw [if_neg (nI_m1 (by omega)), if_pos ((OT_sz h).mpr long)]
    · have hsz : ¬ (8000 : Int32) < size := fun z => long ((OT_sz h).mp z)
      -- the parts behind which the loop goes on
      have nxt : ∀ (y : Nat × Fo × Nat) (M : List Nat) (o : Nat → Int32) (s : Int32), y ∈ rpt x → nd (rno y) ≤ D + 1 → tmK (rki y) → bl M = M → OT o s M → ∃ out' size', jl (Mo_showS_b2_b T mk mv ms mc mle mst (nI t)) (o, s, nI y.1) = some (out', size') ∧ OT out' size' (al st sp cv y M) := fun y M o s hy hyd hyk hyb hyo => ih y M o s (by have := rpt_sz y hy; omega) (TF_p hx y hy) hyd (by have := tm_lk hyk; omega) hyb hyo
      by_cases q : rki x = 5
      · -- a constructor
        obtain ⟨k, n1, n2⟩ := hns.2.2.2.2.2.1 q
        obtain ⟨u, m, u1, u2, u3⟩ := mp_cons (show (rpt x).map rki = 9 :: [k] by rw [rpt_k, n1])
        obtain ⟨y, y1, y2⟩ := mp_one u3
        subst y1
        have hyk : tmK (rki y) := by rw [y2]; exact n2
        have ht := tm_lk hyk
        have hum : u ∈ rpt x := by rw [u1]; exact List.mem_cons.mpr (Or.inl rfl)
        have hym : y ∈ rpt x := by rw [u1]; exact List.mem_cons.mpr (Or.inr (List.mem_cons.mpr (Or.inl rfl)))
        have huT := TF_p hx u hum
        have hyT := TF_p hx y hym
        have hdd := nd_X (by omega) hd (pre := [u]) u1
        have up := pos_first u1
        have us := sz_9 huT (by omega)
        have yp : y.1 = x.1 + 2 := by
          have h := rpt_ch (x := x)
          rw [u1] at h
          have h2 : y.1 = x.1 + 1 + rsz u := h.2.1
          omega
        have lk9 : lkB (rki u) := by unfold lkB; omega
        obtain ⟨o1, s1, e1, f1⟩ := hS u L out size huT (hdd.1 u (List.mem_cons.mpr (Or.inl rfl))) (by omega) hb h
        obtain ⟨o2, s2, e2, f2⟩ := o_text (k := 38) (by decide) f1
        rw [x38] at f2
        obtain ⟨o3, s3, e3, f3⟩ := nxt y _ o2 s2 hym hdd.2 hyk bl_32 f2
        rw [al_c hyT (by omega) (by decide)] at f3
        refine ⟨o3, s3, ?_, ?_⟩
        · refine (jl_step ?_).trans e3
          have e2' : nI x.1 + 2 = nI y.1 := by rw [yp]; exact nI_add x.1 2
          show Mo_showS_b2_s T mk mv ms mc mle mst (nI t) out size (nI x.1) = _
          unfold Mo_showS_b2_s Mo_showS_b625
          rw [if_neg (nI_m1 (by omega)), if_neg hsz, kat hR hx, jb_some, if_neg (nk_0 (x := x) (by omega)), if_pos (show nI (rki x) = 5 by rw [q]; rfl), nI_1, ← up, e1, jb_some, e2, jb_some, e2']
        · rw [al_t (by omega) (by rw [q]; rfl), u1, q]
          show OT o3 s3 (rd st sp cv (rno y) y.1 5 x.1 (x.1 + rsz x) (fn x.2.1) (rd st sp cv (rno u) u.1 5 x.1 (x.1 + rsz x) (fn x.2.1) L))
          rw [c_A lk9 (by decide) (by omega), tb_0 (by omega), tk0, c_A ht.1 (by decide) (by omega), tb_v (by decide) (by omega) (by omega)]
          show OT o3 s3 (al st sp cv y (tkL 17 (al st sp cv u L)))
          rw [k17]
          exact f3
      · by_cases dk : rki x < 8
        · -- a declaration
          have hdc : dcK (rki x) := ⟨by omega, by omega, q⟩
          obtain ⟨o1, s1, e1, f1⟩ := m_dcl hR hT hS hx hdc (nd_O (by omega) (by omega) hx hd) hb h
          refine ⟨o1, s1, ?_, f1⟩
          refine (jl_step ?_).trans m_stop
          show Mo_showS_b2_s T mk mv ms mc mle mst (nI t) out size (nI x.1) = _
          unfold Mo_showS_b2_s Mo_showS_b625
          rw [if_neg (nI_m1 (by omega)), if_neg hsz, kat hR hx, jb_some, if_neg (nk_0 (x := x) (by omega)), if_neg (nk_5 (x := x) q), if_neg (show ¬ (8 : Int32) ≤ nI (rki x) from nI_ge (b := 8) (by omega) (by omega)), e1, jb_some]
        · by_cases q8 : rki x = 8
          · -- a group
            obtain ⟨o1, s1, e1, f1⟩ := o_put (c := 40) h (by decide)
            obtain ⟨o2, s2, e2, f2⟩ := m_grp hR hT hS hx q8 (nd_O (by omega) (by omega) hx hd) bl_40 f1
            obtain ⟨o3, s3, e3, f3⟩ := o_put (c := 41) f2 (by decide)
            refine ⟨o3, s3, ?_, ?_⟩
            · refine (jl_step ?_).trans m_stop
              show Mo_showS_b2_s T mk mv ms mc mle mst (nI t) out size (nI x.1) = _
              unfold Mo_showS_b2_s Mo_showS_b625
              rw [if_neg (nI_m1 (by omega)), if_neg hsz, kat hR hx, jb_some, if_neg (nk_0 (x := x) (by omega)), if_neg (nk_5 (x := x) (by omega)), if_pos (show (8 : Int32) ≤ nI (rki x) from nI_le (a := 8) (by omega) (by omega)), if_pos (show nI (rki x) = 8 by rw [q8]; rfl), show f_Mo_put out size 40 = _ from e1, jb_some, e2, jb_some, show f_Mo_put o2 s2 41 = _ from e3, jb_some]
            · have e : al st sp cv x L = 41 :: rdl st sp cv 8 x.1 (x.1 + rsz x) (fn x.2.1) (rpt x) (40 :: L) := by
                rw [al_u, q8]
                show tkL 16 (rdl st sp cv 8 x.1 (x.1 + rsz x) (fn x.2.1) (rpt x) (tkL 15 L)) = _
                rw [k16, k15, hb]
              rw [e]
              exact f3
          · by_cases q9 : rki x = 9 ∨ rki x = 16
            · -- a name
              obtain ⟨v, v1, v2⟩ := hx.2.1.1 q9
              obtain ⟨l0, _⟩ := leaf_0 hx (by omega)
              obtain ⟨o1, s1, e1, f1⟩ := o_name hT hN v1 h
              have b172 : Mo_showS_b172 T mk mv ms mc mle mst out size (nI t) (nI x.1) (-1) = some (.inl (o1, s1, -1)) := by
                unfold Mo_showS_b172 Mo_showS_b625
                have ht2 := hR.1
                rw [off9, if_neg (nI_in (show 9000 * t + x.1 < 18000 by omega) (by decide)), nI_clamp (by omega), (hR.2.2.2 x.1 (by omega)).2.2, v2, e1, jb_some]
              refine ⟨o1, s1, ?_, ?_⟩
              · refine (jl_step ?_).trans m_stop
                by_cases q : rki x = 9
                · show Mo_showS_b2_s T mk mv ms mc mle mst (nI t) out size (nI x.1) = _
                  unfold Mo_showS_b2_s Mo_showS_b625
                  rw [if_neg (nI_m1 (by omega)), if_neg hsz, kat hR hx, jb_some, if_neg (nk_0 (x := x) (by omega)), if_neg (nk_5 (x := x) (by omega)), if_pos (show (8 : Int32) ≤ nI (rki x) from nI_le (a := 8) (by omega) (by omega)), if_neg (nk_8 (x := x) (by omega)), if_pos (show nI (rki x) = 9 by rw [q]; rfl)]
                  exact b172
                · have q : rki x = 16 := q9.resolve_left q
                  show Mo_showS_b2_s T mk mv ms mc mle mst (nI t) out size (nI x.1) = _
                  unfold Mo_showS_b2_s Mo_showS_b625
                  rw [if_neg (nI_m1 (by omega)), if_neg hsz, kat hR hx, jb_some, if_neg (nk_0 (x := x) (by omega)), if_neg (nk_5 (x := x) (by omega)), if_pos (show (8 : Int32) ≤ nI (rki x) from nI_le (a := 8) (by omega) (by omega)), if_neg (nk_8 (x := x) (by omega)), if_neg (nk_9 (x := x) (by omega)), if_pos (show nI (rki x) = 16 by rw [q]; rfl)]
                  exact b172
              · rw [al_t (by omega) (by rcases q9 with a | a <;> rw [a] <;> rfl), l0]
                show OT o1 s1 (wdL st sp cv (rki x) x.1 L)
                unfold wdL
                rw [if_pos q9, v2, nI_clamp (by omega), hb]
                exact f1
            · by_cases qf : rki x = 10 ∨ rki x = 11
              · -- fun, all
                obtain ⟨o1, s1, y, M, hym, hyk, hyd, e1, f1, hM, eM⟩ := m_fun hR hT hS hx qf hd hb h
                obtain ⟨o2, s2, e2, f2⟩ := nxt y M o1 s1 hym hyd hyk hM f1
                refine ⟨o2, s2, ?_, by rw [← eM]; exact f2⟩
                refine (jl_step ?_).trans e2
                by_cases q : rki x = 10
                · show Mo_showS_b2_s T mk mv ms mc mle mst (nI t) out size (nI x.1) = _
                  unfold Mo_showS_b2_s Mo_showS_b625
                  rw [if_neg (nI_m1 (by omega)), if_neg hsz, kat hR hx, jb_some, if_neg (nk_0 (x := x) (by omega)), if_neg (nk_5 (x := x) (by omega)), if_pos (show (8 : Int32) ≤ nI (rki x) from nI_le (a := 8) (by omega) (by omega)), if_neg (nk_8 (x := x) (by omega)), if_neg (nk_9 (x := x) (by omega)), if_neg (nk_16 (x := x) (by omega)), if_pos (show nI (rki x) = 10 by rw [q]; rfl)]
                  exact e1
                · have q : rki x = 11 := qf.resolve_left q
                  show Mo_showS_b2_s T mk mv ms mc mle mst (nI t) out size (nI x.1) = _
                  unfold Mo_showS_b2_s Mo_showS_b625
                  rw [if_neg (nI_m1 (by omega)), if_neg hsz, kat hR hx, jb_some, if_neg (nk_0 (x := x) (by omega)), if_neg (nk_5 (x := x) (by omega)), if_pos (show (8 : Int32) ≤ nI (rki x) from nI_le (a := 8) (by omega) (by omega)), if_neg (nk_8 (x := x) (by omega)), if_neg (nk_9 (x := x) (by omega)), if_neg (nk_16 (x := x) (by omega)), if_neg (nk_10 (x := x) (by omega)), if_pos (show nI (rki x) = 11 by rw [q]; rfl)]
                  exact e1
              · by_cases q12 : rki x = 12
                · -- let
                  obtain ⟨ka, kt, ku, n1, n2, n3, n4⟩ := hns.2.2.2.2.2.2.2.2.2.2.1 q12
                  obtain ⟨u, m1, u1, u2, u3⟩ := mp_cons (show (rpt x).map rki = 9 :: [ka, kt, ku] by rw [rpt_k, n1])
                  obtain ⟨a, m2, a1, a2, a3⟩ := mp_cons u3
                  obtain ⟨b, m3, b1, b2, b3⟩ := mp_cons a3
                  obtain ⟨y, y1, y2⟩ := mp_one b3
                  subst y1 b1 a1
                  have hyk : tmK (rki y) := by rw [y2]; exact n4
                  have hbk : tmK (rki b) := by rw [b2]; exact n3
                  have hak : tmK (rki a) ∨ rki a = 19 := by rw [a2]; exact n2
                  have hty := tm_lk hyk
                  have htb := tm_lk hbk
                  have hum : u ∈ rpt x := by rw [u1]; simp
                  have ham : a ∈ rpt x := by rw [u1]; simp
                  have hbm : b ∈ rpt x := by rw [u1]; simp
                  have hym : y ∈ rpt x := by rw [u1]; simp
                  have huT := TF_p hx u hum
                  have haT := TF_p hx a ham
                  have hbT := TF_p hx b hbm
                  have hyT := TF_p hx y hym
                  have hdd := nd_X (by omega) hd (pre := [u, a, b]) u1
                  have up := pos_first u1
                  have us := sz_9 huT (by omega)
                  have chx := rpt_ch (x := x)
                  rw [u1] at chx
                  have ap : a.1 = x.1 + 1 + rsz u := chx.2.1
                  have bp : b.1 = x.1 + 1 + rsz u + rsz a := chx.2.2.1
                  have yp : y.1 = x.1 + 1 + rsz u + rsz a + rsz b := chx.2.2.2.1
                  have ye : x.1 + 1 + rsz u + rsz a + rsz b + rsz y = x.1 + rsz x := chx.2.2.2.2
                  have sa := rsz1 (x := a)
                  have sb := rsz1 (x := b)
                  have sy := rsz1 (x := y)
                  have lk9 : lkB (rki u) := by unfold lkB; omega
                  obtain ⟨w2, w3⟩ := word_b (L := L) (k := 12) (j := 10) (i := 45) hb (by decide) (by decide) (by decide) (by decide) rfl (by decide) rfl
                  obtain ⟨o1, s1, e1, f1⟩ := o_text (k := 45) (by decide) h
                  rw [w2] at f1
                  obtain ⟨o2, s2, e2, f2⟩ := hS u _ o1 s1 huT (hdd.1 u (by simp)) (by omega) bl_32 f1
                  rw [al_32 huT (by omega) w3] at f2
                  obtain ⟨o3, s3, e3, f3⟩ := m_say hR hS haT (hdd.1 a (by simp)) hak f2
                  have ctxA : (if rki a = 19 then al st sp cv u (tkL 12 L) else al st sp cv a (58 :: al st sp cv u (tkL 12 L))) = rd st sp cv (rno a) a.1 12 x.1 (x.1 + rsz x) (fn x.2.1) (al st sp cv u (tkL 12 L)) := by
                    by_cases z : rki a = 19
                    · rw [if_pos z, c_19 haT z]
                    · have hta := tm_lk (hak.resolve_right z)
                      rw [if_neg z, c_A hta.1 (by decide) (by omega), tb_v (by decide) (by omega) (by omega), decide_eq_false (by omega), decide_eq_true (by omega)]
                      show _ = al st sp cv a (tkL 17 (al st sp cv u (tkL 12 L)))
                      rw [k17]
                  have geU := al_ge (st := st) (sp := sp) (L := tkL 12 L) hT huT lk9
                  have geA : GE (if rki a = 19 then al st sp cv u (tkL 12 L) else al st sp cv a (58 :: al st sp cv u (tkL 12 L))) := by
                    by_cases z : rki a = 19
                    · rw [if_pos z]; exact geU
                    · rw [if_neg z]; exact al_ge hT haT (tm_lk (hak.resolve_right z)).1
                  obtain ⟨o4, s4, e4, f4⟩ := o_text (k := 39) (by decide) f3
                  rw [x39] at f4
                  obtain ⟨o5, s5, e5, f5⟩ := hS b _ o4 s4 hbT (hdd.1 b (by simp)) (by omega) bl_32 f4
                  rw [al_c hbT (by omega) (by decide), ← k18 geA] at f5
                  have geB := al_ge (st := st) (sp := sp) (L := tkL 18 (if rki a = 19 then al st sp cv u (tkL 12 L) else al st sp cv a (58 :: al st sp cv u (tkL 12 L)))) hT hbT htb.1
                  obtain ⟨o6, s6, e6, f6⟩ := o_text (k := 46) (by decide) f5
                  rw [x46] at f6
                  obtain ⟨o7, s7, e7, f7⟩ := nxt y _ o6 s6 hym hdd.2 hyk bl_32 f6
                  rw [al_c hyT (by omega) (by decide), ← k13 geB] at f7
                  have pb : f_Mo_part ms mc (nI t) (nI x.1) 2 = some (nI b.1) := m_ptM (l := [u, a]) (y := b) (m := [y]) hR hx u1
                  have py : f_Mo_part ms mc (nI t) (nI x.1) 3 = some (nI y.1) := m_ptM (l := [u, a, b]) (y := y) (m := []) hR hx u1
                  have ea : nI x.1 + 2 = nI a.1 := by rw [ap, us]; exact nI_add x.1 2
                  refine ⟨o7, s7, ?_, ?_⟩
                  · refine (jl_step ?_).trans e7
                    show Mo_showS_b2_s T mk mv ms mc mle mst (nI t) out size (nI x.1) = _
                    unfold Mo_showS_b2_s Mo_showS_b625
                    rw [if_neg (nI_m1 (by omega)), if_neg hsz, kat hR hx, jb_some, if_neg (nk_0 (x := x) (by omega)), if_neg (nk_5 (x := x) (by omega)), if_pos (show (8 : Int32) ≤ nI (rki x) from nI_le (a := 8) (by omega) (by omega)), if_neg (nk_8 (x := x) (by omega)), if_neg (nk_9 (x := x) (by omega)), if_neg (nk_16 (x := x) (by omega)), if_neg (nk_10 (x := x) (by omega)), if_neg (nk_11 (x := x) (by omega)), if_pos (show nI (rki x) = 12 by rw [q12]; rfl), e1, jb_some, nI_1, ← up, e2, jb_some, ea, e3, jb_some, e4, jb_some, pb, jb_some, e5, jb_some, e6, jb_some, py, jb_some]
                  · rw [al_t (by omega) (by rw [q12]; rfl), u1, q12]
                    show OT o7 s7 (rd st sp cv (rno y) y.1 12 x.1 (x.1 + rsz x) (fn x.2.1) (rd st sp cv (rno b) b.1 12 x.1 (x.1 + rsz x) (fn x.2.1) (rd st sp cv (rno a) a.1 12 x.1 (x.1 + rsz x) (fn x.2.1) (rd st sp cv (rno u) u.1 12 x.1 (x.1 + rsz x) (fn x.2.1) (tkL 12 L)))))
                    rw [c_A (x := u) lk9 (by decide) (by omega), tb_0 (by omega), tk0, ← ctxA, c_A (x := b) htb.1 (by decide) (by omega), tb_v (by decide) (by omega) (by omega), decide_eq_false (by omega), decide_eq_false (by omega), c_A (x := y) hty.1 (by decide) (by omega), tb_v (by decide) (by omega) (by omega), decide_eq_true (by omega)]
                    exact f7
                · by_cases q13 : rki x = 13
                  · -- an arrow
                    obtain ⟨ka, kb, n1, n2, n3⟩ := hns.2.2.2.2.2.2.2.2.2.2.2.1 (by omega)
                    obtain ⟨u, m1, u1, u2, u3⟩ := mp_cons (show (rpt x).map rki = ka :: [kb] by rw [rpt_k, n1])
                    obtain ⟨y, y1, y2⟩ := mp_one u3
                    subst y1
                    have huk : tmK (rki u) := by rw [u2]; exact n2
                    have hyk : tmK (rki y) := by rw [y2]; exact n3
                    have htu := tm_lk huk
                    have hty := tm_lk hyk
                    have hum : u ∈ rpt x := by rw [u1]; simp
                    have hym : y ∈ rpt x := by rw [u1]; simp
                    have huT := TF_p hx u hum
                    have hyT := TF_p hx y hym
                    have hdd := nd_X (by omega) hd (pre := [u]) u1
                    have up := pos_first u1
                    have pm := (pos_mid (l := [u]) (y := y) (m := []) u1).1
                    have pm' : x.1 + 1 + 1 ≤ y.1 := pm
                    obtain ⟨o1, s1, e1, f1⟩ := m_bra (b := opB (rki u)) hS huT (hdd.1 u (by simp)) (by omega) hb h
                    obtain ⟨o2, s2, e2, f2⟩ := o_text (k := 47) (by decide) f1
                    rw [x47] at f2
                    have geM : GE (cbL (opB (rki u)) (al st sp cv u (obL (opB (rki u)) L))) := by
                      cases opB (rki u) with
                      | false => exact al_ge hT huT htu.1
                      | true => show GE (tkL 16 _); rw [k16]; exact ge_c (by decide) (by decide) (by decide)
                    obtain ⟨o3, s3, e3, f3⟩ := nxt y _ o2 s2 hym hdd.2 hyk bl_32 f2
                    rw [al_c hyT (by omega) (by decide), ← k20 geM] at f3
                    have py : f_Mo_part ms mc (nI t) (nI x.1) 1 = some (nI y.1) := m_ptM (l := [u]) (y := y) (m := []) hR hx u1
                    refine ⟨o3, s3, ?_, ?_⟩
                    · refine (jl_step ?_).trans e3
                      show Mo_showS_b2_s T mk mv ms mc mle mst (nI t) out size (nI x.1) = _
                      unfold Mo_showS_b2_s Mo_showS_b625
                      rw [if_neg (nI_m1 (by omega)), if_neg hsz, kat hR hx, jb_some, if_neg (nk_0 (x := x) (by omega)), if_neg (nk_5 (x := x) (by omega)), if_pos (show (8 : Int32) ≤ nI (rki x) from nI_le (a := 8) (by omega) (by omega)), if_neg (nk_8 (x := x) (by omega)), if_neg (nk_9 (x := x) (by omega)), if_neg (nk_16 (x := x) (by omega)), if_neg (nk_10 (x := x) (by omega)), if_neg (nk_11 (x := x) (by omega)), if_neg (nk_12 (x := x) (by omega)), if_pos (show nI (rki x) = 13 by rw [q13]; rfl), nI_1, ← up, kat hR huT, jb_some, op_ok' (rki u) rki_lt, jb_some, e1, jb_some, e2, jb_some, py, jb_some]
                    · rw [al_t (by omega) (by rw [q13]; rfl), u1, q13]
                      show OT o3 s3 (rd st sp cv (rno y) y.1 13 x.1 (x.1 + rsz x) (fn x.2.1) (rd st sp cv (rno u) u.1 13 x.1 (x.1 + rsz x) (fn x.2.1) L))
                      have cu : rd st sp cv (rno u) u.1 13 x.1 (x.1 + rsz x) (fn x.2.1) L = cbL (opB (rki u)) (al st sp cv u (obL (opB (rki u)) L)) := by
                        by_cases z : rki u = 15
                        · have g := rd_cA (st := st) (sp := sp) (cv := cv) (x := u) (q := 13) (w := x.1) (E := x.1 + rsz x) (n := fn x.2.1) (L := L) (lk_ed htu.1) (by rw [z]; rfl)
                          rw [tb_0 (by omega), tk0] at g
                          rw [g, z]
                          rfl
                        · have eb : brT 13 (rki u) u.1 x.1 (fn x.2.1) = opB (rki u) := by
                            unfold brT
                            rw [if_neg z, if_neg (by omega), if_pos (by decide), if_pos up]
                          have g := rd_cB (st := st) (sp := sp) (cv := cv) (x := u) (q := 13) (w := x.1) (E := x.1 + rsz x) (n := fn x.2.1) (L := L) (lk_ed htu.1) ⟨by omega, z⟩
                          rw [tb_0 (by omega), tk0, eb] at g
                          exact g
                      rw [cu]
                      have cy : rd st sp cv (rno y) y.1 13 x.1 (x.1 + rsz x) (fn x.2.1) (cbL (opB (rki u)) (al st sp cv u (obL (opB (rki u)) L))) = al st sp cv y (tkL 20 (cbL (opB (rki u)) (al st sp cv u (obL (opB (rki u)) L)))) := by
                        have eb : brT 13 (rki y) y.1 x.1 (fn x.2.1) = brT 99 (rki y) y.1 0 0 := by
                          unfold brT
                          by_cases z : rki y = 15
                          · rw [if_pos z, if_pos z]
                          · rw [if_neg z, if_neg z, if_neg (show ¬ rki y = 8 by omega), if_neg (show ¬ rki y = 8 by omega), if_pos (show (13 : Nat) = 13 ∨ (13 : Nat) = 14 by decide), if_neg (show ¬ y.1 = x.1 + 1 by omega), if_neg (show ¬ (13 : Nat) = 14 by decide), if_neg (show ¬ ((99 : Nat) = 13 ∨ (99 : Nat) = 14) by decide)]
                        have g := rd_cA (st := st) (sp := sp) (cv := cv) (x := y) (q := 13) (w := x.1) (E := x.1 + rsz x) (n := fn x.2.1) (L := cbL (opB (rki u)) (al st sp cv u (obL (opB (rki u)) L))) (lk_ed hty.1) eb
                        rw [tb_v (by decide) (by omega) (by omega)] at g
                        exact g
                      rw [cy]
                      exact f3
                  · by_cases q14 : rki x = 14
                    · obtain ⟨o1, s1, e1, f1⟩ := m_app hR hT hS hx q14 hd hb h
                      refine ⟨o1, s1, ?_, f1⟩
                      refine (jl_step ?_).trans m_stop
                      show Mo_showS_b2_s T mk mv ms mc mle mst (nI t) out size (nI x.1) = _
                      unfold Mo_showS_b2_s Mo_showS_b625
                      rw [if_neg (nI_m1 (by omega)), if_neg hsz, kat hR hx, jb_some, if_neg (nk_0 (x := x) (by omega)), if_neg (nk_5 (x := x) (by omega)), if_pos (show (8 : Int32) ≤ nI (rki x) from nI_le (a := 8) (by omega) (by omega)), if_neg (nk_8 (x := x) (by omega)), if_neg (nk_9 (x := x) (by omega)), if_neg (nk_16 (x := x) (by omega)), if_neg (nk_10 (x := x) (by omega)), if_neg (nk_11 (x := x) (by omega)), if_neg (nk_12 (x := x) (by omega)), if_neg (nk_13 (x := x) (by omega)), if_pos (show nI (rki x) = 14 by rw [q14]; rfl), e1, jb_some]
                    · by_cases q15 : rki x = 15
                      · -- a typed term
                        obtain ⟨ka, kb, n1, n2, n3⟩ := hns.2.2.2.2.2.2.2.2.2.2.2.1 (by omega)
                        obtain ⟨u, m1, u1, u2, u3⟩ := mp_cons (show (rpt x).map rki = ka :: [kb] by rw [rpt_k, n1])
                        obtain ⟨y, y1, y2⟩ := mp_one u3
                        subst y1
                        have huk : tmK (rki u) := by rw [u2]; exact n2
                        have hyk : tmK (rki y) := by rw [y2]; exact n3
                        have htu := tm_lk huk
                        have hty := tm_lk hyk
                        have hum : u ∈ rpt x := by rw [u1]; simp
                        have hym : y ∈ rpt x := by rw [u1]; simp
                        have huT := TF_p hx u hum
                        have hyT := TF_p hx y hym
                        have hdd := nd_O (x := x) (by omega) (by omega) hx hd
                        have up := pos_first u1
                        have pm' : x.1 + 1 + 1 ≤ y.1 := (pos_mid (l := [u]) (y := y) (m := []) u1).1
                        obtain ⟨o1, s1, e1, f1⟩ := o_put (c := 40) h (by decide)
                        obtain ⟨o2, s2, e2, f2⟩ := hS u _ o1 s1 huT (hdd u hum) (by omega) bl_40 f1
                        obtain ⟨o3, s3, e3, f3⟩ := o_text (k := 38) (by decide) f2
                        rw [x38] at f3
                        obtain ⟨o4, s4, e4, f4⟩ := hS y _ o3 s3 hyT (hdd y hym) (by omega) bl_32 f3
                        rw [al_c hyT (by omega) (by decide)] at f4
                        obtain ⟨o5, s5, e5, f5⟩ := o_put (c := 41) f4 (by decide)
                        have py : f_Mo_part ms mc (nI t) (nI x.1) 1 = some (nI y.1) := m_ptM (l := [u]) (y := y) (m := []) hR hx u1
                        refine ⟨o5, s5, ?_, ?_⟩
                        · refine (jl_step ?_).trans m_stop
                          show Mo_showS_b2_s T mk mv ms mc mle mst (nI t) out size (nI x.1) = _
                          unfold Mo_showS_b2_s Mo_showS_b625
                          rw [if_neg (nI_m1 (by omega)), if_neg hsz, kat hR hx, jb_some, if_neg (nk_0 (x := x) (by omega)), if_neg (nk_5 (x := x) (by omega)), if_pos (show (8 : Int32) ≤ nI (rki x) from nI_le (a := 8) (by omega) (by omega)), if_neg (nk_8 (x := x) (by omega)), if_neg (nk_9 (x := x) (by omega)), if_neg (nk_16 (x := x) (by omega)), if_neg (nk_10 (x := x) (by omega)), if_neg (nk_11 (x := x) (by omega)), if_neg (nk_12 (x := x) (by omega)), if_neg (nk_13 (x := x) (by omega)), if_neg (nk_14 (x := x) (by omega)), if_pos (show nI (rki x) = 15 by rw [q15]; rfl), show f_Mo_put out size 40 = _ from e1, jb_some, nI_1, ← up, e2, jb_some, e3, jb_some, py, jb_some, e4, jb_some, show f_Mo_put o4 s4 41 = _ from e5, jb_some]
                        · have e : al st sp cv x L = 41 :: rdl st sp cv 15 x.1 (x.1 + rsz x) (fn x.2.1) (rpt x) (40 :: L) := by
                            rw [al_u, q15]
                            show tkL 16 (rdl st sp cv 15 x.1 (x.1 + rsz x) (fn x.2.1) (rpt x) (tkL 15 L)) = _
                            rw [k16, k15, hb]
                          rw [e, u1]
                          show OT o5 s5 (41 :: rd st sp cv (rno y) y.1 15 x.1 (x.1 + rsz x) (fn x.2.1) (rd st sp cv (rno u) u.1 15 x.1 (x.1 + rsz x) (fn x.2.1) (40 :: L)))
                          rw [c_A (x := u) htu.1 (by decide) (by omega), tb_0 (by omega), tk0, c_A (x := y) hty.1 (by decide) (by omega), tb_v (by decide) (by omega) (by omega)]
                          show OT o5 s5 (41 :: al st sp cv y (tkL 17 (al st sp cv u (40 :: L))))
                          rw [k17]
                          exact f5
                      · by_cases q17 : rki x = 17
                        · -- a sort
                          obtain ⟨v, v1, v2⟩ := hx.2.1.2.1 q17
                          obtain ⟨l0, _⟩ := leaf_0 hx (by omega)
                          have ht2 := hR.1
                          have ev : mv (9000 * t + x.1) = nI v := by rw [(hR.2.2.2 x.1 (by omega)).2.2, v2]
                          have eal : al st sp cv x L = sdL v (pT (if v = 0 then 23 else 24) L) := by
                            rw [al_t (by omega) (by rw [q17]; rfl), l0]
                            show wdL st sp cv (rki x) x.1 L = _
                            unfold wdL stL
                            rw [if_neg (by omega), if_pos q17, v2, nI_clamp (by omega), hb]
                          have ed : ∀ w, w < 100 → (48 : Int32) + nI w / 10 = nI (48 + w / 10) ∧ (48 : Int32) + (nI w - nI w / 10 * 10) = nI (48 + w % 10) := by decide +kernel
                          rw [eal]
                          by_cases z : v = 0
                          · obtain ⟨o1, s1, e1, f1⟩ := o_text (k := 36) (by decide) h
                            refine ⟨o1, s1, ?_, ?_⟩
                            · refine (jl_step ?_).trans m_stop
                              show Mo_showS_b2_s T mk mv ms mc mle mst (nI t) out size (nI x.1) = _
                              unfold Mo_showS_b2_s Mo_showS_b625
                              rw [if_neg (nI_m1 (by omega)), if_neg hsz, kat hR hx, jb_some, if_neg (nk_0 (x := x) (by omega)), if_neg (nk_5 (x := x) (by omega)), if_pos (show (8 : Int32) ≤ nI (rki x) from nI_le (a := 8) (by omega) (by omega)), if_neg (nk_8 (x := x) (by omega)), if_neg (nk_9 (x := x) (by omega)), if_neg (nk_16 (x := x) (by omega)), if_neg (nk_10 (x := x) (by omega)), if_neg (nk_11 (x := x) (by omega)), if_neg (nk_12 (x := x) (by omega)), if_neg (nk_13 (x := x) (by omega)), if_neg (nk_14 (x := x) (by omega)), if_neg (nk_15 (x := x) (by omega)), if_pos (show nI (rki x) = 17 by rw [q17]; rfl), off9, if_neg (nI_in (show 9000 * t + x.1 < 18000 by omega) (by decide)), nI_clamp (by omega), ev, z, if_pos (show nI 0 = 0 from rfl)]
                              unfold Mo_showS_b543 Mo_showS_b567 Mo_showS_b586 Mo_showS_b625
                              rw [e1, jb_some, if_pos (show nI 0 ≤ 10 by decide), if_pos (show nI 0 ≤ 0 by decide)]
                            · rw [z]
                              have e9 : pT 36 L = pT 23 L := (pT_x 36 (by decide)).trans (pT_x 23 (by decide)).symm
                              rw [e9] at f1
                              exact f1
                          · obtain ⟨o1, s1, e1, f1⟩ := o_text (k := 37) (by decide) h
                            have e9 : pT 37 L = pT 24 L := (pT_x 37 (by decide)).trans (pT_x 24 (by decide)).symm
                            rw [e9] at f1
                            obtain ⟨d1, d2⟩ := ed (v - 1) (by omega)
                            have em : nI v - 1 = nI (v - 1) := by have := nI_pred (v - 1); rw [show v - 1 + 1 = v by omega] at this; exact this
                            unfold sdL
                            rw [if_neg z, if_neg z]
                            have b567 : ∀ (o : Nat → Int32) (s : Int32) (M : List Nat), OT o s M → ∃ o' s', Mo_showS_b567 T mk mv ms mc mle mst o s (nI t) (-1) (nI v) = some (.inl (o', s', -1)) ∧ OT o' s' ((48 + (v - 1) % 10) :: M) := by
                              intro o s M hM
                              obtain ⟨o', s', e', f'⟩ := o_put (c := 48 + (v - 1) % 10) hM (by omega)
                              refine ⟨o', s', ?_, f'⟩
                              unfold Mo_showS_b567 Mo_showS_b586 Mo_showS_b625
                              rw [if_neg (nI_nle (by omega) (by omega)), em, d2, e', jb_some]
                            have b543 : ∃ o' s', Mo_showS_b543 T mk mv ms mc mle mst out size (nI t) (-1) (nI v) 37 = some (.inl (o', s', -1)) ∧ OT o' s' ((48 + (v - 1) % 10) :: (if 10 < v then (48 + (v - 1) / 10) :: pT 24 L else pT 24 L)) := by
                              unfold Mo_showS_b543
                              rw [e1, jb_some]
                              by_cases w : 10 < v
                              · obtain ⟨o2, s2, e2, f2⟩ := o_put (c := 48 + (v - 1) / 10) f1 (by omega)
                                rw [if_neg (show ¬ nI v ≤ 10 from nI_ge (b := v) (a := 10) w (by omega)), if_pos w, em, d1, e2, jb_some]
                                exact b567 o2 s2 _ f2
                              · rw [if_pos (show nI v ≤ 10 from nI_le (a := v) (b := 10) (by omega) (by omega)), if_neg w]
                                exact b567 o1 s1 _ f1
                            obtain ⟨o2, s2, e2, f2⟩ := b543
                            refine ⟨o2, s2, ?_, f2⟩
                            refine (jl_step ?_).trans m_stop
                            show Mo_showS_b2_s T mk mv ms mc mle mst (nI t) out size (nI x.1) = _
                            unfold Mo_showS_b2_s Mo_showS_b625
                            rw [if_neg (nI_m1 (by omega)), if_neg hsz, kat hR hx, jb_some, if_neg (nk_0 (x := x) (by omega)), if_neg (nk_5 (x := x) (by omega)), if_pos (show (8 : Int32) ≤ nI (rki x) from nI_le (a := 8) (by omega) (by omega)), if_neg (nk_8 (x := x) (by omega)), if_neg (nk_9 (x := x) (by omega)), if_neg (nk_16 (x := x) (by omega)), if_neg (nk_10 (x := x) (by omega)), if_neg (nk_11 (x := x) (by omega)), if_neg (nk_12 (x := x) (by omega)), if_neg (nk_13 (x := x) (by omega)), if_neg (nk_14 (x := x) (by omega)), if_neg (nk_15 (x := x) (by omega)), if_pos (show nI (rki x) = 17 by rw [q17]; rfl), off9, if_neg (nI_in (show 9000 * t + x.1 < 18000 by omega) (by decide)), nI_clamp (by omega), ev, if_neg (show ¬ nI v = 0 from fun w => z ((nI_eq (b := 0) (by omega) (by omega)).mp w)), e2]
                        · by_cases q18 : rki x = 18
                          · -- rec
                            have n1 := hns.2.2.2.2.2.2.2.2.2.2.2.2.1 q18
                            obtain ⟨u, m1, u1, u2, u3⟩ := mp_cons (show (rpt x).map rki = 16 :: [17] by rw [rpt_k, n1])
                            obtain ⟨y, y1, y2⟩ := mp_one u3
                            subst y1
                            have hum : u ∈ rpt x := by rw [u1]; simp
                            have hym : y ∈ rpt x := by rw [u1]; simp
                            have huT := TF_p hx u hum
                            have hyT := TF_p hx y hym
                            have hdd := nd_O (x := x) (by omega) (by omega) hx hd
                            have up := pos_first u1
                            have us := sz_9 huT (by omega)
                            have chx := rpt_ch (x := x)
                            rw [u1] at chx
                            have yp : y.1 = x.1 + 1 + rsz u := chx.2.1
                            have lku : lkB (rki u) := by unfold lkB; omega
                            have lky : lkB (rki y) := by unfold lkB; omega
                            obtain ⟨w2, w3⟩ := word_b (L := L) (k := 14) (j := 12) (i := 48) hb (by decide) (by decide) (by decide) (by decide) rfl (by decide) rfl
                            obtain ⟨o1, s1, e1, f1⟩ := o_text (k := 48) (by decide) h
                            rw [w2] at f1
                            obtain ⟨o2, s2, e2, f2⟩ := hS u _ o1 s1 huT (hdd u hum) (by omega) bl_32 f1
                            rw [al_32 huT (by omega) w3] at f2
                            obtain ⟨o3, s3, e3, f3⟩ := o_put (c := 32) f2 (by decide)
                            obtain ⟨o4, s4, e4, f4⟩ := hS y _ o3 s3 hyT (hdd y hym) (by omega) bl_32 f3
                            rw [al_32 hyT (by omega) (al_ge hT huT lku)] at f4
                            have ey : nI x.1 + 2 = nI y.1 := by rw [yp, us]; exact nI_add x.1 2
                            refine ⟨o4, s4, ?_, ?_⟩
                            · refine (jl_step ?_).trans m_stop
                              show Mo_showS_b2_s T mk mv ms mc mle mst (nI t) out size (nI x.1) = _
                              unfold Mo_showS_b2_s Mo_showS_b625
                              rw [if_neg (nI_m1 (by omega)), if_neg hsz, kat hR hx, jb_some, if_neg (nk_0 (x := x) (by omega)), if_neg (nk_5 (x := x) (by omega)), if_pos (show (8 : Int32) ≤ nI (rki x) from nI_le (a := 8) (by omega) (by omega)), if_neg (nk_8 (x := x) (by omega)), if_neg (nk_9 (x := x) (by omega)), if_neg (nk_16 (x := x) (by omega)), if_neg (nk_10 (x := x) (by omega)), if_neg (nk_11 (x := x) (by omega)), if_neg (nk_12 (x := x) (by omega)), if_neg (nk_13 (x := x) (by omega)), if_neg (nk_14 (x := x) (by omega)), if_neg (nk_15 (x := x) (by omega)), if_neg (nk_17 (x := x) (by omega)), if_pos (show nI (rki x) = 18 by rw [q18]; rfl), e1, jb_some, nI_1, ← up, e2, jb_some, show f_Mo_put o2 s2 32 = _ from e3, jb_some, ey, e4, jb_some]
                            · rw [al_t (by omega) (by rw [q18]; rfl), u1, q18]
                              show OT o4 s4 (rd st sp cv (rno y) y.1 18 x.1 (x.1 + rsz x) (fn x.2.1) (rd st sp cv (rno u) u.1 18 x.1 (x.1 + rsz x) (fn x.2.1) (tkL 14 L)))
                              rw [c_A (x := u) lku (by decide) (by omega), tb_0 (by omega), tk0, c_A (x := y) lky (by decide) (by omega), tb_v (by decide) (by omega) (by omega)]
                              exact f4
                          · -- nothing
                            have q19 : rki x = 19 := by omega
                            refine ⟨out, size, ?_, ?_⟩
                            · refine (jl_step ?_).trans m_stop
                              show Mo_showS_b2_s T mk mv ms mc mle mst (nI t) out size (nI x.1) = _
                              unfold Mo_showS_b2_s Mo_showS_b625
                              rw [if_neg (nI_m1 (by omega)), if_neg hsz, kat hR hx, jb_some, if_neg (nk_0 (x := x) (by omega)), if_neg (nk_5 (x := x) (by omega)), if_pos (show (8 : Int32) ≤ nI (rki x) from nI_le (a := 8) (by omega) (by omega)), if_neg (nk_8 (x := x) (by omega)), if_neg (nk_9 (x := x) (by omega)), if_neg (nk_16 (x := x) (by omega)), if_neg (nk_10 (x := x) (by omega)), if_neg (nk_11 (x := x) (by omega)), if_neg (nk_12 (x := x) (by omega)), if_neg (nk_13 (x := x) (by omega)), if_neg (nk_14 (x := x) (by omega)), if_neg (nk_15 (x := x) (by omega)), if_neg (nk_17 (x := x) (by omega)), if_neg (nk_18 (x := x) (by omega))]
                            · have e : al st sp cv x L = L := c_19 hx q19
                              rw [e]
                              exact h
theorem m_sh (hR : HR mk mv ms mc ck cs cv t nt) (hT : TB nc st sp) (hN : RNr mle mst nc st sp) : ∀ D, SH mk mv ms mc mle mst ck cs cv st sp nc nt t (f_Mo_show D) D := by
  intro D
  induction D with
  | zero =>
    intro x L out size hx hd
    exfalso
    have : 1 ≤ nd (rno x) := by
      show 1 ≤ max 0 (if rki x = 5 ∨ rki x = 10 ∨ rki x = 11 ∨ rki x = 12 ∨ rki x = 13 then max (1 + (ndp x.2.1).1) (ndp x.2.1).2 else if rki x = 14 ∧ (rk x.2.1).head? = some 14 then max (ndp x.2.1).1 (1 + (ndp x.2.1).2) else 1 + max (ndp x.2.1).1 (ndp x.2.1).2)
      split
      · omega
      · split <;> omega
    omega
  | succ D ih =>
    intro x L out size hx hd hk hb h
    exact m_shL hR hT hN ih (rsz x) x L out size (Nat.le_refl _) hx hd hk hb h
end SA
