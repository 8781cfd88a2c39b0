-- groups, applications
theorem mp_cons {α β : Type} {f : α → β} {l : List α} {a : β} {m : List β} (h : l.map f = a :: m) : ∃ y l', l = y :: l' ∧ f y = a ∧ l'.map f = m := by
  cases l with
  | nil => cases h
  | cons y l' => exact ⟨y, l', rfl, (List.cons.inj h).1, (List.cons.inj h).2⟩
theorem mp_app {α β : Type} {f : α → β} : ∀ (m n : List β) (l : List α), l.map f = m ++ n → ∃ l1 l2, l = l1 ++ l2 ∧ l1.map f = m ∧ l2.map f = n := by
  intro m
  induction m with
  | nil => intro n l h; exact ⟨[], l, rfl, rfl, h⟩
  | cons a m ih =>
    intro n l h
    obtain ⟨y, l', h1, h2, h3⟩ := mp_cons (show l.map f = a :: (m ++ n) from h)
    obtain ⟨l1, l2, g1, g2, g3⟩ := ih n l' h3
    exact ⟨y :: l1, l2, by rw [h1, g1]; rfl, by show f y :: l1.map f = _; rw [h2, g2], g3⟩
theorem mp_nil {α β : Type} {f : α → β} {l : List α} (h : l.map f = []) : l = [] := by
  cases l with
  | nil => rfl
  | cons y l' => cases h
theorem mp_one {α β : Type} {f : α → β} {l : List α} {a : β} (h : l.map f = [a]) : ∃ y, l = [y] ∧ f y = a := by
  obtain ⟨y, l', h1, h2, h3⟩ := mp_cons h
  have := mp_nil h3
  subst this
  exact ⟨y, h1, h2⟩
theorem mp_all {α β : Type} {f : α → β} {l : List α} {m : List β} {P : β → Prop} (h : l.map f = m) (hp : ∀ k, k ∈ m → P k) : ∀ z, z ∈ l → P (f z) := fun z hz => hp _ (by rw [← h]; exact List.mem_map_of_mem hz)
theorem op_ok' : ∀ k, k < 32 → f_Mo_isOpen (nI k) = some (if opB k = true then 1 else 0) := by decide +kernel
section SG
variable {mk mv ms mc mle mst ck cs cv : Nat → Int32} {st sp : Nat → Nat} {nc nt t D : Nat} {T : TSh} {x y z : Nat × Fo × Nat} {out : Nat → Int32} {size : Int32} {L : List Nat}
theorem tb_v {q k p w e E : Nat} (hq : q ≠ 99) (hk : k ≠ 9 ∧ k ≠ 8 ∧ k ≠ 19) (hp : p ≠ w + 1) : tbT q k p w e E = tbQ q k (decide (e = E)) (decide (p = w + 2)) := if_neg (by omega)
theorem tb_0 {q k p w e E : Nat} (h : k = 9 ∨ k = 8 ∨ k = 19 ∨ p = w + 1) : tbT q k p w e E = 0 := if_pos (by omega)
theorem rsz1 : 1 ≤ rsz x := by show 1 ≤ fs x.2.1 + 1; omega
theorem kat (hR : HR mk mv ms mc ck cs cv t nt) (h : TF ck cs cv nc nt (rno x) x.1) : f_Mo_kindAt mk (nI t) (nI x.1) = some (nI (rki x)) := by
  obtain ⟨k1, k2, k3, k4⟩ := TF_k h
  have := rsz1 (x := x)
  rw [m_kat hR (show x.1 < nt by omega), k1]
theorem m_grp (hR : HR mk mv ms mc ck cs cv t nt) (hT : TB nc st sp) (hS : SH mk mv ms mc mle mst ck cs cv st sp nc nt t T D) (hx : TF ck cs cv nc nt (rno x) x.1) (hk : rki x = 8) (hd : ∀ y, y ∈ rpt x → nd (rno y) ≤ D) (hb : bl L = L) (h : OT out size L) : ∃ out' size', f_Mo_sayGroup T mk mv ms mc mle mst out size (nI t) (nI x.1) = some (out', size') ∧ OT out' size' (rdl st sp cv 8 x.1 (x.1 + rsz x) (fn x.2.1) (rpt x) L) := by
  have go : ∀ (b pre : List (Nat × Fo × Nat)) (y : Nat × Fo × Nat) (L : List Nat) (out : Nat → Int32) (size : Int32), rpt x = pre ++ (b ++ [y]) → (∀ z, z ∈ b → rki z = 9) → tmK (rki y) → (pre = [] → b ≠ []) → (pre = [] → bl L = L) → (pre ≠ [] → GE L) → OT out size L → ∃ out' size', jl (Mo_sayGroup_b2_b T mk mv ms mc mle mst (nI t) (nI x.1)) (out, size, nI pre.length) = some (out', size') ∧ OT out' size' (rdl st sp cv 8 x.1 (x.1 + rsz x) (fn x.2.1) (b ++ [y]) L) := by
    intro b
    induction b with
    | nil =>
      intro pre y L out size e hb9 hy hpre h1 h2 h
      have e' : rpt x = pre ++ y :: [] := e
      have hyT := TF_p hx y (by rw [e']; exact List.mem_append_right _ (List.mem_cons.mpr (Or.inl rfl)))
      have hyd := hd y (by rw [e']; exact List.mem_append_right _ (List.mem_cons.mpr (Or.inl rfl)))
      have hp := m_ptM hR hx e'
      have ht := tm_lk hy
      have pne : pre ≠ [] := fun z => hpre z rfl
      have plen : 1 ≤ pre.length := lpos pne
      have pm := (pos_mid e').1
      obtain ⟨o1, s1, e1, f1⟩ := o_text (k := 38) (by decide) h
      rw [x38] at f1
      obtain ⟨o2, s2, e2, f2⟩ := hS y _ o1 s1 hyT hyd (by omega) bl_32 f1
      rw [al_c hyT ⟨by omega, by omega⟩ (by decide)] at f2
      refine ⟨o2, s2, ?_, ?_⟩
      · apply jl_done
        show Mo_sayGroup_b2_s T mk mv ms mc mle mst (nI t) (nI x.1) out size (nI pre.length) = _
        unfold Mo_sayGroup_b2_s
        rw [hp, jb_some, kat hR hyT, jb_some, if_neg (nk_9 (by omega)), e1, jb_some, jb_some, e2, jb_some]
      · show OT o2 s2 (rd st sp cv (rno y) y.1 8 x.1 (x.1 + rsz x) (fn x.2.1) L)
        rw [c_A ht.1 (by decide) (by omega), tb_v (by decide) (by omega) (by omega)]
        show OT o2 s2 (al st sp cv y (tkL 17 L))
        rw [k17]
        exact f2
    | cons z b ih =>
      intro pre y L out size e hb9 hy hpre h1 h2 h
      have e' : rpt x = pre ++ z :: (b ++ [y]) := e
      have hzT := TF_p hx z (by rw [e']; exact List.mem_append_right _ (List.mem_cons.mpr (Or.inl rfl)))
      have hzd := hd z (by rw [e']; exact List.mem_append_right _ (List.mem_cons.mpr (Or.inl rfl)))
      have hz9 := hb9 z (List.mem_cons.mpr (Or.inl rfl))
      have hp := m_ptM hR hx e'
      have lk9 : lkB (rki z) := by unfold lkB; omega
      have ex : ∃ o1 s1, Mo_sayGroup_b2_b T mk mv ms mc mle mst (nI t) (nI x.1) (out, size, nI pre.length) = some (.inl (o1, s1, nI (pre.length + 1))) ∧ OT o1 s1 (al st sp cv z L) := by
        by_cases q : pre = []
        · obtain ⟨o1, s1, e1, f1⟩ := hS z _ out size hzT hzd (by omega) (h1 q) h
          refine ⟨o1, s1, ?_, f1⟩
          show Mo_sayGroup_b2_s T mk mv ms mc mle mst (nI t) (nI x.1) out size (nI pre.length) = _
          unfold Mo_sayGroup_b2_s Mo_sayGroup_b29
          rw [hp, jb_some, kat hR hzT, jb_some, if_pos (show nI (rki z) = 9 by rw [hz9]; rfl), if_pos (by rw [q]; decide), jb_some, e1, jb_some, nI_1]
        · obtain ⟨o1, s1, e1, f1⟩ := o_put (c := 32) h (by decide)
          obtain ⟨o2, s2, e2, f2⟩ := hS z _ o1 s1 hzT hzd (by omega) bl_32 f1
          rw [al_32 hzT (by omega) (h2 q)] at f2
          have plen : 1 ≤ pre.length := lpos q
          refine ⟨o2, s2, ?_, f2⟩
          show Mo_sayGroup_b2_s T mk mv ms mc mle mst (nI t) (nI x.1) out size (nI pre.length) = _
          unfold Mo_sayGroup_b2_s Mo_sayGroup_b29
          have pl : pre.length < 10000 := by
            have h1 := rpt_n (x := x)
            have h2 := fn_fs x.2.1
            have h3 : rsz x = fs x.2.1 + 1 := rfl
            have h4 := hR.2.1
            have h5 := (TF_k hx).2.2.1
            rw [e', List.length_append, List.length_cons] at h1
            omega
          rw [hp, jb_some, kat hR hzT, jb_some, if_pos (show nI (rki z) = 9 by rw [hz9]; rfl), if_neg (nI_nle (by omega) (by omega)), show f_Mo_put out size 32 = _ from e1, jb_some, jb_some, e2, jb_some, nI_1]
      obtain ⟨o1, s1, e1, f1⟩ := ex
      obtain ⟨o2, s2, e2, f2⟩ := ih (pre ++ [z]) y (al st sp cv z L) o1 s1 (by rw [e', List.append_assoc]; rfl) (fun u hu => hb9 u (List.mem_cons.mpr (Or.inr hu))) hy (fun q => absurd q (by simp)) (fun q => absurd q (by simp)) (fun _ => al_ge hT hzT lk9) f1
      refine ⟨o2, s2, ?_, ?_⟩
      · rw [jl_step e1]
        rw [List.length_append] at e2
        exact e2
      · show OT o2 s2 (rdl st sp cv 8 x.1 (x.1 + rsz x) (fn x.2.1) (b ++ [y]) (rd st sp cv (rno z) z.1 8 x.1 (x.1 + rsz x) (fn x.2.1) L))
        rw [c_A lk9 (by decide) (by omega), tb_0 (by omega), tk0]
        exact f2
  obtain ⟨g, k, n1, n2, n3⟩ := (TF_k hx).2.2.2.2.2.2.2.2.2.2.2.1 hk
  have mm : (rpt x).map rki = (9 :: g) ++ [k] := by rw [rpt_k, n1]; rfl
  obtain ⟨b, m, b1, b2, b3⟩ := mp_app _ _ _ mm
  obtain ⟨y, y1, y2⟩ := mp_one b3
  subst y1
  have hb9 : ∀ z, z ∈ b → rki z = 9 := mp_all b2 (fun k hk => by
    rcases List.mem_cons.mp hk with a | a
    · exact a
    · exact n2 k a)
  have hbn : b ≠ [] := fun z => by rw [z] at b2; cases b2
  obtain ⟨o, s, e1, f1⟩ := go b [] y L out size b1 hb9 (by rw [y2]; exact n3) (fun _ => hbn) (fun _ => hb) (fun q => absurd rfl q) h
  refine ⟨o, s, e1, ?_⟩
  rw [b1]
  exact f1
/-- a group that stands alone behind fun or all -/
theorem c_8b {q w E n : Nat} (hk : rki x = 8) (hq : q = 10 ∨ q = 11) (hn : n ≤ 2) : rd st sp cv (rno x) x.1 q w E n L = rdl st sp cv 8 x.1 (x.1 + rsz x) (fn x.2.1) (rpt x) L := by
  obtain ⟨a, Y, c⟩ := x
  have hk' : c % 32 = 8 := hk
  show lvL q (c % 32) a w n (rd st sp cv Y (a + 1) (c % 32) a (a + (fs Y + 1)) (fn Y) (enL st sp cv q (c % 32) a w (a + (fs Y + 1)) E n L)) = rdl st sp cv 8 a (a + (fs Y + 1)) (fn Y) (rs Y (a + 1)) L
  have br0 : brT q 8 a w n = false := by
    unfold brT
    rw [if_neg (by decide), if_pos rfl, if_neg (by omega), if_pos hq]
    exact decide_eq_false (by omega)
  have tb0 : tbT q 8 a w (a + (fs Y + 1)) E = 0 := if_pos (by omega)
  rw [rd_rs, hk']
  unfold lvL enL
  rw [br0, tb0, tk0, if_neg (by decide)]
  rfl
theorem m_cnt (hR : HR mk mv ms mc ck cs cv t nt) (hx : TF ck cs cv nc nt (rno x) x.1) : f_Mo_parts ms mc (nI t) (nI x.1) = some (nI (rpt x).length) := by
  have h8 := (TF_k hx).2.2.1
  have hl : (rpt x).length < 9000 := by
    have h1 := rpt_n (x := x)
    have h2 := fn_fs x.2.1
    have h3 : rsz x = fs x.2.1 + 1 := rfl
    have h4 := hR.2.1
    omega
  unfold f_Mo_parts Mo_parts_b2
  obtain ⟨r, hr, rfl⟩ := jl_for (body := Mo_parts_b2_b ms mc (nI t) (nI x.1)) (fun j s => s = nI j) (fun r => r = nI (rpt x).length) (rpt x).length (by
    intro j s hj hI
    subst hI
    left
    refine ⟨nI (j + 1), ?_, rfl⟩
    show Mo_parts_b2_s ms mc (nI t) (nI x.1) (nI j) = _
    unfold Mo_parts_b2_s
    have g := m_ptL hR hx (i := j) (by omega)
    rw [List.getElem?_eq_getElem hj] at g
    have hm : (rpt x)[j] ∈ rpt x := List.getElem_mem hj
    have hy := (TF_k (TF_p hx _ hm)).2.2.1
    have h4 := hR.2.1
    rw [g, jb_some, if_neg (show ¬ ptv (some (rpt x)[j]) = -1 from nI_m1 (by omega)), nI_1]) (by
    intro s hI
    subst hI
    refine ⟨_, ?_, rfl⟩
    show Mo_parts_b2_s ms mc (nI t) (nI x.1) (nI (rpt x).length) = _
    unfold Mo_parts_b2_s
    rw [m_ptE hR hx, jb_some, if_pos rfl]) 0 (nI 0) (Nat.zero_le _) rfl
  exact hr
/-- what is applied, with what it is applied to -/
theorem m_app (hR : HR mk mv ms mc ck cs cv t nt) (hT : TB nc st sp) (hS : SH mk mv ms mc mle mst ck cs cv st sp nc nt t T D) (hx : TF ck cs cv nc nt (rno x) x.1) (hk : rki x = 14) (hd : nd (rno x) ≤ D + 1) (hb : bl L = L) (h : OT out size L) : ∃ out' size', f_Mo_sayApplied T mk mv ms mc mle mst out size (nI t) (nI x.1) = some (out', size') ∧ OT out' size' (al st sp cv x L) := by
  have h4 := hR.2.1
  have key : ∀ (N j : Nat) (z : Nat × Fo × Nat), rsz z ≤ N → z.1 = x.1 + j → TF ck cs cv nc nt (rno z) z.1 → tmK (rki z) → (rki z = 14 → nd (rno z) ≤ D + 1) → (rki z ≠ 14 → nd (rno z) ≤ D) → ∃ o s, jl (Mo_sayApplied_b5_b T mk mv ms mc mle mst out size (nI t) (nI x.1)) (nI z.1, nI j) = jl (Mo_sayApplied_b46_b T mk mv ms mc mle mst (nI t) (nI x.1)) (o, s, nI j - 1) ∧ OT o s (cbL (opB (rki z)) (al st sp cv z (obL (opB (rki z)) L))) := by
    intro N
    induction N with
    | zero => intro j z hN; have := rsz1 (x := z); omega
    | succ N ih =>
      intro j z hN hz hzT hzk hd1 hd2
      have hzb := (TF_k hzT).2.2.1
      have hz1 := rsz1 (x := z)
      by_cases q : rki z = 14
      · -- a part that is an application itself
        obtain ⟨k1, k2, n1, n2, n3⟩ := (TF_k hzT).2.2.2.2.2.2.2.2.2.2.2.2.2.2.1 (Or.inr (Or.inl q))
        have mm : (rpt z).map rki = [k1, k2] := by rw [rpt_k, n1]
        obtain ⟨u, l1, u1, u2, u3⟩ := mp_cons mm
        obtain ⟨v, v1, v2⟩ := mp_one u3
        subst v1
        have huT := TF_p hzT u (by rw [u1]; exact List.mem_cons.mpr (Or.inl rfl))
        have hvT := TF_p hzT v (by rw [u1]; exact List.mem_cons.mpr (Or.inr (List.mem_cons.mpr (Or.inl rfl))))
        have hus := rpt_sz (x := z) u (by rw [u1]; exact List.mem_cons.mpr (Or.inl rfl))
        have up := pos_first u1
        have vp := (pos_mid (x := z) (l := [u]) (y := v) (m := []) u1).1
        have hds : (rki u = 14 → nd (rno u) ≤ D + 1) ∧ (rki u ≠ 14 → nd (rno u) ≤ D) ∧ nd (rno v) ≤ D := by
          have hn := nd_rs z.2.1 (z.1 + 1)
          have e9 : rs z.2.1 (z.1 + 1) = [u, v] := u1
          rw [e9] at hn
          have hu := hn.1 u (List.mem_cons.mpr (Or.inl rfl))
          have hv := hn.2 v rfl
          have hdz : max 0 (if rki z = 5 ∨ rki z = 10 ∨ rki z = 11 ∨ rki z = 12 ∨ rki z = 13 then max (1 + (ndp z.2.1).1) (ndp z.2.1).2 else if rki z = 14 ∧ (rk z.2.1).head? = some 14 then max (ndp z.2.1).1 (1 + (ndp z.2.1).2) else 1 + max (ndp z.2.1).1 (ndp z.2.1).2) ≤ D + 1 := hd1 q
          rw [if_neg (by omega), n1] at hdz
          by_cases a : k1 = 14
          · rw [if_pos ⟨q, by rw [a]; rfl⟩] at hdz
            exact ⟨fun _ => by omega, fun b => absurd (u2.trans a) b, by omega⟩
          · rw [if_neg (fun b => a (Option.some.inj b.2))] at hdz
            exact ⟨fun _ => by omega, fun _ => by omega, by omega⟩
        obtain ⟨o1, s1, e1, f1⟩ := ih (j + 1) u (by omega) (by omega) huT (by rw [u2]; exact n2) hds.1 hds.2.1
        have hvk : tmK (rki v) := by rw [v2]; exact n3
        have hv9 := tm_lk hvk
        have hu9 := tm_lk (show tmK (rki u) by rw [u2]; exact n2)
        have geM : GE (cbL (opB (rki u)) (al st sp cv u (obL (opB (rki u)) L))) := by
          cases opB (rki u) with
          | false => exact al_ge hT huT hu9.1
          | true => show GE (tkL 16 _); rw [k16]; exact ge_c (by decide) (by decide) (by decide)
        -- the argument
        obtain ⟨o2, s2, e2, f2⟩ := o_put (c := 32) f1 (by decide)
        obtain ⟨o3, s3, e3, f3⟩ := m_bra (b := opB (rki v) || decide (rki v = 14)) hS hvT hds.2.2 (by omega) bl_32 f2
        refine ⟨o3, s3, ?_, ?_⟩
        · have body : Mo_sayApplied_b5_b T mk mv ms mc mle mst out size (nI t) (nI x.1) (nI z.1, nI j) = some (.inl (nI u.1, nI (j + 1))) := by
            show Mo_sayApplied_b5_s T mk mv ms mc mle mst out size (nI t) (nI x.1) (nI z.1) (nI j) = _
            unfold Mo_sayApplied_b5_s
            rw [kat hR hzT, jb_some, if_pos (show nI (rki z) = 14 by rw [q]; rfl), nI_1, nI_1, up]
          rw [jl_step body, e1]
          have ej : nI (j + 1) - 1 = nI j := nI_pred j
          rw [ej]
          apply jl_step
          show Mo_sayApplied_b46_s T mk mv ms mc mle mst (nI t) (nI x.1) o1 s1 (nI j) = _
          unfold Mo_sayApplied_b46_s
          have ez : nI x.1 + nI j = nI z.1 := by rw [nI_add, hz]
          have hpt : f_Mo_part ms mc (nI t) (nI z.1) 1 = some (nI v.1) := m_ptM (x := z) (l := [u]) (y := v) (m := []) hR hzT u1
          have eo := op_ok' (rki v) rki_lt
          have em : nI j + -1 = nI j - 1 := by rw [Int32.sub_eq_add_neg]
          rw [if_neg (nI_pos (by omega)), ez, hpt, jb_some, show f_Mo_put o1 s1 32 = _ from e2, jb_some, kat hR hvT, jb_some, eo, jb_some]
          unfold Mo_sayApplied_b98 Mo_sayApplied_b103
          cases ho : opB (rki v) with
          | true =>
            rw [ho] at e3
            rw [ifT, if_neg n10, show f_Mo_bracket T mk mv ms mc mle mst o2 s2 (nI t) (nI v.1) 1 = _ from e3, jb_some, em]
          | false =>
            rw [ho, Bool.false_or] at e3
            rw [ifF, if_pos rfl, jb_some]
            by_cases a : rki v = 14
            · rw [decide_eq_true a] at e3
              rw [if_pos (show nI (rki v) = 14 by rw [a]; rfl), show f_Mo_bracket T mk mv ms mc mle mst o2 s2 (nI t) (nI v.1) 1 = _ from e3, jb_some, em]
            · rw [decide_eq_false a] at e3
              rw [if_neg (nk_14 a), show f_Mo_bracket T mk mv ms mc mle mst o2 s2 (nI t) (nI v.1) 0 = _ from e3, jb_some, em]
        · have op14 : opB (rki z) = false := by rw [q]; decide
          rw [op14]
          show OT o3 s3 (al st sp cv z L)
          have ctx : ∀ (w : Nat × Fo × Nat) (b : Bool) (M : List Nat), tmK (rki w) → brT 14 (rki w) w.1 z.1 (fn z.2.1) = (if rki w = 15 then true else b) → (rki w = 15 → b = false) → tbT 14 (rki w) w.1 z.1 (w.1 + rsz w) (z.1 + rsz z) = 0 → rd st sp cv (rno w) w.1 14 z.1 (z.1 + rsz z) (fn z.2.1) M = cbL b (al st sp cv w (obL b M)) := by
            intro w b M hw hb1 hb15 ht0
            have hw9 := tm_lk hw
            by_cases a : rki w = 15
            · rw [hb15 a]
              rw [if_pos a] at hb1
              have g := rd_cA (st := st) (sp := sp) (cv := cv) (x := w) (q := 14) (w := z.1) (E := z.1 + rsz z) (n := fn z.2.1) (L := M) (lk_ed hw9.1) (by rw [hb1, a]; rfl)
              rw [ht0, tk0] at g
              exact g
            · rw [if_neg a] at hb1
              have g := rd_cB (st := st) (sp := sp) (cv := cv) (x := w) (q := 14) (w := z.1) (E := z.1 + rsz z) (n := fn z.2.1) (L := M) (lk_ed hw9.1) ⟨by omega, a⟩
              rw [ht0, tk0, hb1] at g
              exact g
          rw [al_u, lv_99 (by omega) (by rw [q]; decide), en_99 (by omega), u1]
          have ewd : wdL st sp cv (rki z) z.1 L = L := by rw [q]; rfl
          rw [ewd, q]
          show OT o3 s3 (rd st sp cv (rno v) v.1 14 z.1 (z.1 + rsz z) (fn z.2.1) (rd st sp cv (rno u) u.1 14 z.1 (z.1 + rsz z) (fn z.2.1) L))
          have tq : ∀ k l two, tbQ 14 k l two = 0 := fun k l two => by unfold tbQ; simp
          rw [ctx u (opB (rki u)) L (by rw [u2]; exact n2) (by
            unfold brT
            by_cases a : rki u = 15
            · rw [if_pos a, if_pos a]
            · rw [if_neg a, if_neg a, if_neg (by omega), if_pos (by decide), if_pos (by omega)]) (fun a => by rw [a]; decide) (tb_0 (by omega))]
          rw [ctx v (opB (rki v) || decide (rki v = 14)) _ hvk (by
            unfold brT
            by_cases a : rki v = 15
            · rw [if_pos a, if_pos a]
            · rw [if_neg a, if_neg a, if_neg (by omega), if_pos (by decide), if_neg (by have e1 : z.1 + 1 + 1 ≤ v.1 := vp; omega), if_pos rfl]) (fun a => by rw [a]; decide) (by
            have e1 : z.1 + 1 + 1 ≤ v.1 := vp
            rw [tb_v (by decide) (by omega) (by omega), tq])]
          cases hbv : opB (rki v) || decide (rki v = 14) with
          | true =>
            rw [hbv] at f3
            have e5 : ∀ M, obL true M = 40 :: bl M := fun M => by show tkL 15 M = _; exact k15
            rw [e5] at f3
            rw [e5, bl_ge geM]
            exact f3
          | false =>
            rw [hbv] at f3
            have e5 : ∀ M, obL false M = M := fun M => if_neg (by decide)
            rw [e5, al_32 hvT (by omega) geM] at f3
            rw [e5]
            exact f3
      · obtain ⟨o3, s3, e3, f3⟩ := m_bra (b := opB (rki z)) hS hzT (hd2 q) (by have := tm_lk hzk; omega) hb h
        refine ⟨o3, s3, ?_, f3⟩
        apply jl_jm
        show Mo_sayApplied_b5_s T mk mv ms mc mle mst out size (nI t) (nI x.1) (nI z.1) (nI j) = _
        unfold Mo_sayApplied_b5_s
        rw [kat hR hzT, jb_some, if_neg (nk_14 q), jb_some, op_ok' (rki z) rki_lt, jb_some, e3, jb_some]
        rfl
  obtain ⟨o, s, e1, f1⟩ := key (rsz x) 0 x (Nat.le_refl _) rfl hx (by rw [hk]; unfold tmK; omega) (fun _ => hd) (fun q => absurd hk q)
  have op14 : opB (rki x) = false := by rw [hk]; decide
  rw [op14] at f1
  refine ⟨o, s, ?_, f1⟩
  unfold f_Mo_sayApplied Mo_sayApplied_b5
  rw [show (0 : Int32) = nI 0 from rfl, e1]
  apply jl_done
  show Mo_sayApplied_b46_s T mk mv ms mc mle mst (nI t) (nI x.1) o s (nI 0 - 1) = _
  unfold Mo_sayApplied_b46_s
  rw [if_pos (by decide)]
end SG
