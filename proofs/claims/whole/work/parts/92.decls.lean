-- declarations
section SD
variable {mk mv ms mc mle mst ck cs cv : Nat → Int32} {st sp : Nat → Nat} {nc nt t D : Nat} {T : TSh} {x y z : Nat × Fo × Nat} {out : Nat → Int32} {size : Int32} {L : List Nat}
theorem al_dc (hk : dcK (rki x)) : al st sp cv x L = 46 :: rdl st sp cv (rki x) x.1 (x.1 + rsz x) (fn x.2.1) (rpt x) (tkL (fwT (rki x)) L) := by
  unfold dcK at hk
  have h8 : rki x ≠ 8 ∧ rki x ≠ 15 := by omega
  have br0 : brT 99 (rki x) x.1 0 0 = false := by
    unfold brT
    rw [if_neg h8.2, if_neg h8.1, if_neg (by decide)]
  have ed : edB (rki x) = true := decide_eq_true (by omega)
  have ew : wdL st sp cv (rki x) x.1 L = tkL (fwT (rki x)) L := by unfold wdL; rw [if_neg (by omega), if_neg (by omega)]
  rw [al_u, en_99 h8, ew]
  unfold lvL
  rw [ed, if_pos rfl, if_pos rfl, br0, ← k22]
  rfl
theorem word_eq (hk : dcK (rki x)) (hb : bl L = L) : pT (25 + (if rki x < 5 then rki x - 1 else rki x - 2)) L = tkL (fwT (rki x)) L ∧ GE (tkL (fwT (rki x)) L) := by
  have key : ∀ k, dcK k → pT (25 + (if k < 5 then k - 1 else k - 2)) L = tkL (fwT k) L ∧ GE (tkL (fwT k) L) := by
    intro k hk
    unfold dcK at hk
    have hu : ∀ j, j ≠ 0 → ¬ (j = 16 ∨ j = 17 ∨ j = 21 ∨ j = 22) → tkL j L = pT (j - 2) L := fun j h1 h2 => by unfold tkL; rw [if_neg h1, if_neg h2, hb]
    rcases (show k = 1 ∨ k = 2 ∨ k = 3 ∨ k = 4 ∨ k = 6 ∨ k = 7 by omega) with e | e | e | e | e | e
    · subst e; rw [show fwT 1 = 4 from rfl, hu 4 (by decide) (by decide)]; exact ⟨(pT_x 25 (by decide)).trans (pT_x 2 (by decide)).symm, ge_pT (by decide) (by decide)⟩
    · subst e; rw [show fwT 2 = 5 from rfl, hu 5 (by decide) (by decide)]; exact ⟨(pT_x 26 (by decide)).trans (pT_x 3 (by decide)).symm, ge_pT (by decide) (by decide)⟩
    · subst e; rw [show fwT 3 = 6 from rfl, hu 6 (by decide) (by decide)]; exact ⟨(pT_x 27 (by decide)).trans (pT_x 4 (by decide)).symm, ge_pT (by decide) (by decide)⟩
    · subst e; rw [show fwT 4 = 7 from rfl, hu 7 (by decide) (by decide)]; exact ⟨(pT_x 28 (by decide)).trans (pT_x 5 (by decide)).symm, ge_pT (by decide) (by decide)⟩
    · subst e; rw [show fwT 6 = 8 from rfl, hu 8 (by decide) (by decide)]; exact ⟨(pT_x 29 (by decide)).trans (pT_x 6 (by decide)).symm, ge_pT (by decide) (by decide)⟩
    · subst e; rw [show fwT 7 = 9 from rfl, hu 9 (by decide) (by decide)]; exact ⟨(pT_x 30 (by decide)).trans (pT_x 7 (by decide)).symm, ge_pT (by decide) (by decide)⟩
  exact key _ hk
theorem m_fin (hk : rki x ≠ 4) {l6 : Int32} (h : OT out size L) : ∃ out' size', jl (Mo_sayDeclaration_b180_b T mk mv ms mc mle mst (nI t) (nI x.1) (nI (rki x))) (out, size, l6) = some (out', size') ∧ OT out' size' (46 :: L) := by
  obtain ⟨o, s, e, f⟩ := o_put (c := 46) h (by decide)
  refine ⟨o, s, ?_, f⟩
  apply jl_done
  show Mo_sayDeclaration_b180_s T mk mv ms mc mle mst (nI t) (nI x.1) (nI (rki x)) out size l6 = _
  unfold Mo_sayDeclaration_b180_s Mo_sayDeclaration_b223
  rw [if_neg (nk_4 hk), show f_Mo_put out size 46 = _ from e, jb_some, jm_some]
theorem m_con (hR : HR mk mv ms mc ck cs cv t nt) (hT : TB nc st sp) (hS : SH mk mv ms mc mle mst ck cs cv st sp nc nt t T D) (hx : TF ck cs cv nc nt (rno x) x.1) (hd : ∀ y, y ∈ rpt x → nd (rno y) ≤ D) (hk : rki x = 4) : ∀ (l pre : List (Nat × Fo × Nat)) (L : List Nat) (out : Nat → Int32) (size : Int32), rpt x = pre ++ l → pre ≠ [] → (∀ y, y ∈ l → rki y = 5) → GE L → OT out size L → ∃ out' size', jl (Mo_sayDeclaration_b180_b T mk mv ms mc mle mst (nI t) (nI x.1) (nI (rki x))) (out, size, nI pre.length) = some (out', size') ∧ OT out' size' (46 :: rdl st sp cv (rki x) x.1 (x.1 + rsz x) (fn x.2.1) l L) := by
  intro l
  induction l with
  | nil =>
    intro pre L out size e hp h5 hg h
    obtain ⟨o, s, e1, f⟩ := o_put (c := 46) h (by decide)
    refine ⟨o, s, ?_, f⟩
    rw [List.append_nil] at e
    apply jl_done
    show Mo_sayDeclaration_b180_s T mk mv ms mc mle mst (nI t) (nI x.1) (nI (rki x)) out size (nI pre.length) = _
    unfold Mo_sayDeclaration_b180_s Mo_sayDeclaration_b223
    rw [if_pos (show nI (rki x) = 4 by rw [hk]; rfl), ← e, m_ptE hR hx, jb_some, if_pos rfl, show f_Mo_put out size 46 = _ from e1, jb_some, jm_some]
  | cons y l ih =>
    intro pre L out size e hp h5 hg h
    have hy5 := h5 y (List.mem_cons.mpr (Or.inl rfl))
    have hm : y ∈ rpt x := by rw [e]; exact List.mem_append_right _ (List.mem_cons.mpr (Or.inl rfl))
    have hyT := TF_p hx y hm
    have hyb := (TF_k hyT).2.2.1
    have h4 := hR.2.1
    have hpt := m_ptM hR hx e
    have pm := (pos_mid e).1
    have plen : 1 ≤ pre.length := lpos hp
    have lk5 : lkB (rki y) := by unfold lkB; omega
    obtain ⟨o1, s1, e1, f1⟩ := o_text (k := 40) (by decide) h
    rw [x40] at f1
    obtain ⟨o2, s2, e2, f2⟩ := hS y _ o1 s1 hyT (hd y hm) (by omega) bl_32 f1
    rw [al_c hyT (by omega) (by decide)] at f2
    obtain ⟨o3, s3, e3, f3⟩ := ih (pre ++ [y]) _ o2 s2 (by rw [e, List.append_assoc]; rfl) (by simp) (fun z hz => h5 z (List.mem_cons.mpr (Or.inr hz))) (al_ge hT hyT lk5) f2
    refine ⟨o3, s3, ?_, ?_⟩
    · rw [List.length_append] at e3
      refine (jl_step ?_).trans e3
      show Mo_sayDeclaration_b180_s T mk mv ms mc mle mst (nI t) (nI x.1) (nI (rki x)) out size (nI pre.length) = _
      unfold Mo_sayDeclaration_b180_s
      rw [if_pos (show nI (rki x) = 4 by rw [hk]; rfl), hpt, jb_some, if_neg (nI_m1 (by omega)), e1, jb_some, jb_some, e2, jb_some, nI_1]
      rfl
    · show OT o3 s3 (46 :: rdl st sp cv (rki x) x.1 (x.1 + rsz x) (fn x.2.1) l (rd st sp cv (rno y) y.1 (rki x) x.1 (x.1 + rsz x) (fn x.2.1) L))
      rw [c_A lk5 (by omega) (by omega), tb_v (by omega) (by omega) (by omega), hk, hy5]
      rw [hk] at f3
      show OT o3 s3 (46 :: rdl st sp cv 4 x.1 (x.1 + rsz x) (fn x.2.1) l (al st sp cv y (tkL 23 L)))
      rw [k23 hg]
      exact f3
/-- what stands behind the told type -/
def rsh (k : Nat) (l : List (Nat × Fo × Nat)) : Prop := (k = 1 ∨ k = 7 → l = []) ∧ (k = 2 ∨ k = 3 → ∃ y, l = [y] ∧ tmK (rki y)) ∧ (k = 6 → ∃ y, l = [y] ∧ (tmK (rki y) ∨ rki y = 19)) ∧ (k = 4 → ∀ y, y ∈ l → rki y = 5)
theorem m_122 (hR : HR mk mv ms mc ck cs cv t nt) (hT : TB nc st sp) (hS : SH mk mv ms mc mle mst ck cs cv st sp nc nt t T D) (hx : TF ck cs cv nc nt (rno x) x.1) (hd : ∀ y, y ∈ rpt x → nd (rno y) ≤ D) (hk : dcK (rki x)) {l pre : List (Nat × Fo × Nat)} {i : Nat} (e : rpt x = pre ++ l) (hi : pre.length = i + 1) (hl : rsh (rki x) l) (hg : GE L) (h : OT out size L) : ∃ out' size', Mo_sayDeclaration_b122 T mk mv ms mc mle mst out size (nI t) (nI x.1) (nI (rki x)) (nI i) = some (out', size') ∧ OT out' size' (46 :: rdl st sp cv (rki x) x.1 (x.1 + rsz x) (fn x.2.1) l L) := by
  have hk' := hk
  unfold dcK at hk'
  have pne : pre ≠ [] := fun z => by rw [z] at hi; cases hi
  unfold Mo_sayDeclaration_b122
  have ei : nI i + 1 = nI pre.length := by rw [nI_1, hi]
  by_cases k2 : rki x = 2 ∨ rki x = 3
  · obtain ⟨y, hy, hyk⟩ := hl.2.1 k2
    subst hy
    have hm : y ∈ rpt x := by rw [e]; exact List.mem_append_right _ (List.mem_cons.mpr (Or.inl rfl))
    have hyT := TF_p hx y hm
    have ht := tm_lk hyk
    have pm := pos_mid e
    obtain ⟨o1, s1, e1, f1⟩ := o_text (k := 39) (by decide) h
    rw [x39] at f1
    obtain ⟨o2, s2, e2, f2⟩ := hS y _ o1 s1 hyT (hd y hm) (by omega) bl_32 f1
    rw [al_c hyT (by omega) (by decide)] at f2
    obtain ⟨o3, s3, e3, f3⟩ := m_fin (T := T) (mk := mk) (mv := mv) (ms := ms) (mc := mc) (mle := mle) (mst := mst) (t := t) (x := x) (by omega) (l6 := nI i + 1) f2
    have b144 : Mo_sayDeclaration_b144 T mk mv ms mc mle mst out size (nI t) (nI x.1) (nI (rki x)) (nI i) (nI y.1) = some (o3, s3) := by
      unfold Mo_sayDeclaration_b144
      rw [e1, jb_some, e2, jb_some]
      exact e3
    refine ⟨o3, s3, ?_, ?_⟩
    · rw [ei, m_ptM hR hx e, jb_some, b144]
      by_cases a : rki x = 2
      · rw [if_pos (show nI (rki x) = 2 by rw [a]; rfl)]
      · rw [if_neg (nk_2 a), if_pos (show nI (rki x) = 3 by rw [k2.resolve_left a]; rfl)]
    · show OT o3 s3 (46 :: rd st sp cv (rno y) y.1 (rki x) x.1 (x.1 + rsz x) (fn x.2.1) L)
      rw [c_A ht.1 (by omega) (by omega), tb_v (by omega) (by omega) (by omega)]
      have e9 : tbQ (rki x) (rki y) (decide (y.1 + rsz y = x.1 + rsz x)) (decide (y.1 = x.1 + 2)) = 18 := by
        unfold tbQ
        rw [if_neg (by omega), if_pos (by omega), if_pos (decide_eq_true (pm.2.1 rfl))]
      rw [e9, k18 hg]
      exact f3
  · have n2 := nk_2 (x := x) (by omega)
    have n3 := nk_3 (x := x) (by omega)
    by_cases k6 : rki x = 6
    · obtain ⟨y, hy, hyk⟩ := hl.2.2.1 k6
      subst hy
      have hm : y ∈ rpt x := by rw [e]; exact List.mem_append_right _ (List.mem_cons.mpr (Or.inl rfl))
      have hyT := TF_p hx y hm
      have pm := pos_mid e
      obtain ⟨o1, s1, e1, f1⟩ := m_say hR hS hyT (hd y hm) hyk h
      obtain ⟨o3, s3, e3, f3⟩ := m_fin (T := T) (mk := mk) (mv := mv) (ms := ms) (mc := mc) (mle := mle) (mst := mst) (t := t) (x := x) (by omega) (l6 := nI i + 1) f1
      refine ⟨o3, s3, ?_, ?_⟩
      · rw [ei, m_ptM hR hx e, jb_some, if_neg n2, if_neg n3, if_pos (show nI (rki x) = 6 by rw [k6]; rfl), e1, jb_some]
        exact e3
      · show OT o3 s3 (46 :: rd st sp cv (rno y) y.1 (rki x) x.1 (x.1 + rsz x) (fn x.2.1) L)
        by_cases a : rki y = 19
        · rw [c_19 hyT a]
          rw [if_pos a] at f3
          exact f3
        · have ht := tm_lk (hyk.resolve_right a)
          rw [if_neg a] at f3
          rw [c_A ht.1 (by omega) (by omega), tb_v (by omega) (by omega) (by omega), k6]
          show OT o3 s3 (46 :: al st sp cv y (tkL 17 L))
          rw [k17]
          exact f3
    · have n6 := nk_6 (x := x) k6
      have ex : ∃ v, f_Mo_part ms mc (nI t) (nI x.1) (nI i + 1) = some v := by
        rw [ei]
        cases l with
        | nil => rw [List.append_nil] at e; rw [← e]; exact ⟨_, m_ptE hR hx⟩
        | cons y l => exact ⟨_, m_ptM hR hx e⟩
      obtain ⟨v, hv⟩ := ex
      rw [hv, jb_some, if_neg n2, if_neg n3, if_neg n6]
      unfold Mo_sayDeclaration_b174 Mo_sayDeclaration_b180
      rw [ei]
      by_cases k4 : rki x = 4
      · exact m_con hR hT hS hx hd k4 l pre L out size e pne (hl.2.2.2 k4) hg h
      · have : l = [] := hl.1 (by omega)
        subst this
        exact m_fin k4 h
theorem m_dgo (hR : HR mk mv ms mc ck cs cv t nt) (hT : TB nc st sp) (hS : SH mk mv ms mc mle mst ck cs cv st sp nc nt t T D) (hx : TF ck cs cv nc nt (rno x) x.1) (hd : ∀ y, y ∈ rpt x → nd (rno y) ≤ D) (hk : rki x = 1 ∨ rki x = 2 ∨ rki x = 3 ∨ rki x = 4) : ∀ (g pre : List (Nat × Fo × Nat)) (a : Nat × Fo × Nat) (l : List (Nat × Fo × Nat)) (L : List Nat) (out : Nat → Int32) (size : Int32), rpt x = pre ++ (g ++ a :: l) → pre ≠ [] → (∀ y, y ∈ g → rki y = 8) → (tmK (rki a) ∨ rki a = 19) → rsh (rki x) l → GE L → OT out size L → ∃ out' size', jl (Mo_sayDeclaration_b55_b T mk mv ms mc mle mst (nI t) (nI x.1) (nI (rki x))) (out, size, nI pre.length) = some (out', size') ∧ OT out' size' (46 :: rdl st sp cv (rki x) x.1 (x.1 + rsz x) (fn x.2.1) (g ++ a :: l) L) := by
  intro g
  induction g with
  | nil =>
    intro pre a l L out size e hp h8 ha hl hg h
    have e' : rpt x = pre ++ a :: l := e
    have hm : a ∈ rpt x := by rw [e']; exact List.mem_append_right _ (List.mem_cons.mpr (Or.inl rfl))
    have haT := TF_p hx a hm
    have hpt := m_ptM hR hx e'
    have pm := pos_mid e'
    have plen : 1 ≤ pre.length := lpos hp
    have ha8 : rki a ≠ 8 ∧ rki a ≠ 5 := by unfold tmK at ha; omega
    obtain ⟨o1, s1, e1, f1⟩ := m_say hR hS haT (hd a hm) ha h
    have ctx : (if rki a = 19 then L else al st sp cv a (58 :: L)) = rd st sp cv (rno a) a.1 (rki x) x.1 (x.1 + rsz x) (fn x.2.1) L := by
      by_cases q : rki a = 19
      · rw [if_pos q, c_19 haT q]
      · have ht := tm_lk (ha.resolve_right q)
        rw [if_neg q, c_A ht.1 (by omega) (by omega), tb_v (by omega) (by omega) (by omega)]
        have e9 : tbQ (rki x) (rki a) (decide (a.1 + rsz a = x.1 + rsz x)) (decide (a.1 = x.1 + 2)) = 17 := by
          unfold tbQ
          by_cases a1 : rki x = 1
          · rw [if_pos (by omega)]
          · rw [if_neg (by omega)]
            by_cases a2 : rki x = 2 ∨ rki x = 3
            · obtain ⟨y, hy, _⟩ := hl.2.1 a2
              rw [if_pos a2, decide_eq_false (by have := pm.2.2 (by rw [hy]; simp); omega)]
              rfl
            · rw [if_neg a2, if_pos (by omega), if_neg ha8.2]
        rw [e9, k17]
    have gA : GE (if rki a = 19 then L else al st sp cv a (58 :: L)) := by
      by_cases q : rki a = 19
      · rw [if_pos q]; exact hg
      · rw [if_neg q]; exact al_ge hT haT (tm_lk (ha.resolve_right q)).1
    obtain ⟨o2, s2, e2, f2⟩ := m_122 (pre := pre ++ [a]) (i := pre.length) hR hT hS hx hd (by unfold dcK; omega) (by rw [e', List.append_assoc]; rfl) (by rw [List.length_append]; rfl) hl gA f1
    refine ⟨o2, s2, ?_, ?_⟩
    · apply jl_done
      show Mo_sayDeclaration_b55_s T mk mv ms mc mle mst (nI t) (nI x.1) (nI (rki x)) out size (nI pre.length) = _
      unfold Mo_sayDeclaration_b55_s
      rw [hpt, jb_some, kat hR haT, jb_some, if_neg (nk_8 ha8.1), jb_some, e1, jb_some, e2, jm_some]
    · show OT o2 s2 (46 :: rdl st sp cv (rki x) x.1 (x.1 + rsz x) (fn x.2.1) l (rd st sp cv (rno a) a.1 (rki x) x.1 (x.1 + rsz x) (fn x.2.1) L))
      rw [← ctx]
      exact f2
  | cons y g ih =>
    intro pre a l L out size e hp h8 ha hl hg h
    have e' : rpt x = pre ++ y :: (g ++ a :: l) := e
    have hm : y ∈ rpt x := by rw [e']; exact List.mem_append_right _ (List.mem_cons.mpr (Or.inl rfl))
    have hyT := TF_p hx y hm
    have hpt := m_ptM hR hx e'
    have hy8 := h8 y (List.mem_cons.mpr (Or.inl rfl))
    have lk8 : lkB (rki y) := by unfold lkB; omega
    obtain ⟨o1, s1, e1, f1⟩ := o_put (c := 32) h (by decide)
    obtain ⟨o2, s2, e2, f2⟩ := hS y _ o1 s1 hyT (hd y hm) (by omega) bl_32 f1
    rw [al_32 hyT (by omega) hg] at f2
    obtain ⟨o3, s3, e3, f3⟩ := ih (pre ++ [y]) a l _ o2 s2 (by rw [e', List.append_assoc]; rfl) (by simp) (fun z hz => h8 z (List.mem_cons.mpr (Or.inr hz))) ha hl (al_ge hT hyT lk8) f2
    refine ⟨o3, s3, ?_, ?_⟩
    · rw [List.length_append] at e3
      refine (jl_step ?_).trans e3
      show Mo_sayDeclaration_b55_s T mk mv ms mc mle mst (nI t) (nI x.1) (nI (rki x)) out size (nI pre.length) = _
      unfold Mo_sayDeclaration_b55_s
      rw [hpt, jb_some, kat hR hyT, jb_some, if_pos (show nI (rki y) = 8 by rw [hy8]; rfl), show f_Mo_put out size 32 = _ from e1, jb_some, jb_some, e2, jb_some, nI_1]
      rfl
    · show OT o3 s3 (46 :: rdl st sp cv (rki x) x.1 (x.1 + rsz x) (fn x.2.1) (g ++ a :: l) (rd st sp cv (rno y) y.1 (rki x) x.1 (x.1 + rsz x) (fn x.2.1) L))
      rw [c_8 hy8 (Or.inl (by omega))]
      exact f3
theorem m_dcl (hR : HR mk mv ms mc ck cs cv t nt) (hT : TB nc st sp) (hS : SH mk mv ms mc mle mst ck cs cv st sp nc nt t T D) (hx : TF ck cs cv nc nt (rno x) x.1) (hk : dcK (rki x)) (hd : ∀ y, y ∈ rpt x → nd (rno y) ≤ D) (hb : bl L = L) (h : OT out size L) : ∃ out' size', f_Mo_sayDeclaration T mk mv ms mc mle mst out size (nI t) (nI x.1) = some (out', size') ∧ OT out' size' (al st sp cv x L) := by
  obtain ⟨w1, w2⟩ := word_eq hk hb
  have hk' := hk
  unfold dcK at hk'
  have hns := (TF_k hx).2.2.2
  obtain ⟨o1, s1, e1, f1⟩ := o_text (k := 25 + (if rki x < 5 then rki x - 1 else rki x - 2)) (by split <;> omega) h
  rw [w1] at f1
  obtain ⟨o2, s2, e2, f2⟩ := o_put (c := 32) f1 (by decide)
  rw [al_dc hk]
  have s2e : ∀ m, m < 11 → (if nI m < 0 ∨ 11 ≤ (nI m).toNatClampNeg then (none : Option Int32) else some 0) = some 0 := fun m hm => if_neg (nI_in hm (by decide))
  by_cases k5 : rki x < 5
  · rw [if_pos k5] at e1
    have sh : ∃ (u : Nat × Fo × Nat) (g : List (Nat × Fo × Nat)) (a : Nat × Fo × Nat) (l : List (Nat × Fo × Nat)), rpt x = u :: (g ++ a :: l) ∧ rki u = 9 ∧ (∀ y, y ∈ g → rki y = 8) ∧ (tmK (rki a) ∨ rki a = 19) ∧ rsh (rki x) l := by
      unfold ns at hns
      rcases (show rki x = 1 ∨ rki x = 2 ∨ rki x = 3 ∨ rki x = 4 by omega) with q | q | q | q
      · obtain ⟨g, k, n1, n2, n3⟩ := hns.2.1 q
        obtain ⟨u, m, u1, u2, u3⟩ := mp_cons (show (rpt x).map rki = 9 :: (g ++ [k]) by rw [rpt_k, n1])
        obtain ⟨l1, l2, g1, g2, g3⟩ := mp_app _ _ _ u3
        obtain ⟨y, y1, y2⟩ := mp_one g3
        subst y1
        exact ⟨u, l1, y, [], by rw [u1, g1], u2, mp_all g2 n2, Or.inl (by rw [y2]; exact n3), fun _ => rfl, fun z => by omega, fun z => by omega, fun _ y hy => by cases hy⟩
      · obtain ⟨g, a, k, n1, n2, n3, n4⟩ := hns.2.2.1 q
        obtain ⟨u, m, u1, u2, u3⟩ := mp_cons (show (rpt x).map rki = 9 :: (g ++ [a, k]) by rw [rpt_k, n1])
        obtain ⟨l1, l2, g1, g2, g3⟩ := mp_app _ _ _ u3
        obtain ⟨y, m2, y1, y2, y3⟩ := mp_cons g3
        obtain ⟨z, z1, z2⟩ := mp_one y3
        subst y1 z1
        exact ⟨u, l1, y, [z], by rw [u1, g1], u2, mp_all g2 n2, by rw [y2]; exact n3, fun z => by omega, fun _ => ⟨z, rfl, by rw [z2]; exact n4⟩, fun z => by omega, fun z => by omega⟩
      · obtain ⟨g, a, k, n1, n2, n3, n4⟩ := hns.2.2.2.1 q
        obtain ⟨u, m, u1, u2, u3⟩ := mp_cons (show (rpt x).map rki = 9 :: (g ++ [a, k]) by rw [rpt_k, n1])
        obtain ⟨l1, l2, g1, g2, g3⟩ := mp_app _ _ _ u3
        obtain ⟨y, m2, y1, y2, y3⟩ := mp_cons g3
        obtain ⟨z, z1, z2⟩ := mp_one y3
        subst y1 z1
        exact ⟨u, l1, y, [z], by rw [u1, g1], u2, mp_all g2 n2, Or.inl (by rw [y2]; exact n3), fun z => by omega, fun _ => ⟨z, rfl, by rw [z2]; exact n4⟩, fun z => by omega, fun z => by omega⟩
      · obtain ⟨g, k, hh, n1, n2, n3, n4⟩ := hns.2.2.2.2.1 q
        obtain ⟨u, m, u1, u2, u3⟩ := mp_cons (show (rpt x).map rki = 9 :: (g ++ k :: hh) by rw [rpt_k, n1])
        obtain ⟨l1, l2, g1, g2, g3⟩ := mp_app _ _ _ u3
        obtain ⟨y, m2, y1, y2, y3⟩ := mp_cons g3
        subst y1
        exact ⟨u, l1, y, m2, by rw [u1, g1], u2, mp_all g2 n2, Or.inl (by rw [y2]; exact n3), fun z => by omega, fun z => by omega, fun z => by omega, fun _ => mp_all y3 n4⟩
    obtain ⟨u, g, a, l, sh1, sh2, sh3, sh4, sh5⟩ := sh
    have hm : u ∈ rpt x := by rw [sh1]; exact List.mem_cons.mpr (Or.inl rfl)
    have huT := TF_p hx u hm
    have up := pos_first sh1
    have lk9 : lkB (rki u) := by unfold lkB; omega
    obtain ⟨o3, s3, e3, f3⟩ := hS u _ o2 s2 huT (hd u hm) (by omega) bl_32 f2
    rw [al_32 huT (by omega) w2] at f3
    obtain ⟨o4, s4, e4, f4⟩ := m_dgo hR hT hS hx hd (by omega) g [u] a l _ o3 s3 (by rw [sh1]; rfl) (by simp) sh3 sh4 sh5 (al_ge hT huT lk9) f3
    refine ⟨o4, s4, ?_, ?_⟩
    · unfold f_Mo_sayDeclaration
      have em : nI (rki x) - 1 = nI (rki x - 1) := by have := nI_pred (rki x - 1); rw [show rki x - 1 + 1 = rki x by omega] at this; exact this
      rw [kat hR hx, jb_some, if_neg (show ¬ (5 : Int32) ≤ nI (rki x) from nI_ge (b := 5) (by omega) (by omega)), em]
      unfold Mo_sayDeclaration_b26
      rw [if_neg (nI_in (show rki x - 1 < 11 by omega) (by decide)), nI_clamp (by omega), e1, jb_some, show f_Mo_put o1 s1 32 = _ from e2, jb_some, if_neg (show ¬ (5 : Int32) ≤ nI (rki x) from nI_ge (b := 5) (by omega) (by omega)), nI_1, ← up, e3, jb_some]
      exact e4
    · rw [sh1]
      show OT o4 s4 (46 :: rdl st sp cv (rki x) x.1 (x.1 + rsz x) (fn x.2.1) (g ++ a :: l) (rd st sp cv (rno u) u.1 (rki x) x.1 (x.1 + rsz x) (fn x.2.1) (tkL (fwT (rki x)) L)))
      rw [c_A lk9 (by omega) (by omega), tb_0 (by omega), tk0]
      exact f4
  · rw [if_neg k5] at e1
    have sh : ∃ (u : Nat × Fo × Nat) (l : List (Nat × Fo × Nat)), rpt x = u :: l ∧ tmK (rki u) ∧ rsh (rki x) l := by
      unfold ns at hns
      rcases (show rki x = 6 ∨ rki x = 7 by omega) with q | q
      · obtain ⟨k, a, n1, n2, n3⟩ := hns.2.2.2.2.2.2.1 q
        obtain ⟨u, m, u1, u2, u3⟩ := mp_cons (show (rpt x).map rki = k :: [a] by rw [rpt_k, n1])
        obtain ⟨z, z1, z2⟩ := mp_one u3
        subst z1
        exact ⟨u, [z], u1, by rw [u2]; exact n2, fun z => by omega, fun z => by omega, fun _ => ⟨z, rfl, by rw [z2]; exact n3⟩, fun z => by omega⟩
      · obtain ⟨k, n1, n2⟩ := hns.2.2.2.2.2.2.2.1 q
        obtain ⟨u, u1, u2⟩ := mp_one (show (rpt x).map rki = [k] by rw [rpt_k, n1])
        exact ⟨u, [], u1, by rw [u2]; exact n2, fun _ => rfl, fun z => by omega, fun z => by omega, fun z => by omega⟩
    obtain ⟨u, l, sh1, sh2, sh5⟩ := sh
    have hm : u ∈ rpt x := by rw [sh1]; exact List.mem_cons.mpr (Or.inl rfl)
    have huT := TF_p hx u hm
    have up := pos_first sh1
    have ht := tm_lk sh2
    obtain ⟨o3, s3, e3, f3⟩ := hS u _ o2 s2 huT (hd u hm) (by omega) bl_32 f2
    rw [al_32 huT (by omega) w2] at f3
    obtain ⟨o4, s4, e4, f4⟩ := m_122 (pre := [u]) (i := 0) hR hT hS hx hd hk sh1 rfl sh5 (al_ge hT huT ht.1) f3
    refine ⟨o4, s4, ?_, ?_⟩
    · unfold f_Mo_sayDeclaration
      have em : nI (rki x) - 2 = nI (rki x - 2) := pk_sub (b := 2) (by omega)
      rw [kat hR hx, jb_some, if_pos (show (5 : Int32) ≤ nI (rki x) from nI_le (a := 5) (by omega) (by omega)), em]
      unfold Mo_sayDeclaration_b26
      rw [if_neg (nI_in (show rki x - 2 < 11 by omega) (by decide)), nI_clamp (by omega), e1, jb_some, show f_Mo_put o1 s1 32 = _ from e2, jb_some, if_pos (show (5 : Int32) ≤ nI (rki x) from nI_le (a := 5) (by omega) (by omega)), nI_1, ← up, e3, jb_some]
      exact e4
    · rw [sh1]
      show OT o4 s4 (46 :: rdl st sp cv (rki x) x.1 (x.1 + rsz x) (fn x.2.1) l (rd st sp cv (rno u) u.1 (rki x) x.1 (x.1 + rsz x) (fn x.2.1) (tkL (fwT (rki x)) L)))
      rw [c_A ht.1 (by omega) (by omega), tb_0 (by omega), tk0]
      exact f4
end SD
