-- a text, and write on both sides
section ST
variable {mk mv ms mc mle mst ck cs cv : Nat → Int32} {st sp : Nat → Nat} {nc nt t D : Nat} {T : TSh} {x y z : Nat × Fo × Nat} {out : Nat → Int32} {size : Int32} {L : List Nat}
theorem c_dc {w E n : Nat} (hk : dcK (rki x)) : rd st sp cv (rno x) x.1 0 w E n L = 10 :: al st sp cv x L := by
  obtain ⟨a, Y, c⟩ := x
  have hk' : 1 ≤ c % 32 ∧ c % 32 ≤ 7 ∧ c % 32 ≠ 5 := hk
  show lvL 0 (c % 32) a w n (rd st sp cv Y (a + 1) (c % 32) a (a + (fs Y + 1)) (fn Y) (enL st sp cv 0 (c % 32) a w (a + (fs Y + 1)) E n L)) = 10 :: lvL 99 (c % 32) a 0 0 (rd st sp cv Y (a + 1) (c % 32) a (a + (fs Y + 1)) (fn Y) (enL st sp cv 99 (c % 32) a 0 (a + (fs Y + 1)) 0 0 L))
  have br0 : ∀ q w n, q = 0 ∨ q = 99 → brT q (c % 32) a w n = false := fun q w n hq => by
    unfold brT
    rw [if_neg (by omega), if_neg (by omega), if_neg (by omega)]
  have tb0 : tbT 0 (c % 32) a w (a + (fs Y + 1)) E = 0 := by
    unfold tbT
    split
    · rfl
    · rfl
  have tb9 : tbT 99 (c % 32) a 0 (a + (fs Y + 1)) 0 = 0 := if_pos (Or.inl rfl)
  have ed : edB (c % 32) = true := decide_eq_true (by omega)
  unfold lvL enL
  rw [tb0, tb9, br0 0 w n (Or.inl rfl), br0 99 0 0 (Or.inr rfl), ed, if_pos rfl, if_neg (show ¬ (0 : Nat) = 99 by decide), if_pos rfl, if_pos rfl]
theorem m_txt (hR : HR mk mv ms mc ck cs cv t nt) (hS : SH mk mv ms mc mle mst ck cs cv st sp nc nt t T D) (hx : TF ck cs cv nc nt (rno x) x.1) (hk : rki x = 0) (h0 : x.1 + rsz x = nt) (hd : nd (rno x) ≤ D + 1) (h : OT out size []) : ∃ out' size', jl (Mo_showS_b2_b T mk mv ms mc mle mst (nI t)) (out, size, nI x.1) = some (out', size') ∧ OT out' size' (al st sp cv x []) := by
  have h8k := hR.2.1
  have ht2 := hR.1
  have hx1 := rsz1 (x := x)
  have hdd := nd_O (x := x) (by omega) (by omega) hx hd
  have hdc : ∀ y, y ∈ rpt x → dcK (rki y) := mp_all (rpt_k (x := x)) ((TF_k hx).2.2.2.1 hk)
  have go : ∀ (l : List (Nat × Fo × Nat)) (a : Nat) (M : List Nat) (o : Nat → Int32) (s : Int32), (∀ y, y ∈ l → y ∈ rpt x) → chn l a nt → bl M = M → OT o s M → ∃ o' s', jl (Mo_showS_b38_b T mk mv ms mc mle mst (nI t) (-1)) (o, s, nI a) = some (.inl (o', s', -1)) ∧ OT o' s' (rdl st sp cv 0 x.1 (x.1 + rsz x) (fn x.2.1) l M) := by
    intro l
    induction l with
    | nil =>
      intro a M o s hl hc hb hM
      have e : a = nt := hc
      refine ⟨o, s, ?_, hM⟩
      apply jl_done
      show Mo_showS_b38_s T mk mv ms mc mle mst (nI t) (-1) o s (nI a) = _
      unfold Mo_showS_b38_s Mo_showS_b625
      rw [if_neg (nI_in ht2 (by decide)), nI_clamp (by omega), hR.2.2.1, e, if_pos (Int32.le_refl _), jm_some]
    | cons y l ih =>
      intro a M o s hl hc hb hM
      obtain ⟨e, hc2⟩ := hc
      have hym := hl y (List.mem_cons.mpr (Or.inl rfl))
      have hyT := TF_p hx y hym
      obtain ⟨k1, k2, k3, k4⟩ := TF_k hyT
      have hy1 := rsz1 (x := y)
      have hyk := hdc y hym
      have hyk' : 1 ≤ rki y ∧ rki y ≤ 7 ∧ rki y ≠ 5 := hyk
      obtain ⟨o1, s1, e1, f1⟩ := hS y M o s hyT (hdd y hym) (by omega) hb hM
      obtain ⟨o2, s2, e2, f2⟩ := o_put (c := 10) f1 (by decide)
      obtain ⟨o3, s3, e3, f3⟩ := ih (a + rsz y) _ o2 s2 (fun z hz => hl z (List.mem_cons.mpr (Or.inr hz))) hc2 bl_10 f2
      refine ⟨o3, s3, ?_, ?_⟩
      · refine (jl_step ?_).trans e3
        show Mo_showS_b38_s T mk mv ms mc mle mst (nI t) (-1) o s (nI a) = _
        unfold Mo_showS_b38_s
        rw [← e]
        rw [if_neg (nI_in ht2 (by decide)), nI_clamp (by omega), hR.2.2.1, if_neg (nI_ge (by omega) (by omega)), e1, jb_some, show f_Mo_put o1 s1 10 = _ from e2, jb_some, off9, if_neg (nI_in (show 9000 * t + y.1 < 18000 by omega) (by decide)), nI_clamp (by omega), (hR.2.2.2 y.1 (by omega)).2.1, k2, nI_add]
      · show OT o3 s3 (rdl st sp cv 0 x.1 (x.1 + rsz x) (fn x.2.1) l (rd st sp cv (rno y) y.1 0 x.1 (x.1 + rsz x) (fn x.2.1) M))
        rw [c_dc hyk]
        exact f3
  have hch := rpt_ch (x := x)
  rw [h0] at hch
  obtain ⟨o, s, e1, f1⟩ := go (rpt x) (x.1 + 1) [] out size (fun _ hy => hy) hch rfl h
  refine ⟨o, s, ?_, ?_⟩
  · refine (jl_step ?_).trans m_stop
    show Mo_showS_b2_s T mk mv ms mc mle mst (nI t) out size (nI x.1) = _
    unfold Mo_showS_b2_s
    have hsz : ¬ (8000 : Int32) < size := fun z => by have := (OT_sz h).mp z; cases this
    rw [if_neg (nI_m1 (by omega)), if_neg hsz, kat hR hx, jb_some, if_pos (show nI (rki x) = 0 by rw [hk]; rfl), nI_1]
    exact e1
  · have e9 := al_t (st := st) (sp := sp) (cv := cv) (x := x) (L := []) (by omega) (by rw [hk]; rfl)
    rw [e9, hk]
    exact f1
end ST
theorem ns_all {q : Nat} {l : List Nat} (h : ns q l) (hq : q ≤ 19) : ∀ k, k ∈ l → 1 ≤ k ∧ k ≤ 19 := by
  intro k hk
  have tm : ∀ j, tmK j → 1 ≤ j ∧ j ≤ 19 := fun j hj => by unfold tmK at hj; omega
  unfold ns at h
  by_cases q0 : q = 0
  · have := h.1 q0 k hk
    unfold dcK at this
    omega
  by_cases q1 : q = 1
  · obtain ⟨g, t, n1, n2, n3⟩ := h.2.1 q1
    rw [n1] at hk
    simp only [List.mem_cons, List.mem_append, List.not_mem_nil, or_false] at hk
    rcases hk with a | a | a
    · omega
    · have := n2 k a; omega
    · rw [a]; exact tm t n3
  by_cases q2 : q = 2
  · obtain ⟨g, a', t, n1, n2, n3, n4⟩ := h.2.2.1 q2
    rw [n1] at hk
    simp only [List.mem_cons, List.mem_append, List.not_mem_nil, or_false] at hk
    rcases hk with a | a | a | a
    · omega
    · have := n2 k a; omega
    · rw [a]
      rcases n3 with b | b
      · exact tm _ b
      · omega
    · rw [a]; exact tm t n4
  by_cases q3 : q = 3
  · obtain ⟨g, a', t, n1, n2, n3, n4⟩ := h.2.2.2.1 q3
    rw [n1] at hk
    simp only [List.mem_cons, List.mem_append, List.not_mem_nil, or_false] at hk
    rcases hk with a | a | a | a
    · omega
    · have := n2 k a; omega
    · rw [a]; exact tm _ n3
    · rw [a]; exact tm t n4
  by_cases q4 : q = 4
  · obtain ⟨g, t, m, n1, n2, n3, n4⟩ := h.2.2.2.2.1 q4
    rw [n1] at hk
    simp only [List.mem_cons, List.mem_append] at hk
    rcases hk with a | a | a | a
    · omega
    · have := n2 k a; omega
    · rw [a]; exact tm _ n3
    · have := n4 k a; omega
  by_cases q5 : q = 5
  · obtain ⟨t, n1, n2⟩ := h.2.2.2.2.2.1 q5
    rw [n1] at hk
    simp only [List.mem_cons, List.not_mem_nil, or_false] at hk
    rcases hk with a | a
    · omega
    · rw [a]; exact tm t n2
  by_cases q6 : q = 6
  · obtain ⟨t, a', n1, n2, n3⟩ := h.2.2.2.2.2.2.1 q6
    rw [n1] at hk
    simp only [List.mem_cons, List.not_mem_nil, or_false] at hk
    rcases hk with a | a
    · rw [a]; exact tm t n2
    · rw [a]
      rcases n3 with b | b
      · exact tm _ b
      · omega
  by_cases q7 : q = 7
  · obtain ⟨t, n1, n2⟩ := h.2.2.2.2.2.2.2.1 q7
    rw [n1] at hk
    simp only [List.mem_cons, List.not_mem_nil, or_false] at hk
    rw [hk]; exact tm t n2
  by_cases q8 : q = 8
  · obtain ⟨g, t, n1, n2, n3⟩ := h.2.2.2.2.2.2.2.2.1 q8
    rw [n1] at hk
    simp only [List.mem_cons, List.mem_append, List.not_mem_nil, or_false] at hk
    rcases hk with a | a | a
    · omega
    · have := n2 k a; omega
    · rw [a]; exact tm t n3
  by_cases q10 : q = 10 ∨ q = 11
  · obtain ⟨g, t, n1, n2, n3⟩ := h.2.2.2.2.2.2.2.2.2.1 q10
    rw [n1] at hk
    simp only [List.mem_cons, List.mem_append, List.not_mem_nil, or_false] at hk
    rcases hk with a | a | a
    · omega
    · have := n2 k a; omega
    · rw [a]; exact tm t n3
  by_cases q12 : q = 12
  · obtain ⟨a', t, u, n1, n2, n3, n4⟩ := h.2.2.2.2.2.2.2.2.2.2.1 q12
    rw [n1] at hk
    simp only [List.mem_cons, List.not_mem_nil, or_false] at hk
    rcases hk with a | a | a | a
    · omega
    · rw [a]
      rcases n2 with b | b
      · exact tm _ b
      · omega
    · rw [a]; exact tm t n3
    · rw [a]; exact tm u n4
  by_cases q13 : q = 13 ∨ q = 14 ∨ q = 15
  · obtain ⟨t, u, n1, n2, n3⟩ := h.2.2.2.2.2.2.2.2.2.2.2.1 q13
    rw [n1] at hk
    simp only [List.mem_cons, List.not_mem_nil, or_false] at hk
    rcases hk with a | a
    · rw [a]; exact tm t n2
    · rw [a]; exact tm u n3
  by_cases q18 : q = 18
  · have n1 := h.2.2.2.2.2.2.2.2.2.2.2.2.1 q18
    rw [n1] at hk
    simp only [List.mem_cons, List.not_mem_nil, or_false] at hk
    omega
  · have n1 := h.2.2.2.2.2.2.2.2.2.2.2.2.2 (by omega)
    rw [n1] at hk
    cases hk
section SB
variable {P : Nat → Nat} {ck cp cv cs cn cw : Nat → Int32} {nc : Nat}
theorem nd_le {X : Fo} {c : Nat} : nd X ≤ nd (.pow X c) := by
  show max (ndp X).1 (ndp X).2 ≤ max 0 (if c % 32 = 5 ∨ c % 32 = 10 ∨ c % 32 = 11 ∨ c % 32 = 12 ∨ c % 32 = 13 then max (1 + (ndp X).1) (ndp X).2 else if c % 32 = 14 ∧ (rk X).head? = some 14 then max (ndp X).1 (1 + (ndp X).2) else 1 + max (ndp X).1 (ndp X).2)
  split
  · omega
  · split <;> omega
theorem sub_at (F : Fo) : ∀ (p : Nat) (wI : Int32), pr P ck cp cs cw F p wI → pc cn F p → vl nc cv F p → wf F → (∀ k, k ∈ rk F → 1 ≤ k ∧ k ≤ 19) → ∀ j, p ≤ j → j < p + fs F → ∃ X c wh, pr P ck cp cs cw (.pow X c) j wh ∧ (wh = wI ∨ ∃ w, w < j ∧ wh = nI w) ∧ pc cn (.pow X c) j ∧ vl nc cv (.pow X c) j ∧ wf (.pow X c) ∧ nd (.pow X c) ≤ nd F ∧ (1 ≤ c % 32 ∧ c % 32 ≤ 19) ∧ j + (fs X + 1) ≤ p + fs F := by
  induction F with
  | add X Y hX hY =>
    intro p wI h1 h2 h3 h4 h5 j j1 j2
    have j2' : j < p + (fs X + fs Y) := j2
    have hn : nd (.add X Y) = max (nd X) (nd Y) := nd_add
    rcases Nat.lt_or_ge j (p + fs X) with q | q
    · obtain ⟨A, c, wh, a1, a2, a3, a4, a5, a6, a7, a8⟩ := hX p wI h1.1 h2.1 h3.1 h4.1 (fun k hk => h5 k (List.mem_append_left _ hk)) j j1 q
      exact ⟨A, c, wh, a1, a2, a3, a4, a5, by omega, a7, by show j + (fs A + 1) ≤ p + (fs X + fs Y); omega⟩
    · obtain ⟨A, c, wh, a1, a2, a3, a4, a5, a6, a7, a8⟩ := hY (p + fs X) wI h1.2 h2.2 h3.2 h4.2 (fun k hk => h5 k (List.mem_append_right _ hk)) j q (by omega)
      exact ⟨A, c, wh, a1, a2, a3, a4, a5, by omega, a7, by show j + (fs A + 1) ≤ p + (fs X + fs Y); omega⟩
  | pow X c hX =>
    intro p wI h1 h2 h3 h4 h5 j j1 j2
    have j2' : j < p + (fs X + 1) := j2
    have hk := h5 (c % 32) (List.mem_cons.mpr (Or.inl rfl))
    by_cases q : j = p
    · subst q
      exact ⟨X, c, wI, h1, Or.inl rfl, h2, h3, h4, Nat.le_refl _, hk, Nat.le_refl _⟩
    · obtain ⟨A, c', wh, a1, a2, a3, a4, a5, a6, a7, a8⟩ := hX (p + 1) (nI p) h1.2.2.2.2 h2.2 h3.2.2 h4.2 (ns_all h4.1 hk.2) j (by omega) (by omega)
      refine ⟨A, c', wh, a1, ?_, a3, a4, a5, Nat.le_trans a6 nd_le, a7, by show j + (fs A + 1) ≤ p + (fs X + 1); omega⟩
      rcases a2 with b | ⟨w, b1, b2⟩
      · exact Or.inr ⟨p, by omega, b⟩
      · exact Or.inr ⟨w, b1, b2⟩
  | _ => intro p wI h1 h2 h3 h4 h5 j j1 j2; exact absurd j2 (by show ¬ j < p + 0; omega)
end SB
/-- byte i of what was written -/
def bo : List Nat → Nat → Nat
  | [], _ => 0
  | c :: M, i => if i = M.length then c else bo M i
theorem bo_lt (L : List Nat) : (∀ x, x ∈ L → x < 128) → ∀ i, i < L.length → bo L i < 128 := by
  induction L with
  | nil => intro _ i hi; exact absurd hi (Nat.not_lt_zero _)
  | cons c M ih =>
    intro h i hi
    rw [List.length_cons] at hi
    show (if i = M.length then c else bo M i) < 128
    by_cases q : i = M.length
    · rw [if_pos q]; exact h c (List.mem_cons.mpr (Or.inl rfl))
    · rw [if_neg q]; exact ih (fun x hx => h x (List.mem_cons.mpr (Or.inr hx))) i (by omega)
theorem RS_bo {f row : Nat → Int32} (L : List Nat) : RS f row L → ∀ i, i < L.length → row i = f (bo L i) := by
  induction L with
  | nil => intro _ i hi; exact absurd hi (Nat.not_lt_zero _)
  | cons c M ih =>
    intro h i hi
    rw [List.length_cons] at hi
    show row i = f (if i = M.length then c else bo M i)
    by_cases q : i = M.length
    · rw [if_pos q, q]; exact h.1
    · rw [if_neg q]; exact ih h.2 i (by omega)
section OB
variable {ck cp cv cs cn cw mk mp mv ms mw mc csp cst nw ol mle mst : Nat → Int32} {cc : Int32} {t nc : Nat} {st sp : Nat → Nat}
/-- write, of a node that is there -/
theorem o_write (h : TRl nc ck cp cv cs cn cw cc mk mp mv ms mw mc t) (hT : TB nc st sp) (hRc : RNc csp cst nw ol nc st sp) (hRr : RNr mle mst nc st sp) {k nt : Nat} (hcc : cc = nI nt) (hnt : nt < 2 ^ 31) (hk : k < nt) {srow drow wrow out : Nat → Int32} {slen sov dlen dov wlen osz : Int32} : ∃ (r : Int32) (L : List Nat) (X : Fo) (c : Nat) (dr : Nat → Int32) (dl do' : Int32) (o : Nat → Int32) (os : Int32), vl nc cv (.pow X c) k ∧ L = rd st sp cv (.pow X c) k 99 0 0 0 [] ∧
    ((8000 < L.length ∧ f_Wr_show ck cp cv cs cn cw cc csp cst (nI nc) srow slen sov drow dlen dov (nI k) = some (r, srow, slen, sov, dr, dl, do') ∧ f_Mo_write mk mv ms mc mle mst wrow wlen out osz (nI t) (nI k) = some (r, wrow, wlen, o, os)) ∨
     (∃ (sr wr : Nat → Int32) (so : Int32), f_Wr_show ck cp cv cs cn cw cc csp cst (nI nc) srow slen sov drow dlen dov (nI k) = some (r, sr, nI L.length, so, srow, slen, sov) ∧ f_Mo_write mk mv ms mc mle mst wrow wlen out osz (nI t) (nI k) = some (r, wr, nI L.length, o, os) ∧ RB sr (nI L.length) (bo L) L.length ∧ RM wr (nI L.length) (bo L) L.length)) := by
  obtain ⟨P, X, h1, ⟨h2, hw, hv⟩, h3, h4, h5, h6, h7⟩ := h
  have ent : nt = fs X + 1 := (nI_eq hnt (by omega)).mp (hcc.symm.trans h3)
  subst ent
  subst h3
  have hR : HR mk mv ms mc ck cs cv t (fs X + 1) := ⟨h1, h2, h4, fun j hj => ⟨(h7 j hj).1, (h7 j hj).2.2.2.1, (h7 j hj).2.2.1⟩⟩
  have hns : ns 0 (rk X) := ⟨fun _ => hw.2.2, fun e => by omega, fun e => by omega, fun e => by omega, fun e => by omega, fun e => by omega, fun e => by omega, fun e => by omega, fun e => by omega, fun e => by omega, fun e => by omega, fun e => by omega, fun e => by omega, fun e => by omega⟩
  have hwf : wf (.pow X 0) := ⟨hns, hw.1⟩
  have hnd : nd (.pow X 0) = 1 + nd X := nd_pow ⟨by decide, by decide⟩
  have hnd2 := hw.2.1
  -- the node
  have nod : ∃ Y c wh, pr P ck cp cs cw (.pow Y c) k wh ∧ (wh = -1 ∨ ∃ w, w < k ∧ wh = nI w) ∧ pc cn (.pow Y c) k ∧ vl nc cv (.pow Y c) k ∧ wf (.pow Y c) ∧ k + (fs Y + 1) ≤ fs X + 1 ∧ nd (.pow Y c) ≤ 320 ∧ ((1 ≤ c % 32 ∧ c % 32 ≤ 19) ∨ (c % 32 = 0 ∧ k + (fs Y + 1) = fs X + 1)) := by
    by_cases q : k = 0
    · subst q
      exact ⟨X, 0, -1, h5, Or.inl rfl, h6, hv, hwf, by omega, by omega, Or.inr ⟨rfl, by omega⟩⟩
    · obtain ⟨Y, c, wh, a1, a2, a3, a4, a5, a6, a7, a8⟩ := sub_at X 1 (nI 0) h5.2.2.2.2 h6.2 hv.2.2 hw.1 (fun j hj => by have := hw.2.2 j hj; unfold dcK at this; omega) k (by omega) (by omega)
      refine ⟨Y, c, wh, a1, ?_, a3, a4, a5, by omega, by omega, Or.inl a7⟩
      rcases a2 with b | b
      · exact Or.inr ⟨0, by omega, b⟩
      · exact Or.inr b
  obtain ⟨Y, c, wh, a1, a2, a3, a4, a5, a6, a7, a8⟩ := nod
  have hx : TF ck cs cv nc (fs X + 1) (rno (k, Y, c)) (k, Y, c).1 := ⟨ks_pr _ _ _ a1, a4, a5, a6⟩
  -- the class
  obtain ⟨dr, dl, dv, e1, f1⟩ := w_walk (row := drow) (csp := csp) (cst := cst) (nw := nw) (ol := ol) hT hRc h2 a1 a2 a3 a4 a6
  -- the reference
  have ref : ∃ o os, f_Mo_show 320 mk mv ms mc mle mst out 0 (nI t) (nI k) = some (o, os) ∧ OT o os (rd st sp cv (.pow Y c) k 99 0 0 0 []) := by
    rcases a8 with b | ⟨b1, b2⟩
    · exact m_sh hR hT hRr 320 (k, Y, c) [] out 0 hx a7 b rfl OT_nil
    · exact m_txt (D := 319) (T := f_Mo_show 319) (x := (k, Y, c)) hR (m_sh hR hT hRr 319) hx b1 b2 a7 OT_nil
  obtain ⟨o, os, e2, f2⟩ := ref
  by_cases long : 8000 < (rd st sp cv (.pow Y c) k 99 0 0 0 []).length
  · refine ⟨-1, _, Y, c, dr, dl, dv, o, os, a4, rfl, Or.inl ⟨long, ?_, ?_⟩⟩
    · unfold f_Wr_show f_By_clear
      rw [jb_some, e1, jb_some, if_neg (show ¬ dv = 0 by rw [f1.2.2.1, if_pos long]; decide)]
    · unfold f_Mo_write
      rw [p_Mohas h1 (by omega) h4 hk, jb_some, if_neg n10, e2, jb_some, if_neg (show ¬ os ≤ 8000 from Int32.not_le.mpr ((OT_sz f2).mpr long))]
  · have hle : (rd st sp cv (.pow Y c) k 99 0 0 0 []).length ≤ 8000 := by omega
    generalize hL : rd st sp cv (.pow Y c) k 99 0 0 0 [] = L at *
    have g1 := trn_le hle f1.2.2.2
    have g2 := trn_le (show L.length ≤ 8001 by omega) f2.2.2
    have d1 : dl = nI L.length := by rw [f1.2.1, Nat.min_eq_left hle]
    have d2 : dv = 0 := by rw [f1.2.2.1, if_neg long]
    have d3 : os = nI L.length := by rw [f2.2.1, Nat.min_eq_left (by omega)]
    subst d1 d2 d3
    have b1 := bo_lt L f1.1
    have s1 := RS_bo L g1
    have s2 := RS_bo L g2
    obtain ⟨r, hr, wr, rfl, hRM⟩ := jl_for (body := Mo_write_b44_b mk mv ms mc mle mst (nI L.length) o (nI L.length)) (fun j s => s.2 = nI j ∧ ∀ i, i < j → s.1 i = nI (bo L i)) (fun r => ∃ wr, r = (nI L.length, wr, nI L.length, o, nI L.length) ∧ RM wr (nI L.length) (bo L) L.length) L.length (by
      intro j s hj hI
      obtain ⟨s1', s2'⟩ := s
      obtain ⟨e1', hR'⟩ := hI
      dsimp only at e1' hR'
      subst e1'
      left
      refine ⟨(upd s1' j (nI (bo L j)), nI (j + 1)), ?_, rfl, fun i hi => ?_⟩
      · show Mo_write_b44_s mk mv ms mc mle mst (nI L.length) o (nI L.length) s1' (nI j) = _
        unfold Mo_write_b44_s
        rw [if_neg (nI_ge (by omega) (by omega)), if_neg (nI_in (show j < 8001 by omega) (by decide)), if_neg (nI_in (show j < 8000 by omega) (by decide)), nI_clamp (by omega), s2 j hj, nI_1]
      · by_cases hik : i = j
        · subst hik; exact pk_us
        · show upd s1' j _ i = _
          rw [pk_un hik]; exact hR' i (by omega)) (by
      intro s hI
      obtain ⟨s1', s2'⟩ := s
      obtain ⟨e1', hR'⟩ := hI
      dsimp only at e1' hR'
      subst e1'
      refine ⟨_, ?_, s1', rfl, hle, rfl, fun i hi => ⟨by have := b1 i hi; omega, hR' i hi⟩⟩
      show Mo_write_b44_s mk mv ms mc mle mst (nI L.length) o (nI L.length) s1' (nI L.length) = _
      unfold Mo_write_b44_s
      rw [if_pos (Int32.le_refl _)]) 0 (wrow, nI 0) (Nat.zero_le _) ⟨rfl, fun i hi => absurd hi (Nat.not_lt_zero _)⟩
    refine ⟨nI L.length, L, Y, c, dr, nI L.length, 0, o, nI L.length, a4, ?_, Or.inr ⟨dr, wr, 0, ?_, ?_, ⟨hle, rfl, fun i hi => ⟨by have := b1 i hi; omega, s1 i hi⟩⟩, hRM⟩⟩
    · exact hL.symm
    · unfold f_Wr_show f_By_clear
      rw [jb_some, e1, jb_some, if_pos rfl]
    · unfold f_Mo_write
      rw [p_Mohas h1 (by omega) h4 hk, jb_some, if_neg n10, e2, jb_some, if_pos (show nI L.length ≤ 8000 from nI_le (a := L.length) (b := 8000) hle (by omega))]
      exact hr
end OB
