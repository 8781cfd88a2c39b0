-- the other rules
section AM
variable {K P V : Nat → Nat} {m : Nat} {tk tp tv gk gp gv gs gn wa bp bf : Nat → Int32} {G : List (Nat × Nat × Nat)} {w : List Nat} {b : List (Nat × Nat)} {d i r q k : Nat} {rs : List Nat}
theorem k_ne (h : HT K P V m tk tp tv) {a : Nat} (ha : a < 40) (hk : K i ≠ a) : ¬ nI (K i) = nI a := fun x => hk ((nI_eq (by have := h.2.2 i; omega) (by omega)).mp x)
theorem p_skip30 (h : HT K P V m tk tp tv) (hi : i ≤ m) (hk : K i ≠ 15) : TK1 K P V m tk tp tv 30 i G w b d i G w b d := by
  intro gk gp gv gs gn wa bp bf hA
  refine ⟨gk, gp, gv, gs, gn, wa, bp, bf, ?_, hA⟩
  unfold f_Pa_take
  rw [if_pos (show nI 30 < 60 by decide), if_pos (show (30 : Int32) ≤ nI 30 by decide), if_pos (show nI 30 = 30 by decide)]
  rw [show f_Pa_isNot tk (nI (m + 1)) (nI i) 15 = some 1 from t_isN (r := 15) h hi (by decide) hk, jb_some, if_neg (show ¬ (1 : Int32) = 0 by decide)]
  exact fst_some nb1
theorem p_skip34 (h : HT K P V m tk tp tv) (hi : i ≤ m) (hk : K i ≠ 2) : TK1 K P V m tk tp tv 34 i G w b d i G w b d := by
  intro gk gp gv gs gn wa bp bf hA
  refine ⟨gk, gp, gv, gs, gn, wa, bp, bf, ?_, hA⟩
  unfold f_Pa_take
  rw [if_pos (show nI 34 < 60 by decide), if_pos (show (30 : Int32) ≤ nI 34 by decide), if_neg (show ¬ nI 34 = 30 by decide), if_neg (show ¬ nI 34 = 31 by decide), if_neg (show ¬ nI 34 = 32 by decide), if_neg (show ¬ nI 34 = 33 by decide), if_pos (show nI 34 = 34 by decide)]
  rw [show f_Pa_isNot tk (nI (m + 1)) (nI i) 2 = some 1 from t_isN (r := 2) h hi (by decide) hk, jb_some, if_neg (show ¬ (1 : Int32) = 0 by decide)]
  exact fst_some nb1
theorem p_skip35 (h : HT K P V m tk tp tv) (hi : i ≤ m) (hk : K i ≠ 23) : TK1 K P V m tk tp tv 35 i G w b d i G w b d := by
  intro gk gp gv gs gn wa bp bf hA
  refine ⟨gk, gp, gv, gs, gn, wa, bp, bf, ?_, hA⟩
  unfold f_Pa_take
  rw [if_pos (show nI 35 < 60 by decide), if_pos (show (30 : Int32) ≤ nI 35 by decide), if_neg (show ¬ nI 35 = 30 by decide), if_neg (show ¬ nI 35 = 31 by decide), if_neg (show ¬ nI 35 = 32 by decide), if_neg (show ¬ nI 35 = 33 by decide), if_neg (show ¬ nI 35 = 34 by decide), if_pos (show nI 35 = 35 by decide)]
  rw [show f_Pa_isNot tk (nI (m + 1)) (nI i) 23 = some 1 from t_isN (r := 23) h hi (by decide) hk, jb_some, if_neg (show ¬ (1 : Int32) = 0 by decide)]
  exact fst_some nb1
theorem p_row30 (h : HT K P V m tk tp tv) (hi : i ≤ m) (hk : K i = 15) (hw : w.length ≤ 4080) : TK1 K P V m tk tp tv 30 i G w b d i G ([31, 30] ++ w) b d := by
  intro gk gp gv gs gn wa bp bf hA
  obtain ⟨wa', g1, g2⟩ := a_await (k := 6) (rs := [31, 30]) (by decide) rfl (by show w.length + 2 ≤ 4096; omega) hA.2.1
  refine ⟨gk, gp, gv, gs, gn, wa', bp, bf, ?_, hA.1, g2, hA.2.2⟩
  unfold f_Pa_take
  rw [if_pos (show nI 30 < 60 by decide), if_pos (show (30 : Int32) ≤ nI 30 by decide), if_pos (show nI 30 = 30 by decide)]
  rw [show f_Pa_isNot tk (nI (m + 1)) (nI i) 15 = some 0 from t_isY (r := 15) h hi (by decide) hk, jb_some, if_pos (show (0 : Int32) = 0 from rfl), g1, jb_some, if_neg (show ¬ (1 : Int32) = 0 by decide)]
  exact fst_some nb1
theorem p_row34 (h : HT K P V m tk tp tv) (hi : i ≤ m) (hk : K i = 2) (hw : w.length ≤ 4080) : TK1 K P V m tk tp tv 34 i G w b d i G ([33, 34] ++ w) b d := by
  intro gk gp gv gs gn wa bp bf hA
  obtain ⟨wa', g1, g2⟩ := a_await (k := 9) (rs := [33, 34]) (by decide) rfl (by show w.length + 2 ≤ 4096; omega) hA.2.1
  refine ⟨gk, gp, gv, gs, gn, wa', bp, bf, ?_, hA.1, g2, hA.2.2⟩
  unfold f_Pa_take
  rw [if_pos (show nI 34 < 60 by decide), if_pos (show (30 : Int32) ≤ nI 34 by decide), if_neg (show ¬ nI 34 = 30 by decide), if_neg (show ¬ nI 34 = 31 by decide), if_neg (show ¬ nI 34 = 32 by decide), if_neg (show ¬ nI 34 = 33 by decide), if_pos (show nI 34 = 34 by decide)]
  rw [show f_Pa_isNot tk (nI (m + 1)) (nI i) 2 = some 0 from t_isY (r := 2) h hi (by decide) hk, jb_some, if_pos (show (0 : Int32) = 0 from rfl), g1, jb_some, if_neg (show ¬ (1 : Int32) = 0 by decide)]
  exact fst_some nb1
theorem p_row35 (h : HT K P V m tk tp tv) (hi : i ≤ m) (hk : K i = 23) (hw : w.length ≤ 4080) (hb : b.length < 2048) : TK1 K P V m tk tp tv 35 i G w b d i G ([23, 33, 17, 38, 65, 35] ++ w) ((i, G.length) :: b) d := by
  intro gk gp gv gs gn wa bp bf hA
  obtain ⟨wa', g1, g2⟩ := t_begin (k := 10) (rs := [23, 33, 17, 38, 65, 35]) (bp := bp) (bf := bf) h hi (by decide) rfl (by show w.length + 6 ≤ 4096; omega) hb hA.2.1 G.length
  refine ⟨gk, gp, gv, gs, gn, wa', _, _, ?_, hA.1, g2, RS_cons (x := (i, G.length)) hA.2.2.1, RS_cons (x := (i, G.length)) hA.2.2.2⟩
  unfold f_Pa_take
  rw [if_pos (show nI 35 < 60 by decide), if_pos (show (30 : Int32) ≤ nI 35 by decide), if_neg (show ¬ nI 35 = 30 by decide), if_neg (show ¬ nI 35 = 31 by decide), if_neg (show ¬ nI 35 = 32 by decide), if_neg (show ¬ nI 35 = 33 by decide), if_neg (show ¬ nI 35 = 34 by decide), if_pos (show nI 35 = 35 by decide)]
  rw [show f_Pa_isNot tk (nI (m + 1)) (nI i) 23 = some 0 from t_isY (r := 23) h hi (by decide) hk, jb_some, if_pos (show (0 : Int32) = 0 from rfl), g1, jb_some, if_neg (show ¬ (1 : Int32) = 0 by decide)]
  exact fst_some nb1
theorem p_row31 (h : HT K P V m tk tp tv) (hi : i ≤ m) (hw : w.length ≤ 4080) (hb : b.length < 2048) : TK1 K P V m tk tp tv 31 i G w b d i G ([15, 33, 34, 17, 38, 16, 68] ++ w) ((i, G.length) :: b) d := by
  intro gk gp gv gs gn wa bp bf hA
  obtain ⟨wa', g1, g2⟩ := t_begin (k := 7) (rs := [15, 33, 34, 17, 38, 16, 68]) (bp := bp) (bf := bf) h hi (by decide) rfl (by show w.length + 7 ≤ 4096; omega) hb hA.2.1 G.length
  refine ⟨gk, gp, gv, gs, gn, wa', _, _, ?_, hA.1, g2, RS_cons (x := (i, G.length)) hA.2.2.1, RS_cons (x := (i, G.length)) hA.2.2.2⟩
  unfold f_Pa_take
  rw [if_pos (show nI 31 < 60 by decide), if_pos (show (30 : Int32) ≤ nI 31 by decide), if_neg (show ¬ nI 31 = 30 by decide), if_pos (show nI 31 = 31 by decide)]
  rw [g1, jb_some]
  exact fst_some nb1
theorem p_row32 (h : HT K P V m tk tp tv) (hi : i ≤ m) (hk : K i = 2) (hw : w.length ≤ 4080) (hb : b.length < 2048) : TK1 K P V m tk tp tv 32 i G w b d i G ([33, 34, 17, 38, 68] ++ w) ((i, G.length) :: b) d := by
  intro gk gp gv gs gn wa bp bf hA
  obtain ⟨wa', g1, g2⟩ := t_begin (k := 8) (rs := [33, 34, 17, 38, 68]) (bp := bp) (bf := bf) h hi (by decide) rfl (by show w.length + 5 ≤ 4096; omega) hb hA.2.1 G.length
  refine ⟨gk, gp, gv, gs, gn, wa', _, _, ?_, hA.1, g2, RS_cons (x := (i, G.length)) hA.2.2.1, RS_cons (x := (i, G.length)) hA.2.2.2⟩
  unfold f_Pa_take
  rw [if_pos (show nI 32 < 60 by decide), if_pos (show (30 : Int32) ≤ nI 32 by decide), if_neg (show ¬ nI 32 = 30 by decide), if_neg (show ¬ nI 32 = 31 by decide), if_pos (show nI 32 = 32 by decide)]
  unfold f_Pa_expandBinders
  rw [show f_Pa_isNot tk (nI (m + 1)) (nI i) 2 = some 0 from t_isY (r := 2) h hi (by decide) hk, jb_some, if_pos (show (0 : Int32) = 0 from rfl), g1, jb_some, jb_some]
  exact fst_some (by rw [nb1, nb1])
theorem p_row32g (h : HT K P V m tk tp tv) (hi : i ≤ m) (hk : K i ≠ 2) (hw : w.length ≤ 4080) : TK1 K P V m tk tp tv 32 i G w b d i G ([31, 30] ++ w) b d := by
  intro gk gp gv gs gn wa bp bf hA
  obtain ⟨wa', g1, g2⟩ := a_await (k := 6) (rs := [31, 30]) (by decide) rfl (by show w.length + 2 ≤ 4096; omega) hA.2.1
  refine ⟨gk, gp, gv, gs, gn, wa', bp, bf, ?_, hA.1, g2, hA.2.2⟩
  unfold f_Pa_take
  rw [if_pos (show nI 32 < 60 by decide), if_pos (show (30 : Int32) ≤ nI 32 by decide), if_neg (show ¬ nI 32 = 30 by decide), if_neg (show ¬ nI 32 = 31 by decide), if_pos (show nI 32 = 32 by decide)]
  unfold f_Pa_expandBinders
  rw [show f_Pa_isNot tk (nI (m + 1)) (nI i) 2 = some 1 from t_isN (r := 2) h hi (by decide) hk, jb_some, if_neg (show ¬ (1 : Int32) = 0 by decide), g1, jb_some, jb_some]
  exact fst_some (by rw [nb1, nb1])
theorem p_row36 (h : HT K P V m tk tp tv) (hi : i ≤ m) (hk : K i = 17) (hw : w.length ≤ 4080) : TK1 K P V m tk tp tv 36 i G w b d i G ([17, 38] ++ w) b d := by
  intro gk gp gv gs gn wa bp bf hA
  obtain ⟨wa', g1, g2⟩ := a_await (k := 11) (rs := [17, 38]) (by decide) rfl (by show w.length + 2 ≤ 4096; omega) hA.2.1
  refine ⟨gk, gp, gv, gs, gn, wa', bp, bf, ?_, hA.1, g2, hA.2.2⟩
  unfold f_Pa_take
  rw [if_pos (show nI 36 < 60 by decide), if_pos (show (30 : Int32) ≤ nI 36 by decide), if_neg (show ¬ nI 36 = 30 by decide), if_neg (show ¬ nI 36 = 31 by decide), if_neg (show ¬ nI 36 = 32 by decide), if_neg (show ¬ nI 36 = 33 by decide), if_neg (show ¬ nI 36 = 34 by decide), if_neg (show ¬ nI 36 = 35 by decide), if_pos (show nI 36 = 36 by decide)]
  unfold f_Pa_expandTypeOrNothing
  rw [show f_Pa_isNot tk (nI (m + 1)) (nI i) 17 = some 0 from t_isY (r := 17) h hi (by decide) hk, jb_some, if_pos (show (0 : Int32) = 0 from rfl), g1, jb_some, jb_some]
  exact fst_some (by rw [nb1, nb1])
theorem p_none36 (h : HT K P V m tk tp tv) (hi : i ≤ m) (hk : K i ≠ 17) (hG : G.length ≤ 8000) : TK1 K P V m tk tp tv 36 i G w b d i ((19, 1, 0) :: G) w b d := by
  intro gk gp gv gs gn wa bp bf hA
  refine ⟨_, _, _, _, _, wa, bp, bf, ?_, RG_cons (x := (19, 1, 0)) ⟨fun q => by rcases q with a | a <;> exact absurd a (by decide), fun a => absurd a (by decide)⟩ hA.1, hA.2⟩
  unfold f_Pa_take
  rw [if_pos (show nI 36 < 60 by decide), if_pos (show (30 : Int32) ≤ nI 36 by decide), if_neg (show ¬ nI 36 = 30 by decide), if_neg (show ¬ nI 36 = 31 by decide), if_neg (show ¬ nI 36 = 32 by decide), if_neg (show ¬ nI 36 = 33 by decide), if_neg (show ¬ nI 36 = 34 by decide), if_neg (show ¬ nI 36 = 35 by decide), if_pos (show nI 36 = 36 by decide)]
  unfold f_Pa_expandTypeOrNothing
  have g := a_add (gk := gk) (gp := gp) (gv := gv) (gn := gn) (a1 := 19) (a2 := -1) (a3 := 0) (k := 0) hG (Nat.le_refl _) hA.1.2.2.2.1 (show G.length - G.length = 0 by omega)
  rw [show G.length - G.length + 1 = 1 by omega] at g
  rw [show f_Pa_isNot tk (nI (m + 1)) (nI i) 17 = some 1 from t_isN (r := 17) h hi (by decide) hk, jb_some, if_neg (show ¬ (1 : Int32) = 0 by decide), g, jb_some, jb_some]
  exact fst_some (by rw [nb1, nb1])
theorem p_row37_10 (h : HT K P V m tk tp tv) (hi : i ≤ m) (hk : K i = 10) (hw : w.length ≤ 4080) (hb : b.length < 2048) : TK1 K P V m tk tp tv 37 i G w b d i G ([10, 32, 19, 37, 70] ++ w) ((i, G.length) :: b) d := by
  intro gk gp gv gs gn wa bp bf hA
  obtain ⟨wa', g1, g2⟩ := t_begin (k := 12) (rs := [10, 32, 19, 37, 70]) (bp := bp) (bf := bf) h hi (by decide) rfl (by show w.length + 5 ≤ 4096; omega) hb hA.2.1 G.length
  refine ⟨gk, gp, gv, gs, gn, wa', _, _, ?_, hA.1, g2, RS_cons (x := (i, G.length)) hA.2.2.1, RS_cons (x := (i, G.length)) hA.2.2.2⟩
  unfold f_Pa_take
  rw [if_pos (show nI 37 < 60 by decide), if_pos (show (30 : Int32) ≤ nI 37 by decide), if_neg (show ¬ nI 37 = 30 by decide), if_neg (show ¬ nI 37 = 31 by decide), if_neg (show ¬ nI 37 = 32 by decide), if_neg (show ¬ nI 37 = 33 by decide), if_neg (show ¬ nI 37 = 34 by decide), if_neg (show ¬ nI 37 = 35 by decide), if_neg (show ¬ nI 37 = 36 by decide), if_pos (show nI 37 = 37 by decide)]
  unfold f_Pa_expandTerm
  rw [t_kind h hi, jb_some, if_pos (show nI (K i) = 10 by rw [hk]; rfl), g1, jb_some, jb_some]
  exact fst_some (by rw [nb1, nb1])
theorem p_row37_11 (h : HT K P V m tk tp tv) (hi : i ≤ m) (hk : K i = 11) (hw : w.length ≤ 4080) (hb : b.length < 2048) : TK1 K P V m tk tp tv 37 i G w b d i G ([11, 32, 21, 37, 71] ++ w) ((i, G.length) :: b) d := by
  intro gk gp gv gs gn wa bp bf hA
  obtain ⟨wa', g1, g2⟩ := t_begin (k := 13) (rs := [11, 32, 21, 37, 71]) (bp := bp) (bf := bf) h hi (by decide) rfl (by show w.length + 5 ≤ 4096; omega) hb hA.2.1 G.length
  refine ⟨gk, gp, gv, gs, gn, wa', _, _, ?_, hA.1, g2, RS_cons (x := (i, G.length)) hA.2.2.1, RS_cons (x := (i, G.length)) hA.2.2.2⟩
  unfold f_Pa_take
  rw [if_pos (show nI 37 < 60 by decide), if_pos (show (30 : Int32) ≤ nI 37 by decide), if_neg (show ¬ nI 37 = 30 by decide), if_neg (show ¬ nI 37 = 31 by decide), if_neg (show ¬ nI 37 = 32 by decide), if_neg (show ¬ nI 37 = 33 by decide), if_neg (show ¬ nI 37 = 34 by decide), if_neg (show ¬ nI 37 = 35 by decide), if_neg (show ¬ nI 37 = 36 by decide), if_pos (show nI 37 = 37 by decide)]
  unfold f_Pa_expandTerm
  rw [t_kind h hi, jb_some, if_neg (show ¬ nI (K i) = 10 from k_ne (a := 10) h (by decide) (by omega)), if_pos (show nI (K i) = 11 by rw [hk]; rfl), g1, jb_some, jb_some]
  exact fst_some (by rw [nb1, nb1])
theorem p_row37_12 (h : HT K P V m tk tp tv) (hi : i ≤ m) (hk : K i = 12) (hw : w.length ≤ 4080) (hb : b.length < 2048) : TK1 K P V m tk tp tv 37 i G w b d i G ([12, 33, 36, 18, 38, 13, 37, 72] ++ w) ((i, G.length) :: b) d := by
  intro gk gp gv gs gn wa bp bf hA
  obtain ⟨wa', g1, g2⟩ := t_begin (k := 14) (rs := [12, 33, 36, 18, 38, 13, 37, 72]) (bp := bp) (bf := bf) h hi (by decide) rfl (by show w.length + 8 ≤ 4096; omega) hb hA.2.1 G.length
  refine ⟨gk, gp, gv, gs, gn, wa', _, _, ?_, hA.1, g2, RS_cons (x := (i, G.length)) hA.2.2.1, RS_cons (x := (i, G.length)) hA.2.2.2⟩
  unfold f_Pa_take
  rw [if_pos (show nI 37 < 60 by decide), if_pos (show (30 : Int32) ≤ nI 37 by decide), if_neg (show ¬ nI 37 = 30 by decide), if_neg (show ¬ nI 37 = 31 by decide), if_neg (show ¬ nI 37 = 32 by decide), if_neg (show ¬ nI 37 = 33 by decide), if_neg (show ¬ nI 37 = 34 by decide), if_neg (show ¬ nI 37 = 35 by decide), if_neg (show ¬ nI 37 = 36 by decide), if_pos (show nI 37 = 37 by decide)]
  unfold f_Pa_expandTerm
  rw [t_kind h hi, jb_some, if_neg (show ¬ nI (K i) = 10 from k_ne (a := 10) h (by decide) (by omega)), if_neg (show ¬ nI (K i) = 11 from k_ne (a := 11) h (by decide) (by omega)), if_pos (show nI (K i) = 12 by rw [hk]; rfl), g1, jb_some, jb_some]
  exact fst_some (by rw [nb1, nb1])
theorem p_row37 (h : HT K P V m tk tp tv) (hi : i ≤ m) (hk : K i ≠ 10 ∧ K i ≠ 11 ∧ K i ≠ 12) (hw : w.length ≤ 4080) : TK1 K P V m tk tp tv 37 i G w b d i G ([40, 41] ++ w) b d := by
  intro gk gp gv gs gn wa bp bf hA
  obtain ⟨wa', g1, g2⟩ := a_await (k := 15) (rs := [40, 41]) (by decide) rfl (by show w.length + 2 ≤ 4096; omega) hA.2.1
  refine ⟨gk, gp, gv, gs, gn, wa', bp, bf, ?_, hA.1, g2, hA.2.2⟩
  unfold f_Pa_take
  rw [if_pos (show nI 37 < 60 by decide), if_pos (show (30 : Int32) ≤ nI 37 by decide), if_neg (show ¬ nI 37 = 30 by decide), if_neg (show ¬ nI 37 = 31 by decide), if_neg (show ¬ nI 37 = 32 by decide), if_neg (show ¬ nI 37 = 33 by decide), if_neg (show ¬ nI 37 = 34 by decide), if_neg (show ¬ nI 37 = 35 by decide), if_neg (show ¬ nI 37 = 36 by decide), if_pos (show nI 37 = 37 by decide)]
  unfold f_Pa_expandTerm
  rw [t_kind h hi, jb_some, if_neg (show ¬ nI (K i) = 10 from k_ne (a := 10) h (by decide) (by omega)), if_neg (show ¬ nI (K i) = 11 from k_ne (a := 11) h (by decide) (by omega)), if_neg (show ¬ nI (K i) = 12 from k_ne (a := 12) h (by decide) (by omega)), g1, jb_some, jb_some]
  exact fst_some (by rw [nb1, nb1])
theorem p_row38 (hd : d < 100) (hw : w.length ≤ 4080) : TK1 K P V m tk tp tv 38 i G w b d i G ([37, 39] ++ w) b (d + 1) := by
  intro gk gp gv gs gn wa bp bf hA
  obtain ⟨wa', g1, g2⟩ := a_await (k := 16) (rs := [37, 39]) (by decide) rfl (by show w.length + 2 ≤ 4096; omega) hA.2.1
  refine ⟨gk, gp, gv, gs, gn, wa', bp, bf, ?_, hA.1, g2, hA.2.2⟩
  unfold f_Pa_take
  rw [if_pos (show nI 38 < 60 by decide), if_pos (show (30 : Int32) ≤ nI 38 by decide), if_neg (show ¬ nI 38 = 30 by decide), if_neg (show ¬ nI 38 = 31 by decide), if_neg (show ¬ nI 38 = 32 by decide), if_neg (show ¬ nI 38 = 33 by decide), if_neg (show ¬ nI 38 = 34 by decide), if_neg (show ¬ nI 38 = 35 by decide), if_neg (show ¬ nI 38 = 36 by decide), if_neg (show ¬ nI 38 = 37 by decide), if_pos (show nI 38 = 38 by decide)]
  unfold f_Pa_goDeeper
  rw [if_pos (show nI d < 100 from nI_lt (b := 100) hd (by omega)), g1, jb_some, jb_some, nI_1]
  exact fst_some (by rw [nb1, nb1])
theorem p_deepF (hd : 100 ≤ d) (hd2 : d < 1000) : TKF K P V m tk tp tv 38 i G w b d := by
  intro gk gp gv gs gn wa bp bf hA
  refine ⟨wa, nI w.length, bp, bf, nI b.length, nI d, ?_⟩
  unfold f_Pa_take
  rw [if_pos (show nI 38 < 60 by decide), if_pos (show (30 : Int32) ≤ nI 38 by decide), if_neg (show ¬ nI 38 = 30 by decide), if_neg (show ¬ nI 38 = 31 by decide), if_neg (show ¬ nI 38 = 32 by decide), if_neg (show ¬ nI 38 = 33 by decide), if_neg (show ¬ nI 38 = 34 by decide), if_neg (show ¬ nI 38 = 35 by decide), if_neg (show ¬ nI 38 = 36 by decide), if_neg (show ¬ nI 38 = 37 by decide), if_pos (show nI 38 = 38 by decide)]
  unfold f_Pa_goDeeper
  rw [if_neg (show ¬ nI d < 100 from nI_nlt (b := 100) hd (by omega)), jb_some]
  exact fst_some (by rw [nb0, nb0])
theorem p_rise : TK1 K P V m tk tp tv 39 i G w b (d + 1) i G w b d := by
  intro gk gp gv gs gn wa bp bf hA
  refine ⟨gk, gp, gv, gs, gn, wa, bp, bf, ?_, hA⟩
  unfold f_Pa_take
  rw [if_pos (show nI 39 < 60 by decide), if_pos (show (30 : Int32) ≤ nI 39 by decide), if_neg (show ¬ nI 39 = 30 by decide), if_neg (show ¬ nI 39 = 31 by decide), if_neg (show ¬ nI 39 = 32 by decide), if_neg (show ¬ nI 39 = 33 by decide), if_neg (show ¬ nI 39 = 34 by decide), if_neg (show ¬ nI 39 = 35 by decide), if_neg (show ¬ nI 39 = 36 by decide), if_neg (show ¬ nI 39 = 37 by decide), if_neg (show ¬ nI 39 = 38 by decide), if_pos (show nI 39 = 39 by decide)]
  unfold f_Pa_rise
  rw [jb_some, nI_pred]
  exact fst_some (by rw [nb1, nb1])
theorem p_atom2 (h : HT K P V m tk tp tv) (hi : i ≤ m) (hk : K i = 2) (hG : G.length ≤ 8000) : TK1 K P V m tk tp tv 40 i G w b d (i + 1) ((16 + 32 * i, 1, 0) :: G) w b d := by
  intro gk gp gv gs gn wa bp bf hA
  refine ⟨_, _, _, _, _, wa, bp, bf, ?_, RG_leaf (i := i) (by decide) (by decide) (by omega) hA.1, hA.2⟩
  unfold f_Pa_take
  rw [if_pos (show nI 40 < 60 by decide), if_pos (show (30 : Int32) ≤ nI 40 by decide), if_neg (show ¬ nI 40 = 30 by decide), if_neg (show ¬ nI 40 = 31 by decide), if_neg (show ¬ nI 40 = 32 by decide), if_neg (show ¬ nI 40 = 33 by decide), if_neg (show ¬ nI 40 = 34 by decide), if_neg (show ¬ nI 40 = 35 by decide), if_neg (show ¬ nI 40 = 36 by decide), if_neg (show ¬ nI 40 = 37 by decide), if_neg (show ¬ nI 40 = 38 by decide), if_neg (show ¬ nI 40 = 39 by decide), if_pos (show nI 40 = 40 by decide)]
  unfold f_Pa_expandAtom
  have g := t_leaf (gk := gk) (gp := gp) (gv := gv) (gn := gn) (r := 2) (q := 16) h hi (by decide) hk hG hA.1.2.2.2.1
  rw [t_kind h hi, jb_some, if_pos (show nI (K i) = 2 by rw [hk]; rfl), show f_Pa_takeLeaf tk tp tv (nI (m + 1)) (nI i) gk gp gv gs gn (nI G.length) 2 16 = _ from g, jb_some, jb_some]
  exact fst_some (by rw [nb1, nb1])
theorem p_atom3 (h : HT K P V m tk tp tv) (hi : i ≤ m) (hk : K i = 3) (hG : G.length ≤ 8000) : TK1 K P V m tk tp tv 40 i G w b d (i + 1) ((17 + 32 * i, 1, 0) :: G) w b d := by
  intro gk gp gv gs gn wa bp bf hA
  refine ⟨_, _, _, _, _, wa, bp, bf, ?_, RG_leaf (i := i) (by decide) (by decide) (by omega) hA.1, hA.2⟩
  unfold f_Pa_take
  rw [if_pos (show nI 40 < 60 by decide), if_pos (show (30 : Int32) ≤ nI 40 by decide), if_neg (show ¬ nI 40 = 30 by decide), if_neg (show ¬ nI 40 = 31 by decide), if_neg (show ¬ nI 40 = 32 by decide), if_neg (show ¬ nI 40 = 33 by decide), if_neg (show ¬ nI 40 = 34 by decide), if_neg (show ¬ nI 40 = 35 by decide), if_neg (show ¬ nI 40 = 36 by decide), if_neg (show ¬ nI 40 = 37 by decide), if_neg (show ¬ nI 40 = 38 by decide), if_neg (show ¬ nI 40 = 39 by decide), if_pos (show nI 40 = 40 by decide)]
  unfold f_Pa_expandAtom
  have g := t_leaf (gk := gk) (gp := gp) (gv := gv) (gn := gn) (r := 3) (q := 17) h hi (by decide) hk hG hA.1.2.2.2.1
  rw [t_kind h hi, jb_some, if_neg (show ¬ nI (K i) = 2 from k_ne (a := 2) h (by decide) (by omega)), if_pos (show nI (K i) = 3 by rw [hk]; rfl), show f_Pa_takeLeaf tk tp tv (nI (m + 1)) (nI i) gk gp gv gs gn (nI G.length) 3 17 = _ from g, jb_some, jb_some]
  exact fst_some (by rw [nb1, nb1])
theorem p_atom14 (h : HT K P V m tk tp tv) (hi : i ≤ m) (hk : K i = 14) (hw : w.length ≤ 4080) (hb : b.length < 2048) : TK1 K P V m tk tp tv 40 i G w b d i G ([14, 44, 45, 78] ++ w) ((i, G.length) :: b) d := by
  intro gk gp gv gs gn wa bp bf hA
  obtain ⟨wa', g1, g2⟩ := t_begin (k := 17) (rs := [14, 44, 45, 78]) (bp := bp) (bf := bf) h hi (by decide) rfl (by show w.length + 4 ≤ 4096; omega) hb hA.2.1 G.length
  refine ⟨gk, gp, gv, gs, gn, wa', _, _, ?_, hA.1, g2, RS_cons (x := (i, G.length)) hA.2.2.1, RS_cons (x := (i, G.length)) hA.2.2.2⟩
  unfold f_Pa_take
  rw [if_pos (show nI 40 < 60 by decide), if_pos (show (30 : Int32) ≤ nI 40 by decide), if_neg (show ¬ nI 40 = 30 by decide), if_neg (show ¬ nI 40 = 31 by decide), if_neg (show ¬ nI 40 = 32 by decide), if_neg (show ¬ nI 40 = 33 by decide), if_neg (show ¬ nI 40 = 34 by decide), if_neg (show ¬ nI 40 = 35 by decide), if_neg (show ¬ nI 40 = 36 by decide), if_neg (show ¬ nI 40 = 37 by decide), if_neg (show ¬ nI 40 = 38 by decide), if_neg (show ¬ nI 40 = 39 by decide), if_pos (show nI 40 = 40 by decide)]
  unfold f_Pa_expandAtom
  rw [t_kind h hi, jb_some, if_neg (show ¬ nI (K i) = 2 from k_ne (a := 2) h (by decide) (by omega)), if_neg (show ¬ nI (K i) = 3 from k_ne (a := 3) h (by decide) (by omega)), if_pos (show nI (K i) = 14 by rw [hk]; rfl), g1, jb_some, jb_some]
  exact fst_some (by rw [nb1, nb1])
theorem p_atom15 (h : HT K P V m tk tp tv) (hi : i ≤ m) (hk : K i = 15) (hw : w.length ≤ 4080) (hb : b.length < 2048) : TK1 K P V m tk tp tv 40 i G w b d i G ([15, 38, 46] ++ w) ((i, G.length) :: b) d := by
  intro gk gp gv gs gn wa bp bf hA
  obtain ⟨wa', g1, g2⟩ := t_begin (k := 18) (rs := [15, 38, 46]) (bp := bp) (bf := bf) h hi (by decide) rfl (by show w.length + 3 ≤ 4096; omega) hb hA.2.1 G.length
  refine ⟨gk, gp, gv, gs, gn, wa', _, _, ?_, hA.1, g2, RS_cons (x := (i, G.length)) hA.2.2.1, RS_cons (x := (i, G.length)) hA.2.2.2⟩
  unfold f_Pa_take
  rw [if_pos (show nI 40 < 60 by decide), if_pos (show (30 : Int32) ≤ nI 40 by decide), if_neg (show ¬ nI 40 = 30 by decide), if_neg (show ¬ nI 40 = 31 by decide), if_neg (show ¬ nI 40 = 32 by decide), if_neg (show ¬ nI 40 = 33 by decide), if_neg (show ¬ nI 40 = 34 by decide), if_neg (show ¬ nI 40 = 35 by decide), if_neg (show ¬ nI 40 = 36 by decide), if_neg (show ¬ nI 40 = 37 by decide), if_neg (show ¬ nI 40 = 38 by decide), if_neg (show ¬ nI 40 = 39 by decide), if_pos (show nI 40 = 40 by decide)]
  unfold f_Pa_expandAtom
  rw [t_kind h hi, jb_some, if_neg (show ¬ nI (K i) = 2 from k_ne (a := 2) h (by decide) (by omega)), if_neg (show ¬ nI (K i) = 3 from k_ne (a := 3) h (by decide) (by omega)), if_neg (show ¬ nI (K i) = 14 from k_ne (a := 14) h (by decide) (by omega)), if_pos (show nI (K i) = 15 by rw [hk]; rfl), g1, jb_some, jb_some]
  exact fst_some (by rw [nb1, nb1])
theorem p_atomF (h : HT K P V m tk tp tv) (hi : i ≤ m) (hk : K i ≠ 2 ∧ K i ≠ 3 ∧ K i ≠ 14 ∧ K i ≠ 15) : TKF K P V m tk tp tv 40 i G w b d := by
  intro gk gp gv gs gn wa bp bf hA
  refine ⟨wa, nI w.length, bp, bf, nI b.length, nI d, ?_⟩
  unfold f_Pa_take
  rw [if_pos (show nI 40 < 60 by decide), if_pos (show (30 : Int32) ≤ nI 40 by decide), if_neg (show ¬ nI 40 = 30 by decide), if_neg (show ¬ nI 40 = 31 by decide), if_neg (show ¬ nI 40 = 32 by decide), if_neg (show ¬ nI 40 = 33 by decide), if_neg (show ¬ nI 40 = 34 by decide), if_neg (show ¬ nI 40 = 35 by decide), if_neg (show ¬ nI 40 = 36 by decide), if_neg (show ¬ nI 40 = 37 by decide), if_neg (show ¬ nI 40 = 38 by decide), if_neg (show ¬ nI 40 = 39 by decide), if_pos (show nI 40 = 40 by decide)]
  unfold f_Pa_expandAtom
  rw [t_kind h hi, jb_some, if_neg (show ¬ nI (K i) = 2 from k_ne (a := 2) h (by decide) (by omega)), if_neg (show ¬ nI (K i) = 3 from k_ne (a := 3) h (by decide) (by omega)), if_neg (show ¬ nI (K i) = 14 from k_ne (a := 14) h (by decide) (by omega)), if_neg (show ¬ nI (K i) = 15 from k_ne (a := 15) h (by decide) (by omega)), jb_some]
  exact fst_some (by rw [nb0, nb0])
theorem t_begins (h : HT K P V m tk tp tv) : f_To_beginsAtom (nI (K i)) = some (if K i = 2 ∨ K i = 3 ∨ K i = 14 ∨ K i = 15 then 1 else 0) := by
  unfold f_To_beginsAtom To_beginsAtom_b22
  rw [nb1, nb0]
  by_cases q2 : K i = 2
  · rw [if_pos (show nI (K i) = 2 by rw [q2]; rfl), if_pos (Or.inl q2)]
  · rw [if_neg (show ¬ nI (K i) = 2 from k_ne (a := 2) h (by decide) q2)]
    by_cases q3 : K i = 3
    · rw [if_pos (show nI (K i) = 3 by rw [q3]; rfl), if_pos (by omega)]
    · rw [if_neg (show ¬ nI (K i) = 3 from k_ne (a := 3) h (by decide) q3)]
      by_cases q4 : K i = 14
      · rw [if_pos (show nI (K i) = 14 by rw [q4]; rfl), if_pos (by omega)]
      · rw [if_neg (show ¬ nI (K i) = 14 from k_ne (a := 14) h (by decide) q4)]
        by_cases q5 : K i = 15
        · rw [if_pos (show nI (K i) = 15 by rw [q5]; rfl), if_pos (by omega)]
        · rw [if_neg (show ¬ nI (K i) = 15 from k_ne (a := 15) h (by decide) q5), if_neg (by omega)]
theorem p_skip41 (h : HT K P V m tk tp tv) (hi : i ≤ m) (hk : K i ≠ 20 ∧ ¬ (K i = 2 ∨ K i = 3 ∨ K i = 14 ∨ K i = 15)) : TK1 K P V m tk tp tv 41 i G w b d i G w b d := by
  intro gk gp gv gs gn wa bp bf hA
  refine ⟨gk, gp, gv, gs, gn, wa, bp, bf, ?_, hA⟩
  unfold f_Pa_take
  rw [if_pos (show nI 41 < 60 by decide), if_pos (show (30 : Int32) ≤ nI 41 by decide), if_neg (show ¬ nI 41 = 30 by decide), if_neg (show ¬ nI 41 = 31 by decide), if_neg (show ¬ nI 41 = 32 by decide), if_neg (show ¬ nI 41 = 33 by decide), if_neg (show ¬ nI 41 = 34 by decide), if_neg (show ¬ nI 41 = 35 by decide), if_neg (show ¬ nI 41 = 36 by decide), if_neg (show ¬ nI 41 = 37 by decide), if_neg (show ¬ nI 41 = 38 by decide), if_neg (show ¬ nI 41 = 39 by decide), if_neg (show ¬ nI 41 = 40 by decide), if_pos (show nI 41 = 41 by decide)]
  unfold f_Pa_expandMoreAtoms
  rw [t_kind h hi, jb_some, if_neg (show ¬ nI (K i) = 20 from k_ne (a := 20) h (by decide) hk.1), t_begins h, if_neg hk.2, jb_some, if_pos (show (0 : Int32) = 0 from rfl)]
  unfold Pa_expandMoreAtoms_b39
  rw [jb_some]
  exact fst_some (by rw [nb1, nb1])
theorem p_row41 (h : HT K P V m tk tp tv) (hi : i ≤ m) (hk : K i = 2 ∨ K i = 3 ∨ K i = 14 ∨ K i = 15) (hw : w.length ≤ 4080) : TK1 K P V m tk tp tv 41 i G w b d i G ([40, 42, 41] ++ w) b d := by
  intro gk gp gv gs gn wa bp bf hA
  obtain ⟨wa', g1, g2⟩ := a_await (k := 20) (rs := [40, 42, 41]) (by decide) rfl (by show w.length + 3 ≤ 4096; omega) hA.2.1
  refine ⟨gk, gp, gv, gs, gn, wa', bp, bf, ?_, hA.1, g2, hA.2.2⟩
  unfold f_Pa_take
  rw [if_pos (show nI 41 < 60 by decide), if_pos (show (30 : Int32) ≤ nI 41 by decide), if_neg (show ¬ nI 41 = 30 by decide), if_neg (show ¬ nI 41 = 31 by decide), if_neg (show ¬ nI 41 = 32 by decide), if_neg (show ¬ nI 41 = 33 by decide), if_neg (show ¬ nI 41 = 34 by decide), if_neg (show ¬ nI 41 = 35 by decide), if_neg (show ¬ nI 41 = 36 by decide), if_neg (show ¬ nI 41 = 37 by decide), if_neg (show ¬ nI 41 = 38 by decide), if_neg (show ¬ nI 41 = 39 by decide), if_neg (show ¬ nI 41 = 40 by decide), if_pos (show nI 41 = 41 by decide)]
  unfold f_Pa_expandMoreAtoms
  rw [t_kind h hi, jb_some, if_neg (show ¬ nI (K i) = 20 from k_ne (a := 20) h (by decide) (by omega)), t_begins h, if_pos hk, jb_some, if_neg (show ¬ (1 : Int32) = 0 by decide), g1, jb_some, if_neg (show ¬ (1 : Int32) = 0 by decide)]
  unfold Pa_expandMoreAtoms_b39
  rw [jb_some]
  exact fst_some (by rw [nb1, nb1])
theorem p_row41a (h : HT K P V m tk tp tv) (hi : i ≤ m) (hk : K i = 20) (hw : w.length ≤ 4080) : TK1 K P V m tk tp tv 41 i G w b d i G ([20, 37, 43] ++ w) b d := by
  intro gk gp gv gs gn wa bp bf hA
  obtain ⟨wa', g1, g2⟩ := a_await (k := 19) (rs := [20, 37, 43]) (by decide) rfl (by show w.length + 3 ≤ 4096; omega) hA.2.1
  refine ⟨gk, gp, gv, gs, gn, wa', bp, bf, ?_, hA.1, g2, hA.2.2⟩
  unfold f_Pa_take
  rw [if_pos (show nI 41 < 60 by decide), if_pos (show (30 : Int32) ≤ nI 41 by decide), if_neg (show ¬ nI 41 = 30 by decide), if_neg (show ¬ nI 41 = 31 by decide), if_neg (show ¬ nI 41 = 32 by decide), if_neg (show ¬ nI 41 = 33 by decide), if_neg (show ¬ nI 41 = 34 by decide), if_neg (show ¬ nI 41 = 35 by decide), if_neg (show ¬ nI 41 = 36 by decide), if_neg (show ¬ nI 41 = 37 by decide), if_neg (show ¬ nI 41 = 38 by decide), if_neg (show ¬ nI 41 = 39 by decide), if_neg (show ¬ nI 41 = 40 by decide), if_pos (show nI 41 = 41 by decide)]
  unfold f_Pa_expandMoreAtoms
  rw [t_kind h hi, jb_some, if_pos (show nI (K i) = 20 by rw [hk]; rfl), g1, jb_some, jb_some]
  exact fst_some (by rw [nb1, nb1])
theorem p_row46 (h : HT K P V m tk tp tv) (hi : i ≤ m) (hk : K i = 17) (hw : w.length ≤ 4080) : TK1 K P V m tk tp tv 46 i G w b d i G ([17, 38, 16, 75] ++ w) b d := by
  intro gk gp gv gs gn wa bp bf hA
  obtain ⟨wa', g1, g2⟩ := a_await (k := 22) (rs := [17, 38, 16, 75]) (by decide) rfl (by show w.length + 4 ≤ 4096; omega) hA.2.1
  refine ⟨gk, gp, gv, gs, gn, wa', bp, bf, ?_, hA.1, g2, hA.2.2⟩
  unfold f_Pa_take
  rw [if_pos (show nI 46 < 60 by decide), if_pos (show (30 : Int32) ≤ nI 46 by decide), if_neg (show ¬ nI 46 = 30 by decide), if_neg (show ¬ nI 46 = 31 by decide), if_neg (show ¬ nI 46 = 32 by decide), if_neg (show ¬ nI 46 = 33 by decide), if_neg (show ¬ nI 46 = 34 by decide), if_neg (show ¬ nI 46 = 35 by decide), if_neg (show ¬ nI 46 = 36 by decide), if_neg (show ¬ nI 46 = 37 by decide), if_neg (show ¬ nI 46 = 38 by decide), if_neg (show ¬ nI 46 = 39 by decide), if_neg (show ¬ nI 46 = 40 by decide), if_neg (show ¬ nI 46 = 41 by decide), if_neg (show ¬ nI 46 = 42 by decide), if_neg (show ¬ nI 46 = 43 by decide), if_neg (show ¬ nI 46 = 44 by decide), if_neg (show ¬ nI 46 = 45 by decide), if_pos (show nI 46 = 46 by decide)]
  unfold f_Pa_expandBracketEnd
  rw [show f_Pa_isNot tk (nI (m + 1)) (nI i) 17 = some 0 from t_isY (r := 17) h hi (by decide) hk, jb_some, if_pos (show (0 : Int32) = 0 from rfl), g1, jb_some, jb_some]
  exact fst_some (by rw [nb1, nb1])
theorem p_row46c (h : HT K P V m tk tp tv) (hi : i ≤ m) (hk : K i ≠ 17) (hw : w.length ≤ 4080) {x : Nat × Nat} : TK1 K P V m tk tp tv 46 i G w (x :: b) d i G ([16] ++ w) b d := by
  intro gk gp gv gs gn wa bp bf hA
  obtain ⟨wa', g1, g2⟩ := a_await (k := 21) (rs := [16]) (by decide) rfl (by show w.length + 1 ≤ 4096; omega) hA.2.1
  refine ⟨gk, gp, gv, gs, gn, wa', bp, bf, ?_, hA.1, g2, hA.2.2.1.2, hA.2.2.2.2⟩
  unfold f_Pa_take
  rw [if_pos (show nI 46 < 60 by decide), if_pos (show (30 : Int32) ≤ nI 46 by decide), if_neg (show ¬ nI 46 = 30 by decide), if_neg (show ¬ nI 46 = 31 by decide), if_neg (show ¬ nI 46 = 32 by decide), if_neg (show ¬ nI 46 = 33 by decide), if_neg (show ¬ nI 46 = 34 by decide), if_neg (show ¬ nI 46 = 35 by decide), if_neg (show ¬ nI 46 = 36 by decide), if_neg (show ¬ nI 46 = 37 by decide), if_neg (show ¬ nI 46 = 38 by decide), if_neg (show ¬ nI 46 = 39 by decide), if_neg (show ¬ nI 46 = 40 by decide), if_neg (show ¬ nI 46 = 41 by decide), if_neg (show ¬ nI 46 = 42 by decide), if_neg (show ¬ nI 46 = 43 by decide), if_neg (show ¬ nI 46 = 44 by decide), if_neg (show ¬ nI 46 = 45 by decide), if_pos (show nI 46 = 46 by decide)]
  unfold f_Pa_expandBracketEnd
  rw [show f_Pa_isNot tk (nI (m + 1)) (nI i) 17 = some 1 from t_isN (r := 17) h hi (by decide) hk, jb_some, if_neg (show ¬ (1 : Int32) = 0 by decide), g1, jb_some, jb_some, show nI (x :: b).length - 1 = nI b.length from nI_pred _]
  exact fst_some (by rw [nb1, nb1])
end AM
