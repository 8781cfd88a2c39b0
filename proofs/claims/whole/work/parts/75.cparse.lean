-- the class reads a text
section RD
variable {K P V Wd B : Nat → Nat} {m nb t i k : Nat} {tk tp tv row : Nat → Int32} {len : Int32} {s s' : Nat ⊕ Nat} {F F' F0 F1 : Fo}
theorem RG_nil {gk gp gv gs gn : Nat → Int32} : RG K m P V gk gp gv gs gn [] := ⟨True.intro, True.intro, True.intro, True.intro, True.intro, fun x hx => by cases hx⟩
theorem dc_nk {i' : Nat} (h : DC K P V m tk tp tv i (.inr i') F) : nkF K i' F := by
  obtain ⟨_, h2⟩ := h
  obtain ⟨_, _, _, _, _, _, _, _, _, _, _, _, g⟩ := h2 [] (fun _ => 0) (fun _ => 0) (fun _ => 0) (fun _ => 0) (fun _ => 0) (fun _ => 0) 0 (fun _ => 0) (fun _ => 0) 0 0 (Nat.zero_le _) RG_nil
  intro x hx
  exact g.2.2.2.2.2 x (List.mem_append_left _ hx)
theorem dc_kind {i' : Nat} (hT : HT K P V m tk tp tv) (hP : HP K P m) (hi : i ≤ m) (h : DC K P V m tk tp tv i (.inr i') F) : 4 ≤ K i ∧ K i ≤ 9 := by
  rcases Nat.lt_or_ge (K i) 4 with q | q
  · exfalso
    obtain ⟨_, h2⟩ := h
    obtain ⟨_, _, _, _, _, _, _, _, _, _, _, g1, _⟩ := h2 [] (fun _ => 0) (fun _ => 0) (fun _ => 0) (fun _ => 0) (fun _ => 0) (fun _ => 0) 0 (fun _ => 0) (fun _ => 0) 0 0 (Nat.zero_le _) RG_nil
    obtain ⟨_, _, h3⟩ := dc_bad (F := F) hT hP hi (Or.inl q)
    obtain ⟨_, _, _, _, _, _, _, _, _, _, _, _, g2, _⟩ := h3 [] (fun _ => 0) (fun _ => 0) (fun _ => 0) (fun _ => 0) (fun _ => 0) (fun _ => 0) 0 (fun _ => 0) (fun _ => 0) 0 0 (Nat.zero_le _) RG_nil
    rw [g1] at g2
    have := congrArg (fun o => o.1) (Option.some.inj g2)
    exact absurd (show (1 : Int32) = 0 from this) (by decide)
  · rcases Nat.lt_or_ge 9 (K i) with r | r
    · exfalso
      obtain ⟨_, h2⟩ := h
      obtain ⟨_, _, _, _, _, _, _, _, _, _, _, g1, _⟩ := h2 [] (fun _ => 0) (fun _ => 0) (fun _ => 0) (fun _ => 0) (fun _ => 0) (fun _ => 0) 0 (fun _ => 0) (fun _ => 0) 0 0 (Nat.zero_le _) RG_nil
      obtain ⟨_, _, h3⟩ := dc_bad (F := F) hT hP hi (Or.inr r)
      obtain ⟨_, _, _, _, _, _, _, _, _, _, _, _, g2, _⟩ := h3 [] (fun _ => 0) (fun _ => 0) (fun _ => 0) (fun _ => 0) (fun _ => 0) (fun _ => 0) 0 (fun _ => 0) (fun _ => 0) 0 0 (Nat.zero_le _) RG_nil
      rw [g1] at g2
      have := congrArg (fun o => o.1) (Option.some.inj g2)
      exact absurd (show (1 : Int32) = 0 from this) (by decide)
    · exact ⟨q, r⟩
theorem c_text {n : Nat} {nx ft : Int32} {gk gp gv gs gn wa : Nat → Int32} {wc : Int32} {bp bf : Nat → Int32} {bc dp : Int32} (h : RG K n P V gk gp gv gs gn (fp F)) (hF : fs F ≤ 8000) : ∃ gk' gp' gv' gs' gn', Pa_parse_b84 row len tk tp tv (nI (m + 1)) nx gk gp gv gs gn (nI (fs F)) wa wc bp bf bc dp ft = some (ft, tk, tp, tv, nI (m + 1), nx, gk', gp', gv', gs', gn', nI (fs F + 1), wa, wc, bp, bf, bc, dp) ∧ RG K n P V gk' gp' gv' gs' gn' (fp (.pow F 0)) := by
  have hl := fp_len F
  have hr : rt (fn F) (fp F) ((fp F).length - 0) := by
    have := rt_F F []
    rw [List.append_nil] at this
    rw [hl]
    exact this
  have g := a_add (gk := gk) (gp := gp) (gv := gv) (gn := gn) (a1 := 0) (a2 := -1) (a3 := 0) (fr := 0) (k := fn F) (G := fp F) (by omega) (Nat.zero_le _) h.2.2.2.1 hr
  have hc := RG_cons (x := (0, fs F + 1, fn F)) ⟨fun q => by have q' : 0 % 32 = 9 ∨ 0 % 32 = 16 := q; omega, fun q => by have q' : 0 % 32 = 17 := q; omega⟩ h
  rw [hl] at g hc
  refine ⟨_, _, _, _, _, ?_, hc⟩
  unfold Pa_parse_b84
  refine (jb_ok g).trans ?_
  rfl
/-- how the class's loop over declarations ends, from token i on -/
def CO (K P V : Nat → Nat) (m : Nat) (tk tp tv : Nat → Int32) (row : Nat → Int32) (len : Int32) (i : Nat) (F0 : Fo) (s' : Nat ⊕ Nat) (F1 : Fo) : Prop := ∀ (gk gp gv gs gn wa : Nat → Int32) (wc : Int32) (bp bf : Nat → Int32) (bc dp : Int32) (k : Nat), RG K i P V gk gp gv gs gn (fp F0) → fs F0 ≤ P i → k ≤ i → ∃ nx' gk' gp' gv' gs' gn' wa' wc' bp' bf' bc' dp', jl (Pa_parse_b22_b row len tk tp tv (nI (m + 1))) (nI i, gk, gp, gv, gs, gn, nI (fs F0), wa, wc, bp, bf, bc, dp, -1, nI k) = some (sF P s', tk, tp, tv, nI (m + 1), nx', gk', gp', gv', gs', gn', nI (fs F0 + fs F1 + 1), wa', wc', bp', bf', bc', dp') ∧ ∃ n, RG K n P V gk' gp' gv' gs' gn' (fp (.pow (.add F0 F1) 0))
theorem co_end (h : HT K P V m tk tp tv) (hP : HP K P m) (hi : i ≤ m) (hk : K i = 0) : CO K P V m tk tp tv row len i F0 (.inr i) (.num 0) := by
  intro gk gp gv gs gn wa wc bp bf bc dp k hR hF hki
  have hPi := hP.2.2.1 i hi
  have hm := h.1
  obtain ⟨gk', gp', gv', gs', gn', g1, g2⟩ := c_text (row := row) (len := len) (tk := tk) (tp := tp) (tv := tv) (nx := nI i) (ft := -1) (wa := wa) (wc := wc) (bp := bp) (bf := bf) (bc := bc) (dp := dp) hR (by omega)
  refine ⟨nI i, gk', gp', gv', gs', gn', wa, wc, bp, bf, bc, dp, ?_, _, g2⟩
  refine jl_done ?_
  show Pa_parse_b22_s row len tk tp tv (nI (m + 1)) (nI i) gk gp gv gs gn (nI (fs F0)) wa wc bp bf bc dp (-1) (nI k) = _
  unfold Pa_parse_b22_s
  rw [if_neg (show ¬ (8001 : Int32) ≤ nI k from nI_ge (b := 8001) (by omega) (by omega)), if_pos (show (-1 : Int32) = -1 from rfl)]
  refine (jb_ok (t_kind h hi)).trans ?_
  rw [if_pos (show nI (K i) = 0 by rw [hk]; rfl), g1, jm_some]
  rfl
theorem co_fault {j : Nat} (h : HT K P V m tk tp tv) (hP : HP K P m) (hi : i ≤ m) (hk : K i ≠ 0) (hd : DC K P V m tk tp tv i (.inl j) F) : CO K P V m tk tp tv row len i F0 (.inl j) (.num 0) := by
  intro gk gp gv gs gn wa wc bp bf bc dp k hR hF hki
  have hPi := hP.2.2.1 i hi
  have hm := h.1
  obtain ⟨hj, _, hd2⟩ := hd
  have hl := fp_len F0
  obtain ⟨X, gk1, gp1, gv1, gs1, gn1, wa1, wc1, bp1, bf1, bc1, dp1, d1, d2, d3⟩ := hd2 (fp F0) gk gp gv gs gn wa wc bp bf bc dp (by omega) hR
  rw [hl] at d1
  obtain ⟨gk', gp', gv', gs', gn', g1, g2⟩ := c_text (row := row) (len := len) (tk := tk) (tp := tp) (tv := tv) (nx := nI j) (ft := nI (P j)) (wa := wa1) (wc := wc1) (bp := bp1) (bf := bf1) (bc := bc1) (dp := dp1) (RG_app d2) (by omega)
  refine ⟨nI j, gk', gp', gv', gs', gn', wa1, wc1, bp1, bf1, bc1, dp1, ?_, _, g2⟩
  have cut : f_Gr_cutTo (nI (X ++ fp F0).length) (nI (fs F0)) = some (nI (fs F0)) := by
    unfold f_Gr_cutTo
    have e : (X ++ fp F0).length = X.length + fs F0 := by rw [List.length_append, hl]
    rw [if_neg (nI_pos (by omega))]
    by_cases q : X.length = 0
    · rw [e, q, Nat.zero_add, if_pos (nI_le (Nat.le_refl _) (by omega))]
    · rw [if_neg (nI_ge (by omega) (by omega))]
  have body : Pa_parse_b22_b row len tk tp tv (nI (m + 1)) (nI i, gk, gp, gv, gs, gn, nI (fs F0), wa, wc, bp, bf, bc, dp, -1, nI k) = some (.inl (nI j, gk1, gp1, gv1, gs1, gn1, nI (fs F0), wa1, wc1, bp1, bf1, bc1, dp1, nI (P j), nI (k + 1))) := by
    show Pa_parse_b22_s row len tk tp tv (nI (m + 1)) (nI i) gk gp gv gs gn (nI (fs F0)) wa wc bp bf bc dp (-1) (nI k) = _
    unfold Pa_parse_b22_s
    rw [if_neg (show ¬ (8001 : Int32) ≤ nI k from nI_ge (b := 8001) (by omega) (by omega)), if_pos (show (-1 : Int32) = -1 from rfl)]
    refine (jb_ok (t_kind h hi)).trans ?_
    rw [if_neg (show ¬ nI (K i) = 0 from k_ne (a := 0) h (by decide) hk)]
    refine (jb_ok d1).trans ?_
    rw [if_pos (show (0 : Int32) = 0 from rfl)]
    refine (jb_ok (t_place h hj)).trans ((jb_ok cut).trans ?_)
    unfold Pa_parse_b78
    rw [nI_1]
  refine (jl_step body).trans (jl_done ?_)
  show Pa_parse_b22_s row len tk tp tv (nI (m + 1)) (nI j) gk1 gp1 gv1 gs1 gn1 (nI (fs F0)) wa1 wc1 bp1 bf1 bc1 dp1 (nI (P j)) (nI (k + 1)) = _
  unfold Pa_parse_b22_s
  have hPj := hP.2.2.1 j hj
  rw [if_neg (show ¬ nI (P j) = -1 from nI_m1 (by omega)), g1, jm_some]
  by_cases q : (8001 : Int32) ≤ nI (k + 1)
  · rw [if_pos q]; rfl
  · rw [if_neg q]; rfl
theorem co_step {i' : Nat} (h : HT K P V m tk tp tv) (hP : HP K P m) (hi : i ≤ m) (hk : K i ≠ 0) (hii : i < i') (hd : DC K P V m tk tp tv i (.inr i') F) (hc : CO K P V m tk tp tv row len i' (.add F0 F) s' F1) : CO K P V m tk tp tv row len i F0 s' (.add F F1) := by
  intro gk gp gv gs gn wa wc bp bf bc dp k hR hF hki
  have hPi := hP.2.2.1 i hi
  have hm := h.1
  obtain ⟨⟨hi', hp, _⟩, hd2⟩ := hd
  have hl := fp_len F0
  obtain ⟨gk1, gp1, gv1, gs1, gn1, wa1, wc1, bp1, bf1, bc1, dp1, d1, d2⟩ := hd2 (fp F0) gk gp gv gs gn wa wc bp bf bc dp (by omega) hR
  have e1 : (fp F ++ fp F0).length = fs (.add F0 F) := by rw [List.length_append, fp_len, fp_len]; show fs F + fs F0 = fs F0 + fs F; omega
  rw [hl, e1] at d1
  obtain ⟨nx', gk', gp', gv', gs', gn', wa', wc', bp', bf', bc', dp', c1, n2, c2⟩ := hc gk1 gp1 gv1 gs1 gn1 wa1 wc1 bp1 bf1 bc1 dp1 (k + 1) d2 (by show fs F0 + fs F ≤ P i'; omega) (by omega)
  have ev1 : ev (.pow (.add (.add F0 F) F1) 0) (.pow (.add F0 (.add F F1)) 0) := ev_pow ev_a2
  rw [ev1.1] at c2
  refine ⟨nx', gk', gp', gv', gs', gn', wa', wc', bp', bf', bc', dp', ?_, n2, c2⟩
  have e2 : fs F0 + fs (.add F F1) + 1 = fs (.add F0 F) + fs F1 + 1 := by show fs F0 + (fs F + fs F1) + 1 = fs F0 + fs F + fs F1 + 1; omega
  rw [e2]
  refine (jl_step ?_).trans c1
  show Pa_parse_b22_s row len tk tp tv (nI (m + 1)) (nI i) gk gp gv gs gn (nI (fs F0)) wa wc bp bf bc dp (-1) (nI k) = _
  unfold Pa_parse_b22_s
  rw [if_neg (show ¬ (8001 : Int32) ≤ nI k from nI_ge (b := 8001) (by omega) (by omega)), if_pos (show (-1 : Int32) = -1 from rfl)]
  refine (jb_ok (t_kind h hi)).trans ?_
  rw [if_neg (show ¬ nI (K i) = 0 from k_ne (a := 0) h (by decide) hk)]
  refine (jb_ok d1).trans ?_
  rw [if_neg (show ¬ (1 : Int32) = 0 by decide)]
  unfold Pa_parse_b78
  rw [nI_1]
end RD
