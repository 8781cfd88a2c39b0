-- atoms and what is applied
section AM
variable {K P V : Nat → Nat} {m : Nat} {tk tp tv : Nat → Int32} {G : List (Nat × Nat × Nat)} {w : List Nat} {b : List (Nat × Nat)} {d i r : Nat} {s s1 s2 s3 s4 : Nat ⊕ Nat} {F F1 F2 F3 F4 T T2 : Fo}
theorem d_type (h : HT K P V m tk tp tv) (hP : HP K P m) (hd : d ≤ 100) (hi : i ≤ m) (hk : K i = 17) (h1 : Dv K P V m tk tp tv 38 d (.inr (i + 1)) s F) : Dv K P V m tk tp tv 36 d (.inr i) s F := by
  have him := lt_m hP hi (by omega)
  have hp := (hP.1 i him).1
  cases s with
  | inl j =>
    intro _
    obtain ⟨g1, g2, g3⟩ := h1 (by omega)
    refine ⟨g1, by omega, fun G w b l1 l2 l3 => ?_⟩
    have lw := lw_of hP hd hi (a := 80) (by decide) l2
    have l1' : G.length + 1 ≤ P i := l1
    have l2' : 3 * w.length ≤ P i + 24 * d + 80 := l2
    have l3' : 5 * b.length ≤ P i + 10 * d + 70 := l3
    obtain ⟨n, g4, g5⟩ := g3 G w b (by show G.length + 0 ≤ _; omega) (by show 3 * w.length ≤ P (i + 1) + 24 * d + 80; omega) (by show 5 * b.length ≤ P (i + 1) + 10 * d + 70; omega)
    have g4' : n + 100 * P (i + 1) ≤ 100 * P j + 40 := g4
    exact ⟨1 + 1 + n, by show 1 + 1 + n + 100 * P i ≤ 100 * P j + 10; omega, fa_t (Y := []) (go_t (go_1 (by omega) (p_row36 h hi hk (by omega))) (go_1 (by show w.length + 1 < 4096; omega) (p_tok h hi (by decide) hk))) g5⟩
  | inr i' =>
    intro _
    obtain ⟨⟨g0, g1, g2⟩, g3⟩ := h1 (by omega)
    have g1' : P (i + 1) + fs F + 0 ≤ P i' + 0 := g1
    refine ⟨⟨g0, by show P i + fs F + 0 ≤ P i' + 1; omega, g2⟩, fun G w b l1 l2 l3 => ?_⟩
    have lw := lw_of hP hd hi (a := 80) (by decide) l2
    have l1' : G.length + 1 ≤ P i := l1
    have l2' : 3 * w.length ≤ P i + 24 * d + 80 := l2
    have l3' : 5 * b.length ≤ P i + 10 * d + 70 := l3
    obtain ⟨n, g4, g5⟩ := g3 G w b (by show G.length + 0 ≤ _; omega) (by show 3 * w.length ≤ P (i + 1) + 24 * d + 80; omega) (by show 5 * b.length ≤ P (i + 1) + 10 * d + 70; omega)
    have g4' : n + 10 + 100 * P (i + 1) ≤ 100 * P i' + 10 := g4
    exact ⟨1 + 1 + n, by show 1 + 1 + n + 0 + 100 * P i ≤ 100 * P i' + 10; omega, go_t (go_t (go_1 (by omega) (p_row36 h hi hk (by omega))) (go_1 (by show w.length + 1 < 4096; omega) (p_tok h hi (by decide) hk))) g5⟩
/-- an atom, with its room -/
def A40 (K P V : Nat → Nat) (m : Nat) (tk tp tv : Nat → Int32) (d i : Nat) (s : Nat ⊕ Nat) (F : Fo) : Prop := Dv K P V m tk tp tv 40 d (.inr i) s F ∧ ∀ i', s = .inr i' → isT F ∧ (K i = 15 → P i + fs F + 2 ≤ P i') ∧ P i + fs F + wd (K i') ≤ P i'
/-- terms are nodes with places -/
def TT (s : Nat ⊕ Nat) (F : Fo) : Prop := ∀ i', s = .inr i' → isT F
theorem wd_le (k : Nat) : wd k ≤ 1 := by unfold wd; split <;> omega
theorem gap_1 (hP : HP K P m) (hi : i < m) (hk : K i = 2 ∨ K i = 3 ∨ K i = 14) : P i + 1 + wd (K (i + 1)) ≤ P (i + 1) := by
  have hp := (hP.1 i hi).1
  unfold wd
  by_cases q : K (i + 1) = 2 ∨ K (i + 1) = 3 ∨ K (i + 1) = 14
  · rw [if_pos q]; exact hP.2.2.2.1 i hi hk q
  · rw [if_neg q]; omega
theorem a_name (h : HT K P V m tk tp tv) (hP : HP K P m) (hd : d ≤ 100) (hi : i ≤ m) (hk : K i = 2) : A40 K P V m tk tp tv d i (.inr (i + 1)) (.pow (.num 0) (16 + 32 * i)) := by
  have him := lt_m hP hi (by omega)
  have hp := (hP.1 i him).1
  have hp8 := hP.2.2.1 i hi
  constructor
  · intro _
    refine ⟨⟨him, ?_, ?_⟩, fun G w b l1 l2 l3 => ⟨1, ?_, go_1 ?_ (p_atom2 h hi hk ?_)⟩⟩
    · show P i + 1 + 0 ≤ P (i + 1) + 0; omega
    · show 1 ≤ 1; omega
    · show 1 + 50 + 100 * P i ≤ _; omega
    · have := lw_of hP hd hi (a := 76) (by decide) l2; omega
    · have : G.length + 0 ≤ P i := l1
      omega
  · intro i' e
    have e : i + 1 = i' := Sum.inr.inj e
    subst e
    refine ⟨⟨_, _, rfl, by omega⟩, fun q => by omega, ?_⟩
    have := gap_1 hP him (by omega)
    show P i + 1 + wd (K (i + 1)) ≤ P (i + 1)
    exact this
theorem a_sort (h : HT K P V m tk tp tv) (hP : HP K P m) (hd : d ≤ 100) (hi : i ≤ m) (hk : K i = 3) : A40 K P V m tk tp tv d i (.inr (i + 1)) (.pow (.num 0) (17 + 32 * i)) := by
  have him := lt_m hP hi (by omega)
  have hp := (hP.1 i him).1
  have hp8 := hP.2.2.1 i hi
  constructor
  · intro _
    refine ⟨⟨him, ?_, ?_⟩, fun G w b l1 l2 l3 => ⟨1, ?_, go_1 ?_ (p_atom3 h hi hk ?_)⟩⟩
    · show P i + 1 + 0 ≤ P (i + 1) + 0; omega
    · show 1 ≤ 1; omega
    · show 1 + 50 + 100 * P i ≤ _; omega
    · have := lw_of hP hd hi (a := 76) (by decide) l2; omega
    · have : G.length + 0 ≤ P i := l1
      omega
  · intro i' e
    have e : i + 1 = i' := Sum.inr.inj e
    subst e
    refine ⟨⟨_, _, rfl, by omega⟩, fun q => by omega, ?_⟩
    have := gap_1 hP him (by omega)
    show P i + 1 + wd (K (i + 1)) ≤ P (i + 1)
    exact this
theorem a_fault (h : HT K P V m tk tp tv) (hP : HP K P m) (hd : d ≤ 100) (hi : i ≤ m) (hk : K i ≠ 2 ∧ K i ≠ 3 ∧ K i ≠ 14 ∧ K i ≠ 15) : A40 K P V m tk tp tv d i (.inl i) F := by
  constructor
  · intro _
    refine ⟨hi, Nat.le_refl _, fun G w b l1 l2 l3 => ⟨1, ?_, fa_1 ?_ ?_ (p_atomF h hi hk)⟩⟩
    · show 1 + 100 * P i ≤ 100 * P i + 10; omega
    · have := lw_of hP hd hi (a := 76) (by decide) l2; omega
    · have := hP.2.2.1 i hi; omega
  · intro i' e; cases e
theorem tokS_inr {K : Nat → Nat} {r i' : Nat} {s : Nat ⊕ Nat} (h : tokS K r s = .inr i') : ∃ i, s = .inr i ∧ K i = r ∧ i' = i + 1 := by
  cases s with
  | inl j => cases h
  | inr i =>
    by_cases q : K i = r
    · have e : tokS K r (.inr i) = .inr (i + 1) := if_pos q
      rw [e] at h
      exact ⟨i, rfl, q, (Sum.inr.inj h).symm⟩
    · have e : tokS K r (.inr i) = .inl i := if_neg q
      rw [e] at h; cases h
theorem a_rec (h : HT K P V m tk tp tv) (hP : HP K P m) (hd : d ≤ 100) (hi : i ≤ m) (hk : K i = 14) : A40 K P V m tk tp tv d i (tokS K 3 (tokS K 2 (tokS K 14 (.inr i)))) (.pow (.add (.add (.num 0) (lfF 16 (tokS K 14 (.inr i)))) (lfF 17 (tokS K 2 (tokS K 14 (.inr i))))) (18 + 32 * i)) := by
  refine ⟨d_rec h hP hd hi hk, ?_⟩
  intro i' e
  obtain ⟨i2, e2, k2, f2⟩ := tokS_inr e
  obtain ⟨i1, e1, k1, f1⟩ := tokS_inr e2
  obtain ⟨i0, e0, k0, f0⟩ := tokS_inr e1
  have : i = i0 := Sum.inr.inj e0
  subst this
  subst f0
  subst f1
  subst f2
  have h0 := lt_m hP hi (by omega)
  have h1 := lt_m hP (i := i + 1) (by omega) (by omega)
  have h2 := lt_m hP (i := i + 1 + 1) (by omega) (by omega)
  have g0 := gap_1 hP h0 (by omega)
  have g1 := (hP.1 _ h1).1
  have g2 := (hP.1 _ h2).1
  have w1 : wd (K (i + 1)) = 1 := if_pos (Or.inl k1)
  have w2 := wd_le (K (i + 1 + 1 + 1))
  refine ⟨⟨_, _, rfl, by omega⟩, fun q => by omega, ?_⟩
  rw [e2, e1]
  show P i + (0 + (0 + 1) + (0 + 1) + 1) + _ ≤ _
  omega
theorem a_brackF (h : HT K P V m tk tp tv) (hP : HP K P m) (hd : d ≤ 100) (hi : i ≤ m) (hk : K i = 15) {j : Nat} (h1 : Dv K P V m tk tp tv 38 d (.inr (i + 1)) (.inl j) F1) : A40 K P V m tk tp tv d i (.inl j) F := by
  have him := lt_m hP hi (by omega)
  have hp := (hP.1 i him).1
  constructor
  · intro _
    obtain ⟨g1, g2, g3⟩ := h1 (by omega)
    refine ⟨g1, by omega, fun G w b l1 l2 l3 => ?_⟩
    have lw := lw_of hP hd hi (a := 76) (by decide) l2
    have lb := lb_of hP hd hi (a := 65) (by decide) l3
    have l1' : G.length + 0 ≤ P i := l1
    have l2' : 3 * w.length ≤ P i + 24 * d + 76 := l2
    have l3' : 5 * b.length ≤ P i + 10 * d + 65 := l3
    obtain ⟨n, g4, g5⟩ := g3 G (46 :: w) ((i, G.length) :: b) (by show G.length + 0 ≤ _; omega) (by show 3 * (w.length + 1) ≤ P (i + 1) + 24 * d + 80; omega) (by show 5 * (b.length + 1) ≤ P (i + 1) + 10 * d + 70; omega)
    have g4' : n + 100 * P (i + 1) ≤ 100 * P j + 40 := g4
    exact ⟨1 + 1 + n, by show 1 + 1 + n + 100 * P i ≤ 100 * P j + 10; omega, fa_t (Y := []) (go_t (go_1 (by omega) (p_atom15 h hi hk (by omega) (by omega))) (go_1 (by show w.length + 1 + 1 < 4096; omega) (p_tok h hi (by decide) hk))) g5⟩
  · intro i' e; cases e
/-- up to what ends a bracket -/
theorem a_brackG (h : HT K P V m tk tp tv) (hP : HP K P m) (hd : d ≤ 100) (hi : i ≤ m) (hk : K i = 15) {i1 : Nat} (h1 : Dv K P V m tk tp tv 38 d (.inr (i + 1)) (.inr i1) F1) : i1 ≤ m ∧ P i + 1 + fs F1 ≤ P i1 ∧ 1 ≤ fs F1 ∧ ∀ G w b, G.length ≤ P i → 3 * w.length ≤ P i + 24 * d + 76 → 5 * b.length ≤ P i + 10 * d + 65 → ∃ n, n + 100 * P i ≤ 100 * P i1 ∧ Go K P V m tk tp tv n i G (40 :: w) b d i1 (fp F1 ++ G) (46 :: w) ((i, G.length) :: b) d := by
  have him := lt_m hP hi (by omega)
  have hp := (hP.1 i him).1
  obtain ⟨⟨g0, g1, g2⟩, g3⟩ := h1 (by omega)
  have g1' : P (i + 1) + fs F1 + 0 ≤ P i1 + 0 := g1
  have g2' : 1 ≤ fs F1 := g2
  refine ⟨g0, by omega, g2', fun G w b l1 l2 l3 => ?_⟩
  have lw := lw_of hP hd hi (a := 76) (by decide) l2
  have lb := lb_of hP hd hi (a := 65) (by decide) l3
  obtain ⟨n, g4, g5⟩ := g3 G (46 :: w) ((i, G.length) :: b) (by show G.length + 0 ≤ _; omega) (by show 3 * (w.length + 1) ≤ P (i + 1) + 24 * d + 80; omega) (by show 5 * (b.length + 1) ≤ P (i + 1) + 10 * d + 70; omega)
  have g4' : n + 10 + 100 * P (i + 1) ≤ 100 * P i1 + 10 := g4
  exact ⟨1 + 1 + n, by omega, go_t (go_t (go_1 (by omega) (p_atom15 h hi hk (by omega) (by omega))) (go_1 (by show w.length + 1 + 1 < 4096; omega) (p_tok h hi (by decide) hk))) g5⟩
theorem a_close (h : HT K P V m tk tp tv) (hP : HP K P m) (hd : d ≤ 100) (hi : i ≤ m) (hk : K i = 15) {i1 : Nat} (h1 : Dv K P V m tk tp tv 38 d (.inr (i + 1)) (.inr i1) F1) (hT : isT F1) (h17 : K i1 ≠ 17) : A40 K P V m tk tp tv d i (tokS K 16 (.inr i1)) F1 := by
  obtain ⟨b1, b2, b3, b4⟩ := a_brackG h hP hd hi hk h1
  by_cases q : K i1 = 16
  · have e : tokS K 16 (.inr i1) = .inr (i1 + 1) := if_pos q
    rw [e]
    have him := lt_m hP b1 (by omega)
    have hp := (hP.1 i1 him).1
    constructor
    · intro _
      refine ⟨⟨him, by show P i + fs F1 + 0 ≤ P (i1 + 1) + 0; omega, b3⟩, fun G w b l1 l2 l3 => ?_⟩
      have lw := lw_of hP hd hi (a := 76) (by decide) l2
      obtain ⟨n, g4, g5⟩ := b4 G w b l1 l2 l3
      exact ⟨n + 1 + 1, by show n + 1 + 1 + 50 + 100 * P i ≤ 100 * P (i1 + 1) + 10; omega, go_t (go_t g5 (go_1 (by omega) (p_row46c h b1 h17 (by omega)))) (go_1 (by show w.length < 4096; omega) (p_tok h b1 (by decide) q))⟩
    · intro i' e
      have e : i1 + 1 = i' := Sum.inr.inj e
      subst e
      have := wd_le (K (i1 + 1))
      exact ⟨hT, fun _ => by omega, by omega⟩
  · have e : tokS K 16 (.inr i1) = .inl i1 := if_neg q
    rw [e]
    constructor
    · intro _
      refine ⟨b1, by omega, fun G w b l1 l2 l3 => ?_⟩
      have lw := lw_of hP hd hi (a := 76) (by decide) l2
      obtain ⟨n, g4, g5⟩ := b4 G w b l1 l2 l3
      exact ⟨n + (1 + 1), by show n + (1 + 1) + 100 * P i ≤ 100 * P i1 + 10; omega, fa_t g5 (fa_t (Y := []) (go_1 (by omega) (p_row46c h b1 h17 (by omega))) (fa_1 (by show w.length < 4096; omega) (by show (fp F1 ++ G).length ≤ 8001; rw [List.length_append, fp_len]; have := hP.2.2.1 i1 b1; have : G.length + 0 ≤ P i := l1; omega) (p_tokF h b1 (by decide) q)))⟩
    · intro i' e; cases e
theorem a_typedF (h : HT K P V m tk tp tv) (hP : HP K P m) (hd : d ≤ 100) (hi : i ≤ m) (hk : K i = 15) {i1 : Nat} (h1 : Dv K P V m tk tp tv 38 d (.inr (i + 1)) (.inr i1) F1) (h17 : K i1 = 17) {j : Nat} (h2 : Dv K P V m tk tp tv 38 d (.inr (i1 + 1)) (.inl j) F2) : A40 K P V m tk tp tv d i (.inl j) F := by
  obtain ⟨b1, b2, b3, b4⟩ := a_brackG h hP hd hi hk h1
  have him := lt_m hP b1 (by omega)
  have hp := (hP.1 i1 him).1
  obtain ⟨g1, g2, g3⟩ := h2 (by omega)
  constructor
  · intro _
    refine ⟨g1, by omega, fun G w b l1 l2 l3 => ?_⟩
    have lw := lw_of hP hd hi (a := 76) (by decide) l2
    have l1' : G.length + 0 ≤ P i := l1
    have l2' : 3 * w.length ≤ P i + 24 * d + 76 := l2
    have l3' : 5 * b.length ≤ P i + 10 * d + 65 := l3
    obtain ⟨n, g4, g5⟩ := b4 G w b l1 l2 l3
    obtain ⟨n2, g6, g7⟩ := g3 (fp F1 ++ G) (16 :: 75 :: w) ((i, G.length) :: b) (by rw [List.length_append, fp_len]; show fs F1 + G.length + 0 ≤ _; omega) (by show 3 * (w.length + 1 + 1) ≤ P (i1 + 1) + 24 * d + 80; omega) (by show 5 * (b.length + 1) ≤ P (i1 + 1) + 10 * d + 70; omega)
    have g6' : n2 + 100 * P (i1 + 1) ≤ 100 * P j + 40 := g6
    exact ⟨n + 1 + 1 + n2, by show n + 1 + 1 + n2 + 100 * P i ≤ 100 * P j + 10; omega, fa_t (go_t (go_t g5 (go_1 (by omega) (p_row46 h b1 h17 (by omega)))) (go_1 (by show w.length + 1 + 1 + 1 < 4096; omega) (p_tok h b1 (by decide) h17))) g7⟩
  · intro i' e; cases e
theorem a_typed (h : HT K P V m tk tp tv) (hP : HP K P m) (hd : d ≤ 100) (hi : i ≤ m) (hk : K i = 15) {i1 : Nat} (h1 : Dv K P V m tk tp tv 38 d (.inr (i + 1)) (.inr i1) F1) (h17 : K i1 = 17) {i2 : Nat} (h2 : Dv K P V m tk tp tv 38 d (.inr (i1 + 1)) (.inr i2) F2) : A40 K P V m tk tp tv d i (tokS K 16 (.inr i2)) (.pow (.add F1 F2) (15 + 32 * i)) := by
  obtain ⟨b1, b2, b3, b4⟩ := a_brackG h hP hd hi hk h1
  have him := lt_m hP b1 (by omega)
  have hp := (hP.1 i1 him).1
  obtain ⟨⟨g0, g1, g2⟩, g3⟩ := h2 (by omega)
  have g1' : P (i1 + 1) + fs F2 + 0 ≤ P i2 + 0 := g1
  have g2' : 1 ≤ fs F2 := g2
  have run : ∀ G w b, G.length ≤ P i → 3 * w.length ≤ P i + 24 * d + 76 → 5 * b.length ≤ P i + 10 * d + 65 → ∃ n, n + 100 * P i ≤ 100 * P i2 ∧ Go K P V m tk tp tv n i G (40 :: w) b d i2 (fp (.add F1 F2) ++ G) (16 :: 75 :: w) ((i, G.length) :: b) d := by
    intro G w b l1 l2 l3
    have lw := lw_of hP hd hi (a := 76) (by decide) l2
    obtain ⟨n, g4, g5⟩ := b4 G w b l1 l2 l3
    obtain ⟨n2, g6, g7⟩ := g3 (fp F1 ++ G) (16 :: 75 :: w) ((i, G.length) :: b) (by rw [List.length_append, fp_len]; show fs F1 + G.length + 0 ≤ _; omega) (by show 3 * (w.length + 1 + 1) ≤ P (i1 + 1) + 24 * d + 80; omega) (by show 5 * (b.length + 1) ≤ P (i1 + 1) + 10 * d + 70; omega)
    have g6' : n2 + 10 + 100 * P (i1 + 1) ≤ 100 * P i2 + 10 := g6
    have g8 := go_t (go_t (go_t g5 (go_1 (by omega) (p_row46 h b1 h17 (by omega)))) (go_1 (by show w.length + 1 + 1 + 1 < 4096; omega) (p_tok h b1 (by decide) h17))) g7
    rw [← List.append_assoc] at g8
    exact ⟨n + 1 + 1 + n2, by omega, g8⟩
  by_cases q : K i2 = 16
  · have e : tokS K 16 (.inr i2) = .inr (i2 + 1) := if_pos q
    rw [e]
    have him2 := lt_m hP g0 (by omega)
    have hp2 := (hP.1 i2 him2).1
    have hp8 := hP.2.2.1 i2 g0
    constructor
    · intro _
      refine ⟨⟨him2, by show P i + (fs F1 + fs F2 + 1) + 0 ≤ P (i2 + 1) + 0; omega, by show 1 ≤ fs F1 + fs F2 + 1; omega⟩, fun G w b l1 l2 l3 => ?_⟩
      have lw := lw_of hP hd hi (a := 76) (by decide) l2
      have lb := lb_of hP hd hi (a := 65) (by decide) l3
      have l1' : G.length + 0 ≤ P i := l1
      obtain ⟨n, g4, g5⟩ := run G w b l1 l2 l3
      refine ⟨n + 1 + 1, by show n + 1 + 1 + 50 + 100 * P i ≤ 100 * P (i2 + 1) + 10; omega, go_t (go_t g5 (go_1 (by rw [List.length_cons]; omega) (p_tok h g0 (by decide) q))) (go_1 (by omega) (p_fin (q := 15) (by omega) (by decide) (by decide) (by decide) ?_))⟩
      rw [List.length_append, fp_len]
      show fs F1 + fs F2 + G.length ≤ 8000
      omega
    · intro i' e
      have e : i2 + 1 = i' := Sum.inr.inj e
      subst e
      have := wd_le (K (i2 + 1))
      refine ⟨⟨_, _, rfl, by omega⟩, fun _ => ?_, ?_⟩
      · show P i + (fs F1 + fs F2 + 1) + 2 ≤ _; omega
      · show P i + (fs F1 + fs F2 + 1) + _ ≤ _; omega
  · have e : tokS K 16 (.inr i2) = .inl i2 := if_neg q
    rw [e]
    constructor
    · intro _
      refine ⟨g0, by omega, fun G w b l1 l2 l3 => ?_⟩
      have lw := lw_of hP hd hi (a := 76) (by decide) l2
      obtain ⟨n, g4, g5⟩ := run G w b l1 l2 l3
      exact ⟨n + 1, by show n + 1 + 100 * P i ≤ 100 * P i2 + 10; omega, fa_t g5 (fa_1 (by rw [List.length_cons]; omega) (by rw [List.length_append, fp_len]; show fs F1 + fs F2 + G.length ≤ 8001; have := hP.2.2.1 i2 g0; have : G.length + 0 ≤ P i := l1; omega) (p_tokF h g0 (by decide) q))⟩
    · intro i' e; cases e
/-- more atoms behind T -/
def D41 (K P V : Nat → Nat) (m : Nat) (tk tp tv : Nat → Int32) (d : Nat) (T : Fo) (s s' : Nat ⊕ Nat) (T' : Fo) : Prop := match s, s' with
  | .inl j, .inl j' => j' = j
  | .inl _, .inr _ => False
  | .inr i, .inl j => i ≤ m → j ≤ m ∧ P i ≤ P j ∧ ∀ G w b, (fp T ++ G).length + wd (K i) ≤ P i → 3 * w.length ≤ P i + 24 * d + 59 → 5 * b.length ≤ P i + 10 * d + 60 → ∃ n, n + 100 * P i ≤ 100 * P j + 20 ∧ Fa K P V m tk tp tv n i (fp T ++ G) (41 :: w) b d j
  | .inr i, .inr i' => i ≤ m → (i' ≤ m ∧ fs T' + P i ≤ P i' + fs T + wd (K i) ∧ P i ≤ P i' ∧ isT T' ∧ 1 ≤ fs T') ∧ ∀ G w b, (fp T ++ G).length + wd (K i) ≤ P i → 3 * w.length ≤ P i + 24 * d + 59 → 5 * b.length ≤ P i + 10 * d + 60 → ∃ n, n + 100 * P i ≤ 100 * P i' + 10 ∧ Go K P V m tk tp tv n i (fp T ++ G) (41 :: w) b d i' (fp T' ++ G) w b d
theorem isT_fs (h : isT F) : 1 ≤ fs F := by
  obtain ⟨A, c, e, _⟩ := h
  subst e
  show 1 ≤ fs A + 1
  omega
theorem e_none (h : HT K P V m tk tp tv) (hP : HP K P m) (hd : d ≤ 100) (hi : i ≤ m) (hT : isT T) (hk : K i ≠ 20 ∧ ¬ (K i = 2 ∨ K i = 3 ∨ K i = 14 ∨ K i = 15)) : D41 K P V m tk tp tv d T (.inr i) (.inr i) T := by
  intro _
  refine ⟨⟨hi, by omega, Nat.le_refl _, hT, isT_fs hT⟩, fun G w b l1 l2 l3 => ⟨1, by omega, go_1 ?_ (p_skip41 h hi hk)⟩⟩
  have := lw_of hP hd hi (a := 59) (by decide) l2
  omega
theorem e_arrow (h : HT K P V m tk tp tv) (hP : HP K P m) (hd : d ≤ 100) (hi : i ≤ m) {A : Fo} {c : Nat} (hc : ¬ (c % 32 = 19 ∨ c % 32 = 0)) (hk : K i = 20) (h1 : Dv K P V m tk tp tv 37 d (.inr (i + 1)) s F) (hF : TT s F) : D41 K P V m tk tp tv d (.pow A c) (.inr i) s (.pow (.add (.pow A c) F) (13 + 32 * (c / 32))) := by
  have him := lt_m hP hi (by omega)
  have hp := hP.2.2.2.2 i him hk
  have st : ∀ G w b, 3 * w.length ≤ P i + 24 * d + 59 → Go K P V m tk tp tv (1 + 1) i (fp (.pow A c) ++ G) (41 :: w) b d (i + 1) (fp (.pow A c) ++ G) (37 :: 43 :: w) b d := fun G w b l2 => by
    have lw := lw_of hP hd hi (a := 59) (by decide) l2
    exact go_t (go_1 (by omega) (p_row41a h hi hk (by omega))) (go_1 (by show w.length + 1 + 1 < 4096; omega) (p_tok h hi (by decide) hk))
  cases s with
  | inl j =>
    intro _
    obtain ⟨g1, g2, g3⟩ := h1 (by omega)
    refine ⟨g1, by omega, fun G w b l1 l2 l3 => ?_⟩
    obtain ⟨n, g4, g5⟩ := g3 (fp (.pow A c) ++ G) (43 :: w) b (by show _ + 0 ≤ _; omega) (by show 3 * (w.length + 1) ≤ P (i + 1) + 24 * d + 60; omega) (by show 5 * b.length ≤ P (i + 1) + 10 * d + 60; omega)
    have g4' : n + 100 * P (i + 1) ≤ 100 * P j + 30 := g4
    exact ⟨1 + 1 + n, by omega, fa_t (Y := []) (st G w b l2) g5⟩
  | inr i' =>
    intro _
    obtain ⟨A2, c2, e2, c9⟩ := hF i' rfl
    subst e2
    obtain ⟨⟨g0, g1, g2⟩, g3⟩ := h1 (by omega)
    have g1' : P (i + 1) + (fs A2 + 1) + 0 ≤ P i' + 0 := g1
    have hp8 := hP.2.2.1 i' g0
    refine ⟨⟨g0, ?_, by omega, ⟨_, _, rfl, by omega⟩, ?_⟩, fun G w b l1 l2 l3 => ?_⟩
    · show fs A + 1 + (fs A2 + 1) + 1 + P i ≤ P i' + (fs A + 1) + _; omega
    · show 1 ≤ fs A + 1 + (fs A2 + 1) + 1; omega
    · have lw := lw_of hP hd hi (a := 59) (by decide) l2
      obtain ⟨n, g4, g5⟩ := g3 (fp (.pow A c) ++ G) (43 :: w) b (by show _ + 0 ≤ _; omega) (by show 3 * (w.length + 1) ≤ P (i + 1) + 24 * d + 60; omega) (by show 5 * b.length ≤ P (i + 1) + 10 * d + 60; omega)
      have g4' : n + 20 + 100 * P (i + 1) ≤ 100 * P i' + 10 := g4
      refine ⟨1 + 1 + n + 1, by omega, go_t (go_t (st G w b l2) g5) (go_1 (by omega) (p_join43 hc ?_))⟩
      rw [List.length_append, fp_len]
      show fs A2 + 1 + (fp (.pow A c) ++ G).length ≤ 8000
      omega
theorem e_atom (h : HT K P V m tk tp tv) (hP : HP K P m) (hd : d ≤ 100) (hi : i ≤ m) {A : Fo} {c : Nat} (hc : ¬ (c % 32 = 19 ∨ c % 32 = 0)) (hk : K i = 2 ∨ K i = 3 ∨ K i = 14 ∨ K i = 15) (h1 : A40 K P V m tk tp tv d i s1 F1) (h2 : D41 K P V m tk tp tv d (.pow (.add (.pow A c) F1) (14 + 32 * (c / 32))) s1 s2 T2) : D41 K P V m tk tp tv d (.pow A c) (.inr i) s2 T2 := by
  have st : ∀ (G : List (Nat × Nat × Nat)) (w : List Nat) (b : List (Nat × Nat)), 3 * w.length ≤ P i + 24 * d + 59 → Go K P V m tk tp tv 1 i (fp (.pow A c) ++ G) (41 :: w) b d i (fp (.pow A c) ++ G) (40 :: 42 :: 41 :: w) b d := fun G w b l2 => by
    have lw := lw_of hP hd hi (a := 59) (by decide) l2
    exact go_1 (by omega) (p_row41 h hi hk (by omega))
  obtain ⟨h1, hx⟩ := h1
  cases s1 with
  | inl j =>
    cases s2 with
    | inr i' => exact absurd h2 id
    | inl j' =>
      have e : j' = j := h2
      subst e
      intro _
      obtain ⟨g1, g2, g3⟩ := h1 hi
      refine ⟨g1, g2, fun G w b l1 l2 l3 => ?_⟩
      obtain ⟨n, g4, g5⟩ := g3 (fp (.pow A c) ++ G) (42 :: 41 :: w) b (by show _ + 0 ≤ _; omega) (by show 3 * (w.length + 1 + 1) ≤ P i + 24 * d + 76; omega) (by show 5 * b.length ≤ P i + 10 * d + 65; omega)
      have g4' : n + 100 * P i ≤ 100 * P j' + 10 := g4
      exact ⟨1 + n, by omega, fa_t (Y := []) (st G w b l2) g5⟩
  | inr i1 =>
    obtain ⟨⟨A2, c2, e2, c9⟩, x15, xw⟩ := hx i1 rfl
    subst e2
    obtain ⟨⟨g0, g1, g2⟩, g3⟩ := h1 hi
    have g1' : P i + (fs A2 + 1) + 0 ≤ P i1 + 0 := g1
    have x15' : K i = 15 → P i + (fs A2 + 1) + 2 ≤ P i1 := x15
    have xw' : P i + (fs A2 + 1) + wd (K i1) ≤ P i1 := xw
    have hp8 := hP.2.2.1 i1 g0
    have hw1 := wd_le (K i1)
    have hwd : wd (K i) = 1 ∨ K i = 15 := by
      by_cases q : K i = 15
      · exact Or.inr q
      · exact Or.inl (if_pos (by omega))
    -- one node more, and room for it
    have room : fs A2 + 1 + 1 + P i + wd (K i1) ≤ P i1 + wd (K i) := by
      rcases hwd with q | q
      · rw [q]; omega
      · have := x15' q; omega
    have go1 : ∀ G w b, (fp (.pow A c) ++ G).length + wd (K i) ≤ P i → 3 * w.length ≤ P i + 24 * d + 59 → 5 * b.length ≤ P i + 10 * d + 60 → ∃ n, n + 38 + 100 * P i ≤ 100 * P i1 ∧ Go K P V m tk tp tv n i (fp (.pow A c) ++ G) (41 :: w) b d i1 (fp (.pow (.add (.pow A c) (.pow A2 c2)) (14 + 32 * (c / 32))) ++ G) (41 :: w) b d := by
      intro G w b l1 l2 l3
      have lw := lw_of hP hd hi (a := 59) (by decide) l2
      obtain ⟨n, g4, g5⟩ := g3 (fp (.pow A c) ++ G) (42 :: 41 :: w) b (by show _ + 0 ≤ _; omega) (by show 3 * (w.length + 1 + 1) ≤ P i + 24 * d + 76; omega) (by show 5 * b.length ≤ P i + 10 * d + 65; omega)
      have g4' : n + 50 + 100 * P i ≤ 100 * P i1 + 10 := g4
      refine ⟨1 + n + 1, by omega, go_t (go_t (st G w b l2) g5) (go_1 (by rw [List.length_cons]; omega) (p_join42 hc ?_))⟩
      rw [List.length_append, fp_len]
      show fs A2 + 1 + (fp (.pow A c) ++ G).length ≤ 8000
      omega
    have len1 : ∀ G : List (Nat × Nat × Nat), (fp (.pow A c) ++ G).length + wd (K i) ≤ P i → (fp (.pow (.add (.pow A c) (.pow A2 c2)) (14 + 32 * (c / 32))) ++ G).length + wd (K i1) ≤ P i1 := by
      intro G l1
      rw [List.length_append, fp_len] at l1 ⊢
      have l1' : fs A + 1 + G.length + wd (K i) ≤ P i := l1
      show fs A + 1 + (fs A2 + 1) + 1 + G.length + wd (K i1) ≤ P i1
      omega
    cases s2 with
    | inl j =>
      intro _
      obtain ⟨k1, k2, k3⟩ := h2 g0
      refine ⟨k1, by omega, fun G w b l1 l2 l3 => ?_⟩
      obtain ⟨n, g4, g5⟩ := go1 G w b l1 l2 l3
      obtain ⟨n2, g6, g7⟩ := k3 G w b (len1 G l1) (by omega) (by omega)
      have e : fp (.pow (.add (.pow A c) (.pow A2 c2)) (14 + 32 * (c / 32))) ++ G = ((14 + 32 * (c / 32), fs A + 1 + (fs A2 + 1) + 1, 2) :: fp (.pow A2 c2)) ++ (fp (.pow A c) ++ G) := by
        show (14 + 32 * (c / 32), fs A + 1 + (fs A2 + 1) + 1, 2) :: (fp (.pow A2 c2) ++ fp (.pow A c) ++ G) = _
        rw [List.append_assoc]; rfl
      rw [e] at g5 g7
      exact ⟨n + n2, by omega, fa_t g5 g7⟩
    | inr i2 =>
      intro _
      obtain ⟨⟨k0, k1, k2, k4, k5⟩, k3⟩ := h2 g0
      have k1' : fs T2 + P i1 ≤ P i2 + (fs A + 1 + (fs A2 + 1) + 1) + wd (K i1) := k1
      refine ⟨⟨k0, by show fs T2 + P i ≤ P i2 + (fs A + 1) + wd (K i); omega, by omega, k4, k5⟩, fun G w b l1 l2 l3 => ?_⟩
      obtain ⟨n, g4, g5⟩ := go1 G w b l1 l2 l3
      obtain ⟨n2, g6, g7⟩ := k3 G w b (len1 G l1) (by omega) (by omega)
      exact ⟨n + n2, by omega, go_t g5 g7⟩
theorem d_atoms (h : HT K P V m tk tp tv) (hP : HP K P m) (hd : d ≤ 100) (hi : i ≤ m) (hk : K i ≠ 10 ∧ K i ≠ 11 ∧ K i ≠ 12) (h1 : A40 K P V m tk tp tv d i s1 F1) (h2 : D41 K P V m tk tp tv d F1 s1 s2 T2) : Dv K P V m tk tp tv 37 d (.inr i) s2 T2 := by
  have st : ∀ (G : List (Nat × Nat × Nat)) (w : List Nat) (b : List (Nat × Nat)), 3 * w.length ≤ P i + 24 * d + 60 → Go K P V m tk tp tv 1 i G (37 :: w) b d i G (40 :: 41 :: w) b d := fun G w b l2 => by
    have lw := lw_of hP hd hi (a := 60) (by decide) l2
    exact go_1 (by omega) (p_row37 h hi hk (by omega))
  obtain ⟨h1, hx⟩ := h1
  cases s1 with
  | inl j =>
    cases s2 with
    | inr i' => exact absurd h2 id
    | inl j' =>
      have e : j' = j := h2
      subst e
      intro _
      obtain ⟨g1, g2, g3⟩ := h1 hi
      refine ⟨g1, g2, fun G w b l1 l2 l3 => ?_⟩
      have l2' : 3 * w.length ≤ P i + 24 * d + 60 := l2
      have l3' : 5 * b.length ≤ P i + 10 * d + 60 := l3
      obtain ⟨n, g4, g5⟩ := g3 G (41 :: w) b l1 (by show 3 * (w.length + 1) ≤ P i + 24 * d + 76; omega) (by show 5 * b.length ≤ P i + 10 * d + 65; omega)
      have g4' : n + 100 * P i ≤ 100 * P j' + 10 := g4
      exact ⟨1 + n, by show 1 + n + 100 * P i ≤ 100 * P j' + 30; omega, fa_t (Y := []) (st G w b l2') g5⟩
  | inr i1 =>
    obtain ⟨x1, _, xw⟩ := hx i1 rfl
    obtain ⟨⟨g0, g1, g2⟩, g3⟩ := h1 hi
    have f1 := isT_fs x1
    have go1 : ∀ G w b, G.length ≤ P i → 3 * w.length ≤ P i + 24 * d + 60 → 5 * b.length ≤ P i + 10 * d + 60 → ∃ n, n + 39 + 100 * P i ≤ 100 * P i1 ∧ Go K P V m tk tp tv n i G (37 :: w) b d i1 (fp F1 ++ G) (41 :: w) b d := by
      intro G w b l1 l2 l3
      obtain ⟨n, g4, g5⟩ := g3 G (41 :: w) b (by show _ + 0 ≤ _; omega) (by show 3 * (w.length + 1) ≤ P i + 24 * d + 76; omega) (by show 5 * b.length ≤ P i + 10 * d + 65; omega)
      have g4' : n + 50 + 100 * P i ≤ 100 * P i1 + 10 := g4
      exact ⟨1 + n, by omega, go_t (st G w b l2) g5⟩
    cases s2 with
    | inl j =>
      intro _
      obtain ⟨k1, k2, k3⟩ := h2 g0
      refine ⟨k1, by omega, fun G w b l1 l2 l3 => ?_⟩
      have l1' : G.length + 0 ≤ P i := l1
      have l2' : 3 * w.length ≤ P i + 24 * d + 60 := l2
      have l3' : 5 * b.length ≤ P i + 10 * d + 60 := l3
      obtain ⟨n, g4, g5⟩ := go1 G w b l1' l2' l3'
      obtain ⟨n2, g6, g7⟩ := k3 G w b (by rw [List.length_append, fp_len]; omega) (by omega) (by omega)
      exact ⟨n + n2, by show n + n2 + 100 * P i ≤ 100 * P j + 30; omega, fa_t g5 g7⟩
    | inr i2 =>
      intro _
      obtain ⟨⟨k0, k1, k2, k4, k5⟩, k3⟩ := h2 g0
      refine ⟨⟨k0, by show P i + fs T2 + 0 ≤ P i2 + 0; omega, k5⟩, fun G w b l1 l2 l3 => ?_⟩
      have l1' : G.length + 0 ≤ P i := l1
      have l2' : 3 * w.length ≤ P i + 24 * d + 60 := l2
      have l3' : 5 * b.length ≤ P i + 10 * d + 60 := l3
      obtain ⟨n, g4, g5⟩ := go1 G w b l1' l2' l3'
      obtain ⟨n2, g6, g7⟩ := k3 G w b (by rw [List.length_append, fp_len]; omega) (by omega) (by omega)
      exact ⟨n + n2, by show n + n2 + 20 + 100 * P i ≤ 100 * P i2 + 10; omega, go_t g5 g7⟩
end AM
