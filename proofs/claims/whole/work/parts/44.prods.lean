-- what the rules of the class lead to
section AM
variable {K P V : Nat → Nat} {m : Nat} {tk tp tv : Nat → Int32} {G : List (Nat × Nat × Nat)} {w : List Nat} {b : List (Nat × Nat)} {d i r : Nat} {s s1 s2 s3 s4 : Nat ⊕ Nat} {F F1 F2 F3 F4 T T2 : Fo}
/-- a token that must stand there -/
def tokS (K : Nat → Nat) (r : Nat) (s : Nat ⊕ Nat) : Nat ⊕ Nat := match s with
  | .inl j => .inl j
  | .inr i => if K i = r then .inr (i + 1) else .inl i
def lfF (c : Nat) (s : Nat ⊕ Nat) : Fo := match s with
  | .inl _ => .num 0
  | .inr i => .pow (.num 0) (c + 32 * i)
theorem lw_of (hP : HP K P m) (hd : d ≤ 100) (hi : i ≤ m) {a : Nat} (ha : a ≤ 300) (h : 3 * w.length ≤ P i + 24 * d + a) : w.length ≤ 4070 := by have := hP.2.2.1 i hi; omega
theorem lb_of (hP : HP K P m) (hd : d ≤ 100) (hi : i ≤ m) {a : Nat} (ha : a ≤ 300) (h : 5 * b.length ≤ P i + 10 * d + a) : b.length < 2000 := by have := hP.2.2.1 i hi; omega
theorem lt_m (hP : HP K P m) (hi : i ≤ m) (hk : 2 ≤ K i) : i < m := by
  rcases Nat.lt_or_ge i m with q | q
  · exact q
  · have : i = m := by omega
    subst this
    have := hP.2.1
    omega
theorem d_tok (h : HT K P V m tk tp tv) (hP : HP K P m) (hd : d ≤ 100) (h2 : 2 ≤ r) (hr : r < 30) : Dv K P V m tk tp tv r d s (tokS K r s) (.num 0) := by
  have hcs : csT r = 100 := if_pos hr
  have hga : gaT r = 1 := if_pos hr
  have hag : agT r = 0 := if_neg (by omega)
  have hcf : cfT r = 1 := if_pos hr
  have hfm : fmT r = 0 := if_pos hr
  have haw : awT r = 300 := by unfold awT; rw [if_neg (by omega), if_neg (by omega), if_neg (by omega), if_neg (by omega), if_neg (by omega), if_neg (by omega), if_neg (by omega), if_neg (by omega), if_neg (by omega)]
  have hab : abT r = 300 := by unfold abT; rw [if_neg (by omega), if_neg (by omega), if_neg (by omega), if_neg (by omega), if_neg (by omega), if_neg (by omega), if_neg (by omega), if_neg (by omega)]
  cases s with
  | inl j => exact rfl
  | inr i =>
    by_cases q : K i = r
    · have e : tokS K r (.inr i) = .inr (i + 1) := if_pos q
      rw [e]
      intro hi
      have him := lt_m hP hi (by omega)
      have hp := (hP.1 i him).1
      refine ⟨⟨him, ?_, ?_⟩, fun G w b l1 l2 l3 => ⟨1, ?_, go_1 ?_ (p_tok h hi hr q)⟩⟩
      · rw [hga, hag]; show P i + 0 + 1 ≤ _; omega
      · rw [hfm]; exact Nat.zero_le _
      · rw [hcs]; omega
      · have := lw_of hP hd hi (by omega) l2; omega
    · have e : tokS K r (.inr i) = .inl i := if_neg q
      rw [e]
      intro hi
      refine ⟨hi, Nat.le_refl _, fun G w b l1 l2 l3 => ⟨1, ?_, fa_1 ?_ ?_ (p_tokF h hi hr q)⟩⟩
      · rw [hcf]; omega
      · have := lw_of hP hd hi (by omega) l2; omega
      · have := hP.2.2.1 i hi; omega
theorem d_leaf33 (h : HT K P V m tk tp tv) (hP : HP K P m) (hd : d ≤ 100) : Dv K P V m tk tp tv 33 d s (tokS K 2 s) (lfF 9 s) := by
  cases s with
  | inl j => exact rfl
  | inr i =>
    by_cases q : K i = 2
    · have e : tokS K 2 (.inr i) = .inr (i + 1) := if_pos q
      rw [e]
      intro hi
      have him := lt_m hP hi (by omega)
      have hp := (hP.1 i him).1
      have hp8 := hP.2.2.1 i hi
      refine ⟨⟨him, ?_, ?_⟩, fun G w b l1 l2 l3 => ⟨1, ?_, go_1 ?_ (p_leaf33 h hi q ?_)⟩⟩
      · show P i + 1 + 0 ≤ P (i + 1) + 0; omega
      · show 1 ≤ 1; omega
      · show 1 + 100 + 100 * P i ≤ _; omega
      · have := lw_of hP hd hi (a := 300) (by omega) l2; omega
      · have : G.length + 0 ≤ P i := l1
        omega
    · have e : tokS K 2 (.inr i) = .inl i := if_neg q
      rw [e]
      intro hi
      refine ⟨hi, Nat.le_refl _, fun G w b l1 l2 l3 => ⟨1, ?_, fa_1 ?_ ?_ (p_leaf33F h hi q)⟩⟩
      · show 1 + 100 * P i ≤ 100 * P i + 1; omega
      · have := lw_of hP hd hi (a := 300) (by omega) l2; omega
      · have := hP.2.2.1 i hi; omega
theorem d_leaf44 (h : HT K P V m tk tp tv) (hP : HP K P m) (hd : d ≤ 100) : Dv K P V m tk tp tv 44 d s (tokS K 2 s) (lfF 16 s) := by
  cases s with
  | inl j => exact rfl
  | inr i =>
    by_cases q : K i = 2
    · have e : tokS K 2 (.inr i) = .inr (i + 1) := if_pos q
      rw [e]
      intro hi
      have him := lt_m hP hi (by omega)
      have hp := (hP.1 i him).1
      have hp8 := hP.2.2.1 i hi
      refine ⟨⟨him, ?_, ?_⟩, fun G w b l1 l2 l3 => ⟨1, ?_, go_1 ?_ (p_leaf44 h hi q ?_)⟩⟩
      · show P i + 1 + 0 ≤ P (i + 1) + 0; omega
      · show 1 ≤ 1; omega
      · show 1 + 100 + 100 * P i ≤ _; omega
      · have := lw_of hP hd hi (a := 300) (by omega) l2; omega
      · have : G.length + 0 ≤ P i := l1
        omega
    · have e : tokS K 2 (.inr i) = .inl i := if_neg q
      rw [e]
      intro hi
      refine ⟨hi, Nat.le_refl _, fun G w b l1 l2 l3 => ⟨1, ?_, fa_1 ?_ ?_ (p_leaf44F h hi q)⟩⟩
      · show 1 + 100 * P i ≤ 100 * P i + 1; omega
      · have := lw_of hP hd hi (a := 300) (by omega) l2; omega
      · have := hP.2.2.1 i hi; omega
theorem d_leaf45 (h : HT K P V m tk tp tv) (hP : HP K P m) (hd : d ≤ 100) : Dv K P V m tk tp tv 45 d s (tokS K 3 s) (lfF 17 s) := by
  cases s with
  | inl j => exact rfl
  | inr i =>
    by_cases q : K i = 3
    · have e : tokS K 3 (.inr i) = .inr (i + 1) := if_pos q
      rw [e]
      intro hi
      have him := lt_m hP hi (by omega)
      have hp := (hP.1 i him).1
      have hp8 := hP.2.2.1 i hi
      refine ⟨⟨him, ?_, ?_⟩, fun G w b l1 l2 l3 => ⟨1, ?_, go_1 ?_ (p_leaf45 h hi q ?_)⟩⟩
      · show P i + 1 + 0 ≤ P (i + 1) + 0; omega
      · show 1 ≤ 1; omega
      · show 1 + 100 + 100 * P i ≤ _; omega
      · have := lw_of hP hd hi (a := 300) (by omega) l2; omega
      · have : G.length + 0 ≤ P i := l1
        omega
    · have e : tokS K 3 (.inr i) = .inl i := if_neg q
      rw [e]
      intro hi
      refine ⟨hi, Nat.le_refl _, fun G w b l1 l2 l3 => ⟨1, ?_, fa_1 ?_ ?_ (p_leaf45F h hi q)⟩⟩
      · show 1 + 100 * P i ≤ 100 * P i + 1; omega
      · have := lw_of hP hd hi (a := 300) (by omega) l2; omega
      · have := hP.2.2.1 i hi; omega
/-- a token within a row -/
theorem q_tok {i0 aw0 ab0 lb fl sv tt ff : Nat} {w0 rs : List Nat} {b0 b1 : List (Nat × Nat)} (h : HT K P V m tk tp tv) (hP : HP K P m) (hd : d ≤ 100) (h2 : 2 ≤ r) (hr : r < 30) (hG : G.length ≤ P i0) (hw : 3 * w.length ≤ P i0 + 24 * d + aw0) (hb : 5 * b1.length ≤ P i0 + 10 * d + ab0)
    (hQ : Q K P V m tk tp tv w0 b0 i0 d G w b1 (r :: rs) s F lb fl sv tt ff) (n1 : aw0 + 3 * rs.length ≤ 300) (n2 : ab0 ≤ 300) (n4 : tt + 1 ≤ ff + sv) : Q K P V m tk tp tv w0 b0 i0 d G w b1 rs (tokS K r s) F (lb + 1) fl (sv + 100) (tt + 10) ff := by
  have hcs : csT r = 100 := if_pos hr
  have hga : gaT r = 1 := if_pos hr
  have hag : agT r = 0 := if_neg (by omega)
  have hcf : cfT r = 1 := if_pos hr
  have hfm : fmT r = 0 := if_pos hr
  have haw : awT r = 300 := by unfold awT; rw [if_neg (by omega), if_neg (by omega), if_neg (by omega), if_neg (by omega), if_neg (by omega), if_neg (by omega), if_neg (by omega), if_neg (by omega), if_neg (by omega)]
  have hab : abT r = 300 := by unfold abT; rw [if_neg (by omega), if_neg (by omega), if_neg (by omega), if_neg (by omega), if_neg (by omega), if_neg (by omega), if_neg (by omega), if_neg (by omega)]
  have g := q_step hG hw hb hQ (d_tok h hP hd h2 hr) (by rw [haw]; omega) (by rw [hab]; omega) (by rw [hag]; omega) (by rw [hcf]; omega)
  rw [hcs, hga, hag, hfm] at g
  generalize tokS K r s = s' at g ⊢
  cases s' with
  | inl j => exact g
  | inr i => exact g
theorem d_fun {s1 s2 : Nat ⊕ Nat} {F1 F2 : Fo} (h : HT K P V m tk tp tv) (hP : HP K P m) (hd : d ≤ 100) (hi : i ≤ m) (hk : K i = 10) (h1 : Dv K P V m tk tp tv 32 d (tokS K 10 (.inr i)) s1 F1) (h2 : Dv K P V m tk tp tv 37 d (tokS K 19 (s1)) s2 F2) : Dv K P V m tk tp tv 37 d (.inr i) (s2) (.pow (.add (.add (.num 0) (F1)) (F2)) (10 + 32 * i)) := by
  refine d_of (lb := 1) (fl := 5) (sv := 250) (tt := 42) (ff := 30) (fun G w b l1 l2 l3 => ?_) (Nat.zero_le _) (by decide) (by decide) (by decide) (by decide)
  have lw := lw_of hP hd hi (a := 60) (by decide) l2
  have lb := lb_of hP hd hi (a := 60) (by decide) l3
  have l1' : G.length ≤ P i := l1
  have l3' : 5 * b.length ≤ P i + 10 * d + 60 := l3
  have q0 : Q K P V m tk tp tv (37 :: w) b i d G w ((i, G.length) :: b) [10, 32, 19, 37, 70] (.inr i) (.num 0) 0 0 0 1 30 := q_0 (go_1 (by omega) (p_row37_10 h hi hk (by omega) (by omega))) hi
  have q1 := q_tok (r := 10) (aw0 := 60) (ab0 := 65) h hP hd (by decide) (by decide) l1' l2 (by show 5 * (b.length + 1) ≤ _; omega) q0 (by decide) (by decide) (by decide)
  replace q1 := q_w (lb' := 1) (fl' := 0) (sv' := 100) (tt' := 11) q1 (by decide) (by decide) (by decide) (by decide)
  have q2 := q_step (aw0 := 60) (ab0 := 65) l1' l2 (by show 5 * (b.length + 1) ≤ _; omega) q1 h1 (by decide) (by decide) (by decide) (by decide)
  replace q2 := q_w (lb' := 1) (fl' := 3) (sv' := 130) (tt' := 21) q2 (by decide) (by decide) (by decide) (by decide)
  have q3 := q_tok (r := 19) (aw0 := 60) (ab0 := 65) h hP hd (by decide) (by decide) l1' l2 (by show 5 * (b.length + 1) ≤ _; omega) q2 (by decide) (by decide) (by decide)
  replace q3 := q_w (lb' := 2) (fl' := 3) (sv' := 230) (tt' := 31) q3 (by decide) (by decide) (by decide) (by decide)
  have q4 := q_step (aw0 := 60) (ab0 := 65) l1' l2 (by show 5 * (b.length + 1) ≤ _; omega) q3 h2 (by decide) (by decide) (by decide) (by decide)
  replace q4 := q_w (lb' := 2) (fl' := 4) (sv' := 250) (tt' := 41) q4 (by decide) (by decide) (by decide) (by decide)
  have q5 := q_fin (q := 10) hP l1' (by rw [List.length_append]; show 0 + w.length < 4096; omega) (by omega) (by decide) (by decide) (by decide) q4 (by decide)
  replace q5 := q_w (lb' := 1) (fl' := 5) (sv' := 250) (tt' := 42) q5 (by decide) (by decide) (by decide) (by decide)
  exact q5
theorem d_all {s1 s2 : Nat ⊕ Nat} {F1 F2 : Fo} (h : HT K P V m tk tp tv) (hP : HP K P m) (hd : d ≤ 100) (hi : i ≤ m) (hk : K i = 11) (h1 : Dv K P V m tk tp tv 32 d (tokS K 11 (.inr i)) s1 F1) (h2 : Dv K P V m tk tp tv 37 d (tokS K 21 (s1)) s2 F2) : Dv K P V m tk tp tv 37 d (.inr i) (s2) (.pow (.add (.add (.num 0) (F1)) (F2)) (11 + 32 * i)) := by
  refine d_of (lb := 1) (fl := 5) (sv := 250) (tt := 42) (ff := 30) (fun G w b l1 l2 l3 => ?_) (Nat.zero_le _) (by decide) (by decide) (by decide) (by decide)
  have lw := lw_of hP hd hi (a := 60) (by decide) l2
  have lb := lb_of hP hd hi (a := 60) (by decide) l3
  have l1' : G.length ≤ P i := l1
  have l3' : 5 * b.length ≤ P i + 10 * d + 60 := l3
  have q0 : Q K P V m tk tp tv (37 :: w) b i d G w ((i, G.length) :: b) [11, 32, 21, 37, 71] (.inr i) (.num 0) 0 0 0 1 30 := q_0 (go_1 (by omega) (p_row37_11 h hi hk (by omega) (by omega))) hi
  have q1 := q_tok (r := 11) (aw0 := 60) (ab0 := 65) h hP hd (by decide) (by decide) l1' l2 (by show 5 * (b.length + 1) ≤ _; omega) q0 (by decide) (by decide) (by decide)
  replace q1 := q_w (lb' := 1) (fl' := 0) (sv' := 100) (tt' := 11) q1 (by decide) (by decide) (by decide) (by decide)
  have q2 := q_step (aw0 := 60) (ab0 := 65) l1' l2 (by show 5 * (b.length + 1) ≤ _; omega) q1 h1 (by decide) (by decide) (by decide) (by decide)
  replace q2 := q_w (lb' := 1) (fl' := 3) (sv' := 130) (tt' := 21) q2 (by decide) (by decide) (by decide) (by decide)
  have q3 := q_tok (r := 21) (aw0 := 60) (ab0 := 65) h hP hd (by decide) (by decide) l1' l2 (by show 5 * (b.length + 1) ≤ _; omega) q2 (by decide) (by decide) (by decide)
  replace q3 := q_w (lb' := 2) (fl' := 3) (sv' := 230) (tt' := 31) q3 (by decide) (by decide) (by decide) (by decide)
  have q4 := q_step (aw0 := 60) (ab0 := 65) l1' l2 (by show 5 * (b.length + 1) ≤ _; omega) q3 h2 (by decide) (by decide) (by decide) (by decide)
  replace q4 := q_w (lb' := 2) (fl' := 4) (sv' := 250) (tt' := 41) q4 (by decide) (by decide) (by decide) (by decide)
  have q5 := q_fin (q := 11) hP l1' (by rw [List.length_append]; show 0 + w.length < 4096; omega) (by omega) (by decide) (by decide) (by decide) q4 (by decide)
  replace q5 := q_w (lb' := 1) (fl' := 5) (sv' := 250) (tt' := 42) q5 (by decide) (by decide) (by decide) (by decide)
  exact q5
theorem d_let {s2 s3 s4 : Nat ⊕ Nat} {F2 F3 F4 : Fo} (h : HT K P V m tk tp tv) (hP : HP K P m) (hd : d ≤ 100) (hi : i ≤ m) (hk : K i = 12) (h2 : Dv K P V m tk tp tv 36 d (tokS K 2 (tokS K 12 (.inr i))) s2 F2) (h3 : Dv K P V m tk tp tv 38 d (tokS K 18 (s2)) s3 F3) (h4 : Dv K P V m tk tp tv 37 d (tokS K 13 (s3)) s4 F4) : Dv K P V m tk tp tv 37 d (.inr i) (s4) (.pow (.add (.add (.add (.add (.num 0) (lfF 9 (tokS K 12 (.inr i)))) (F2)) (F3)) (F4)) (12 + 32 * i)) := by
  refine d_of (lb := 1) (fl := 5) (sv := 430) (tt := 72) (ff := 30) (fun G w b l1 l2 l3 => ?_) (Nat.zero_le _) (by decide) (by decide) (by decide) (by decide)
  have lw := lw_of hP hd hi (a := 60) (by decide) l2
  have lb := lb_of hP hd hi (a := 60) (by decide) l3
  have l1' : G.length ≤ P i := l1
  have l3' : 5 * b.length ≤ P i + 10 * d + 60 := l3
  have q0 : Q K P V m tk tp tv (37 :: w) b i d G w ((i, G.length) :: b) [12, 33, 36, 18, 38, 13, 37, 72] (.inr i) (.num 0) 0 0 0 1 30 := q_0 (go_1 (by omega) (p_row37_12 h hi hk (by omega) (by omega))) hi
  have q1 := q_tok (r := 12) (aw0 := 60) (ab0 := 65) h hP hd (by decide) (by decide) l1' l2 (by show 5 * (b.length + 1) ≤ _; omega) q0 (by decide) (by decide) (by decide)
  replace q1 := q_w (lb' := 1) (fl' := 0) (sv' := 100) (tt' := 11) q1 (by decide) (by decide) (by decide) (by decide)
  have q2 := q_step (aw0 := 60) (ab0 := 65) l1' l2 (by show 5 * (b.length + 1) ≤ _; omega) q1 (d_leaf33 h hP hd) (by decide) (by decide) (by decide) (by decide)
  replace q2 := q_w (lb' := 1) (fl' := 1) (sv' := 200) (tt' := 21) q2 (by decide) (by decide) (by decide) (by decide)
  have q3 := q_step (aw0 := 60) (ab0 := 65) l1' l2 (by show 5 * (b.length + 1) ≤ _; omega) q2 h2 (by decide) (by decide) (by decide) (by decide)
  replace q3 := q_w (lb' := 0) (fl' := 2) (sv' := 200) (tt' := 31) q3 (by decide) (by decide) (by decide) (by decide)
  have q4 := q_tok (r := 18) (aw0 := 60) (ab0 := 65) h hP hd (by decide) (by decide) l1' l2 (by show 5 * (b.length + 1) ≤ _; omega) q3 (by decide) (by decide) (by decide)
  replace q4 := q_w (lb' := 1) (fl' := 2) (sv' := 300) (tt' := 41) q4 (by decide) (by decide) (by decide) (by decide)
  have q5 := q_step (aw0 := 60) (ab0 := 65) l1' l2 (by show 5 * (b.length + 1) ≤ _; omega) q4 h3 (by decide) (by decide) (by decide) (by decide)
  replace q5 := q_w (lb' := 1) (fl' := 3) (sv' := 310) (tt' := 51) q5 (by decide) (by decide) (by decide) (by decide)
  have q6 := q_tok (r := 13) (aw0 := 60) (ab0 := 65) h hP hd (by decide) (by decide) l1' l2 (by show 5 * (b.length + 1) ≤ _; omega) q5 (by decide) (by decide) (by decide)
  replace q6 := q_w (lb' := 2) (fl' := 3) (sv' := 410) (tt' := 61) q6 (by decide) (by decide) (by decide) (by decide)
  have q7 := q_step (aw0 := 60) (ab0 := 65) l1' l2 (by show 5 * (b.length + 1) ≤ _; omega) q6 h4 (by decide) (by decide) (by decide) (by decide)
  replace q7 := q_w (lb' := 2) (fl' := 4) (sv' := 430) (tt' := 71) q7 (by decide) (by decide) (by decide) (by decide)
  have q8 := q_fin (q := 12) hP l1' (by rw [List.length_append]; show 0 + w.length < 4096; omega) (by omega) (by decide) (by decide) (by decide) q7 (by decide)
  replace q8 := q_w (lb' := 1) (fl' := 5) (sv' := 430) (tt' := 72) q8 (by decide) (by decide) (by decide) (by decide)
  exact q8
theorem d_groups {s1 s2 : Nat ⊕ Nat} {F1 F2 : Fo} (h : HT K P V m tk tp tv) (hP : HP K P m) (hd : d ≤ 100) (hi : i ≤ m) (hk : K i = 15) (h1 : Dv K P V m tk tp tv 31 d (.inr i) s1 F1) (h2 : Dv K P V m tk tp tv 30 d (s1) s2 F2) : Dv K P V m tk tp tv 30 d (.inr i) (s2) (.add (.add (.num 0) (F1)) (F2)) := by
  refine d_of (lb := 0) (fl := 3) (sv := 50) (tt := 21) (ff := 20) (fun G w b l1 l2 l3 => ?_) (Nat.zero_le _) (by decide) (by decide) (by decide) (by decide)
  have lw := lw_of hP hd hi (a := 72) (by decide) l2
  have lb := lb_of hP hd hi (a := 65) (by decide) l3
  have l1' : G.length ≤ P i := l1
  have l3' : 5 * b.length ≤ P i + 10 * d + 65 := l3
  have q0 : Q K P V m tk tp tv (30 :: w) b i d G w b [31, 30] (.inr i) (.num 0) 0 0 0 1 20 := q_0 (go_1 (by omega) (p_row30 h hi hk (by omega))) hi
  have q1 := q_step (aw0 := 72) (ab0 := 65) l1' l2 (by omega) q0 h1 (by decide) (by decide) (by decide) (by decide)
  replace q1 := q_w (lb' := 0) (fl' := 3) (sv' := 50) (tt' := 11) q1 (by decide) (by decide) (by decide) (by decide)
  have q2 := q_step (aw0 := 72) (ab0 := 65) l1' l2 (by omega) q1 h2 (by decide) (by decide) (by decide) (by decide)
  replace q2 := q_w (lb' := 0) (fl' := 3) (sv' := 50) (tt' := 21) q2 (by decide) (by decide) (by decide) (by decide)
  exact q2
theorem d_group {s2 s3 : Nat ⊕ Nat} {F2 F3 : Fo} (h : HT K P V m tk tp tv) (hP : HP K P m) (hd : d ≤ 100) (hi : i ≤ m)  (h2 : Dv K P V m tk tp tv 34 d (tokS K 2 (tokS K 15 (.inr i))) s2 F2) (h3 : Dv K P V m tk tp tv 38 d (tokS K 17 (s2)) s3 F3) : Dv K P V m tk tp tv 31 d (.inr i) (tokS K 16 (s3)) (.pow (.add (.add (.add (.num 0) (lfF 9 (tokS K 15 (.inr i)))) (F2)) (F3)) (8 + 32 * i)) := by
  refine d_of (lb := 2) (fl := 3) (sv := 410) (tt := 62) (ff := 10) (fun G w b l1 l2 l3 => ?_) (Nat.zero_le _) (by decide) (by decide) (by decide) (by decide)
  have lw := lw_of hP hd hi (a := 75) (by decide) l2
  have lb := lb_of hP hd hi (a := 65) (by decide) l3
  have l1' : G.length ≤ P i := l1
  have l3' : 5 * b.length ≤ P i + 10 * d + 65 := l3
  have q0 : Q K P V m tk tp tv (31 :: w) b i d G w ((i, G.length) :: b) [15, 33, 34, 17, 38, 16, 68] (.inr i) (.num 0) 0 0 0 1 10 := q_0 (go_1 (by omega) (p_row31 h hi (by omega) (by omega))) hi
  have q1 := q_tok (r := 15) (aw0 := 75) (ab0 := 70) h hP hd (by decide) (by decide) l1' l2 (by show 5 * (b.length + 1) ≤ _; omega) q0 (by decide) (by decide) (by decide)
  replace q1 := q_w (lb' := 1) (fl' := 0) (sv' := 100) (tt' := 11) q1 (by decide) (by decide) (by decide) (by decide)
  have q2 := q_step (aw0 := 75) (ab0 := 70) l1' l2 (by show 5 * (b.length + 1) ≤ _; omega) q1 (d_leaf33 h hP hd) (by decide) (by decide) (by decide) (by decide)
  replace q2 := q_w (lb' := 1) (fl' := 1) (sv' := 200) (tt' := 21) q2 (by decide) (by decide) (by decide) (by decide)
  have q3 := q_step (aw0 := 75) (ab0 := 70) l1' l2 (by show 5 * (b.length + 1) ≤ _; omega) q2 h2 (by decide) (by decide) (by decide) (by decide)
  replace q3 := q_w (lb' := 1) (fl' := 1) (sv' := 200) (tt' := 31) q3 (by decide) (by decide) (by decide) (by decide)
  have q4 := q_tok (r := 17) (aw0 := 75) (ab0 := 70) h hP hd (by decide) (by decide) l1' l2 (by show 5 * (b.length + 1) ≤ _; omega) q3 (by decide) (by decide) (by decide)
  replace q4 := q_w (lb' := 2) (fl' := 1) (sv' := 300) (tt' := 41) q4 (by decide) (by decide) (by decide) (by decide)
  have q5 := q_step (aw0 := 75) (ab0 := 70) l1' l2 (by show 5 * (b.length + 1) ≤ _; omega) q4 h3 (by decide) (by decide) (by decide) (by decide)
  replace q5 := q_w (lb' := 2) (fl' := 2) (sv' := 310) (tt' := 51) q5 (by decide) (by decide) (by decide) (by decide)
  have q6 := q_tok (r := 16) (aw0 := 75) (ab0 := 70) h hP hd (by decide) (by decide) l1' l2 (by show 5 * (b.length + 1) ≤ _; omega) q5 (by decide) (by decide) (by decide)
  replace q6 := q_w (lb' := 3) (fl' := 2) (sv' := 410) (tt' := 61) q6 (by decide) (by decide) (by decide) (by decide)
  have q7 := q_fin (q := 8) hP l1' (by rw [List.length_append]; show 0 + w.length < 4096; omega) (by omega) (by decide) (by decide) (by decide) q6 (by decide)
  replace q7 := q_w (lb' := 2) (fl' := 3) (sv' := 410) (tt' := 62) q7 (by decide) (by decide) (by decide) (by decide)
  exact q7
theorem d_bare {s2 s3 : Nat ⊕ Nat} {F2 F3 : Fo} (h : HT K P V m tk tp tv) (hP : HP K P m) (hd : d ≤ 100) (hi : i ≤ m) (hk : K i = 2) (h2 : Dv K P V m tk tp tv 34 d (tokS K 2 (.inr i)) s2 F2) (h3 : Dv K P V m tk tp tv 38 d (tokS K 17 (s2)) s3 F3) : Dv K P V m tk tp tv 32 d (.inr i) (s3) (.pow (.add (.add (.add (.num 0) (lfF 9 (.inr i))) (F2)) (F3)) (8 + 32 * i)) := by
  refine d_of (lb := 0) (fl := 3) (sv := 210) (tt := 42) (ff := 30) (fun G w b l1 l2 l3 => ?_) (Nat.zero_le _) (by decide) (by decide) (by decide) (by decide)
  have lw := lw_of hP hd hi (a := 72) (by decide) l2
  have lb := lb_of hP hd hi (a := 65) (by decide) l3
  have l1' : G.length ≤ P i := l1
  have l3' : 5 * b.length ≤ P i + 10 * d + 65 := l3
  have q0 : Q K P V m tk tp tv (32 :: w) b i d G w ((i, G.length) :: b) [33, 34, 17, 38, 68] (.inr i) (.num 0) 0 0 0 1 30 := q_0 (go_1 (by omega) (p_row32 h hi hk (by omega) (by omega))) hi
  have q1 := q_step (aw0 := 72) (ab0 := 70) l1' l2 (by show 5 * (b.length + 1) ≤ _; omega) q0 (d_leaf33 h hP hd) (by decide) (by decide) (by decide) (by decide)
  replace q1 := q_w (lb' := 0) (fl' := 1) (sv' := 100) (tt' := 11) q1 (by decide) (by decide) (by decide) (by decide)
  have q2 := q_step (aw0 := 72) (ab0 := 70) l1' l2 (by show 5 * (b.length + 1) ≤ _; omega) q1 h2 (by decide) (by decide) (by decide) (by decide)
  replace q2 := q_w (lb' := 0) (fl' := 1) (sv' := 100) (tt' := 21) q2 (by decide) (by decide) (by decide) (by decide)
  have q3 := q_tok (r := 17) (aw0 := 72) (ab0 := 70) h hP hd (by decide) (by decide) l1' l2 (by show 5 * (b.length + 1) ≤ _; omega) q2 (by decide) (by decide) (by decide)
  replace q3 := q_w (lb' := 1) (fl' := 1) (sv' := 200) (tt' := 31) q3 (by decide) (by decide) (by decide) (by decide)
  have q4 := q_step (aw0 := 72) (ab0 := 70) l1' l2 (by show 5 * (b.length + 1) ≤ _; omega) q3 h3 (by decide) (by decide) (by decide) (by decide)
  replace q4 := q_w (lb' := 1) (fl' := 2) (sv' := 210) (tt' := 41) q4 (by decide) (by decide) (by decide) (by decide)
  have q5 := q_fin (q := 8) hP l1' (by rw [List.length_append]; show 0 + w.length < 4096; omega) (by omega) (by decide) (by decide) (by decide) q4 (by decide)
  replace q5 := q_w (lb' := 0) (fl' := 3) (sv' := 210) (tt' := 42) q5 (by decide) (by decide) (by decide) (by decide)
  exact q5
theorem d_binders {s1 s2 : Nat ⊕ Nat} {F1 F2 : Fo} (h : HT K P V m tk tp tv) (hP : HP K P m) (hd : d ≤ 100) (hi : i ≤ m) (hk : K i ≠ 2) (h1 : Dv K P V m tk tp tv 31 d (.inr i) s1 F1) (h2 : Dv K P V m tk tp tv 30 d (s1) s2 F2) : Dv K P V m tk tp tv 32 d (.inr i) (s2) (.add (.add (.num 0) (F1)) (F2)) := by
  refine d_of (lb := 0) (fl := 3) (sv := 50) (tt := 21) (ff := 30) (fun G w b l1 l2 l3 => ?_) (Nat.zero_le _) (by decide) (by decide) (by decide) (by decide)
  have lw := lw_of hP hd hi (a := 72) (by decide) l2
  have lb := lb_of hP hd hi (a := 65) (by decide) l3
  have l1' : G.length ≤ P i := l1
  have l3' : 5 * b.length ≤ P i + 10 * d + 65 := l3
  have q0 : Q K P V m tk tp tv (32 :: w) b i d G w b [31, 30] (.inr i) (.num 0) 0 0 0 1 30 := q_0 (go_1 (by omega) (p_row32g h hi hk (by omega))) hi
  have q1 := q_step (aw0 := 72) (ab0 := 65) l1' l2 (by omega) q0 h1 (by decide) (by decide) (by decide) (by decide)
  replace q1 := q_w (lb' := 0) (fl' := 3) (sv' := 50) (tt' := 11) q1 (by decide) (by decide) (by decide) (by decide)
  have q2 := q_step (aw0 := 72) (ab0 := 65) l1' l2 (by omega) q1 h2 (by decide) (by decide) (by decide) (by decide)
  replace q2 := q_w (lb' := 0) (fl' := 3) (sv' := 50) (tt' := 21) q2 (by decide) (by decide) (by decide) (by decide)
  exact q2
theorem d_more {s2 : Nat ⊕ Nat} {F2 : Fo} (h : HT K P V m tk tp tv) (hP : HP K P m) (hd : d ≤ 100) (hi : i ≤ m) (hk : K i = 2) (h2 : Dv K P V m tk tp tv 34 d (tokS K 2 (.inr i)) s2 F2) : Dv K P V m tk tp tv 34 d (.inr i) (s2) (.add (.add (.num 0) (lfF 9 (.inr i))) (F2)) := by
  refine d_of (lb := 0) (fl := 1) (sv := 100) (tt := 21) (ff := 10) (fun G w b l1 l2 l3 => ?_) (Nat.zero_le _) (by decide) (by decide) (by decide) (by decide)
  have lw := lw_of hP hd hi (a := 200) (by decide) l2
  have lb := lb_of hP hd hi (a := 300) (by decide) l3
  have l1' : G.length ≤ P i := l1
  have l3' : 5 * b.length ≤ P i + 10 * d + 300 := l3
  have q0 : Q K P V m tk tp tv (34 :: w) b i d G w b [33, 34] (.inr i) (.num 0) 0 0 0 1 10 := q_0 (go_1 (by omega) (p_row34 h hi hk (by omega))) hi
  have q1 := q_step (aw0 := 200) (ab0 := 300) l1' l2 (by omega) q0 (d_leaf33 h hP hd) (by decide) (by decide) (by decide) (by decide)
  replace q1 := q_w (lb' := 0) (fl' := 1) (sv' := 100) (tt' := 11) q1 (by decide) (by decide) (by decide) (by decide)
  have q2 := q_step (aw0 := 200) (ab0 := 300) l1' l2 (by omega) q1 h2 (by decide) (by decide) (by decide) (by decide)
  replace q2 := q_w (lb' := 0) (fl' := 1) (sv' := 100) (tt' := 21) q2 (by decide) (by decide) (by decide) (by decide)
  exact q2
theorem d_cons {s2 s3 : Nat ⊕ Nat} {F2 F3 : Fo} (h : HT K P V m tk tp tv) (hP : HP K P m) (hd : d ≤ 100) (hi : i ≤ m) (hk : K i = 23) (h2 : Dv K P V m tk tp tv 38 d (tokS K 17 (tokS K 2 (tokS K 23 (.inr i)))) s2 F2) (h3 : Dv K P V m tk tp tv 35 d (s2) s3 F3) : Dv K P V m tk tp tv 35 d (.inr i) (s3) (.add (.pow (.add (.add (.num 0) (lfF 9 (tokS K 23 (.inr i)))) (F2)) (5 + 32 * i)) (F3)) := by
  refine d_of (lb := 1) (fl := 3) (sv := 310) (tt := 52) (ff := 10) (fun G w b l1 l2 l3 => ?_) (Nat.zero_le _) (by decide) (by decide) (by decide) (by decide)
  have lw := lw_of hP hd hi (a := 70) (by decide) l2
  have lb := lb_of hP hd hi (a := 60) (by decide) l3
  have l1' : G.length ≤ P i := l1
  have l3' : 5 * b.length ≤ P i + 10 * d + 60 := l3
  have q0 : Q K P V m tk tp tv (35 :: w) b i d G w ((i, G.length) :: b) [23, 33, 17, 38, 65, 35] (.inr i) (.num 0) 0 0 0 1 10 := q_0 (go_1 (by omega) (p_row35 h hi hk (by omega) (by omega))) hi
  have q1 := q_tok (r := 23) (aw0 := 70) (ab0 := 65) h hP hd (by decide) (by decide) l1' l2 (by show 5 * (b.length + 1) ≤ _; omega) q0 (by decide) (by decide) (by decide)
  replace q1 := q_w (lb' := 1) (fl' := 0) (sv' := 100) (tt' := 11) q1 (by decide) (by decide) (by decide) (by decide)
  have q2 := q_step (aw0 := 70) (ab0 := 65) l1' l2 (by show 5 * (b.length + 1) ≤ _; omega) q1 (d_leaf33 h hP hd) (by decide) (by decide) (by decide) (by decide)
  replace q2 := q_w (lb' := 1) (fl' := 1) (sv' := 200) (tt' := 21) q2 (by decide) (by decide) (by decide) (by decide)
  have q3 := q_tok (r := 17) (aw0 := 70) (ab0 := 65) h hP hd (by decide) (by decide) l1' l2 (by show 5 * (b.length + 1) ≤ _; omega) q2 (by decide) (by decide) (by decide)
  replace q3 := q_w (lb' := 2) (fl' := 1) (sv' := 300) (tt' := 31) q3 (by decide) (by decide) (by decide) (by decide)
  have q4 := q_step (aw0 := 70) (ab0 := 65) l1' l2 (by show 5 * (b.length + 1) ≤ _; omega) q3 h2 (by decide) (by decide) (by decide) (by decide)
  replace q4 := q_w (lb' := 2) (fl' := 2) (sv' := 310) (tt' := 41) q4 (by decide) (by decide) (by decide) (by decide)
  have q5 := q_fin (q := 5) hP l1' (by rw [List.length_append]; show 1 + w.length < 4096; omega) (by omega) (by decide) (by decide) (by decide) q4 (by decide)
  replace q5 := q_w (lb' := 1) (fl' := 3) (sv' := 310) (tt' := 42) q5 (by decide) (by decide) (by decide) (by decide)
  have q6 := q_step (aw0 := 70) (ab0 := 60) l1' l2 (by omega) q5 h3 (by decide) (by decide) (by decide) (by decide)
  replace q6 := q_w (lb' := 1) (fl' := 3) (sv' := 310) (tt' := 52) q6 (by decide) (by decide) (by decide) (by decide)
  exact q6
theorem d_rec (h : HT K P V m tk tp tv) (hP : HP K P m) (hd : d ≤ 100) (hi : i ≤ m) (hk : K i = 14)  : Dv K P V m tk tp tv 40 d (.inr i) (tokS K 3 (tokS K 2 (tokS K 14 (.inr i)))) (.pow (.add (.add (.num 0) (lfF 16 (tokS K 14 (.inr i)))) (lfF 17 (tokS K 2 (tokS K 14 (.inr i))))) (18 + 32 * i)) := by
  refine d_of (lb := 0) (fl := 3) (sv := 300) (tt := 32) (ff := 10) (fun G w b l1 l2 l3 => ?_) (Nat.zero_le _) (by decide) (by decide) (by decide) (by decide)
  have lw := lw_of hP hd hi (a := 76) (by decide) l2
  have lb := lb_of hP hd hi (a := 65) (by decide) l3
  have l1' : G.length ≤ P i := l1
  have l3' : 5 * b.length ≤ P i + 10 * d + 65 := l3
  have q0 : Q K P V m tk tp tv (40 :: w) b i d G w ((i, G.length) :: b) [14, 44, 45, 78] (.inr i) (.num 0) 0 0 0 1 10 := q_0 (go_1 (by omega) (p_atom14 h hi hk (by omega) (by omega))) hi
  have q1 := q_tok (r := 14) (aw0 := 76) (ab0 := 70) h hP hd (by decide) (by decide) l1' l2 (by show 5 * (b.length + 1) ≤ _; omega) q0 (by decide) (by decide) (by decide)
  replace q1 := q_w (lb' := 1) (fl' := 0) (sv' := 100) (tt' := 11) q1 (by decide) (by decide) (by decide) (by decide)
  have q2 := q_step (aw0 := 76) (ab0 := 70) l1' l2 (by show 5 * (b.length + 1) ≤ _; omega) q1 (d_leaf44 h hP hd) (by decide) (by decide) (by decide) (by decide)
  replace q2 := q_w (lb' := 1) (fl' := 1) (sv' := 200) (tt' := 21) q2 (by decide) (by decide) (by decide) (by decide)
  have q3 := q_step (aw0 := 76) (ab0 := 70) l1' l2 (by show 5 * (b.length + 1) ≤ _; omega) q2 (d_leaf45 h hP hd) (by decide) (by decide) (by decide) (by decide)
  replace q3 := q_w (lb' := 1) (fl' := 2) (sv' := 300) (tt' := 31) q3 (by decide) (by decide) (by decide) (by decide)
  have q4 := q_fin (q := 18) hP l1' (by rw [List.length_append]; show 0 + w.length < 4096; omega) (by omega) (by decide) (by decide) (by decide) q3 (by decide)
  replace q4 := q_w (lb' := 0) (fl' := 3) (sv' := 300) (tt' := 32) q4 (by decide) (by decide) (by decide) (by decide)
  exact q4
theorem d_skip {r : Nat} (hP : HP K P m) (hd : d ≤ 100) (hi : i ≤ m) (hc : csT r ≤ 9) (hm : fmT r = 0) (hg : gaT r = 0) (ha : awT r ≤ 300) (hp : ∀ (G : List (Nat × Nat × Nat)) (w : List Nat) (b : List (Nat × Nat)), TK1 K P V m tk tp tv r i G w b d i G w b d) : Dv K P V m tk tp tv r d (.inr i) (.inr i) (.num 0) := by
  intro _
  refine ⟨⟨hi, ?_, ?_⟩, fun G w b l1 l2 l3 => ⟨1, ?_, go_1 ?_ (hp G w b)⟩⟩
  · rw [hg]; show P i + 0 + 0 ≤ _; omega
  · rw [hm]; exact Nat.zero_le _
  · omega
  · have := lw_of hP hd hi ha l2; omega
theorem d_skip30 (h : HT K P V m tk tp tv) (hP : HP K P m) (hd : d ≤ 100) (hi : i ≤ m) (hk : K i ≠ 15) : Dv K P V m tk tp tv 30 d (.inr i) (.inr i) (.num 0) := d_skip hP hd hi (by decide) (by decide) (by decide) (by decide) (fun _ _ _ => p_skip30 h hi hk)
theorem d_skip34 (h : HT K P V m tk tp tv) (hP : HP K P m) (hd : d ≤ 100) (hi : i ≤ m) (hk : K i ≠ 2) : Dv K P V m tk tp tv 34 d (.inr i) (.inr i) (.num 0) := d_skip hP hd hi (by decide) (by decide) (by decide) (by decide) (fun _ _ _ => p_skip34 h hi hk)
theorem d_skip35 (h : HT K P V m tk tp tv) (hP : HP K P m) (hd : d ≤ 100) (hi : i ≤ m) (hk : K i ≠ 23) : Dv K P V m tk tp tv 35 d (.inr i) (.inr i) (.num 0) := d_skip hP hd hi (by decide) (by decide) (by decide) (by decide) (fun _ _ _ => p_skip35 h hi hk)
theorem d_none36 (h : HT K P V m tk tp tv) (hP : HP K P m) (hd : d ≤ 100) (hi : i ≤ m) (hk : K i ≠ 17) : Dv K P V m tk tp tv 36 d (.inr i) (.inr i) (.pow (.num 0) 19) := by
  intro _
  have hp8 := hP.2.2.1 i hi
  refine ⟨⟨hi, ?_, ?_⟩, fun G w b l1 l2 l3 => ⟨1, ?_, go_1 ?_ (p_none36 h hi hk ?_)⟩⟩
  · show P i + 1 + 0 ≤ P i + 1; omega
  · show 1 ≤ 1; omega
  · show 1 + 0 + 100 * P i ≤ _; omega
  · have := lw_of hP hd hi (a := 80) (by decide) l2; omega
  · have : G.length + 1 ≤ P i := l1
    omega
theorem d_deepF (hP : HP K P m) (hd : d = 100) (hi : i ≤ m) : Dv K P V m tk tp tv 38 d (.inr i) (.inl i) F := by
  intro _
  refine ⟨hi, Nat.le_refl _, fun G w b l1 l2 l3 => ⟨1, ?_, fa_1 ?_ ?_ (p_deepF (by omega) (by omega))⟩⟩
  · show 1 + 100 * P i ≤ 100 * P i + 40; omega
  · have := lw_of hP (by omega) hi (a := 80) (by decide) l2; omega
  · have := hP.2.2.1 i hi; omega
theorem d_deep (hP : HP K P m) (hd : d < 100) (hi : i ≤ m) (h1 : Dv K P V m tk tp tv 37 (d + 1) (.inr i) s F) : Dv K P V m tk tp tv 38 d (.inr i) s F := by
  cases s with
  | inl j =>
    intro _
    obtain ⟨g1, g2, g3⟩ := h1 hi
    refine ⟨g1, g2, fun G w b l1 l2 l3 => ?_⟩
    have lw := lw_of hP (by omega) hi (a := 80) (by decide) l2
    have l2' : 3 * w.length ≤ P i + 24 * d + 80 := l2
    have l3' : 5 * b.length ≤ P i + 10 * d + 70 := l3
    obtain ⟨n, g4, g5⟩ := g3 G (39 :: w) b l1 (by show 3 * (w.length + 1) ≤ P i + 24 * (d + 1) + 60; omega) (by show 5 * b.length ≤ P i + 10 * (d + 1) + 60; omega)
    have g4' : n + 100 * P i ≤ 100 * P j + 30 := g4
    exact ⟨1 + n, by show 1 + n + 100 * P i ≤ 100 * P j + 40; omega, fa_t (Y := []) (go_1 (by omega) (p_row38 hd (by omega))) g5⟩
  | inr i' =>
    intro _
    obtain ⟨g1, g3⟩ := h1 hi
    refine ⟨g1, fun G w b l1 l2 l3 => ?_⟩
    have lw := lw_of hP (by omega) hi (a := 80) (by decide) l2
    have l2' : 3 * w.length ≤ P i + 24 * d + 80 := l2
    have l3' : 5 * b.length ≤ P i + 10 * d + 70 := l3
    obtain ⟨n, g4, g5⟩ := g3 G (39 :: w) b l1 (by show 3 * (w.length + 1) ≤ P i + 24 * (d + 1) + 60; omega) (by show 5 * b.length ≤ P i + 10 * (d + 1) + 60; omega)
    have g4' : n + 20 + 100 * P i ≤ 100 * P i' + 10 := g4
    exact ⟨1 + n + 1, by show 1 + n + 1 + 10 + 100 * P i ≤ 100 * P i' + 10; omega, go_t (go_t (go_1 (by omega) (p_row38 hd (by omega))) g5) (go_1 (by omega) p_rise)⟩
end AM
