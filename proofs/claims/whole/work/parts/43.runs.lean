-- many rules of the class's machine, one behind another
section AM
variable {K P V : Nat → Nat} {m : Nat} {tk tp tv : Nat → Int32} {G G' G'' : List (Nat × Nat × Nat)} {w w' w'' : List Nat} {b b' b'' : List (Nat × Nat)} {d d' d'' i i' i'' j r n n' : Nat}
def Go (K P V : Nat → Nat) (m : Nat) (tk tp tv : Nat → Int32) (n i : Nat) (G : List (Nat × Nat × Nat)) (w : List Nat) (b : List (Nat × Nat)) (d i' : Nat) (G' : List (Nat × Nat × Nat)) (w' : List Nat) (b' : List (Nat × Nat)) (d' : Nat) : Prop :=
  ∀ gk gp gv gs gn wa bp bf, RA K i P V gk gp gv gs gn wa bp bf G w b → ∀ c, c + n < 1000000 → ∃ gk' gp' gv' gs' gn' wa' bp' bf', jl (Pa_takeDeclaration_b22_b tk tp tv (nI (m + 1))) (nI i, gk, gp, gv, gs, gn, nI G.length, wa, nI w.length, bp, bf, nI b.length, nI d, 1, nI c) = jl (Pa_takeDeclaration_b22_b tk tp tv (nI (m + 1))) (nI i', gk', gp', gv', gs', gn', nI G'.length, wa', nI w'.length, bp', bf', nI b'.length, nI d', 1, nI (c + n)) ∧ RA K i' P V gk' gp' gv' gs' gn' wa' bp' bf' G' w' b'
def Fa (K P V : Nat → Nat) (m : Nat) (tk tp tv : Nat → Int32) (n i : Nat) (G : List (Nat × Nat × Nat)) (w : List Nat) (b : List (Nat × Nat)) (d j : Nat) : Prop :=
  ∀ gk gp gv gs gn wa bp bf, RA K i P V gk gp gv gs gn wa bp bf G w b → ∀ c, c + n < 1000000 → ∃ X gk' gp' gv' gs' gn' wa' wc bp' bf' bc dp, jl (Pa_takeDeclaration_b22_b tk tp tv (nI (m + 1))) (nI i, gk, gp, gv, gs, gn, nI G.length, wa, nI w.length, bp, bf, nI b.length, nI d, 1, nI c) = some (0, nI j, gk', gp', gv', gs', gn', nI (X ++ G).length, wa', wc, bp', bf', bc, dp) ∧ RG K j P V gk' gp' gv' gs' gn' (X ++ G) ∧ (X ++ G).length ≤ 8001
theorem go_t (h1 : Go K P V m tk tp tv n i G w b d i' G' w' b' d') (h2 : Go K P V m tk tp tv n' i' G' w' b' d' i'' G'' w'' b'' d'') : Go K P V m tk tp tv (n + n') i G w b d i'' G'' w'' b'' d'' := by
  intro gk gp gv gs gn wa bp bf hA c hc
  obtain ⟨_, _, _, _, _, _, _, _, g1, A1⟩ := h1 gk gp gv gs gn wa bp bf hA c (by omega)
  obtain ⟨_, _, _, _, _, _, _, _, g2, A2⟩ := h2 _ _ _ _ _ _ _ _ A1 (c + n) (by omega)
  refine ⟨_, _, _, _, _, _, _, _, g1.trans (g2.trans ?_), A2⟩
  rw [Nat.add_assoc]
theorem fa_t {Y : List (Nat × Nat × Nat)} (h1 : Go K P V m tk tp tv n i G w b d i' (Y ++ G) w' b' d') (h2 : Fa K P V m tk tp tv n' i' (Y ++ G) w' b' d' j) : Fa K P V m tk tp tv (n + n') i G w b d j := by
  intro gk gp gv gs gn wa bp bf hA c hc
  obtain ⟨_, _, _, _, _, _, _, _, g1, A1⟩ := h1 gk gp gv gs gn wa bp bf hA c (by omega)
  obtain ⟨X, _, _, _, _, _, _, _, _, _, _, _, g2, A2⟩ := h2 _ _ _ _ _ _ _ _ A1 (c + n) (by omega)
  rw [← List.append_assoc] at g2 A2
  exact ⟨X ++ Y, _, _, _, _, _, _, _, _, _, _, _, g1.trans g2, A2⟩
theorem go_1 (hw : w.length < 4096) (h : TK1 K P V m tk tp tv r i G w b d i' G' w' b' d') : Go K P V m tk tp tv 1 i G (r :: w) b d i' G' w' b' d' := by
  intro gk gp gv gs gn wa bp bf hA c hc
  obtain ⟨gk', gp', gv', gs', gn', wa', bp', bf', g1, A1⟩ := h gk gp gv gs gn wa bp bf ⟨hA.1, hA.2.1.2, hA.2.2⟩
  refine ⟨gk', gp', gv', gs', gn', wa', bp', bf', jl_step ?_, A1⟩
  show Pa_takeDeclaration_b22_s tk tp tv (nI (m + 1)) (nI i) gk gp gv gs gn (nI G.length) wa (nI (r :: w).length) bp bf (nI b.length) (nI d) 1 (nI c) = _
  unfold Pa_takeDeclaration_b22_s
  have e1 : nI (r :: w).length - 1 = nI w.length := nI_pred _
  have e2 : wa w.length = nI r := hA.2.1.1
  rw [if_neg (show ¬ (1000000 : Int32) ≤ nI c from nI_ge (b := 1000000) (by omega) (by omega)), if_neg (show ¬ (1 : Int32) = 0 by decide), if_neg (show ¬ nI (r :: w).length ≤ 0 from nI_nle (by rw [List.length_cons]; omega) (by rw [List.length_cons]; omega)), e1, if_neg (nI_in hw (by omega)), nI_clamp (by omega), e2, g1, jb_some, nI_1]
theorem fa_1 (hw : w.length < 4096) (hG : G.length ≤ 8001) (h : TKF K P V m tk tp tv r i G w b d) : Fa K P V m tk tp tv 1 i G (r :: w) b d i := by
  intro gk gp gv gs gn wa bp bf hA c hc
  obtain ⟨wa', wc, bp', bf', bc, dp, g1⟩ := h gk gp gv gs gn wa bp bf ⟨hA.1, hA.2.1.2, hA.2.2⟩
  refine ⟨[], gk, gp, gv, gs, gn, wa', wc, bp', bf', bc, dp, ?_, hA.1, hG⟩
  have e1 : nI (r :: w).length - 1 = nI w.length := nI_pred _
  have e2 : wa w.length = nI r := hA.2.1.1
  have g2 : Pa_takeDeclaration_b22_b tk tp tv (nI (m + 1)) (nI i, gk, gp, gv, gs, gn, nI G.length, wa, nI (r :: w).length, bp, bf, nI b.length, nI d, 1, nI c) = some (.inl (nI i, gk, gp, gv, gs, gn, nI G.length, wa', wc, bp', bf', bc, dp, 0, nI (c + 1))) := by
    show Pa_takeDeclaration_b22_s tk tp tv (nI (m + 1)) (nI i) gk gp gv gs gn (nI G.length) wa (nI (r :: w).length) bp bf (nI b.length) (nI d) 1 (nI c) = _
    unfold Pa_takeDeclaration_b22_s
    rw [if_neg (show ¬ (1000000 : Int32) ≤ nI c from nI_ge (b := 1000000) (by omega) (by omega)), if_neg (show ¬ (1 : Int32) = 0 by decide), if_neg (show ¬ nI (r :: w).length ≤ 0 from nI_nle (by rw [List.length_cons]; omega) (by rw [List.length_cons]; omega)), e1, if_neg (nI_in hw (by omega)), nI_clamp (by omega), e2, g1, jb_some, nI_1]
  rw [jl_step g2]
  apply jl_done
  show Pa_takeDeclaration_b22_s tk tp tv (nI (m + 1)) (nI i) gk gp gv gs gn (nI G.length) wa' wc bp' bf' bc dp 0 (nI (c + 1)) = _
  unfold Pa_takeDeclaration_b22_s
  rw [if_neg (show ¬ (1000000 : Int32) ≤ nI (c + 1) from nI_ge (b := 1000000) (by omega) (by omega)), if_pos (show (0 : Int32) = 0 from rfl)]
  unfold Pa_takeDeclaration_b69 Pa_takeDeclaration_b84
  rw [if_pos (show (0 : Int32) = 0 from rfl), jm_some, nb0]
  rfl
/-- what holds of the tokens' places -/
def HP (K P : Nat → Nat) (m : Nat) : Prop := (∀ i, i < m → P i < P (i + 1) ∧ 2 ≤ K i) ∧ K m ≤ 1 ∧ (∀ i, i ≤ m → P i ≤ 8000) ∧ (∀ i, i < m → (K i = 2 ∨ K i = 3 ∨ K i = 14) → (K (i + 1) = 2 ∨ K (i + 1) = 3 ∨ K (i + 1) = 14) → P i + 2 ≤ P (i + 1)) ∧ ∀ i, i < m → K i = 20 → P i + 2 ≤ P (i + 1)
def wd (k : Nat) : Nat := if k = 2 ∨ k = 3 ∨ k = 14 then 1 else 0
def isT (F : Fo) : Prop := ∃ A c, F = .pow A c ∧ ¬ (c % 32 = 19 ∨ c % 32 = 0)
def awT (r : Nat) : Nat := if r = 37 then 60 else if r = 38 then 80 else if r = 40 then 76 else if r = 30 then 72 else if r = 31 then 75 else if r = 32 then 72 else if r = 36 then 80 else if r = 35 then 70 else if r = 34 then 200 else 300
def abT (r : Nat) : Nat := if r = 37 then 60 else if r = 38 then 70 else if r = 40 then 65 else if r = 30 then 65 else if r = 31 then 65 else if r = 32 then 65 else if r = 36 then 70 else if r = 35 then 60 else 300
def agT (r : Nat) : Nat := if r = 36 then 1 else 0
def gaT (r : Nat) : Nat := if r < 30 then 1 else 0
def fmT (r : Nat) : Nat := if r < 30 then 0 else if r = 33 ∨ r = 44 ∨ r = 45 ∨ r = 36 ∨ r = 37 ∨ r = 38 ∨ r = 40 then 1 else if r = 31 ∨ r = 32 then 3 else 0
def csT (r : Nat) : Nat := if r < 30 then 100 else if r = 33 ∨ r = 44 ∨ r = 45 then 100 else if r = 37 then 20 else if r = 38 then 10 else if r = 40 then 50 else if r = 31 then 50 else if r = 32 then 30 else 0
def cfT (r : Nat) : Nat := if r < 30 then 1 else if r = 33 ∨ r = 44 ∨ r = 45 then 1 else if r = 37 then 30 else if r = 38 then 40 else if r = 30 then 20 else if r = 32 then 30 else 10
/-- a rule leads from one state of the text to another and grows F -/
def Dv (K P V : Nat → Nat) (m : Nat) (tk tp tv : Nat → Int32) (r d : Nat) (s s' : Nat ⊕ Nat) (F : Fo) : Prop := match s, s' with
  | .inl j, .inl j' => j' = j
  | .inl _, .inr _ => False
  | .inr i, .inl j => i ≤ m → j ≤ m ∧ P i ≤ P j ∧ ∀ G w b, G.length + agT r ≤ P i → 3 * w.length ≤ P i + 24 * d + awT r → 5 * b.length ≤ P i + 10 * d + abT r → ∃ n, n + 100 * P i ≤ 100 * P j + cfT r ∧ Fa K P V m tk tp tv n i G (r :: w) b d j
  | .inr i, .inr i' => i ≤ m → (i' ≤ m ∧ P i + fs F + gaT r ≤ P i' + agT r ∧ fmT r ≤ fs F) ∧ ∀ G w b, G.length + agT r ≤ P i → 3 * w.length ≤ P i + 24 * d + awT r → 5 * b.length ≤ P i + 10 * d + abT r → ∃ n, n + csT r + 100 * P i ≤ 100 * P i' + 10 ∧ Go K P V m tk tp tv n i G (r :: w) b d i' (fp F ++ G) w b d
/-- a row of rules under way -/
def Q (K P V : Nat → Nat) (m : Nat) (tk tp tv : Nat → Int32) (w0 : List Nat) (b0 : List (Nat × Nat)) (i0 d : Nat) (G : List (Nat × Nat × Nat)) (w : List Nat) (b1 : List (Nat × Nat)) (rs : List Nat) (s : Nat ⊕ Nat) (F : Fo) (lb fl sv tt ff : Nat) : Prop := match s with
  | .inr i => (i ≤ m ∧ P i0 + fs F + lb ≤ P i ∧ fl ≤ fs F) ∧ ∃ n, n + sv + 100 * P i0 ≤ 100 * P i + tt ∧ Go K P V m tk tp tv n i0 G w0 b0 d i (fp F ++ G) (rs ++ w) b1 d
  | .inl j => j ≤ m ∧ P i0 ≤ P j ∧ ∃ n, n + 100 * P i0 ≤ 100 * P j + ff ∧ Fa K P V m tk tp tv n i0 G w0 b0 d j
theorem q_step {i0 aw0 ab0 lb fl sv tt ff : Nat} {w0 : List Nat} {b0 b1 : List (Nat × Nat)} {rs : List Nat} {s s' : Nat ⊕ Nat} {F F1 : Fo} (hG : G.length ≤ P i0) (hw : 3 * w.length ≤ P i0 + 24 * d + aw0) (hb : 5 * b1.length ≤ P i0 + 10 * d + ab0)
    (hQ : Q K P V m tk tp tv w0 b0 i0 d G w b1 (r :: rs) s F lb fl sv tt ff) (hD : Dv K P V m tk tp tv r d s s' F1) (n1 : aw0 + 3 * rs.length ≤ awT r + lb + fl) (n2 : ab0 ≤ abT r + lb + fl) (n3 : agT r ≤ lb) (n4 : tt + cfT r ≤ ff + sv) : Q K P V m tk tp tv w0 b0 i0 d G w b1 rs s' (.add F F1) (lb + gaT r - agT r) (fl + fmT r) (sv + csT r) (tt + 10) ff := by
  cases s with
  | inl j =>
    cases s' with
    | inl j' => have e : j' = j := hD; subst e; exact hQ
    | inr i' => exact absurd hD id
  | inr i =>
    obtain ⟨⟨q1, q2, q3⟩, n, q4, q5⟩ := hQ
    have lG : (fp F ++ G).length + agT r ≤ P i := by rw [List.length_append, fp_len]; omega
    have lw : 3 * (rs ++ w).length ≤ P i + 24 * d + awT r := by rw [List.length_append]; omega
    have lb' : 5 * b1.length ≤ P i + 10 * d + abT r := by omega
    cases s' with
    | inl j =>
      obtain ⟨d1, d2, d3⟩ := hD q1
      obtain ⟨n', d4, d5⟩ := d3 _ (rs ++ w) b1 lG lw lb'
      exact ⟨d1, by omega, n + n', by omega, fa_t q5 d5⟩
    | inr i' =>
      obtain ⟨⟨d1, d2, d3⟩, d4⟩ := hD q1
      obtain ⟨n', d5, d6⟩ := d4 _ (rs ++ w) b1 lG lw lb'
      refine ⟨⟨d1, ?_, ?_⟩, n + n', by omega, ?_⟩
      · show P i0 + (fs F + fs F1) + (lb + gaT r - agT r) ≤ P i'; omega
      · show fl + fmT r ≤ fs F + fs F1; omega
      · have := go_t q5 d6
        rw [← List.append_assoc] at this
        exact this
theorem d_inl {r d j : Nat} {F : Fo} : Dv K P V m tk tp tv r d (.inl j) (.inl j) F := rfl
/-- the end of a row that finishes a node -/
theorem q_fin {q i0 lb fl sv tt ff : Nat} {w0 : List Nat} {b0 : List (Nat × Nat)} {rs : List Nat} {s : Nat ⊕ Nat} {F : Fo} (hHP : HP K P m) (hG : G.length ≤ P i0) (hw : (rs ++ w).length < 4096) (hb : b.length < 2048) (hq : q < 32) (hv : ¬ (q = 9 ∨ q = 16 ∨ q = 17)) (h9 : ¬ (q = 19 ∨ q = 0))
    (hQ : Q K P V m tk tp tv w0 b0 i0 d G w ((i0, G.length) :: b) ((60 + q) :: rs) s F lb fl sv tt ff) (hlb : 1 ≤ lb) : Q K P V m tk tp tv w0 b0 i0 d G w b rs s (.pow F (q + 32 * i0)) (lb - 1) (fl + 1) sv (tt + 1) ff := by
  cases s with
  | inl j => exact hQ
  | inr i =>
    obtain ⟨⟨q1, q2, q3⟩, n, q4, q5⟩ := hQ
    refine ⟨⟨q1, ?_, ?_⟩, n + 1, by omega, ?_⟩
    · show P i0 + (fs F + 1) + (lb - 1) ≤ P i; omega
    · show fl + 1 ≤ fs F + 1; omega
    · have hP := hHP.2.2.1 i q1
      exact go_t q5 (go_1 hw (p_fin hb hq hv h9 (by rw [List.length_append, fp_len]; omega)))
/-- out of a row -/
theorem d_of {r0 i0 lb fl sv tt ff : Nat} {s : Nat ⊕ Nat} {F : Fo} (hQ : ∀ G w b, G.length + agT r0 ≤ P i0 → 3 * w.length ≤ P i0 + 24 * d + awT r0 → 5 * b.length ≤ P i0 + 10 * d + abT r0 → Q K P V m tk tp tv (r0 :: w) b i0 d G w b [] s F lb fl sv tt ff) (hg : agT r0 ≤ P i0) (n1 : gaT r0 ≤ lb + agT r0) (n2 : fmT r0 ≤ fl) (n3 : tt + csT r0 ≤ 10 + sv) (n4 : ff ≤ cfT r0) : Dv K P V m tk tp tv r0 d (.inr i0) s F := by
  have h0 := hQ [] [] [] (by show 0 + _ ≤ _; omega) (by show 3 * 0 ≤ _; omega) (by show 5 * 0 ≤ _; omega)
  cases s with
  | inl j =>
    intro _
    refine ⟨h0.1, h0.2.1, fun G w b l1 l2 l3 => ?_⟩
    obtain ⟨_, _, n, g1, g2⟩ := hQ G w b l1 l2 l3
    exact ⟨n, by omega, g2⟩
  | inr i =>
    intro _
    obtain ⟨⟨g1, g2, g3⟩, _⟩ := h0
    refine ⟨⟨g1, by omega, by omega⟩, fun G w b l1 l2 l3 => ?_⟩
    obtain ⟨_, n, g4, g5⟩ := hQ G w b l1 l2 l3
    exact ⟨n, by omega, g5⟩
theorem go_0 : Go K P V m tk tp tv 0 i G w b d i G w b d := fun gk gp gv gs gn wa bp bf hA c _ => ⟨gk, gp, gv, gs, gn, wa, bp, bf, rfl, hA⟩
theorem q_w {i0 lb fl sv tt ff lb' fl' sv' tt' : Nat} {w0 : List Nat} {b0 b1 : List (Nat × Nat)} {rs : List Nat} {s : Nat ⊕ Nat} {F : Fo} (h : Q K P V m tk tp tv w0 b0 i0 d G w b1 rs s F lb fl sv tt ff) (n1 : lb' ≤ lb) (n2 : fl' ≤ fl) (n3 : sv' ≤ sv) (n4 : tt ≤ tt') : Q K P V m tk tp tv w0 b0 i0 d G w b1 rs s F lb' fl' sv' tt' ff := by
  cases s with
  | inl j => exact h
  | inr i =>
    obtain ⟨⟨q1, q2, q3⟩, n, q4, q5⟩ := h
    exact ⟨⟨q1, by omega, by omega⟩, n, by omega, q5⟩
theorem q_0 {w0 : List Nat} {b0 b1 : List (Nat × Nat)} {rs : List Nat} {ff : Nat} (h : Go K P V m tk tp tv 1 i G w0 b0 d i G (rs ++ w) b1 d) (hi : i ≤ m) : Q K P V m tk tp tv w0 b0 i d G w b1 rs (.inr i) (.num 0) 0 0 0 1 ff := ⟨⟨hi, Nat.le_refl _, Nat.zero_le _⟩, 1, by omega, h⟩
end AM
