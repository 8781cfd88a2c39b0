-- blanks: what both make of them, over the bytes B, the first e of them
def lnE (B : Nat → Nat) (e : Nat) : Nat → Nat → Nat
  | 0, i => i
  | f + 1, i => if e ≤ i then i else if B i = 10 then i else lnE B e f (i + 1)
def opE (B : Nat → Nat) (i : Nat) : Prop := B i = 123 ∧ B (i + 1) = 45
def clE (B : Nat → Nat) (i : Nat) : Prop := B i = 45 ∧ B (i + 1) = 125
def rkE (B : Nat → Nat) (e : Nat) : Nat → Nat → Nat → Option Nat
  | 0, _, _ => none
  | f + 1, o, i => if e ≤ i + 1 then none else if B i = 123 ∧ B (i + 1) = 45 then rkE B e f (o + 1) (i + 2) else if B i = 45 ∧ B (i + 1) = 125 then (if o = 1 then some (i + 2) else rkE B e f (o - 1) (i + 2)) else rkE B e f o (i + 1)
theorem lits : (0 : Int32) = nI 0 ∧ (1 : Int32) = nI 1 ∧ (2 : Int32) = nI 2 ∧ (3 : Int32) = nI 3 ∧ (4 : Int32) = nI 4 ∧ (5 : Int32) = nI 5 ∧ (6 : Int32) = nI 6 ∧ (7 : Int32) = nI 7 ∧ (8 : Int32) = nI 8 ∧ (9 : Int32) = nI 9 ∧ (10 : Int32) = nI 10 ∧ (11 : Int32) = nI 11 ∧ (12 : Int32) = nI 12 ∧ (13 : Int32) = nI 13 ∧ (14 : Int32) = nI 14 ∧ (15 : Int32) = nI 15 ∧ (16 : Int32) = nI 16 ∧ (17 : Int32) = nI 17 ∧ (18 : Int32) = nI 18 ∧ (19 : Int32) = nI 19 ∧ (20 : Int32) = nI 20 ∧ (21 : Int32) = nI 21 ∧ (22 : Int32) = nI 22 ∧ (23 : Int32) = nI 23 ∧ (24 : Int32) = nI 24 ∧ (25 : Int32) = nI 25 ∧ (26 : Int32) = nI 26 ∧ (27 : Int32) = nI 27 ∧ (28 : Int32) = nI 28 ∧ (29 : Int32) = nI 29 ∧ (30 : Int32) = nI 30 ∧ (31 : Int32) = nI 31 ∧ (32 : Int32) = nI 32 ∧ (33 : Int32) = nI 33 ∧ (34 : Int32) = nI 34 ∧ (35 : Int32) = nI 35 ∧ (36 : Int32) = nI 36 ∧ (37 : Int32) = nI 37 ∧ (38 : Int32) = nI 38 ∧ (39 : Int32) = nI 39 ∧ (40 : Int32) = nI 40 ∧ (41 : Int32) = nI 41 ∧ (42 : Int32) = nI 42 ∧ (43 : Int32) = nI 43 ∧ (44 : Int32) = nI 44 ∧ (45 : Int32) = nI 45 ∧ (46 : Int32) = nI 46 ∧ (48 : Int32) = nI 48 ∧ (57 : Int32) = nI 57 ∧ (58 : Int32) = nI 58 ∧ (60 : Int32) = nI 60 ∧ (61 : Int32) = nI 61 ∧ (62 : Int32) = nI 62 ∧ (65 : Int32) = nI 65 ∧ (84 : Int32) = nI 84 ∧ (90 : Int32) = nI 90 ∧ (95 : Int32) = nI 95 ∧ (97 : Int32) = nI 97 ∧ (100 : Int32) = nI 100 ∧ (122 : Int32) = nI 122 ∧ (123 : Int32) = nI 123 ∧ (124 : Int32) = nI 124 ∧ (125 : Int32) = nI 125 ∧ (255 : Int32) = nI 255 ∧ (1023 : Int32) = nI 1023 ∧ (2048 : Int32) = nI 2048 ∧ (4096 : Int32) = nI 4096 ∧ (7980 : Int32) = nI 7980 ∧ (8000 : Int32) = nI 8000 ∧ (8001 : Int32) = nI 8001 ∧ (9000 : Int32) = nI 9000 ∧ (12288 : Int32) = nI 12288 ∧ (1000000 : Int32) = nI 1000000 := ⟨rfl, rfl, rfl, rfl, rfl, rfl, rfl, rfl, rfl, rfl, rfl, rfl, rfl, rfl, rfl, rfl, rfl, rfl, rfl, rfl, rfl, rfl, rfl, rfl, rfl, rfl, rfl, rfl, rfl, rfl, rfl, rfl, rfl, rfl, rfl, rfl, rfl, rfl, rfl, rfl, rfl, rfl, rfl, rfl, rfl, rfl, rfl, rfl, rfl, rfl, rfl, rfl, rfl, rfl, rfl, rfl, rfl, rfl, rfl, rfl, rfl, rfl, rfl, rfl, rfl, rfl, rfl, rfl, rfl, rfl, rfl, rfl, rfl⟩
section BL
variable {row : Nat → Int32} {len : Int32} {bytes : Nat → Int32} {size : Int32} {B : Nat → Nat} {n e : Nat}
theorem nIne {a b : Nat} (ha : a < 2 ^ 31) (hb : b < 2 ^ 31) (h : ¬ a = b) : ¬ nI a = nI b := fun q => h ((nI_eq ha hb).mp q)
theorem lnE_ge : ∀ f i, i ≤ lnE B e f i := by
  intro f
  induction f with
  | zero => intro i; exact Nat.le_refl _
  | succ f ih =>
    intro i
    unfold lnE
    split
    · exact Nat.le_refl _
    · split
      · exact Nat.le_refl _
      · exact Nat.le_trans (Nat.le_succ _) (ih (i + 1))
theorem lnE_le : ∀ f i, i ≤ e → lnE B e f i ≤ e := by
  intro f
  induction f with
  | zero => intro i h; exact h
  | succ f ih =>
    intro i h
    unfold lnE
    split
    · exact h
    · split
      · exact h
      · exact ih (i + 1) (by omega)
theorem c_line (h : RB row len B n) (he : e ≤ n) : ∀ f i, e ≤ i + f → i ≤ 8000 → jl (Tk_behindLine_b2_b row len (nI e)) (nI i) = some (nI (lnE B e f i)) := by
  have hn := h.1
  intro f
  induction f with
  | zero =>
    intro i hi h8
    refine jl_done ?_
    show Tk_behindLine_b2_s row len (nI e) (nI i) = _
    unfold Tk_behindLine_b2_s
    rw [if_pos (by rw [nI_leI (by omega) (by omega)]; omega)]
    rfl
  | succ f ih =>
    intro i hi h8
    unfold lnE
    by_cases h1 : e ≤ i
    · rw [if_pos h1]
      refine jl_done ?_
      show Tk_behindLine_b2_s row len (nI e) (nI i) = _
      unfold Tk_behindLine_b2_s
      rw [if_pos (by rw [nI_leI (by omega) (by omega)]; omega)]
    · rw [if_neg h1]
      have hb := (h.2.2 i (by omega)).1
      by_cases h2 : B i = 10
      · rw [if_pos h2]
        refine jl_done ?_
        show Tk_behindLine_b2_s row len (nI e) (nI i) = _
        unfold Tk_behindLine_b2_s
        rw [if_neg (by rw [nI_leI (by omega) (by omega)]; omega), p_at h (by omega), jb_some, if_pos (by rw [h2]; rfl)]
      · rw [if_neg h2]
        rw [jl_step (s' := nI (i + 1))]
        · exact ih (i + 1) (by omega) (by omega)
        · show Tk_behindLine_b2_s row len (nI e) (nI i) = _
          unfold Tk_behindLine_b2_s
          rw [if_neg (by rw [nI_leI (by omega) (by omega)]; omega), p_at h (by omega), jb_some, if_neg (show ¬ nI (B i) = 10 from nIne (b := 10) (by omega) (by decide) h2), nI_1]
theorem m_line (h : RM bytes size B n) (he : e ≤ n) : ∀ f i, e ≤ i + f → i ≤ 8000 → jl (Mo_behindBlanks_b59_b bytes (nI e)) (nI i) = some (.inl (nI (lnE B e f i))) := by
  have hn := h.1
  intro f
  induction f with
  | zero =>
    intro i hi h8
    refine jl_done ?_
    show Mo_behindBlanks_b59_s bytes (nI e) (nI i) = _
    unfold Mo_behindBlanks_b59_s Mo_behindBlanks_b221
    rw [if_pos (by rw [nI_leI (by omega) (by omega)]; omega)]
    rfl
  | succ f ih =>
    intro i hi h8
    unfold lnE
    by_cases h1 : e ≤ i
    · rw [if_pos h1]
      refine jl_done ?_
      show Mo_behindBlanks_b59_s bytes (nI e) (nI i) = _
      unfold Mo_behindBlanks_b59_s Mo_behindBlanks_b221
      rw [if_pos (by rw [nI_leI (by omega) (by omega)]; omega)]
      rfl
    · rw [if_neg h1]
      have hb := h.2.2 i (by omega)
      by_cases h2 : B i = 10
      · rw [if_pos h2]
        refine jl_done ?_
        show Mo_behindBlanks_b59_s bytes (nI e) (nI i) = _
        unfold Mo_behindBlanks_b59_s Mo_behindBlanks_b221
        rw [if_neg (by rw [nI_leI (by omega) (by omega)]; omega), if_neg (nI_in (show i < 8000 by omega) (by decide)), nI_clamp (by omega), hb.2, if_pos (by rw [h2]; rfl)]
        rfl
      · rw [if_neg h2]
        rw [jl_step (s' := nI (i + 1))]
        · exact ih (i + 1) (by omega) (by omega)
        · show Mo_behindBlanks_b59_s bytes (nI e) (nI i) = _
          unfold Mo_behindBlanks_b59_s
          rw [if_neg (by rw [nI_leI (by omega) (by omega)]; omega), if_neg (nI_in (show i < 8000 by omega) (by decide)), nI_clamp (by omega), hb.2, if_neg (show ¬ nI (B i) = 10 from nIne (b := 10) (by omega) (by decide) h2), nI_1]
/-- the reference's isAt -/
theorem m_isAt (h : RM bytes size B n) (he : e ≤ n) {i a b : Nat} (ha : a < 256) (hb : b < 256) (hi : i ≤ 8000) : f_Mo_isAt bytes (nI e) (nI i) (nI a) (nI b) = some (if i + 1 < e ∧ B i = a ∧ B (i + 1) = b then 1 else 0) := by
  have hn := h.1
  unfold f_Mo_isAt Mo_isAt_b36
  rw [nI_1]
  by_cases h1 : i + 1 < e
  · have q1 := h.2.2 i (by omega)
    have q2 := h.2.2 (i + 1) (by omega)
    rw [if_neg (by rw [nI_leI (by omega) (by omega)]; omega), if_neg (nI_in (show i < 8000 by omega) (by decide)), nI_clamp (by omega), q1.2]
    by_cases h2 : B i = a
    · rw [if_pos (by rw [h2]), if_neg (nI_in (show i + 1 < 8000 by omega) (by decide)), nI_clamp (by omega), q2.2]
      by_cases h3 : B (i + 1) = b
      · rw [if_pos (by rw [h3]), if_pos ⟨h1, h2, h3⟩, vb1]
      · rw [if_neg (nIne (by omega) (by omega) h3), if_neg (fun q => h3 q.2.2), vb0]
    · rw [if_neg (nIne (by omega) (by omega) h2), if_neg (fun q => h2 q.2.1), vb0]
  · rw [if_pos (by rw [nI_leI (by omega) (by omega)]; omega), if_neg (fun q => h1 q.1), vb0]
theorem rk_step {f o i : Nat} : rkE B e (f + 1) o i = if e ≤ i + 1 then none else if B i = 123 ∧ B (i + 1) = 45 then rkE B e f (o + 1) (i + 2) else if B i = 45 ∧ B (i + 1) = 125 then (if o = 1 then some (i + 2) else rkE B e f (o - 1) (i + 2)) else rkE B e f o (i + 1) := rfl
theorem c_rk (h : RB row len B n) (he : e ≤ n) {from_ : Nat} : ∀ f o i, e ≤ i + f → 1 ≤ o → o ≤ i → i ≤ 8000 → jl (Tk_behindRemark_b5_b row len (nI from_) (nI e)) (nI o, nI i) = some (match rkE B e f o i with | some p => nI p | none => nI from_) := by
  have hn := h.1
  intro f
  induction f with
  | zero =>
    intro o i hi ho hoi h8
    refine jl_done ?_
    show Tk_behindRemark_b5_s row len (nI from_) (nI e) (nI o) (nI i) = _
    unfold Tk_behindRemark_b5_s
    rw [nI_1, if_pos (by rw [nI_leI (by omega) (by omega)]; omega)]
    rfl
  | succ f ih =>
    intro o i hi ho hoi h8
    rw [rk_step]
    by_cases h1 : e ≤ i + 1
    · rw [if_pos h1]
      refine jl_done ?_
      show Tk_behindRemark_b5_s row len (nI from_) (nI e) (nI o) (nI i) = _
      unfold Tk_behindRemark_b5_s
      rw [nI_1, if_pos (by rw [nI_leI (by omega) (by omega)]; omega)]
    · rw [if_neg h1]
      have q1 := (h.2.2 i (by omega)).1
      have q2 := (h.2.2 (i + 1) (by omega)).1
      have body : Tk_behindRemark_b5_b row len (nI from_) (nI e) (nI o, nI i) = if B i = 123 ∧ B (i + 1) = 45 then some (.inl (nI (o + 1), nI (i + 2))) else if B i = 45 ∧ B (i + 1) = 125 then (if o = 1 then some (.inr (nI (i + 2))) else some (.inl (nI (o - 1), nI (i + 2)))) else some (.inl (nI o, nI (i + 1))) := by
        show Tk_behindRemark_b5_s row len (nI from_) (nI e) (nI o) (nI i) = _
        unfold Tk_behindRemark_b5_s Tk_behindRemark_b49 Tk_behindRemark_b50 Tk_behindRemark_b70 Tk_behindRemark_b71 Tk_behindRemark_b93 Tk_behindRemark_b107 Tk_behindRemark_b112
        have m1 : (-1 : Int32) = -nI 1 := rfl
        have e1 : nI o + (-1 : Int32) = nI (o - 1) := sb_m1 (by omega)
        have z0 : ¬ nI (o + 1) = 0 := nI_ne0 (by omega) (by omega)
        have z1 : ¬ nI o = 0 := nI_ne0 (by omega) (by omega)
        rw [nI_1, if_neg (by rw [nI_leI (by omega) (by omega)]; omega), p_at h (by omega), p_at h (by omega), jb_some, jb_some]
        have c1 : (nI (B i) = (123 : Int32)) = (B i = 123) := propext (nI_eq (b := 123) (by omega) (by decide))
        have c2 : (nI (B (i + 1)) = (45 : Int32)) = (B (i + 1) = 45) := propext (nI_eq (b := 45) (by omega) (by decide))
        have c3 : (nI (B i) = (45 : Int32)) = (B i = 45) := propext (nI_eq (b := 45) (by omega) (by decide))
        have c4 : (nI (B (i + 1)) = (125 : Int32)) = (B (i + 1) = 125) := propext (nI_eq (b := 125) (by omega) (by decide))
        have c5 : (nI (o - 1) = (0 : Int32)) = (o = 1) := propext ⟨fun q => by have := (nI_eq (a := o - 1) (b := 0) (by omega) (by decide)).mp q; omega, fun q => by subst q; rfl⟩
        have d1 : nI i + (2 : Int32) = nI (i + 2) := nI_add i 2
        have d2 : nI o + (0 : Int32) = nI o := nI_add o 0
        simp only [c1, c2, c3, c4, e1, z0, z1, nI_1, d1, d2, n10, if_true, if_false]
        by_cases k1 : B i = 123
        · have k3 : ¬ B i = 45 := by omega
          by_cases k2 : B (i + 1) = 45
          · simp [k1, k2, z0]
          · simp [k1, k2, z1]
        · by_cases k3 : B i = 45
          · by_cases k4 : B (i + 1) = 125
            · simp [k1, k3, k4, c5]
            · simp [k1, k3, k4, z1]
          · simp [k1, k3, z1]
      by_cases k1 : B i = 123 ∧ B (i + 1) = 45
      · rw [if_pos k1] at body ⊢
        rw [jl_step body]
        exact ih (o + 1) (i + 2) (by omega) (by omega) (by omega) (by omega)
      · rw [if_neg k1] at body ⊢
        by_cases k2 : B i = 45 ∧ B (i + 1) = 125
        · rw [if_pos k2] at body ⊢
          by_cases k3 : o = 1
          · rw [if_pos k3] at body ⊢
            rw [jl_done body]
          · rw [if_neg k3] at body ⊢
            rw [jl_step body]
            exact ih (o - 1) (i + 2) (by omega) (by omega) (by omega) (by omega)
        · rw [if_neg k2] at body ⊢
          rw [jl_step body]
          exact ih o (i + 1) (by omega) (by omega) (by omega) (by omega)
end BL
