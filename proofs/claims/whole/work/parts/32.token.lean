-- one token
theorem jl_jm {σ ρ : Type} {body : σ → Option (σ ⊕ ρ)} {s : σ} {x : Option ρ} (h : body s = jm x) : jl body s = x := by rw [jl_unfold, h, jl_b_jm]
def reE (B : Nat → Nat) (e : Nat) : Nat → Nat → Nat
  | 0, i => i
  | f + 1, i => if e ≤ i then i else if innB (B i) = true then reE B e f (i + 1) else i
/-- kind (the class's numbers) and value of the word or name of w bytes at a -/
def wkE (B : Nat → Nat) (a w : Nat) : Nat × Nat := if 40 < w then (1, 0) else match soE B a w with
  | some v => (3, v)
  | none => (wdF B a w 11 0, w)
section TE
variable {row : Nat → Int32} {len : Int32} {bytes : Nat → Int32} {size : Int32} {B : Nat → Nat} {n e : Nat} {k pl v : Nat → Int32}
theorem reE_ge : ∀ f i, i ≤ reE B e f i := by
  intro f
  induction f with
  | zero => intro i; exact Nat.le_refl _
  | succ f ih =>
    intro i
    show i ≤ (if e ≤ i then i else if innB (B i) = true then reE B e f (i + 1) else i)
    split
    · exact Nat.le_refl _
    · split
      · exact Nat.le_trans (Nat.le_succ _) (ih (i + 1))
      · exact Nat.le_refl _
theorem reE_le : ∀ f i, i ≤ e → reE B e f i ≤ e := by
  intro f
  induction f with
  | zero => intro i h; exact h
  | succ f ih =>
    intro i h
    show (if e ≤ i then i else if innB (B i) = true then reE B e f (i + 1) else i) ≤ e
    split
    · exact h
    · split
      · exact ih (i + 1) (by omega)
      · exact h
theorem c_run (h : RB row len B n) (he : e ≤ n) {a : Nat} {c : Int32} : ∀ f i, e ≤ i + f → i ≤ e → jl (Tk_scanWord_b5_b row len k pl v c (nI a) (nI e)) (nI i) = Tk_scanWord_b29 row len k pl v c (nI a) (nI (reE B e f i)) := by
  have hn := h.1
  have out : ∀ i : Nat, e ≤ i → i ≤ e → jl (Tk_scanWord_b5_b row len k pl v c (nI a) (nI e)) (nI i) = Tk_scanWord_b29 row len k pl v c (nI a) (nI i) := by
    intro i h1 h2
    refine jl_jm ?_
    show Tk_scanWord_b5_s row len k pl v c (nI a) (nI e) (nI i) = _
    unfold Tk_scanWord_b5_s
    rw [if_pos (by rw [nI_leI (by omega) (by omega)]; omega)]
  intro f
  induction f with
  | zero => intro i h1 h2; exact out i h1 h2
  | succ f ih =>
    intro i h1 h2
    show _ = Tk_scanWord_b29 row len k pl v c (nI a) (nI (if e ≤ i then i else if innB (B i) = true then reE B e f (i + 1) else i))
    by_cases h0 : e ≤ i
    · rw [if_pos h0]; exact out i h0 h2
    · rw [if_neg h0]
      have q := (h.2.2 i (by omega)).1
      by_cases z : innB (B i) = true
      · rw [if_pos z]
        rw [jl_step (s' := nI (i + 1))]
        · exact ih (i + 1) (by omega) (by omega)
        · show Tk_scanWord_b5_s row len k pl v c (nI a) (nI e) (nI i) = _
          unfold Tk_scanWord_b5_s
          rw [if_neg (by rw [nI_leI (by omega) (by omega)]; omega), p_at h (by omega), jb_some, c_isInName _ q, jb_some, nI_1]
          simp only [if_pos z, if_neg n10]
      · rw [if_neg z]
        refine jl_jm ?_
        show Tk_scanWord_b5_s row len k pl v c (nI a) (nI e) (nI i) = _
        unfold Tk_scanWord_b5_s
        rw [if_neg (by rw [nI_leI (by omega) (by omega)]; omega), p_at h (by omega), jb_some, c_isInName _ q, jb_some]
        simp only [if_neg z, if_true]
theorem c_addToken {c : Nat} {x a4 y z : Int32} (hc : c < 8001) : f_Tk_addToken k pl v (nI c) x y z a4 = some (y + a4, upd k c x, upd pl c y, upd v c z, nI (c + 1)) := by
  unfold f_Tk_addToken Tk_addToken_b50
  have b : ¬ (nI c < 0 ∨ 8001 ≤ c) := nI_inC hc (by decide)
  rw [if_neg (show ¬ (8001 : Int32) ≤ nI c by rw [show (8001 : Int32) = nI 8001 from rfl, nI_leI (by omega) (by omega)]; omega), nI_clamp (by omega)]
  simp only [if_neg b, nI_1]
theorem c_scanWord (h : RB row len B n) (he : e ≤ n) {a c : Nat} (ha : a < e) (hc : c < 8001) : f_Tk_scanWord row len k pl v (nI c) (nI a) (nI e) = some (nI (reE B e e (a + 1)), upd k c (nI (wkE B a (reE B e e (a + 1) - a)).1), upd pl c (nI a), upd v c (nI (wkE B a (reE B e e (a + 1) - a)).2), nI (c + 1)) := by
  have hn := h.1
  have g1 := reE_ge (B := B) (e := e) e (a + 1)
  have g2 := reE_le (B := B) (e := e) e (a + 1) (by omega)
  unfold f_Tk_scanWord Tk_scanWord_b5
  rw [nI_1, c_run h he e (a + 1) (by omega) (by omega)]
  generalize reE B e e (a + 1) = r at g1 g2
  unfold Tk_scanWord_b29 wkE
  have d : nI r - nI a = nI (r - a) := pk_sub (by omega)
  have d2 : nI a + nI (r - a) = nI r := by rw [nI_add]; congr 1; omega
  have w40 : (nI (r - a) ≤ (40 : Int32)) = (r - a ≤ 40) := propext (nI_leI (b := 40) (by omega) (by decide))
  simp only [d, w40]
  by_cases h40 : r - a ≤ 40
  · have h41 : ¬ 40 < r - a := by omega
    simp only [if_pos h40, if_neg h41]
    rw [c_sortAt h (by omega), jb_some]
    cases hs : soE B a (r - a) with
    | some x =>
      have hx : x < 2 ^ 31 := by
        have hb : ∀ i, i < n → B i < 256 := fun i hi => (h.2.2 i hi).1
        unfold soE at hs
        split at hs
        · cases hs; decide
        · split at hs
          · split at hs
            · cases hs; decide
            · split at hs
              · split at hs
                · cases hs; have := hb (a + 4) (by omega); omega
                · cases hs
              · split at hs
                · split at hs
                  · cases hs; have := hb (a + 4) (by omega); have := hb (a + 5) (by omega); omega
                  · cases hs
                · cases hs
          · cases hs
      dsimp only
      rw [if_neg (ne_m1 hx), c_addToken hc, jb_some, d2]
      rfl
    | none =>
      dsimp only
      rw [if_pos rfl, c_wordAt h (by omega), jb_some, c_addToken hc, jb_some, d2]
  · have h41 : 40 < r - a := by omega
    simp only [if_neg h40, if_pos h41]
    rw [c_addToken hc, jb_some, d2]
    rfl
end TE
