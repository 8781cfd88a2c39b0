-- a call of read
def kS (B : Nat → Nat) (e : Nat) : Nat → Nat := fun i => tkK B e (tkA B e i)
def pS (B : Nat → Nat) (e : Nat) : Nat → Nat := fun i => tkA B e i
def vS (B : Nat → Nat) (e : Nat) : Nat → Nat := fun i => tkV B e (tkA B e i)
def wS (B : Nat → Nat) (e : Nat) : Nat → Nat := fun i => tkN B e (tkA B e i)
section RR
variable {B : Nat → Nat} {e n m : Nat} {k pl v ys : Nat → Int32} {size : Int32}
theorem HM_of (h : RL k pl v B e (m + 1)) (hm : m ≤ 8000) : HM (kS B e) (pS B e) m k pl := ⟨hm, fun i hi => ⟨(h i (by omega)).1, (h i (by omega)).2.1⟩, fun i => tkK_le _⟩
theorem HW_of (h : RL k pl v B e (m + 1)) (hm : m ≤ 8000) : HW (kS B e) (pS B e) (wS B e) m pl v := fun i hi hk => ⟨by omega, (h i (by omega)).2.1, (h i (by omega)).2.2 (by have : tkK B e (tkA B e i) = 2 := hk; omega)⟩
theorem tk_word {a : Nat} (h : tkK B e a = 2 ∨ tkK B e a = 3) : a < e ∧ tkN B e a = tkW B e a ∧ tkK B e a = (wkE B a (tkW B e a)).1 ∧ tkV B e a = (wkE B a (tkW B e a)).2 ∧ letB (B a) = true := by
  obtain ⟨h1, h2⟩ := w_let (B := B) (e := e) (a := a) (by omega)
  refine ⟨h2, ?_, ?_, ?_, h1⟩
  · unfold tkN; rw [if_neg (by omega), if_pos h1]
  · unfold tkK; rw [if_neg (by omega), if_pos h1]
  · unfold tkV; rw [if_neg (by omega), if_pos h1]
theorem wk_3 {a w : Nat} (h : (wkE B a w).1 = 3) : soE B a w = some (wkE B a w).2 := by
  unfold wkE at h ⊢
  by_cases q : 40 < w
  · rw [if_pos q] at h; exact absurd h (by decide)
  · rw [if_neg q] at h ⊢
    cases hs : soE B a w with
    | some x => rfl
    | none =>
      rw [hs] at h
      have h' : wdF B a w 11 0 = 3 := h
      rcases wdF_lt (B := B) (p := a) (w := w) 11 0 rfl with r | r
      · omega
      · omega
theorem wk_2 {a w : Nat} (h : (wkE B a w).1 = 2) : (wkE B a w).2 = w := by
  unfold wkE at h ⊢
  by_cases q : 40 < w
  · rw [if_pos q] at h; exact absurd h (by decide)
  · rw [if_neg q] at h ⊢
    cases hs : soE B a w with
    | some x => rw [hs] at h; exact absurd (show 3 = 2 from h) (by decide)
    | none => rfl
theorem HV_of (h : RL k pl v B e (m + 1)) (hB : RM ys size B n) (he : e ≤ n) : HV (kS B e) (pS B e) (vS B e) m v ys B := by
  intro i hi hk
  have hk' : tkK B e (tkA B e i) = 3 := hk
  obtain ⟨h1, h2, h3, h4, _⟩ := tk_word (B := B) (e := e) (Or.inr hk')
  have h5 := tkN_in (B := B) (e := e) (a := tkA B e i) (by omega)
  have hn := hB.1
  refine ⟨tkN B e (tkA B e i), (h i (by omega)).2.2 (by omega), by show tkA B e i + _ ≤ 8000; omega, fun j hj => hB.2.2 _ (by show tkA B e i + j < n; omega), ?_⟩
  show soE B (tkA B e i) (tkN B e (tkA B e i)) = some (tkV B e (tkA B e i))
  rw [h2, h4]
  exact wk_3 (by rw [← h3]; exact hk')
theorem reE_in : ∀ f i j, i ≤ j → j < reE B e f i → innB (B j) = true := by
  intro f
  induction f with
  | zero => intro i j h1 h2; have : reE B e 0 i = i := rfl; omega
  | succ f ih =>
    intro i j h1 h2
    have h2' : j < (if e ≤ i then i else if innB (B i) = true then reE B e f (i + 1) else i) := h2
    by_cases q : e ≤ i
    · rw [if_pos q] at h2'; omega
    · rw [if_neg q] at h2'
      by_cases r : innB (B i) = true
      · rw [if_pos r] at h2'
        by_cases ej : j = i
        · rw [ej]; exact r
        · exact ih (i + 1) j (by omega) h2'
      · rw [if_neg r] at h2'; omega
theorem name_in {i : Nat} (hk : kS B e i = 2) : 1 ≤ wS B e i ∧ pS B e i + wS B e i ≤ e ∧ vS B e i = wS B e i ∧ nmOK B (pS B e i) (wS B e i) := by
  have hk' : tkK B e (tkA B e i) = 2 := hk
  obtain ⟨h1, h2, h3, h4, h5⟩ := tk_word (B := B) (e := e) (Or.inl hk')
  have h6 := tkN_in (B := B) (e := e) (a := tkA B e i) (by omega)
  refine ⟨h6.2.1, h6.2.2, ?_, fun j hj => ?_, h5⟩
  · show tkV B e (tkA B e i) = tkN B e (tkA B e i)
    rw [h4, h2]
    exact wk_2 (by rw [← h3]; exact hk')
  · show innB (B (tkA B e i + j)) = true
    have hj' : j < tkN B e (tkA B e i) := hj
    rw [h2] at hj'
    have g := reE_ge (B := B) (e := e) e (tkA B e i + 1)
    have hj2 : tkA B e i + j < reE B e e (tkA B e i + 1) := by unfold tkW at hj'; omega
    by_cases q : j = 0
    · subst q
      unfold innB
      rw [Nat.add_zero, h5]
      rfl
    · exact reE_in e (tkA B e i + 1) _ (by omega) hj2
end RR
