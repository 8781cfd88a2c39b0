-- the tokens of a text
def tkW (B : Nat → Nat) (e a : Nat) : Nat := reE B e e (a + 1) - a
def tkD (B : Nat → Nat) (e a : Nat) : Nat := if a + 1 < e then B (a + 1) else 256
def tkK (B : Nat → Nat) (e a : Nat) : Nat := if e ≤ a then 0 else if letB (B a) = true then (wkE B a (tkW B e a)).1 else sgE (B a) (tkD B e a)
def tkV (B : Nat → Nat) (e a : Nat) : Nat := if e ≤ a then 0 else if letB (B a) = true then (wkE B a (tkW B e a)).2 else 0
def tkN (B : Nat → Nat) (e a : Nat) : Nat := if tkK B e a ≤ 1 then 0 else if letB (B a) = true then tkW B e a else sglE (tkK B e a)
def tkQ (B : Nat → Nat) (e : Nat) : Nat → Nat
  | 0 => 0
  | i + 1 => blE B e e (tkQ B e i) + tkN B e (blE B e e (tkQ B e i))
def tkA (B : Nat → Nat) (e i : Nat) : Nat := blE B e e (tkQ B e i)
theorem tkQ_succ (B : Nat → Nat) (e i : Nat) : tkQ B e (i + 1) = tkA B e i + tkN B e (tkA B e i) := rfl
/-- the reference's number of a token's kind -/
def cm (k : Nat) : Nat := if k ≤ 3 then k else if k ≤ 14 then k + 16 else k - 11
section TK
variable {row : Nat → Int32} {len : Int32} {bytes : Nat → Int32} {size : Int32} {B : Nat → Nat} {n e : Nat} {k pl v : Nat → Int32}
theorem wk_in (a w : Nat) : (wkE B a w).1 ≠ 0 ∧ (wkE B a w).1 ≤ 14 := by
  unfold wkE
  split
  · exact ⟨by decide, by decide⟩
  · cases soE B a w with
    | some x => show (3 : Nat) ≠ 0 ∧ (3 : Nat) ≤ 14; exact ⟨by decide, by decide⟩
    | none =>
      show wdF B a w 11 0 ≠ 0 ∧ wdF B a w 11 0 ≤ 14
      rcases wdF_lt (B := B) (p := a) (w := w) 11 0 rfl with q | q
      · rw [q]; exact ⟨by decide, by decide⟩
      · exact ⟨by omega, by omega⟩
theorem tkK_le (a : Nat) : tkK B e a ≤ 23 := by
  unfold tkK
  split
  · omega
  · split
    · have := (wk_in (B := B) a (tkW B e a)).2; omega
    · have := sgE_in (B a) (tkD B e a); omega
theorem tkW_in {a : Nat} (ha : a < e) : 1 ≤ tkW B e a ∧ a + tkW B e a ≤ e := by
  have g1 := reE_ge (B := B) (e := e) e (a + 1)
  have g2 := reE_le (B := B) (e := e) e (a + 1) (by omega)
  unfold tkW
  omega
theorem tkK_lt {a : Nat} (h : tkK B e a ≠ 0) : a < e := by
  unfold tkK at h
  split at h
  · exact absurd rfl h
  · omega
theorem tkN_in {a : Nat} (h : 2 ≤ tkK B e a) : a < e ∧ 1 ≤ tkN B e a ∧ a + tkN B e a ≤ e := by
  have ha : a < e := tkK_lt (B := B) (by omega)
  refine ⟨ha, ?_⟩
  unfold tkN
  rw [if_neg (by omega)]
  by_cases hl : letB (B a) = true
  · rw [if_pos hl]; exact tkW_in ha
  · rw [if_neg hl]
    have e1 : tkK B e a = sgE (B a) (tkD B e a) := by unfold tkK; rw [if_neg (by omega), if_neg hl]
    rw [e1] at h ⊢
    by_cases h1 : a + 1 < e
    · unfold sglE; split
      · omega
      · split <;> omega
    · have e2 : tkD B e a = 256 := by unfold tkD; rw [if_neg h1]
      rw [e2] at h ⊢
      have e3 : sglE (sgE (B a) 256) = 1 := by
        unfold sglE
        rw [if_neg (by omega), if_neg]
        unfold sgE
        repeat' split
        all_goals omega
      rw [e3]
      omega
theorem tkQ_le : ∀ i, tkQ B e i ≤ e := by
  intro i
  induction i with
  | zero => exact Nat.zero_le _
  | succ i ih =>
    rw [tkQ_succ]
    have h1 : tkA B e i ≤ e := blE_le e _ ih
    by_cases h : 2 ≤ tkK B e (tkA B e i)
    · exact (tkN_in h).2.2
    · unfold tkN
      rw [if_pos (by omega)]
      exact h1
theorem tkA_le (i : Nat) : tkA B e i ≤ e := blE_le e _ (tkQ_le i)
theorem tkA_lt {i : Nat} (h : 2 ≤ tkK B e (tkA B e i)) : tkA B e i < tkA B e (i + 1) := by
  have h1 := tkN_in h
  have h2 : tkQ B e (i + 1) ≤ tkA B e (i + 1) := blE_ge e _
  rw [tkQ_succ] at h2
  omega
theorem tkA_ge : ∀ i, (∀ j, j < i → 2 ≤ tkK B e (tkA B e j)) → i ≤ tkA B e i := by
  intro i
  induction i with
  | zero => intro _; exact Nat.zero_le _
  | succ i ih =>
    intro h
    have h1 := ih (fun j hj => h j (by omega))
    have h2 := tkA_lt (h i (by omega))
    omega
/-- the last token -/
def tkM (B : Nat → Nat) (e m : Nat) : Prop := (∀ j, j < m → 2 ≤ tkK B e (tkA B e j)) ∧ tkK B e (tkA B e m) ≤ 1
theorem tkM_ex : ∃ m, m ≤ e ∧ tkM B e m := by
  have key : ∀ f i, e ≤ i + f → (∀ j, j < i → 2 ≤ tkK B e (tkA B e j)) → ∃ m, m ≤ e ∧ tkM B e m := by
    intro f
    induction f with
    | zero =>
      intro i h1 h2
      have h3 := tkA_ge i h2
      have h4 := tkA_le (B := B) (e := e) i
      refine ⟨i, by omega, h2, ?_⟩
      unfold tkK
      rw [if_pos (by omega)]
      omega
    | succ f ih =>
      intro i h1 h2
      have h3 := tkA_ge i h2
      have h4 := tkA_le (B := B) (e := e) i
      by_cases h : 2 ≤ tkK B e (tkA B e i)
      · refine ih (i + 1) (by omega) (fun j hj => ?_)
        by_cases q : j = i
        · rw [q]; exact h
        · exact h2 j (by omega)
      · exact ⟨i, by omega, h2, by omega⟩
  exact key e 0 (by omega) (fun j hj => by omega)
theorem c_blanksF (h : RB row len B n) (he : e ≤ n) {i : Nat} (hi : i ≤ e) : f_Tk_behindBlanks row len (nI i) (nI e) = some (nI (blE B e e i)) := by
  unfold f_Tk_behindBlanks Tk_behindBlanks_b5
  exact c_blanks h he e i 0 (by omega) (by omega) hi
theorem m_blanksF (h : RM bytes size B n) (he : e ≤ n) {i : Nat} (hi : i ≤ e) : f_Mo_behindBlanks bytes (nI e) (nI i) = some (mblE B e (blE B e e i)) := by
  unfold f_Mo_behindBlanks Mo_behindBlanks_b2
  exact m_blanks h he e i (by omega) hi
theorem c_scan79 {c nx l2 s0 : Int32} {i kd : Nat} (hi : i < 8001) (hk : k i = nI kd) (hd : kd ≤ 23) : Tk_scan_b79 row len k pl v c nx l2 (nI i) s0 = some (.inl (k, pl, v, c, s0, (if kd ≤ 1 then (0 : Int32) else 1), nI (i + 1))) := by
  unfold Tk_scan_b79 Tk_scan_b105 Tk_scan_b106
  have b : ¬ (nI i < 0 ∨ 8001 ≤ i) := nI_inC hi (by decide)
  have c0 : (nI kd = (0 : Int32)) = (kd = 0) := propext (nI_eq (b := 0) (by omega) (by decide))
  have c1 : (nI kd = (1 : Int32)) = (kd = 1) := propext (nI_eq (b := 1) (by omega) (by decide))
  simp only [nI_clamp (show i < 2 ^ 31 by omega), if_neg b, hk, nI_1, c0, c1]
  by_cases h0 : kd = 0
  · rw [if_pos h0, if_pos (show kd ≤ 1 by omega)]
  · rw [if_neg h0]
    by_cases h1 : kd = 1
    · rw [if_pos h1, if_pos (show kd ≤ 1 by omega)]
    · rw [if_neg h1, if_neg (show ¬ kd ≤ 1 by omega)]
theorem c_scan1 (h : RB row len B n) (he : e ≤ n) {nx : Int32} {i : Nat} (hi : i < 8001) : ∃ x, Tk_scan_b18_b row len nx (nI e) (k, pl, v, nI i, nI (tkQ B e i), 1, nI i) = some (.inl (upd k i (nI (tkK B e (tkA B e i))), upd pl i (nI (tkA B e i)), upd v i (nI (tkV B e (tkA B e i))), nI (i + 1), x, (if tkK B e (tkA B e i) ≤ 1 then (0 : Int32) else 1), nI (i + 1))) ∧ (2 ≤ tkK B e (tkA B e i) → x = nI (tkQ B e (i + 1))) := by
  have hn := h.1
  have hq := tkQ_le (B := B) (e := e) i
  have ha := tkA_le (B := B) (e := e) i
  have hb : f_Tk_behindBlanks row len (nI (tkQ B e i)) (nI e) = some (nI (tkA B e i)) := c_blanksF h he hq
  have hkl := tkK_le (B := B) (e := e) (tkA B e i)
  rw [tkQ_succ]
  generalize tkA B e i = a at ha hb hkl
  show ∃ x, Tk_scan_b18_s row len nx (nI e) k pl v (nI i) (nI (tkQ B e i)) 1 (nI i) = _ ∧ _
  unfold Tk_scan_b18_s
  rw [if_neg (show ¬ (8001 : Int32) ≤ nI i by rw [show (8001 : Int32) = nI 8001 from rfl, nI_leI (by omega) (by omega)]; omega), if_neg n10, hb, jb_some]
  by_cases hz : e ≤ a
  · have ea : e = a := by omega
    have k0 : tkK B e a = 0 := by unfold tkK; rw [if_pos hz]
    have v0 : tkV B e a = 0 := by unfold tkV; rw [if_pos hz]
    rw [if_pos (by rw [nI_leI (by omega) (by omega)]; exact hz)]
    unfold Tk_scan_b52
    rw [c_isLetterN, jb_some, if_pos rfl, c_scanEnd (by omega) hz (by omega) hi, jb_some]
    have := c_scan79 (row := row) (len := len) (c := nI (i + 1)) (nx := nx) (l2 := nI e) (s0 := nI e) (k := upd k i (nI 0)) (pl := upd pl i (nI e)) (v := upd v i (nI 0)) (kd := 0) hi pk_us (by decide)
    refine ⟨nI e, ?_, fun q => by omega⟩
    rw [k0, v0, ← ea]
    exact this
  · have q := (h.2.2 a (by omega)).1
    rw [if_neg (by rw [nI_leI (by omega) (by omega)]; exact hz), p_at h (by omega), jb_some]
    unfold Tk_scan_b52
    rw [c_isLetter _ q, jb_some]
    by_cases hl : letB (B a) = true
    · have k0 : tkK B e a = (wkE B a (tkW B e a)).1 := by unfold tkK; rw [if_neg hz, if_pos hl]
      have v0 : tkV B e a = (wkE B a (tkW B e a)).2 := by unfold tkV; rw [if_neg hz, if_pos hl]
      rw [k0] at hkl
      have w0 := tkW_in (B := B) (e := e) (a := a) (by omega)
      have g1 := reE_ge (B := B) (e := e) e (a + 1)
      simp only [if_pos hl, if_neg n10]
      rw [c_scanWord h he (by omega) hi, jb_some]
      have := c_scan79 (row := row) (len := len) (c := nI (i + 1)) (nx := nx) (l2 := nI e) (s0 := nI (reE B e e (a + 1))) (k := upd k i (nI (wkE B a (tkW B e a)).1)) (pl := upd pl i (nI a)) (v := upd v i (nI (wkE B a (tkW B e a)).2)) hi pk_us hkl
      refine ⟨nI (reE B e e (a + 1)), ?_, ?_⟩
      · rw [k0, v0]
        exact this
      · intro q2
        unfold tkN
        rw [if_neg (by omega), if_pos hl]
        congr 1
        unfold tkW
        omega
    · have k0 : tkK B e a = sgE (B a) (tkD B e a) := by unfold tkK; rw [if_neg hz, if_neg hl]
      have v0 : tkV B e a = 0 := by unfold tkV; rw [if_neg hz, if_neg hl]
      rw [k0] at hkl
      simp only [if_neg hl, if_true]
      rw [c_scanSign h he (by omega) hi, jb_some]
      have := c_scan79 (row := row) (len := len) (c := nI (i + 1)) (nx := nx) (l2 := nI e) (s0 := nI (a + sglE (sgE (B a) (tkD B e a)))) (k := upd k i (nI (sgE (B a) (tkD B e a)))) (pl := upd pl i (nI a)) (v := upd v i 0) hi pk_us hkl
      refine ⟨nI (a + sglE (sgE (B a) (tkD B e a))), ?_, ?_⟩
      · rw [k0, v0]
        exact this
      · intro q2
        unfold tkN
        rw [if_neg (by omega), if_neg hl, k0]
/-- the class's rows hold the tokens up to the last, m -/
def RK (k pl v : Nat → Int32) (B : Nat → Nat) (e m : Nat) : Prop := ∀ i, i < m → k i = nI (tkK B e (tkA B e i)) ∧ pl i = nI (tkA B e i) ∧ v i = nI (tkV B e (tkA B e i))
theorem RK_upd {i : Nat} (hr : RK k pl v B e i) : RK (upd k i (nI (tkK B e (tkA B e i)))) (upd pl i (nI (tkA B e i))) (upd v i (nI (tkV B e (tkA B e i)))) B e (i + 1) := by
  intro j hj
  by_cases q : j = i
  · subst q; rw [pk_us, pk_us, pk_us]; exact ⟨rfl, rfl, rfl⟩
  · rw [pk_un q, pk_un q, pk_un q]; exact hr j (by omega)
theorem c_scan (h : RB row len B n) (he : e ≤ n) {nx c0 : Int32} {m : Nat} (hm : tkM B e m) (hme : m ≤ e) : ∃ k' pl' v', f_Tk_scan row len k pl v c0 nx (nI e) = some (k', pl', v', nI (m + 1), 0) ∧ RK k' pl' v' B e (m + 1) := by
  have hn := h.1
  have key : ∀ f i k pl v, i + f = m → RK k pl v B e i → ∃ k' pl' v', jl (Tk_scan_b18_b row len 0 (nI e)) (k, pl, v, nI i, nI (tkQ B e i), 1, nI i) = some (k', pl', v', nI (m + 1), 0) ∧ RK k' pl' v' B e (m + 1) := by
    intro f
    induction f with
    | zero =>
      intro i k pl v h1 h2
      obtain ⟨x, e1, -⟩ := c_scan1 (k := k) (pl := pl) (v := v) (nx := 0) h he (i := i) (by omega)
      have hi : i = m := by omega
      subst hi
      rw [jl_step e1]
      refine ⟨_, _, _, jl_done ?_, RK_upd h2⟩
      show Tk_scan_b18_s row len 0 (nI e) _ _ _ _ _ _ _ = _
      unfold Tk_scan_b18_s
      rw [if_pos hm.2]
      split
      · rfl
      · rw [if_pos rfl]
    | succ f ih =>
      intro i k pl v h1 h2
      obtain ⟨x, e1, e2⟩ := c_scan1 (k := k) (pl := pl) (v := v) (nx := 0) h he (i := i) (by omega)
      have g := hm.1 i (by omega)
      rw [jl_step e1, if_neg (by omega), e2 g]
      exact ih (i + 1) _ _ _ (by omega) (RK_upd h2)
  unfold f_Tk_scan Tk_scan_b18
  exact key m 0 k pl v (by omega) (fun i hi => by omega)
end TK
