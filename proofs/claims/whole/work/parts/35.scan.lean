-- the reference's scan
section TL
variable {row : Nat → Int32} {len : Int32} {bytes : Nat → Int32} {size : Int32} {B : Nat → Nat} {n e : Nat} {k pl v : Nat → Int32}
theorem m_token {c : Nat} {x y z : Int32} (hc : c < 8001) : f_Mo_token k pl v (nI c) x y z = some (upd k c x, upd pl c y, upd v c z, nI (c + 1)) := by
  unfold f_Mo_token
  have b : ¬ (nI c < 0 ∨ 8001 ≤ c) := nI_inC hc (by decide)
  rw [nI_clamp (by omega)]
  simp only [if_neg b, nI_1]
theorem m_isAtD (h : RM bytes size B n) (he : e ≤ n) {p a b : Nat} (ha : a < 256) (hb : b < 256) (hp : p < e) : f_Mo_isAt bytes (nI e) (nI p) (nI a) (nI b) = some (if B p = a ∧ tkD B e p = b then 1 else 0) := by
  have hn := h.1
  rw [m_isAt h he ha hb (by omega)]
  congr 1
  unfold tkD
  by_cases h1 : p + 1 < e
  · rw [if_pos h1]; simp only [h1, true_and]
  · have z1 : ¬ (p + 1 < e ∧ B p = a ∧ B (p + 1) = b) := fun q => h1 q.1
    rw [if_neg h1, if_neg z1, if_neg (fun q => by omega)]
def sgK (c : Nat) : Nat := if c = 40 then 4 else if c = 41 then 5 else if c = 44 then 10 else if c = 46 then 11 else if c = 124 then 12 else if c = 58 then 6 else 1
theorem m_scan45 (h : RM bytes size B n) (he : e ≤ n) {c p : Nat} (hp : p < e) : Mo_scan_b45 bytes (nI e) k pl v (nI c) (nI p) = Mo_scan_b119 bytes (nI e) k pl v (nI c) (nI p) (nI (B p)) 1 (nI (sgK (B p))) := by
  have hn := h.1
  have q := h.2.2 p (by omega)
  have b : ¬ (nI p < 0 ∨ 8000 ≤ p) := nI_inC (show p < 8000 by omega) (by decide)
  unfold Mo_scan_b45 sgK
  have c1 : (nI (B p) = (40 : Int32)) = (B p = 40) := propext (nI_eq (b := 40) (by omega) (by decide))
  have c2 : (nI (B p) = (41 : Int32)) = (B p = 41) := propext (nI_eq (b := 41) (by omega) (by decide))
  have c3 : (nI (B p) = (44 : Int32)) = (B p = 44) := propext (nI_eq (b := 44) (by omega) (by decide))
  have c5 : (nI (B p) = (46 : Int32)) = (B p = 46) := propext (nI_eq (b := 46) (by omega) (by decide))
  have c6 : (nI (B p) = (58 : Int32)) = (B p = 58) := propext (nI_eq (b := 58) (by omega) (by decide))
  have c8 : (nI (B p) = (124 : Int32)) = (B p = 124) := propext (nI_eq (b := 124) (by omega) (by decide))
  simp only [nI_clamp (show p < 2 ^ 31 by omega), if_neg b, q.2, c1, c2, c3, c5, c6, c8]
  repeat' split
  all_goals rfl
/-- how many bytes the reference gives a sign -/
def sgN (kd : Nat) : Nat := if kd = 18 ∨ kd = 19 ∨ kd = 20 then 2 else 1
theorem sg_58 {d : Nat} : sgE 58 d = if d = 61 then 18 else 17 := rfl
theorem sg_61 {d : Nat} : sgE 61 d = if d = 62 then 19 else 1 := rfl
theorem sg_45 {d : Nat} : sgE 45 d = if d = 62 then 20 else 1 := rfl
theorem sg_no {c d : Nat} (h1 : ¬ (c = 58 ∧ d = 61)) (h2 : ¬ (c = 61 ∧ d = 62)) (h3 : ¬ (c = 45 ∧ d = 62)) : cm (sgE c d) = sgK c ∧ sgN (sgE c d) = 1 := by
  unfold sgE sgK
  repeat' split
  all_goals first | exact ⟨rfl, rfl⟩ | omega
theorem m_scanS (h : RM bytes size B n) (he : e ≤ n) {c p : Nat} (hp : p < e) (hl : ¬ letB (B p) = true) : Mo_scan_b45 bytes (nI e) k pl v (nI c) (nI p) = Mo_scan_b270 bytes (nI e) k pl v (nI c) (nI p) (nI (sgN (sgE (B p) (tkD B e p)))) (nI (cm (sgE (B p) (tkD B e p)))) := by
  have hn := h.1
  have q := h.2.2 p (by omega)
  rw [m_scan45 h he hp]
  unfold Mo_scan_b119
  rw [m_isLetter _ q.1, jb_some]
  simp only [if_neg hl, if_true]
  have a1 := m_isAtD h he (p := p) (a := 58) (b := 61) (by decide) (by decide) hp
  have a2 := m_isAtD h he (p := p) (a := 61) (b := 62) (by decide) (by decide) hp
  have a3 := m_isAtD h he (p := p) (a := 45) (b := 62) (by decide) (by decide) hp
  rw [show (58 : Int32) = nI 58 from rfl, show (61 : Int32) = nI 61 from rfl, show (62 : Int32) = nI 62 from rfl, show (45 : Int32) = nI 45 from rfl, a1, jb_some]
  have c6 : (nI (B p) = (58 : Int32)) = (B p = 58) := propext (nI_eq (b := 58) (by omega) (by decide))
  have c7 : (nI (B p) = (61 : Int32)) = (B p = 61) := propext (nI_eq (b := 61) (by omega) (by decide))
  by_cases h1 : B p = 58 ∧ tkD B e p = 61
  · simp only [if_pos h1, if_neg n10]
    unfold Mo_scan_b242 Mo_scan_b268
    simp only [c6, c7]
    rw [if_pos h1.1, h1.1, h1.2]
    rfl
  · simp only [if_neg h1, if_true]
    rw [a2, jb_some]
    by_cases h2 : B p = 61 ∧ tkD B e p = 62
    · simp only [if_pos h2, if_neg n10]
      unfold Mo_scan_b242 Mo_scan_b268
      simp only [c6, c7]
      rw [if_neg (show ¬ B p = 58 by omega), if_pos h2.1, h2.1, h2.2]
      rfl
    · simp only [if_neg h2, if_true]
      rw [a3, jb_some]
      by_cases h3 : B p = 45 ∧ tkD B e p = 62
      · simp only [if_pos h3, if_neg n10]
        unfold Mo_scan_b242 Mo_scan_b268
        simp only [c6, c7]
        rw [if_neg (show ¬ B p = 58 by omega), if_neg (show ¬ B p = 61 by omega), h3.1, h3.2]
        rfl
      · simp only [if_neg h3, if_true]
        have := sg_no h1 h2 h3
        rw [this.1, this.2]
        rfl
theorem m_run (h : RM bytes size B n) (he : e ≤ n) {c p : Nat} : ∀ f w, e ≤ p + w + f → p + w ≤ e → jl (Mo_scan_b128_b bytes (nI e) k pl v (nI c) (nI p)) (nI w) = Mo_scan_b185 bytes (nI e) k pl v (nI c) (nI p) (nI (reE B e f (p + w) - p)) := by
  have hn := h.1
  have out : ∀ w : Nat, e ≤ p + w → p + w ≤ e → jl (Mo_scan_b128_b bytes (nI e) k pl v (nI c) (nI p)) (nI w) = Mo_scan_b185 bytes (nI e) k pl v (nI c) (nI p) (nI (p + w - p)) := by
    intro w h1 h2
    refine jl_jm ?_
    show Mo_scan_b128_s bytes (nI e) k pl v (nI c) (nI p) (nI w) = _
    unfold Mo_scan_b128_s
    rw [nI_add, if_pos (by rw [nI_leI (by omega) (by omega)]; omega), show p + w - p = w by omega]
  intro f
  induction f with
  | zero => intro w h1 h2; exact out w h1 h2
  | succ f ih =>
    intro w h1 h2
    show _ = Mo_scan_b185 bytes (nI e) k pl v (nI c) (nI p) (nI ((if e ≤ p + w then p + w else if innB (B (p + w)) = true then reE B e f (p + w + 1) else p + w) - p))
    by_cases h0 : e ≤ p + w
    · rw [if_pos h0]; exact out w h0 h2
    · rw [if_neg h0]
      have q := h.2.2 (p + w) (by omega)
      have b : ¬ (nI (p + w) < 0 ∨ 8000 ≤ p + w) := nI_inC (show p + w < 8000 by omega) (by decide)
      have c39 : (nI (B (p + w)) = (39 : Int32)) = (B (p + w) = 39) := propext (nI_eq (b := 39) (by omega) (by decide))
      have hs : Mo_scan_b128_b bytes (nI e) k pl v (nI c) (nI p) (nI w) = if innB (B (p + w)) = true then some (.inl (nI (w + 1))) else jm (Mo_scan_b185 bytes (nI e) k pl v (nI c) (nI p) (nI w)) := by
        show Mo_scan_b128_s bytes (nI e) k pl v (nI c) (nI p) (nI w) = _
        unfold Mo_scan_b128_s Mo_scan_b179
        rw [nI_add, if_neg (by rw [nI_leI (by omega) (by omega)]; omega)]
        simp only [nI_clamp (show p + w < 2 ^ 31 by omega), if_neg b, q.2, m_isLetter _ q.1, m_isDigit _ q.1, jb_some, c39, nI_1]
        unfold innB
        by_cases z1 : letB (B (p + w)) = true
        · simp only [z1, if_true, if_neg n10, Bool.true_or]
        · have z1' : letB (B (p + w)) = false := by simpa using z1
          by_cases z2 : digB (B (p + w)) = true
          · simp only [z1', z2, if_true, if_neg n10, Bool.true_or, Bool.false_or, Bool.false_eq_true, if_false]
          · have z2' : digB (B (p + w)) = false := by simpa using z2
            simp only [z1', z2', if_true, Bool.false_or, Bool.false_eq_true, if_false, decide_eq_true_eq]
      by_cases z : innB (B (p + w)) = true
      · rw [if_pos z] at hs ⊢
        rw [jl_step hs]
        exact ih (w + 1) (by omega) (by omega)
      · rw [if_neg z] at hs ⊢
        rw [jl_jm hs, show p + w - p = w by omega]
theorem m_scanW (h : RM bytes size B n) (he : e ≤ n) {c p : Nat} (hp : p < e) (hl : letB (B p) = true) : Mo_scan_b45 bytes (nI e) k pl v (nI c) (nI p) = Mo_scan_b270 bytes (nI e) k pl v (nI c) (nI p) (nI (tkW B e p)) (nI (cm (wkE B p (tkW B e p)).1)) := by
  have hn := h.1
  have q := h.2.2 p (by omega)
  have w0 := tkW_in (B := B) (e := e) (a := p) hp
  rw [m_scan45 h he hp]
  unfold Mo_scan_b119
  rw [m_isLetter _ q.1, jb_some]
  simp only [if_pos hl, if_neg n10]
  unfold Mo_scan_b128
  have r0 := m_run (k := k) (pl := pl) (v := v) (c := c) h he (p := p) e 1 (by omega) (by omega)
  rw [show (1 : Int32) = nI 1 from rfl, r0]
  change Mo_scan_b185 bytes (nI e) k pl v (nI c) (nI p) (nI (tkW B e p)) = _
  generalize tkW B e p = w at w0
  unfold Mo_scan_b185 Mo_scan_b201 wkE
  have w40 : (nI w ≤ (40 : Int32)) = (w ≤ 40) := propext (nI_leI (b := 40) (by omega) (by decide))
  simp only [w40]
  by_cases h40 : w ≤ 40
  · rw [if_pos h40, if_neg (show ¬ 40 < w by omega), m_wordOf h (by omega), jb_some]
    congr 1
    cases hs : soE B p w with
    | some x =>
      rw [so_wd hs]
      rfl
    | none =>
      rcases wdF_lt (B := B) (p := p) (w := w) 11 0 rfl with g | g
      · rw [g]; rfl
      · have g2 : cm (wdF B p w 11 0) = wdF B p w 11 0 + 16 := by unfold cm; rw [if_neg (by omega), if_pos (by omega)]
        show (if wdF B p w 11 0 = 2 then _ else _) = nI (cm (wdF B p w 11 0))
        rw [if_neg (by omega), g2]
  · rw [if_neg h40, if_pos (show 40 < w by omega)]
    rfl
/-- the reference's rows hold the tokens -/
def RL (k pl v : Nat → Int32) (B : Nat → Nat) (e m : Nat) : Prop := ∀ i, i < m → k i = nI (cm (tkK B e (tkA B e i))) ∧ pl i = nI (tkA B e i) ∧ (2 ≤ tkK B e (tkA B e i) → v i = nI (tkN B e (tkA B e i)))
theorem RL_upd {i : Nat} {x : Int32} (hr : RL k pl v B e i) (hx : 2 ≤ tkK B e (tkA B e i) → x = nI (tkN B e (tkA B e i))) : RL (upd k i (nI (cm (tkK B e (tkA B e i))))) (upd pl i (nI (tkA B e i))) (upd v i x) B e (i + 1) := by
  intro j hj
  by_cases q : j = i
  · subst q; rw [pk_us, pk_us, pk_us]; exact ⟨rfl, rfl, hx⟩
  · rw [pk_un q, pk_un q, pk_un q]; exact hr j (by omega)
theorem cm_1 {kd : Nat} (h : kd ≤ 23) : cm kd = 1 ↔ kd = 1 := by
  unfold cm
  split
  · exact Iff.rfl
  · split <;> omega
theorem cm_lt {kd : Nat} (h : kd ≤ 23) : cm kd ≤ 30 := by
  unfold cm
  split
  · omega
  · split <;> omega
/-- one token of the reference that stands in the text -/
theorem m_scan45t (h : RM bytes size B n) (he : e ≤ n) {i p : Nat} (hp : p < e) : ∃ w, Mo_scan_b45 bytes (nI e) k pl v (nI i) (nI p) = Mo_scan_b270 bytes (nI e) k pl v (nI i) (nI p) (nI w) (nI (cm (tkK B e p))) ∧ (2 ≤ tkK B e p → w = tkN B e p) := by
  by_cases hl : letB (B p) = true
  · have k0 : tkK B e p = (wkE B p (tkW B e p)).1 := by unfold tkK; rw [if_neg (by omega), if_pos hl]
    refine ⟨tkW B e p, ?_, fun q => ?_⟩
    · rw [k0]; exact m_scanW h he hp hl
    · unfold tkN; rw [if_neg (by omega), if_pos hl]
  · have k0 : tkK B e p = sgE (B p) (tkD B e p) := by unfold tkK; rw [if_neg (by omega), if_neg hl]
    refine ⟨sgN (sgE (B p) (tkD B e p)), ?_, fun q => ?_⟩
    · rw [k0]; exact m_scanS h he hp hl
    · unfold tkN; rw [if_neg (by omega), if_neg hl, k0]; unfold sglE; rw [if_neg (by omega)]; rfl
theorem m_scan1 (h : RM bytes size B n) (he : e ≤ n) {i : Nat} (hi : i < 8001) (hr : RL k pl v B e i) (h2 : ∀ j, j < i → 2 ≤ tkK B e (tkA B e j)) (hp : tkA B e i < e) (hu : ¬ (tkA B e i + 1 < e ∧ B (tkA B e i) = 123 ∧ B (tkA B e i + 1) = 45)) :
    Mo_scan_b11_b bytes (nI e) (k, pl, v, nI i, mblE B e (tkA B e i)) = Mo_scan_b45 bytes (nI e) k pl v (nI i) (nI (tkA B e i)) := by
  have hn := h.1
  have e1 : mblE B e (tkA B e i) = nI (tkA B e i) := by unfold mblE; rw [if_neg hu]
  show Mo_scan_b11_s bytes (nI e) k pl v (nI i) (mblE B e (tkA B e i)) = _
  rw [e1]
  unfold Mo_scan_b11_s
  rw [if_neg (nI_pos (by omega)), if_neg (by rw [nI_leI (by omega) (by omega)]; omega)]
  cases i with
  | zero => rw [if_pos (show nI 0 = 0 from rfl)]
  | succ i =>
    have b : ¬ (nI i < 0 ∨ 8001 ≤ i) := nI_inC (show i < 8001 by omega) (by decide)
    have g := hr i (by omega)
    have g2 := h2 i (by omega)
    have g3 := tkK_le (B := B) (e := e) (tkA B e i)
    have g4 : ¬ nI (cm (tkK B e (tkA B e i))) = 1 := by
      have := cm_lt g3
      rw [show (1 : Int32) = nI 1 from rfl, nI_eq (by omega) (by decide), cm_1 g3]; omega
    rw [if_neg (nI_ne0 (by omega) (by omega)), nI_pred, nI_clamp (by omega), if_neg b, g.1, if_neg g4]
theorem m_scanEnd {l1 : Int32} {i : Nat} (hi : i < 8001) (h1 : l1 = nI e) (he : e ≤ 8000) : Mo_scan_b11_b bytes (nI e) (k, pl, v, nI i, l1) = some (.inr (upd k i (nI 0), upd pl i (nI e), upd v i (nI 0), nI (i + 1))) := by
  subst h1
  show Mo_scan_b11_s bytes (nI e) k pl v (nI i) (nI e) = _
  unfold Mo_scan_b11_s
  rw [if_neg (nI_pos (by omega)), if_pos (by rw [nI_leI (by omega) (by omega)]; omega)]
  unfold Mo_scan_b299
  rw [if_pos (nI_pos' (by omega)), if_neg (by rw [nI_ltI (by omega) (by omega)]; omega), m_token hi, jb_some]
  rfl
theorem m_scanBad {i p : Nat} (hi : i < 8001) (hp : p < 8000) : Mo_scan_b11_b bytes (nI e) (k, pl, v, nI i, (-1 : Int32) - nI p) = some (.inr (upd k i (nI 1), upd pl i (nI p), upd v i (nI 0), nI (i + 1))) := by
  have e1 : ((-1 : Int32) - nI p) < 0 := by
    rw [Int32.lt_iff_toInt_lt]
    have : ((-1 : Int32) - nI p) = Int32.ofInt (-1 - (p : Int)) := by
      have a1 : nI p = Int32.ofInt (p : Int) := rfl
      rw [a1, show (-1 : Int32) = Int32.ofInt (-1) from rfl, ← Int32.ofInt_sub]
    rw [this, Int32.toInt_ofInt_of_le (by omega) (by omega)]
    show -1 - (p : Int) < 0
    omega
  have e2 : (-1 : Int32) - ((-1 : Int32) - nI p) = nI p := by
    have a1 : nI p = Int32.ofInt (p : Int) := rfl
    rw [a1, show (-1 : Int32) = Int32.ofInt (-1) from rfl, ← Int32.ofInt_sub, ← Int32.ofInt_sub, show (-1 : Int) - (-1 - (p : Int)) = (p : Int) by omega]
  show Mo_scan_b11_s bytes (nI e) k pl v (nI i) ((-1 : Int32) - nI p) = _
  unfold Mo_scan_b11_s
  rw [if_pos e1]
  unfold Mo_scan_b299
  rw [if_neg (by rw [Int32.not_le]; exact e1), e2, m_token hi, jb_some]
  rfl
theorem m_scan (h : RM bytes size B n) (he : e ≤ n) {c0 : Int32} {m : Nat} (hm : tkM B e m) (hme : m ≤ e) : ∃ k' pl' v', f_Mo_scan bytes (nI e) k pl v c0 = some (k', pl', v', nI (m + 1)) ∧ RL k' pl' v' B e (m + 1) := by
  have hn := h.1
  have key : ∀ f i k pl v, i + f = m → RL k pl v B e i → ∃ k' pl' v', jl (Mo_scan_b11_b bytes (nI e)) (k, pl, v, nI i, mblE B e (tkA B e i)) = some (k', pl', v', nI (m + 1)) ∧ RL k' pl' v' B e (m + 1) := by
    intro f
    induction f with
    | zero =>
      intro i k pl v h1 h2
      have hi : i = m := by omega
      subst hi
      have hal := tkA_le (B := B) (e := e) i
      by_cases hz : e ≤ tkA B e i
      · have ea : tkA B e i = e := by omega
        have k0 : tkK B e (tkA B e i) = 0 := by unfold tkK; rw [if_pos hz]
        have := RL_upd (x := nI 0) h2 (fun q => by omega)
        rw [k0, ea] at this
        refine ⟨_, _, _, jl_done (m_scanEnd (by omega) ?_ (by omega)), this⟩
        rw [ea]
        unfold mblE
        rw [if_neg (fun q => by omega)]
      · by_cases hu : tkA B e i + 1 < e ∧ B (tkA B e i) = 123 ∧ B (tkA B e i + 1) = 45
        · have e1 : mblE B e (tkA B e i) = (-1 : Int32) - nI (tkA B e i) := by unfold mblE; rw [if_pos hu]
          have k0 : tkK B e (tkA B e i) = 1 := by
            unfold tkK
            rw [if_neg hz, hu.2.1, if_neg (by decide)]
            rfl
          have := RL_upd (x := nI 0) h2 (fun q => by omega)
          rw [k0] at this
          rw [e1]
          exact ⟨_, _, _, jl_done (m_scanBad (by omega) (by omega)), this⟩
        · obtain ⟨w, w1, -⟩ := m_scan45t (k := k) (pl := pl) (v := v) h he (i := i) (p := tkA B e i) (by omega)
          have k0 : tkK B e (tkA B e i) = 1 := by
            have z := hm.2
            have : tkK B e (tkA B e i) ≠ 0 := by
              unfold tkK
              rw [if_neg hz]
              split
              · exact (wk_in _ _).1
              · have := sgE_in (B (tkA B e i)) (tkD B e (tkA B e i)); omega
            omega
          have r1 := RL_upd (x := nI w) h2 (fun q => by omega)
          rw [k0] at r1
          have e1 : mblE B e (tkA B e i) = nI (tkA B e i) := by unfold mblE; rw [if_neg hu]
          have s1 : Mo_scan_b11_b bytes (nI e) (k, pl, v, nI i, mblE B e (tkA B e i)) = some (.inl (upd k i (nI (cm 1)), upd pl i (nI (tkA B e i)), upd v i (nI w), nI (i + 1), nI (tkA B e i))) := by
            rw [m_scan1 h he (by omega) h2 hm.1 (by omega) hu, w1, k0]
            unfold Mo_scan_b270 Mo_scan_b295
            rw [m_token (by omega), jb_some, if_pos (show nI (cm 1) = 1 from rfl)]
          rw [jl_step s1]
          refine ⟨_, _, _, jl_done ?_, r1⟩
          show Mo_scan_b11_s bytes (nI e) (upd k i (nI (cm 1))) (upd pl i (nI (tkA B e i))) (upd v i (nI w)) (nI (i + 1)) (nI (tkA B e i)) = _
          have b : ¬ (nI i < 0 ∨ 8001 ≤ i) := nI_inC (show i < 8001 by omega) (by decide)
          unfold Mo_scan_b11_s
          rw [if_neg (nI_pos (by omega)), if_neg (by rw [nI_leI (by omega) (by omega)]; omega), if_neg (nI_ne0 (by omega) (by omega)), nI_pred, nI_clamp (by omega), if_neg b, pk_us, if_pos (show nI (cm 1) = 1 from rfl)]
          unfold Mo_scan_b299
          rw [if_pos (nI_pos' (by omega)), if_pos (by rw [nI_ltI (by omega) (by omega)]; omega)]
          rfl
    | succ f ih =>
      intro i k pl v h1 h2
      have g := hm.1 i (by omega)
      have gl := tkK_le (B := B) (e := e) (tkA B e i)
      have g1 := tkN_in g
      have hu : ¬ (tkA B e i + 1 < e ∧ B (tkA B e i) = 123 ∧ B (tkA B e i + 1) = 45) := by
        intro hu
        have k0 : tkK B e (tkA B e i) = 1 := by
          unfold tkK
          rw [if_neg (by omega), hu.2.1, if_neg (by decide)]
          rfl
        omega
      obtain ⟨w, w1, w2⟩ := m_scan45t (k := k) (pl := pl) (v := v) h he (i := i) (p := tkA B e i) (by omega)
      have w3 := w2 g
      subst w3
      have g4 : ¬ nI (cm (tkK B e (tkA B e i))) = 1 := by
        have := cm_lt gl
        rw [show (1 : Int32) = nI 1 from rfl, nI_eq (by omega) (by decide), cm_1 gl]; omega
      have s1 : Mo_scan_b11_b bytes (nI e) (k, pl, v, nI i, mblE B e (tkA B e i)) = some (.inl (upd k i (nI (cm (tkK B e (tkA B e i)))), upd pl i (nI (tkA B e i)), upd v i (nI (tkN B e (tkA B e i))), nI (i + 1), mblE B e (tkA B e (i + 1)))) := by
        rw [m_scan1 h he (by omega) h2 (fun j hj => hm.1 j (by omega)) (by omega) hu, w1]
        unfold Mo_scan_b270 Mo_scan_b295
        rw [m_token (by omega), jb_some, if_neg g4, nI_add, m_blanksF h he (by omega), jb_some]
        rfl
      rw [jl_step s1]
      exact ih (i + 1) _ _ _ (by omega) (RL_upd h2 (fun _ => rfl))
  unfold f_Mo_scan
  rw [show (0 : Int32) = nI 0 from rfl, m_blanksF h he (by omega), jb_some]
  unfold Mo_scan_b11
  exact key m 0 k pl v (by omega) (fun i hi => by omega)
end TL
