-- loops by a counter
theorem jl_step {σ ρ : Type} {body : σ → Option (σ ⊕ ρ)} {s s' : σ} (h : body s = some (.inl s')) : jl body s = jl body s' := by rw [jl_unfold, h, jl_b_inl]
theorem jl_done {σ ρ : Type} {body : σ → Option (σ ⊕ ρ)} {s : σ} {r : ρ} (h : body s = some (.inr r)) : jl body s = some r := by rw [jl_unfold, h, jl_b_inr]
theorem jl_for {σ ρ : Type} {body : σ → Option (σ ⊕ ρ)} (I : Nat → σ → Prop) (P : ρ → Prop) (N : Nat)
    (hs : ∀ i s, i < N → I i s → (∃ s', body s = some (.inl s') ∧ I (i + 1) s') ∨ ∃ r, body s = some (.inr r) ∧ P r)
    (he : ∀ s, I N s → ∃ r, body s = some (.inr r) ∧ P r) : ∀ i s, i ≤ N → I i s → ∃ r, jl body s = some r ∧ P r := by
  have key : ∀ k i s, i + k = N → I i s → ∃ r, jl body s = some r ∧ P r := by
    intro k
    induction k with
    | zero =>
      intro i s hk hI
      obtain ⟨r, h1, h2⟩ := he s (by rw [← hk]; exact hI)
      exact ⟨r, jl_done h1, h2⟩
    | succ k ih =>
      intro i s hk hI
      rcases hs i s (by omega) hI with ⟨s', h1, h2⟩ | ⟨r, h1, h2⟩
      · obtain ⟨r, h3, h4⟩ := ih (i + 1) s' (by omega) h2
        exact ⟨r, by rw [jl_step h1]; exact h3, h4⟩
      · exact ⟨r, jl_done h1, h2⟩
  intro i s hi hI
  exact key (N - i) i s (by omega) hI
/-- a loop with a measure that falls -/
theorem jl_meas {σ ρ : Type} {body : σ → Option (σ ⊕ ρ)} (μ : σ → Nat) (I : σ → Prop) (P : ρ → Prop)
    (hs : ∀ s, I s → (∃ s', body s = some (.inl s') ∧ I s' ∧ μ s' < μ s) ∨ ∃ r, body s = some (.inr r) ∧ P r) : ∀ s, I s → ∃ r, jl body s = some r ∧ P r := by
  have key : ∀ k s, μ s < k → I s → ∃ r, jl body s = some r ∧ P r := by
    intro k
    induction k with
    | zero => intro s h; omega
    | succ k ih =>
      intro s hk hI
      rcases hs s hI with ⟨s', h1, h2, h3⟩ | ⟨r, h1, h2⟩
      · obtain ⟨r, h4, h5⟩ := ih s' (by omega) h2
        exact ⟨r, by rw [jl_step h1]; exact h4, h5⟩
      · exact ⟨r, jl_done h1, h2⟩
  intro s hI
  exact key (μ s + 1) s (by omega) hI
theorem nI_inC {c N : Nat} (h : c < N) (hN : N < 2 ^ 31) : ¬ (nI c < 0 ∨ N ≤ c) := fun z => z.elim (nI_pos (by omega)) (fun q => by omega)
-- bytes
def bb (c : Nat) : Int32 := (nI c).toInt8.toInt32
theorem bb_and : ∀ c, c < 256 → bb c &&& 255 = nI c := by decide +kernel
theorem bb_fit : ∀ c, c < 256 → fits .byte (.int (bb c)) = true := by decide +kernel
def lo8 (x : Int32) : Nat := x.toBitVec.toNat % 256
theorem lo8_lt (x : Int32) : lo8 x < 256 := Nat.mod_lt _ (by decide)
theorem toInt8_bb (x : Int32) : x.toInt8.toInt32 = bb (lo8 x) := by
  have e : x.toInt8 = (nI (lo8 x)).toInt8 := by
    apply Int8.toBitVec_inj.mp
    rw [Int32.toBitVec_toInt8, Int32.toBitVec_toInt8, BitVec.signExtend_eq_setWidth_of_le _ (by decide), BitVec.signExtend_eq_setWidth_of_le _ (by decide)]
    apply BitVec.eq_of_toNat_eq
    have h2 : (nI (lo8 x)).toBitVec.toNat = lo8 x := pk_tn (Nat.lt_trans (lo8_lt x) (by decide))
    rw [BitVec.toNat_setWidth, BitVec.toNat_setWidth, h2]
    unfold lo8
    omega
  unfold bb
  rw [e]
theorem and255 (x : Int32) : x &&& 255 = nI (lo8 x) := pk_and x 8 (by decide)
/-- a byte row holds the bytes B, n of them -/
def RB (row : Nat → Int32) (len : Int32) (B : Nat → Nat) (n : Nat) : Prop := n ≤ 8000 ∧ len = nI n ∧ ∀ i, i < n → B i < 256 ∧ row i = bb (B i)
/-- an int row holds them -/
def RM (row : Nat → Int32) (len : Int32) (B : Nat → Nat) (n : Nat) : Prop := n ≤ 8000 ∧ len = nI n ∧ ∀ i, i < n → B i < 256 ∧ row i = nI (B i)
theorem nI0 {n : Nat} (h : n < 2 ^ 31) : ¬ nI n < 0 := nI_pos h
theorem p_put {row : Nat → Int32} {ov x : Int32} {B : Nat → Nat} {n : Nat} (h : RB row (nI n) B n) (hn : n < 8000) (hx : lo8 x = B n) :
    ∃ row', f_By_put row (nI n) ov x = some (row', nI (n + 1), ov) ∧ RB row' (nI (n + 1)) B (n + 1) := by
  obtain ⟨h1, -, h3⟩ := h
  refine ⟨upd row n (bb (lo8 x)), ?_, by omega, rfl, ?_⟩
  · unfold f_By_put
    have e : nI n < (8000 : Int32) := by rw [show (8000 : Int32) = nI 8000 from rfl, nI_ltI (by omega) (by decide)]; exact hn
    rw [if_pos e, if_neg (nI_in hn (by decide)), nI_clamp (by omega), pk_vb, toInt8_bb, nI_1]
  · intro i hi
    by_cases hin : i = n
    · subst hin
      rw [pk_us, ← hx]
      exact ⟨lo8_lt x, rfl⟩
    · rw [pk_un hin]
      exact h3 i (by omega)
theorem RB.congr {row : Nat → Int32} {len : Int32} {B B' : Nat → Nat} {n : Nat} (h : RB row len B n) (e : ∀ i, i < n → B' i = B i) : RB row len B' n := ⟨h.1, h.2.1, fun i hi => by rw [e i hi]; exact h.2.2 i hi⟩
theorem RM.congr {row : Nat → Int32} {len : Int32} {B B' : Nat → Nat} {n : Nat} (h : RM row len B n) (e : ∀ i, i < n → B' i = B i) : RM row len B' n := ⟨h.1, h.2.1, fun i hi => by rw [e i hi]; exact h.2.2 i hi⟩
theorem p_at {row : Nat → Int32} {len : Int32} {B : Nat → Nat} {n j : Nat} (h : RB row len B n) (hj : j < n) : f_By_at row len (nI j) = some (nI (B j)) := by
  obtain ⟨h1, rfl, h3⟩ := h
  unfold f_By_at
  rw [if_neg (nI_pos (by omega)), if_neg (by rw [nI_leI (by omega) (by omega)]; omega), if_neg (nI_in (Nat.lt_of_lt_of_le hj h1) (by decide)), nI_clamp (by omega), (h3 j hj).2, bb_and _ (h3 j hj).1]
theorem p_at_out {row : Nat → Int32} {len : Int32} {B : Nat → Nat} {n : Nat} {i : Int32} (h : RB row len B n) (hi : i < 0 ∨ nI n ≤ i) : f_By_at row len i = some (-1) := by
  obtain ⟨h1, rfl, h3⟩ := h
  unfold f_By_at By_at_b25
  rcases hi with q | q
  · rw [if_pos q]
  · by_cases z : i < 0
    · rw [if_pos z]
    · rw [if_neg z, if_pos q]

/-- byte j of a word, the highest first -/
def wbyt (a : Int32) (j : Nat) : Nat := match j with
  | 0 => lo8 (jush a 24)
  | 1 => lo8 (jush a 16)
  | 2 => lo8 (jush a 8)
  | _ => lo8 a
theorem wbyt_lt (a : Int32) (j : Nat) : wbyt a j < 256 := by
  unfold wbyt
  split <;> exact lo8_lt _
theorem p_putFour {row : Nat → Int32} {ov a : Int32} {B : Nat → Nat} {n : Nat} (h : RB row (nI n) B n) (hn : n + 4 ≤ 8000) (hx : ∀ j, j < 4 → B (n + j) = wbyt a j) :
    ∃ row', f_By_putFour row (nI n) ov a = some (row', nI (n + 4), ov) ∧ RB row' (nI (n + 4)) B (n + 4) := by
  obtain ⟨r1, e1, h1⟩ := p_put (ov := ov) (x := jush a 24) h (by omega) (hx 0 (by decide)).symm
  obtain ⟨r2, e2, h2⟩ := p_put (ov := ov) (x := jush a 16) h1 (by omega) (hx 1 (by decide)).symm
  obtain ⟨r3, e3, h3⟩ := p_put (ov := ov) (x := jush a 8) h2 (by omega) (hx 2 (by decide)).symm
  obtain ⟨r4, e4, h4⟩ := p_put (ov := ov) (x := a) h3 (by omega) (hx 3 (by decide)).symm
  refine ⟨r4, ?_, h4⟩
  unfold f_By_putFour
  rw [e1, jb_some, e2, jb_some, e3, jb_some, e4, jb_some]
/-- the bytes behind a feed -/
def fbyt (B : Nat → Nat) (n : Nat) (a b c d e : Int32) : Nat → Nat := fun i => if i < n then B i else if i < n + 4 then wbyt a (i - n) else if i < n + 8 then wbyt b (i - n - 4) else if i < n + 12 then wbyt c (i - n - 8) else if i < n + 16 then wbyt d (i - n - 12) else wbyt e (i - n - 16)
theorem fbyt_old {B : Nat → Nat} {n : Nat} {a b c d e : Int32} {i : Nat} (h : i < n) : fbyt B n a b c d e i = B i := by unfold fbyt; rw [if_pos h]
theorem fbyt_new {B : Nat → Nat} {n : Nat} {a b c d e : Int32} {k j : Nat} (hj : j < 4) : fbyt B n a b c d e (n + 4 * k + j) = wbyt (match k with | 0 => a | 1 => b | 2 => c | 3 => d | _ => e) (if k < 4 then j else 4 * (k - 4) + j) := by
  unfold fbyt
  match k with
  | 0 => rw [if_neg (by omega), if_pos (by omega), if_pos (by omega)]; congr 1; omega
  | 1 => rw [if_neg (by omega), if_neg (by omega), if_pos (by omega), if_pos (by omega)]; congr 1; omega
  | 2 => rw [if_neg (by omega), if_neg (by omega), if_neg (by omega), if_pos (by omega), if_pos (by omega)]; congr 1; omega
  | 3 => rw [if_neg (by omega), if_neg (by omega), if_neg (by omega), if_neg (by omega), if_pos (by omega), if_pos (by omega)]; congr 1; omega
  | k + 4 => rw [if_neg (by omega), if_neg (by omega), if_neg (by omega), if_neg (by omega), if_neg (by omega), if_neg (by omega)]; congr 1; omega
theorem p_TR_feed {row : Nat → Int32} {len ov : Int32} {B : Nat → Nat} {n : Nat} {a b c d e : Int32} (h : RB row len B n) (hn : n ≤ 7980) :
    ∃ row', f_TR_feed row len ov a b c d e = some (nI (n + 20), row', nI (n + 20), ov) ∧ RB row' (nI (n + 20)) (fbyt B n a b c d e) (n + 20) := by
  obtain rfl := h.2.1
  have h0 : RB row (nI n) (fbyt B n a b c d e) n := h.congr (fun i hi => fbyt_old hi)
  obtain ⟨r1, e1, h1⟩ := p_putFour (ov := ov) (a := a) h0 (by omega) (fun j hj => fbyt_new (k := 0) hj)
  obtain ⟨r2, e2, h2⟩ := p_putFour (ov := ov) (a := b) h1 (by omega) (fun j hj => fbyt_new (k := 1) hj)
  obtain ⟨r3, e3, h3⟩ := p_putFour (ov := ov) (a := c) h2 (by omega) (fun j hj => fbyt_new (k := 2) hj)
  obtain ⟨r4, e4, h4⟩ := p_putFour (ov := ov) (a := d) h3 (by omega) (fun j hj => fbyt_new (k := 3) hj)
  obtain ⟨r5, e5, h5⟩ := p_putFour (ov := ov) (a := e) h4 (by omega) (fun j hj => by have := fbyt_new (B := B) (n := n) (a := a) (b := b) (c := c) (d := d) (e := e) (k := 4) hj; simpa using this)
  refine ⟨r5, ?_, h5⟩
  unfold f_TR_feed
  rw [if_pos (by rw [show (7980 : Int32) = nI 7980 from rfl, nI_leI (by omega) (by decide)]; exact hn), e1, jb_some, e2, jb_some, e3, jb_some, e4, jb_some, e5, jb_some]
theorem p_TR_feed_no {row : Nat → Int32} {len ov : Int32} {B : Nat → Nat} {n : Nat} {a b c d e : Int32} (h : RB row len B n) (hn : 7980 < n) : f_TR_feed row len ov a b c d e = some (-1, row, len, ov) := by
  obtain rfl := h.2.1
  have := h.1
  unfold f_TR_feed
  rw [if_neg (by rw [show (7980 : Int32) = nI 7980 from rfl, nI_leI (by omega) (by decide)]; omega)]
-- the reference's feed
theorem lo8_toInt (x : Int32) : (lo8 x : Int) = x.toInt % 256 := by
  unfold lo8
  have h : x.toInt = x.toBitVec.toInt := rfl
  rw [h, BitVec.toInt_eq_toNat_cond]
  have := x.toBitVec.isLt
  split <;> omega
theorem sh24 (a : Int32) : lo8 (a >>> ((24 : Int32) &&& 31)) = wbyt a 0 := by
  have h1 := lo8_toInt (a >>> ((24 : Int32) &&& 31))
  rw [pk_shr a ((24 : Int32) &&& 31) 24 (by decide)] at h1
  have h2 : wbyt a 0 = a.toBitVec.toNat / 2 ^ 24 % 256 := by show lo8 (jush a 24) = _; unfold lo8 jush; rw [pk_ushr a 24 24 (by decide)]
  have h3 : a.toInt = a.toBitVec.toInt := rfl
  rw [h3, BitVec.toInt_eq_toNat_cond, Int.shiftRight_eq_div_pow] at h1
  have := a.toBitVec.isLt
  rw [h2]
  split at h1 <;> omega
theorem sh16 (a : Int32) : lo8 (a >>> ((16 : Int32) &&& 31)) = wbyt a 1 := by
  have h1 := lo8_toInt (a >>> ((16 : Int32) &&& 31))
  rw [pk_shr a ((16 : Int32) &&& 31) 16 (by decide)] at h1
  have h2 : wbyt a 1 = a.toBitVec.toNat / 2 ^ 16 % 256 := by show lo8 (jush a 16) = _; unfold lo8 jush; rw [pk_ushr a 16 16 (by decide)]
  have h3 : a.toInt = a.toBitVec.toInt := rfl
  rw [h3, BitVec.toInt_eq_toNat_cond, Int.shiftRight_eq_div_pow] at h1
  have := a.toBitVec.isLt
  rw [h2]
  split at h1 <;> omega
theorem sh8 (a : Int32) : lo8 (a >>> ((8 : Int32) &&& 31)) = wbyt a 2 := by
  have h1 := lo8_toInt (a >>> ((8 : Int32) &&& 31))
  rw [pk_shr a ((8 : Int32) &&& 31) 8 (by decide)] at h1
  have h2 : wbyt a 2 = a.toBitVec.toNat / 2 ^ 8 % 256 := by show lo8 (jush a 8) = _; unfold lo8 jush; rw [pk_ushr a 8 8 (by decide)]
  have h3 : a.toInt = a.toBitVec.toInt := rfl
  rw [h3, BitVec.toInt_eq_toNat_cond, Int.shiftRight_eq_div_pow] at h1
  have := a.toBitVec.isLt
  rw [h2]
  split at h1 <;> omega
theorem sh0 (a : Int32) : lo8 (a >>> ((0 : Int32) &&& 31)) = wbyt a 3 := by rw [sb_shr0]; rfl
theorem shk (a : Int32) {k : Nat} (hk : k < 20) : (a >>> (((24 : Int32) - ((8 : Int32) * (nI k - nI k / (4 : Int32) * (4 : Int32)))) &&& 31)) &&& (255 : Int32) = nI (wbyt a (k % 4)) := by
  have e : nI k - nI k / (4 : Int32) * (4 : Int32) = nI (k % 4) := pk_rem (d := 4) (by omega) (by decide) (by decide)
  rw [e, and255]
  have h4 : k % 4 < 4 := Nat.mod_lt _ (by decide)
  generalize k % 4 = r at h4
  match r, h4 with
  | 0, _ => rw [show (24 : Int32) - (8 : Int32) * nI 0 = 24 by decide, sh24]
  | 1, _ => rw [show (24 : Int32) - (8 : Int32) * nI 1 = 16 by decide, sh16]
  | 2, _ => rw [show (24 : Int32) - (8 : Int32) * nI 2 = 8 by decide, sh8]
  | 3, _ => rw [show (24 : Int32) - (8 : Int32) * nI 3 = 0 by decide, sh0]
  | r + 4, h => exact absurd h (by omega)
theorem fbyt_at {B : Nat → Nat} {n : Nat} {a b c d e : Int32} {k : Nat} (hk : k < 20) : fbyt B n a b c d e (n + k) = wbyt (if k < 4 then a else if k < 8 then b else if k < 12 then c else if k < 16 then d else e) (k % 4) := by
  unfold fbyt
  rw [if_neg (by omega)]
  by_cases h1 : k < 4
  · rw [if_pos (by omega), if_pos h1]; congr 1; omega
  · rw [if_neg (by omega), if_neg h1]
    by_cases h2 : k < 8
    · rw [if_pos (by omega), if_pos h2]; congr 1; omega
    · rw [if_neg (by omega), if_neg h2]
      by_cases h3 : k < 12
      · rw [if_pos (by omega), if_pos h3]; congr 1; omega
      · rw [if_neg (by omega), if_neg h3]
        by_cases h4 : k < 16
        · rw [if_pos (by omega), if_pos h4]; congr 1; omega
        · rw [if_neg (by omega), if_neg h4]; congr 1; omega
theorem RM.put {row : Nat → Int32} {B : Nat → Nat} {n : Nat} {x : Int32} (h : RM row (nI n) B n) (hn : n < 8000) (hB : B n < 256) (hx : x = nI (B n)) : RM (upd row n x) (nI (n + 1)) B (n + 1) := by
  refine ⟨by omega, rfl, fun i hi => ?_⟩
  by_cases hin : i = n
  · subst hin
    rw [pk_us]
    exact ⟨hB, hx⟩
  · rw [pk_un hin]
    exact h.2.2 i (by omega)
theorem p_Mo_feed {bytes : Nat → Int32} {size : Int32} {B : Nat → Nat} {n : Nat} {a b c d e : Int32} (h : RM bytes size B n) (hn : n ≤ 7980) :
    ∃ bytes', f_Mo_feed bytes size a b c d e = some (nI (n + 20), bytes', nI (n + 20)) ∧ RM bytes' (nI (n + 20)) (fbyt B n a b c d e) (n + 20) := by
  obtain rfl := h.2.1
  have h0 : RM bytes (nI n) (fbyt B n a b c d e) n := h.congr (fun i hi => fbyt_old hi)
  have key := jl_for (body := Mo_feed_b18_b a b c d e) (fun k s => s.2.2 = nI k ∧ s.2.1 = nI (n + k) ∧ RM s.1 (nI (n + k)) (fbyt B n a b c d e) (n + k)) (fun r => ∃ bytes', r = (nI (n + 20), bytes', nI (n + 20)) ∧ RM bytes' (nI (n + 20)) (fbyt B n a b c d e) (n + 20)) 20 (by
      intro k s hk hI
      obtain ⟨s1, s2, s3⟩ := s
      obtain ⟨e1, e2, hR⟩ := hI
      dsimp only at e1 e2 hR
      subst e1 e2
      left
      have hb : ∀ w : Int32, w = (if k < 4 then a else if k < 8 then b else if k < 12 then c else if k < 16 then d else e) → Mo_feed_b71 s1 (nI (n + k)) a b c d e (nI k) w = some (.inl (upd s1 (n + k) (nI (fbyt B n a b c d e (n + k))), nI (n + k + 1), nI (k + 1))) := by
        intro w hw
        unfold Mo_feed_b71
        rw [if_neg (nI_in (show n + k < 8000 by omega) (by decide)), nI_clamp (by omega), shk w hk, nI_1, nI_1, fbyt_at hk, hw]
      refine ⟨(upd s1 (n + k) (nI (fbyt B n a b c d e (n + k))), nI (n + k + 1), nI (k + 1)), ?_, rfl, rfl, hR.put (by omega) (by rw [fbyt_at hk]; exact wbyt_lt _ _) rfl⟩
      show Mo_feed_b18_s a b c d e s1 (nI (n + k)) (nI k) = _
      unfold Mo_feed_b18_s
      rw [show (20 : Int32) = nI 20 from rfl, show (4 : Int32) = nI 4 from rfl, show (8 : Int32) = nI 8 from rfl, show (12 : Int32) = nI 12 from rfl, show (16 : Int32) = nI 16 from rfl]
      rw [if_neg (by rw [nI_leI (by decide) (by omega)]; omega)]
      by_cases h1 : k < 4
      · rw [if_neg (by rw [nI_leI (by decide) (by omega)]; omega), hb a (by rw [if_pos h1])]
        all_goals rfl
      · rw [if_pos (by rw [nI_leI (by decide) (by omega)]; omega)]
        by_cases h2 : k < 8
        · rw [if_neg (by rw [nI_leI (by decide) (by omega)]; omega), hb b (by rw [if_neg h1, if_pos h2])]
          all_goals rfl
        · rw [if_pos (by rw [nI_leI (by decide) (by omega)]; omega)]
          by_cases h3 : k < 12
          · rw [if_neg (by rw [nI_leI (by decide) (by omega)]; omega), hb c (by rw [if_neg h1, if_neg h2, if_pos h3])]
            all_goals rfl
          · rw [if_pos (by rw [nI_leI (by decide) (by omega)]; omega)]
            by_cases h4 : k < 16
            · rw [if_neg (by rw [nI_leI (by decide) (by omega)]; omega), hb d (by rw [if_neg h1, if_neg h2, if_neg h3, if_pos h4])]
              all_goals rfl
            · rw [if_pos (by rw [nI_leI (by decide) (by omega)]; omega), hb e (by rw [if_neg h1, if_neg h2, if_neg h3, if_neg h4])]
              all_goals rfl) (by
      intro s hI
      obtain ⟨s1, s2, s3⟩ := s
      obtain ⟨e1, e2, hR⟩ := hI
      dsimp only at e1 e2 hR
      subst e1 e2
      refine ⟨_, ?_, s1, rfl, hR⟩
      show Mo_feed_b18_s a b c d e s1 (nI (n + 20)) (nI 20) = _
      unfold Mo_feed_b18_s
      rw [if_pos (by decide)])
  obtain ⟨r, hr, bytes', rfl, hR⟩ := key 0 (bytes, nI n, 0) (by decide) ⟨rfl, rfl, h0⟩
  refine ⟨bytes', ?_, hR⟩
  unfold f_Mo_feed Mo_feed_b18
  rw [if_pos (by rw [show (20 : Int32) = nI 20 from rfl, show (8000 : Int32) = nI 8000 from rfl, nI_add, nI_leI (by omega) (by decide)]; omega)]
  exact hr
theorem p_Mo_feed_no {bytes : Nat → Int32} {size : Int32} {B : Nat → Nat} {n : Nat} {a b c d e : Int32} (h : RM bytes size B n) (hn : 7980 < n) : f_Mo_feed bytes size a b c d e = some (-1, bytes, size) := by
  obtain rfl := h.2.1
  have := h.1
  unfold f_Mo_feed
  rw [if_neg (by rw [show (20 : Int32) = nI 20 from rfl, show (8000 : Int32) = nI 8000 from rfl, nI_add, nI_leI (by omega) (by decide)]; omega)]
-- written, again
theorem p_TR_written {row : Nat → Int32} {len : Int32} {bytes : Nat → Int32} {size : Int32} {B : Nat → Nat} {n : Nat} (h : RB row len B n) (h' : RM bytes size B n) (i : Int32) : ∃ r, f_TR_written row len i = some r ∧ f_Mo_written bytes size i = some r := by
  have hn := h.1
  obtain rfl := h.2.1
  obtain rfl := h'.2.1
  rcases pk_ix i (n := n) (by omega) with q | q | ⟨j, hj, rfl⟩
  · refine ⟨-1, ?_, ?_⟩
    · unfold f_TR_written; rw [p_at_out h (Or.inl q), jb_some]
    · unfold f_Mo_written Mo_written_b12; rw [if_pos q]
  · refine ⟨-1, ?_, ?_⟩
    · unfold f_TR_written; rw [p_at_out h (Or.inr q), jb_some]
    · unfold f_Mo_written Mo_written_b12
      by_cases z : i < 0
      · rw [if_pos z]
      · rw [if_neg z, if_neg (Int32.not_lt.mpr q)]
  · refine ⟨nI (B j), ?_, ?_⟩
    · unfold f_TR_written; rw [p_at h hj, jb_some]
    · unfold f_Mo_written
      rw [if_neg (nI_pos (by omega)), if_pos (by rw [nI_ltI (by omega) (by omega)]; exact hj), if_neg (nI_in (show j < 8000 by omega) (by decide)), nI_clamp (by omega), (h'.2.2 j hj).2]
theorem p_TR_again {row : Nat → Int32} {len : Int32} {frow : Nat → Int32} {flen fov : Int32} {B : Nat → Nat} {n : Nat} (h : RB row len B n) : ∃ row', f_TR_again row len frow flen fov = some (nI n, row', nI n, 0) ∧ RB row' (nI n) B n := by
  have hn := h.1
  obtain rfl := h.2.1
  have e0 : (0 : Int32).toNatClampNeg = 0 := sb_cl0
  refine ⟨va_cpy row frow 0 0 n, ?_, hn, rfl, fun i hi => ?_⟩
  · unfold f_TR_again f_By_copy
    rw [e0, nI_clamp (by omega)]
    rw [if_neg (by
      intro z
      rcases z with z | z | z | z | z
      · exact absurd z (by decide)
      · exact absurd z (by decide)
      · exact nI_pos (by omega) z
      · omega
      · omega), if_pos (by
      intro i hi
      rw [Nat.zero_add, (h.2.2 i hi).2]
      exact bb_fit _ (h.2.2 i hi).1), jb_some]
  · rw [pk_cpy_in (Nat.zero_le _) (by omega)]
    rw [show 0 + (i - 0) = i by omega]
    exact h.2.2 i hi
theorem p_Mo_again {wr bytes : Nat → Int32} {ws size : Int32} {B : Nat → Nat} {n : Nat} (h : RM wr ws B n) : ∃ bytes', f_Mo_again wr ws bytes size = some (nI n, bytes', nI n) ∧ RM bytes' (nI n) B n := by
  have hn := h.1
  obtain rfl := h.2.1
  have key := jl_for (body := Mo_again_b10_b wr (nI n) (nI n)) (fun k s => s.2 = nI k ∧ ∀ i, i < k → s.1 i = nI (B i)) (fun r => ∃ bytes', r = (nI n, bytes', nI n) ∧ RM bytes' (nI n) B n) n (by
      intro k s hk hI
      obtain ⟨s1, s2⟩ := s
      obtain ⟨e1, hR⟩ := hI
      dsimp only at e1 hR
      subst e1
      left
      refine ⟨(upd s1 k (nI (B k)), nI (k + 1)), ?_, rfl, fun i hi => ?_⟩
      · show Mo_again_b10_s wr (nI n) (nI n) s1 (nI k) = _
        unfold Mo_again_b10_s
        rw [if_neg (by rw [nI_leI (by omega) (by omega)]; omega), if_neg (nI_in (show k < 8000 by omega) (by decide)), if_neg (nI_in (show k < 8000 by omega) (by decide)), nI_clamp (by omega), (h.2.2 k hk).2, nI_1]
      · by_cases hik : i = k
        · subst hik; exact pk_us
        · show upd s1 k _ i = _
          rw [pk_un hik]; exact hR i (by omega)) (by
      intro s hI
      obtain ⟨s1, s2⟩ := s
      obtain ⟨e1, hR⟩ := hI
      dsimp only at e1 hR
      subst e1
      refine ⟨_, ?_, s1, rfl, hn, rfl, fun i hi => ⟨(h.2.2 i hi).1, hR i hi⟩⟩
      show Mo_again_b10_s wr (nI n) (nI n) s1 (nI n) = _
      unfold Mo_again_b10_s
      rw [if_pos (Int32.le_refl _)])
  obtain ⟨r, hr, bytes', rfl, hR⟩ := key 0 (bytes, 0) (Nat.zero_le _) ⟨rfl, fun i hi => absurd hi (by omega)⟩
  refine ⟨bytes', ?_, hR⟩
  unfold f_Mo_again Mo_again_b10
  exact hr
