-- the runs of letters in what was written
def bdy (L : List Nat) : Prop := ∀ c M, L = c :: M → innB c = false
def bdl (A : List Nat) : Prop := ∀ c M, A = M ++ [c] → innB c = false
section WK
variable {nc : Nat} {st sp : Nat → Nat} {cv : Nat → Int32}
/-- a run that is a name, a word or a sort -/
def WDS (nc : Nat) (st sp : Nat → Nat) (R : List Nat) : Prop := (∃ x, x < nc ∧ R = pN st sp x []) ∨ (∃ k, k < 11 ∧ R = pT (2 + k) []) ∨ ∃ v, v ≤ 100 ∧ R = sdL v (pT (if v = 0 then 23 else 24) [])
def WKl (nc : Nat) (st sp : Nat → Nat) (L : List Nat) : Prop := ∀ A R C, L = A ++ (R ++ C) → R ≠ [] → (∀ c, c ∈ R → innB c = true) → bdl A → bdy C → WDS nc st sp R
theorem wk_nil : WKl nc st sp [] := fun A R C e hR _ _ _ => by
  have h1 := congrArg List.length e
  rw [List.length_append, List.length_append] at h1
  have h2 := lpos hR
  have h3 : ([] : List Nat).length = 0 := rfl
  omega
theorem wk_sign {c : Nat} {L : List Nat} (hc : innB c = false) (h : WKl nc st sp L) : WKl nc st sp (c :: L) := by
  intro A R C e hR hi hA hC
  cases A with
  | nil =>
    cases R with
    | nil => exact absurd rfl hR
    | cons r R =>
      have e1 : c = r := (List.cons.inj e).1
      have := hi r (List.mem_cons.mpr (Or.inl rfl))
      rw [← e1, hc] at this
      cases this
  | cons a A =>
    refine h A R C (List.cons.inj e).2 hR hi (fun d M hd => ?_) hC
    exact hA d (a :: M) (by rw [hd]; rfl)
theorem wk_signs {L : List Nat} : ∀ S : List Nat, (∀ c, c ∈ S → innB c = false) → WKl nc st sp L → WKl nc st sp (S ++ L) := by
  intro S
  induction S with
  | nil => intro _ h; exact h
  | cons c S ih => intro hS h; exact wk_sign (hS c (List.mem_cons.mpr (Or.inl rfl))) (ih (fun d hd => hS d (List.mem_cons.mpr (Or.inr hd))) h)
theorem wk_word {R0 L : List Nat} (h0 : WDS nc st sp R0) (hn : R0 ≠ []) (hi0 : ∀ c, c ∈ R0 → innB c = true) (hb : bdy L) (h : WKl nc st sp L) : WKl nc st sp (R0 ++ L) := by
  intro A R C e hR hi hA hC
  rcases List.append_eq_append_iff.mp e with ⟨A', e1, e2⟩ | ⟨S, e1, e2⟩
  · -- the run stands behind R0
    cases hA' : A' with
    | nil =>
      rw [hA', List.append_nil] at e1
      rcases List.eq_nil_or_concat R0 with z | ⟨M, c, z⟩
      · exact absurd z hn
      · rw [List.concat_eq_append] at z
        have h1 := hA c M (by rw [e1, z])
        have h2 := hi0 c (by rw [z]; exact List.mem_append_right _ (List.mem_cons.mpr (Or.inl rfl)))
        rw [h1] at h2
        cases h2
    | cons a A2 =>
      refine h A' R C e2 hR hi (fun d M hd => ?_) hC
      exact hA d (R0 ++ M) (by rw [e1, hd, List.append_assoc])
  · -- it begins within R0
    cases hA' : A with
    | cons a A2 =>
      rcases List.eq_nil_or_concat A with z | ⟨M, c, z⟩
      · rw [hA'] at z; cases z
      · rw [List.concat_eq_append] at z
        have h1 := hA c M z
        have h2 := hi0 c (by rw [e1, z, List.append_assoc]; exact List.mem_append_right _ (List.mem_append_left _ (List.mem_cons.mpr (Or.inl rfl))))
        rw [h1] at h2
        cases h2
    | nil =>
      rw [hA', List.nil_append] at e1
      subst e1
      -- R ++ C = R0 ++ L
      rcases List.append_eq_append_iff.mp e2 with ⟨D, g1, g2⟩ | ⟨D, g1, g2⟩
      · cases hD : D with
        | nil =>
          rw [hD, List.append_nil] at g1
          rw [← g1]; exact h0
        | cons d D2 =>
          have h1 := hC d (D2 ++ L) (by rw [g2, hD]; rfl)
          have h2 := hi0 d (by rw [g1, hD]; exact List.mem_append_right _ (List.mem_cons.mpr (Or.inl rfl)))
          rw [h1] at h2
          cases h2
      · cases hD : D with
        | nil =>
          rw [hD, List.append_nil] at g1
          rw [g1]; exact h0
        | cons d D2 =>
          have h1 := hb d (D2 ++ C) (by rw [g2, hD]; rfl)
          have h2 := hi d (by rw [g1, hD]; exact List.mem_append_right _ (List.mem_cons.mpr (Or.inl rfl)))
          rw [h1] at h2
          cases h2
theorem bdy_bl {L : List Nat} : bdy (bl L) := by
  cases L with
  | nil => intro c M e; cases e
  | cons a L =>
    have e0 : bl (a :: L) = if a = 40 ∨ a = 10 ∨ a = 32 then a :: L else 32 :: a :: L := rfl
    intro c M e
    by_cases q : a = 40 ∨ a = 10 ∨ a = 32
    · rw [e0, if_pos q] at e
      have : a = c := (List.cons.inj e).1
      rw [← this]
      rcases q with z | z | z <;> rw [z] <;> decide
    · rw [e0, if_neg q] at e
      have : 32 = c := (List.cons.inj e).1
      rw [← this]; decide
theorem wk_bl {L : List Nat} (h : WKl nc st sp L) : WKl nc st sp (bl L) := by
  cases L with
  | nil => exact h
  | cons a L =>
    have e0 : bl (a :: L) = if a = 40 ∨ a = 10 ∨ a = 32 then a :: L else 32 :: a :: L := rfl
    rw [e0]
    split
    · exact h
    · exact wk_sign (by decide) h
theorem pg_len {f : Nat → Nat} {L : List Nat} : ∀ n, (pg f n L).length = n + L.length := by
  intro n
  induction n with
  | zero => show L.length = 0 + L.length; omega
  | succ n ih => show (pg f n L).length + 1 = _; rw [ih]; omega
theorem pg_mem {f : Nat → Nat} {c : Nat} : ∀ n, c ∈ pg f n [] → ∃ j, j < n ∧ c = f j := by
  intro n
  induction n with
  | zero => intro h; cases h
  | succ n ih =>
    intro h
    rcases List.mem_cons.mp (show c ∈ f n :: pg f n [] from h) with a | a
    · exact ⟨n, by omega, a⟩
    · obtain ⟨j, h1, h2⟩ := ih a
      exact ⟨j, by omega, h2⟩
theorem wk_pN (hT : TB nc st sp) {x : Nat} {L : List Nat} (hx : x < nc) (h : WKl nc st sp L) : WKl nc st sp (pN st sp x (bl L)) := by
  have h1 := hT.2.2.2.1 x hx
  have h2 := st_le hT (show x + 1 ≤ nc by omega)
  have e : pN st sp x (bl L) = pN st sp x [] ++ bl L := pg_app _
  rw [e]
  refine wk_word (Or.inl ⟨x, hx, rfl⟩) (fun z => ?_) (fun c hc => ?_) bdy_bl (wk_bl h)
  · have := congrArg List.length z
    unfold pN at this
    rw [pg_len] at this
    have h3 : ([] : List Nat).length = 0 := rfl
    omega
  · obtain ⟨j, j1, j2⟩ := pg_mem _ hc
    rw [j2]
    exact hT.2.2.2.2.1.1 _ (by omega)
theorem tx_inn : ∀ k, k < 11 → (TXL.getD (2 + k) []) ≠ [] ∧ ∀ c, c ∈ TXL.getD (2 + k) [] → innB c = true := by decide +kernel
theorem tx_non : ∀ k, k < 9 → ∀ c, c ∈ TXL.getD (13 + k) [] → innB c = false := by decide +kernel
theorem pT_nil {k : Nat} (hk : k < 49) : pT k [] = TXL.getD k [] := by rw [pT_x k hk, List.append_nil]
theorem pT_app {k : Nat} {L : List Nat} : pT k L = pT k [] ++ L := pg_app _
theorem wk_tk {k : Nat} {L : List Nat} (hk : k = 0 ∨ 4 ≤ k ∧ k < 24) (h : WKl nc st sp L) : WKl nc st sp (tkL k L) := by
  unfold tkL
  by_cases q : k = 0
  · rw [if_pos q]; exact h
  · rw [if_neg q]
    have sg : 15 ≤ k → ∀ M, WKl nc st sp M → WKl nc st sp (pT (k - 2) M) := fun h15 M hM => by
      rw [pT_app, pT_nil (by omega)]
      have := tx_non (k - 15) (by omega)
      rw [show 13 + (k - 15) = k - 2 by omega] at this
      exact wk_signs _ this hM
    by_cases g : k = 16 ∨ k = 17 ∨ k = 21 ∨ k = 22
    · rw [if_pos g]; exact sg (by omega) L h
    · rw [if_neg g]
      by_cases w : 15 ≤ k
      · exact sg w _ (wk_bl h)
      · have t := tx_inn (k - 4) (by omega)
        rw [show 2 + (k - 4) = k - 2 by omega] at t
        rw [pT_app, pT_nil (by omega)]
        refine wk_word (Or.inr (Or.inl ⟨k - 4, by omega, ?_⟩)) t.1 t.2 bdy_bl (wk_bl h)
        rw [show 2 + (k - 4) = k - 2 by omega, pT_nil (by omega)]
theorem sd_app {v : Nat} {A L : List Nat} : sdL v (A ++ L) = sdL v A ++ L := by
  unfold sdL
  split
  · rfl
  · split <;> rfl
theorem wk_st {v : Nat} {L : List Nat} (hv : v ≤ 100) (h : WKl nc st sp L) : WKl nc st sp (stL v L) := by
  unfold stL
  rw [pT_app, sd_app]
  have dg : ∀ d, d ≤ 9 → innB (48 + d) = true := by
    intro d hd
    have : ∀ d, d < 10 → innB (48 + d) = true := by decide
    exact this d (by omega)
  have tp : ∀ c, c ∈ TXL.getD (if v = 0 then 23 else 24) [] → innB c = true := by
    have : ∀ c, (c ∈ TXL.getD 23 [] → innB c = true) ∧ (c ∈ TXL.getD 24 [] → innB c = true) := fun c => ⟨(show ∀ c, c ∈ TXL.getD 23 [] → innB c = true by decide +kernel) c, (show ∀ c, c ∈ TXL.getD 24 [] → innB c = true by decide +kernel) c⟩
    intro c hc
    by_cases q : v = 0
    · rw [if_pos q] at hc; exact (this c).1 hc
    · rw [if_neg q] at hc; exact (this c).2 hc
  have ne : TXL.getD (if v = 0 then 23 else 24) [] ≠ [] := by
    by_cases q : v = 0
    · rw [if_pos q]; decide
    · rw [if_neg q]; decide
  have hk : (if v = 0 then 23 else 24) < 49 := by split <;> decide
  refine wk_word (Or.inr (Or.inr ⟨v, hv, rfl⟩)) (fun z => ?_) (fun c hc => ?_) bdy_bl (wk_bl h)
  · rw [pT_nil hk] at z
    generalize TXL.getD (if v = 0 then 23 else 24) [] = Q at z ne
    unfold sdL at z
    split at z
    · exact ne z
    · cases z
  · rw [pT_nil hk] at hc
    generalize TXL.getD (if v = 0 then 23 else 24) [] = Q at hc tp
    unfold sdL at hc
    split at hc
    · exact tp c hc
    · rcases List.mem_cons.mp hc with a | a
      · rw [a]; exact dg _ (by omega)
      · split at a
        · rcases List.mem_cons.mp a with b | b
          · rw [b]; exact dg _ (by omega)
          · exact tp c b
        · exact tp c a
theorem rd_wk (hT : TB nc st sp) (F : Fo) : ∀ (p q w E n : Nat) (L : List Nat), (q < 32 ∨ q = 99) → vl nc cv F p → WKl nc st sp L → WKl nc st sp (rd st sp cv F p q w E n L) := by
  have hT1 := hT.1
  induction F with
  | add X Y hX hY =>
    intro p q w E n L hq hv h
    exact hY _ q w E n _ hq hv.2 (hX p q w E n L hq hv.1 h)
  | pow X c hX =>
    intro p q w E n L hq hv h
    have hk : c % 32 < 32 := Nat.mod_lt _ (by decide)
    have cb : ∀ (b : Bool) M, WKl nc st sp M → WKl nc st sp (cbL b M) := fun b M hM => by
      cases b with
      | false => exact hM
      | true => exact wk_tk (k := 16) (by decide) hM
    have ob : ∀ (b : Bool) M, WKl nc st sp M → WKl nc st sp (obL b M) := fun b M hM => by
      cases b with
      | false => exact hM
      | true => exact wk_tk (k := 15) (by decide) hM
    have wd : ∀ M, WKl nc st sp M → WKl nc st sp (wdL st sp cv (c % 32) p M) := fun M hM => by
      unfold wdL
      by_cases a : c % 32 = 9 ∨ c % 32 = 16
      · obtain ⟨x, x1, x2⟩ := hv.1 a
        rw [if_pos a, x2, nI_clamp (by omega)]
        exact wk_pN hT x1 hM
      · rw [if_neg a]
        by_cases b : c % 32 = 17
        · obtain ⟨v, v1, v2⟩ := hv.2.1 b
          rw [if_pos b, v2, nI_clamp (by omega)]
          exact wk_st v1 hM
        · rw [if_neg b]
          exact wk_tk (fw_ok (c % 32) hk).2 hM
    have en : WKl nc st sp (enL st sp cv q (c % 32) p w (p + (fs X + 1)) E n L) := wd _ (ob _ _ (wk_tk (tb_rng hq hk) h))
    have r := hX (p + 1) (c % 32) p (p + (fs X + 1)) (fn X) _ (Or.inl hk) hv.2.2 en
    show WKl nc st sp (lvL q (c % 32) p w n (rd st sp cv X (p + 1) (c % 32) p (p + (fs X + 1)) (fn X) (enL st sp cv q (c % 32) p w (p + (fs X + 1)) E n L)))
    unfold lvL
    split
    · split
      · exact wk_tk (k := 22) (by decide) (cb _ _ r)
      · exact wk_sign (by decide) (wk_tk (k := 22) (by decide) (cb _ _ r))
    · exact cb _ _ r
  | _ => intro p q w E n L _ _ h; exact h
theorem bo_app : ∀ (A L : List Nat) (i : Nat), i < L.length → bo (A ++ L) i = bo L i := by
  intro A
  induction A with
  | nil => intro L i _; rfl
  | cons a A ih =>
    intro L i hi
    show (if i = (A ++ L).length then a else bo (A ++ L) i) = bo L i
    rw [if_neg (by rw [List.length_append]; omega), ih L i hi]
theorem bo_mid : ∀ (R C : List Nat) (j : Nat), j < R.length → bo (R ++ C) (C.length + j) = bo R j := by
  intro R
  induction R with
  | nil => intro C j hj; exact absurd hj (Nat.not_lt_zero _)
  | cons r R ih =>
    intro C j hj
    rw [List.length_cons] at hj
    show (if C.length + j = (R ++ C).length then r else bo (R ++ C) (C.length + j)) = (if j = R.length then r else bo R j)
    rw [List.length_append]
    by_cases q : j = R.length
    · rw [if_pos (by omega), if_pos q]
    · rw [if_neg (by omega), if_neg q, ih C j (by omega)]
theorem bo_all {P : Nat → Prop} : ∀ (R : List Nat), (∀ j, j < R.length → P (bo R j)) → ∀ c, c ∈ R → P c := by
  intro R
  induction R with
  | nil => intro _ c hc; cases hc
  | cons r R ih =>
    intro h c hc
    rcases List.mem_cons.mp hc with a | a
    · have := h R.length (by rw [List.length_cons]; omega)
      have e : bo (r :: R) R.length = r := if_pos rfl
      rw [e] at this
      rw [a]; exact this
    · refine ih (fun j hj => ?_) c a
      have := h j (by rw [List.length_cons]; omega)
      have e : bo (r :: R) j = bo R j := if_neg (by omega)
      rw [e] at this
      exact this
theorem bo_pg {f : Nat → Nat} : ∀ n j, j < n → bo (pg f n []) j = f j := by
  intro n
  induction n with
  | zero => intro j hj; exact absurd hj (Nat.not_lt_zero _)
  | succ n ih =>
    intro j hj
    show (if j = (pg f n []).length then f n else bo (pg f n []) j) = f j
    rw [pg_len]
    by_cases q : j = n
    · rw [if_pos (by show j = n + 0; omega), q]
    · rw [if_neg (by show ¬ j = n + 0; omega), ih j (by omega)]
theorem split_at (L : List Nat) {i : Nat} (hi : i ≤ L.length) : ∃ A C, L = A ++ C ∧ C.length = i := ⟨L.take (L.length - i), L.drop (L.length - i), (List.take_append_drop _ L).symm, by rw [List.length_drop]; omega⟩
/-- a run of bytes that is a name which stands in the table -/
def kn (B : Nat → Nat) (T : TBt) (p w : Nat) : Prop := ∃ x, x < T.1 ∧ smN T.2.1 T.2.2 B p w x
/-- in the first a bytes each run is a name that is known, or no name -/
def WKp (B : Nat → Nat) (T : TBt) (a : Nat) : Prop := ∀ p w, 1 ≤ w → p + w ≤ a → (p = 0 ∨ innB (B (p - 1)) = false) → (∀ j, j < w → innB (B (p + j)) = true) → (p + w < a → innB (B (p + w)) = false) → kn B T p w ∨ (wkE B p w).1 ≠ 2
theorem wdF_ne {B : Nat → Nat} {p w : Nat} : ∀ n k, n + k = 11 → (∃ j, k ≤ j ∧ j < 11 ∧ spB B p w (2 + j) = true) → wdF B p w n k ≠ 2 := by
  intro n
  induction n with
  | zero => intro k hk h; obtain ⟨j, h1, h2, _⟩ := h; omega
  | succ n ih =>
    intro k hk h
    obtain ⟨j, h1, h2, h3⟩ := h
    unfold wdF
    split
    · omega
    · rename_i hn
      by_cases q : j = k
      · subst q; exact absurd h3 hn
      · exact ih (k + 1) (by omega) ⟨j, by omega, h2, h3⟩
theorem WK_pos (hT : TB nc st sp) {L : List Nat} (h : WKl nc st sp L) : WKp (bo L) (nc, st, sp) L.length := by
  intro p w hw hpw hl hi hr
  obtain ⟨A, L1, e1, l1⟩ := split_at L (i := p + w) hpw
  obtain ⟨R, C, e2, l2⟩ := split_at L1 (i := p) (by omega)
  have lR : R.length = w := by
    have := congrArg List.length e2
    rw [List.length_append] at this
    omega
  have b1 : ∀ i, i < p + w → bo L i = bo L1 i := fun i hi => by rw [e1]; exact bo_app A L1 i (by omega)
  have b2 : ∀ j, j < w → bo L (p + j) = bo R j := fun j hj => by
    rw [b1 _ (by omega), e2, ← l2]
    exact bo_mid R C j (by omega)
  have b3 : ∀ i, i < p → bo L i = bo C i := fun i hi => by rw [b1 _ (by omega), e2]; exact bo_app R C i (by omega)
  have hW := h A R C (by rw [e1, e2]) (fun z => by rw [z] at lR; have : ([] : List Nat).length = 0 := rfl; omega) (bo_all R (fun j hj => by rw [← b2 j (by omega)]; exact hi j (by omega))) (fun c M e => by
    have e3 : L = M ++ (c :: L1) := by rw [e1, e, List.append_assoc]; rfl
    have hlt : p + w < L.length := by rw [e3, List.length_append, List.length_cons]; omega
    have g := hr hlt
    have e4 : bo L (p + w) = c := by
      rw [e3, bo_app M (c :: L1) _ (by rw [List.length_cons]; omega)]
      exact if_pos l1.symm
    rw [e4] at g
    exact g) (fun c M e => by
    have l3 : M.length + 1 = p := by rw [← l2, e]; rfl
    rcases hl with z | z
    · omega
    · rw [b3 _ (by omega), e] at z
      have e4 : bo (c :: M) (p - 1) = c := if_pos (by omega)
      rw [e4] at z
      exact z)
  rcases hW with ⟨x, x1, x2⟩ | ⟨k, k1, k2⟩ | ⟨v, v1, v2⟩
  · left
    have h1 := hT.2.2.2.1 x x1
    have lw : st (x + 1) - st x = w := by
      rw [← lR, x2]
      unfold pN
      rw [pg_len]
      rfl
    refine ⟨x, x1, lw, fun j hj => ?_⟩
    rw [b2 j hj, x2]
    exact (bo_pg (f := fun j => sp (st x + j)) (st (x + 1) - st x) j (by omega)).symm
  · right
    have lw : jstrN (2 + k) = w := by
      rw [← lR, k2]
      unfold pT
      rw [pg_len]
      rfl
    have sp1 : spB (bo L) p w (2 + k) = true := (spB_iff).mpr ⟨lw.symm, fun j hj => by
      rw [b2 j hj, k2]
      exact bo_pg _ j (by omega)⟩
    unfold wkE
    split
    · decide
    · cases soE (bo L) p w with
      | some v => show (3 : Nat) ≠ 2; decide
      | none => exact wdF_ne 11 0 rfl ⟨k, Nat.zero_le _, k1, sp1⟩
  · right
    unfold wkE
    split
    · decide
    · have key : ∃ u, soE (bo L) p w = some u := by
        unfold soE
        by_cases q : v = 0
        · subst q
          have v3 : R = pT 23 [] := v2
          have lw : jstrN 0 = w := by
            rw [← lR, v3]
            unfold pT
            rw [pg_len]
            rfl
          have sp1 : spB (bo L) p w 0 = true := (spB_iff).mpr ⟨lw.symm, fun j hj => by
            rw [b2 j hj, v3]
            have : jsn 0 j = jsn 23 j := rfl
            rw [this]
            exact bo_pg _ j (by rw [← lw] at hj; exact hj)⟩
          rw [if_pos sp1]
          exact ⟨_, rfl⟩
        · have v3 : R = (48 + (v - 1) % 10) :: (if 10 < v then (48 + (v - 1) / 10) :: pT 24 [] else pT 24 []) := by
            rw [v2]
            unfold sdL
            rw [if_neg q, if_neg q]
          have lT : (pT 24 []).length = 4 := by rw [pT_nil (by decide)]; rfl
          have bT : ∀ j, j < 4 → bo (pT 24 []) j = jsn 1 j := fun j hj => by
            have : jsn 1 j = jsn 24 j := rfl
            rw [this]
            exact bo_pg _ j hj
          by_cases ten : 10 < v
          · rw [if_pos ten] at v3
            have lw : w = 6 := by rw [← lR, v3, List.length_cons, List.length_cons, lT]
            have c0 : ∀ j, j < 4 → bo L (p + j) = jsn 1 j := fun j hj => by
              rw [b2 j (by omega), v3]
              have e5 : bo ((48 + (v - 1) % 10) :: (48 + (v - 1) / 10) :: pT 24 []) j = bo ((48 + (v - 1) / 10) :: pT 24 []) j := if_neg (by rw [List.length_cons, lT]; omega)
              have e6 : bo ((48 + (v - 1) / 10) :: pT 24 []) j = bo (pT 24 []) j := if_neg (by rw [lT]; omega)
              rw [e5, e6, bT j hj]
            have c4 : bo L (p + 4) = 48 + (v - 1) / 10 := by
              rw [b2 4 (by omega), v3]
              have e5 : bo ((48 + (v - 1) % 10) :: (48 + (v - 1) / 10) :: pT 24 []) 4 = bo ((48 + (v - 1) / 10) :: pT 24 []) 4 := if_neg (by rw [List.length_cons, lT]; decide)
              rw [e5]
              exact if_pos (by rw [lT])
            have c5 : bo L (p + 5) = 48 + (v - 1) % 10 := by
              rw [b2 5 (by omega), v3]
              exact if_pos (by rw [List.length_cons, lT])
            have sp1 : spB (bo L) p 4 1 = true := (spB_iff).mpr ⟨rfl, c0⟩
            have dg : ∀ d, d ≤ 9 → digB (48 + d) = true := fun d hd => decide_eq_true (by omega)
            by_cases z : spB (bo L) p w 0 = true
            · rw [if_pos z]; exact ⟨_, rfl⟩
            · rw [if_neg z, if_pos sp1, if_neg (by omega), if_neg (by omega), if_pos lw, if_pos ⟨by rw [c4]; exact dg _ (by omega), by rw [c4]; omega, by rw [c5]; exact dg _ (by omega)⟩]
              exact ⟨_, rfl⟩
          · rw [if_neg ten] at v3
            have lw : w = 5 := by rw [← lR, v3, List.length_cons, lT]
            have c0 : ∀ j, j < 4 → bo L (p + j) = jsn 1 j := fun j hj => by
              rw [b2 j (by omega), v3]
              have e6 : bo ((48 + (v - 1) % 10) :: pT 24 []) j = bo (pT 24 []) j := if_neg (by rw [lT]; omega)
              rw [e6, bT j hj]
            have c4 : bo L (p + 4) = 48 + (v - 1) % 10 := by
              rw [b2 4 (by omega), v3]
              exact if_pos (by rw [lT])
            have sp1 : spB (bo L) p 4 1 = true := (spB_iff).mpr ⟨rfl, c0⟩
            have dg : ∀ d, d ≤ 9 → digB (48 + d) = true := fun d hd => decide_eq_true (by omega)
            by_cases z : spB (bo L) p w 0 = true
            · rw [if_pos z]; exact ⟨_, rfl⟩
            · rw [if_neg z, if_pos sp1, if_neg (by omega), if_pos lw, if_pos (by rw [c4]; exact dg _ (by omega))]
              exact ⟨_, rfl⟩
      obtain ⟨u, hu⟩ := key
      rw [hu]
      show (3 : Nat) ≠ 2
      decide
end WK
