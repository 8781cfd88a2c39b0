-- trees: nt nodes, each before its parts; sz k nodes in all that is in k, pn k parts
def tpos (sz : Nat → Nat) (k : Nat) : Nat → Nat
  | 0 => k + 1
  | j + 1 => tpos sz k j + sz (tpos sz k j)
def RT (ck cp cv cs cn cw : Nat → Int32) (cc : Int32) (mk mp mv ms mw mc : Nat → Int32) (t nt : Nat) (sz pn : Nat → Nat) : Prop :=
  t < 2 ∧ 1 ≤ nt ∧ nt ≤ 8001 ∧ cc = nI nt ∧ mc t = nI nt ∧ ∀ k, k < nt → (mk (9000 * t + k) = ck k ∧ mp (9000 * t + k) = cp k ∧ mv (9000 * t + k) = cv k ∧ mw (9000 * t + k) = cw k ∧ cs k = nI (sz k) ∧ ms (9000 * t + k) = nI (sz k) ∧ cn k = nI (pn k)) ∧ 1 ≤ sz k ∧ k + sz k ≤ nt ∧ (∀ j, j < pn k → tpos sz k j < k + sz k) ∧ tpos sz k (pn k) = k + sz k
theorem n10 : ¬ (1 : Int32) = 0 := by decide
theorem vb1 : vp_nar .boolean (1 : Int32) = 1 := by decide +kernel
theorem vb0 : vp_nar .boolean (0 : Int32) = 0 := by decide +kernel
theorem p_Trhas {nt k : Nat} (hn : nt < 2 ^ 31) (hk : k < nt) : f_Tr_has (nI nt) (nI k) = some 1 := by
  unfold f_Tr_has
  rw [if_neg (nI_pos (by omega)), if_neg (by rw [nI_leI hn (by omega)]; omega), vb1]
theorem p_Trhas_out {nt : Nat} {x : Int32} (h : x < 0 ∨ nI nt ≤ x) : f_Tr_has (nI nt) x = some 0 := by
  unfold f_Tr_has Tr_has_b16
  by_cases z : x < 0
  · rw [if_pos z, vb0]
  · rw [if_neg z, if_pos (h.resolve_left z), vb0]
theorem p_Mohas {mc : Nat → Int32} {t nt k : Nat} (ht : t < 2) (hn : nt < 2 ^ 31) (hc : mc t = nI nt) (hk : k < nt) : f_Mo_has mc (nI t) (nI k) = some 1 := by
  unfold f_Mo_has
  rw [if_neg (nI_pos (by omega)), show (2 : Int32) = nI 2 from rfl, if_neg (by rw [nI_leI (by omega) (by omega)]; omega), if_neg (nI_pos (by omega)), if_neg (nI_in ht (by decide)), nI_clamp (by omega), hc, if_neg (by rw [nI_leI hn (by omega)]; omega), vb1]
theorem p_Mohas_out {mc : Nat → Int32} {t nt : Nat} {x : Int32} (ht : t < 2) (hc : mc t = nI nt) (h : x < 0 ∨ nI nt ≤ x) : f_Mo_has mc (nI t) x = some 0 := by
  unfold f_Mo_has Mo_has_b27
  rw [if_neg (nI_pos (by omega)), show (2 : Int32) = nI 2 from rfl, if_neg (by rw [nI_leI (by omega) (by omega)]; omega)]
  by_cases z : x < 0
  · rw [if_pos z, vb0]
  · rw [if_neg z, if_neg (nI_in ht (by decide)), nI_clamp (by omega), hc, if_pos (h.resolve_left z), vb0]
theorem p_Mohas_no {mc : Nat → Int32} {a x : Int32} (h : a < 0 ∨ (2 : Int32) ≤ a) : f_Mo_has mc a x = some 0 := by
  unfold f_Mo_has Mo_has_b27
  by_cases z : a < 0
  · rw [if_pos z, vb0]
  · rw [if_neg z, if_pos (h.resolve_left z), vb0]
theorem off9 (t k : Nat) : (9000 : Int32) * nI t + nI k = nI (9000 * t + k) := by rw [show (9000 : Int32) = nI 9000 from rfl, pk_mul, nI_add]
theorem a01 (a : Int32) : a = 0 ∨ a = 1 ∨ (¬ a = 0 ∧ ¬ a = 1 ∧ (a < 0 ∨ (2 : Int32) ≤ a)) := by
  by_cases h0 : a = 0
  · exact Or.inl h0
  · by_cases h1 : a = 1
    · exact Or.inr (Or.inl h1)
    · refine Or.inr (Or.inr ⟨h0, h1, ?_⟩)
      rcases pk_ix a (n := 2) (by decide) with q | q | ⟨j, hj, rfl⟩
      · exact Or.inl q
      · exact Or.inr q
      · match j, hj with
        | 0, _ => exact absurd rfl h0
        | 1, _ => exact absurd rfl h1
        | j + 2, h => exact absurd h (by omega)
/-- part i of node k: where it is -/
theorem tpos_lt {sz : Nat → Nat} {k nt : Nat} (h1 : k + sz k ≤ nt) {pn : Nat} (h2 : ∀ j, j < pn → tpos sz k j < k + sz k) : ∀ j, j < pn → tpos sz k j < nt := fun j hj => Nat.lt_of_lt_of_le (h2 j hj) h1
section TP
variable {ck cp cv cs cn cw : Nat → Int32} {cc : Int32} {mk mp mv ms mw mc : Nat → Int32} {t nt : Nat} {sz pn : Nat → Nat}
theorem p_partOf (h : RT ck cp cv cs cn cw cc mk mp mv ms mw mc t nt sz pn) {k i : Nat} (hk : k < nt) (hi : i < pn k) : f_Tr_partOf cs cn cc (nI k) (nI i) = some (nI (tpos sz k i)) := by
  obtain ⟨ht, h1, h2, rfl, hmc, hA⟩ := h
  obtain ⟨⟨-, -, -, -, -, -, hpn⟩, hsz, hks, hj, -⟩ := hA k hk
  have hlt := tpos_lt hks hj
  have hpn8 : pn k ≤ 8001 := by
    have key : ∀ j, j ≤ pn k → j < pn k + 1 → k + 1 + j ≤ tpos sz k j := by
      intro j
      induction j with
      | zero => intro _ _; exact Nat.le_refl _
      | succ j ih =>
        intro hj1 _
        have h3 := ih (by omega) (by omega)
        have h4 := (hA _ (hlt j (by omega))).2.1
        show k + 1 + (j + 1) ≤ tpos sz k j + sz (tpos sz k j)
        omega
    rcases Nat.eq_zero_or_pos (pn k) with z | z
    · omega
    · have := key (pn k - 1) (by omega) (by omega)
      have := hlt (pn k - 1) (by omega)
      omega
  unfold f_Tr_partOf
  rw [p_Trhas (by omega) hk, jb_some, if_neg (by decide), if_neg (nI_pos (by omega)), if_neg (nI_in (show k < 8001 by omega) (by decide)), nI_clamp (by omega), hpn, if_pos (by rw [nI_ltI (by omega) (by omega)]; exact hi)]
  unfold Tr_partOf_b31
  have key := jl_for (body := Tr_partOf_b31_b cs cn (nI nt) (nI i)) (fun j s => s = (nI (tpos sz k j), nI j)) (fun r => r = nI (tpos sz k i)) i (by
    intro j s hji hI
    subst hI
    left
    have h3 := hlt j (by omega)
    refine ⟨_, ?_, rfl⟩
    show Tr_partOf_b31_s cs cn (nI nt) (nI i) (nI (tpos sz k j)) (nI j) = _
    unfold Tr_partOf_b31_s
    rw [if_neg (by rw [nI_leI (by omega) (by omega)]; omega), p_Trhas (by omega) h3, jb_some, if_neg (by decide), if_neg (nI_in (show tpos sz k j < 8001 by omega) (by decide)), nI_clamp (by omega), (hA _ h3).1.2.2.2.2.1, nI_add, nI_1]
    all_goals rfl) (by
    intro s hI
    subst hI
    refine ⟨_, ?_, rfl⟩
    show Tr_partOf_b31_s cs cn (nI nt) (nI i) (nI (tpos sz k i)) (nI i) = _
    unfold Tr_partOf_b31_s
    rw [if_pos (Int32.le_refl _)])
  obtain ⟨r, hr, rfl⟩ := key 0 (nI (k + 1), 0) (Nat.zero_le _) rfl
  rw [nI_1]
  exact hr
theorem pn_le (h : RT ck cp cv cs cn cw cc mk mp mv ms mw mc t nt sz pn) {k : Nat} (hk : k < nt) : pn k ≤ 8001 := by
  obtain ⟨ht, h1, h2, rfl, hmc, hA⟩ := h
  obtain ⟨-, hsz, hks, hj, -⟩ := hA k hk
  have hlt := tpos_lt hks hj
  have key : ∀ j, j ≤ pn k → j < pn k + 1 → k + 1 + j ≤ tpos sz k j := by
    intro j
    induction j with
    | zero => intro _ _; exact Nat.le_refl _
    | succ j ih =>
      intro hj1 _
      have h3 := ih (by omega) (by omega)
      have h4 := (hA _ (hlt j (by omega))).2.1
      show k + 1 + (j + 1) ≤ tpos sz k j + sz (tpos sz k j)
      omega
  rcases Nat.eq_zero_or_pos (pn k) with z | z
  · omega
  · have := key (pn k - 1) (by omega) (by omega)
    have := hlt (pn k - 1) (by omega)
    omega
theorem p_Mo_part (h : RT ck cp cv cs cn cw cc mk mp mv ms mw mc t nt sz pn) {k i : Nat} (hk : k < nt) (hi : i < pn k) : f_Mo_part ms mc (nI t) (nI k) (nI i) = some (nI (tpos sz k i)) := by
  have hp8 := pn_le h hk
  obtain ⟨ht, h1, h2, rfl, hmc, hA⟩ := h
  obtain ⟨⟨-, -, -, -, -, hms, -⟩, hsz, hks, hj, -⟩ := hA k hk
  have hlt := tpos_lt hks hj
  unfold f_Mo_part
  rw [p_Mohas ht (by omega) hmc hk, jb_some, if_neg (by decide), if_pos (nI_pos' (by omega))]
  unfold Mo_part_b23
  have key := jl_for (body := Mo_part_b23_b ms mc (nI t) (nI k) (nI i)) (fun j s => s = (nI (tpos sz k j), nI j)) (fun r => r = nI (tpos sz k i)) i (by
    intro j s hji hI
    subst hI
    left
    have h3 := hlt j (by omega)
    have h4 := hj j (by omega)
    refine ⟨_, ?_, rfl⟩
    show Mo_part_b23_s ms mc (nI t) (nI k) (nI i) (nI (tpos sz k j)) (nI j) = _
    unfold Mo_part_b23_s
    rw [off9, if_neg (nI_in (show 9000 * t + k < 18000 by omega) (by decide)), nI_clamp (by omega), hms, nI_add, if_neg (by rw [nI_leI (by omega) (by omega)]; omega), if_neg (by rw [nI_leI (by omega) (by omega)]; omega), off9, if_neg (nI_in (show 9000 * t + tpos sz k j < 18000 by omega) (by decide)), nI_clamp (by omega), (hA _ h3).1.2.2.2.2.2.1, nI_add, nI_1]
    all_goals rfl) (by
    intro s hI
    subst hI
    have h3 := hlt i hi
    have h4 := hj i hi
    refine ⟨_, ?_, rfl⟩
    show Mo_part_b23_s ms mc (nI t) (nI k) (nI i) (nI (tpos sz k i)) (nI i) = _
    unfold Mo_part_b23_s Mo_part_b72
    rw [off9, if_neg (nI_in (show 9000 * t + k < 18000 by omega) (by decide)), nI_clamp (by omega), hms, nI_add, if_neg (by rw [nI_leI (by omega) (by omega)]; omega), if_pos (Int32.le_refl _), if_neg (nI_inC (show 9000 * t + k < 18000 by omega) (by decide)), if_neg (by rw [nI_leI (by omega) (by omega)]; omega)]
    all_goals rfl)
  obtain ⟨r, hr, rfl⟩ := key 0 (nI (k + 1), 0) (Nat.zero_le _) rfl
  rw [nI_1]
  exact hr
theorem p_Mo_part_out (h : RT ck cp cv cs cn cw cc mk mp mv ms mw mc t nt sz pn) {k : Nat} {x : Int32} (hk : k < nt) (hx : x < 0 ∨ nI (pn k) ≤ x) : f_Mo_part ms mc (nI t) (nI k) x = some (-1) := by
  have hp8 := pn_le h hk
  obtain ⟨ht, h1, h2, rfl, hmc, hA⟩ := h
  obtain ⟨⟨-, -, -, -, -, hms, -⟩, hsz, hks, hj, he⟩ := hA k hk
  have hlt := tpos_lt hks hj
  unfold f_Mo_part
  rw [p_Mohas ht (by omega) hmc hk, jb_some, if_neg (by decide)]
  by_cases z : x < 0
  · rw [if_neg (Int32.not_le.mpr z)]
  · rw [if_pos (Int32.not_lt.mp z)]
    have hx' := hx.resolve_left z
    unfold Mo_part_b23
    have key := jl_for (body := Mo_part_b23_b ms mc (nI t) (nI k) x) (fun j s => s = (nI (tpos sz k j), nI j)) (fun r => r = (-1 : Int32)) (pn k) (by
      intro j s hji hI
      subst hI
      left
      have h3 := hlt j (by omega)
      have h4 := hj j (by omega)
      refine ⟨_, ?_, rfl⟩
      show Mo_part_b23_s ms mc (nI t) (nI k) x (nI (tpos sz k j)) (nI j) = _
      unfold Mo_part_b23_s
      rw [off9, if_neg (nI_in (show 9000 * t + k < 18000 by omega) (by decide)), nI_clamp (by omega), hms, nI_add, if_neg (by rw [nI_leI (by omega) (by omega)]; omega), if_neg (by
        intro q
        have := Int32.le_trans hx' q
        rw [nI_leI (by omega) (by omega)] at this
        omega), off9, if_neg (nI_in (show 9000 * t + tpos sz k j < 18000 by omega) (by decide)), nI_clamp (by omega), (hA _ h3).1.2.2.2.2.2.1, nI_add, nI_1]
      all_goals rfl) (by
      intro s hI
      subst hI
      refine ⟨_, ?_, rfl⟩
      show Mo_part_b23_s ms mc (nI t) (nI k) x (nI (tpos sz k (pn k))) (nI (pn k)) = _
      unfold Mo_part_b23_s Mo_part_b72
      rw [off9, if_neg (nI_in (show 9000 * t + k < 18000 by omega) (by decide)), nI_clamp (by omega), hms, nI_add, he, if_pos (Int32.le_refl _), if_neg (nI_inC (show 9000 * t + k < 18000 by omega) (by decide)), if_pos (Int32.le_refl _)]
      all_goals rfl)
    obtain ⟨r, hr, rfl⟩ := key 0 (nI (k + 1), 0) (Nat.zero_le _) rfl
    rw [nI_1]
    exact hr
theorem p_partOf_out (h : RT ck cp cv cs cn cw cc mk mp mv ms mw mc t nt sz pn) {k : Nat} {x : Int32} (hk : k < nt) (hx : x < 0 ∨ nI (pn k) ≤ x) : f_Tr_partOf cs cn cc (nI k) x = some (-1) := by
  obtain ⟨ht, h1, h2, rfl, hmc, hA⟩ := h
  unfold f_Tr_partOf
  rw [p_Trhas (by omega) hk, jb_some, if_neg (by decide)]
  by_cases z : x < 0
  · rw [if_pos z]
  · rw [if_neg z, if_neg (nI_in (show k < 8001 by omega) (by decide)), nI_clamp (by omega), (hA k hk).1.2.2.2.2.2.2, if_neg (Int32.not_lt.mpr (hx.resolve_left z))]
theorem p_Mo_parts (h : RT ck cp cv cs cn cw cc mk mp mv ms mw mc t nt sz pn) {k : Nat} (hk : k < nt) : f_Mo_parts ms mc (nI t) (nI k) = some (nI (pn k)) := by
  have hp8 := pn_le h hk
  have hne : ∀ n : Nat, n < 2 ^ 31 → ¬ nI n = (-1 : Int32) := fun n hn q => nI_pos hn (by rw [q]; decide)
  unfold f_Mo_parts Mo_parts_b2
  have key := jl_for (body := Mo_parts_b2_b ms mc (nI t) (nI k)) (fun j s => s = nI j) (fun r => r = nI (pn k)) (pn k) (by
    intro j s hji hI
    subst hI
    left
    refine ⟨_, ?_, rfl⟩
    show Mo_parts_b2_s ms mc (nI t) (nI k) (nI j) = _
    unfold Mo_parts_b2_s
    have h3 := tpos_lt ((h.2.2.2.2.2 k hk).2.2.1) ((h.2.2.2.2.2 k hk).2.2.2.1) j hji
    have h4 := h.2.2.1
    rw [p_Mo_part h hk hji, jb_some, if_neg (hne _ (by omega)), nI_1]) (by
    intro s hI
    subst hI
    refine ⟨_, ?_, rfl⟩
    show Mo_parts_b2_s ms mc (nI t) (nI k) (nI (pn k)) = _
    unfold Mo_parts_b2_s
    rw [p_Mo_part_out h hk (Or.inr (Int32.le_refl _)), jb_some, if_pos rfl])
  obtain ⟨r, hr, rfl⟩ := key 0 0 (Nat.zero_le _) rfl
  exact hr
theorem p_tell (h : RT ck cp cv cs cn cw cc mk mp mv ms mw mc t nt sz pn) (x w : Int32) : ∃ r, f_Tr_tell ck cp cv cs cn cc x w = some r ∧ f_Mo_node mk mp mv ms mc (nI t) x w = some r := by
  have h' := h
  obtain ⟨ht, h1, h2, rfl, hmc, hA⟩ := h
  rcases pk_ix x (n := nt) (by omega) with q | q | ⟨k, hk, rfl⟩
  · refine ⟨-1, ?_, ?_⟩
    · unfold f_Tr_tell; rw [p_Trhas_out (Or.inl q), jb_some, if_pos rfl]
    · unfold f_Mo_node; rw [p_Mohas_out ht hmc (Or.inl q), jb_some, if_pos rfl]
  · refine ⟨-1, ?_, ?_⟩
    · unfold f_Tr_tell; rw [p_Trhas_out (Or.inr q), jb_some, if_pos rfl]
    · unfold f_Mo_node; rw [p_Mohas_out ht hmc (Or.inr q), jb_some, if_pos rfl]
  · obtain ⟨⟨e1, e2, e3, e4, e5, e6, e7⟩, -⟩ := hA k hk
    have b1 : ¬ (nI k < 0 ∨ 8001 ≤ (nI k).toNatClampNeg) := nI_in (by omega) (by decide)
    have b2 : ¬ (nI (9000 * t + k) < 0 ∨ 18000 ≤ (nI (9000 * t + k)).toNatClampNeg) := nI_in (by omega) (by decide)
    unfold f_Tr_tell f_Mo_node
    rw [p_Trhas (by omega) hk, p_Mohas ht (by omega) hmc hk, jb_some, jb_some, if_neg n10, if_neg n10, off9]
    by_cases w0 : w = 0
    · rw [if_pos w0, if_pos w0, if_neg b1, if_neg b2, nI_clamp (by omega), nI_clamp (by omega), e1]
      exact ⟨_, rfl, rfl⟩
    · rw [if_neg w0, if_neg w0]
      by_cases w1 : w = 1
      · rw [if_pos w1, if_pos w1, if_neg b1, if_neg b2, nI_clamp (by omega), nI_clamp (by omega), e2]
        exact ⟨_, rfl, rfl⟩
      · rw [if_neg w1, if_neg w1]
        by_cases w2 : w = 2
        · rw [if_pos w2, if_pos w2, if_neg b1, if_neg b2, nI_clamp (by omega), nI_clamp (by omega), e3]
          exact ⟨_, rfl, rfl⟩
        · rw [if_neg w2, if_neg w2]
          by_cases w3 : w = 3
          · rw [if_pos w3, if_pos w3, if_neg b1, if_neg b2, nI_clamp (by omega), nI_clamp (by omega), e5, e6]
            exact ⟨_, rfl, rfl⟩
          · rw [if_neg w3, if_neg w3]
            by_cases w4 : w = 4
            · rw [if_pos w4, if_pos w4, if_neg b1, nI_clamp (by omega), e7, p_Mo_parts h' hk, jb_some]
              exact ⟨_, rfl, rfl⟩
            · rw [if_neg w4, if_neg w4]
              exact ⟨_, rfl, rfl⟩
theorem p_wholeOf (h : RT ck cp cv cs cn cw cc mk mp mv ms mw mc t nt sz pn) (x : Int32) : ∃ r, f_Tr_wholeOf cw cc x = some r ∧ f_Mo_whole mw mc (nI t) x = some r := by
  obtain ⟨ht, h1, h2, rfl, hmc, hA⟩ := h
  rcases pk_ix x (n := nt) (by omega) with q | q | ⟨k, hk, rfl⟩
  · refine ⟨-1, ?_, ?_⟩
    · unfold f_Tr_wholeOf; rw [p_Trhas_out (Or.inl q), jb_some, if_pos rfl]
    · unfold f_Mo_whole; rw [p_Mohas_out ht hmc (Or.inl q), jb_some, if_pos rfl]
  · refine ⟨-1, ?_, ?_⟩
    · unfold f_Tr_wholeOf; rw [p_Trhas_out (Or.inr q), jb_some, if_pos rfl]
    · unfold f_Mo_whole; rw [p_Mohas_out ht hmc (Or.inr q), jb_some, if_pos rfl]
  · unfold f_Tr_wholeOf f_Mo_whole
    rw [p_Trhas (by omega) hk, p_Mohas ht (by omega) hmc hk, jb_some, jb_some, if_neg n10, if_neg n10, off9, if_neg (nI_in (show k < 8001 by omega) (by decide)), if_neg (nI_in (show 9000 * t + k < 18000 by omega) (by decide)), nI_clamp (by omega), nI_clamp (by omega), (hA k hk).1.2.2.2.1]
    exact ⟨_, rfl, rfl⟩
theorem p_partEq (h : RT ck cp cv cs cn cw cc mk mp mv ms mw mc t nt sz pn) (x i : Int32) : ∃ r, f_Tr_partOf cs cn cc x i = some r ∧ f_Mo_part ms mc (nI t) x i = some r := by
  have h' := h
  obtain ⟨ht, h1, h2, rfl, hmc, hA⟩ := h
  rcases pk_ix x (n := nt) (by omega) with q | q | ⟨k, hk, rfl⟩
  · refine ⟨-1, ?_, ?_⟩
    · unfold f_Tr_partOf; rw [p_Trhas_out (Or.inl q), jb_some, if_pos rfl]
    · unfold f_Mo_part; rw [p_Mohas_out ht hmc (Or.inl q), jb_some, if_pos rfl]
  · refine ⟨-1, ?_, ?_⟩
    · unfold f_Tr_partOf; rw [p_Trhas_out (Or.inr q), jb_some, if_pos rfl]
    · unfold f_Mo_part; rw [p_Mohas_out ht hmc (Or.inr q), jb_some, if_pos rfl]
  · have hp := pn_le h' hk
    rcases pk_ix i (n := pn k) (by omega) with q | q | ⟨j, hj, rfl⟩
    · exact ⟨-1, p_partOf_out h' hk (Or.inl q), p_Mo_part_out h' hk (Or.inl q)⟩
    · exact ⟨-1, p_partOf_out h' hk (Or.inr q), p_Mo_part_out h' hk (Or.inr q)⟩
    · exact ⟨_, p_partOf h' hk hj, p_Mo_part h' hk hj⟩
end TP
-- which tree
theorem treeOf0 : f_TR_treeOf 0 = some 2 := by unfold f_TR_treeOf; rw [if_pos rfl]
theorem treeOf1 : f_TR_treeOf 1 = some 1 := by unfold f_TR_treeOf; rw [if_neg (by decide), if_pos rfl]
theorem treeOfN {a : Int32} (h0 : ¬ a = 0) (h1 : ¬ a = 1) : f_TR_treeOf a = some 0 := by unfold f_TR_treeOf; rw [if_neg h0, if_neg h1]
section TO
variable {ck cp cv cs cn cw : Nat → Int32} {cc : Int32} {dk dp dv ds dn dw : Nat → Int32} {dc : Int32} {mk mp mv ms mw mc : Nat → Int32} {nt nu : Nat} {sz pn sy py : Nat → Nat}
theorem o_nodes (h : RT ck cp cv cs cn cw cc mk mp mv ms mw mc 0 nt sz pn) (h1 : RT dk dp dv ds dn dw dc mk mp mv ms mw mc 1 nu sy py) (a : Int32) : ∃ r, f_TR_nodes cc dc a = some r ∧ f_Mo_nodes mc a = some r := by
  unfold f_TR_nodes f_Mo_nodes Mo_nodes_b9
  rcases a01 a with rfl | rfl | ⟨z0, z1, z2⟩
  · refine ⟨cc, by rw [treeOf0, jb_some, if_neg (by decide), if_neg (by decide)], ?_⟩
    rw [if_neg (by decide), if_pos (by decide), if_neg (by decide), h.2.2.2.1]
    show some (mc 0) = _
    rw [h.2.2.2.2.1]
  · refine ⟨dc, by rw [treeOf1, jb_some, if_neg (by decide), if_pos rfl], ?_⟩
    rw [if_neg (by decide), if_pos (by decide), if_neg (by decide), h1.2.2.2.1]
    show some (mc 1) = _
    rw [h1.2.2.2.2.1]
  · refine ⟨-1, by rw [treeOfN z0 z1, jb_some, if_pos rfl], ?_⟩
    by_cases zn : a < 0
    · rw [if_pos zn]
    · rw [if_neg zn, if_neg]
      intro q
      have := Int32.le_trans (z2.resolve_left zn) q
      exact absurd this (by decide)
theorem o_node (h : RT ck cp cv cs cn cw cc mk mp mv ms mw mc 0 nt sz pn) (h1 : RT dk dp dv ds dn dw dc mk mp mv ms mw mc 1 nu sy py) (a x w : Int32) : ∃ r, f_TR_node ck cp cv cs cn cc dk dp dv ds dn dc a x w = some r ∧ f_Mo_node mk mp mv ms mc a x w = some r := by
  unfold f_TR_node
  rcases a01 a with rfl | rfl | ⟨z0, z1, z2⟩
  · obtain ⟨r, e1, e2⟩ := p_tell h x w
    exact ⟨r, by rw [treeOf0, jb_some, if_neg (by decide), if_neg (by decide), e1, jb_some], e2⟩
  · obtain ⟨r, e1, e2⟩ := p_tell h1 x w
    exact ⟨r, by rw [treeOf1, jb_some, if_neg (by decide), if_pos rfl, e1, jb_some], e2⟩
  · refine ⟨-1, by rw [treeOfN z0 z1, jb_some, if_pos rfl], ?_⟩
    unfold f_Mo_node; rw [p_Mohas_no z2, jb_some, if_pos rfl]
theorem o_part (h : RT ck cp cv cs cn cw cc mk mp mv ms mw mc 0 nt sz pn) (h1 : RT dk dp dv ds dn dw dc mk mp mv ms mw mc 1 nu sy py) (a x w : Int32) : ∃ r, f_TR_part cs cn cc ds dn dc a x w = some r ∧ f_Mo_part ms mc a x w = some r := by
  unfold f_TR_part
  rcases a01 a with rfl | rfl | ⟨z0, z1, z2⟩
  · obtain ⟨r, e1, e2⟩ := p_partEq h x w
    exact ⟨r, by rw [treeOf0, jb_some, if_neg (by decide), if_neg (by decide), e1, jb_some], e2⟩
  · obtain ⟨r, e1, e2⟩ := p_partEq h1 x w
    exact ⟨r, by rw [treeOf1, jb_some, if_neg (by decide), if_pos rfl, e1, jb_some], e2⟩
  · refine ⟨-1, by rw [treeOfN z0 z1, jb_some, if_pos rfl], ?_⟩
    unfold f_Mo_part; rw [p_Mohas_no z2, jb_some, if_pos rfl]
theorem o_whole (h : RT ck cp cv cs cn cw cc mk mp mv ms mw mc 0 nt sz pn) (h1 : RT dk dp dv ds dn dw dc mk mp mv ms mw mc 1 nu sy py) (a x : Int32) : ∃ r, f_TR_whole cw cc dw dc a x = some r ∧ f_Mo_whole mw mc a x = some r := by
  unfold f_TR_whole
  rcases a01 a with rfl | rfl | ⟨z0, z1, z2⟩
  · obtain ⟨r, e1, e2⟩ := p_wholeOf h x
    exact ⟨r, by rw [treeOf0, jb_some, if_neg (by decide), if_neg (by decide), e1, jb_some], e2⟩
  · obtain ⟨r, e1, e2⟩ := p_wholeOf h1 x
    exact ⟨r, by rw [treeOf1, jb_some, if_neg (by decide), if_pos rfl, e1, jb_some], e2⟩
  · refine ⟨-1, by rw [treeOfN z0 z1, jb_some, if_pos rfl], ?_⟩
    unfold f_Mo_whole; rw [p_Mohas_no z2, jb_some, if_pos rfl]
end TO
