theorem js_vkR {args : Array Value} {s : State} {own tx : String} {k a : Nat} (h1 : (Cond.stringRef own k tx).before args s = true) (h2 : (Term.string own k).eval args s none [] s = some (.ref a)) : vk_R own k tx a s := vk_R.of h1 h2
theorem js_r1 : ∀ k, k < 23 → Cond.laysStatic R_Ru (jrowM.getD k "") "[I" ∈ lw_tbl := by decide +kernel
theorem js_r2 : ∀ k, k < 23 → Cond.arrayOf (.static R_Ru (jrowM.getD k "") "[I") .int ∈ flatC (Jvm.Cond.and given_1 narrow_1) := by decide +kernel
theorem js_r3 : ∀ k, k < 23 → Cond.eq (.length (.static R_Ru (jrowM.getD k "") "[I")) (.int (Int32.ofNat (jrowN k))) ∈ flatC (Jvm.Cond.and given_1 narrow_1) := by decide +kernel
theorem js_r4 : ∀ k, k < 23 → ∀ j, j < jrowN k → Cond.eq (.elem (.static R_Ru (jrowM.getD k "") "[I") (.int (Int32.ofNat j))) (.int (jrow k j)) ∈ flatC (Jvm.Cond.and given_1 narrow_1) := by decide +kernel
theorem js_r5 : ∀ k, k < 23 → jrowN k < 2 ^ 31 := by decide +kernel
theorem js_s1 : ∀ k, k < 49 → Cond.stringRef (jstrO.getD k "") (jstrX.getD k 0) (jstrT.getD k "") ∈ lw_tbl := by decide +kernel
theorem js_s2 : ∀ k, k < 49 → Cond.exactly (.string (jstrO.getD k "") (jstrX.getD k 0)) "java/lang/String" ∈ flatC (Jvm.Cond.and given_1 narrow_1) := by decide +kernel
theorem js_s3 : ∀ k, k < 49 → Cond.eq (.field (.string (jstrO.getD k "") (jstrX.getD k 0)) "java/lang/String" "coder" "B") (.int 0) ∈ flatC (Jvm.Cond.and given_1 narrow_1) := by decide +kernel
theorem js_s4 : ∀ k, k < 49 → Cond.arrayOf (.field (.string (jstrO.getD k "") (jstrX.getD k 0)) "java/lang/String" "value" "[B") .byte ∈ flatC (Jvm.Cond.and given_1 narrow_1) := by decide +kernel
theorem js_s5 : ∀ k, k < 49 → Cond.eq (.length (.field (.string (jstrO.getD k "") (jstrX.getD k 0)) "java/lang/String" "value" "[B")) (.int (Int32.ofNat (jstrN k))) ∈ flatC (Jvm.Cond.and given_1 narrow_1) := by decide +kernel
theorem js_s6 : ∀ k, k < 49 → ∀ j, j < jstrN k → Cond.eq (.elem (.field (.string (jstrO.getD k "") (jstrX.getD k 0)) "java/lang/String" "value" "[B") (.int (Int32.ofNat j))) (.int (jstr k j)) ∈ flatC (Jvm.Cond.and given_1 narrow_1) := by decide +kernel
theorem js_s7 : ∀ k, k < 49 → jstrN k < 2 ^ 31 := by decide +kernel
theorem js_c1 : Cond.eq (.static R_Js "COMPACT_STRINGS" "Z") (.int 1) ∈ flatC (Jvm.Cond.and given_1 narrow_1) := by decide +kernel
theorem js_c2 : Cond.laysStatic R_Js "COMPACT_STRINGS" "Z" ∈ lw_tbl := by decide +kernel
theorem js_c3 : Cond.isRef (.static "jdk/internal/util/Preconditions" "SIOOBE_FORMATTER" "Ljava/util/function/BiFunction;") ∈ flatC (Jvm.Cond.and given_1 narrow_1) := by decide +kernel
theorem js_c4 : Cond.laysStatic "jdk/internal/util/Preconditions" "SIOOBE_FORMATTER" "Ljava/util/function/BiFunction;" ∈ lw_tbl := by decide +kernel
theorem js_c5 : Cond.initialized "jdk/internal/util/Preconditions" ∈ lw_tbl := by decide +kernel
theorem js_c6 : Cond.initialized R_Js ∈ lw_tbl := by decide +kernel
theorem js_c7 : Cond.initialized R_Ru ∈ lw_tbl := by decide +kernel
theorem js_c8 : Cond.arrayOver (.object "java/lang/String") ∈ lw_tbl := by decide +kernel
theorem js_c9 : Cond.arrayClass .int ∈ lw_tbl := by decide +kernel
theorem js_c10 : Cond.arrayClass .byte ∈ lw_tbl := by decide +kernel
theorem js_iBy : Cond.instantiable R_By 3 ∈ lw_tbl := by decide +kernel
theorem js_iGr : Cond.instantiable R_Gr 7 ∈ lw_tbl := by decide +kernel
theorem js_iNa : Cond.instantiable R_Na 5 ∈ lw_tbl := by decide +kernel
theorem js_iPa : Cond.instantiable R_Pa 8 ∈ lw_tbl := by decide +kernel
theorem js_iTk : Cond.instantiable R_Tk 5 ∈ lw_tbl := by decide +kernel
theorem js_iTr : Cond.instantiable R_Tr 7 ∈ lw_tbl := by decide +kernel
theorem js_iWr : Cond.instantiable R_Wr 2 ∈ lw_tbl := by decide +kernel
theorem js_iTR : Cond.instantiable R_TR 7 ∈ lw_tbl := by decide +kernel
theorem js_iMo : Cond.instantiable R_Mo 32 ∈ lw_tbl := by decide +kernel
theorem js_rows {args : Array Value} {s : State} (hts : ∀ w ∈ lw_tbl, w.before args s = true) (hs : ∀ c ∈ flatC (Jvm.Cond.and given_1 narrow_1), c.before args s = true) {A : Nat → Prop} (hAn : ∀ a : Nat, a < s.heap.size → ¬ A a) : ∃ adR : Nat → Nat, jRa adR A s s.heap := by
  have h0 : ∀ k : Nat, ∃ t : Nat, k < 23 → va_Z R_Ru (jrowM.getD k "") "[I" (.ref t) A s s.heap ∧ va_T .int t (jrowN k) (fun j => .int (jrow k j)) A s s.heap := by
    intro k
    by_cases hk : k < 23
    · obtain ⟨t, ht, hT⟩ := va_Tof (tm := .static R_Ru (jrowM.getD k "") "[I") (f := fun j => .int (jrow k j)) (A := A) (js_r5 k hk) (hs _ (js_r2 k hk)) (va_eqt (hs _ (js_r3 k hk))) (fun j hj => va_eqt (hs _ (js_r4 k hk j hj))) hAn
      exact ⟨t, fun _ => ⟨va_Zof (hts _ (js_r1 k hk)) (hts _ js_c7) ht hAn, hT⟩⟩
    · exact ⟨0, fun h => absurd h hk⟩
  obtain ⟨ad, had⟩ := Classical.axiomOfChoice h0
  exact ⟨ad, fun k hk => had k hk⟩
theorem js_strs {args : Array Value} {s : State} (hts : ∀ w ∈ lw_tbl, w.before args s = true) (hs : ∀ c ∈ flatC (Jvm.Cond.and given_1 narrow_1), c.before args s = true) {A : Nat → Prop} (hAn : ∀ a : Nat, a < s.heap.size → ¬ A a) : ∃ adK adV : Nat → Nat, jSa adK adV A s s.heap ∧ jTa adK s := by
  have h0 : ∀ i : Nat, ∃ q : Nat × Nat, i < 49 → (va_O "java/lang/String" q.1 A s s.heap ∧ va_OF "java/lang/String" "coder" "B" (.int 0) q.1 A s s.heap ∧ va_OF "java/lang/String" "value" "[B" (.ref q.2) q.1 A s s.heap ∧ va_T .byte q.2 (jstrN i) (fun j => .int (jstr i j)) A s s.heap) ∧ vk_R (jstrO.getD i "") (jstrX.getD i 0) (jstrT.getD i "") q.1 s := by
    intro i
    by_cases hi : i < 49
    · obtain ⟨a, c, cA, kA, q1, q2, q3, q4, q5, q6, -⟩ := Cond.exactly_spec (args := args) (first := s) (o := none) (s := s) (idx := []) (t := .string (jstrO.getD i "") (jstrX.getD i 0)) (cls := "java/lang/String") (hs _ (js_s2 i hi))
      obtain ⟨t, ht, hT⟩ := va_Tof (f := fun j => .int (jstr i j)) (A := A) (js_s7 i hi) (hs _ (js_s4 i hi)) (va_eqt (hs _ (js_s5 i hi))) (fun j hj => va_eqt (hs _ (js_s6 i hi j hj))) hAn
      exact ⟨(a, t), fun _ => ⟨⟨⟨cA, q3, q5, by rw [q6]; exact q2, hAn a (Array.getElem?_eq_some_iff.mp q3).1⟩, vk_OFof q1 (va_eqt (hs _ (js_s3 i hi))) hAn, vk_OFof q1 ht hAn, hT⟩, js_vkR (hts _ (js_s1 i hi)) q1⟩⟩
    · exact ⟨(0, 0), fun h => absurd h hi⟩
  obtain ⟨ad, had⟩ := Classical.axiomOfChoice h0
  exact ⟨fun i => (ad i).1, fun i => (ad i).2, fun i hi => (had i hi).1, fun i hi => (had i hi).2⟩
theorem js_K {args : Array Value} {s : State} (hts : ∀ w ∈ lw_tbl, w.before args s = true) (hs : ∀ c ∈ flatC (Jvm.Cond.and given_1 narrow_1), c.before args s = true) {A : Nat → Prop} (hAn : ∀ a : Nat, a < s.heap.size → ¬ A a) : ∃ (dC : Nat → ClassId) (dI : Nat → Nat → Nat) (cI cB cS : ClassId) (adK adV adR : Nat → Nat), jK dC dI cI cB cS adK adV adR A s s.heap := by
  obtain ⟨c0, i0, k0⟩ := u_known (C := R_By) (T := T_By) (N := 3) (n := 3) hts (fun w h => gw_tbl w (in_By w h)) (hts _ js_iBy)
  obtain ⟨c1, i1, k1⟩ := u_known (C := R_Gr) (T := T_Gr) (N := 7) (n := 7) hts (fun w h => gw_tbl w (in_Gr w h)) (hts _ js_iGr)
  obtain ⟨c2, i2, k2⟩ := u_known (C := R_Na) (T := T_Na) (N := 5) (n := 5) hts (fun w h => gw_tbl w (in_Na w h)) (hts _ js_iNa)
  obtain ⟨c3, i3, k3⟩ := u_known (C := R_Pa) (T := T_Pa) (N := 8) (n := 8) hts (fun w h => gw_tbl w (in_Pa w h)) (hts _ js_iPa)
  obtain ⟨c4, i4, k4⟩ := u_known (C := R_Tk) (T := T_Tk) (N := 5) (n := 5) hts (fun w h => gw_tbl w (in_Tk w h)) (hts _ js_iTk)
  obtain ⟨c5, i5, k5⟩ := u_known (C := R_Tr) (T := T_Tr) (N := 7) (n := 7) hts (fun w h => gw_tbl w (in_Tr w h)) (hts _ js_iTr)
  obtain ⟨c6, i6, k6⟩ := u_known (C := R_Wr) (T := T_Wr) (N := 2) (n := 2) hts (fun w h => gw_tbl w (in_Wr w h)) (hts _ js_iWr)
  obtain ⟨c7, i7, k7⟩ := u_known (C := R_TR) (T := T_TR) (N := 7) (n := 7) hts (fun w h => gw_tbl w (in_TR w h)) (hts _ js_iTR)
  obtain ⟨c8, i8, k8⟩ := u_known (C := R_Mo) (T := T_Mo) (N := 32) (n := 32) hts (fun w h => gw_tbl w (in_Mo w h)) (hts _ js_iMo)
  obtain ⟨dC, dI, hKc⟩ : ∃ (dC : Nat → ClassId) (dI : Nat → Nat → Nat), ∀ (k : Nat) (q : vw_C), vwCl[k]? = some q → u_Kn s q.1 q.2.1 q.2.2 (dC k) (dI k) := by
    refine ⟨fun k => if k = 0 then c0 else if k = 1 then c1 else if k = 2 then c2 else if k = 3 then c3 else if k = 4 then c4 else if k = 5 then c5 else if k = 6 then c6 else if k = 7 then c7 else c8, fun k => if k = 0 then i0 else if k = 1 then i1 else if k = 2 then i2 else if k = 3 then i3 else if k = 4 then i4 else if k = 5 then i5 else if k = 6 then i6 else if k = 7 then i7 else i8, ?_⟩
    intro k q hq
    match k, hq with
    | 0, hq => cases hq; exact k0
    | 1, hq => cases hq; exact k1
    | 2, hq => cases hq; exact k2
    | 3, hq => cases hq; exact k3
    | 4, hq => cases hq; exact k4
    | 5, hq => cases hq; exact k5
    | 6, hq => cases hq; exact k6
    | 7, hq => cases hq; exact k7
    | 8, hq => cases hq; exact k8
    | k + 9, hq => simp [vwCl] at hq
  obtain ⟨cI, kI, pI, hI, hkI, hdI⟩ := Cond.arrayClass_spec (hts _ js_c9)
  obtain ⟨cB, kB, pB, hB, hkB, hdB⟩ := Cond.arrayClass_spec (hts _ js_c10)
  obtain ⟨pS, cS, kS, hpS, -, hkS, hdS, hS⟩ := Cond.arrayOver_spec (hts _ js_c8)
  obtain ⟨adR, hR⟩ := js_rows hts hs hAn
  obtain ⟨adK, adV, hSa, hTa⟩ := js_strs hts hs hAn
  refine ⟨dC, dI, cI, cB, cS, adK, adV, adR, ⟨hKc, ?_⟩, hR, hSa, hTa, va_Zof (hts _ js_c2) (hts _ js_c6) (va_eqi (hs _ js_c1)) hAn, va_Zqof (hts _ js_c4) (hts _ js_c5) (hs _ js_c3) hAn, va_AO.of (hts _ js_c8)⟩
  intro k q hq
  match k, hq with
  | 0, hq => cases hq; exact ⟨fun n z => ⟨fun k h => (by cases h), kI, hkI, pI, hdI⟩, hI⟩
  | 1, hq => cases hq; exact ⟨fun n z => ⟨fun k h => (by cases h), kB, hkB, pB, hdB⟩, hB⟩
  | 2, hq => cases hq; exact ⟨fun n z => ⟨fun k h => (by cases h), kS, hkS, pS, hdS⟩, kS, pS, hkS, hdS, hpS, hS⟩
  | k + 3, hq => simp at hq
/-- THE LAW, from its entry: given that the pure picture of its run answers 1 -/
theorem whole_of {p : Program} {e : Env} {s : State} {m : MethodId} {below : List Frame} {meth : Method} {c : Code} (l : Launch) {b L : Nat} {xs : Nat → Int32} (hf : f_La_law L xs = some 1) (C0 : lw_At p s m meth c b L xs) : W p l e room_1 s m #[Value.ref b] below meth c s.heap [] 0 0 (lw_Z below #[Value.ref b] s) (entryFrame m ([Value.ref b] : List Value).toArray 4) := by
  obtain ⟨hx, hb, hr, hml, hown, hts, hX, hbl, hlocks, hgv⟩ := C0
  have hs := flat_of_before _ hgv
  obtain ⟨dC, dI, cI, cB, cS, adK, adV, adR, hJ⟩ := js_K hts hs (A := fun q : Nat => s.heap.size ≤ q) (fun a h => Nat.not_le.mpr h)
  have hl := lv_entry ([.ref b]) (n := 4) (Nat.le_of_ble_eq_true rfl)
  rw [lg_entry_eq]
  generalize (lg_sl ([.ref b]) ++ List.replicate (4 - (lg_sl ([.ref b])).length) Slot.unset).toArray = ls at hl ⊢
  have hl : lv_has ls 4 [(0, .ref b)] := hl
  have hts1 : ∀ w ∈ (Cond.initialized R_TR :: gw), w.before #[Value.ref b] s = true := by
    intro w hw
    rcases List.mem_cons.mp hw with rfl | hw
    · exact hts _ (by decide +kernel)
    · exact hts _ (gw_tbl w hw)
  have hP : va_P (dC, dI) vwCl [] s.heap := fun k q h => by simp at h
  have hD : va_D (fun q : Nat => s.heap.size ≤ q) [] := ⟨fun i j p q h => by simp at h, fun k q h => by simp at h⟩
  exact c_La_start hx hb hr hml hown hts1 hX hbl hlocks hJ (fun _ h => h) (fun _ h => h) (Nat.not_le.mpr hbl) rfl hf s.heap [] ls hP hD va_S.rf hl
