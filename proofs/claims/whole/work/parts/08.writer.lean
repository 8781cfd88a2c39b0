theorem d_Wr_init_0 : decode b_Wr_init 0 = .ok (.aload_n 0, 1) := by decide +kernel
theorem d_Wr_init_1 : decode b_Wr_init 1 = .ok (.invokespecial 3, 3) := by decide +kernel
theorem d_Wr_init_4 : decode b_Wr_init 4 = .ok (.aload_n 0, 1) := by decide +kernel
theorem d_Wr_init_5 : decode b_Wr_init 5 = .ok (.new 9, 3) := by decide +kernel
theorem d_Wr_init_8 : decode b_Wr_init 8 = .ok (.dup, 1) := by decide +kernel
theorem d_Wr_init_9 : decode b_Wr_init 9 = .ok (.invokespecial 11, 3) := by decide +kernel
theorem d_Wr_init_12 : decode b_Wr_init 12 = .ok (.putfield 12, 3) := by decide +kernel
theorem d_Wr_init_15 : decode b_Wr_init 15 = .ok (.aload_n 0, 1) := by decide +kernel
theorem d_Wr_init_16 : decode b_Wr_init 16 = .ok (.new 9, 3) := by decide +kernel
theorem d_Wr_init_19 : decode b_Wr_init 19 = .ok (.dup, 1) := by decide +kernel
theorem d_Wr_init_20 : decode b_Wr_init 20 = .ok (.invokespecial 11, 3) := by decide +kernel
theorem d_Wr_init_23 : decode b_Wr_init 23 = .ok (.putfield 18, 3) := by decide +kernel
theorem d_Wr_init_26 : decode b_Wr_init 26 = .ok (.return_, 1) := by decide +kernel
set_option maxHeartbeats 4000000 in
set_option maxRecDepth 100000 in
theorem c_Wr_init {l : Launch} {dC : Nat → ClassId} {dI : Nat → Nat → Nat} {cI cB cS : ClassId} {adK adV adR : Nat → Nat} (h_t : Nat) : jMet l dC dI cI cB cS adK adV adR y_Wr_init wd_Wr_init { frames := 2, cells := 4, slots := 16006, locals := 32 } [.ref h_t] [(h_t, .inr (6, [.null, .null]))] (none) (fun q => [(h_t, .inr (6, [.ref (q 0), .ref (q 2)])), ((q 0), .inr (0, [.ref (q 1), .int (0 : Int32), .int (0 : Int32)])), ((q 1), .inl (cB, 8000, .inl (fun _ => 0))), ((q 2), .inr (0, [.ref (q 3), .int (0 : Int32), .int (0 : Int32)])), ((q 3), .inl (cB, 8000, .inl (fun _ => 0)))]) 4 16006 := by
  refine jEntry (cc := b_Wr_init) (maxL := 1) (ret := none) (by decide) rfl (Nat.le_of_ble_eq_true rfl) rfl (fun p e s m args below meth c A H locs ls Q hQ hx hb hr hml hown hts hlocks hnm hJ hA hP hD hS hl => ?_)
  have hK := hJ.K
  have hl : lv_has ls 1 [(0, .ref h_t)] := hl
  subst hQ
  refine lv_aload_n hx hb d_Wr_init_0 rfl (lv_at hl 0 rfl) ?_
  refine W.objInit hx hb hown (hts _ (List.mem_cons_of_mem _ jw341)) (hts _ (List.mem_cons_of_mem _ jw25)) (hts _ (List.mem_cons_of_mem _ jw26)) rfl (by rw [hml]; exact hl.1) rfl d_Wr_init_1 (Nat.le_of_ble_eq_true rfl) (Nat.le_of_ble_eq_true rfl) ?_
  refine W.eq (g2 := F0 m 4 ls []) rfl ?_
  refine lv_aload_n hx hb d_Wr_init_4 rfl (lv_at hl 0 rfl) ?_
  refine va_new (ci := 0) (fs := [.null, .int 0, .int 0]) (C := R_By) (T := T_By) (N := 3) hx hb hts (fun w h => List.mem_cons_of_mem _ (in_By w h)) ty_By tyok_By hown (hts _ (List.mem_cons_of_mem _ jw342)) (hts _ (List.mem_cons_of_mem _ jw343)) (hts _ (List.mem_cons_of_mem _ jw33)) hK hP hD hS hA rfl (fun j hj => by rcases (show j = 0 ∨ j = 1 ∨ j = 2 by omega) with rfl | rfl | rfl <;> rfl) (Nat.le_of_ble_eq_true rfl) (Nat.le_of_ble_eq_true rfl) d_Wr_init_5 (fun q5 H hP hD hS => ?_)
  have hP : va_P (dC, dI) vwCl [(h_t, .inr (6, [.null, .null])), (q5, .inr (0, [.null, .int 0, .int 0]))] H := hP
  have hD : va_D A [(h_t, .inr (6, [.null, .null])), (q5, .inr (0, [.null, .int 0, .int 0]))] := hD
  refine W.widen (k := 1) (n := 3) (by decide) (by decide) ?_
  refine lv_dup hx hb d_Wr_init_8 rfl ?_
  refine jCallI (As := []) (rest := [.ref q5, .ref h_t]) (wr := [(h_t, .inr (6, [.null, .null]))]) ⟨hx, hb, hml, hown, hts⟩ hJ (c_By_init q5 ) (cwI 0 hts (jgC jw345) rfl rfl rfl (hts _ (List.mem_cons_of_mem _ jw33)) (hts _ (List.mem_cons_of_mem _ jw344)) (hts _ (List.mem_cons_of_mem _ jw346)) rfl dd_By_init.2 ⟨Nat.le_of_ble_eq_true rfl, Nat.le_of_ble_eq_true rfl⟩) hP hD hS hA [1] [0] rfl rfl (by decide) (by decide) (by decide) rfl hl.1 rfl (Nat.le_of_ble_eq_true rfl) d_Wr_init_9 ⟨Nat.le_of_ble_eq_true rfl, Nat.le_of_ble_eq_true rfl⟩ (fun qz1 H locs hP hD hS => ?_)
  have hP : va_P (dC, dI) vwCl [(h_t, .inr (6, [.null, .null])), (q5, .inr (0, [.ref (qz1 0), .int (0 : Int32), .int (0 : Int32)])), ((qz1 0), .inl (cB, 8000, .inl (fun _ => 0)))] H := hP
  have hD : va_D A [(h_t, .inr (6, [.null, .null])), (q5, .inr (0, [.ref (qz1 0), .int (0 : Int32), .int (0 : Int32)])), ((qz1 0), .inl (cB, 8000, .inl (fun _ => 0)))] := hD
  refine W.widen (k := 2) (n := 8003) (by decide) (by decide) ?_
  refine va_put (D := (dC, dI)) (ci := 6) (v := .ref q5) (ty := (.object "TermReader$Bytes")) (C := R_Wr) (T := T_Wr) (N := 2) hx hb hts (fun w h => List.mem_cons_of_mem _ (in_Wr w h)) ty_Wr tyok_Wr nm_Wr hown hK hP hD hS 0 rfl rfl 0 (by decide) (hts _ (List.mem_cons_of_mem _ jw347)) (fun _ h9 => h9) rfl (by decide +kernel) rfl rfl (Nat.le_of_ble_eq_true rfl) d_Wr_init_12 (fun H locs hP hD hS => ?_)
  have hP : va_P (dC, dI) vwCl [(h_t, .inr (6, [.ref q5, .null])), (q5, .inr (0, [.ref (qz1 0), .int (0 : Int32), .int (0 : Int32)])), ((qz1 0), .inl (cB, 8000, .inl (fun _ => 0)))] H := hP
  have hD : va_D A [(h_t, .inr (6, [.ref q5, .null])), (q5, .inr (0, [.ref (qz1 0), .int (0 : Int32), .int (0 : Int32)])), ((qz1 0), .inl (cB, 8000, .inl (fun _ => 0)))] := hD
  refine lv_aload_n hx hb d_Wr_init_15 rfl (lv_at hl 0 rfl) ?_
  refine va_new (ci := 0) (fs := [.null, .int 0, .int 0]) (C := R_By) (T := T_By) (N := 3) hx hb hts (fun w h => List.mem_cons_of_mem _ (in_By w h)) ty_By tyok_By hown (hts _ (List.mem_cons_of_mem _ jw342)) (hts _ (List.mem_cons_of_mem _ jw343)) (hts _ (List.mem_cons_of_mem _ jw33)) hK hP hD hS hA rfl (fun j hj => by rcases (show j = 0 ∨ j = 1 ∨ j = 2 by omega) with rfl | rfl | rfl <;> rfl) (Nat.le_of_ble_eq_true rfl) (Nat.le_of_ble_eq_true rfl) d_Wr_init_16 (fun q16 H hP hD hS => ?_)
  have hP : va_P (dC, dI) vwCl [(h_t, .inr (6, [.ref q5, .null])), (q5, .inr (0, [.ref (qz1 0), .int (0 : Int32), .int (0 : Int32)])), ((qz1 0), .inl (cB, 8000, .inl (fun _ => 0))), (q16, .inr (0, [.null, .int 0, .int 0]))] H := hP
  have hD : va_D A [(h_t, .inr (6, [.ref q5, .null])), (q5, .inr (0, [.ref (qz1 0), .int (0 : Int32), .int (0 : Int32)])), ((qz1 0), .inl (cB, 8000, .inl (fun _ => 0))), (q16, .inr (0, [.null, .int 0, .int 0]))] := hD
  refine W.widen (k := 3) (n := 8006) (by decide) (by decide) ?_
  refine lv_dup hx hb d_Wr_init_19 rfl ?_
  refine jCallI (As := []) (rest := [.ref q16, .ref h_t]) (wr := [(h_t, .inr (6, [.ref q5, .null])), (q5, .inr (0, [.ref (qz1 0), .int (0 : Int32), .int (0 : Int32)])), ((qz1 0), .inl (cB, 8000, .inl (fun _ => 0)))]) ⟨hx, hb, hml, hown, hts⟩ hJ (c_By_init q16 ) (cwI 0 hts (jgC jw345) rfl rfl rfl (hts _ (List.mem_cons_of_mem _ jw33)) (hts _ (List.mem_cons_of_mem _ jw344)) (hts _ (List.mem_cons_of_mem _ jw346)) rfl dd_By_init.2 ⟨Nat.le_of_ble_eq_true rfl, Nat.le_of_ble_eq_true rfl⟩) hP hD hS hA [3] [0, 1, 2] rfl rfl (by decide) (by decide) (by decide) rfl hl.1 rfl (Nat.le_of_ble_eq_true rfl) d_Wr_init_20 ⟨Nat.le_of_ble_eq_true rfl, Nat.le_of_ble_eq_true rfl⟩ (fun qz2 H locs hP hD hS => ?_)
  have hP : va_P (dC, dI) vwCl [(h_t, .inr (6, [.ref q5, .null])), (q5, .inr (0, [.ref (qz1 0), .int (0 : Int32), .int (0 : Int32)])), ((qz1 0), .inl (cB, 8000, .inl (fun _ => 0))), (q16, .inr (0, [.ref (qz2 0), .int (0 : Int32), .int (0 : Int32)])), ((qz2 0), .inl (cB, 8000, .inl (fun _ => 0)))] H := hP
  have hD : va_D A [(h_t, .inr (6, [.ref q5, .null])), (q5, .inr (0, [.ref (qz1 0), .int (0 : Int32), .int (0 : Int32)])), ((qz1 0), .inl (cB, 8000, .inl (fun _ => 0))), (q16, .inr (0, [.ref (qz2 0), .int (0 : Int32), .int (0 : Int32)])), ((qz2 0), .inl (cB, 8000, .inl (fun _ => 0)))] := hD
  refine W.widen (k := 4) (n := 16006) (by decide) (by decide) ?_
  refine va_put (D := (dC, dI)) (ci := 6) (v := .ref q16) (ty := (.object "TermReader$Bytes")) (C := R_Wr) (T := T_Wr) (N := 2) hx hb hts (fun w h => List.mem_cons_of_mem _ (in_Wr w h)) ty_Wr tyok_Wr nm_Wr hown hK hP hD hS 0 rfl rfl 1 (by decide) (hts _ (List.mem_cons_of_mem _ jw348)) (fun _ h9 => h9) rfl (by decide +kernel) rfl rfl (Nat.le_of_ble_eq_true rfl) d_Wr_init_23 (fun H locs hP hD hS => ?_)
  have hP : va_P (dC, dI) vwCl [(h_t, .inr (6, [.ref q5, .ref q16])), (q5, .inr (0, [.ref (qz1 0), .int (0 : Int32), .int (0 : Int32)])), ((qz1 0), .inl (cB, 8000, .inl (fun _ => 0))), (q16, .inr (0, [.ref (qz2 0), .int (0 : Int32), .int (0 : Int32)])), ((qz2 0), .inl (cB, 8000, .inl (fun _ => 0)))] H := hP
  have hD : va_D A [(h_t, .inr (6, [.ref q5, .ref q16])), (q5, .inr (0, [.ref (qz1 0), .int (0 : Int32), .int (0 : Int32)])), ((qz1 0), .inl (cB, 8000, .inl (fun _ => 0))), (q16, .inr (0, [.ref (qz2 0), .int (0 : Int32), .int (0 : Int32)])), ((qz2 0), .inl (cB, 8000, .inl (fun _ => 0)))] := hD
  refine W.widen (k := 4) (n := 16006) (by decide) (by decide) ?_
  exact jVret hx hb hr hlocks d_Wr_init_26 (fun n => [q5, (qz1 0), q16, (qz2 0)].getD n 0) hS hP hD
theorem d_Wr_putText_0 : decode b_Wr_putText 0 = .ok (.iconst 0, 1) := by decide +kernel
theorem d_Wr_putText_1 : decode b_Wr_putText 1 = .ok (.istore_n 2, 1) := by decide +kernel
theorem d_Wr_putText_2 : decode b_Wr_putText 2 = .ok (.iload_n 2, 1) := by decide +kernel
theorem d_Wr_putText_3 : decode b_Wr_putText 3 = .ok (.aload_n 1, 1) := by decide +kernel
theorem d_Wr_putText_4 : decode b_Wr_putText 4 = .ok (.invokevirtual 131, 3) := by decide +kernel
theorem d_Wr_putText_7 : decode b_Wr_putText 7 = .ok (.if_icmp .ge 21, 3) := by decide +kernel
theorem d_Wr_putText_10 : decode b_Wr_putText 10 = .ok (.aload_n 0, 1) := by decide +kernel
theorem d_Wr_putText_11 : decode b_Wr_putText 11 = .ok (.getfield 18, 3) := by decide +kernel
theorem d_Wr_putText_14 : decode b_Wr_putText 14 = .ok (.aload_n 1, 1) := by decide +kernel
theorem d_Wr_putText_15 : decode b_Wr_putText 15 = .ok (.iload_n 2, 1) := by decide +kernel
theorem d_Wr_putText_16 : decode b_Wr_putText 16 = .ok (.invokevirtual 136, 3) := by decide +kernel
theorem d_Wr_putText_19 : decode b_Wr_putText 19 = .ok (.invokevirtual 93, 3) := by decide +kernel
theorem d_Wr_putText_22 : decode b_Wr_putText 22 = .ok (.iinc 2 1, 3) := by decide +kernel
theorem d_Wr_putText_25 : decode b_Wr_putText 25 = .ok (.goto (-23), 3) := by decide +kernel
theorem d_Wr_putText_28 : decode b_Wr_putText 28 = .ok (.return_, 1) := by decide +kernel
noncomputable def Wr_putText_b2_s  (l1 : Nat) (t_draft_row : (Nat → Int32)) (t_draft_length : Int32) (t_draft_overrun : Int32) (l2 : Int32) : Option (((Nat → Int32) × Int32 × Int32 × Int32) ⊕ ((Nat → Int32) × Int32 × Int32)) := if 49 ≤ l1 then none else (jb (f_Js_length l1) (fun o10 => if o10 ≤ l2 then (some (.inr (t_draft_row, t_draft_length, t_draft_overrun))) else (if 49 ≤ l1 then none else (jb (f_Js_charAt l1 l2) (fun o13 => jb (f_By_put t_draft_row t_draft_length t_draft_overrun o13) (fun o15 => some (.inl (o15.1, o15.2.1, o15.2.2, (l2 + (1 : Int32))))))))))
noncomputable def Wr_putText_b2_b  (l1 : Nat) : ((Nat → Int32) × Int32 × Int32 × Int32) → Option (((Nat → Int32) × Int32 × Int32 × Int32) ⊕ ((Nat → Int32) × Int32 × Int32)) := fun x => Wr_putText_b2_s  l1 x.1 x.2.1 x.2.2.1 x.2.2.2
noncomputable def Wr_putText_b2  (t_draft_row : (Nat → Int32)) (t_draft_length : Int32) (t_draft_overrun : Int32) (l1 : Nat) (l2 : Int32) : Option ((Nat → Int32) × Int32 × Int32) := jl (Wr_putText_b2_b  l1) (t_draft_row, t_draft_length, t_draft_overrun, l2)
noncomputable def f_Wr_putText  (t_draft_row : (Nat → Int32)) (t_draft_length : Int32) (t_draft_overrun : Int32) (k1 : Nat) : Option ((Nat → Int32) × Int32 × Int32) := Wr_putText_b2 t_draft_row t_draft_length t_draft_overrun k1 (0 : Int32)
set_option maxHeartbeats 4000000 in
set_option maxRecDepth 100000 in
theorem c_Wr_putText {l : Launch} {dC : Nat → ClassId} {dI : Nat → Nat → Nat} {cI cB cS : ClassId} {adK adV adR : Nat → Nat} (h_t h_t_shown h_t_shown_row h_t_draft h_t_draft_row : Nat) (t_shown_row : (Nat → Int32)) (t_shown_length : Int32) (t_shown_overrun : Int32) (t_draft_row : (Nat → Int32)) (t_draft_length : Int32) (t_draft_overrun : Int32) (k1 : Nat) {o : ((Nat → Int32) × Int32 × Int32)} (hf : f_Wr_putText t_draft_row t_draft_length t_draft_overrun k1 = some o) : jMet l dC dI cI cB cS adK adV adR y_Wr_putText wd_Wr_putText { frames := 4, cells := 0, slots := 0, locals := 85 } [.ref h_t, .ref (adK k1)] [(h_t, .inr (6, [.ref h_t_shown, .ref h_t_draft])), (h_t_shown, .inr (0, [.ref h_t_shown_row, .int t_shown_length, .int t_shown_overrun])), (h_t_shown_row, .inl (cB, 8000, .inl t_shown_row)), (h_t_draft, .inr (0, [.ref h_t_draft_row, .int t_draft_length, .int t_draft_overrun])), (h_t_draft_row, .inl (cB, 8000, .inl t_draft_row))] (none) (fun q => [(h_t, .inr (6, [.ref h_t_shown, .ref h_t_draft])), (h_t_shown, .inr (0, [.ref h_t_shown_row, .int t_shown_length, .int t_shown_overrun])), (h_t_shown_row, .inl (cB, 8000, .inl t_shown_row)), (h_t_draft, .inr (0, [.ref h_t_draft_row, .int o.2.1, .int o.2.2])), (h_t_draft_row, .inl (cB, 8000, .inl o.1))]) 0 0 := by
  refine jEntry (cc := b_Wr_putText) (maxL := 3) (ret := none) (by decide) rfl (Nat.le_of_ble_eq_true rfl) rfl (fun p e s m args below meth c A H locs ls Q hQ hx hb hr hml hown hts hlocks hnm hJ hA hP hD hS hl => ?_)
  have hK := hJ.K
  have hl : lv_has ls 3 [(0, .ref h_t), (1, .ref (adK k1))] := hl
  have L2 : ∀ (n2 : Nat) (t_draft_row : (Nat → Int32)) (t_draft_length : Int32) (t_draft_overrun : Int32) (l1 : Nat) (l2 : Int32) (H : Heap) (locs : List Loc) (ls : Array Slot), jl_n (Wr_putText_b2_b l1) n2 (t_draft_row, t_draft_length, t_draft_overrun, l2) = some o → va_P (dC, dI) vwCl [(h_t, .inr (6, [.ref h_t_shown, .ref h_t_draft])), (h_t_shown, .inr (0, [.ref h_t_shown_row, .int t_shown_length, .int t_shown_overrun])), (h_t_shown_row, .inl (cB, 8000, .inl t_shown_row)), (h_t_draft, .inr (0, [.ref h_t_draft_row, .int t_draft_length, .int t_draft_overrun])), (h_t_draft_row, .inl (cB, 8000, .inl t_draft_row))] H → va_D A [(h_t, .inr (6, [.ref h_t_shown, .ref h_t_draft])), (h_t_shown, .inr (0, [.ref h_t_shown_row, .int t_shown_length, .int t_shown_overrun])), (h_t_shown_row, .inl (cB, 8000, .inl t_shown_row)), (h_t_draft, .inr (0, [.ref h_t_draft_row, .int t_draft_length, .int t_draft_overrun])), (h_t_draft_row, .inl (cB, 8000, .inl t_draft_row))] → va_S A s.heap H locs → lv_has ls 3 [(0, .ref h_t), (1, .ref (adK l1)), (2, .int l2)] → W p l e { frames := 4, cells := 0, slots := 0, locals := 85 } s m args below meth c H locs 0 0 Q (F0 m 2 ls []) := by
    intro n2
    induction n2 with
    | zero => intro t_draft_row t_draft_length t_draft_overrun l1 l2 H locs ls hf; simp only [jl_n_zero, jl_b_none, reduceCtorEq] at hf
    | succ n2 ih2 =>
      intro t_draft_row t_draft_length t_draft_overrun l1 l2 H locs ls hf hP hD hS hl
      rw [jl_n_succ] at hf
      have hf : jl_b (jl_n (Wr_putText_b2_b l1) n2) (Wr_putText_b2_s l1 t_draft_row t_draft_length t_draft_overrun l2) = some o := hf
      unfold Wr_putText_b2_s at hf
      refine lv_iload_n hx hb d_Wr_putText_2 rfl (lv_at hl 2 rfl) ?_
      refine lv_aload_n hx hb d_Wr_putText_3 rfl (lv_at hl 1 rfl) ?_
      have b17 : ¬ (49 ≤ l1) := by intro z; rw [if_pos z] at hf; simp only [jb_none, jl_b_none, jm_none, reduceCtorEq] at hf
      rw [if_neg b17] at hf
      obtain ⟨o18, ho18⟩ : ∃ z, f_Js_length l1 = some z := by
        cases hz : f_Js_length l1 with
        | none => rw [hz] at hf; simp only [jb_none, jl_b_none, jm_none, reduceCtorEq] at hf
        | some z => exact ⟨z, rfl⟩
      rw [ho18, jb_some] at hf
      refine jCallV (As := []) (rest := [.int l2]) (wr := [(h_t, .inr (6, [.ref h_t_shown, .ref h_t_draft])), (h_t_shown, .inr (0, [.ref h_t_shown_row, .int t_shown_length, .int t_shown_overrun])), (h_t_shown_row, .inl (cB, 8000, .inl t_shown_row)), (h_t_draft, .inr (0, [.ref h_t_draft_row, .int t_draft_length, .int t_draft_overrun])), (h_t_draft_row, .inl (cB, 8000, .inl t_draft_row))]) ⟨hx, hb, hml, hown, hts⟩ hJ (c_Js_length l1 ho18) (cwV 0 hts (jgV jw349 jw87 jw88 jw5 jw86) rfl rfl rfl dd_Js_length ⟨Nat.le_of_ble_eq_true rfl, Nat.le_of_ble_eq_true rfl⟩) hP hD hS hA (jS_recv hJ (Nat.lt_of_not_le b17) hS) [] [0, 1, 2, 3, 4] rfl rfl (by decide) (by decide) (by decide) rfl hl.1 rfl (Nat.le_of_ble_eq_true rfl) d_Wr_putText_4 ⟨Nat.le_of_ble_eq_true rfl, Nat.le_of_ble_eq_true rfl⟩ (fun qz19 H locs hP hD hS => ?_)
      have hP : va_P (dC, dI) vwCl [(h_t, .inr (6, [.ref h_t_shown, .ref h_t_draft])), (h_t_shown, .inr (0, [.ref h_t_shown_row, .int t_shown_length, .int t_shown_overrun])), (h_t_shown_row, .inl (cB, 8000, .inl t_shown_row)), (h_t_draft, .inr (0, [.ref h_t_draft_row, .int t_draft_length, .int t_draft_overrun])), (h_t_draft_row, .inl (cB, 8000, .inl t_draft_row))] H := hP
      have hD : va_D A [(h_t, .inr (6, [.ref h_t_shown, .ref h_t_draft])), (h_t_shown, .inr (0, [.ref h_t_shown_row, .int t_shown_length, .int t_shown_overrun])), (h_t_shown_row, .inl (cB, 8000, .inl t_shown_row)), (h_t_draft, .inr (0, [.ref h_t_draft_row, .int t_draft_length, .int t_draft_overrun])), (h_t_draft_row, .inl (cB, 8000, .inl t_draft_row))] := hD
      refine lv_icmp_ge (tgt := 28) hx hb d_Wr_putText_7 (by decide) (fun c7 => ?_) (fun c7 => ?_)
      · rw [if_pos c7] at hf
        have hf : (some (t_draft_row, t_draft_length, t_draft_overrun) : Option ((Nat → Int32) × Int32 × Int32)) = some o := hf
        rw [hQ, ← Option.some.inj hf]
        exact jVret hx hb hr hlocks d_Wr_putText_28 (fun _ => 0) hS hP hD
      · rw [if_neg c7] at hf
        refine lv_aload_n hx hb d_Wr_putText_10 rfl (lv_at hl 0 rfl) ?_
        refine va_get (D := (dC, dI)) (ci := 6) (v := .ref h_t_draft) (C := R_Wr) (T := T_Wr) (N := 2) hx hb hts (fun w h => List.mem_cons_of_mem _ (in_Wr w h)) hown hK hP 0 rfl rfl 1 (by decide) (hts _ (List.mem_cons_of_mem _ jw348)) (fun _ h9 => h9) rfl d_Wr_putText_11 ?_
        refine lv_aload_n hx hb d_Wr_putText_14 rfl (lv_at hl 1 rfl) ?_
        refine lv_iload_n hx hb d_Wr_putText_15 rfl (lv_at hl 2 rfl) ?_
        have b20 : ¬ (49 ≤ l1) := by intro z; rw [if_pos z] at hf; simp only [jb_none, jl_b_none, jm_none, reduceCtorEq] at hf
        rw [if_neg b20] at hf
        obtain ⟨o21, ho21⟩ : ∃ z, f_Js_charAt l1 l2 = some z := by
          cases hz : f_Js_charAt l1 l2 with
          | none => rw [hz] at hf; simp only [jb_none, jl_b_none, jm_none, reduceCtorEq] at hf
          | some z => exact ⟨z, rfl⟩
        rw [ho21, jb_some] at hf
        refine jCallV (As := [.int l2]) (rest := [.ref h_t_draft]) (wr := [(h_t, .inr (6, [.ref h_t_shown, .ref h_t_draft])), (h_t_shown, .inr (0, [.ref h_t_shown_row, .int t_shown_length, .int t_shown_overrun])), (h_t_shown_row, .inl (cB, 8000, .inl t_shown_row)), (h_t_draft, .inr (0, [.ref h_t_draft_row, .int t_draft_length, .int t_draft_overrun])), (h_t_draft_row, .inl (cB, 8000, .inl t_draft_row))]) ⟨hx, hb, hml, hown, hts⟩ hJ (c_Js_charAt l1 l2 ho21) (cwV 1 hts (jgV jw350 jw91 jw92 jw5 jw90) rfl rfl rfl dd_Js_charAt ⟨Nat.le_of_ble_eq_true rfl, Nat.le_of_ble_eq_true rfl⟩) hP hD hS hA (jS_recv hJ (Nat.lt_of_not_le b20) hS) [] [0, 1, 2, 3, 4] rfl rfl (by decide) (by decide) (by decide) rfl hl.1 rfl (Nat.le_of_ble_eq_true rfl) d_Wr_putText_16 ⟨Nat.le_of_ble_eq_true rfl, Nat.le_of_ble_eq_true rfl⟩ (fun qz22 H locs hP hD hS => ?_)
        have hP : va_P (dC, dI) vwCl [(h_t, .inr (6, [.ref h_t_shown, .ref h_t_draft])), (h_t_shown, .inr (0, [.ref h_t_shown_row, .int t_shown_length, .int t_shown_overrun])), (h_t_shown_row, .inl (cB, 8000, .inl t_shown_row)), (h_t_draft, .inr (0, [.ref h_t_draft_row, .int t_draft_length, .int t_draft_overrun])), (h_t_draft_row, .inl (cB, 8000, .inl t_draft_row))] H := hP
        have hD : va_D A [(h_t, .inr (6, [.ref h_t_shown, .ref h_t_draft])), (h_t_shown, .inr (0, [.ref h_t_shown_row, .int t_shown_length, .int t_shown_overrun])), (h_t_shown_row, .inl (cB, 8000, .inl t_shown_row)), (h_t_draft, .inr (0, [.ref h_t_draft_row, .int t_draft_length, .int t_draft_overrun])), (h_t_draft_row, .inl (cB, 8000, .inl t_draft_row))] := hD
        obtain ⟨o23, ho23⟩ : ∃ z, f_By_put t_draft_row t_draft_length t_draft_overrun o21 = some z := by
          cases hz : f_By_put t_draft_row t_draft_length t_draft_overrun o21 with
          | none => rw [hz] at hf; simp only [jb_none, jl_b_none, jm_none, reduceCtorEq] at hf
          | some z => exact ⟨z, rfl⟩
        rw [ho23, jb_some] at hf
        refine jCallV (As := [.int o21]) (rest := []) (wr := [(h_t, .inr (6, [.ref h_t_shown, .ref h_t_draft])), (h_t_shown, .inr (0, [.ref h_t_shown_row, .int t_shown_length, .int t_shown_overrun])), (h_t_shown_row, .inl (cB, 8000, .inl t_shown_row))]) ⟨hx, hb, hml, hown, hts⟩ hJ (c_By_put h_t_draft h_t_draft_row t_draft_row t_draft_length t_draft_overrun o21 ho23) (cwV 1 hts (jgV jw351 jw34 jw35 jw33 jw32) rfl rfl rfl dd_By_put ⟨Nat.le_of_ble_eq_true rfl, Nat.le_of_ble_eq_true rfl⟩) hP hD hS hA (va_recv hK hP (ci := 0) (q0 := 3) rfl rfl) [3, 4] [0, 1, 2] rfl rfl (by decide) (by decide) (by decide) rfl hl.1 rfl (Nat.le_of_ble_eq_true rfl) d_Wr_putText_19 ⟨Nat.le_of_ble_eq_true rfl, Nat.le_of_ble_eq_true rfl⟩ (fun qz24 H locs hP hD hS => ?_)
        have hP : va_P (dC, dI) vwCl [(h_t, .inr (6, [.ref h_t_shown, .ref h_t_draft])), (h_t_shown, .inr (0, [.ref h_t_shown_row, .int t_shown_length, .int t_shown_overrun])), (h_t_shown_row, .inl (cB, 8000, .inl t_shown_row)), (h_t_draft, .inr (0, [.ref h_t_draft_row, .int o23.2.1, .int o23.2.2])), (h_t_draft_row, .inl (cB, 8000, .inl o23.1))] H := hP
        have hD : va_D A [(h_t, .inr (6, [.ref h_t_shown, .ref h_t_draft])), (h_t_shown, .inr (0, [.ref h_t_shown_row, .int t_shown_length, .int t_shown_overrun])), (h_t_shown_row, .inl (cB, 8000, .inl t_shown_row)), (h_t_draft, .inr (0, [.ref h_t_draft_row, .int o23.2.1, .int o23.2.2])), (h_t_draft_row, .inl (cB, 8000, .inl o23.1))] := hD
        refine lv_iinc (v := l2 + (1 : Int32)) (lv' := [(2, .int (l2 + (1 : Int32))), (0, .ref h_t), (1, .ref (adK l1))]) hx hb d_Wr_putText_22 hl (k := 2) rfl rfl (by decide) rfl (fun ls hl => ?_)
        refine lv_goto (tgt := 2) hx hb d_Wr_putText_25 (by decide) ?_
        exact ih2 o23.1 o23.2.1 o23.2.2 l1 (l2 + (1 : Int32)) H locs ls hf hP hD hS (lv_sub hl [1, 2, 0] rfl)
  unfold f_Wr_putText at hf
  refine lv_iconst (v := (0 : Int32)) hx hb d_Wr_putText_0 (by decide) ?_
  refine lv_istore_n (lv' := [(2, .int (0 : Int32)), (0, .ref h_t), (1, .ref (adK k1))]) hx hb d_Wr_putText_1 rfl hl (by decide) rfl (fun ls hl => ?_)
  unfold Wr_putText_b2 at hf
  obtain ⟨nn, en⟩ := jl_ex (Wr_putText_b2_b k1) (t_draft_row, t_draft_length, t_draft_overrun, (0 : Int32))
  rw [en] at hf
  exact L2 nn t_draft_row t_draft_length t_draft_overrun k1 (0 : Int32) H locs ls hf hP hD hS (lv_sub hl [1, 2, 0] rfl)
theorem d_Wr_putBlank_0 : decode b_Wr_putBlank 0 = .ok (.aload_n 0, 1) := by decide +kernel
theorem d_Wr_putBlank_1 : decode b_Wr_putBlank 1 = .ok (.getfield 18, 3) := by decide +kernel
theorem d_Wr_putBlank_4 : decode b_Wr_putBlank 4 = .ok (.aload_n 0, 1) := by decide +kernel
theorem d_Wr_putBlank_5 : decode b_Wr_putBlank 5 = .ok (.getfield 18, 3) := by decide +kernel
theorem d_Wr_putBlank_8 : decode b_Wr_putBlank 8 = .ok (.getfield 32, 3) := by decide +kernel
theorem d_Wr_putBlank_11 : decode b_Wr_putBlank 11 = .ok (.iconst 1, 1) := by decide +kernel
theorem d_Wr_putBlank_12 : decode b_Wr_putBlank 12 = .ok (.isub, 1) := by decide +kernel
theorem d_Wr_putBlank_13 : decode b_Wr_putBlank 13 = .ok (.invokevirtual 128, 3) := by decide +kernel
theorem d_Wr_putBlank_16 : decode b_Wr_putBlank 16 = .ok (.istore_n 1, 1) := by decide +kernel
theorem d_Wr_putBlank_17 : decode b_Wr_putBlank 17 = .ok (.iload_n 1, 1) := by decide +kernel
theorem d_Wr_putBlank_18 : decode b_Wr_putBlank 18 = .ok (.iconst (-1), 1) := by decide +kernel
theorem d_Wr_putBlank_19 : decode b_Wr_putBlank 19 = .ok (.if_icmp .eq 24, 3) := by decide +kernel
theorem d_Wr_putBlank_22 : decode b_Wr_putBlank 22 = .ok (.iload_n 1, 1) := by decide +kernel
theorem d_Wr_putBlank_23 : decode b_Wr_putBlank 23 = .ok (.bipush 40, 2) := by decide +kernel
theorem d_Wr_putBlank_25 : decode b_Wr_putBlank 25 = .ok (.if_icmp .eq 18, 3) := by decide +kernel
theorem d_Wr_putBlank_28 : decode b_Wr_putBlank 28 = .ok (.iload_n 1, 1) := by decide +kernel
theorem d_Wr_putBlank_29 : decode b_Wr_putBlank 29 = .ok (.bipush 10, 2) := by decide +kernel
theorem d_Wr_putBlank_31 : decode b_Wr_putBlank 31 = .ok (.if_icmp .eq 12, 3) := by decide +kernel
theorem d_Wr_putBlank_34 : decode b_Wr_putBlank 34 = .ok (.aload_n 0, 1) := by decide +kernel
theorem d_Wr_putBlank_35 : decode b_Wr_putBlank 35 = .ok (.getfield 18, 3) := by decide +kernel
theorem d_Wr_putBlank_38 : decode b_Wr_putBlank 38 = .ok (.bipush 32, 2) := by decide +kernel
theorem d_Wr_putBlank_40 : decode b_Wr_putBlank 40 = .ok (.invokevirtual 93, 3) := by decide +kernel
theorem d_Wr_putBlank_43 : decode b_Wr_putBlank 43 = .ok (.return_, 1) := by decide +kernel
noncomputable def f_Wr_putBlank  (t_draft_row : (Nat → Int32)) (t_draft_length : Int32) (t_draft_overrun : Int32)  : Option ((Nat → Int32) × Int32 × Int32) := jb (f_By_at t_draft_row t_draft_length (t_draft_length - (1 : Int32))) (fun o5 => if o5 = (-1 : Int32) then (some (t_draft_row, t_draft_length, t_draft_overrun)) else (if o5 = (40 : Int32) then (some (t_draft_row, t_draft_length, t_draft_overrun)) else (if o5 = (10 : Int32) then (some (t_draft_row, t_draft_length, t_draft_overrun)) else (jb (f_By_put t_draft_row t_draft_length t_draft_overrun (32 : Int32)) (fun o7 => some (o7.1, o7.2.1, o7.2.2))))))
set_option maxHeartbeats 4000000 in
set_option maxRecDepth 100000 in
theorem c_Wr_putBlank {l : Launch} {dC : Nat → ClassId} {dI : Nat → Nat → Nat} {cI cB cS : ClassId} {adK adV adR : Nat → Nat} (h_t h_t_shown h_t_shown_row h_t_draft h_t_draft_row : Nat) (t_shown_row : (Nat → Int32)) (t_shown_length : Int32) (t_shown_overrun : Int32) (t_draft_row : (Nat → Int32)) (t_draft_length : Int32) (t_draft_overrun : Int32)  {o : ((Nat → Int32) × Int32 × Int32)} (hf : f_Wr_putBlank t_draft_row t_draft_length t_draft_overrun = some o) : jMet l dC dI cI cB cS adK adV adR y_Wr_putBlank wd_Wr_putBlank { frames := 1, cells := 0, slots := 0, locals := 21 } [.ref h_t] [(h_t, .inr (6, [.ref h_t_shown, .ref h_t_draft])), (h_t_shown, .inr (0, [.ref h_t_shown_row, .int t_shown_length, .int t_shown_overrun])), (h_t_shown_row, .inl (cB, 8000, .inl t_shown_row)), (h_t_draft, .inr (0, [.ref h_t_draft_row, .int t_draft_length, .int t_draft_overrun])), (h_t_draft_row, .inl (cB, 8000, .inl t_draft_row))] (none) (fun q => [(h_t, .inr (6, [.ref h_t_shown, .ref h_t_draft])), (h_t_shown, .inr (0, [.ref h_t_shown_row, .int t_shown_length, .int t_shown_overrun])), (h_t_shown_row, .inl (cB, 8000, .inl t_shown_row)), (h_t_draft, .inr (0, [.ref h_t_draft_row, .int o.2.1, .int o.2.2])), (h_t_draft_row, .inl (cB, 8000, .inl o.1))]) 0 0 := by
  refine jEntry (cc := b_Wr_putBlank) (maxL := 2) (ret := none) (by decide) rfl (Nat.le_of_ble_eq_true rfl) rfl (fun p e s m args below meth c A H locs ls Q hQ hx hb hr hml hown hts hlocks hnm hJ hA hP hD hS hl => ?_)
  have hK := hJ.K
  have hl : lv_has ls 2 [(0, .ref h_t)] := hl
  unfold f_Wr_putBlank at hf
  refine lv_aload_n hx hb d_Wr_putBlank_0 rfl (lv_at hl 0 rfl) ?_
  refine va_get (D := (dC, dI)) (ci := 6) (v := .ref h_t_draft) (C := R_Wr) (T := T_Wr) (N := 2) hx hb hts (fun w h => List.mem_cons_of_mem _ (in_Wr w h)) hown hK hP 0 rfl rfl 1 (by decide) (hts _ (List.mem_cons_of_mem _ jw348)) (fun _ h9 => h9) rfl d_Wr_putBlank_1 ?_
  refine lv_aload_n hx hb d_Wr_putBlank_4 rfl (lv_at hl 0 rfl) ?_
  refine va_get (D := (dC, dI)) (ci := 6) (v := .ref h_t_draft) (C := R_Wr) (T := T_Wr) (N := 2) hx hb hts (fun w h => List.mem_cons_of_mem _ (in_Wr w h)) hown hK hP 0 rfl rfl 1 (by decide) (hts _ (List.mem_cons_of_mem _ jw348)) (fun _ h9 => h9) rfl d_Wr_putBlank_5 ?_
  refine va_get (D := (dC, dI)) (ci := 0) (v := .int t_draft_length) (C := R_By) (T := T_By) (N := 3) hx hb hts (fun w h => List.mem_cons_of_mem _ (in_By w h)) hown hK hP 3 rfl rfl 1 (by decide) (hts _ (List.mem_cons_of_mem _ jw352)) (fun _ h9 => h9) rfl d_Wr_putBlank_8 ?_
  refine lv_iconst (v := (1 : Int32)) hx hb d_Wr_putBlank_11 (by decide) ?_
  refine lv_isub hx hb d_Wr_putBlank_12 ?_
  obtain ⟨o9, ho9⟩ : ∃ z, f_By_at t_draft_row t_draft_length (t_draft_length - (1 : Int32)) = some z := by
    cases hz : f_By_at t_draft_row t_draft_length (t_draft_length - (1 : Int32)) with
    | none => rw [hz] at hf; simp only [jb_none, jl_b_none, jm_none, reduceCtorEq] at hf
    | some z => exact ⟨z, rfl⟩
  rw [ho9, jb_some] at hf
  refine jCallV (As := [.int (t_draft_length - (1 : Int32))]) (rest := []) (wr := [(h_t, .inr (6, [.ref h_t_shown, .ref h_t_draft])), (h_t_shown, .inr (0, [.ref h_t_shown_row, .int t_shown_length, .int t_shown_overrun])), (h_t_shown_row, .inl (cB, 8000, .inl t_shown_row))]) ⟨hx, hb, hml, hown, hts⟩ hJ (c_By_at h_t_draft h_t_draft_row t_draft_row t_draft_length t_draft_overrun (t_draft_length - (1 : Int32)) ho9) (cwV 1 hts (jgV jw353 jw54 jw55 jw33 jw53) rfl rfl rfl dd_By_at ⟨Nat.le_of_ble_eq_true rfl, Nat.le_of_ble_eq_true rfl⟩) hP hD hS hA (va_recv hK hP (ci := 0) (q0 := 3) rfl rfl) [3, 4] [0, 1, 2] rfl rfl (by decide) (by decide) (by decide) rfl hl.1 rfl (Nat.le_of_ble_eq_true rfl) d_Wr_putBlank_13 ⟨Nat.le_of_ble_eq_true rfl, Nat.le_of_ble_eq_true rfl⟩ (fun qz10 H locs hP hD hS => ?_)
  have hP : va_P (dC, dI) vwCl [(h_t, .inr (6, [.ref h_t_shown, .ref h_t_draft])), (h_t_shown, .inr (0, [.ref h_t_shown_row, .int t_shown_length, .int t_shown_overrun])), (h_t_shown_row, .inl (cB, 8000, .inl t_shown_row)), (h_t_draft, .inr (0, [.ref h_t_draft_row, .int t_draft_length, .int t_draft_overrun])), (h_t_draft_row, .inl (cB, 8000, .inl t_draft_row))] H := hP
  have hD : va_D A [(h_t, .inr (6, [.ref h_t_shown, .ref h_t_draft])), (h_t_shown, .inr (0, [.ref h_t_shown_row, .int t_shown_length, .int t_shown_overrun])), (h_t_shown_row, .inl (cB, 8000, .inl t_shown_row)), (h_t_draft, .inr (0, [.ref h_t_draft_row, .int t_draft_length, .int t_draft_overrun])), (h_t_draft_row, .inl (cB, 8000, .inl t_draft_row))] := hD
  refine lv_istore_n (lv' := [(1, .int o9), (0, .ref h_t)]) hx hb d_Wr_putBlank_16 rfl hl (by decide) rfl (fun ls hl => ?_)
  refine lv_iload_n hx hb d_Wr_putBlank_17 rfl (lv_at hl 0 rfl) ?_
  refine lv_iconst (v := (-1 : Int32)) hx hb d_Wr_putBlank_18 (by decide) ?_
  refine lv_icmp_eq (tgt := 43) hx hb d_Wr_putBlank_19 (by decide) (fun c19 => ?_) (fun c19 => ?_)
  · rw [if_pos c19] at hf
    have hf : (some (t_draft_row, t_draft_length, t_draft_overrun) : Option ((Nat → Int32) × Int32 × Int32)) = some o := hf
    rw [hQ, ← Option.some.inj hf]
    exact jVret hx hb hr hlocks d_Wr_putBlank_43 (fun _ => 0) hS hP hD
  · rw [if_neg c19] at hf
    refine lv_iload_n hx hb d_Wr_putBlank_22 rfl (lv_at hl 0 rfl) ?_
    refine lv_bipush (v := (40 : Int32)) hx hb d_Wr_putBlank_23 (by decide) ?_
    refine lv_icmp_eq (tgt := 43) hx hb d_Wr_putBlank_25 (by decide) (fun c25 => ?_) (fun c25 => ?_)
    · rw [if_pos c25] at hf
      have hf : (some (t_draft_row, t_draft_length, t_draft_overrun) : Option ((Nat → Int32) × Int32 × Int32)) = some o := hf
      rw [hQ, ← Option.some.inj hf]
      exact jVret hx hb hr hlocks d_Wr_putBlank_43 (fun _ => 0) hS hP hD
    · rw [if_neg c25] at hf
      refine lv_iload_n hx hb d_Wr_putBlank_28 rfl (lv_at hl 0 rfl) ?_
      refine lv_bipush (v := (10 : Int32)) hx hb d_Wr_putBlank_29 (by decide) ?_
      refine lv_icmp_eq (tgt := 43) hx hb d_Wr_putBlank_31 (by decide) (fun c31 => ?_) (fun c31 => ?_)
      · rw [if_pos c31] at hf
        have hf : (some (t_draft_row, t_draft_length, t_draft_overrun) : Option ((Nat → Int32) × Int32 × Int32)) = some o := hf
        rw [hQ, ← Option.some.inj hf]
        exact jVret hx hb hr hlocks d_Wr_putBlank_43 (fun _ => 0) hS hP hD
      · rw [if_neg c31] at hf
        refine lv_aload_n hx hb d_Wr_putBlank_34 rfl (lv_at hl 1 rfl) ?_
        refine va_get (D := (dC, dI)) (ci := 6) (v := .ref h_t_draft) (C := R_Wr) (T := T_Wr) (N := 2) hx hb hts (fun w h => List.mem_cons_of_mem _ (in_Wr w h)) hown hK hP 0 rfl rfl 1 (by decide) (hts _ (List.mem_cons_of_mem _ jw348)) (fun _ h9 => h9) rfl d_Wr_putBlank_35 ?_
        refine lv_bipush (v := (32 : Int32)) hx hb d_Wr_putBlank_38 (by decide) ?_
        obtain ⟨o11, ho11⟩ : ∃ z, f_By_put t_draft_row t_draft_length t_draft_overrun (32 : Int32) = some z := by
          cases hz : f_By_put t_draft_row t_draft_length t_draft_overrun (32 : Int32) with
          | none => rw [hz] at hf; simp only [jb_none, jl_b_none, jm_none, reduceCtorEq] at hf
          | some z => exact ⟨z, rfl⟩
        rw [ho11, jb_some] at hf
        refine jCallV (As := [.int (32 : Int32)]) (rest := []) (wr := [(h_t, .inr (6, [.ref h_t_shown, .ref h_t_draft])), (h_t_shown, .inr (0, [.ref h_t_shown_row, .int t_shown_length, .int t_shown_overrun])), (h_t_shown_row, .inl (cB, 8000, .inl t_shown_row))]) ⟨hx, hb, hml, hown, hts⟩ hJ (c_By_put h_t_draft h_t_draft_row t_draft_row t_draft_length t_draft_overrun (32 : Int32) ho11) (cwV 1 hts (jgV jw351 jw34 jw35 jw33 jw32) rfl rfl rfl dd_By_put ⟨Nat.le_of_ble_eq_true rfl, Nat.le_of_ble_eq_true rfl⟩) hP hD hS hA (va_recv hK hP (ci := 0) (q0 := 3) rfl rfl) [3, 4] [0, 1, 2] rfl rfl (by decide) (by decide) (by decide) rfl hl.1 rfl (Nat.le_of_ble_eq_true rfl) d_Wr_putBlank_40 ⟨Nat.le_of_ble_eq_true rfl, Nat.le_of_ble_eq_true rfl⟩ (fun qz12 H locs hP hD hS => ?_)
        have hP : va_P (dC, dI) vwCl [(h_t, .inr (6, [.ref h_t_shown, .ref h_t_draft])), (h_t_shown, .inr (0, [.ref h_t_shown_row, .int t_shown_length, .int t_shown_overrun])), (h_t_shown_row, .inl (cB, 8000, .inl t_shown_row)), (h_t_draft, .inr (0, [.ref h_t_draft_row, .int o11.2.1, .int o11.2.2])), (h_t_draft_row, .inl (cB, 8000, .inl o11.1))] H := hP
        have hD : va_D A [(h_t, .inr (6, [.ref h_t_shown, .ref h_t_draft])), (h_t_shown, .inr (0, [.ref h_t_shown_row, .int t_shown_length, .int t_shown_overrun])), (h_t_shown_row, .inl (cB, 8000, .inl t_shown_row)), (h_t_draft, .inr (0, [.ref h_t_draft_row, .int o11.2.1, .int o11.2.2])), (h_t_draft_row, .inl (cB, 8000, .inl o11.1))] := hD
        have hf : (some (o11.1, o11.2.1, o11.2.2) : Option ((Nat → Int32) × Int32 × Int32)) = some o := hf
        rw [hQ, ← Option.some.inj hf]
        exact jVret hx hb hr hlocks d_Wr_putBlank_43 (fun _ => 0) hS hP hD
theorem d_Wr_putSort_0 : decode b_Wr_putSort 0 = .ok (.aload_n 0, 1) := by decide +kernel
theorem d_Wr_putSort_1 : decode b_Wr_putSort 1 = .ok (.invokevirtual 105, 3) := by decide +kernel
theorem d_Wr_putSort_4 : decode b_Wr_putSort 4 = .ok (.aload_n 0, 1) := by decide +kernel
theorem d_Wr_putSort_5 : decode b_Wr_putSort 5 = .ok (.iload_n 1, 1) := by decide +kernel
theorem d_Wr_putSort_6 : decode b_Wr_putSort 6 = .ok (.ifCond .gt 8, 3) := by decide +kernel
theorem d_Wr_putSort_9 : decode b_Wr_putSort 9 = .ok (.ldc 124, 2) := by decide +kernel
theorem d_Wr_putSort_11 : decode b_Wr_putSort 11 = .ok (.goto 5, 3) := by decide +kernel
theorem d_Wr_putSort_14 : decode b_Wr_putSort 14 = .ok (.ldc 126, 2) := by decide +kernel
theorem d_Wr_putSort_16 : decode b_Wr_putSort 16 = .ok (.invokevirtual 112, 3) := by decide +kernel
theorem d_Wr_putSort_19 : decode b_Wr_putSort 19 = .ok (.iload_n 1, 1) := by decide +kernel
theorem d_Wr_putSort_20 : decode b_Wr_putSort 20 = .ok (.iconst 1, 1) := by decide +kernel
theorem d_Wr_putSort_21 : decode b_Wr_putSort 21 = .ok (.isub, 1) := by decide +kernel
theorem d_Wr_putSort_22 : decode b_Wr_putSort 22 = .ok (.istore_n 2, 1) := by decide +kernel
theorem d_Wr_putSort_23 : decode b_Wr_putSort 23 = .ok (.iload_n 2, 1) := by decide +kernel
theorem d_Wr_putSort_24 : decode b_Wr_putSort 24 = .ok (.bipush 10, 2) := by decide +kernel
theorem d_Wr_putSort_26 : decode b_Wr_putSort 26 = .ok (.if_icmp .lt 17, 3) := by decide +kernel
theorem d_Wr_putSort_29 : decode b_Wr_putSort 29 = .ok (.aload_n 0, 1) := by decide +kernel
theorem d_Wr_putSort_30 : decode b_Wr_putSort 30 = .ok (.getfield 18, 3) := by decide +kernel
theorem d_Wr_putSort_33 : decode b_Wr_putSort 33 = .ok (.bipush 48, 2) := by decide +kernel
theorem d_Wr_putSort_35 : decode b_Wr_putSort 35 = .ok (.iload_n 2, 1) := by decide +kernel
theorem d_Wr_putSort_36 : decode b_Wr_putSort 36 = .ok (.bipush 10, 2) := by decide +kernel
theorem d_Wr_putSort_38 : decode b_Wr_putSort 38 = .ok (.idiv, 1) := by decide +kernel
theorem d_Wr_putSort_39 : decode b_Wr_putSort 39 = .ok (.iadd, 1) := by decide +kernel
theorem d_Wr_putSort_40 : decode b_Wr_putSort 40 = .ok (.invokevirtual 93, 3) := by decide +kernel
theorem d_Wr_putSort_43 : decode b_Wr_putSort 43 = .ok (.iload_n 2, 1) := by decide +kernel
theorem d_Wr_putSort_44 : decode b_Wr_putSort 44 = .ok (.ifCond .lt 17, 3) := by decide +kernel
theorem d_Wr_putSort_47 : decode b_Wr_putSort 47 = .ok (.aload_n 0, 1) := by decide +kernel
theorem d_Wr_putSort_48 : decode b_Wr_putSort 48 = .ok (.getfield 18, 3) := by decide +kernel
theorem d_Wr_putSort_51 : decode b_Wr_putSort 51 = .ok (.bipush 48, 2) := by decide +kernel
theorem d_Wr_putSort_53 : decode b_Wr_putSort 53 = .ok (.iload_n 2, 1) := by decide +kernel
theorem d_Wr_putSort_54 : decode b_Wr_putSort 54 = .ok (.bipush 10, 2) := by decide +kernel
theorem d_Wr_putSort_56 : decode b_Wr_putSort 56 = .ok (.irem, 1) := by decide +kernel
theorem d_Wr_putSort_57 : decode b_Wr_putSort 57 = .ok (.iadd, 1) := by decide +kernel
theorem d_Wr_putSort_58 : decode b_Wr_putSort 58 = .ok (.invokevirtual 93, 3) := by decide +kernel
theorem d_Wr_putSort_61 : decode b_Wr_putSort 61 = .ok (.return_, 1) := by decide +kernel
noncomputable def Wr_putSort_b43  (t_draft_row : (Nat → Int32)) (t_draft_length : Int32) (t_draft_overrun : Int32) (l2 : Int32) : Option ((Nat → Int32) × Int32 × Int32) := if l2 < 0 then (some (t_draft_row, t_draft_length, t_draft_overrun)) else (jb (f_By_put t_draft_row t_draft_length t_draft_overrun ((48 : Int32) + (l2 - l2 / (10 : Int32) * (10 : Int32)))) (fun o9 => some (o9.1, o9.2.1, o9.2.2)))
noncomputable def Wr_putSort_b16  (t_draft_row : (Nat → Int32)) (t_draft_length : Int32) (t_draft_overrun : Int32) (l1 : Int32) (s1 : Nat) : Option ((Nat → Int32) × Int32 × Int32) := jb (f_Wr_putText t_draft_row t_draft_length t_draft_overrun s1) (fun o11 => if (l1 - (1 : Int32)) < (10 : Int32) then (Wr_putSort_b43 o11.1 o11.2.1 o11.2.2 (l1 - (1 : Int32))) else (jb (f_By_put o11.1 o11.2.1 o11.2.2 ((48 : Int32) + ((l1 - (1 : Int32)) / (10 : Int32)))) (fun o13 => Wr_putSort_b43 o13.1 o13.2.1 o13.2.2 (l1 - (1 : Int32)))))
noncomputable def f_Wr_putSort  (t_draft_row : (Nat → Int32)) (t_draft_length : Int32) (t_draft_overrun : Int32) (a1 : Int32) : Option ((Nat → Int32) × Int32 × Int32) := jb (f_Wr_putBlank t_draft_row t_draft_length t_draft_overrun) (fun o15 => if 0 < a1 then (Wr_putSort_b16 o15.1 o15.2.1 o15.2.2 a1 24) else (Wr_putSort_b16 o15.1 o15.2.1 o15.2.2 a1 23))
set_option maxHeartbeats 4000000 in
set_option maxRecDepth 100000 in
theorem c_Wr_putSort {l : Launch} {dC : Nat → ClassId} {dI : Nat → Nat → Nat} {cI cB cS : ClassId} {adK adV adR : Nat → Nat} (h_t h_t_shown h_t_shown_row h_t_draft h_t_draft_row : Nat) (t_shown_row : (Nat → Int32)) (t_shown_length : Int32) (t_shown_overrun : Int32) (t_draft_row : (Nat → Int32)) (t_draft_length : Int32) (t_draft_overrun : Int32) (a1 : Int32) {o : ((Nat → Int32) × Int32 × Int32)} (hf : f_Wr_putSort t_draft_row t_draft_length t_draft_overrun a1 = some o) : jMet l dC dI cI cB cS adK adV adR y_Wr_putSort wd_Wr_putSort { frames := 5, cells := 0, slots := 0, locals := 107 } [.ref h_t, .int a1] [(h_t, .inr (6, [.ref h_t_shown, .ref h_t_draft])), (h_t_shown, .inr (0, [.ref h_t_shown_row, .int t_shown_length, .int t_shown_overrun])), (h_t_shown_row, .inl (cB, 8000, .inl t_shown_row)), (h_t_draft, .inr (0, [.ref h_t_draft_row, .int t_draft_length, .int t_draft_overrun])), (h_t_draft_row, .inl (cB, 8000, .inl t_draft_row))] (none) (fun q => [(h_t, .inr (6, [.ref h_t_shown, .ref h_t_draft])), (h_t_shown, .inr (0, [.ref h_t_shown_row, .int t_shown_length, .int t_shown_overrun])), (h_t_shown_row, .inl (cB, 8000, .inl t_shown_row)), (h_t_draft, .inr (0, [.ref h_t_draft_row, .int o.2.1, .int o.2.2])), (h_t_draft_row, .inl (cB, 8000, .inl o.1))]) 0 0 := by
  refine jEntry (cc := b_Wr_putSort) (maxL := 3) (ret := none) (by decide) rfl (Nat.le_of_ble_eq_true rfl) rfl (fun p e s m args below meth c A H locs ls Q hQ hx hb hr hml hown hts hlocks hnm hJ hA hP hD hS hl => ?_)
  have hK := hJ.K
  have hl : lv_has ls 3 [(0, .ref h_t), (1, .int a1)] := hl
  have B43 : ∀ (t_draft_row : (Nat → Int32)) (t_draft_length : Int32) (t_draft_overrun : Int32) (l2 : Int32) (H : Heap) (locs : List Loc) (ls : Array Slot), Wr_putSort_b43 t_draft_row t_draft_length t_draft_overrun l2 = some o → va_P (dC, dI) vwCl [(h_t, .inr (6, [.ref h_t_shown, .ref h_t_draft])), (h_t_shown, .inr (0, [.ref h_t_shown_row, .int t_shown_length, .int t_shown_overrun])), (h_t_shown_row, .inl (cB, 8000, .inl t_shown_row)), (h_t_draft, .inr (0, [.ref h_t_draft_row, .int t_draft_length, .int t_draft_overrun])), (h_t_draft_row, .inl (cB, 8000, .inl t_draft_row))] H → va_D A [(h_t, .inr (6, [.ref h_t_shown, .ref h_t_draft])), (h_t_shown, .inr (0, [.ref h_t_shown_row, .int t_shown_length, .int t_shown_overrun])), (h_t_shown_row, .inl (cB, 8000, .inl t_shown_row)), (h_t_draft, .inr (0, [.ref h_t_draft_row, .int t_draft_length, .int t_draft_overrun])), (h_t_draft_row, .inl (cB, 8000, .inl t_draft_row))] → va_S A s.heap H locs → lv_has ls 3 [(0, .ref h_t), (2, .int l2)] → W p l e { frames := 5, cells := 0, slots := 0, locals := 107 } s m args below meth c H locs 0 0 Q (F0 m 43 ls []) := by
    intro t_draft_row t_draft_length t_draft_overrun l2 H locs ls hf hP hD hS hl
    unfold Wr_putSort_b43 at hf
    refine lv_iload_n hx hb d_Wr_putSort_43 rfl (lv_at hl 1 rfl) ?_
    refine lv_if_lt (tgt := 61) hx hb d_Wr_putSort_44 (by decide) (fun c44 => ?_) (fun c44 => ?_)
    · rw [if_pos c44] at hf
      have hf : (some (t_draft_row, t_draft_length, t_draft_overrun) : Option ((Nat → Int32) × Int32 × Int32)) = some o := hf
      rw [hQ, ← Option.some.inj hf]
      exact jVret hx hb hr hlocks d_Wr_putSort_61 (fun _ => 0) hS hP hD
    · rw [if_neg c44] at hf
      refine lv_aload_n hx hb d_Wr_putSort_47 rfl (lv_at hl 0 rfl) ?_
      refine va_get (D := (dC, dI)) (ci := 6) (v := .ref h_t_draft) (C := R_Wr) (T := T_Wr) (N := 2) hx hb hts (fun w h => List.mem_cons_of_mem _ (in_Wr w h)) hown hK hP 0 rfl rfl 1 (by decide) (hts _ (List.mem_cons_of_mem _ jw348)) (fun _ h9 => h9) rfl d_Wr_putSort_48 ?_
      refine lv_bipush (v := (48 : Int32)) hx hb d_Wr_putSort_51 (by decide) ?_
      refine lv_iload_n hx hb d_Wr_putSort_53 rfl (lv_at hl 1 rfl) ?_
      refine lv_bipush (v := (10 : Int32)) hx hb d_Wr_putSort_54 (by decide) ?_
      refine lv_irem hx hb d_Wr_putSort_56 (by decide) ?_
      refine lv_iadd hx hb d_Wr_putSort_57 ?_
      obtain ⟨o17, ho17⟩ : ∃ z, f_By_put t_draft_row t_draft_length t_draft_overrun ((48 : Int32) + (l2 - l2 / (10 : Int32) * (10 : Int32))) = some z := by
        cases hz : f_By_put t_draft_row t_draft_length t_draft_overrun ((48 : Int32) + (l2 - l2 / (10 : Int32) * (10 : Int32))) with
        | none => rw [hz] at hf; simp only [jb_none, jl_b_none, jm_none, reduceCtorEq] at hf
        | some z => exact ⟨z, rfl⟩
      rw [ho17, jb_some] at hf
      refine jCallV (As := [.int ((48 : Int32) + (l2 - l2 / (10 : Int32) * (10 : Int32)))]) (rest := []) (wr := [(h_t, .inr (6, [.ref h_t_shown, .ref h_t_draft])), (h_t_shown, .inr (0, [.ref h_t_shown_row, .int t_shown_length, .int t_shown_overrun])), (h_t_shown_row, .inl (cB, 8000, .inl t_shown_row))]) ⟨hx, hb, hml, hown, hts⟩ hJ (c_By_put h_t_draft h_t_draft_row t_draft_row t_draft_length t_draft_overrun ((48 : Int32) + (l2 - l2 / (10 : Int32) * (10 : Int32))) ho17) (cwV 1 hts (jgV jw351 jw34 jw35 jw33 jw32) rfl rfl rfl dd_By_put ⟨Nat.le_of_ble_eq_true rfl, Nat.le_of_ble_eq_true rfl⟩) hP hD hS hA (va_recv hK hP (ci := 0) (q0 := 3) rfl rfl) [3, 4] [0, 1, 2] rfl rfl (by decide) (by decide) (by decide) rfl hl.1 rfl (Nat.le_of_ble_eq_true rfl) d_Wr_putSort_58 ⟨Nat.le_of_ble_eq_true rfl, Nat.le_of_ble_eq_true rfl⟩ (fun qz18 H locs hP hD hS => ?_)
      have hP : va_P (dC, dI) vwCl [(h_t, .inr (6, [.ref h_t_shown, .ref h_t_draft])), (h_t_shown, .inr (0, [.ref h_t_shown_row, .int t_shown_length, .int t_shown_overrun])), (h_t_shown_row, .inl (cB, 8000, .inl t_shown_row)), (h_t_draft, .inr (0, [.ref h_t_draft_row, .int o17.2.1, .int o17.2.2])), (h_t_draft_row, .inl (cB, 8000, .inl o17.1))] H := hP
      have hD : va_D A [(h_t, .inr (6, [.ref h_t_shown, .ref h_t_draft])), (h_t_shown, .inr (0, [.ref h_t_shown_row, .int t_shown_length, .int t_shown_overrun])), (h_t_shown_row, .inl (cB, 8000, .inl t_shown_row)), (h_t_draft, .inr (0, [.ref h_t_draft_row, .int o17.2.1, .int o17.2.2])), (h_t_draft_row, .inl (cB, 8000, .inl o17.1))] := hD
      have hf : (some (o17.1, o17.2.1, o17.2.2) : Option ((Nat → Int32) × Int32 × Int32)) = some o := hf
      rw [hQ, ← Option.some.inj hf]
      exact jVret hx hb hr hlocks d_Wr_putSort_61 (fun _ => 0) hS hP hD
  have B16 : ∀ (t_draft_row : (Nat → Int32)) (t_draft_length : Int32) (t_draft_overrun : Int32) (l1 : Int32) (s1 : Nat) (H : Heap) (locs : List Loc) (ls : Array Slot), Wr_putSort_b16 t_draft_row t_draft_length t_draft_overrun l1 s1 = some o → va_P (dC, dI) vwCl [(h_t, .inr (6, [.ref h_t_shown, .ref h_t_draft])), (h_t_shown, .inr (0, [.ref h_t_shown_row, .int t_shown_length, .int t_shown_overrun])), (h_t_shown_row, .inl (cB, 8000, .inl t_shown_row)), (h_t_draft, .inr (0, [.ref h_t_draft_row, .int t_draft_length, .int t_draft_overrun])), (h_t_draft_row, .inl (cB, 8000, .inl t_draft_row))] H → va_D A [(h_t, .inr (6, [.ref h_t_shown, .ref h_t_draft])), (h_t_shown, .inr (0, [.ref h_t_shown_row, .int t_shown_length, .int t_shown_overrun])), (h_t_shown_row, .inl (cB, 8000, .inl t_shown_row)), (h_t_draft, .inr (0, [.ref h_t_draft_row, .int t_draft_length, .int t_draft_overrun])), (h_t_draft_row, .inl (cB, 8000, .inl t_draft_row))] → va_S A s.heap H locs → lv_has ls 3 [(0, .ref h_t), (1, .int l1)] → W p l e { frames := 5, cells := 0, slots := 0, locals := 107 } s m args below meth c H locs 0 0 Q (F0 m 16 ls [.ref (adK s1), .ref h_t]) := by
    intro t_draft_row t_draft_length t_draft_overrun l1 s1 H locs ls hf hP hD hS hl
    unfold Wr_putSort_b16 at hf
    obtain ⟨o19, ho19⟩ : ∃ z, f_Wr_putText t_draft_row t_draft_length t_draft_overrun s1 = some z := by
      cases hz : f_Wr_putText t_draft_row t_draft_length t_draft_overrun s1 with
      | none => rw [hz] at hf; simp only [jb_none, jl_b_none, jm_none, reduceCtorEq] at hf
      | some z => exact ⟨z, rfl⟩
    rw [ho19, jb_some] at hf
    refine jCallV (As := [.ref (adK s1)]) (rest := []) (wr := []) ⟨hx, hb, hml, hown, hts⟩ hJ (c_Wr_putText h_t h_t_shown h_t_shown_row h_t_draft h_t_draft_row t_shown_row t_shown_length t_shown_overrun t_draft_row t_draft_length t_draft_overrun s1 ho19) (cwV 1 hts (jgV jw359 jw361 jw362 jw356 jw360) rfl rfl rfl dd_Wr_putText ⟨Nat.le_of_ble_eq_true rfl, Nat.le_of_ble_eq_true rfl⟩) hP hD hS hA (va_recv hK hP (ci := 6) (q0 := 0) rfl rfl) [0, 1, 2, 3, 4] [] rfl rfl (by decide) (by decide) (by decide) rfl hl.1 rfl (Nat.le_of_ble_eq_true rfl) d_Wr_putSort_16 ⟨Nat.le_of_ble_eq_true rfl, Nat.le_of_ble_eq_true rfl⟩ (fun qz20 H locs hP hD hS => ?_)
    have hP : va_P (dC, dI) vwCl [(h_t, .inr (6, [.ref h_t_shown, .ref h_t_draft])), (h_t_shown, .inr (0, [.ref h_t_shown_row, .int t_shown_length, .int t_shown_overrun])), (h_t_shown_row, .inl (cB, 8000, .inl t_shown_row)), (h_t_draft, .inr (0, [.ref h_t_draft_row, .int o19.2.1, .int o19.2.2])), (h_t_draft_row, .inl (cB, 8000, .inl o19.1))] H := hP
    have hD : va_D A [(h_t, .inr (6, [.ref h_t_shown, .ref h_t_draft])), (h_t_shown, .inr (0, [.ref h_t_shown_row, .int t_shown_length, .int t_shown_overrun])), (h_t_shown_row, .inl (cB, 8000, .inl t_shown_row)), (h_t_draft, .inr (0, [.ref h_t_draft_row, .int o19.2.1, .int o19.2.2])), (h_t_draft_row, .inl (cB, 8000, .inl o19.1))] := hD
    refine lv_iload_n hx hb d_Wr_putSort_19 rfl (lv_at hl 1 rfl) ?_
    refine lv_iconst (v := (1 : Int32)) hx hb d_Wr_putSort_20 (by decide) ?_
    refine lv_isub hx hb d_Wr_putSort_21 ?_
    refine lv_istore_n (lv' := [(2, .int (l1 - (1 : Int32))), (0, .ref h_t), (1, .int l1)]) hx hb d_Wr_putSort_22 rfl hl (by decide) rfl (fun ls hl => ?_)
    refine lv_iload_n hx hb d_Wr_putSort_23 rfl (lv_at hl 0 rfl) ?_
    refine lv_bipush (v := (10 : Int32)) hx hb d_Wr_putSort_24 (by decide) ?_
    refine lv_icmp_lt (tgt := 43) hx hb d_Wr_putSort_26 (by decide) (fun c26 => ?_) (fun c26 => ?_)
    · rw [if_pos c26] at hf
      exact B43 o19.1 o19.2.1 o19.2.2 (l1 - (1 : Int32)) H locs ls hf hP hD hS (lv_sub hl [1, 0] rfl)
    · rw [if_neg c26] at hf
      refine lv_aload_n hx hb d_Wr_putSort_29 rfl (lv_at hl 1 rfl) ?_
      refine va_get (D := (dC, dI)) (ci := 6) (v := .ref h_t_draft) (C := R_Wr) (T := T_Wr) (N := 2) hx hb hts (fun w h => List.mem_cons_of_mem _ (in_Wr w h)) hown hK hP 0 rfl rfl 1 (by decide) (hts _ (List.mem_cons_of_mem _ jw348)) (fun _ h9 => h9) rfl d_Wr_putSort_30 ?_
      refine lv_bipush (v := (48 : Int32)) hx hb d_Wr_putSort_33 (by decide) ?_
      refine lv_iload_n hx hb d_Wr_putSort_35 rfl (lv_at hl 0 rfl) ?_
      refine lv_bipush (v := (10 : Int32)) hx hb d_Wr_putSort_36 (by decide) ?_
      refine lv_idiv hx hb d_Wr_putSort_38 (by decide) ?_
      refine lv_iadd hx hb d_Wr_putSort_39 ?_
      obtain ⟨o21, ho21⟩ : ∃ z, f_By_put o19.1 o19.2.1 o19.2.2 ((48 : Int32) + ((l1 - (1 : Int32)) / (10 : Int32))) = some z := by
        cases hz : f_By_put o19.1 o19.2.1 o19.2.2 ((48 : Int32) + ((l1 - (1 : Int32)) / (10 : Int32))) with
        | none => rw [hz] at hf; simp only [jb_none, jl_b_none, jm_none, reduceCtorEq] at hf
        | some z => exact ⟨z, rfl⟩
      rw [ho21, jb_some] at hf
      refine jCallV (As := [.int ((48 : Int32) + ((l1 - (1 : Int32)) / (10 : Int32)))]) (rest := []) (wr := [(h_t, .inr (6, [.ref h_t_shown, .ref h_t_draft])), (h_t_shown, .inr (0, [.ref h_t_shown_row, .int t_shown_length, .int t_shown_overrun])), (h_t_shown_row, .inl (cB, 8000, .inl t_shown_row))]) ⟨hx, hb, hml, hown, hts⟩ hJ (c_By_put h_t_draft h_t_draft_row o19.1 o19.2.1 o19.2.2 ((48 : Int32) + ((l1 - (1 : Int32)) / (10 : Int32))) ho21) (cwV 1 hts (jgV jw351 jw34 jw35 jw33 jw32) rfl rfl rfl dd_By_put ⟨Nat.le_of_ble_eq_true rfl, Nat.le_of_ble_eq_true rfl⟩) hP hD hS hA (va_recv hK hP (ci := 0) (q0 := 3) rfl rfl) [3, 4] [0, 1, 2] rfl rfl (by decide) (by decide) (by decide) rfl hl.1 rfl (Nat.le_of_ble_eq_true rfl) d_Wr_putSort_40 ⟨Nat.le_of_ble_eq_true rfl, Nat.le_of_ble_eq_true rfl⟩ (fun qz22 H locs hP hD hS => ?_)
      have hP : va_P (dC, dI) vwCl [(h_t, .inr (6, [.ref h_t_shown, .ref h_t_draft])), (h_t_shown, .inr (0, [.ref h_t_shown_row, .int t_shown_length, .int t_shown_overrun])), (h_t_shown_row, .inl (cB, 8000, .inl t_shown_row)), (h_t_draft, .inr (0, [.ref h_t_draft_row, .int o21.2.1, .int o21.2.2])), (h_t_draft_row, .inl (cB, 8000, .inl o21.1))] H := hP
      have hD : va_D A [(h_t, .inr (6, [.ref h_t_shown, .ref h_t_draft])), (h_t_shown, .inr (0, [.ref h_t_shown_row, .int t_shown_length, .int t_shown_overrun])), (h_t_shown_row, .inl (cB, 8000, .inl t_shown_row)), (h_t_draft, .inr (0, [.ref h_t_draft_row, .int o21.2.1, .int o21.2.2])), (h_t_draft_row, .inl (cB, 8000, .inl o21.1))] := hD
      exact B43 o21.1 o21.2.1 o21.2.2 (l1 - (1 : Int32)) H locs ls hf hP hD hS (lv_sub hl [1, 0] rfl)
  unfold f_Wr_putSort at hf
  refine lv_aload_n hx hb d_Wr_putSort_0 rfl (lv_at hl 0 rfl) ?_
  obtain ⟨o23, ho23⟩ : ∃ z, f_Wr_putBlank t_draft_row t_draft_length t_draft_overrun = some z := by
    cases hz : f_Wr_putBlank t_draft_row t_draft_length t_draft_overrun with
    | none => rw [hz] at hf; simp only [jb_none, jl_b_none, jm_none, reduceCtorEq] at hf
    | some z => exact ⟨z, rfl⟩
  rw [ho23, jb_some] at hf
  refine jCallV (As := []) (rest := []) (wr := []) ⟨hx, hb, hml, hown, hts⟩ hJ (c_Wr_putBlank h_t h_t_shown h_t_shown_row h_t_draft h_t_draft_row t_shown_row t_shown_length t_shown_overrun t_draft_row t_draft_length t_draft_overrun ho23) (cwV 0 hts (jgV jw354 jw357 jw358 jw356 jw355) rfl rfl rfl dd_Wr_putBlank ⟨Nat.le_of_ble_eq_true rfl, Nat.le_of_ble_eq_true rfl⟩) hP hD hS hA (va_recv hK hP (ci := 6) (q0 := 0) rfl rfl) [0, 1, 2, 3, 4] [] rfl rfl (by decide) (by decide) (by decide) rfl hl.1 rfl (Nat.le_of_ble_eq_true rfl) d_Wr_putSort_1 ⟨Nat.le_of_ble_eq_true rfl, Nat.le_of_ble_eq_true rfl⟩ (fun qz24 H locs hP hD hS => ?_)
  have hP : va_P (dC, dI) vwCl [(h_t, .inr (6, [.ref h_t_shown, .ref h_t_draft])), (h_t_shown, .inr (0, [.ref h_t_shown_row, .int t_shown_length, .int t_shown_overrun])), (h_t_shown_row, .inl (cB, 8000, .inl t_shown_row)), (h_t_draft, .inr (0, [.ref h_t_draft_row, .int o23.2.1, .int o23.2.2])), (h_t_draft_row, .inl (cB, 8000, .inl o23.1))] H := hP
  have hD : va_D A [(h_t, .inr (6, [.ref h_t_shown, .ref h_t_draft])), (h_t_shown, .inr (0, [.ref h_t_shown_row, .int t_shown_length, .int t_shown_overrun])), (h_t_shown_row, .inl (cB, 8000, .inl t_shown_row)), (h_t_draft, .inr (0, [.ref h_t_draft_row, .int o23.2.1, .int o23.2.2])), (h_t_draft_row, .inl (cB, 8000, .inl o23.1))] := hD
  refine lv_aload_n hx hb d_Wr_putSort_4 rfl (lv_at hl 0 rfl) ?_
  refine lv_iload_n hx hb d_Wr_putSort_5 rfl (lv_at hl 1 rfl) ?_
  refine lv_if_gt (tgt := 14) hx hb d_Wr_putSort_6 (by decide) (fun c6 => ?_) (fun c6 => ?_)
  · rw [if_pos c6] at hf
    refine va_ldcS hx hb hown (hJ.T 24 (by decide)) d_Wr_putSort_14 ?_
    exact B16 o23.1 o23.2.1 o23.2.2 a1 24 H locs ls hf hP hD hS (lv_sub hl [0, 1] rfl)
  · rw [if_neg c6] at hf
    refine va_ldcS hx hb hown (hJ.T 23 (by decide)) d_Wr_putSort_9 ?_
    refine lv_goto (tgt := 16) hx hb d_Wr_putSort_11 (by decide) ?_
    exact B16 o23.1 o23.2.1 o23.2.2 a1 23 H locs ls hf hP hD hS (lv_sub hl [0, 1] rfl)
theorem d_Wr_putName_0 : decode b_Wr_putName 0 = .ok (.aload_n 0, 1) := by decide +kernel
theorem d_Wr_putName_1 : decode b_Wr_putName 1 = .ok (.invokevirtual 105, 3) := by decide +kernel
theorem d_Wr_putName_4 : decode b_Wr_putName 4 = .ok (.aload_n 1, 1) := by decide +kernel
theorem d_Wr_putName_5 : decode b_Wr_putName 5 = .ok (.iload_n 2, 1) := by decide +kernel
theorem d_Wr_putName_6 : decode b_Wr_putName 6 = .ok (.invokevirtual 116, 3) := by decide +kernel
theorem d_Wr_putName_9 : decode b_Wr_putName 9 = .ok (.istore_n 3, 1) := by decide +kernel
theorem d_Wr_putName_10 : decode b_Wr_putName 10 = .ok (.iconst 0, 1) := by decide +kernel
theorem d_Wr_putName_11 : decode b_Wr_putName 11 = .ok (.istore 4, 2) := by decide +kernel
theorem d_Wr_putName_13 : decode b_Wr_putName 13 = .ok (.iload 4, 2) := by decide +kernel
theorem d_Wr_putName_15 : decode b_Wr_putName 15 = .ok (.iload_n 3, 1) := by decide +kernel
theorem d_Wr_putName_16 : decode b_Wr_putName 16 = .ok (.if_icmp .ge 23, 3) := by decide +kernel
theorem d_Wr_putName_19 : decode b_Wr_putName 19 = .ok (.aload_n 0, 1) := by decide +kernel
theorem d_Wr_putName_20 : decode b_Wr_putName 20 = .ok (.getfield 18, 3) := by decide +kernel
theorem d_Wr_putName_23 : decode b_Wr_putName 23 = .ok (.aload_n 1, 1) := by decide +kernel
theorem d_Wr_putName_24 : decode b_Wr_putName 24 = .ok (.iload_n 2, 1) := by decide +kernel
theorem d_Wr_putName_25 : decode b_Wr_putName 25 = .ok (.iload 4, 2) := by decide +kernel
theorem d_Wr_putName_27 : decode b_Wr_putName 27 = .ok (.invokevirtual 121, 3) := by decide +kernel
theorem d_Wr_putName_30 : decode b_Wr_putName 30 = .ok (.invokevirtual 93, 3) := by decide +kernel
theorem d_Wr_putName_33 : decode b_Wr_putName 33 = .ok (.iinc 4 1, 3) := by decide +kernel
theorem d_Wr_putName_36 : decode b_Wr_putName 36 = .ok (.goto (-23), 3) := by decide +kernel
theorem d_Wr_putName_39 : decode b_Wr_putName 39 = .ok (.return_, 1) := by decide +kernel
noncomputable def Wr_putName_b13_s (p1_spelling : (Nat → Int32)) (p1_starts : (Nat → Int32)) (p1_count : Int32) (l2 : Int32) (l3 : Int32) (t_draft_row : (Nat → Int32)) (t_draft_length : Int32) (t_draft_overrun : Int32) (l4 : Int32) : Option (((Nat → Int32) × Int32 × Int32 × Int32) ⊕ ((Nat → Int32) × Int32 × Int32)) := if l3 ≤ l4 then (some (.inr (t_draft_row, t_draft_length, t_draft_overrun))) else (jb (f_Na_byteOf p1_spelling p1_starts p1_count l2 l4) (fun o9 => jb (f_By_put t_draft_row t_draft_length t_draft_overrun o9) (fun o11 => some (.inl (o11.1, o11.2.1, o11.2.2, (l4 + (1 : Int32)))))))
noncomputable def Wr_putName_b13_b (p1_spelling : (Nat → Int32)) (p1_starts : (Nat → Int32)) (p1_count : Int32) (l2 : Int32) (l3 : Int32) : ((Nat → Int32) × Int32 × Int32 × Int32) → Option (((Nat → Int32) × Int32 × Int32 × Int32) ⊕ ((Nat → Int32) × Int32 × Int32)) := fun x => Wr_putName_b13_s p1_spelling p1_starts p1_count l2 l3 x.1 x.2.1 x.2.2.1 x.2.2.2
noncomputable def Wr_putName_b13 (p1_spelling : (Nat → Int32)) (p1_starts : (Nat → Int32)) (p1_count : Int32) (t_draft_row : (Nat → Int32)) (t_draft_length : Int32) (t_draft_overrun : Int32) (l2 : Int32) (l3 : Int32) (l4 : Int32) : Option ((Nat → Int32) × Int32 × Int32) := jl (Wr_putName_b13_b p1_spelling p1_starts p1_count l2 l3) (t_draft_row, t_draft_length, t_draft_overrun, l4)
noncomputable def f_Wr_putName (p1_spelling : (Nat → Int32)) (p1_starts : (Nat → Int32)) (p1_count : Int32) (t_draft_row : (Nat → Int32)) (t_draft_length : Int32) (t_draft_overrun : Int32) (a2 : Int32) : Option ((Nat → Int32) × Int32 × Int32) := jb (f_Wr_putBlank t_draft_row t_draft_length t_draft_overrun) (fun o13 => jb (f_Na_lengthOf p1_starts p1_count a2) (fun o15 => Wr_putName_b13 p1_spelling p1_starts p1_count o13.1 o13.2.1 o13.2.2 a2 o15 (0 : Int32)))
set_option maxHeartbeats 4000000 in
set_option maxRecDepth 100000 in
theorem c_Wr_putName {l : Launch} {dC : Nat → ClassId} {dI : Nat → Nat → Nat} {cI cB cS : ClassId} {adK adV adR : Nat → Nat} (h_t h_t_shown h_t_shown_row h_t_draft h_t_draft_row h_p1 h_p1_spelling h_p1_starts h_p1_newest h_p1_older : Nat) (t_shown_row : (Nat → Int32)) (t_shown_length : Int32) (t_shown_overrun : Int32) (t_draft_row : (Nat → Int32)) (t_draft_length : Int32) (t_draft_overrun : Int32) (p1_spelling : (Nat → Int32)) (p1_starts : (Nat → Int32)) (p1_newest : (Nat → Int32)) (p1_older : (Nat → Int32)) (p1_count : Int32) (a2 : Int32) {o : ((Nat → Int32) × Int32 × Int32)} (hf : f_Wr_putName p1_spelling p1_starts p1_count t_draft_row t_draft_length t_draft_overrun a2 = some o) : jMet l dC dI cI cB cS adK adV adR y_Wr_putName wd_Wr_putName { frames := 2, cells := 0, slots := 0, locals := 43 } [.ref h_t, .ref h_p1, .int a2] [(h_t, .inr (6, [.ref h_t_shown, .ref h_t_draft])), (h_t_shown, .inr (0, [.ref h_t_shown_row, .int t_shown_length, .int t_shown_overrun])), (h_t_shown_row, .inl (cB, 8000, .inl t_shown_row)), (h_t_draft, .inr (0, [.ref h_t_draft_row, .int t_draft_length, .int t_draft_overrun])), (h_t_draft_row, .inl (cB, 8000, .inl t_draft_row)), (h_p1, .inr (2, [.ref h_p1_spelling, .ref h_p1_starts, .ref h_p1_newest, .ref h_p1_older, .int p1_count])), (h_p1_spelling, .inl (cB, 12288, .inl p1_spelling)), (h_p1_starts, .inl (cI, 4097, .inl p1_starts)), (h_p1_newest, .inl (cI, 1024, .inl p1_newest)), (h_p1_older, .inl (cI, 4096, .inl p1_older))] (none) (fun q => [(h_t, .inr (6, [.ref h_t_shown, .ref h_t_draft])), (h_t_shown, .inr (0, [.ref h_t_shown_row, .int t_shown_length, .int t_shown_overrun])), (h_t_shown_row, .inl (cB, 8000, .inl t_shown_row)), (h_t_draft, .inr (0, [.ref h_t_draft_row, .int o.2.1, .int o.2.2])), (h_t_draft_row, .inl (cB, 8000, .inl o.1)), (h_p1, .inr (2, [.ref h_p1_spelling, .ref h_p1_starts, .ref h_p1_newest, .ref h_p1_older, .int p1_count])), (h_p1_spelling, .inl (cB, 12288, .inl p1_spelling)), (h_p1_starts, .inl (cI, 4097, .inl p1_starts)), (h_p1_newest, .inl (cI, 1024, .inl p1_newest)), (h_p1_older, .inl (cI, 4096, .inl p1_older))]) 0 0 := by
  refine jEntry (cc := b_Wr_putName) (maxL := 5) (ret := none) (by decide) rfl (Nat.le_of_ble_eq_true rfl) rfl (fun p e s m args below meth c A H locs ls Q hQ hx hb hr hml hown hts hlocks hnm hJ hA hP hD hS hl => ?_)
  have hK := hJ.K
  have hl : lv_has ls 5 [(0, .ref h_t), (1, .ref h_p1), (2, .int a2)] := hl
  have L13 : ∀ (n13 : Nat) (t_draft_row : (Nat → Int32)) (t_draft_length : Int32) (t_draft_overrun : Int32) (l2 : Int32) (l3 : Int32) (l4 : Int32) (H : Heap) (locs : List Loc) (ls : Array Slot), jl_n (Wr_putName_b13_b p1_spelling p1_starts p1_count l2 l3) n13 (t_draft_row, t_draft_length, t_draft_overrun, l4) = some o → va_P (dC, dI) vwCl [(h_t, .inr (6, [.ref h_t_shown, .ref h_t_draft])), (h_t_shown, .inr (0, [.ref h_t_shown_row, .int t_shown_length, .int t_shown_overrun])), (h_t_shown_row, .inl (cB, 8000, .inl t_shown_row)), (h_t_draft, .inr (0, [.ref h_t_draft_row, .int t_draft_length, .int t_draft_overrun])), (h_t_draft_row, .inl (cB, 8000, .inl t_draft_row)), (h_p1, .inr (2, [.ref h_p1_spelling, .ref h_p1_starts, .ref h_p1_newest, .ref h_p1_older, .int p1_count])), (h_p1_spelling, .inl (cB, 12288, .inl p1_spelling)), (h_p1_starts, .inl (cI, 4097, .inl p1_starts)), (h_p1_newest, .inl (cI, 1024, .inl p1_newest)), (h_p1_older, .inl (cI, 4096, .inl p1_older))] H → va_D A [(h_t, .inr (6, [.ref h_t_shown, .ref h_t_draft])), (h_t_shown, .inr (0, [.ref h_t_shown_row, .int t_shown_length, .int t_shown_overrun])), (h_t_shown_row, .inl (cB, 8000, .inl t_shown_row)), (h_t_draft, .inr (0, [.ref h_t_draft_row, .int t_draft_length, .int t_draft_overrun])), (h_t_draft_row, .inl (cB, 8000, .inl t_draft_row)), (h_p1, .inr (2, [.ref h_p1_spelling, .ref h_p1_starts, .ref h_p1_newest, .ref h_p1_older, .int p1_count])), (h_p1_spelling, .inl (cB, 12288, .inl p1_spelling)), (h_p1_starts, .inl (cI, 4097, .inl p1_starts)), (h_p1_newest, .inl (cI, 1024, .inl p1_newest)), (h_p1_older, .inl (cI, 4096, .inl p1_older))] → va_S A s.heap H locs → lv_has ls 5 [(0, .ref h_t), (1, .ref h_p1), (2, .int l2), (3, .int l3), (4, .int l4)] → W p l e { frames := 2, cells := 0, slots := 0, locals := 43 } s m args below meth c H locs 0 0 Q (F0 m 13 ls []) := by
    intro n13
    induction n13 with
    | zero => intro t_draft_row t_draft_length t_draft_overrun l2 l3 l4 H locs ls hf; simp only [jl_n_zero, jl_b_none, reduceCtorEq] at hf
    | succ n13 ih13 =>
      intro t_draft_row t_draft_length t_draft_overrun l2 l3 l4 H locs ls hf hP hD hS hl
      rw [jl_n_succ] at hf
      have hf : jl_b (jl_n (Wr_putName_b13_b p1_spelling p1_starts p1_count l2 l3) n13) (Wr_putName_b13_s p1_spelling p1_starts p1_count l2 l3 t_draft_row t_draft_length t_draft_overrun l4) = some o := hf
      unfold Wr_putName_b13_s at hf
      refine lv_iload hx hb d_Wr_putName_13 (lv_at hl 4 rfl) ?_
      refine lv_iload_n hx hb d_Wr_putName_15 rfl (lv_at hl 3 rfl) ?_
      refine lv_icmp_ge (tgt := 39) hx hb d_Wr_putName_16 (by decide) (fun c16 => ?_) (fun c16 => ?_)
      · rw [if_pos c16] at hf
        have hf : (some (t_draft_row, t_draft_length, t_draft_overrun) : Option ((Nat → Int32) × Int32 × Int32)) = some o := hf
        rw [hQ, ← Option.some.inj hf]
        exact jVret hx hb hr hlocks d_Wr_putName_39 (fun _ => 0) hS hP hD
      · rw [if_neg c16] at hf
        refine lv_aload_n hx hb d_Wr_putName_19 rfl (lv_at hl 0 rfl) ?_
        refine va_get (D := (dC, dI)) (ci := 6) (v := .ref h_t_draft) (C := R_Wr) (T := T_Wr) (N := 2) hx hb hts (fun w h => List.mem_cons_of_mem _ (in_Wr w h)) hown hK hP 0 rfl rfl 1 (by decide) (hts _ (List.mem_cons_of_mem _ jw348)) (fun _ h9 => h9) rfl d_Wr_putName_20 ?_
        refine lv_aload_n hx hb d_Wr_putName_23 rfl (lv_at hl 1 rfl) ?_
        refine lv_iload_n hx hb d_Wr_putName_24 rfl (lv_at hl 2 rfl) ?_
        refine lv_iload hx hb d_Wr_putName_25 (lv_at hl 4 rfl) ?_
        obtain ⟨o17, ho17⟩ : ∃ z, f_Na_byteOf p1_spelling p1_starts p1_count l2 l4 = some z := by
          cases hz : f_Na_byteOf p1_spelling p1_starts p1_count l2 l4 with
          | none => rw [hz] at hf; simp only [jb_none, jl_b_none, jm_none, reduceCtorEq] at hf
          | some z => exact ⟨z, rfl⟩
        rw [ho17, jb_some] at hf
        refine jCallV (As := [.int l2, .int l4]) (rest := [.ref h_t_draft]) (wr := [(h_t, .inr (6, [.ref h_t_shown, .ref h_t_draft])), (h_t_shown, .inr (0, [.ref h_t_shown_row, .int t_shown_length, .int t_shown_overrun])), (h_t_shown_row, .inl (cB, 8000, .inl t_shown_row)), (h_t_draft, .inr (0, [.ref h_t_draft_row, .int t_draft_length, .int t_draft_overrun])), (h_t_draft_row, .inl (cB, 8000, .inl t_draft_row))]) ⟨hx, hb, hml, hown, hts⟩ hJ (c_Na_byteOf h_p1 h_p1_spelling h_p1_starts h_p1_newest h_p1_older p1_spelling p1_starts p1_newest p1_older p1_count l2 l4 ho17) (cwV 2 hts (jgV jw364 jw58 jw59 jw49 jw57) rfl rfl rfl dd_Na_byteOf ⟨Nat.le_of_ble_eq_true rfl, Nat.le_of_ble_eq_true rfl⟩) hP hD hS hA (va_recv hK hP (ci := 2) (q0 := 5) rfl rfl) [5, 6, 7, 8, 9] [0, 1, 2, 3, 4] rfl rfl (by decide) (by decide) (by decide) rfl hl.1 rfl (Nat.le_of_ble_eq_true rfl) d_Wr_putName_27 ⟨Nat.le_of_ble_eq_true rfl, Nat.le_of_ble_eq_true rfl⟩ (fun qz18 H locs hP hD hS => ?_)
        have hP : va_P (dC, dI) vwCl [(h_t, .inr (6, [.ref h_t_shown, .ref h_t_draft])), (h_t_shown, .inr (0, [.ref h_t_shown_row, .int t_shown_length, .int t_shown_overrun])), (h_t_shown_row, .inl (cB, 8000, .inl t_shown_row)), (h_t_draft, .inr (0, [.ref h_t_draft_row, .int t_draft_length, .int t_draft_overrun])), (h_t_draft_row, .inl (cB, 8000, .inl t_draft_row)), (h_p1, .inr (2, [.ref h_p1_spelling, .ref h_p1_starts, .ref h_p1_newest, .ref h_p1_older, .int p1_count])), (h_p1_spelling, .inl (cB, 12288, .inl p1_spelling)), (h_p1_starts, .inl (cI, 4097, .inl p1_starts)), (h_p1_newest, .inl (cI, 1024, .inl p1_newest)), (h_p1_older, .inl (cI, 4096, .inl p1_older))] H := hP
        have hD : va_D A [(h_t, .inr (6, [.ref h_t_shown, .ref h_t_draft])), (h_t_shown, .inr (0, [.ref h_t_shown_row, .int t_shown_length, .int t_shown_overrun])), (h_t_shown_row, .inl (cB, 8000, .inl t_shown_row)), (h_t_draft, .inr (0, [.ref h_t_draft_row, .int t_draft_length, .int t_draft_overrun])), (h_t_draft_row, .inl (cB, 8000, .inl t_draft_row)), (h_p1, .inr (2, [.ref h_p1_spelling, .ref h_p1_starts, .ref h_p1_newest, .ref h_p1_older, .int p1_count])), (h_p1_spelling, .inl (cB, 12288, .inl p1_spelling)), (h_p1_starts, .inl (cI, 4097, .inl p1_starts)), (h_p1_newest, .inl (cI, 1024, .inl p1_newest)), (h_p1_older, .inl (cI, 4096, .inl p1_older))] := hD
        obtain ⟨o19, ho19⟩ : ∃ z, f_By_put t_draft_row t_draft_length t_draft_overrun o17 = some z := by
          cases hz : f_By_put t_draft_row t_draft_length t_draft_overrun o17 with
          | none => rw [hz] at hf; simp only [jb_none, jl_b_none, jm_none, reduceCtorEq] at hf
          | some z => exact ⟨z, rfl⟩
        rw [ho19, jb_some] at hf
        refine jCallV (As := [.int o17]) (rest := []) (wr := [(h_t, .inr (6, [.ref h_t_shown, .ref h_t_draft])), (h_t_shown, .inr (0, [.ref h_t_shown_row, .int t_shown_length, .int t_shown_overrun])), (h_t_shown_row, .inl (cB, 8000, .inl t_shown_row)), (h_p1, .inr (2, [.ref h_p1_spelling, .ref h_p1_starts, .ref h_p1_newest, .ref h_p1_older, .int p1_count])), (h_p1_spelling, .inl (cB, 12288, .inl p1_spelling)), (h_p1_starts, .inl (cI, 4097, .inl p1_starts)), (h_p1_newest, .inl (cI, 1024, .inl p1_newest)), (h_p1_older, .inl (cI, 4096, .inl p1_older))]) ⟨hx, hb, hml, hown, hts⟩ hJ (c_By_put h_t_draft h_t_draft_row t_draft_row t_draft_length t_draft_overrun o17 ho19) (cwV 1 hts (jgV jw351 jw34 jw35 jw33 jw32) rfl rfl rfl dd_By_put ⟨Nat.le_of_ble_eq_true rfl, Nat.le_of_ble_eq_true rfl⟩) hP hD hS hA (va_recv hK hP (ci := 0) (q0 := 3) rfl rfl) [3, 4] [0, 1, 2, 5, 6, 7, 8, 9] rfl rfl (by decide) (by decide) (by decide) rfl hl.1 rfl (Nat.le_of_ble_eq_true rfl) d_Wr_putName_30 ⟨Nat.le_of_ble_eq_true rfl, Nat.le_of_ble_eq_true rfl⟩ (fun qz20 H locs hP hD hS => ?_)
        have hP : va_P (dC, dI) vwCl [(h_t, .inr (6, [.ref h_t_shown, .ref h_t_draft])), (h_t_shown, .inr (0, [.ref h_t_shown_row, .int t_shown_length, .int t_shown_overrun])), (h_t_shown_row, .inl (cB, 8000, .inl t_shown_row)), (h_p1, .inr (2, [.ref h_p1_spelling, .ref h_p1_starts, .ref h_p1_newest, .ref h_p1_older, .int p1_count])), (h_p1_spelling, .inl (cB, 12288, .inl p1_spelling)), (h_p1_starts, .inl (cI, 4097, .inl p1_starts)), (h_p1_newest, .inl (cI, 1024, .inl p1_newest)), (h_p1_older, .inl (cI, 4096, .inl p1_older)), (h_t_draft, .inr (0, [.ref h_t_draft_row, .int o19.2.1, .int o19.2.2])), (h_t_draft_row, .inl (cB, 8000, .inl o19.1))] H := hP
        have hD : va_D A [(h_t, .inr (6, [.ref h_t_shown, .ref h_t_draft])), (h_t_shown, .inr (0, [.ref h_t_shown_row, .int t_shown_length, .int t_shown_overrun])), (h_t_shown_row, .inl (cB, 8000, .inl t_shown_row)), (h_p1, .inr (2, [.ref h_p1_spelling, .ref h_p1_starts, .ref h_p1_newest, .ref h_p1_older, .int p1_count])), (h_p1_spelling, .inl (cB, 12288, .inl p1_spelling)), (h_p1_starts, .inl (cI, 4097, .inl p1_starts)), (h_p1_newest, .inl (cI, 1024, .inl p1_newest)), (h_p1_older, .inl (cI, 4096, .inl p1_older)), (h_t_draft, .inr (0, [.ref h_t_draft_row, .int o19.2.1, .int o19.2.2])), (h_t_draft_row, .inl (cB, 8000, .inl o19.1))] := hD
        refine lv_iinc (v := l4 + (1 : Int32)) (lv' := [(4, .int (l4 + (1 : Int32))), (0, .ref h_t), (1, .ref h_p1), (2, .int l2), (3, .int l3)]) hx hb d_Wr_putName_33 hl (k := 4) rfl rfl (by decide) rfl (fun ls hl => ?_)
        refine lv_goto (tgt := 13) hx hb d_Wr_putName_36 (by decide) ?_
        exact ih13 o19.1 o19.2.1 o19.2.2 l2 l3 (l4 + (1 : Int32)) H locs ls hf (hP.sub [0, 1, 2, 8, 9, 3, 4, 5, 6, 7] rfl) (hD.sub [0, 1, 2, 8, 9, 3, 4, 5, 6, 7] (by decide) rfl) hS (lv_sub hl [1, 2, 3, 4, 0] rfl)
  unfold f_Wr_putName at hf
  refine lv_aload_n hx hb d_Wr_putName_0 rfl (lv_at hl 0 rfl) ?_
  obtain ⟨o21, ho21⟩ : ∃ z, f_Wr_putBlank t_draft_row t_draft_length t_draft_overrun = some z := by
    cases hz : f_Wr_putBlank t_draft_row t_draft_length t_draft_overrun with
    | none => rw [hz] at hf; simp only [jb_none, jl_b_none, jm_none, reduceCtorEq] at hf
    | some z => exact ⟨z, rfl⟩
  rw [ho21, jb_some] at hf
  refine jCallV (As := []) (rest := []) (wr := [(h_p1, .inr (2, [.ref h_p1_spelling, .ref h_p1_starts, .ref h_p1_newest, .ref h_p1_older, .int p1_count])), (h_p1_spelling, .inl (cB, 12288, .inl p1_spelling)), (h_p1_starts, .inl (cI, 4097, .inl p1_starts)), (h_p1_newest, .inl (cI, 1024, .inl p1_newest)), (h_p1_older, .inl (cI, 4096, .inl p1_older))]) ⟨hx, hb, hml, hown, hts⟩ hJ (c_Wr_putBlank h_t h_t_shown h_t_shown_row h_t_draft h_t_draft_row t_shown_row t_shown_length t_shown_overrun t_draft_row t_draft_length t_draft_overrun ho21) (cwV 0 hts (jgV jw354 jw357 jw358 jw356 jw355) rfl rfl rfl dd_Wr_putBlank ⟨Nat.le_of_ble_eq_true rfl, Nat.le_of_ble_eq_true rfl⟩) hP hD hS hA (va_recv hK hP (ci := 6) (q0 := 0) rfl rfl) [0, 1, 2, 3, 4] [5, 6, 7, 8, 9] rfl rfl (by decide) (by decide) (by decide) rfl hl.1 rfl (Nat.le_of_ble_eq_true rfl) d_Wr_putName_1 ⟨Nat.le_of_ble_eq_true rfl, Nat.le_of_ble_eq_true rfl⟩ (fun qz22 H locs hP hD hS => ?_)
  have hP : va_P (dC, dI) vwCl [(h_p1, .inr (2, [.ref h_p1_spelling, .ref h_p1_starts, .ref h_p1_newest, .ref h_p1_older, .int p1_count])), (h_p1_spelling, .inl (cB, 12288, .inl p1_spelling)), (h_p1_starts, .inl (cI, 4097, .inl p1_starts)), (h_p1_newest, .inl (cI, 1024, .inl p1_newest)), (h_p1_older, .inl (cI, 4096, .inl p1_older)), (h_t, .inr (6, [.ref h_t_shown, .ref h_t_draft])), (h_t_shown, .inr (0, [.ref h_t_shown_row, .int t_shown_length, .int t_shown_overrun])), (h_t_shown_row, .inl (cB, 8000, .inl t_shown_row)), (h_t_draft, .inr (0, [.ref h_t_draft_row, .int o21.2.1, .int o21.2.2])), (h_t_draft_row, .inl (cB, 8000, .inl o21.1))] H := hP
  have hD : va_D A [(h_p1, .inr (2, [.ref h_p1_spelling, .ref h_p1_starts, .ref h_p1_newest, .ref h_p1_older, .int p1_count])), (h_p1_spelling, .inl (cB, 12288, .inl p1_spelling)), (h_p1_starts, .inl (cI, 4097, .inl p1_starts)), (h_p1_newest, .inl (cI, 1024, .inl p1_newest)), (h_p1_older, .inl (cI, 4096, .inl p1_older)), (h_t, .inr (6, [.ref h_t_shown, .ref h_t_draft])), (h_t_shown, .inr (0, [.ref h_t_shown_row, .int t_shown_length, .int t_shown_overrun])), (h_t_shown_row, .inl (cB, 8000, .inl t_shown_row)), (h_t_draft, .inr (0, [.ref h_t_draft_row, .int o21.2.1, .int o21.2.2])), (h_t_draft_row, .inl (cB, 8000, .inl o21.1))] := hD
  refine lv_aload_n hx hb d_Wr_putName_4 rfl (lv_at hl 1 rfl) ?_
  refine lv_iload_n hx hb d_Wr_putName_5 rfl (lv_at hl 2 rfl) ?_
  obtain ⟨o23, ho23⟩ : ∃ z, f_Na_lengthOf p1_starts p1_count a2 = some z := by
    cases hz : f_Na_lengthOf p1_starts p1_count a2 with
    | none => rw [hz] at hf; simp only [jb_none, jl_b_none, jm_none, reduceCtorEq] at hf
    | some z => exact ⟨z, rfl⟩
  rw [ho23, jb_some] at hf
  refine jCallV (As := [.int a2]) (rest := []) (wr := [(h_t, .inr (6, [.ref h_t_shown, .ref h_t_draft])), (h_t_shown, .inr (0, [.ref h_t_shown_row, .int t_shown_length, .int t_shown_overrun])), (h_t_shown_row, .inl (cB, 8000, .inl t_shown_row)), (h_t_draft, .inr (0, [.ref h_t_draft_row, .int o21.2.1, .int o21.2.2])), (h_t_draft_row, .inl (cB, 8000, .inl o21.1))]) ⟨hx, hb, hml, hown, hts⟩ hJ (c_Na_lengthOf h_p1 h_p1_spelling h_p1_starts h_p1_newest h_p1_older p1_spelling p1_starts p1_newest p1_older p1_count a2 ho23) (cwV 1 hts (jgV jw363 jw50 jw51 jw49 jw48) rfl rfl rfl dd_Na_lengthOf ⟨Nat.le_of_ble_eq_true rfl, Nat.le_of_ble_eq_true rfl⟩) hP hD hS hA (va_recv hK hP (ci := 2) (q0 := 0) rfl rfl) [0, 1, 2, 3, 4] [5, 6, 7, 8, 9] rfl rfl (by decide) (by decide) (by decide) rfl hl.1 rfl (Nat.le_of_ble_eq_true rfl) d_Wr_putName_6 ⟨Nat.le_of_ble_eq_true rfl, Nat.le_of_ble_eq_true rfl⟩ (fun qz24 H locs hP hD hS => ?_)
  have hP : va_P (dC, dI) vwCl [(h_t, .inr (6, [.ref h_t_shown, .ref h_t_draft])), (h_t_shown, .inr (0, [.ref h_t_shown_row, .int t_shown_length, .int t_shown_overrun])), (h_t_shown_row, .inl (cB, 8000, .inl t_shown_row)), (h_t_draft, .inr (0, [.ref h_t_draft_row, .int o21.2.1, .int o21.2.2])), (h_t_draft_row, .inl (cB, 8000, .inl o21.1)), (h_p1, .inr (2, [.ref h_p1_spelling, .ref h_p1_starts, .ref h_p1_newest, .ref h_p1_older, .int p1_count])), (h_p1_spelling, .inl (cB, 12288, .inl p1_spelling)), (h_p1_starts, .inl (cI, 4097, .inl p1_starts)), (h_p1_newest, .inl (cI, 1024, .inl p1_newest)), (h_p1_older, .inl (cI, 4096, .inl p1_older))] H := hP
  have hD : va_D A [(h_t, .inr (6, [.ref h_t_shown, .ref h_t_draft])), (h_t_shown, .inr (0, [.ref h_t_shown_row, .int t_shown_length, .int t_shown_overrun])), (h_t_shown_row, .inl (cB, 8000, .inl t_shown_row)), (h_t_draft, .inr (0, [.ref h_t_draft_row, .int o21.2.1, .int o21.2.2])), (h_t_draft_row, .inl (cB, 8000, .inl o21.1)), (h_p1, .inr (2, [.ref h_p1_spelling, .ref h_p1_starts, .ref h_p1_newest, .ref h_p1_older, .int p1_count])), (h_p1_spelling, .inl (cB, 12288, .inl p1_spelling)), (h_p1_starts, .inl (cI, 4097, .inl p1_starts)), (h_p1_newest, .inl (cI, 1024, .inl p1_newest)), (h_p1_older, .inl (cI, 4096, .inl p1_older))] := hD
  refine lv_istore_n (lv' := [(3, .int o23), (0, .ref h_t), (1, .ref h_p1), (2, .int a2)]) hx hb d_Wr_putName_9 rfl hl (by decide) rfl (fun ls hl => ?_)
  refine lv_iconst (v := (0 : Int32)) hx hb d_Wr_putName_10 (by decide) ?_
  refine lv_istore (lv' := [(4, .int (0 : Int32)), (3, .int o23), (0, .ref h_t), (1, .ref h_p1), (2, .int a2)]) hx hb d_Wr_putName_11 hl (by decide) rfl (fun ls hl => ?_)
  unfold Wr_putName_b13 at hf
  obtain ⟨nn, en⟩ := jl_ex (Wr_putName_b13_b p1_spelling p1_starts p1_count a2 o23) (o21.1, o21.2.1, o21.2.2, (0 : Int32))
  rw [en] at hf
  exact L13 nn o21.1 o21.2.1 o21.2.2 a2 o23 (0 : Int32) H locs ls hf hP hD hS (lv_sub hl [2, 3, 4, 1, 0] rfl)
theorem d_Wr_putToken_0 : decode b_Wr_putToken 0 = .ok (.iload_n 1, 1) := by decide +kernel
theorem d_Wr_putToken_1 : decode b_Wr_putToken 1 = .ok (.ifCond .ne 4, 3) := by decide +kernel
theorem d_Wr_putToken_4 : decode b_Wr_putToken 4 = .ok (.return_, 1) := by decide +kernel
theorem d_Wr_putToken_5 : decode b_Wr_putToken 5 = .ok (.iload_n 1, 1) := by decide +kernel
theorem d_Wr_putToken_6 : decode b_Wr_putToken 6 = .ok (.bipush 16, 2) := by decide +kernel
theorem d_Wr_putToken_8 : decode b_Wr_putToken 8 = .ok (.if_icmp .eq 25, 3) := by decide +kernel
theorem d_Wr_putToken_11 : decode b_Wr_putToken 11 = .ok (.iload_n 1, 1) := by decide +kernel
theorem d_Wr_putToken_12 : decode b_Wr_putToken 12 = .ok (.bipush 17, 2) := by decide +kernel
theorem d_Wr_putToken_14 : decode b_Wr_putToken 14 = .ok (.if_icmp .eq 19, 3) := by decide +kernel
theorem d_Wr_putToken_17 : decode b_Wr_putToken 17 = .ok (.iload_n 1, 1) := by decide +kernel
theorem d_Wr_putToken_18 : decode b_Wr_putToken 18 = .ok (.bipush 21, 2) := by decide +kernel
theorem d_Wr_putToken_20 : decode b_Wr_putToken 20 = .ok (.if_icmp .eq 13, 3) := by decide +kernel
theorem d_Wr_putToken_23 : decode b_Wr_putToken 23 = .ok (.iload_n 1, 1) := by decide +kernel
theorem d_Wr_putToken_24 : decode b_Wr_putToken 24 = .ok (.bipush 22, 2) := by decide +kernel
theorem d_Wr_putToken_26 : decode b_Wr_putToken 26 = .ok (.if_icmp .eq 7, 3) := by decide +kernel
theorem d_Wr_putToken_29 : decode b_Wr_putToken 29 = .ok (.aload_n 0, 1) := by decide +kernel
theorem d_Wr_putToken_30 : decode b_Wr_putToken 30 = .ok (.invokevirtual 105, 3) := by decide +kernel
theorem d_Wr_putToken_33 : decode b_Wr_putToken 33 = .ok (.aload_n 0, 1) := by decide +kernel
theorem d_Wr_putToken_34 : decode b_Wr_putToken 34 = .ok (.iload_n 1, 1) := by decide +kernel
theorem d_Wr_putToken_35 : decode b_Wr_putToken 35 = .ok (.invokestatic 108, 3) := by decide +kernel
theorem d_Wr_putToken_38 : decode b_Wr_putToken 38 = .ok (.invokevirtual 112, 3) := by decide +kernel
theorem d_Wr_putToken_41 : decode b_Wr_putToken 41 = .ok (.return_, 1) := by decide +kernel
noncomputable def Wr_putToken_b33  (t_draft_row : (Nat → Int32)) (t_draft_length : Int32) (t_draft_overrun : Int32) (l1 : Int32) : Option ((Nat → Int32) × Int32 × Int32) := jb (f_To_spelling l1) (fun o7 => jb (f_Wr_putText t_draft_row t_draft_length t_draft_overrun o7) (fun o9 => some (o9.1, o9.2.1, o9.2.2)))
noncomputable def f_Wr_putToken  (t_draft_row : (Nat → Int32)) (t_draft_length : Int32) (t_draft_overrun : Int32) (a1 : Int32) : Option ((Nat → Int32) × Int32 × Int32) := if a1 = 0 then (some (t_draft_row, t_draft_length, t_draft_overrun)) else (if a1 = (16 : Int32) then (Wr_putToken_b33 t_draft_row t_draft_length t_draft_overrun a1) else (if a1 = (17 : Int32) then (Wr_putToken_b33 t_draft_row t_draft_length t_draft_overrun a1) else (if a1 = (21 : Int32) then (Wr_putToken_b33 t_draft_row t_draft_length t_draft_overrun a1) else (if a1 = (22 : Int32) then (Wr_putToken_b33 t_draft_row t_draft_length t_draft_overrun a1) else (jb (f_Wr_putBlank t_draft_row t_draft_length t_draft_overrun) (fun o11 => Wr_putToken_b33 o11.1 o11.2.1 o11.2.2 a1))))))
set_option maxHeartbeats 4000000 in
set_option maxRecDepth 100000 in
theorem c_Wr_putToken {l : Launch} {dC : Nat → ClassId} {dI : Nat → Nat → Nat} {cI cB cS : ClassId} {adK adV adR : Nat → Nat} (h_t h_t_shown h_t_shown_row h_t_draft h_t_draft_row : Nat) (t_shown_row : (Nat → Int32)) (t_shown_length : Int32) (t_shown_overrun : Int32) (t_draft_row : (Nat → Int32)) (t_draft_length : Int32) (t_draft_overrun : Int32) (a1 : Int32) {o : ((Nat → Int32) × Int32 × Int32)} (hf : f_Wr_putToken t_draft_row t_draft_length t_draft_overrun a1 = some o) : jMet l dC dI cI cB cS adK adV adR y_Wr_putToken wd_Wr_putToken { frames := 5, cells := 0, slots := 0, locals := 107 } [.ref h_t, .int a1] [(h_t, .inr (6, [.ref h_t_shown, .ref h_t_draft])), (h_t_shown, .inr (0, [.ref h_t_shown_row, .int t_shown_length, .int t_shown_overrun])), (h_t_shown_row, .inl (cB, 8000, .inl t_shown_row)), (h_t_draft, .inr (0, [.ref h_t_draft_row, .int t_draft_length, .int t_draft_overrun])), (h_t_draft_row, .inl (cB, 8000, .inl t_draft_row))] (none) (fun q => [(h_t, .inr (6, [.ref h_t_shown, .ref h_t_draft])), (h_t_shown, .inr (0, [.ref h_t_shown_row, .int t_shown_length, .int t_shown_overrun])), (h_t_shown_row, .inl (cB, 8000, .inl t_shown_row)), (h_t_draft, .inr (0, [.ref h_t_draft_row, .int o.2.1, .int o.2.2])), (h_t_draft_row, .inl (cB, 8000, .inl o.1))]) 0 0 := by
  refine jEntry (cc := b_Wr_putToken) (maxL := 2) (ret := none) (by decide) rfl (Nat.le_of_ble_eq_true rfl) rfl (fun p e s m args below meth c A H locs ls Q hQ hx hb hr hml hown hts hlocks hnm hJ hA hP hD hS hl => ?_)
  have hK := hJ.K
  have hl : lv_has ls 2 [(0, .ref h_t), (1, .int a1)] := hl
  have B33 : ∀ (t_draft_row : (Nat → Int32)) (t_draft_length : Int32) (t_draft_overrun : Int32) (l1 : Int32) (H : Heap) (locs : List Loc) (ls : Array Slot), Wr_putToken_b33 t_draft_row t_draft_length t_draft_overrun l1 = some o → va_P (dC, dI) vwCl [(h_t, .inr (6, [.ref h_t_shown, .ref h_t_draft])), (h_t_shown, .inr (0, [.ref h_t_shown_row, .int t_shown_length, .int t_shown_overrun])), (h_t_shown_row, .inl (cB, 8000, .inl t_shown_row)), (h_t_draft, .inr (0, [.ref h_t_draft_row, .int t_draft_length, .int t_draft_overrun])), (h_t_draft_row, .inl (cB, 8000, .inl t_draft_row))] H → va_D A [(h_t, .inr (6, [.ref h_t_shown, .ref h_t_draft])), (h_t_shown, .inr (0, [.ref h_t_shown_row, .int t_shown_length, .int t_shown_overrun])), (h_t_shown_row, .inl (cB, 8000, .inl t_shown_row)), (h_t_draft, .inr (0, [.ref h_t_draft_row, .int t_draft_length, .int t_draft_overrun])), (h_t_draft_row, .inl (cB, 8000, .inl t_draft_row))] → va_S A s.heap H locs → lv_has ls 2 [(0, .ref h_t), (1, .int l1)] → W p l e { frames := 5, cells := 0, slots := 0, locals := 107 } s m args below meth c H locs 0 0 Q (F0 m 33 ls []) := by
    intro t_draft_row t_draft_length t_draft_overrun l1 H locs ls hf hP hD hS hl
    unfold Wr_putToken_b33 at hf
    refine lv_aload_n hx hb d_Wr_putToken_33 rfl (lv_at hl 0 rfl) ?_
    refine lv_iload_n hx hb d_Wr_putToken_34 rfl (lv_at hl 1 rfl) ?_
    obtain ⟨o13, ho13⟩ : ∃ z, f_To_spelling l1 = some z := by
      cases hz : f_To_spelling l1 with
      | none => rw [hz] at hf; simp only [jb_none, jl_b_none, jm_none, reduceCtorEq] at hf
      | some z => exact ⟨z, rfl⟩
    rw [ho13, jb_some] at hf
    refine jCallS (As := [.int l1]) (rest := [.ref h_t]) (wr := [(h_t, .inr (6, [.ref h_t_shown, .ref h_t_draft])), (h_t_shown, .inr (0, [.ref h_t_shown_row, .int t_shown_length, .int t_shown_overrun])), (h_t_shown_row, .inl (cB, 8000, .inl t_shown_row)), (h_t_draft, .inr (0, [.ref h_t_draft_row, .int t_draft_length, .int t_draft_overrun])), (h_t_draft_row, .inl (cB, 8000, .inl t_draft_row))]) ⟨hx, hb, hml, hown, hts⟩ hJ (c_To_spelling l1 ho13) (va_cwS 1 hts (jgS jw365 jw102 jw101 jw100) rfl rfl rfl dd_To_spelling.2 ⟨Nat.le_of_ble_eq_true rfl, Nat.le_of_ble_eq_true rfl⟩) hP hD hS hA [] [0, 1, 2, 3, 4] rfl rfl (by decide) (by decide) (by decide) rfl hl.1 rfl (Nat.le_of_ble_eq_true rfl) d_Wr_putToken_35 ⟨Nat.le_of_ble_eq_true rfl, Nat.le_of_ble_eq_true rfl⟩ (fun qz14 H locs hP hD hS => ?_)
    have hP : va_P (dC, dI) vwCl [(h_t, .inr (6, [.ref h_t_shown, .ref h_t_draft])), (h_t_shown, .inr (0, [.ref h_t_shown_row, .int t_shown_length, .int t_shown_overrun])), (h_t_shown_row, .inl (cB, 8000, .inl t_shown_row)), (h_t_draft, .inr (0, [.ref h_t_draft_row, .int t_draft_length, .int t_draft_overrun])), (h_t_draft_row, .inl (cB, 8000, .inl t_draft_row))] H := hP
    have hD : va_D A [(h_t, .inr (6, [.ref h_t_shown, .ref h_t_draft])), (h_t_shown, .inr (0, [.ref h_t_shown_row, .int t_shown_length, .int t_shown_overrun])), (h_t_shown_row, .inl (cB, 8000, .inl t_shown_row)), (h_t_draft, .inr (0, [.ref h_t_draft_row, .int t_draft_length, .int t_draft_overrun])), (h_t_draft_row, .inl (cB, 8000, .inl t_draft_row))] := hD
    obtain ⟨o15, ho15⟩ : ∃ z, f_Wr_putText t_draft_row t_draft_length t_draft_overrun o13 = some z := by
      cases hz : f_Wr_putText t_draft_row t_draft_length t_draft_overrun o13 with
      | none => rw [hz] at hf; simp only [jb_none, jl_b_none, jm_none, reduceCtorEq] at hf
      | some z => exact ⟨z, rfl⟩
    rw [ho15, jb_some] at hf
    refine jCallV (As := [.ref (adK o13)]) (rest := []) (wr := []) ⟨hx, hb, hml, hown, hts⟩ hJ (c_Wr_putText h_t h_t_shown h_t_shown_row h_t_draft h_t_draft_row t_shown_row t_shown_length t_shown_overrun t_draft_row t_draft_length t_draft_overrun o13 ho15) (cwV 1 hts (jgV jw359 jw361 jw362 jw356 jw360) rfl rfl rfl dd_Wr_putText ⟨Nat.le_of_ble_eq_true rfl, Nat.le_of_ble_eq_true rfl⟩) hP hD hS hA (va_recv hK hP (ci := 6) (q0 := 0) rfl rfl) [0, 1, 2, 3, 4] [] rfl rfl (by decide) (by decide) (by decide) rfl hl.1 rfl (Nat.le_of_ble_eq_true rfl) d_Wr_putToken_38 ⟨Nat.le_of_ble_eq_true rfl, Nat.le_of_ble_eq_true rfl⟩ (fun qz16 H locs hP hD hS => ?_)
    have hP : va_P (dC, dI) vwCl [(h_t, .inr (6, [.ref h_t_shown, .ref h_t_draft])), (h_t_shown, .inr (0, [.ref h_t_shown_row, .int t_shown_length, .int t_shown_overrun])), (h_t_shown_row, .inl (cB, 8000, .inl t_shown_row)), (h_t_draft, .inr (0, [.ref h_t_draft_row, .int o15.2.1, .int o15.2.2])), (h_t_draft_row, .inl (cB, 8000, .inl o15.1))] H := hP
    have hD : va_D A [(h_t, .inr (6, [.ref h_t_shown, .ref h_t_draft])), (h_t_shown, .inr (0, [.ref h_t_shown_row, .int t_shown_length, .int t_shown_overrun])), (h_t_shown_row, .inl (cB, 8000, .inl t_shown_row)), (h_t_draft, .inr (0, [.ref h_t_draft_row, .int o15.2.1, .int o15.2.2])), (h_t_draft_row, .inl (cB, 8000, .inl o15.1))] := hD
    have hf : (some (o15.1, o15.2.1, o15.2.2) : Option ((Nat → Int32) × Int32 × Int32)) = some o := hf
    rw [hQ, ← Option.some.inj hf]
    exact jVret hx hb hr hlocks d_Wr_putToken_41 (fun _ => 0) hS hP hD
  unfold f_Wr_putToken at hf
  refine lv_iload_n hx hb d_Wr_putToken_0 rfl (lv_at hl 1 rfl) ?_
  refine lv_if_ne (tgt := 5) hx hb d_Wr_putToken_1 (by decide) (fun c1 => ?_) (fun c1 => ?_)
  · rw [if_neg c1] at hf
    refine lv_iload_n hx hb d_Wr_putToken_5 rfl (lv_at hl 1 rfl) ?_
    refine lv_bipush (v := (16 : Int32)) hx hb d_Wr_putToken_6 (by decide) ?_
    refine lv_icmp_eq (tgt := 33) hx hb d_Wr_putToken_8 (by decide) (fun c8 => ?_) (fun c8 => ?_)
    · rw [if_pos c8] at hf
      exact B33 t_draft_row t_draft_length t_draft_overrun a1 H locs ls hf hP hD hS (lv_sub hl [0, 1] rfl)
    · rw [if_neg c8] at hf
      refine lv_iload_n hx hb d_Wr_putToken_11 rfl (lv_at hl 1 rfl) ?_
      refine lv_bipush (v := (17 : Int32)) hx hb d_Wr_putToken_12 (by decide) ?_
      refine lv_icmp_eq (tgt := 33) hx hb d_Wr_putToken_14 (by decide) (fun c14 => ?_) (fun c14 => ?_)
      · rw [if_pos c14] at hf
        exact B33 t_draft_row t_draft_length t_draft_overrun a1 H locs ls hf hP hD hS (lv_sub hl [0, 1] rfl)
      · rw [if_neg c14] at hf
        refine lv_iload_n hx hb d_Wr_putToken_17 rfl (lv_at hl 1 rfl) ?_
        refine lv_bipush (v := (21 : Int32)) hx hb d_Wr_putToken_18 (by decide) ?_
        refine lv_icmp_eq (tgt := 33) hx hb d_Wr_putToken_20 (by decide) (fun c20 => ?_) (fun c20 => ?_)
        · rw [if_pos c20] at hf
          exact B33 t_draft_row t_draft_length t_draft_overrun a1 H locs ls hf hP hD hS (lv_sub hl [0, 1] rfl)
        · rw [if_neg c20] at hf
          refine lv_iload_n hx hb d_Wr_putToken_23 rfl (lv_at hl 1 rfl) ?_
          refine lv_bipush (v := (22 : Int32)) hx hb d_Wr_putToken_24 (by decide) ?_
          refine lv_icmp_eq (tgt := 33) hx hb d_Wr_putToken_26 (by decide) (fun c26 => ?_) (fun c26 => ?_)
          · rw [if_pos c26] at hf
            exact B33 t_draft_row t_draft_length t_draft_overrun a1 H locs ls hf hP hD hS (lv_sub hl [0, 1] rfl)
          · rw [if_neg c26] at hf
            refine lv_aload_n hx hb d_Wr_putToken_29 rfl (lv_at hl 0 rfl) ?_
            obtain ⟨o17, ho17⟩ : ∃ z, f_Wr_putBlank t_draft_row t_draft_length t_draft_overrun = some z := by
              cases hz : f_Wr_putBlank t_draft_row t_draft_length t_draft_overrun with
              | none => rw [hz] at hf; simp only [jb_none, jl_b_none, jm_none, reduceCtorEq] at hf
              | some z => exact ⟨z, rfl⟩
            rw [ho17, jb_some] at hf
            refine jCallV (As := []) (rest := []) (wr := []) ⟨hx, hb, hml, hown, hts⟩ hJ (c_Wr_putBlank h_t h_t_shown h_t_shown_row h_t_draft h_t_draft_row t_shown_row t_shown_length t_shown_overrun t_draft_row t_draft_length t_draft_overrun ho17) (cwV 0 hts (jgV jw354 jw357 jw358 jw356 jw355) rfl rfl rfl dd_Wr_putBlank ⟨Nat.le_of_ble_eq_true rfl, Nat.le_of_ble_eq_true rfl⟩) hP hD hS hA (va_recv hK hP (ci := 6) (q0 := 0) rfl rfl) [0, 1, 2, 3, 4] [] rfl rfl (by decide) (by decide) (by decide) rfl hl.1 rfl (Nat.le_of_ble_eq_true rfl) d_Wr_putToken_30 ⟨Nat.le_of_ble_eq_true rfl, Nat.le_of_ble_eq_true rfl⟩ (fun qz18 H locs hP hD hS => ?_)
            have hP : va_P (dC, dI) vwCl [(h_t, .inr (6, [.ref h_t_shown, .ref h_t_draft])), (h_t_shown, .inr (0, [.ref h_t_shown_row, .int t_shown_length, .int t_shown_overrun])), (h_t_shown_row, .inl (cB, 8000, .inl t_shown_row)), (h_t_draft, .inr (0, [.ref h_t_draft_row, .int o17.2.1, .int o17.2.2])), (h_t_draft_row, .inl (cB, 8000, .inl o17.1))] H := hP
            have hD : va_D A [(h_t, .inr (6, [.ref h_t_shown, .ref h_t_draft])), (h_t_shown, .inr (0, [.ref h_t_shown_row, .int t_shown_length, .int t_shown_overrun])), (h_t_shown_row, .inl (cB, 8000, .inl t_shown_row)), (h_t_draft, .inr (0, [.ref h_t_draft_row, .int o17.2.1, .int o17.2.2])), (h_t_draft_row, .inl (cB, 8000, .inl o17.1))] := hD
            exact B33 o17.1 o17.2.1 o17.2.2 a1 H locs ls hf hP hD hS (lv_sub hl [0, 1] rfl)
  · rw [if_pos c1] at hf
    have hf : (some (t_draft_row, t_draft_length, t_draft_overrun) : Option ((Nat → Int32) × Int32 × Int32)) = some o := hf
    rw [hQ, ← Option.some.inj hf]
    exact jVret hx hb hr hlocks d_Wr_putToken_4 (fun _ => 0) hS hP hD
theorem d_Wr_hasBrackets_0 : decode b_Wr_hasBrackets 0 = .ok (.aload_n 0, 1) := by decide +kernel
theorem d_Wr_hasBrackets_1 : decode b_Wr_hasBrackets 1 = .ok (.iload_n 1, 1) := by decide +kernel
theorem d_Wr_hasBrackets_2 : decode b_Wr_hasBrackets 2 = .ok (.invokevirtual 71, 3) := by decide +kernel
theorem d_Wr_hasBrackets_5 : decode b_Wr_hasBrackets 5 = .ok (.istore_n 3, 1) := by decide +kernel
theorem d_Wr_hasBrackets_6 : decode b_Wr_hasBrackets 6 = .ok (.iload_n 3, 1) := by decide +kernel
theorem d_Wr_hasBrackets_7 : decode b_Wr_hasBrackets 7 = .ok (.bipush 15, 2) := by decide +kernel
theorem d_Wr_hasBrackets_9 : decode b_Wr_hasBrackets 9 = .ok (.if_icmp .ne 5, 3) := by decide +kernel
theorem d_Wr_hasBrackets_12 : decode b_Wr_hasBrackets 12 = .ok (.iconst 1, 1) := by decide +kernel
theorem d_Wr_hasBrackets_13 : decode b_Wr_hasBrackets 13 = .ok (.ireturn, 1) := by decide +kernel
theorem d_Wr_hasBrackets_14 : decode b_Wr_hasBrackets 14 = .ok (.aload_n 0, 1) := by decide +kernel
theorem d_Wr_hasBrackets_15 : decode b_Wr_hasBrackets 15 = .ok (.iload_n 1, 1) := by decide +kernel
theorem d_Wr_hasBrackets_16 : decode b_Wr_hasBrackets 16 = .ok (.invokevirtual 54, 3) := by decide +kernel
theorem d_Wr_hasBrackets_19 : decode b_Wr_hasBrackets 19 = .ok (.istore 4, 2) := by decide +kernel
theorem d_Wr_hasBrackets_21 : decode b_Wr_hasBrackets 21 = .ok (.aload_n 0, 1) := by decide +kernel
theorem d_Wr_hasBrackets_22 : decode b_Wr_hasBrackets 22 = .ok (.iload 4, 2) := by decide +kernel
theorem d_Wr_hasBrackets_24 : decode b_Wr_hasBrackets 24 = .ok (.invokevirtual 71, 3) := by decide +kernel
theorem d_Wr_hasBrackets_27 : decode b_Wr_hasBrackets 27 = .ok (.istore 5, 2) := by decide +kernel
theorem d_Wr_hasBrackets_29 : decode b_Wr_hasBrackets 29 = .ok (.iload_n 3, 1) := by decide +kernel
theorem d_Wr_hasBrackets_30 : decode b_Wr_hasBrackets 30 = .ok (.bipush 8, 2) := by decide +kernel
theorem d_Wr_hasBrackets_32 : decode b_Wr_hasBrackets 32 = .ok (.if_icmp .ne 50, 3) := by decide +kernel
theorem d_Wr_hasBrackets_35 : decode b_Wr_hasBrackets 35 = .ok (.iload 5, 2) := by decide +kernel
theorem d_Wr_hasBrackets_37 : decode b_Wr_hasBrackets 37 = .ok (.bipush 10, 2) := by decide +kernel
theorem d_Wr_hasBrackets_39 : decode b_Wr_hasBrackets 39 = .ok (.if_icmp .eq 10, 3) := by decide +kernel
theorem d_Wr_hasBrackets_42 : decode b_Wr_hasBrackets 42 = .ok (.iload 5, 2) := by decide +kernel
theorem d_Wr_hasBrackets_44 : decode b_Wr_hasBrackets 44 = .ok (.bipush 11, 2) := by decide +kernel
theorem d_Wr_hasBrackets_46 : decode b_Wr_hasBrackets 46 = .ok (.if_icmp .ne 7, 3) := by decide +kernel
theorem d_Wr_hasBrackets_49 : decode b_Wr_hasBrackets 49 = .ok (.iconst 1, 1) := by decide +kernel
theorem d_Wr_hasBrackets_50 : decode b_Wr_hasBrackets 50 = .ok (.goto 4, 3) := by decide +kernel
theorem d_Wr_hasBrackets_53 : decode b_Wr_hasBrackets 53 = .ok (.iconst 0, 1) := by decide +kernel
theorem d_Wr_hasBrackets_54 : decode b_Wr_hasBrackets 54 = .ok (.istore 6, 2) := by decide +kernel
theorem d_Wr_hasBrackets_56 : decode b_Wr_hasBrackets 56 = .ok (.iload_n 2, 1) := by decide +kernel
theorem d_Wr_hasBrackets_57 : decode b_Wr_hasBrackets 57 = .ok (.ifCond .ne 19, 3) := by decide +kernel
theorem d_Wr_hasBrackets_60 : decode b_Wr_hasBrackets 60 = .ok (.iload 6, 2) := by decide +kernel
theorem d_Wr_hasBrackets_62 : decode b_Wr_hasBrackets 62 = .ok (.ifCond .eq 14, 3) := by decide +kernel
theorem d_Wr_hasBrackets_65 : decode b_Wr_hasBrackets 65 = .ok (.aload_n 0, 1) := by decide +kernel
theorem d_Wr_hasBrackets_66 : decode b_Wr_hasBrackets 66 = .ok (.iload 4, 2) := by decide +kernel
theorem d_Wr_hasBrackets_68 : decode b_Wr_hasBrackets 68 = .ok (.iconst 4, 1) := by decide +kernel
theorem d_Wr_hasBrackets_69 : decode b_Wr_hasBrackets 69 = .ok (.invokevirtual 76, 3) := by decide +kernel
theorem d_Wr_hasBrackets_72 : decode b_Wr_hasBrackets 72 = .ok (.iconst 2, 1) := by decide +kernel
theorem d_Wr_hasBrackets_73 : decode b_Wr_hasBrackets 73 = .ok (.if_icmp .le 7, 3) := by decide +kernel
theorem d_Wr_hasBrackets_76 : decode b_Wr_hasBrackets 76 = .ok (.iconst 1, 1) := by decide +kernel
theorem d_Wr_hasBrackets_77 : decode b_Wr_hasBrackets 77 = .ok (.goto 4, 3) := by decide +kernel
theorem d_Wr_hasBrackets_80 : decode b_Wr_hasBrackets 80 = .ok (.iconst 0, 1) := by decide +kernel
theorem d_Wr_hasBrackets_81 : decode b_Wr_hasBrackets 81 = .ok (.ireturn, 1) := by decide +kernel
theorem d_Wr_hasBrackets_82 : decode b_Wr_hasBrackets 82 = .ok (.iload_n 2, 1) := by decide +kernel
theorem d_Wr_hasBrackets_83 : decode b_Wr_hasBrackets 83 = .ok (.ifCond .ne 17, 3) := by decide +kernel
theorem d_Wr_hasBrackets_86 : decode b_Wr_hasBrackets 86 = .ok (.iload 5, 2) := by decide +kernel
theorem d_Wr_hasBrackets_88 : decode b_Wr_hasBrackets 88 = .ok (.bipush 13, 2) := by decide +kernel
theorem d_Wr_hasBrackets_90 : decode b_Wr_hasBrackets 90 = .ok (.if_icmp .eq 12, 3) := by decide +kernel
theorem d_Wr_hasBrackets_93 : decode b_Wr_hasBrackets 93 = .ok (.iload 5, 2) := by decide +kernel
theorem d_Wr_hasBrackets_95 : decode b_Wr_hasBrackets 95 = .ok (.bipush 14, 2) := by decide +kernel
theorem d_Wr_hasBrackets_97 : decode b_Wr_hasBrackets 97 = .ok (.if_icmp .eq 5, 3) := by decide +kernel
theorem d_Wr_hasBrackets_100 : decode b_Wr_hasBrackets 100 = .ok (.iconst 0, 1) := by decide +kernel
theorem d_Wr_hasBrackets_101 : decode b_Wr_hasBrackets 101 = .ok (.ireturn, 1) := by decide +kernel
theorem d_Wr_hasBrackets_102 : decode b_Wr_hasBrackets 102 = .ok (.aload_n 0, 1) := by decide +kernel
theorem d_Wr_hasBrackets_103 : decode b_Wr_hasBrackets 103 = .ok (.iload_n 1, 1) := by decide +kernel
theorem d_Wr_hasBrackets_104 : decode b_Wr_hasBrackets 104 = .ok (.invokevirtual 96, 3) := by decide +kernel
theorem d_Wr_hasBrackets_107 : decode b_Wr_hasBrackets 107 = .ok (.ifCond .eq 8, 3) := by decide +kernel
theorem d_Wr_hasBrackets_110 : decode b_Wr_hasBrackets 110 = .ok (.iload_n 3, 1) := by decide +kernel
theorem d_Wr_hasBrackets_111 : decode b_Wr_hasBrackets 111 = .ok (.invokestatic 102, 3) := by decide +kernel
theorem d_Wr_hasBrackets_114 : decode b_Wr_hasBrackets 114 = .ok (.ireturn, 1) := by decide +kernel
theorem d_Wr_hasBrackets_115 : decode b_Wr_hasBrackets 115 = .ok (.iload 5, 2) := by decide +kernel
theorem d_Wr_hasBrackets_117 : decode b_Wr_hasBrackets 117 = .ok (.bipush 14, 2) := by decide +kernel
theorem d_Wr_hasBrackets_119 : decode b_Wr_hasBrackets 119 = .ok (.if_icmp .ne 20, 3) := by decide +kernel
theorem d_Wr_hasBrackets_122 : decode b_Wr_hasBrackets 122 = .ok (.iload_n 3, 1) := by decide +kernel
theorem d_Wr_hasBrackets_123 : decode b_Wr_hasBrackets 123 = .ok (.invokestatic 102, 3) := by decide +kernel
theorem d_Wr_hasBrackets_126 : decode b_Wr_hasBrackets 126 = .ok (.ifCond .ne 9, 3) := by decide +kernel
theorem d_Wr_hasBrackets_129 : decode b_Wr_hasBrackets 129 = .ok (.iload_n 3, 1) := by decide +kernel
theorem d_Wr_hasBrackets_130 : decode b_Wr_hasBrackets 130 = .ok (.bipush 14, 2) := by decide +kernel
theorem d_Wr_hasBrackets_132 : decode b_Wr_hasBrackets 132 = .ok (.if_icmp .ne 7, 3) := by decide +kernel
theorem d_Wr_hasBrackets_135 : decode b_Wr_hasBrackets 135 = .ok (.iconst 1, 1) := by decide +kernel
theorem d_Wr_hasBrackets_136 : decode b_Wr_hasBrackets 136 = .ok (.goto 4, 3) := by decide +kernel
theorem d_Wr_hasBrackets_139 : decode b_Wr_hasBrackets 139 = .ok (.iconst 0, 1) := by decide +kernel
theorem d_Wr_hasBrackets_140 : decode b_Wr_hasBrackets 140 = .ok (.ireturn, 1) := by decide +kernel
noncomputable def Wr_hasBrackets_b139 (p1_kinds : (Nat → Int32)) (p1_places : (Nat → Int32)) (p1_values : (Nat → Int32)) (p1_sizes : (Nat → Int32)) (p1_partCounts : (Nat → Int32)) (p1_wholes : (Nat → Int32)) (p1_count : Int32)  : Option Int32 := some (vp_nar .boolean (0 : Int32))
noncomputable def Wr_hasBrackets_b135 (p1_kinds : (Nat → Int32)) (p1_places : (Nat → Int32)) (p1_values : (Nat → Int32)) (p1_sizes : (Nat → Int32)) (p1_partCounts : (Nat → Int32)) (p1_wholes : (Nat → Int32)) (p1_count : Int32)  : Option Int32 := some (vp_nar .boolean (1 : Int32))
noncomputable def Wr_hasBrackets_b102 (p1_kinds : (Nat → Int32)) (p1_places : (Nat → Int32)) (p1_values : (Nat → Int32)) (p1_sizes : (Nat → Int32)) (p1_partCounts : (Nat → Int32)) (p1_wholes : (Nat → Int32)) (p1_count : Int32) (l1 : Int32) (l3 : Int32) (l5 : Int32) : Option Int32 := jb (f_Tr_isFirstPart p1_wholes p1_count l1) (fun o15 => if o15 = 0 then (if l5 = (14 : Int32) then (jb (f_Ki_isOpenToTheRight l3) (fun o17 => if o17 = 0 then (if l3 = (14 : Int32) then (Wr_hasBrackets_b135 p1_kinds p1_places p1_values p1_sizes p1_partCounts p1_wholes p1_count) else (Wr_hasBrackets_b139 p1_kinds p1_places p1_values p1_sizes p1_partCounts p1_wholes p1_count)) else (Wr_hasBrackets_b135 p1_kinds p1_places p1_values p1_sizes p1_partCounts p1_wholes p1_count))) else (Wr_hasBrackets_b139 p1_kinds p1_places p1_values p1_sizes p1_partCounts p1_wholes p1_count)) else (jb (f_Ki_isOpenToTheRight l3) (fun o19 => some (vp_nar .boolean o19))))
noncomputable def Wr_hasBrackets_b76 (p1_kinds : (Nat → Int32)) (p1_places : (Nat → Int32)) (p1_values : (Nat → Int32)) (p1_sizes : (Nat → Int32)) (p1_partCounts : (Nat → Int32)) (p1_wholes : (Nat → Int32)) (p1_count : Int32)  : Option Int32 := some (vp_nar .boolean (1 : Int32))
noncomputable def Wr_hasBrackets_b54 (p1_kinds : (Nat → Int32)) (p1_places : (Nat → Int32)) (p1_values : (Nat → Int32)) (p1_sizes : (Nat → Int32)) (p1_partCounts : (Nat → Int32)) (p1_wholes : (Nat → Int32)) (p1_count : Int32) (l2 : Int32) (l4 : Int32) (s0 : Int32) : Option Int32 := if l2 = 0 then (if s0 = 0 then (Wr_hasBrackets_b76 p1_kinds p1_places p1_values p1_sizes p1_partCounts p1_wholes p1_count) else (jb (f_Tr_tell p1_kinds p1_places p1_values p1_sizes p1_partCounts p1_count l4 (4 : Int32)) (fun o21 => if o21 ≤ (2 : Int32) then (some (vp_nar .boolean (0 : Int32))) else (Wr_hasBrackets_b76 p1_kinds p1_places p1_values p1_sizes p1_partCounts p1_wholes p1_count)))) else (Wr_hasBrackets_b76 p1_kinds p1_places p1_values p1_sizes p1_partCounts p1_wholes p1_count)
noncomputable def Wr_hasBrackets_b49 (p1_kinds : (Nat → Int32)) (p1_places : (Nat → Int32)) (p1_values : (Nat → Int32)) (p1_sizes : (Nat → Int32)) (p1_partCounts : (Nat → Int32)) (p1_wholes : (Nat → Int32)) (p1_count : Int32) (l2 : Int32) (l4 : Int32) : Option Int32 := Wr_hasBrackets_b54 p1_kinds p1_places p1_values p1_sizes p1_partCounts p1_wholes p1_count l2 l4 (1 : Int32)
noncomputable def f_Wr_hasBrackets (p1_kinds : (Nat → Int32)) (p1_places : (Nat → Int32)) (p1_values : (Nat → Int32)) (p1_sizes : (Nat → Int32)) (p1_partCounts : (Nat → Int32)) (p1_wholes : (Nat → Int32)) (p1_count : Int32)  (a2 : Int32) (a3 : Int32) : Option Int32 := jb (f_Tr_kindOf p1_kinds p1_count a2) (fun o23 => if o23 = (15 : Int32) then (some (vp_nar .boolean (1 : Int32))) else (jb (f_Tr_wholeOf p1_wholes p1_count a2) (fun o25 => jb (f_Tr_kindOf p1_kinds p1_count o25) (fun o27 => if o23 = (8 : Int32) then (if o27 = (10 : Int32) then (Wr_hasBrackets_b49 p1_kinds p1_places p1_values p1_sizes p1_partCounts p1_wholes p1_count a3 o25) else (if o27 = (11 : Int32) then (Wr_hasBrackets_b49 p1_kinds p1_places p1_values p1_sizes p1_partCounts p1_wholes p1_count a3 o25) else (Wr_hasBrackets_b54 p1_kinds p1_places p1_values p1_sizes p1_partCounts p1_wholes p1_count a3 o25 (0 : Int32)))) else (if a3 = 0 then (if o27 = (13 : Int32) then (Wr_hasBrackets_b102 p1_kinds p1_places p1_values p1_sizes p1_partCounts p1_wholes p1_count a2 o23 o27) else (if o27 = (14 : Int32) then (Wr_hasBrackets_b102 p1_kinds p1_places p1_values p1_sizes p1_partCounts p1_wholes p1_count a2 o23 o27) else (some (vp_nar .boolean (0 : Int32))))) else (some (vp_nar .boolean (0 : Int32))))))))
set_option maxHeartbeats 4000000 in
set_option maxRecDepth 100000 in
theorem c_Wr_hasBrackets {l : Launch} {dC : Nat → ClassId} {dI : Nat → Nat → Nat} {cI cB cS : ClassId} {adK adV adR : Nat → Nat} (h_p1 h_p1_kinds h_p1_places h_p1_values h_p1_sizes h_p1_partCounts h_p1_wholes : Nat) (p1_kinds : (Nat → Int32)) (p1_places : (Nat → Int32)) (p1_values : (Nat → Int32)) (p1_sizes : (Nat → Int32)) (p1_partCounts : (Nat → Int32)) (p1_wholes : (Nat → Int32)) (p1_count : Int32) (a2 : Int32) (a3 : Int32) {o : Int32} (hf : f_Wr_hasBrackets p1_kinds p1_places p1_values p1_sizes p1_partCounts p1_wholes p1_count a2 a3 = some o) : jMet l dC dI cI cB cS adK adV adR y_Wr_hasBrackets wd_Wr_hasBrackets { frames := 2, cells := 0, slots := 0, locals := 43 } [.ref h_p1, .int a2, .int a3] [(h_p1, .inr (5, [.ref h_p1_kinds, .ref h_p1_places, .ref h_p1_values, .ref h_p1_sizes, .ref h_p1_partCounts, .ref h_p1_wholes, .int p1_count])), (h_p1_kinds, .inl (cI, 8001, .inl p1_kinds)), (h_p1_places, .inl (cI, 8001, .inl p1_places)), (h_p1_values, .inl (cI, 8001, .inl p1_values)), (h_p1_sizes, .inl (cI, 8001, .inl p1_sizes)), (h_p1_partCounts, .inl (cI, 8001, .inl p1_partCounts)), (h_p1_wholes, .inl (cI, 8001, .inl p1_wholes))] (some (.int o)) (fun q => [(h_p1, .inr (5, [.ref h_p1_kinds, .ref h_p1_places, .ref h_p1_values, .ref h_p1_sizes, .ref h_p1_partCounts, .ref h_p1_wholes, .int p1_count])), (h_p1_kinds, .inl (cI, 8001, .inl p1_kinds)), (h_p1_places, .inl (cI, 8001, .inl p1_places)), (h_p1_values, .inl (cI, 8001, .inl p1_values)), (h_p1_sizes, .inl (cI, 8001, .inl p1_sizes)), (h_p1_partCounts, .inl (cI, 8001, .inl p1_partCounts)), (h_p1_wholes, .inl (cI, 8001, .inl p1_wholes))]) 0 0 := by
  refine jEntry (cc := b_Wr_hasBrackets) (maxL := 7) (ret := (some .boolean)) (by decide) rfl (Nat.le_of_ble_eq_true rfl) rfl (fun p e s m args below meth c A H locs ls Q hQ hx hb hr hml hown hts hlocks hnm hJ hA hP hD hS hl => ?_)
  have hK := hJ.K
  have hl : lv_has ls 7 [(0, .ref h_p1), (1, .int a2), (2, .int a3)] := hl
  have B139 : ∀  (H : Heap) (locs : List Loc) (ls : Array Slot), Wr_hasBrackets_b139 p1_kinds p1_places p1_values p1_sizes p1_partCounts p1_wholes p1_count = some o → va_P (dC, dI) vwCl [(h_p1, .inr (5, [.ref h_p1_kinds, .ref h_p1_places, .ref h_p1_values, .ref h_p1_sizes, .ref h_p1_partCounts, .ref h_p1_wholes, .int p1_count])), (h_p1_kinds, .inl (cI, 8001, .inl p1_kinds)), (h_p1_places, .inl (cI, 8001, .inl p1_places)), (h_p1_values, .inl (cI, 8001, .inl p1_values)), (h_p1_sizes, .inl (cI, 8001, .inl p1_sizes)), (h_p1_partCounts, .inl (cI, 8001, .inl p1_partCounts)), (h_p1_wholes, .inl (cI, 8001, .inl p1_wholes))] H → va_D A [(h_p1, .inr (5, [.ref h_p1_kinds, .ref h_p1_places, .ref h_p1_values, .ref h_p1_sizes, .ref h_p1_partCounts, .ref h_p1_wholes, .int p1_count])), (h_p1_kinds, .inl (cI, 8001, .inl p1_kinds)), (h_p1_places, .inl (cI, 8001, .inl p1_places)), (h_p1_values, .inl (cI, 8001, .inl p1_values)), (h_p1_sizes, .inl (cI, 8001, .inl p1_sizes)), (h_p1_partCounts, .inl (cI, 8001, .inl p1_partCounts)), (h_p1_wholes, .inl (cI, 8001, .inl p1_wholes))] → va_S A s.heap H locs → lv_has ls 7 [] → W p l e { frames := 2, cells := 0, slots := 0, locals := 43 } s m args below meth c H locs 0 0 Q (F0 m 139 ls []) := by
    intro  H locs ls hf hP hD hS hl
    unfold Wr_hasBrackets_b139 at hf
    refine lv_iconst (v := (0 : Int32)) hx hb d_Wr_hasBrackets_139 (by decide) ?_
    have hf : (some (vp_nar .boolean (0 : Int32)) : Option Int32) = some o := hf
    rw [hQ, ← Option.some.inj hf]
    exact jNret hx hb hr rfl hlocks d_Wr_hasBrackets_140 (fun _ => 0) hS hP hD
  have B135 : ∀  (H : Heap) (locs : List Loc) (ls : Array Slot), Wr_hasBrackets_b135 p1_kinds p1_places p1_values p1_sizes p1_partCounts p1_wholes p1_count = some o → va_P (dC, dI) vwCl [(h_p1, .inr (5, [.ref h_p1_kinds, .ref h_p1_places, .ref h_p1_values, .ref h_p1_sizes, .ref h_p1_partCounts, .ref h_p1_wholes, .int p1_count])), (h_p1_kinds, .inl (cI, 8001, .inl p1_kinds)), (h_p1_places, .inl (cI, 8001, .inl p1_places)), (h_p1_values, .inl (cI, 8001, .inl p1_values)), (h_p1_sizes, .inl (cI, 8001, .inl p1_sizes)), (h_p1_partCounts, .inl (cI, 8001, .inl p1_partCounts)), (h_p1_wholes, .inl (cI, 8001, .inl p1_wholes))] H → va_D A [(h_p1, .inr (5, [.ref h_p1_kinds, .ref h_p1_places, .ref h_p1_values, .ref h_p1_sizes, .ref h_p1_partCounts, .ref h_p1_wholes, .int p1_count])), (h_p1_kinds, .inl (cI, 8001, .inl p1_kinds)), (h_p1_places, .inl (cI, 8001, .inl p1_places)), (h_p1_values, .inl (cI, 8001, .inl p1_values)), (h_p1_sizes, .inl (cI, 8001, .inl p1_sizes)), (h_p1_partCounts, .inl (cI, 8001, .inl p1_partCounts)), (h_p1_wholes, .inl (cI, 8001, .inl p1_wholes))] → va_S A s.heap H locs → lv_has ls 7 [] → W p l e { frames := 2, cells := 0, slots := 0, locals := 43 } s m args below meth c H locs 0 0 Q (F0 m 135 ls []) := by
    intro  H locs ls hf hP hD hS hl
    unfold Wr_hasBrackets_b135 at hf
    refine lv_iconst (v := (1 : Int32)) hx hb d_Wr_hasBrackets_135 (by decide) ?_
    refine lv_goto (tgt := 140) hx hb d_Wr_hasBrackets_136 (by decide) ?_
    have hf : (some (vp_nar .boolean (1 : Int32)) : Option Int32) = some o := hf
    rw [hQ, ← Option.some.inj hf]
    exact jNret hx hb hr rfl hlocks d_Wr_hasBrackets_140 (fun _ => 0) hS hP hD
  have B102 : ∀ (l1 : Int32) (l3 : Int32) (l5 : Int32) (H : Heap) (locs : List Loc) (ls : Array Slot), Wr_hasBrackets_b102 p1_kinds p1_places p1_values p1_sizes p1_partCounts p1_wholes p1_count l1 l3 l5 = some o → va_P (dC, dI) vwCl [(h_p1, .inr (5, [.ref h_p1_kinds, .ref h_p1_places, .ref h_p1_values, .ref h_p1_sizes, .ref h_p1_partCounts, .ref h_p1_wholes, .int p1_count])), (h_p1_kinds, .inl (cI, 8001, .inl p1_kinds)), (h_p1_places, .inl (cI, 8001, .inl p1_places)), (h_p1_values, .inl (cI, 8001, .inl p1_values)), (h_p1_sizes, .inl (cI, 8001, .inl p1_sizes)), (h_p1_partCounts, .inl (cI, 8001, .inl p1_partCounts)), (h_p1_wholes, .inl (cI, 8001, .inl p1_wholes))] H → va_D A [(h_p1, .inr (5, [.ref h_p1_kinds, .ref h_p1_places, .ref h_p1_values, .ref h_p1_sizes, .ref h_p1_partCounts, .ref h_p1_wholes, .int p1_count])), (h_p1_kinds, .inl (cI, 8001, .inl p1_kinds)), (h_p1_places, .inl (cI, 8001, .inl p1_places)), (h_p1_values, .inl (cI, 8001, .inl p1_values)), (h_p1_sizes, .inl (cI, 8001, .inl p1_sizes)), (h_p1_partCounts, .inl (cI, 8001, .inl p1_partCounts)), (h_p1_wholes, .inl (cI, 8001, .inl p1_wholes))] → va_S A s.heap H locs → lv_has ls 7 [(0, .ref h_p1), (1, .int l1), (3, .int l3), (5, .int l5)] → W p l e { frames := 2, cells := 0, slots := 0, locals := 43 } s m args below meth c H locs 0 0 Q (F0 m 102 ls []) := by
    intro l1 l3 l5 H locs ls hf hP hD hS hl
    unfold Wr_hasBrackets_b102 at hf
    refine lv_aload_n hx hb d_Wr_hasBrackets_102 rfl (lv_at hl 0 rfl) ?_
    refine lv_iload_n hx hb d_Wr_hasBrackets_103 rfl (lv_at hl 1 rfl) ?_
    obtain ⟨o29, ho29⟩ : ∃ z, f_Tr_isFirstPart p1_wholes p1_count l1 = some z := by
      cases hz : f_Tr_isFirstPart p1_wholes p1_count l1 with
      | none => rw [hz] at hf; simp only [jb_none, jl_b_none, jm_none, reduceCtorEq] at hf
      | some z => exact ⟨z, rfl⟩
    rw [ho29, jb_some] at hf
    refine jCallV (As := [.int l1]) (rest := []) (wr := []) ⟨hx, hb, hml, hown, hts⟩ hJ (c_Tr_isFirstPart h_p1 h_p1_kinds h_p1_places h_p1_values h_p1_sizes h_p1_partCounts h_p1_wholes p1_kinds p1_places p1_values p1_sizes p1_partCounts p1_wholes p1_count l1 ho29) (cwV 1 hts (jgV jw371 jw373 jw374 jw153 jw372) rfl rfl rfl dd_Tr_isFirstPart ⟨Nat.le_of_ble_eq_true rfl, Nat.le_of_ble_eq_true rfl⟩) hP hD hS hA (va_recv hK hP (ci := 5) (q0 := 0) rfl rfl) [0, 1, 2, 3, 4, 5, 6] [] rfl rfl (by decide) (by decide) (by decide) rfl hl.1 rfl (Nat.le_of_ble_eq_true rfl) d_Wr_hasBrackets_104 ⟨Nat.le_of_ble_eq_true rfl, Nat.le_of_ble_eq_true rfl⟩ (fun qz30 H locs hP hD hS => ?_)
    have hP : va_P (dC, dI) vwCl [(h_p1, .inr (5, [.ref h_p1_kinds, .ref h_p1_places, .ref h_p1_values, .ref h_p1_sizes, .ref h_p1_partCounts, .ref h_p1_wholes, .int p1_count])), (h_p1_kinds, .inl (cI, 8001, .inl p1_kinds)), (h_p1_places, .inl (cI, 8001, .inl p1_places)), (h_p1_values, .inl (cI, 8001, .inl p1_values)), (h_p1_sizes, .inl (cI, 8001, .inl p1_sizes)), (h_p1_partCounts, .inl (cI, 8001, .inl p1_partCounts)), (h_p1_wholes, .inl (cI, 8001, .inl p1_wholes))] H := hP
    have hD : va_D A [(h_p1, .inr (5, [.ref h_p1_kinds, .ref h_p1_places, .ref h_p1_values, .ref h_p1_sizes, .ref h_p1_partCounts, .ref h_p1_wholes, .int p1_count])), (h_p1_kinds, .inl (cI, 8001, .inl p1_kinds)), (h_p1_places, .inl (cI, 8001, .inl p1_places)), (h_p1_values, .inl (cI, 8001, .inl p1_values)), (h_p1_sizes, .inl (cI, 8001, .inl p1_sizes)), (h_p1_partCounts, .inl (cI, 8001, .inl p1_partCounts)), (h_p1_wholes, .inl (cI, 8001, .inl p1_wholes))] := hD
    refine lv_if_eq (tgt := 115) hx hb d_Wr_hasBrackets_107 (by decide) (fun c107 => ?_) (fun c107 => ?_)
    · rw [if_pos c107] at hf
      refine lv_iload hx hb d_Wr_hasBrackets_115 (lv_at hl 3 rfl) ?_
      refine lv_bipush (v := (14 : Int32)) hx hb d_Wr_hasBrackets_117 (by decide) ?_
      refine lv_icmp_ne (tgt := 139) hx hb d_Wr_hasBrackets_119 (by decide) (fun c119 => ?_) (fun c119 => ?_)
      · rw [if_neg c119] at hf
        exact B139  H locs ls hf hP hD hS (lv_sub hl [] rfl)
      · rw [if_pos c119] at hf
        refine lv_iload_n hx hb d_Wr_hasBrackets_122 rfl (lv_at hl 2 rfl) ?_
        obtain ⟨o31, ho31⟩ : ∃ z, f_Ki_isOpenToTheRight l3 = some z := by
          cases hz : f_Ki_isOpenToTheRight l3 with
          | none => rw [hz] at hf; simp only [jb_none, jl_b_none, jm_none, reduceCtorEq] at hf
          | some z => exact ⟨z, rfl⟩
        rw [ho31, jb_some] at hf
        refine jCallS (As := [.int l3]) (rest := []) (wr := [(h_p1, .inr (5, [.ref h_p1_kinds, .ref h_p1_places, .ref h_p1_values, .ref h_p1_sizes, .ref h_p1_partCounts, .ref h_p1_wholes, .int p1_count])), (h_p1_kinds, .inl (cI, 8001, .inl p1_kinds)), (h_p1_places, .inl (cI, 8001, .inl p1_places)), (h_p1_values, .inl (cI, 8001, .inl p1_values)), (h_p1_sizes, .inl (cI, 8001, .inl p1_sizes)), (h_p1_partCounts, .inl (cI, 8001, .inl p1_partCounts)), (h_p1_wholes, .inl (cI, 8001, .inl p1_wholes))]) ⟨hx, hb, hml, hown, hts⟩ hJ (c_Ki_isOpenToTheRight l3 ho31) (va_cwS 1 hts (jgS jw375 jw378 jw377 jw376) rfl rfl rfl dd_Ki_isOpenToTheRight.2 ⟨Nat.le_of_ble_eq_true rfl, Nat.le_of_ble_eq_true rfl⟩) hP hD hS hA [] [0, 1, 2, 3, 4, 5, 6] rfl rfl (by decide) (by decide) (by decide) rfl hl.1 rfl (Nat.le_of_ble_eq_true rfl) d_Wr_hasBrackets_123 ⟨Nat.le_of_ble_eq_true rfl, Nat.le_of_ble_eq_true rfl⟩ (fun qz32 H locs hP hD hS => ?_)
        have hP : va_P (dC, dI) vwCl [(h_p1, .inr (5, [.ref h_p1_kinds, .ref h_p1_places, .ref h_p1_values, .ref h_p1_sizes, .ref h_p1_partCounts, .ref h_p1_wholes, .int p1_count])), (h_p1_kinds, .inl (cI, 8001, .inl p1_kinds)), (h_p1_places, .inl (cI, 8001, .inl p1_places)), (h_p1_values, .inl (cI, 8001, .inl p1_values)), (h_p1_sizes, .inl (cI, 8001, .inl p1_sizes)), (h_p1_partCounts, .inl (cI, 8001, .inl p1_partCounts)), (h_p1_wholes, .inl (cI, 8001, .inl p1_wholes))] H := hP
        have hD : va_D A [(h_p1, .inr (5, [.ref h_p1_kinds, .ref h_p1_places, .ref h_p1_values, .ref h_p1_sizes, .ref h_p1_partCounts, .ref h_p1_wholes, .int p1_count])), (h_p1_kinds, .inl (cI, 8001, .inl p1_kinds)), (h_p1_places, .inl (cI, 8001, .inl p1_places)), (h_p1_values, .inl (cI, 8001, .inl p1_values)), (h_p1_sizes, .inl (cI, 8001, .inl p1_sizes)), (h_p1_partCounts, .inl (cI, 8001, .inl p1_partCounts)), (h_p1_wholes, .inl (cI, 8001, .inl p1_wholes))] := hD
        refine lv_if_ne (tgt := 135) hx hb d_Wr_hasBrackets_126 (by decide) (fun c126 => ?_) (fun c126 => ?_)
        · rw [if_neg c126] at hf
          exact B135  H locs ls hf hP hD hS (lv_sub hl [] rfl)
        · rw [if_pos c126] at hf
          refine lv_iload_n hx hb d_Wr_hasBrackets_129 rfl (lv_at hl 2 rfl) ?_
          refine lv_bipush (v := (14 : Int32)) hx hb d_Wr_hasBrackets_130 (by decide) ?_
          refine lv_icmp_ne (tgt := 139) hx hb d_Wr_hasBrackets_132 (by decide) (fun c132 => ?_) (fun c132 => ?_)
          · rw [if_neg c132] at hf
            exact B139  H locs ls hf hP hD hS (lv_sub hl [] rfl)
          · rw [if_pos c132] at hf
            exact B135  H locs ls hf hP hD hS (lv_sub hl [] rfl)
    · rw [if_neg c107] at hf
      refine lv_iload_n hx hb d_Wr_hasBrackets_110 rfl (lv_at hl 2 rfl) ?_
      obtain ⟨o33, ho33⟩ : ∃ z, f_Ki_isOpenToTheRight l3 = some z := by
        cases hz : f_Ki_isOpenToTheRight l3 with
        | none => rw [hz] at hf; simp only [jb_none, jl_b_none, jm_none, reduceCtorEq] at hf
        | some z => exact ⟨z, rfl⟩
      rw [ho33, jb_some] at hf
      refine jCallS (As := [.int l3]) (rest := []) (wr := [(h_p1, .inr (5, [.ref h_p1_kinds, .ref h_p1_places, .ref h_p1_values, .ref h_p1_sizes, .ref h_p1_partCounts, .ref h_p1_wholes, .int p1_count])), (h_p1_kinds, .inl (cI, 8001, .inl p1_kinds)), (h_p1_places, .inl (cI, 8001, .inl p1_places)), (h_p1_values, .inl (cI, 8001, .inl p1_values)), (h_p1_sizes, .inl (cI, 8001, .inl p1_sizes)), (h_p1_partCounts, .inl (cI, 8001, .inl p1_partCounts)), (h_p1_wholes, .inl (cI, 8001, .inl p1_wholes))]) ⟨hx, hb, hml, hown, hts⟩ hJ (c_Ki_isOpenToTheRight l3 ho33) (va_cwS 1 hts (jgS jw375 jw378 jw377 jw376) rfl rfl rfl dd_Ki_isOpenToTheRight.2 ⟨Nat.le_of_ble_eq_true rfl, Nat.le_of_ble_eq_true rfl⟩) hP hD hS hA [] [0, 1, 2, 3, 4, 5, 6] rfl rfl (by decide) (by decide) (by decide) rfl hl.1 rfl (Nat.le_of_ble_eq_true rfl) d_Wr_hasBrackets_111 ⟨Nat.le_of_ble_eq_true rfl, Nat.le_of_ble_eq_true rfl⟩ (fun qz34 H locs hP hD hS => ?_)
      have hP : va_P (dC, dI) vwCl [(h_p1, .inr (5, [.ref h_p1_kinds, .ref h_p1_places, .ref h_p1_values, .ref h_p1_sizes, .ref h_p1_partCounts, .ref h_p1_wholes, .int p1_count])), (h_p1_kinds, .inl (cI, 8001, .inl p1_kinds)), (h_p1_places, .inl (cI, 8001, .inl p1_places)), (h_p1_values, .inl (cI, 8001, .inl p1_values)), (h_p1_sizes, .inl (cI, 8001, .inl p1_sizes)), (h_p1_partCounts, .inl (cI, 8001, .inl p1_partCounts)), (h_p1_wholes, .inl (cI, 8001, .inl p1_wholes))] H := hP
      have hD : va_D A [(h_p1, .inr (5, [.ref h_p1_kinds, .ref h_p1_places, .ref h_p1_values, .ref h_p1_sizes, .ref h_p1_partCounts, .ref h_p1_wholes, .int p1_count])), (h_p1_kinds, .inl (cI, 8001, .inl p1_kinds)), (h_p1_places, .inl (cI, 8001, .inl p1_places)), (h_p1_values, .inl (cI, 8001, .inl p1_values)), (h_p1_sizes, .inl (cI, 8001, .inl p1_sizes)), (h_p1_partCounts, .inl (cI, 8001, .inl p1_partCounts)), (h_p1_wholes, .inl (cI, 8001, .inl p1_wholes))] := hD
      have hf : (some (vp_nar .boolean o33) : Option Int32) = some o := hf
      rw [hQ, ← Option.some.inj hf]
      exact jNret hx hb hr rfl hlocks d_Wr_hasBrackets_114 (fun _ => 0) hS hP hD
  have B76 : ∀  (H : Heap) (locs : List Loc) (ls : Array Slot), Wr_hasBrackets_b76 p1_kinds p1_places p1_values p1_sizes p1_partCounts p1_wholes p1_count = some o → va_P (dC, dI) vwCl [(h_p1, .inr (5, [.ref h_p1_kinds, .ref h_p1_places, .ref h_p1_values, .ref h_p1_sizes, .ref h_p1_partCounts, .ref h_p1_wholes, .int p1_count])), (h_p1_kinds, .inl (cI, 8001, .inl p1_kinds)), (h_p1_places, .inl (cI, 8001, .inl p1_places)), (h_p1_values, .inl (cI, 8001, .inl p1_values)), (h_p1_sizes, .inl (cI, 8001, .inl p1_sizes)), (h_p1_partCounts, .inl (cI, 8001, .inl p1_partCounts)), (h_p1_wholes, .inl (cI, 8001, .inl p1_wholes))] H → va_D A [(h_p1, .inr (5, [.ref h_p1_kinds, .ref h_p1_places, .ref h_p1_values, .ref h_p1_sizes, .ref h_p1_partCounts, .ref h_p1_wholes, .int p1_count])), (h_p1_kinds, .inl (cI, 8001, .inl p1_kinds)), (h_p1_places, .inl (cI, 8001, .inl p1_places)), (h_p1_values, .inl (cI, 8001, .inl p1_values)), (h_p1_sizes, .inl (cI, 8001, .inl p1_sizes)), (h_p1_partCounts, .inl (cI, 8001, .inl p1_partCounts)), (h_p1_wholes, .inl (cI, 8001, .inl p1_wholes))] → va_S A s.heap H locs → lv_has ls 7 [] → W p l e { frames := 2, cells := 0, slots := 0, locals := 43 } s m args below meth c H locs 0 0 Q (F0 m 76 ls []) := by
    intro  H locs ls hf hP hD hS hl
    unfold Wr_hasBrackets_b76 at hf
    refine lv_iconst (v := (1 : Int32)) hx hb d_Wr_hasBrackets_76 (by decide) ?_
    refine lv_goto (tgt := 81) hx hb d_Wr_hasBrackets_77 (by decide) ?_
    have hf : (some (vp_nar .boolean (1 : Int32)) : Option Int32) = some o := hf
    rw [hQ, ← Option.some.inj hf]
    exact jNret hx hb hr rfl hlocks d_Wr_hasBrackets_81 (fun _ => 0) hS hP hD
  have B54 : ∀ (l2 : Int32) (l4 : Int32) (s0 : Int32) (H : Heap) (locs : List Loc) (ls : Array Slot), Wr_hasBrackets_b54 p1_kinds p1_places p1_values p1_sizes p1_partCounts p1_wholes p1_count l2 l4 s0 = some o → va_P (dC, dI) vwCl [(h_p1, .inr (5, [.ref h_p1_kinds, .ref h_p1_places, .ref h_p1_values, .ref h_p1_sizes, .ref h_p1_partCounts, .ref h_p1_wholes, .int p1_count])), (h_p1_kinds, .inl (cI, 8001, .inl p1_kinds)), (h_p1_places, .inl (cI, 8001, .inl p1_places)), (h_p1_values, .inl (cI, 8001, .inl p1_values)), (h_p1_sizes, .inl (cI, 8001, .inl p1_sizes)), (h_p1_partCounts, .inl (cI, 8001, .inl p1_partCounts)), (h_p1_wholes, .inl (cI, 8001, .inl p1_wholes))] H → va_D A [(h_p1, .inr (5, [.ref h_p1_kinds, .ref h_p1_places, .ref h_p1_values, .ref h_p1_sizes, .ref h_p1_partCounts, .ref h_p1_wholes, .int p1_count])), (h_p1_kinds, .inl (cI, 8001, .inl p1_kinds)), (h_p1_places, .inl (cI, 8001, .inl p1_places)), (h_p1_values, .inl (cI, 8001, .inl p1_values)), (h_p1_sizes, .inl (cI, 8001, .inl p1_sizes)), (h_p1_partCounts, .inl (cI, 8001, .inl p1_partCounts)), (h_p1_wholes, .inl (cI, 8001, .inl p1_wholes))] → va_S A s.heap H locs → lv_has ls 7 [(0, .ref h_p1), (2, .int l2), (4, .int l4)] → W p l e { frames := 2, cells := 0, slots := 0, locals := 43 } s m args below meth c H locs 0 0 Q (F0 m 54 ls [.int s0]) := by
    intro l2 l4 s0 H locs ls hf hP hD hS hl
    unfold Wr_hasBrackets_b54 at hf
    refine lv_istore (lv' := [(6, .int s0), (0, .ref h_p1), (2, .int l2), (4, .int l4)]) hx hb d_Wr_hasBrackets_54 hl (by decide) rfl (fun ls hl => ?_)
    refine lv_iload_n hx hb d_Wr_hasBrackets_56 rfl (lv_at hl 2 rfl) ?_
    refine lv_if_ne (tgt := 76) hx hb d_Wr_hasBrackets_57 (by decide) (fun c57 => ?_) (fun c57 => ?_)
    · rw [if_neg c57] at hf
      exact B76  H locs ls hf hP hD hS (lv_sub hl [] rfl)
    · rw [if_pos c57] at hf
      refine lv_iload hx hb d_Wr_hasBrackets_60 (lv_at hl 0 rfl) ?_
      refine lv_if_eq (tgt := 76) hx hb d_Wr_hasBrackets_62 (by decide) (fun c62 => ?_) (fun c62 => ?_)
      · rw [if_pos c62] at hf
        exact B76  H locs ls hf hP hD hS (lv_sub hl [] rfl)
      · rw [if_neg c62] at hf
        refine lv_aload_n hx hb d_Wr_hasBrackets_65 rfl (lv_at hl 1 rfl) ?_
        refine lv_iload hx hb d_Wr_hasBrackets_66 (lv_at hl 3 rfl) ?_
        refine lv_iconst (v := (4 : Int32)) hx hb d_Wr_hasBrackets_68 (by decide) ?_
        obtain ⟨o35, ho35⟩ : ∃ z, f_Tr_tell p1_kinds p1_places p1_values p1_sizes p1_partCounts p1_count l4 (4 : Int32) = some z := by
          cases hz : f_Tr_tell p1_kinds p1_places p1_values p1_sizes p1_partCounts p1_count l4 (4 : Int32) with
          | none => rw [hz] at hf; simp only [jb_none, jl_b_none, jm_none, reduceCtorEq] at hf
          | some z => exact ⟨z, rfl⟩
        rw [ho35, jb_some] at hf
        refine jCallV (As := [.int l4, .int (4 : Int32)]) (rest := []) (wr := []) ⟨hx, hb, hml, hown, hts⟩ hJ (c_Tr_tell h_p1 h_p1_kinds h_p1_places h_p1_values h_p1_sizes h_p1_partCounts h_p1_wholes p1_kinds p1_places p1_values p1_sizes p1_partCounts p1_wholes p1_count l4 (4 : Int32) ho35) (cwV 2 hts (jgV jw379 jw381 jw382 jw153 jw380) rfl rfl rfl dd_Tr_tell ⟨Nat.le_of_ble_eq_true rfl, Nat.le_of_ble_eq_true rfl⟩) hP hD hS hA (va_recv hK hP (ci := 5) (q0 := 0) rfl rfl) [0, 1, 2, 3, 4, 5, 6] [] rfl rfl (by decide) (by decide) (by decide) rfl hl.1 rfl (Nat.le_of_ble_eq_true rfl) d_Wr_hasBrackets_69 ⟨Nat.le_of_ble_eq_true rfl, Nat.le_of_ble_eq_true rfl⟩ (fun qz36 H locs hP hD hS => ?_)
        have hP : va_P (dC, dI) vwCl [(h_p1, .inr (5, [.ref h_p1_kinds, .ref h_p1_places, .ref h_p1_values, .ref h_p1_sizes, .ref h_p1_partCounts, .ref h_p1_wholes, .int p1_count])), (h_p1_kinds, .inl (cI, 8001, .inl p1_kinds)), (h_p1_places, .inl (cI, 8001, .inl p1_places)), (h_p1_values, .inl (cI, 8001, .inl p1_values)), (h_p1_sizes, .inl (cI, 8001, .inl p1_sizes)), (h_p1_partCounts, .inl (cI, 8001, .inl p1_partCounts)), (h_p1_wholes, .inl (cI, 8001, .inl p1_wholes))] H := hP
        have hD : va_D A [(h_p1, .inr (5, [.ref h_p1_kinds, .ref h_p1_places, .ref h_p1_values, .ref h_p1_sizes, .ref h_p1_partCounts, .ref h_p1_wholes, .int p1_count])), (h_p1_kinds, .inl (cI, 8001, .inl p1_kinds)), (h_p1_places, .inl (cI, 8001, .inl p1_places)), (h_p1_values, .inl (cI, 8001, .inl p1_values)), (h_p1_sizes, .inl (cI, 8001, .inl p1_sizes)), (h_p1_partCounts, .inl (cI, 8001, .inl p1_partCounts)), (h_p1_wholes, .inl (cI, 8001, .inl p1_wholes))] := hD
        refine lv_iconst (v := (2 : Int32)) hx hb d_Wr_hasBrackets_72 (by decide) ?_
        refine lv_icmp_le (tgt := 80) hx hb d_Wr_hasBrackets_73 (by decide) (fun c73 => ?_) (fun c73 => ?_)
        · rw [if_pos c73] at hf
          refine lv_iconst (v := (0 : Int32)) hx hb d_Wr_hasBrackets_80 (by decide) ?_
          have hf : (some (vp_nar .boolean (0 : Int32)) : Option Int32) = some o := hf
          rw [hQ, ← Option.some.inj hf]
          exact jNret hx hb hr rfl hlocks d_Wr_hasBrackets_81 (fun _ => 0) hS hP hD
        · rw [if_neg c73] at hf
          exact B76  H locs ls hf hP hD hS (lv_sub hl [] rfl)
  have B49 : ∀ (l2 : Int32) (l4 : Int32) (H : Heap) (locs : List Loc) (ls : Array Slot), Wr_hasBrackets_b49 p1_kinds p1_places p1_values p1_sizes p1_partCounts p1_wholes p1_count l2 l4 = some o → va_P (dC, dI) vwCl [(h_p1, .inr (5, [.ref h_p1_kinds, .ref h_p1_places, .ref h_p1_values, .ref h_p1_sizes, .ref h_p1_partCounts, .ref h_p1_wholes, .int p1_count])), (h_p1_kinds, .inl (cI, 8001, .inl p1_kinds)), (h_p1_places, .inl (cI, 8001, .inl p1_places)), (h_p1_values, .inl (cI, 8001, .inl p1_values)), (h_p1_sizes, .inl (cI, 8001, .inl p1_sizes)), (h_p1_partCounts, .inl (cI, 8001, .inl p1_partCounts)), (h_p1_wholes, .inl (cI, 8001, .inl p1_wholes))] H → va_D A [(h_p1, .inr (5, [.ref h_p1_kinds, .ref h_p1_places, .ref h_p1_values, .ref h_p1_sizes, .ref h_p1_partCounts, .ref h_p1_wholes, .int p1_count])), (h_p1_kinds, .inl (cI, 8001, .inl p1_kinds)), (h_p1_places, .inl (cI, 8001, .inl p1_places)), (h_p1_values, .inl (cI, 8001, .inl p1_values)), (h_p1_sizes, .inl (cI, 8001, .inl p1_sizes)), (h_p1_partCounts, .inl (cI, 8001, .inl p1_partCounts)), (h_p1_wholes, .inl (cI, 8001, .inl p1_wholes))] → va_S A s.heap H locs → lv_has ls 7 [(0, .ref h_p1), (2, .int l2), (4, .int l4)] → W p l e { frames := 2, cells := 0, slots := 0, locals := 43 } s m args below meth c H locs 0 0 Q (F0 m 49 ls []) := by
    intro l2 l4 H locs ls hf hP hD hS hl
    unfold Wr_hasBrackets_b49 at hf
    refine lv_iconst (v := (1 : Int32)) hx hb d_Wr_hasBrackets_49 (by decide) ?_
    refine lv_goto (tgt := 54) hx hb d_Wr_hasBrackets_50 (by decide) ?_
    exact B54 l2 l4 (1 : Int32) H locs ls hf hP hD hS (lv_sub hl [0, 1, 2] rfl)
  unfold f_Wr_hasBrackets at hf
  refine lv_aload_n hx hb d_Wr_hasBrackets_0 rfl (lv_at hl 0 rfl) ?_
  refine lv_iload_n hx hb d_Wr_hasBrackets_1 rfl (lv_at hl 1 rfl) ?_
  obtain ⟨o37, ho37⟩ : ∃ z, f_Tr_kindOf p1_kinds p1_count a2 = some z := by
    cases hz : f_Tr_kindOf p1_kinds p1_count a2 with
    | none => rw [hz] at hf; simp only [jb_none, jl_b_none, jm_none, reduceCtorEq] at hf
    | some z => exact ⟨z, rfl⟩
  rw [ho37, jb_some] at hf
  refine jCallV (As := [.int a2]) (rest := []) (wr := []) ⟨hx, hb, hml, hown, hts⟩ hJ (c_Tr_kindOf h_p1 h_p1_kinds h_p1_places h_p1_values h_p1_sizes h_p1_partCounts h_p1_wholes p1_kinds p1_places p1_values p1_sizes p1_partCounts p1_wholes p1_count a2 ho37) (cwV 1 hts (jgV jw366 jw368 jw369 jw153 jw367) rfl rfl rfl dd_Tr_kindOf ⟨Nat.le_of_ble_eq_true rfl, Nat.le_of_ble_eq_true rfl⟩) hP hD hS hA (va_recv hK hP (ci := 5) (q0 := 0) rfl rfl) [0, 1, 2, 3, 4, 5, 6] [] rfl rfl (by decide) (by decide) (by decide) rfl hl.1 rfl (Nat.le_of_ble_eq_true rfl) d_Wr_hasBrackets_2 ⟨Nat.le_of_ble_eq_true rfl, Nat.le_of_ble_eq_true rfl⟩ (fun qz38 H locs hP hD hS => ?_)
  have hP : va_P (dC, dI) vwCl [(h_p1, .inr (5, [.ref h_p1_kinds, .ref h_p1_places, .ref h_p1_values, .ref h_p1_sizes, .ref h_p1_partCounts, .ref h_p1_wholes, .int p1_count])), (h_p1_kinds, .inl (cI, 8001, .inl p1_kinds)), (h_p1_places, .inl (cI, 8001, .inl p1_places)), (h_p1_values, .inl (cI, 8001, .inl p1_values)), (h_p1_sizes, .inl (cI, 8001, .inl p1_sizes)), (h_p1_partCounts, .inl (cI, 8001, .inl p1_partCounts)), (h_p1_wholes, .inl (cI, 8001, .inl p1_wholes))] H := hP
  have hD : va_D A [(h_p1, .inr (5, [.ref h_p1_kinds, .ref h_p1_places, .ref h_p1_values, .ref h_p1_sizes, .ref h_p1_partCounts, .ref h_p1_wholes, .int p1_count])), (h_p1_kinds, .inl (cI, 8001, .inl p1_kinds)), (h_p1_places, .inl (cI, 8001, .inl p1_places)), (h_p1_values, .inl (cI, 8001, .inl p1_values)), (h_p1_sizes, .inl (cI, 8001, .inl p1_sizes)), (h_p1_partCounts, .inl (cI, 8001, .inl p1_partCounts)), (h_p1_wholes, .inl (cI, 8001, .inl p1_wholes))] := hD
  refine lv_istore_n (lv' := [(3, .int o37), (0, .ref h_p1), (1, .int a2), (2, .int a3)]) hx hb d_Wr_hasBrackets_5 rfl hl (by decide) rfl (fun ls hl => ?_)
  refine lv_iload_n hx hb d_Wr_hasBrackets_6 rfl (lv_at hl 0 rfl) ?_
  refine lv_bipush (v := (15 : Int32)) hx hb d_Wr_hasBrackets_7 (by decide) ?_
  refine lv_icmp_ne (tgt := 14) hx hb d_Wr_hasBrackets_9 (by decide) (fun c9 => ?_) (fun c9 => ?_)
  · rw [if_neg c9] at hf
    refine lv_aload_n hx hb d_Wr_hasBrackets_14 rfl (lv_at hl 1 rfl) ?_
    refine lv_iload_n hx hb d_Wr_hasBrackets_15 rfl (lv_at hl 2 rfl) ?_
    obtain ⟨o39, ho39⟩ : ∃ z, f_Tr_wholeOf p1_wholes p1_count a2 = some z := by
      cases hz : f_Tr_wholeOf p1_wholes p1_count a2 with
      | none => rw [hz] at hf; simp only [jb_none, jl_b_none, jm_none, reduceCtorEq] at hf
      | some z => exact ⟨z, rfl⟩
    rw [ho39, jb_some] at hf
    refine jCallV (As := [.int a2]) (rest := []) (wr := []) ⟨hx, hb, hml, hown, hts⟩ hJ (c_Tr_wholeOf h_p1 h_p1_kinds h_p1_places h_p1_values h_p1_sizes h_p1_partCounts h_p1_wholes p1_kinds p1_places p1_values p1_sizes p1_partCounts p1_wholes p1_count a2 ho39) (cwV 1 hts (jgV jw370 jw158 jw159 jw153 jw157) rfl rfl rfl dd_Tr_wholeOf ⟨Nat.le_of_ble_eq_true rfl, Nat.le_of_ble_eq_true rfl⟩) hP hD hS hA (va_recv hK hP (ci := 5) (q0 := 0) rfl rfl) [0, 1, 2, 3, 4, 5, 6] [] rfl rfl (by decide) (by decide) (by decide) rfl hl.1 rfl (Nat.le_of_ble_eq_true rfl) d_Wr_hasBrackets_16 ⟨Nat.le_of_ble_eq_true rfl, Nat.le_of_ble_eq_true rfl⟩ (fun qz40 H locs hP hD hS => ?_)
    have hP : va_P (dC, dI) vwCl [(h_p1, .inr (5, [.ref h_p1_kinds, .ref h_p1_places, .ref h_p1_values, .ref h_p1_sizes, .ref h_p1_partCounts, .ref h_p1_wholes, .int p1_count])), (h_p1_kinds, .inl (cI, 8001, .inl p1_kinds)), (h_p1_places, .inl (cI, 8001, .inl p1_places)), (h_p1_values, .inl (cI, 8001, .inl p1_values)), (h_p1_sizes, .inl (cI, 8001, .inl p1_sizes)), (h_p1_partCounts, .inl (cI, 8001, .inl p1_partCounts)), (h_p1_wholes, .inl (cI, 8001, .inl p1_wholes))] H := hP
    have hD : va_D A [(h_p1, .inr (5, [.ref h_p1_kinds, .ref h_p1_places, .ref h_p1_values, .ref h_p1_sizes, .ref h_p1_partCounts, .ref h_p1_wholes, .int p1_count])), (h_p1_kinds, .inl (cI, 8001, .inl p1_kinds)), (h_p1_places, .inl (cI, 8001, .inl p1_places)), (h_p1_values, .inl (cI, 8001, .inl p1_values)), (h_p1_sizes, .inl (cI, 8001, .inl p1_sizes)), (h_p1_partCounts, .inl (cI, 8001, .inl p1_partCounts)), (h_p1_wholes, .inl (cI, 8001, .inl p1_wholes))] := hD
    refine lv_istore (lv' := [(4, .int o39), (3, .int o37), (0, .ref h_p1), (1, .int a2), (2, .int a3)]) hx hb d_Wr_hasBrackets_19 hl (by decide) rfl (fun ls hl => ?_)
    refine lv_aload_n hx hb d_Wr_hasBrackets_21 rfl (lv_at hl 2 rfl) ?_
    refine lv_iload hx hb d_Wr_hasBrackets_22 (lv_at hl 0 rfl) ?_
    obtain ⟨o41, ho41⟩ : ∃ z, f_Tr_kindOf p1_kinds p1_count o39 = some z := by
      cases hz : f_Tr_kindOf p1_kinds p1_count o39 with
      | none => rw [hz] at hf; simp only [jb_none, jl_b_none, jm_none, reduceCtorEq] at hf
      | some z => exact ⟨z, rfl⟩
    rw [ho41, jb_some] at hf
    refine jCallV (As := [.int o39]) (rest := []) (wr := []) ⟨hx, hb, hml, hown, hts⟩ hJ (c_Tr_kindOf h_p1 h_p1_kinds h_p1_places h_p1_values h_p1_sizes h_p1_partCounts h_p1_wholes p1_kinds p1_places p1_values p1_sizes p1_partCounts p1_wholes p1_count o39 ho41) (cwV 1 hts (jgV jw366 jw368 jw369 jw153 jw367) rfl rfl rfl dd_Tr_kindOf ⟨Nat.le_of_ble_eq_true rfl, Nat.le_of_ble_eq_true rfl⟩) hP hD hS hA (va_recv hK hP (ci := 5) (q0 := 0) rfl rfl) [0, 1, 2, 3, 4, 5, 6] [] rfl rfl (by decide) (by decide) (by decide) rfl hl.1 rfl (Nat.le_of_ble_eq_true rfl) d_Wr_hasBrackets_24 ⟨Nat.le_of_ble_eq_true rfl, Nat.le_of_ble_eq_true rfl⟩ (fun qz42 H locs hP hD hS => ?_)
    have hP : va_P (dC, dI) vwCl [(h_p1, .inr (5, [.ref h_p1_kinds, .ref h_p1_places, .ref h_p1_values, .ref h_p1_sizes, .ref h_p1_partCounts, .ref h_p1_wholes, .int p1_count])), (h_p1_kinds, .inl (cI, 8001, .inl p1_kinds)), (h_p1_places, .inl (cI, 8001, .inl p1_places)), (h_p1_values, .inl (cI, 8001, .inl p1_values)), (h_p1_sizes, .inl (cI, 8001, .inl p1_sizes)), (h_p1_partCounts, .inl (cI, 8001, .inl p1_partCounts)), (h_p1_wholes, .inl (cI, 8001, .inl p1_wholes))] H := hP
    have hD : va_D A [(h_p1, .inr (5, [.ref h_p1_kinds, .ref h_p1_places, .ref h_p1_values, .ref h_p1_sizes, .ref h_p1_partCounts, .ref h_p1_wholes, .int p1_count])), (h_p1_kinds, .inl (cI, 8001, .inl p1_kinds)), (h_p1_places, .inl (cI, 8001, .inl p1_places)), (h_p1_values, .inl (cI, 8001, .inl p1_values)), (h_p1_sizes, .inl (cI, 8001, .inl p1_sizes)), (h_p1_partCounts, .inl (cI, 8001, .inl p1_partCounts)), (h_p1_wholes, .inl (cI, 8001, .inl p1_wholes))] := hD
    refine lv_istore (lv' := [(5, .int o41), (4, .int o39), (3, .int o37), (0, .ref h_p1), (1, .int a2), (2, .int a3)]) hx hb d_Wr_hasBrackets_27 hl (by decide) rfl (fun ls hl => ?_)
    refine lv_iload_n hx hb d_Wr_hasBrackets_29 rfl (lv_at hl 2 rfl) ?_
    refine lv_bipush (v := (8 : Int32)) hx hb d_Wr_hasBrackets_30 (by decide) ?_
    refine lv_icmp_ne (tgt := 82) hx hb d_Wr_hasBrackets_32 (by decide) (fun c32 => ?_) (fun c32 => ?_)
    · rw [if_neg c32] at hf
      refine lv_iload_n hx hb d_Wr_hasBrackets_82 rfl (lv_at hl 5 rfl) ?_
      refine lv_if_ne (tgt := 100) hx hb d_Wr_hasBrackets_83 (by decide) (fun c83 => ?_) (fun c83 => ?_)
      · rw [if_neg c83] at hf
        refine lv_iconst (v := (0 : Int32)) hx hb d_Wr_hasBrackets_100 (by decide) ?_
        have hf : (some (vp_nar .boolean (0 : Int32)) : Option Int32) = some o := hf
        rw [hQ, ← Option.some.inj hf]
        exact jNret hx hb hr rfl hlocks d_Wr_hasBrackets_101 (fun _ => 0) hS hP hD
      · rw [if_pos c83] at hf
        refine lv_iload hx hb d_Wr_hasBrackets_86 (lv_at hl 0 rfl) ?_
        refine lv_bipush (v := (13 : Int32)) hx hb d_Wr_hasBrackets_88 (by decide) ?_
        refine lv_icmp_eq (tgt := 102) hx hb d_Wr_hasBrackets_90 (by decide) (fun c90 => ?_) (fun c90 => ?_)
        · rw [if_pos c90] at hf
          exact B102 a2 o37 o41 H locs ls hf hP hD hS (lv_sub hl [3, 4, 2, 0] rfl)
        · rw [if_neg c90] at hf
          refine lv_iload hx hb d_Wr_hasBrackets_93 (lv_at hl 0 rfl) ?_
          refine lv_bipush (v := (14 : Int32)) hx hb d_Wr_hasBrackets_95 (by decide) ?_
          refine lv_icmp_eq (tgt := 102) hx hb d_Wr_hasBrackets_97 (by decide) (fun c97 => ?_) (fun c97 => ?_)
          · rw [if_pos c97] at hf
            exact B102 a2 o37 o41 H locs ls hf hP hD hS (lv_sub hl [3, 4, 2, 0] rfl)
          · rw [if_neg c97] at hf
            refine lv_iconst (v := (0 : Int32)) hx hb d_Wr_hasBrackets_100 (by decide) ?_
            have hf : (some (vp_nar .boolean (0 : Int32)) : Option Int32) = some o := hf
            rw [hQ, ← Option.some.inj hf]
            exact jNret hx hb hr rfl hlocks d_Wr_hasBrackets_101 (fun _ => 0) hS hP hD
    · rw [if_pos c32] at hf
      refine lv_iload hx hb d_Wr_hasBrackets_35 (lv_at hl 0 rfl) ?_
      refine lv_bipush (v := (10 : Int32)) hx hb d_Wr_hasBrackets_37 (by decide) ?_
      refine lv_icmp_eq (tgt := 49) hx hb d_Wr_hasBrackets_39 (by decide) (fun c39 => ?_) (fun c39 => ?_)
      · rw [if_pos c39] at hf
        exact B49 a3 o39 H locs ls hf hP hD hS (lv_sub hl [3, 5, 1] rfl)
      · rw [if_neg c39] at hf
        refine lv_iload hx hb d_Wr_hasBrackets_42 (lv_at hl 0 rfl) ?_
        refine lv_bipush (v := (11 : Int32)) hx hb d_Wr_hasBrackets_44 (by decide) ?_
        refine lv_icmp_ne (tgt := 53) hx hb d_Wr_hasBrackets_46 (by decide) (fun c46 => ?_) (fun c46 => ?_)
        · rw [if_neg c46] at hf
          refine lv_iconst (v := (0 : Int32)) hx hb d_Wr_hasBrackets_53 (by decide) ?_
          exact B54 a3 o39 (0 : Int32) H locs ls hf hP hD hS (lv_sub hl [3, 5, 1] rfl)
        · rw [if_pos c46] at hf
          exact B49 a3 o39 H locs ls hf hP hD hS (lv_sub hl [3, 5, 1] rfl)
  · rw [if_pos c9] at hf
    refine lv_iconst (v := (1 : Int32)) hx hb d_Wr_hasBrackets_12 (by decide) ?_
    have hf : (some (vp_nar .boolean (1 : Int32)) : Option Int32) = some o := hf
    rw [hQ, ← Option.some.inj hf]
    exact jNret hx hb hr rfl hlocks d_Wr_hasBrackets_13 (fun _ => 0) hS hP hD
theorem d_Wr_tokenInLet_0 : decode b_Wr_tokenInLet 0 = .ok (.iload_n 1, 1) := by decide +kernel
theorem d_Wr_tokenInLet_1 : decode b_Wr_tokenInLet 1 = .ok (.aload_n 0, 1) := by decide +kernel
theorem d_Wr_tokenInLet_2 : decode b_Wr_tokenInLet 2 = .ok (.iload_n 1, 1) := by decide +kernel
theorem d_Wr_tokenInLet_3 : decode b_Wr_tokenInLet 3 = .ok (.invokevirtual 54, 3) := by decide +kernel
theorem d_Wr_tokenInLet_6 : decode b_Wr_tokenInLet 6 = .ok (.iconst 2, 1) := by decide +kernel
theorem d_Wr_tokenInLet_7 : decode b_Wr_tokenInLet 7 = .ok (.iadd, 1) := by decide +kernel
theorem d_Wr_tokenInLet_8 : decode b_Wr_tokenInLet 8 = .ok (.if_icmp .ne 8, 3) := by decide +kernel
theorem d_Wr_tokenInLet_11 : decode b_Wr_tokenInLet 11 = .ok (.bipush 17, 2) := by decide +kernel
theorem d_Wr_tokenInLet_13 : decode b_Wr_tokenInLet 13 = .ok (.goto 5, 3) := by decide +kernel
theorem d_Wr_tokenInLet_16 : decode b_Wr_tokenInLet 16 = .ok (.bipush 18, 2) := by decide +kernel
theorem d_Wr_tokenInLet_18 : decode b_Wr_tokenInLet 18 = .ok (.ireturn, 1) := by decide +kernel
noncomputable def f_Wr_tokenInLet (p1_wholes : (Nat → Int32)) (p1_count : Int32)  (a2 : Int32) : Option Int32 := jb (f_Tr_wholeOf p1_wholes p1_count a2) (fun o3 => if a2 = (o3 + (2 : Int32)) then (some (17 : Int32)) else (some (18 : Int32)))
set_option maxHeartbeats 4000000 in
set_option maxRecDepth 100000 in
theorem c_Wr_tokenInLet {l : Launch} {dC : Nat → ClassId} {dI : Nat → Nat → Nat} {cI cB cS : ClassId} {adK adV adR : Nat → Nat} (h_p1 h_p1_kinds h_p1_places h_p1_values h_p1_sizes h_p1_partCounts h_p1_wholes : Nat) (p1_kinds : (Nat → Int32)) (p1_places : (Nat → Int32)) (p1_values : (Nat → Int32)) (p1_sizes : (Nat → Int32)) (p1_partCounts : (Nat → Int32)) (p1_wholes : (Nat → Int32)) (p1_count : Int32) (a2 : Int32) {o : Int32} (hf : f_Wr_tokenInLet p1_wholes p1_count a2 = some o) : jMet l dC dI cI cB cS adK adV adR y_Wr_tokenInLet wd_Wr_tokenInLet { frames := 2, cells := 0, slots := 0, locals := 42 } [.ref h_p1, .int a2] [(h_p1, .inr (5, [.ref h_p1_kinds, .ref h_p1_places, .ref h_p1_values, .ref h_p1_sizes, .ref h_p1_partCounts, .ref h_p1_wholes, .int p1_count])), (h_p1_kinds, .inl (cI, 8001, .inl p1_kinds)), (h_p1_places, .inl (cI, 8001, .inl p1_places)), (h_p1_values, .inl (cI, 8001, .inl p1_values)), (h_p1_sizes, .inl (cI, 8001, .inl p1_sizes)), (h_p1_partCounts, .inl (cI, 8001, .inl p1_partCounts)), (h_p1_wholes, .inl (cI, 8001, .inl p1_wholes))] (some (.int o)) (fun q => [(h_p1, .inr (5, [.ref h_p1_kinds, .ref h_p1_places, .ref h_p1_values, .ref h_p1_sizes, .ref h_p1_partCounts, .ref h_p1_wholes, .int p1_count])), (h_p1_kinds, .inl (cI, 8001, .inl p1_kinds)), (h_p1_places, .inl (cI, 8001, .inl p1_places)), (h_p1_values, .inl (cI, 8001, .inl p1_values)), (h_p1_sizes, .inl (cI, 8001, .inl p1_sizes)), (h_p1_partCounts, .inl (cI, 8001, .inl p1_partCounts)), (h_p1_wholes, .inl (cI, 8001, .inl p1_wholes))]) 0 0 := by
  refine jEntry (cc := b_Wr_tokenInLet) (maxL := 2) (ret := (some .int)) (by decide) rfl (Nat.le_of_ble_eq_true rfl) rfl (fun p e s m args below meth c A H locs ls Q hQ hx hb hr hml hown hts hlocks hnm hJ hA hP hD hS hl => ?_)
  have hK := hJ.K
  have hl : lv_has ls 2 [(0, .ref h_p1), (1, .int a2)] := hl
  unfold f_Wr_tokenInLet at hf
  refine lv_iload_n hx hb d_Wr_tokenInLet_0 rfl (lv_at hl 1 rfl) ?_
  refine lv_aload_n hx hb d_Wr_tokenInLet_1 rfl (lv_at hl 0 rfl) ?_
  refine lv_iload_n hx hb d_Wr_tokenInLet_2 rfl (lv_at hl 1 rfl) ?_
  obtain ⟨o5, ho5⟩ : ∃ z, f_Tr_wholeOf p1_wholes p1_count a2 = some z := by
    cases hz : f_Tr_wholeOf p1_wholes p1_count a2 with
    | none => rw [hz] at hf; simp only [jb_none, jl_b_none, jm_none, reduceCtorEq] at hf
    | some z => exact ⟨z, rfl⟩
  rw [ho5, jb_some] at hf
  refine jCallV (As := [.int a2]) (rest := [.int a2]) (wr := []) ⟨hx, hb, hml, hown, hts⟩ hJ (c_Tr_wholeOf h_p1 h_p1_kinds h_p1_places h_p1_values h_p1_sizes h_p1_partCounts h_p1_wholes p1_kinds p1_places p1_values p1_sizes p1_partCounts p1_wholes p1_count a2 ho5) (cwV 1 hts (jgV jw370 jw158 jw159 jw153 jw157) rfl rfl rfl dd_Tr_wholeOf ⟨Nat.le_of_ble_eq_true rfl, Nat.le_of_ble_eq_true rfl⟩) hP hD hS hA (va_recv hK hP (ci := 5) (q0 := 0) rfl rfl) [0, 1, 2, 3, 4, 5, 6] [] rfl rfl (by decide) (by decide) (by decide) rfl hl.1 rfl (Nat.le_of_ble_eq_true rfl) d_Wr_tokenInLet_3 ⟨Nat.le_of_ble_eq_true rfl, Nat.le_of_ble_eq_true rfl⟩ (fun qz6 H locs hP hD hS => ?_)
  have hP : va_P (dC, dI) vwCl [(h_p1, .inr (5, [.ref h_p1_kinds, .ref h_p1_places, .ref h_p1_values, .ref h_p1_sizes, .ref h_p1_partCounts, .ref h_p1_wholes, .int p1_count])), (h_p1_kinds, .inl (cI, 8001, .inl p1_kinds)), (h_p1_places, .inl (cI, 8001, .inl p1_places)), (h_p1_values, .inl (cI, 8001, .inl p1_values)), (h_p1_sizes, .inl (cI, 8001, .inl p1_sizes)), (h_p1_partCounts, .inl (cI, 8001, .inl p1_partCounts)), (h_p1_wholes, .inl (cI, 8001, .inl p1_wholes))] H := hP
  have hD : va_D A [(h_p1, .inr (5, [.ref h_p1_kinds, .ref h_p1_places, .ref h_p1_values, .ref h_p1_sizes, .ref h_p1_partCounts, .ref h_p1_wholes, .int p1_count])), (h_p1_kinds, .inl (cI, 8001, .inl p1_kinds)), (h_p1_places, .inl (cI, 8001, .inl p1_places)), (h_p1_values, .inl (cI, 8001, .inl p1_values)), (h_p1_sizes, .inl (cI, 8001, .inl p1_sizes)), (h_p1_partCounts, .inl (cI, 8001, .inl p1_partCounts)), (h_p1_wholes, .inl (cI, 8001, .inl p1_wholes))] := hD
  refine lv_iconst (v := (2 : Int32)) hx hb d_Wr_tokenInLet_6 (by decide) ?_
  refine lv_iadd hx hb d_Wr_tokenInLet_7 ?_
  refine lv_icmp_ne (tgt := 16) hx hb d_Wr_tokenInLet_8 (by decide) (fun c8 => ?_) (fun c8 => ?_)
  · rw [if_neg c8] at hf
    refine lv_bipush (v := (18 : Int32)) hx hb d_Wr_tokenInLet_16 (by decide) ?_
    have hf : (some (18 : Int32) : Option Int32) = some o := hf
    rw [hQ, ← Option.some.inj hf]
    exact jIret hx hb hr hlocks d_Wr_tokenInLet_18 (fun _ => 0) hS hP hD
  · rw [if_pos c8] at hf
    refine lv_bipush (v := (17 : Int32)) hx hb d_Wr_tokenInLet_11 (by decide) ?_
    refine lv_goto (tgt := 18) hx hb d_Wr_tokenInLet_13 (by decide) ?_
    have hf : (some (17 : Int32) : Option Int32) = some o := hf
    rw [hQ, ← Option.some.inj hf]
    exact jIret hx hb hr hlocks d_Wr_tokenInLet_18 (fun _ => 0) hS hP hD
theorem d_Wr_tokenBefore_0 : decode b_Wr_tokenBefore 0 = .ok (.aload_n 0, 1) := by decide +kernel
theorem d_Wr_tokenBefore_1 : decode b_Wr_tokenBefore 1 = .ok (.iload_n 1, 1) := by decide +kernel
theorem d_Wr_tokenBefore_2 : decode b_Wr_tokenBefore 2 = .ok (.invokevirtual 71, 3) := by decide +kernel
theorem d_Wr_tokenBefore_5 : decode b_Wr_tokenBefore 5 = .ok (.istore_n 2, 1) := by decide +kernel
theorem d_Wr_tokenBefore_6 : decode b_Wr_tokenBefore 6 = .ok (.iload_n 2, 1) := by decide +kernel
theorem d_Wr_tokenBefore_7 : decode b_Wr_tokenBefore 7 = .ok (.bipush 9, 2) := by decide +kernel
theorem d_Wr_tokenBefore_9 : decode b_Wr_tokenBefore 9 = .ok (.if_icmp .eq 23, 3) := by decide +kernel
theorem d_Wr_tokenBefore_12 : decode b_Wr_tokenBefore 12 = .ok (.iload_n 2, 1) := by decide +kernel
theorem d_Wr_tokenBefore_13 : decode b_Wr_tokenBefore 13 = .ok (.bipush 8, 2) := by decide +kernel
theorem d_Wr_tokenBefore_15 : decode b_Wr_tokenBefore 15 = .ok (.if_icmp .eq 17, 3) := by decide +kernel
theorem d_Wr_tokenBefore_18 : decode b_Wr_tokenBefore 18 = .ok (.iload_n 2, 1) := by decide +kernel
theorem d_Wr_tokenBefore_19 : decode b_Wr_tokenBefore 19 = .ok (.bipush 19, 2) := by decide +kernel
theorem d_Wr_tokenBefore_21 : decode b_Wr_tokenBefore 21 = .ok (.if_icmp .eq 11, 3) := by decide +kernel
theorem d_Wr_tokenBefore_24 : decode b_Wr_tokenBefore 24 = .ok (.aload_n 0, 1) := by decide +kernel
theorem d_Wr_tokenBefore_25 : decode b_Wr_tokenBefore 25 = .ok (.iload_n 1, 1) := by decide +kernel
theorem d_Wr_tokenBefore_26 : decode b_Wr_tokenBefore 26 = .ok (.invokevirtual 96, 3) := by decide +kernel
theorem d_Wr_tokenBefore_29 : decode b_Wr_tokenBefore 29 = .ok (.ifCond .eq 5, 3) := by decide +kernel
theorem d_Wr_tokenBefore_32 : decode b_Wr_tokenBefore 32 = .ok (.iconst 0, 1) := by decide +kernel
theorem d_Wr_tokenBefore_33 : decode b_Wr_tokenBefore 33 = .ok (.ireturn, 1) := by decide +kernel
theorem d_Wr_tokenBefore_34 : decode b_Wr_tokenBefore 34 = .ok (.aload_n 0, 1) := by decide +kernel
theorem d_Wr_tokenBefore_35 : decode b_Wr_tokenBefore 35 = .ok (.iload_n 1, 1) := by decide +kernel
theorem d_Wr_tokenBefore_36 : decode b_Wr_tokenBefore 36 = .ok (.invokevirtual 50, 3) := by decide +kernel
theorem d_Wr_tokenBefore_39 : decode b_Wr_tokenBefore 39 = .ok (.istore_n 3, 1) := by decide +kernel
theorem d_Wr_tokenBefore_40 : decode b_Wr_tokenBefore 40 = .ok (.aload_n 0, 1) := by decide +kernel
theorem d_Wr_tokenBefore_41 : decode b_Wr_tokenBefore 41 = .ok (.aload_n 0, 1) := by decide +kernel
theorem d_Wr_tokenBefore_42 : decode b_Wr_tokenBefore 42 = .ok (.iload_n 1, 1) := by decide +kernel
theorem d_Wr_tokenBefore_43 : decode b_Wr_tokenBefore 43 = .ok (.invokevirtual 54, 3) := by decide +kernel
theorem d_Wr_tokenBefore_46 : decode b_Wr_tokenBefore 46 = .ok (.invokevirtual 71, 3) := by decide +kernel
theorem d_Wr_tokenBefore_49 : decode b_Wr_tokenBefore 49 = .ok (.tableswitch 127 1 15 #[75, 78, 78, 90, 75, 75, 127, 75, 127, 103, 106, 109, 124, 127, 75], 75) := by decide +kernel
theorem d_Wr_tokenBefore_124 : decode b_Wr_tokenBefore 124 = .ok (.bipush 17, 2) := by decide +kernel
theorem d_Wr_tokenBefore_126 : decode b_Wr_tokenBefore 126 = .ok (.ireturn, 1) := by decide +kernel
theorem d_Wr_tokenBefore_127 : decode b_Wr_tokenBefore 127 = .ok (.iload_n 3, 1) := by decide +kernel
theorem d_Wr_tokenBefore_128 : decode b_Wr_tokenBefore 128 = .ok (.ifCond .eq 8, 3) := by decide +kernel
theorem d_Wr_tokenBefore_131 : decode b_Wr_tokenBefore 131 = .ok (.bipush 18, 2) := by decide +kernel
theorem d_Wr_tokenBefore_133 : decode b_Wr_tokenBefore 133 = .ok (.goto 5, 3) := by decide +kernel
theorem d_Wr_tokenBefore_136 : decode b_Wr_tokenBefore 136 = .ok (.bipush 17, 2) := by decide +kernel
theorem d_Wr_tokenBefore_138 : decode b_Wr_tokenBefore 138 = .ok (.ireturn, 1) := by decide +kernel
theorem d_Wr_tokenBefore_139 : decode b_Wr_tokenBefore 139 = .ok (.iload_n 2, 1) := by decide +kernel
theorem d_Wr_tokenBefore_140 : decode b_Wr_tokenBefore 140 = .ok (.iconst 5, 1) := by decide +kernel
theorem d_Wr_tokenBefore_141 : decode b_Wr_tokenBefore 141 = .ok (.if_icmp .ne 8, 3) := by decide +kernel
theorem d_Wr_tokenBefore_144 : decode b_Wr_tokenBefore 144 = .ok (.bipush 23, 2) := by decide +kernel
theorem d_Wr_tokenBefore_146 : decode b_Wr_tokenBefore 146 = .ok (.goto 5, 3) := by decide +kernel
theorem d_Wr_tokenBefore_149 : decode b_Wr_tokenBefore 149 = .ok (.bipush 17, 2) := by decide +kernel
theorem d_Wr_tokenBefore_151 : decode b_Wr_tokenBefore 151 = .ok (.ireturn, 1) := by decide +kernel
theorem d_Wr_tokenBefore_152 : decode b_Wr_tokenBefore 152 = .ok (.bipush 19, 2) := by decide +kernel
theorem d_Wr_tokenBefore_154 : decode b_Wr_tokenBefore 154 = .ok (.ireturn, 1) := by decide +kernel
theorem d_Wr_tokenBefore_155 : decode b_Wr_tokenBefore 155 = .ok (.bipush 21, 2) := by decide +kernel
theorem d_Wr_tokenBefore_157 : decode b_Wr_tokenBefore 157 = .ok (.ireturn, 1) := by decide +kernel
theorem d_Wr_tokenBefore_158 : decode b_Wr_tokenBefore 158 = .ok (.iload_n 3, 1) := by decide +kernel
theorem d_Wr_tokenBefore_159 : decode b_Wr_tokenBefore 159 = .ok (.ifCond .eq 8, 3) := by decide +kernel
theorem d_Wr_tokenBefore_162 : decode b_Wr_tokenBefore 162 = .ok (.bipush 13, 2) := by decide +kernel
theorem d_Wr_tokenBefore_164 : decode b_Wr_tokenBefore 164 = .ok (.goto 8, 3) := by decide +kernel
theorem d_Wr_tokenBefore_167 : decode b_Wr_tokenBefore 167 = .ok (.aload_n 0, 1) := by decide +kernel
theorem d_Wr_tokenBefore_168 : decode b_Wr_tokenBefore 168 = .ok (.iload_n 1, 1) := by decide +kernel
theorem d_Wr_tokenBefore_169 : decode b_Wr_tokenBefore 169 = .ok (.invokestatic 99, 3) := by decide +kernel
theorem d_Wr_tokenBefore_172 : decode b_Wr_tokenBefore 172 = .ok (.ireturn, 1) := by decide +kernel
theorem d_Wr_tokenBefore_173 : decode b_Wr_tokenBefore 173 = .ok (.bipush 20, 2) := by decide +kernel
theorem d_Wr_tokenBefore_175 : decode b_Wr_tokenBefore 175 = .ok (.ireturn, 1) := by decide +kernel
theorem d_Wr_tokenBefore_176 : decode b_Wr_tokenBefore 176 = .ok (.iconst 0, 1) := by decide +kernel
theorem d_Wr_tokenBefore_177 : decode b_Wr_tokenBefore 177 = .ok (.ireturn, 1) := by decide +kernel
noncomputable def f_Wr_tokenBefore (p1_kinds : (Nat → Int32)) (p1_sizes : (Nat → Int32)) (p1_wholes : (Nat → Int32)) (p1_count : Int32)  (a2 : Int32) : Option Int32 := jb (f_Tr_kindOf p1_kinds p1_count a2) (fun o13 => if o13 = (9 : Int32) then (some (0 : Int32)) else (if o13 = (8 : Int32) then (some (0 : Int32)) else (if o13 = (19 : Int32) then (some (0 : Int32)) else (jb (f_Tr_isFirstPart p1_wholes p1_count a2) (fun o15 => if o15 = 0 then (jb (f_Tr_isLastPart p1_sizes p1_wholes p1_count a2) (fun o17 => jb (f_Tr_wholeOf p1_wholes p1_count a2) (fun o19 => jb (f_Tr_kindOf p1_kinds p1_count o19) (fun o21 => if o21 = (1 : Int32) then (some (17 : Int32)) else if o21 = (2 : Int32) then (if o17 = 0 then (some (17 : Int32)) else (some (18 : Int32))) else if o21 = (3 : Int32) then (if o17 = 0 then (some (17 : Int32)) else (some (18 : Int32))) else if o21 = (4 : Int32) then (if o13 = (5 : Int32) then (some (23 : Int32)) else (some (17 : Int32))) else if o21 = (5 : Int32) then (some (17 : Int32)) else if o21 = (6 : Int32) then (some (17 : Int32)) else if o21 = (7 : Int32) then (some (0 : Int32)) else if o21 = (8 : Int32) then (some (17 : Int32)) else if o21 = (9 : Int32) then (some (0 : Int32)) else if o21 = (10 : Int32) then (some (19 : Int32)) else if o21 = (11 : Int32) then (some (21 : Int32)) else if o21 = (12 : Int32) then (if o17 = 0 then (jb (f_Wr_tokenInLet p1_wholes p1_count a2) (fun o23 => some o23)) else (some (13 : Int32))) else if o21 = (13 : Int32) then (some (20 : Int32)) else if o21 = (14 : Int32) then (some (0 : Int32)) else if o21 = (15 : Int32) then (some (17 : Int32)) else (some (0 : Int32)))))) else (some (0 : Int32)))))))
set_option maxHeartbeats 4000000 in
set_option maxRecDepth 100000 in
theorem c_Wr_tokenBefore {l : Launch} {dC : Nat → ClassId} {dI : Nat → Nat → Nat} {cI cB cS : ClassId} {adK adV adR : Nat → Nat} (h_p1 h_p1_kinds h_p1_places h_p1_values h_p1_sizes h_p1_partCounts h_p1_wholes : Nat) (p1_kinds : (Nat → Int32)) (p1_places : (Nat → Int32)) (p1_values : (Nat → Int32)) (p1_sizes : (Nat → Int32)) (p1_partCounts : (Nat → Int32)) (p1_wholes : (Nat → Int32)) (p1_count : Int32) (a2 : Int32) {o : Int32} (hf : f_Wr_tokenBefore p1_kinds p1_sizes p1_wholes p1_count a2 = some o) : jMet l dC dI cI cB cS adK adV adR y_Wr_tokenBefore wd_Wr_tokenBefore { frames := 3, cells := 0, slots := 0, locals := 64 } [.ref h_p1, .int a2] [(h_p1, .inr (5, [.ref h_p1_kinds, .ref h_p1_places, .ref h_p1_values, .ref h_p1_sizes, .ref h_p1_partCounts, .ref h_p1_wholes, .int p1_count])), (h_p1_kinds, .inl (cI, 8001, .inl p1_kinds)), (h_p1_places, .inl (cI, 8001, .inl p1_places)), (h_p1_values, .inl (cI, 8001, .inl p1_values)), (h_p1_sizes, .inl (cI, 8001, .inl p1_sizes)), (h_p1_partCounts, .inl (cI, 8001, .inl p1_partCounts)), (h_p1_wholes, .inl (cI, 8001, .inl p1_wholes))] (some (.int o)) (fun q => [(h_p1, .inr (5, [.ref h_p1_kinds, .ref h_p1_places, .ref h_p1_values, .ref h_p1_sizes, .ref h_p1_partCounts, .ref h_p1_wholes, .int p1_count])), (h_p1_kinds, .inl (cI, 8001, .inl p1_kinds)), (h_p1_places, .inl (cI, 8001, .inl p1_places)), (h_p1_values, .inl (cI, 8001, .inl p1_values)), (h_p1_sizes, .inl (cI, 8001, .inl p1_sizes)), (h_p1_partCounts, .inl (cI, 8001, .inl p1_partCounts)), (h_p1_wholes, .inl (cI, 8001, .inl p1_wholes))]) 0 0 := by
  refine jEntry (cc := b_Wr_tokenBefore) (maxL := 4) (ret := (some .int)) (by decide) rfl (Nat.le_of_ble_eq_true rfl) rfl (fun p e s m args below meth c A H locs ls Q hQ hx hb hr hml hown hts hlocks hnm hJ hA hP hD hS hl => ?_)
  have hK := hJ.K
  have hl : lv_has ls 4 [(0, .ref h_p1), (1, .int a2)] := hl
  unfold f_Wr_tokenBefore at hf
  refine lv_aload_n hx hb d_Wr_tokenBefore_0 rfl (lv_at hl 0 rfl) ?_
  refine lv_iload_n hx hb d_Wr_tokenBefore_1 rfl (lv_at hl 1 rfl) ?_
  obtain ⟨o25, ho25⟩ : ∃ z, f_Tr_kindOf p1_kinds p1_count a2 = some z := by
    cases hz : f_Tr_kindOf p1_kinds p1_count a2 with
    | none => rw [hz] at hf; simp only [jb_none, jl_b_none, jm_none, reduceCtorEq] at hf
    | some z => exact ⟨z, rfl⟩
  rw [ho25, jb_some] at hf
  refine jCallV (As := [.int a2]) (rest := []) (wr := []) ⟨hx, hb, hml, hown, hts⟩ hJ (c_Tr_kindOf h_p1 h_p1_kinds h_p1_places h_p1_values h_p1_sizes h_p1_partCounts h_p1_wholes p1_kinds p1_places p1_values p1_sizes p1_partCounts p1_wholes p1_count a2 ho25) (cwV 1 hts (jgV jw366 jw368 jw369 jw153 jw367) rfl rfl rfl dd_Tr_kindOf ⟨Nat.le_of_ble_eq_true rfl, Nat.le_of_ble_eq_true rfl⟩) hP hD hS hA (va_recv hK hP (ci := 5) (q0 := 0) rfl rfl) [0, 1, 2, 3, 4, 5, 6] [] rfl rfl (by decide) (by decide) (by decide) rfl hl.1 rfl (Nat.le_of_ble_eq_true rfl) d_Wr_tokenBefore_2 ⟨Nat.le_of_ble_eq_true rfl, Nat.le_of_ble_eq_true rfl⟩ (fun qz26 H locs hP hD hS => ?_)
  have hP : va_P (dC, dI) vwCl [(h_p1, .inr (5, [.ref h_p1_kinds, .ref h_p1_places, .ref h_p1_values, .ref h_p1_sizes, .ref h_p1_partCounts, .ref h_p1_wholes, .int p1_count])), (h_p1_kinds, .inl (cI, 8001, .inl p1_kinds)), (h_p1_places, .inl (cI, 8001, .inl p1_places)), (h_p1_values, .inl (cI, 8001, .inl p1_values)), (h_p1_sizes, .inl (cI, 8001, .inl p1_sizes)), (h_p1_partCounts, .inl (cI, 8001, .inl p1_partCounts)), (h_p1_wholes, .inl (cI, 8001, .inl p1_wholes))] H := hP
  have hD : va_D A [(h_p1, .inr (5, [.ref h_p1_kinds, .ref h_p1_places, .ref h_p1_values, .ref h_p1_sizes, .ref h_p1_partCounts, .ref h_p1_wholes, .int p1_count])), (h_p1_kinds, .inl (cI, 8001, .inl p1_kinds)), (h_p1_places, .inl (cI, 8001, .inl p1_places)), (h_p1_values, .inl (cI, 8001, .inl p1_values)), (h_p1_sizes, .inl (cI, 8001, .inl p1_sizes)), (h_p1_partCounts, .inl (cI, 8001, .inl p1_partCounts)), (h_p1_wholes, .inl (cI, 8001, .inl p1_wholes))] := hD
  refine lv_istore_n (lv' := [(2, .int o25), (0, .ref h_p1), (1, .int a2)]) hx hb d_Wr_tokenBefore_5 rfl hl (by decide) rfl (fun ls hl => ?_)
  refine lv_iload_n hx hb d_Wr_tokenBefore_6 rfl (lv_at hl 0 rfl) ?_
  refine lv_bipush (v := (9 : Int32)) hx hb d_Wr_tokenBefore_7 (by decide) ?_
  refine lv_icmp_eq (tgt := 32) hx hb d_Wr_tokenBefore_9 (by decide) (fun c9 => ?_) (fun c9 => ?_)
  · rw [if_pos c9] at hf
    refine lv_iconst (v := (0 : Int32)) hx hb d_Wr_tokenBefore_32 (by decide) ?_
    have hf : (some (0 : Int32) : Option Int32) = some o := hf
    rw [hQ, ← Option.some.inj hf]
    exact jIret hx hb hr hlocks d_Wr_tokenBefore_33 (fun _ => 0) hS hP hD
  · rw [if_neg c9] at hf
    refine lv_iload_n hx hb d_Wr_tokenBefore_12 rfl (lv_at hl 0 rfl) ?_
    refine lv_bipush (v := (8 : Int32)) hx hb d_Wr_tokenBefore_13 (by decide) ?_
    refine lv_icmp_eq (tgt := 32) hx hb d_Wr_tokenBefore_15 (by decide) (fun c15 => ?_) (fun c15 => ?_)
    · rw [if_pos c15] at hf
      refine lv_iconst (v := (0 : Int32)) hx hb d_Wr_tokenBefore_32 (by decide) ?_
      have hf : (some (0 : Int32) : Option Int32) = some o := hf
      rw [hQ, ← Option.some.inj hf]
      exact jIret hx hb hr hlocks d_Wr_tokenBefore_33 (fun _ => 0) hS hP hD
    · rw [if_neg c15] at hf
      refine lv_iload_n hx hb d_Wr_tokenBefore_18 rfl (lv_at hl 0 rfl) ?_
      refine lv_bipush (v := (19 : Int32)) hx hb d_Wr_tokenBefore_19 (by decide) ?_
      refine lv_icmp_eq (tgt := 32) hx hb d_Wr_tokenBefore_21 (by decide) (fun c21 => ?_) (fun c21 => ?_)
      · rw [if_pos c21] at hf
        refine lv_iconst (v := (0 : Int32)) hx hb d_Wr_tokenBefore_32 (by decide) ?_
        have hf : (some (0 : Int32) : Option Int32) = some o := hf
        rw [hQ, ← Option.some.inj hf]
        exact jIret hx hb hr hlocks d_Wr_tokenBefore_33 (fun _ => 0) hS hP hD
      · rw [if_neg c21] at hf
        refine lv_aload_n hx hb d_Wr_tokenBefore_24 rfl (lv_at hl 1 rfl) ?_
        refine lv_iload_n hx hb d_Wr_tokenBefore_25 rfl (lv_at hl 2 rfl) ?_
        obtain ⟨o27, ho27⟩ : ∃ z, f_Tr_isFirstPart p1_wholes p1_count a2 = some z := by
          cases hz : f_Tr_isFirstPart p1_wholes p1_count a2 with
          | none => rw [hz] at hf; simp only [jb_none, jl_b_none, jm_none, reduceCtorEq] at hf
          | some z => exact ⟨z, rfl⟩
        rw [ho27, jb_some] at hf
        refine jCallV (As := [.int a2]) (rest := []) (wr := []) ⟨hx, hb, hml, hown, hts⟩ hJ (c_Tr_isFirstPart h_p1 h_p1_kinds h_p1_places h_p1_values h_p1_sizes h_p1_partCounts h_p1_wholes p1_kinds p1_places p1_values p1_sizes p1_partCounts p1_wholes p1_count a2 ho27) (cwV 1 hts (jgV jw371 jw373 jw374 jw153 jw372) rfl rfl rfl dd_Tr_isFirstPart ⟨Nat.le_of_ble_eq_true rfl, Nat.le_of_ble_eq_true rfl⟩) hP hD hS hA (va_recv hK hP (ci := 5) (q0 := 0) rfl rfl) [0, 1, 2, 3, 4, 5, 6] [] rfl rfl (by decide) (by decide) (by decide) rfl hl.1 rfl (Nat.le_of_ble_eq_true rfl) d_Wr_tokenBefore_26 ⟨Nat.le_of_ble_eq_true rfl, Nat.le_of_ble_eq_true rfl⟩ (fun qz28 H locs hP hD hS => ?_)
        have hP : va_P (dC, dI) vwCl [(h_p1, .inr (5, [.ref h_p1_kinds, .ref h_p1_places, .ref h_p1_values, .ref h_p1_sizes, .ref h_p1_partCounts, .ref h_p1_wholes, .int p1_count])), (h_p1_kinds, .inl (cI, 8001, .inl p1_kinds)), (h_p1_places, .inl (cI, 8001, .inl p1_places)), (h_p1_values, .inl (cI, 8001, .inl p1_values)), (h_p1_sizes, .inl (cI, 8001, .inl p1_sizes)), (h_p1_partCounts, .inl (cI, 8001, .inl p1_partCounts)), (h_p1_wholes, .inl (cI, 8001, .inl p1_wholes))] H := hP
        have hD : va_D A [(h_p1, .inr (5, [.ref h_p1_kinds, .ref h_p1_places, .ref h_p1_values, .ref h_p1_sizes, .ref h_p1_partCounts, .ref h_p1_wholes, .int p1_count])), (h_p1_kinds, .inl (cI, 8001, .inl p1_kinds)), (h_p1_places, .inl (cI, 8001, .inl p1_places)), (h_p1_values, .inl (cI, 8001, .inl p1_values)), (h_p1_sizes, .inl (cI, 8001, .inl p1_sizes)), (h_p1_partCounts, .inl (cI, 8001, .inl p1_partCounts)), (h_p1_wholes, .inl (cI, 8001, .inl p1_wholes))] := hD
        refine lv_if_eq (tgt := 34) hx hb d_Wr_tokenBefore_29 (by decide) (fun c29 => ?_) (fun c29 => ?_)
        · rw [if_pos c29] at hf
          refine lv_aload_n hx hb d_Wr_tokenBefore_34 rfl (lv_at hl 1 rfl) ?_
          refine lv_iload_n hx hb d_Wr_tokenBefore_35 rfl (lv_at hl 2 rfl) ?_
          obtain ⟨o29, ho29⟩ : ∃ z, f_Tr_isLastPart p1_sizes p1_wholes p1_count a2 = some z := by
            cases hz : f_Tr_isLastPart p1_sizes p1_wholes p1_count a2 with
            | none => rw [hz] at hf; simp only [jb_none, jl_b_none, jm_none, reduceCtorEq] at hf
            | some z => exact ⟨z, rfl⟩
          rw [ho29, jb_some] at hf
          refine jCallV (As := [.int a2]) (rest := []) (wr := []) ⟨hx, hb, hml, hown, hts⟩ hJ (c_Tr_isLastPart h_p1 h_p1_kinds h_p1_places h_p1_values h_p1_sizes h_p1_partCounts h_p1_wholes p1_kinds p1_places p1_values p1_sizes p1_partCounts p1_wholes p1_count a2 ho29) (cwV 1 hts (jgV jw383 jw385 jw386 jw153 jw384) rfl rfl rfl dd_Tr_isLastPart ⟨Nat.le_of_ble_eq_true rfl, Nat.le_of_ble_eq_true rfl⟩) hP hD hS hA (va_recv hK hP (ci := 5) (q0 := 0) rfl rfl) [0, 1, 2, 3, 4, 5, 6] [] rfl rfl (by decide) (by decide) (by decide) rfl hl.1 rfl (Nat.le_of_ble_eq_true rfl) d_Wr_tokenBefore_36 ⟨Nat.le_of_ble_eq_true rfl, Nat.le_of_ble_eq_true rfl⟩ (fun qz30 H locs hP hD hS => ?_)
          have hP : va_P (dC, dI) vwCl [(h_p1, .inr (5, [.ref h_p1_kinds, .ref h_p1_places, .ref h_p1_values, .ref h_p1_sizes, .ref h_p1_partCounts, .ref h_p1_wholes, .int p1_count])), (h_p1_kinds, .inl (cI, 8001, .inl p1_kinds)), (h_p1_places, .inl (cI, 8001, .inl p1_places)), (h_p1_values, .inl (cI, 8001, .inl p1_values)), (h_p1_sizes, .inl (cI, 8001, .inl p1_sizes)), (h_p1_partCounts, .inl (cI, 8001, .inl p1_partCounts)), (h_p1_wholes, .inl (cI, 8001, .inl p1_wholes))] H := hP
          have hD : va_D A [(h_p1, .inr (5, [.ref h_p1_kinds, .ref h_p1_places, .ref h_p1_values, .ref h_p1_sizes, .ref h_p1_partCounts, .ref h_p1_wholes, .int p1_count])), (h_p1_kinds, .inl (cI, 8001, .inl p1_kinds)), (h_p1_places, .inl (cI, 8001, .inl p1_places)), (h_p1_values, .inl (cI, 8001, .inl p1_values)), (h_p1_sizes, .inl (cI, 8001, .inl p1_sizes)), (h_p1_partCounts, .inl (cI, 8001, .inl p1_partCounts)), (h_p1_wholes, .inl (cI, 8001, .inl p1_wholes))] := hD
          refine lv_istore_n (lv' := [(3, .int o29), (2, .int o25), (0, .ref h_p1), (1, .int a2)]) hx hb d_Wr_tokenBefore_39 rfl hl (by decide) rfl (fun ls hl => ?_)
          refine lv_aload_n hx hb d_Wr_tokenBefore_40 rfl (lv_at hl 2 rfl) ?_
          refine lv_aload_n hx hb d_Wr_tokenBefore_41 rfl (lv_at hl 2 rfl) ?_
          refine lv_iload_n hx hb d_Wr_tokenBefore_42 rfl (lv_at hl 3 rfl) ?_
          obtain ⟨o31, ho31⟩ : ∃ z, f_Tr_wholeOf p1_wholes p1_count a2 = some z := by
            cases hz : f_Tr_wholeOf p1_wholes p1_count a2 with
            | none => rw [hz] at hf; simp only [jb_none, jl_b_none, jm_none, reduceCtorEq] at hf
            | some z => exact ⟨z, rfl⟩
          rw [ho31, jb_some] at hf
          refine jCallV (As := [.int a2]) (rest := [.ref h_p1]) (wr := []) ⟨hx, hb, hml, hown, hts⟩ hJ (c_Tr_wholeOf h_p1 h_p1_kinds h_p1_places h_p1_values h_p1_sizes h_p1_partCounts h_p1_wholes p1_kinds p1_places p1_values p1_sizes p1_partCounts p1_wholes p1_count a2 ho31) (cwV 1 hts (jgV jw370 jw158 jw159 jw153 jw157) rfl rfl rfl dd_Tr_wholeOf ⟨Nat.le_of_ble_eq_true rfl, Nat.le_of_ble_eq_true rfl⟩) hP hD hS hA (va_recv hK hP (ci := 5) (q0 := 0) rfl rfl) [0, 1, 2, 3, 4, 5, 6] [] rfl rfl (by decide) (by decide) (by decide) rfl hl.1 rfl (Nat.le_of_ble_eq_true rfl) d_Wr_tokenBefore_43 ⟨Nat.le_of_ble_eq_true rfl, Nat.le_of_ble_eq_true rfl⟩ (fun qz32 H locs hP hD hS => ?_)
          have hP : va_P (dC, dI) vwCl [(h_p1, .inr (5, [.ref h_p1_kinds, .ref h_p1_places, .ref h_p1_values, .ref h_p1_sizes, .ref h_p1_partCounts, .ref h_p1_wholes, .int p1_count])), (h_p1_kinds, .inl (cI, 8001, .inl p1_kinds)), (h_p1_places, .inl (cI, 8001, .inl p1_places)), (h_p1_values, .inl (cI, 8001, .inl p1_values)), (h_p1_sizes, .inl (cI, 8001, .inl p1_sizes)), (h_p1_partCounts, .inl (cI, 8001, .inl p1_partCounts)), (h_p1_wholes, .inl (cI, 8001, .inl p1_wholes))] H := hP
          have hD : va_D A [(h_p1, .inr (5, [.ref h_p1_kinds, .ref h_p1_places, .ref h_p1_values, .ref h_p1_sizes, .ref h_p1_partCounts, .ref h_p1_wholes, .int p1_count])), (h_p1_kinds, .inl (cI, 8001, .inl p1_kinds)), (h_p1_places, .inl (cI, 8001, .inl p1_places)), (h_p1_values, .inl (cI, 8001, .inl p1_values)), (h_p1_sizes, .inl (cI, 8001, .inl p1_sizes)), (h_p1_partCounts, .inl (cI, 8001, .inl p1_partCounts)), (h_p1_wholes, .inl (cI, 8001, .inl p1_wholes))] := hD
          obtain ⟨o33, ho33⟩ : ∃ z, f_Tr_kindOf p1_kinds p1_count o31 = some z := by
            cases hz : f_Tr_kindOf p1_kinds p1_count o31 with
            | none => rw [hz] at hf; simp only [jb_none, jl_b_none, jm_none, reduceCtorEq] at hf
            | some z => exact ⟨z, rfl⟩
          rw [ho33, jb_some] at hf
          refine jCallV (As := [.int o31]) (rest := []) (wr := []) ⟨hx, hb, hml, hown, hts⟩ hJ (c_Tr_kindOf h_p1 h_p1_kinds h_p1_places h_p1_values h_p1_sizes h_p1_partCounts h_p1_wholes p1_kinds p1_places p1_values p1_sizes p1_partCounts p1_wholes p1_count o31 ho33) (cwV 1 hts (jgV jw366 jw368 jw369 jw153 jw367) rfl rfl rfl dd_Tr_kindOf ⟨Nat.le_of_ble_eq_true rfl, Nat.le_of_ble_eq_true rfl⟩) hP hD hS hA (va_recv hK hP (ci := 5) (q0 := 0) rfl rfl) [0, 1, 2, 3, 4, 5, 6] [] rfl rfl (by decide) (by decide) (by decide) rfl hl.1 rfl (Nat.le_of_ble_eq_true rfl) d_Wr_tokenBefore_46 ⟨Nat.le_of_ble_eq_true rfl, Nat.le_of_ble_eq_true rfl⟩ (fun qz34 H locs hP hD hS => ?_)
          have hP : va_P (dC, dI) vwCl [(h_p1, .inr (5, [.ref h_p1_kinds, .ref h_p1_places, .ref h_p1_values, .ref h_p1_sizes, .ref h_p1_partCounts, .ref h_p1_wholes, .int p1_count])), (h_p1_kinds, .inl (cI, 8001, .inl p1_kinds)), (h_p1_places, .inl (cI, 8001, .inl p1_places)), (h_p1_values, .inl (cI, 8001, .inl p1_values)), (h_p1_sizes, .inl (cI, 8001, .inl p1_sizes)), (h_p1_partCounts, .inl (cI, 8001, .inl p1_partCounts)), (h_p1_wholes, .inl (cI, 8001, .inl p1_wholes))] H := hP
          have hD : va_D A [(h_p1, .inr (5, [.ref h_p1_kinds, .ref h_p1_places, .ref h_p1_values, .ref h_p1_sizes, .ref h_p1_partCounts, .ref h_p1_wholes, .int p1_count])), (h_p1_kinds, .inl (cI, 8001, .inl p1_kinds)), (h_p1_places, .inl (cI, 8001, .inl p1_places)), (h_p1_values, .inl (cI, 8001, .inl p1_values)), (h_p1_sizes, .inl (cI, 8001, .inl p1_sizes)), (h_p1_partCounts, .inl (cI, 8001, .inl p1_partCounts)), (h_p1_wholes, .inl (cI, 8001, .inl p1_wholes))] := hD
          by_cases c49_0 : o33 = (1 : Int32)
          · rw [if_pos c49_0] at hf
            refine lv_tableIn (off := 75) (tgt := 124) hx hb d_Wr_tokenBefore_49 (by rw [c49_0]; decide) (by rw [c49_0]; decide) (by rw [c49_0]; decide) (by decide) ?_
            refine lv_bipush (v := (17 : Int32)) hx hb d_Wr_tokenBefore_124 (by decide) ?_
            have hf : (some (17 : Int32) : Option Int32) = some o := hf
            rw [hQ, ← Option.some.inj hf]
            exact jIret hx hb hr hlocks d_Wr_tokenBefore_126 (fun _ => 0) hS hP hD
          · rw [if_neg c49_0] at hf
            by_cases c49_1 : o33 = (2 : Int32)
            · rw [if_pos c49_1] at hf
              refine lv_tableIn (off := 78) (tgt := 127) hx hb d_Wr_tokenBefore_49 (by rw [c49_1]; decide) (by rw [c49_1]; decide) (by rw [c49_1]; decide) (by decide) ?_
              refine lv_iload_n hx hb d_Wr_tokenBefore_127 rfl (lv_at hl 0 rfl) ?_
              refine lv_if_eq (tgt := 136) hx hb d_Wr_tokenBefore_128 (by decide) (fun c128 => ?_) (fun c128 => ?_)
              · rw [if_pos c128] at hf
                refine lv_bipush (v := (17 : Int32)) hx hb d_Wr_tokenBefore_136 (by decide) ?_
                have hf : (some (17 : Int32) : Option Int32) = some o := hf
                rw [hQ, ← Option.some.inj hf]
                exact jIret hx hb hr hlocks d_Wr_tokenBefore_138 (fun _ => 0) hS hP hD
              · rw [if_neg c128] at hf
                refine lv_bipush (v := (18 : Int32)) hx hb d_Wr_tokenBefore_131 (by decide) ?_
                refine lv_goto (tgt := 138) hx hb d_Wr_tokenBefore_133 (by decide) ?_
                have hf : (some (18 : Int32) : Option Int32) = some o := hf
                rw [hQ, ← Option.some.inj hf]
                exact jIret hx hb hr hlocks d_Wr_tokenBefore_138 (fun _ => 0) hS hP hD
            · rw [if_neg c49_1] at hf
              by_cases c49_2 : o33 = (3 : Int32)
              · rw [if_pos c49_2] at hf
                refine lv_tableIn (off := 78) (tgt := 127) hx hb d_Wr_tokenBefore_49 (by rw [c49_2]; decide) (by rw [c49_2]; decide) (by rw [c49_2]; decide) (by decide) ?_
                refine lv_iload_n hx hb d_Wr_tokenBefore_127 rfl (lv_at hl 0 rfl) ?_
                refine lv_if_eq (tgt := 136) hx hb d_Wr_tokenBefore_128 (by decide) (fun c128 => ?_) (fun c128 => ?_)
                · rw [if_pos c128] at hf
                  refine lv_bipush (v := (17 : Int32)) hx hb d_Wr_tokenBefore_136 (by decide) ?_
                  have hf : (some (17 : Int32) : Option Int32) = some o := hf
                  rw [hQ, ← Option.some.inj hf]
                  exact jIret hx hb hr hlocks d_Wr_tokenBefore_138 (fun _ => 0) hS hP hD
                · rw [if_neg c128] at hf
                  refine lv_bipush (v := (18 : Int32)) hx hb d_Wr_tokenBefore_131 (by decide) ?_
                  refine lv_goto (tgt := 138) hx hb d_Wr_tokenBefore_133 (by decide) ?_
                  have hf : (some (18 : Int32) : Option Int32) = some o := hf
                  rw [hQ, ← Option.some.inj hf]
                  exact jIret hx hb hr hlocks d_Wr_tokenBefore_138 (fun _ => 0) hS hP hD
              · rw [if_neg c49_2] at hf
                by_cases c49_3 : o33 = (4 : Int32)
                · rw [if_pos c49_3] at hf
                  refine lv_tableIn (off := 90) (tgt := 139) hx hb d_Wr_tokenBefore_49 (by rw [c49_3]; decide) (by rw [c49_3]; decide) (by rw [c49_3]; decide) (by decide) ?_
                  refine lv_iload_n hx hb d_Wr_tokenBefore_139 rfl (lv_at hl 1 rfl) ?_
                  refine lv_iconst (v := (5 : Int32)) hx hb d_Wr_tokenBefore_140 (by decide) ?_
                  refine lv_icmp_ne (tgt := 149) hx hb d_Wr_tokenBefore_141 (by decide) (fun c141 => ?_) (fun c141 => ?_)
                  · rw [if_neg c141] at hf
                    refine lv_bipush (v := (17 : Int32)) hx hb d_Wr_tokenBefore_149 (by decide) ?_
                    have hf : (some (17 : Int32) : Option Int32) = some o := hf
                    rw [hQ, ← Option.some.inj hf]
                    exact jIret hx hb hr hlocks d_Wr_tokenBefore_151 (fun _ => 0) hS hP hD
                  · rw [if_pos c141] at hf
                    refine lv_bipush (v := (23 : Int32)) hx hb d_Wr_tokenBefore_144 (by decide) ?_
                    refine lv_goto (tgt := 151) hx hb d_Wr_tokenBefore_146 (by decide) ?_
                    have hf : (some (23 : Int32) : Option Int32) = some o := hf
                    rw [hQ, ← Option.some.inj hf]
                    exact jIret hx hb hr hlocks d_Wr_tokenBefore_151 (fun _ => 0) hS hP hD
                · rw [if_neg c49_3] at hf
                  by_cases c49_4 : o33 = (5 : Int32)
                  · rw [if_pos c49_4] at hf
                    refine lv_tableIn (off := 75) (tgt := 124) hx hb d_Wr_tokenBefore_49 (by rw [c49_4]; decide) (by rw [c49_4]; decide) (by rw [c49_4]; decide) (by decide) ?_
                    refine lv_bipush (v := (17 : Int32)) hx hb d_Wr_tokenBefore_124 (by decide) ?_
                    have hf : (some (17 : Int32) : Option Int32) = some o := hf
                    rw [hQ, ← Option.some.inj hf]
                    exact jIret hx hb hr hlocks d_Wr_tokenBefore_126 (fun _ => 0) hS hP hD
                  · rw [if_neg c49_4] at hf
                    by_cases c49_5 : o33 = (6 : Int32)
                    · rw [if_pos c49_5] at hf
                      refine lv_tableIn (off := 75) (tgt := 124) hx hb d_Wr_tokenBefore_49 (by rw [c49_5]; decide) (by rw [c49_5]; decide) (by rw [c49_5]; decide) (by decide) ?_
                      refine lv_bipush (v := (17 : Int32)) hx hb d_Wr_tokenBefore_124 (by decide) ?_
                      have hf : (some (17 : Int32) : Option Int32) = some o := hf
                      rw [hQ, ← Option.some.inj hf]
                      exact jIret hx hb hr hlocks d_Wr_tokenBefore_126 (fun _ => 0) hS hP hD
                    · rw [if_neg c49_5] at hf
                      by_cases c49_6 : o33 = (7 : Int32)
                      · rw [if_pos c49_6] at hf
                        refine lv_tableIn (off := 127) (tgt := 176) hx hb d_Wr_tokenBefore_49 (by rw [c49_6]; decide) (by rw [c49_6]; decide) (by rw [c49_6]; decide) (by decide) ?_
                        refine lv_iconst (v := (0 : Int32)) hx hb d_Wr_tokenBefore_176 (by decide) ?_
                        have hf : (some (0 : Int32) : Option Int32) = some o := hf
                        rw [hQ, ← Option.some.inj hf]
                        exact jIret hx hb hr hlocks d_Wr_tokenBefore_177 (fun _ => 0) hS hP hD
                      · rw [if_neg c49_6] at hf
                        by_cases c49_7 : o33 = (8 : Int32)
                        · rw [if_pos c49_7] at hf
                          refine lv_tableIn (off := 75) (tgt := 124) hx hb d_Wr_tokenBefore_49 (by rw [c49_7]; decide) (by rw [c49_7]; decide) (by rw [c49_7]; decide) (by decide) ?_
                          refine lv_bipush (v := (17 : Int32)) hx hb d_Wr_tokenBefore_124 (by decide) ?_
                          have hf : (some (17 : Int32) : Option Int32) = some o := hf
                          rw [hQ, ← Option.some.inj hf]
                          exact jIret hx hb hr hlocks d_Wr_tokenBefore_126 (fun _ => 0) hS hP hD
                        · rw [if_neg c49_7] at hf
                          by_cases c49_8 : o33 = (9 : Int32)
                          · rw [if_pos c49_8] at hf
                            refine lv_tableIn (off := 127) (tgt := 176) hx hb d_Wr_tokenBefore_49 (by rw [c49_8]; decide) (by rw [c49_8]; decide) (by rw [c49_8]; decide) (by decide) ?_
                            refine lv_iconst (v := (0 : Int32)) hx hb d_Wr_tokenBefore_176 (by decide) ?_
                            have hf : (some (0 : Int32) : Option Int32) = some o := hf
                            rw [hQ, ← Option.some.inj hf]
                            exact jIret hx hb hr hlocks d_Wr_tokenBefore_177 (fun _ => 0) hS hP hD
                          · rw [if_neg c49_8] at hf
                            by_cases c49_9 : o33 = (10 : Int32)
                            · rw [if_pos c49_9] at hf
                              refine lv_tableIn (off := 103) (tgt := 152) hx hb d_Wr_tokenBefore_49 (by rw [c49_9]; decide) (by rw [c49_9]; decide) (by rw [c49_9]; decide) (by decide) ?_
                              refine lv_bipush (v := (19 : Int32)) hx hb d_Wr_tokenBefore_152 (by decide) ?_
                              have hf : (some (19 : Int32) : Option Int32) = some o := hf
                              rw [hQ, ← Option.some.inj hf]
                              exact jIret hx hb hr hlocks d_Wr_tokenBefore_154 (fun _ => 0) hS hP hD
                            · rw [if_neg c49_9] at hf
                              by_cases c49_10 : o33 = (11 : Int32)
                              · rw [if_pos c49_10] at hf
                                refine lv_tableIn (off := 106) (tgt := 155) hx hb d_Wr_tokenBefore_49 (by rw [c49_10]; decide) (by rw [c49_10]; decide) (by rw [c49_10]; decide) (by decide) ?_
                                refine lv_bipush (v := (21 : Int32)) hx hb d_Wr_tokenBefore_155 (by decide) ?_
                                have hf : (some (21 : Int32) : Option Int32) = some o := hf
                                rw [hQ, ← Option.some.inj hf]
                                exact jIret hx hb hr hlocks d_Wr_tokenBefore_157 (fun _ => 0) hS hP hD
                              · rw [if_neg c49_10] at hf
                                by_cases c49_11 : o33 = (12 : Int32)
                                · rw [if_pos c49_11] at hf
                                  refine lv_tableIn (off := 109) (tgt := 158) hx hb d_Wr_tokenBefore_49 (by rw [c49_11]; decide) (by rw [c49_11]; decide) (by rw [c49_11]; decide) (by decide) ?_
                                  refine lv_iload_n hx hb d_Wr_tokenBefore_158 rfl (lv_at hl 0 rfl) ?_
                                  refine lv_if_eq (tgt := 167) hx hb d_Wr_tokenBefore_159 (by decide) (fun c159 => ?_) (fun c159 => ?_)
                                  · rw [if_pos c159] at hf
                                    refine lv_aload_n hx hb d_Wr_tokenBefore_167 rfl (lv_at hl 2 rfl) ?_
                                    refine lv_iload_n hx hb d_Wr_tokenBefore_168 rfl (lv_at hl 3 rfl) ?_
                                    obtain ⟨o35, ho35⟩ : ∃ z, f_Wr_tokenInLet p1_wholes p1_count a2 = some z := by
                                      cases hz : f_Wr_tokenInLet p1_wholes p1_count a2 with
                                      | none => rw [hz] at hf; simp only [jb_none, jl_b_none, jm_none, reduceCtorEq] at hf
                                      | some z => exact ⟨z, rfl⟩
                                    rw [ho35, jb_some] at hf
                                    refine jCallS (As := [.ref h_p1, .int a2]) (rest := []) (wr := []) ⟨hx, hb, hml, hown, hts⟩ hJ (c_Wr_tokenInLet h_p1 h_p1_kinds h_p1_places h_p1_values h_p1_sizes h_p1_partCounts h_p1_wholes p1_kinds p1_places p1_values p1_sizes p1_partCounts p1_wholes p1_count a2 ho35) (va_cwS 2 hts (jgS jw387 jw389 jw356 jw388) rfl rfl rfl dd_Wr_tokenInLet.2 ⟨Nat.le_of_ble_eq_true rfl, Nat.le_of_ble_eq_true rfl⟩) hP hD hS hA [0, 1, 2, 3, 4, 5, 6] [] rfl rfl (by decide) (by decide) (by decide) rfl hl.1 rfl (Nat.le_of_ble_eq_true rfl) d_Wr_tokenBefore_169 ⟨Nat.le_of_ble_eq_true rfl, Nat.le_of_ble_eq_true rfl⟩ (fun qz36 H locs hP hD hS => ?_)
                                    have hP : va_P (dC, dI) vwCl [(h_p1, .inr (5, [.ref h_p1_kinds, .ref h_p1_places, .ref h_p1_values, .ref h_p1_sizes, .ref h_p1_partCounts, .ref h_p1_wholes, .int p1_count])), (h_p1_kinds, .inl (cI, 8001, .inl p1_kinds)), (h_p1_places, .inl (cI, 8001, .inl p1_places)), (h_p1_values, .inl (cI, 8001, .inl p1_values)), (h_p1_sizes, .inl (cI, 8001, .inl p1_sizes)), (h_p1_partCounts, .inl (cI, 8001, .inl p1_partCounts)), (h_p1_wholes, .inl (cI, 8001, .inl p1_wholes))] H := hP
                                    have hD : va_D A [(h_p1, .inr (5, [.ref h_p1_kinds, .ref h_p1_places, .ref h_p1_values, .ref h_p1_sizes, .ref h_p1_partCounts, .ref h_p1_wholes, .int p1_count])), (h_p1_kinds, .inl (cI, 8001, .inl p1_kinds)), (h_p1_places, .inl (cI, 8001, .inl p1_places)), (h_p1_values, .inl (cI, 8001, .inl p1_values)), (h_p1_sizes, .inl (cI, 8001, .inl p1_sizes)), (h_p1_partCounts, .inl (cI, 8001, .inl p1_partCounts)), (h_p1_wholes, .inl (cI, 8001, .inl p1_wholes))] := hD
                                    have hf : (some o35 : Option Int32) = some o := hf
                                    rw [hQ, ← Option.some.inj hf]
                                    exact jIret hx hb hr hlocks d_Wr_tokenBefore_172 (fun _ => 0) hS hP hD
                                  · rw [if_neg c159] at hf
                                    refine lv_bipush (v := (13 : Int32)) hx hb d_Wr_tokenBefore_162 (by decide) ?_
                                    refine lv_goto (tgt := 172) hx hb d_Wr_tokenBefore_164 (by decide) ?_
                                    have hf : (some (13 : Int32) : Option Int32) = some o := hf
                                    rw [hQ, ← Option.some.inj hf]
                                    exact jIret hx hb hr hlocks d_Wr_tokenBefore_172 (fun _ => 0) hS hP hD
                                · rw [if_neg c49_11] at hf
                                  by_cases c49_12 : o33 = (13 : Int32)
                                  · rw [if_pos c49_12] at hf
                                    refine lv_tableIn (off := 124) (tgt := 173) hx hb d_Wr_tokenBefore_49 (by rw [c49_12]; decide) (by rw [c49_12]; decide) (by rw [c49_12]; decide) (by decide) ?_
                                    refine lv_bipush (v := (20 : Int32)) hx hb d_Wr_tokenBefore_173 (by decide) ?_
                                    have hf : (some (20 : Int32) : Option Int32) = some o := hf
                                    rw [hQ, ← Option.some.inj hf]
                                    exact jIret hx hb hr hlocks d_Wr_tokenBefore_175 (fun _ => 0) hS hP hD
                                  · rw [if_neg c49_12] at hf
                                    by_cases c49_13 : o33 = (14 : Int32)
                                    · rw [if_pos c49_13] at hf
                                      refine lv_tableIn (off := 127) (tgt := 176) hx hb d_Wr_tokenBefore_49 (by rw [c49_13]; decide) (by rw [c49_13]; decide) (by rw [c49_13]; decide) (by decide) ?_
                                      refine lv_iconst (v := (0 : Int32)) hx hb d_Wr_tokenBefore_176 (by decide) ?_
                                      have hf : (some (0 : Int32) : Option Int32) = some o := hf
                                      rw [hQ, ← Option.some.inj hf]
                                      exact jIret hx hb hr hlocks d_Wr_tokenBefore_177 (fun _ => 0) hS hP hD
                                    · rw [if_neg c49_13] at hf
                                      by_cases c49_14 : o33 = (15 : Int32)
                                      · rw [if_pos c49_14] at hf
                                        refine lv_tableIn (off := 75) (tgt := 124) hx hb d_Wr_tokenBefore_49 (by rw [c49_14]; decide) (by rw [c49_14]; decide) (by rw [c49_14]; decide) (by decide) ?_
                                        refine lv_bipush (v := (17 : Int32)) hx hb d_Wr_tokenBefore_124 (by decide) ?_
                                        have hf : (some (17 : Int32) : Option Int32) = some o := hf
                                        rw [hQ, ← Option.some.inj hf]
                                        exact jIret hx hb hr hlocks d_Wr_tokenBefore_126 (fun _ => 0) hS hP hD
                                      · rw [if_neg c49_14] at hf
                                        refine lv_tableOut (tgt := 176) hx hb d_Wr_tokenBefore_49 (by have z0 := lv_neT c49_0 (k := (1 : Int32)) (a := 1) (by decide); have z1 := lv_neT c49_1 (k := (2 : Int32)) (a := 2) (by decide); have z2 := lv_neT c49_2 (k := (3 : Int32)) (a := 3) (by decide); have z3 := lv_neT c49_3 (k := (4 : Int32)) (a := 4) (by decide); have z4 := lv_neT c49_4 (k := (5 : Int32)) (a := 5) (by decide); have z5 := lv_neT c49_5 (k := (6 : Int32)) (a := 6) (by decide); have z6 := lv_neT c49_6 (k := (7 : Int32)) (a := 7) (by decide); have z7 := lv_neT c49_7 (k := (8 : Int32)) (a := 8) (by decide); have z8 := lv_neT c49_8 (k := (9 : Int32)) (a := 9) (by decide); have z9 := lv_neT c49_9 (k := (10 : Int32)) (a := 10) (by decide); have z10 := lv_neT c49_10 (k := (11 : Int32)) (a := 11) (by decide); have z11 := lv_neT c49_11 (k := (12 : Int32)) (a := 12) (by decide); have z12 := lv_neT c49_12 (k := (13 : Int32)) (a := 13) (by decide); have z13 := lv_neT c49_13 (k := (14 : Int32)) (a := 14) (by decide); have z14 := lv_neT c49_14 (k := (15 : Int32)) (a := 15) (by decide); omega) (by decide) ?_
                                        refine lv_iconst (v := (0 : Int32)) hx hb d_Wr_tokenBefore_176 (by decide) ?_
                                        have hf : (some (0 : Int32) : Option Int32) = some o := hf
                                        rw [hQ, ← Option.some.inj hf]
                                        exact jIret hx hb hr hlocks d_Wr_tokenBefore_177 (fun _ => 0) hS hP hD
        · rw [if_neg c29] at hf
          refine lv_iconst (v := (0 : Int32)) hx hb d_Wr_tokenBefore_32 (by decide) ?_
          have hf : (some (0 : Int32) : Option Int32) = some o := hf
          rw [hQ, ← Option.some.inj hf]
          exact jIret hx hb hr hlocks d_Wr_tokenBefore_33 (fun _ => 0) hS hP hD
theorem d_Wr_firstWord_0 : decode b_Wr_firstWord 0 = .ok (.iload_n 0, 1) := by decide +kernel
theorem d_Wr_firstWord_1 : decode b_Wr_firstWord 1 = .ok (.tableswitch 115 1 18 #[87, 89, 91, 94, 115, 97, 100, 115, 115, 103, 106, 109, 115, 115, 115, 115, 115, 112], 87) := by decide +kernel
theorem d_Wr_firstWord_88 : decode b_Wr_firstWord 88 = .ok (.iconst 4, 1) := by decide +kernel
theorem d_Wr_firstWord_89 : decode b_Wr_firstWord 89 = .ok (.ireturn, 1) := by decide +kernel
theorem d_Wr_firstWord_90 : decode b_Wr_firstWord 90 = .ok (.iconst 5, 1) := by decide +kernel
theorem d_Wr_firstWord_91 : decode b_Wr_firstWord 91 = .ok (.ireturn, 1) := by decide +kernel
theorem d_Wr_firstWord_92 : decode b_Wr_firstWord 92 = .ok (.bipush 6, 2) := by decide +kernel
theorem d_Wr_firstWord_94 : decode b_Wr_firstWord 94 = .ok (.ireturn, 1) := by decide +kernel
theorem d_Wr_firstWord_95 : decode b_Wr_firstWord 95 = .ok (.bipush 7, 2) := by decide +kernel
theorem d_Wr_firstWord_97 : decode b_Wr_firstWord 97 = .ok (.ireturn, 1) := by decide +kernel
theorem d_Wr_firstWord_98 : decode b_Wr_firstWord 98 = .ok (.bipush 8, 2) := by decide +kernel
theorem d_Wr_firstWord_100 : decode b_Wr_firstWord 100 = .ok (.ireturn, 1) := by decide +kernel
theorem d_Wr_firstWord_101 : decode b_Wr_firstWord 101 = .ok (.bipush 9, 2) := by decide +kernel
theorem d_Wr_firstWord_103 : decode b_Wr_firstWord 103 = .ok (.ireturn, 1) := by decide +kernel
theorem d_Wr_firstWord_104 : decode b_Wr_firstWord 104 = .ok (.bipush 10, 2) := by decide +kernel
theorem d_Wr_firstWord_106 : decode b_Wr_firstWord 106 = .ok (.ireturn, 1) := by decide +kernel
theorem d_Wr_firstWord_107 : decode b_Wr_firstWord 107 = .ok (.bipush 11, 2) := by decide +kernel
theorem d_Wr_firstWord_109 : decode b_Wr_firstWord 109 = .ok (.ireturn, 1) := by decide +kernel
theorem d_Wr_firstWord_110 : decode b_Wr_firstWord 110 = .ok (.bipush 12, 2) := by decide +kernel
theorem d_Wr_firstWord_112 : decode b_Wr_firstWord 112 = .ok (.ireturn, 1) := by decide +kernel
theorem d_Wr_firstWord_113 : decode b_Wr_firstWord 113 = .ok (.bipush 14, 2) := by decide +kernel
theorem d_Wr_firstWord_115 : decode b_Wr_firstWord 115 = .ok (.ireturn, 1) := by decide +kernel
theorem d_Wr_firstWord_116 : decode b_Wr_firstWord 116 = .ok (.iconst 0, 1) := by decide +kernel
theorem d_Wr_firstWord_117 : decode b_Wr_firstWord 117 = .ok (.ireturn, 1) := by decide +kernel
noncomputable def f_Wr_firstWord   (a1 : Int32) : Option Int32 := if a1 = (1 : Int32) then (some (4 : Int32)) else if a1 = (2 : Int32) then (some (5 : Int32)) else if a1 = (3 : Int32) then (some (6 : Int32)) else if a1 = (4 : Int32) then (some (7 : Int32)) else if a1 = (5 : Int32) then (some (0 : Int32)) else if a1 = (6 : Int32) then (some (8 : Int32)) else if a1 = (7 : Int32) then (some (9 : Int32)) else if a1 = (8 : Int32) then (some (0 : Int32)) else if a1 = (9 : Int32) then (some (0 : Int32)) else if a1 = (10 : Int32) then (some (10 : Int32)) else if a1 = (11 : Int32) then (some (11 : Int32)) else if a1 = (12 : Int32) then (some (12 : Int32)) else if a1 = (13 : Int32) then (some (0 : Int32)) else if a1 = (14 : Int32) then (some (0 : Int32)) else if a1 = (15 : Int32) then (some (0 : Int32)) else if a1 = (16 : Int32) then (some (0 : Int32)) else if a1 = (17 : Int32) then (some (0 : Int32)) else if a1 = (18 : Int32) then (some (14 : Int32)) else (some (0 : Int32))
set_option maxHeartbeats 4000000 in
set_option maxRecDepth 100000 in
theorem c_Wr_firstWord {l : Launch} {dC : Nat → ClassId} {dI : Nat → Nat → Nat} {cI cB cS : ClassId} {adK adV adR : Nat → Nat}   (a1 : Int32) {o : Int32} (hf : f_Wr_firstWord a1 = some o) : jMet l dC dI cI cB cS adK adV adR y_Wr_firstWord wd_Wr_firstWord { frames := 0, cells := 0, slots := 0, locals := 0 } [.int a1] [] (some (.int o)) (fun q => []) 0 0 := by
  refine jEntry (cc := b_Wr_firstWord) (maxL := 1) (ret := (some .int)) (by decide) rfl (Nat.le_of_ble_eq_true rfl) rfl (fun p e s m args below meth c A H locs ls Q hQ hx hb hr hml hown hts hlocks hnm hJ hA hP hD hS hl => ?_)
  have hK := hJ.K
  have hl : lv_has ls 1 [(0, .int a1)] := hl
  unfold f_Wr_firstWord at hf
  refine lv_iload_n hx hb d_Wr_firstWord_0 rfl (lv_at hl 0 rfl) ?_
  by_cases c1_0 : a1 = (1 : Int32)
  · rw [if_pos c1_0] at hf
    refine lv_tableIn (off := 87) (tgt := 88) hx hb d_Wr_firstWord_1 (by rw [c1_0]; decide) (by rw [c1_0]; decide) (by rw [c1_0]; decide) (by decide) ?_
    refine lv_iconst (v := (4 : Int32)) hx hb d_Wr_firstWord_88 (by decide) ?_
    have hf : (some (4 : Int32) : Option Int32) = some o := hf
    rw [hQ, ← Option.some.inj hf]
    exact jIret hx hb hr hlocks d_Wr_firstWord_89 (fun _ => 0) hS hP hD
  · rw [if_neg c1_0] at hf
    by_cases c1_1 : a1 = (2 : Int32)
    · rw [if_pos c1_1] at hf
      refine lv_tableIn (off := 89) (tgt := 90) hx hb d_Wr_firstWord_1 (by rw [c1_1]; decide) (by rw [c1_1]; decide) (by rw [c1_1]; decide) (by decide) ?_
      refine lv_iconst (v := (5 : Int32)) hx hb d_Wr_firstWord_90 (by decide) ?_
      have hf : (some (5 : Int32) : Option Int32) = some o := hf
      rw [hQ, ← Option.some.inj hf]
      exact jIret hx hb hr hlocks d_Wr_firstWord_91 (fun _ => 0) hS hP hD
    · rw [if_neg c1_1] at hf
      by_cases c1_2 : a1 = (3 : Int32)
      · rw [if_pos c1_2] at hf
        refine lv_tableIn (off := 91) (tgt := 92) hx hb d_Wr_firstWord_1 (by rw [c1_2]; decide) (by rw [c1_2]; decide) (by rw [c1_2]; decide) (by decide) ?_
        refine lv_bipush (v := (6 : Int32)) hx hb d_Wr_firstWord_92 (by decide) ?_
        have hf : (some (6 : Int32) : Option Int32) = some o := hf
        rw [hQ, ← Option.some.inj hf]
        exact jIret hx hb hr hlocks d_Wr_firstWord_94 (fun _ => 0) hS hP hD
      · rw [if_neg c1_2] at hf
        by_cases c1_3 : a1 = (4 : Int32)
        · rw [if_pos c1_3] at hf
          refine lv_tableIn (off := 94) (tgt := 95) hx hb d_Wr_firstWord_1 (by rw [c1_3]; decide) (by rw [c1_3]; decide) (by rw [c1_3]; decide) (by decide) ?_
          refine lv_bipush (v := (7 : Int32)) hx hb d_Wr_firstWord_95 (by decide) ?_
          have hf : (some (7 : Int32) : Option Int32) = some o := hf
          rw [hQ, ← Option.some.inj hf]
          exact jIret hx hb hr hlocks d_Wr_firstWord_97 (fun _ => 0) hS hP hD
        · rw [if_neg c1_3] at hf
          by_cases c1_4 : a1 = (5 : Int32)
          · rw [if_pos c1_4] at hf
            refine lv_tableIn (off := 115) (tgt := 116) hx hb d_Wr_firstWord_1 (by rw [c1_4]; decide) (by rw [c1_4]; decide) (by rw [c1_4]; decide) (by decide) ?_
            refine lv_iconst (v := (0 : Int32)) hx hb d_Wr_firstWord_116 (by decide) ?_
            have hf : (some (0 : Int32) : Option Int32) = some o := hf
            rw [hQ, ← Option.some.inj hf]
            exact jIret hx hb hr hlocks d_Wr_firstWord_117 (fun _ => 0) hS hP hD
          · rw [if_neg c1_4] at hf
            by_cases c1_5 : a1 = (6 : Int32)
            · rw [if_pos c1_5] at hf
              refine lv_tableIn (off := 97) (tgt := 98) hx hb d_Wr_firstWord_1 (by rw [c1_5]; decide) (by rw [c1_5]; decide) (by rw [c1_5]; decide) (by decide) ?_
              refine lv_bipush (v := (8 : Int32)) hx hb d_Wr_firstWord_98 (by decide) ?_
              have hf : (some (8 : Int32) : Option Int32) = some o := hf
              rw [hQ, ← Option.some.inj hf]
              exact jIret hx hb hr hlocks d_Wr_firstWord_100 (fun _ => 0) hS hP hD
            · rw [if_neg c1_5] at hf
              by_cases c1_6 : a1 = (7 : Int32)
              · rw [if_pos c1_6] at hf
                refine lv_tableIn (off := 100) (tgt := 101) hx hb d_Wr_firstWord_1 (by rw [c1_6]; decide) (by rw [c1_6]; decide) (by rw [c1_6]; decide) (by decide) ?_
                refine lv_bipush (v := (9 : Int32)) hx hb d_Wr_firstWord_101 (by decide) ?_
                have hf : (some (9 : Int32) : Option Int32) = some o := hf
                rw [hQ, ← Option.some.inj hf]
                exact jIret hx hb hr hlocks d_Wr_firstWord_103 (fun _ => 0) hS hP hD
              · rw [if_neg c1_6] at hf
                by_cases c1_7 : a1 = (8 : Int32)
                · rw [if_pos c1_7] at hf
                  refine lv_tableIn (off := 115) (tgt := 116) hx hb d_Wr_firstWord_1 (by rw [c1_7]; decide) (by rw [c1_7]; decide) (by rw [c1_7]; decide) (by decide) ?_
                  refine lv_iconst (v := (0 : Int32)) hx hb d_Wr_firstWord_116 (by decide) ?_
                  have hf : (some (0 : Int32) : Option Int32) = some o := hf
                  rw [hQ, ← Option.some.inj hf]
                  exact jIret hx hb hr hlocks d_Wr_firstWord_117 (fun _ => 0) hS hP hD
                · rw [if_neg c1_7] at hf
                  by_cases c1_8 : a1 = (9 : Int32)
                  · rw [if_pos c1_8] at hf
                    refine lv_tableIn (off := 115) (tgt := 116) hx hb d_Wr_firstWord_1 (by rw [c1_8]; decide) (by rw [c1_8]; decide) (by rw [c1_8]; decide) (by decide) ?_
                    refine lv_iconst (v := (0 : Int32)) hx hb d_Wr_firstWord_116 (by decide) ?_
                    have hf : (some (0 : Int32) : Option Int32) = some o := hf
                    rw [hQ, ← Option.some.inj hf]
                    exact jIret hx hb hr hlocks d_Wr_firstWord_117 (fun _ => 0) hS hP hD
                  · rw [if_neg c1_8] at hf
                    by_cases c1_9 : a1 = (10 : Int32)
                    · rw [if_pos c1_9] at hf
                      refine lv_tableIn (off := 103) (tgt := 104) hx hb d_Wr_firstWord_1 (by rw [c1_9]; decide) (by rw [c1_9]; decide) (by rw [c1_9]; decide) (by decide) ?_
                      refine lv_bipush (v := (10 : Int32)) hx hb d_Wr_firstWord_104 (by decide) ?_
                      have hf : (some (10 : Int32) : Option Int32) = some o := hf
                      rw [hQ, ← Option.some.inj hf]
                      exact jIret hx hb hr hlocks d_Wr_firstWord_106 (fun _ => 0) hS hP hD
                    · rw [if_neg c1_9] at hf
                      by_cases c1_10 : a1 = (11 : Int32)
                      · rw [if_pos c1_10] at hf
                        refine lv_tableIn (off := 106) (tgt := 107) hx hb d_Wr_firstWord_1 (by rw [c1_10]; decide) (by rw [c1_10]; decide) (by rw [c1_10]; decide) (by decide) ?_
                        refine lv_bipush (v := (11 : Int32)) hx hb d_Wr_firstWord_107 (by decide) ?_
                        have hf : (some (11 : Int32) : Option Int32) = some o := hf
                        rw [hQ, ← Option.some.inj hf]
                        exact jIret hx hb hr hlocks d_Wr_firstWord_109 (fun _ => 0) hS hP hD
                      · rw [if_neg c1_10] at hf
                        by_cases c1_11 : a1 = (12 : Int32)
                        · rw [if_pos c1_11] at hf
                          refine lv_tableIn (off := 109) (tgt := 110) hx hb d_Wr_firstWord_1 (by rw [c1_11]; decide) (by rw [c1_11]; decide) (by rw [c1_11]; decide) (by decide) ?_
                          refine lv_bipush (v := (12 : Int32)) hx hb d_Wr_firstWord_110 (by decide) ?_
                          have hf : (some (12 : Int32) : Option Int32) = some o := hf
                          rw [hQ, ← Option.some.inj hf]
                          exact jIret hx hb hr hlocks d_Wr_firstWord_112 (fun _ => 0) hS hP hD
                        · rw [if_neg c1_11] at hf
                          by_cases c1_12 : a1 = (13 : Int32)
                          · rw [if_pos c1_12] at hf
                            refine lv_tableIn (off := 115) (tgt := 116) hx hb d_Wr_firstWord_1 (by rw [c1_12]; decide) (by rw [c1_12]; decide) (by rw [c1_12]; decide) (by decide) ?_
                            refine lv_iconst (v := (0 : Int32)) hx hb d_Wr_firstWord_116 (by decide) ?_
                            have hf : (some (0 : Int32) : Option Int32) = some o := hf
                            rw [hQ, ← Option.some.inj hf]
                            exact jIret hx hb hr hlocks d_Wr_firstWord_117 (fun _ => 0) hS hP hD
                          · rw [if_neg c1_12] at hf
                            by_cases c1_13 : a1 = (14 : Int32)
                            · rw [if_pos c1_13] at hf
                              refine lv_tableIn (off := 115) (tgt := 116) hx hb d_Wr_firstWord_1 (by rw [c1_13]; decide) (by rw [c1_13]; decide) (by rw [c1_13]; decide) (by decide) ?_
                              refine lv_iconst (v := (0 : Int32)) hx hb d_Wr_firstWord_116 (by decide) ?_
                              have hf : (some (0 : Int32) : Option Int32) = some o := hf
                              rw [hQ, ← Option.some.inj hf]
                              exact jIret hx hb hr hlocks d_Wr_firstWord_117 (fun _ => 0) hS hP hD
                            · rw [if_neg c1_13] at hf
                              by_cases c1_14 : a1 = (15 : Int32)
                              · rw [if_pos c1_14] at hf
                                refine lv_tableIn (off := 115) (tgt := 116) hx hb d_Wr_firstWord_1 (by rw [c1_14]; decide) (by rw [c1_14]; decide) (by rw [c1_14]; decide) (by decide) ?_
                                refine lv_iconst (v := (0 : Int32)) hx hb d_Wr_firstWord_116 (by decide) ?_
                                have hf : (some (0 : Int32) : Option Int32) = some o := hf
                                rw [hQ, ← Option.some.inj hf]
                                exact jIret hx hb hr hlocks d_Wr_firstWord_117 (fun _ => 0) hS hP hD
                              · rw [if_neg c1_14] at hf
                                by_cases c1_15 : a1 = (16 : Int32)
                                · rw [if_pos c1_15] at hf
                                  refine lv_tableIn (off := 115) (tgt := 116) hx hb d_Wr_firstWord_1 (by rw [c1_15]; decide) (by rw [c1_15]; decide) (by rw [c1_15]; decide) (by decide) ?_
                                  refine lv_iconst (v := (0 : Int32)) hx hb d_Wr_firstWord_116 (by decide) ?_
                                  have hf : (some (0 : Int32) : Option Int32) = some o := hf
                                  rw [hQ, ← Option.some.inj hf]
                                  exact jIret hx hb hr hlocks d_Wr_firstWord_117 (fun _ => 0) hS hP hD
                                · rw [if_neg c1_15] at hf
                                  by_cases c1_16 : a1 = (17 : Int32)
                                  · rw [if_pos c1_16] at hf
                                    refine lv_tableIn (off := 115) (tgt := 116) hx hb d_Wr_firstWord_1 (by rw [c1_16]; decide) (by rw [c1_16]; decide) (by rw [c1_16]; decide) (by decide) ?_
                                    refine lv_iconst (v := (0 : Int32)) hx hb d_Wr_firstWord_116 (by decide) ?_
                                    have hf : (some (0 : Int32) : Option Int32) = some o := hf
                                    rw [hQ, ← Option.some.inj hf]
                                    exact jIret hx hb hr hlocks d_Wr_firstWord_117 (fun _ => 0) hS hP hD
                                  · rw [if_neg c1_16] at hf
                                    by_cases c1_17 : a1 = (18 : Int32)
                                    · rw [if_pos c1_17] at hf
                                      refine lv_tableIn (off := 112) (tgt := 113) hx hb d_Wr_firstWord_1 (by rw [c1_17]; decide) (by rw [c1_17]; decide) (by rw [c1_17]; decide) (by decide) ?_
                                      refine lv_bipush (v := (14 : Int32)) hx hb d_Wr_firstWord_113 (by decide) ?_
                                      have hf : (some (14 : Int32) : Option Int32) = some o := hf
                                      rw [hQ, ← Option.some.inj hf]
                                      exact jIret hx hb hr hlocks d_Wr_firstWord_115 (fun _ => 0) hS hP hD
                                    · rw [if_neg c1_17] at hf
                                      refine lv_tableOut (tgt := 116) hx hb d_Wr_firstWord_1 (by have z0 := lv_neT c1_0 (k := (1 : Int32)) (a := 1) (by decide); have z1 := lv_neT c1_1 (k := (2 : Int32)) (a := 2) (by decide); have z2 := lv_neT c1_2 (k := (3 : Int32)) (a := 3) (by decide); have z3 := lv_neT c1_3 (k := (4 : Int32)) (a := 4) (by decide); have z4 := lv_neT c1_4 (k := (5 : Int32)) (a := 5) (by decide); have z5 := lv_neT c1_5 (k := (6 : Int32)) (a := 6) (by decide); have z6 := lv_neT c1_6 (k := (7 : Int32)) (a := 7) (by decide); have z7 := lv_neT c1_7 (k := (8 : Int32)) (a := 8) (by decide); have z8 := lv_neT c1_8 (k := (9 : Int32)) (a := 9) (by decide); have z9 := lv_neT c1_9 (k := (10 : Int32)) (a := 10) (by decide); have z10 := lv_neT c1_10 (k := (11 : Int32)) (a := 11) (by decide); have z11 := lv_neT c1_11 (k := (12 : Int32)) (a := 12) (by decide); have z12 := lv_neT c1_12 (k := (13 : Int32)) (a := 13) (by decide); have z13 := lv_neT c1_13 (k := (14 : Int32)) (a := 14) (by decide); have z14 := lv_neT c1_14 (k := (15 : Int32)) (a := 15) (by decide); have z15 := lv_neT c1_15 (k := (16 : Int32)) (a := 16) (by decide); have z16 := lv_neT c1_16 (k := (17 : Int32)) (a := 17) (by decide); have z17 := lv_neT c1_17 (k := (18 : Int32)) (a := 18) (by decide); omega) (by decide) ?_
                                      refine lv_iconst (v := (0 : Int32)) hx hb d_Wr_firstWord_116 (by decide) ?_
                                      have hf : (some (0 : Int32) : Option Int32) = some o := hf
                                      rw [hQ, ← Option.some.inj hf]
                                      exact jIret hx hb hr hlocks d_Wr_firstWord_117 (fun _ => 0) hS hP hD
theorem d_Wr_isDeclaration_0 : decode b_Wr_isDeclaration 0 = .ok (.iload_n 0, 1) := by decide +kernel
theorem d_Wr_isDeclaration_1 : decode b_Wr_isDeclaration 1 = .ok (.iconst 1, 1) := by decide +kernel
theorem d_Wr_isDeclaration_2 : decode b_Wr_isDeclaration 2 = .ok (.if_icmp .lt 18, 3) := by decide +kernel
theorem d_Wr_isDeclaration_5 : decode b_Wr_isDeclaration 5 = .ok (.iload_n 0, 1) := by decide +kernel
theorem d_Wr_isDeclaration_6 : decode b_Wr_isDeclaration 6 = .ok (.bipush 7, 2) := by decide +kernel
theorem d_Wr_isDeclaration_8 : decode b_Wr_isDeclaration 8 = .ok (.if_icmp .gt 12, 3) := by decide +kernel
theorem d_Wr_isDeclaration_11 : decode b_Wr_isDeclaration 11 = .ok (.iload_n 0, 1) := by decide +kernel
theorem d_Wr_isDeclaration_12 : decode b_Wr_isDeclaration 12 = .ok (.iconst 5, 1) := by decide +kernel
theorem d_Wr_isDeclaration_13 : decode b_Wr_isDeclaration 13 = .ok (.if_icmp .eq 7, 3) := by decide +kernel
theorem d_Wr_isDeclaration_16 : decode b_Wr_isDeclaration 16 = .ok (.iconst 1, 1) := by decide +kernel
theorem d_Wr_isDeclaration_17 : decode b_Wr_isDeclaration 17 = .ok (.goto 4, 3) := by decide +kernel
theorem d_Wr_isDeclaration_20 : decode b_Wr_isDeclaration 20 = .ok (.iconst 0, 1) := by decide +kernel
theorem d_Wr_isDeclaration_21 : decode b_Wr_isDeclaration 21 = .ok (.ireturn, 1) := by decide +kernel
noncomputable def Wr_isDeclaration_b20   : Option Int32 := some (vp_nar .boolean (0 : Int32))
noncomputable def f_Wr_isDeclaration   (a1 : Int32) : Option Int32 := if a1 < (1 : Int32) then (Wr_isDeclaration_b20) else (if (7 : Int32) < a1 then (Wr_isDeclaration_b20) else (if a1 = (5 : Int32) then (Wr_isDeclaration_b20) else (some (vp_nar .boolean (1 : Int32)))))
set_option maxHeartbeats 4000000 in
set_option maxRecDepth 100000 in
theorem c_Wr_isDeclaration {l : Launch} {dC : Nat → ClassId} {dI : Nat → Nat → Nat} {cI cB cS : ClassId} {adK adV adR : Nat → Nat}   (a1 : Int32) {o : Int32} (hf : f_Wr_isDeclaration a1 = some o) : jMet l dC dI cI cB cS adK adV adR y_Wr_isDeclaration wd_Wr_isDeclaration { frames := 0, cells := 0, slots := 0, locals := 0 } [.int a1] [] (some (.int o)) (fun q => []) 0 0 := by
  refine jEntry (cc := b_Wr_isDeclaration) (maxL := 1) (ret := (some .boolean)) (by decide) rfl (Nat.le_of_ble_eq_true rfl) rfl (fun p e s m args below meth c A H locs ls Q hQ hx hb hr hml hown hts hlocks hnm hJ hA hP hD hS hl => ?_)
  have hK := hJ.K
  have hl : lv_has ls 1 [(0, .int a1)] := hl
  have B20 : ∀  (H : Heap) (locs : List Loc) (ls : Array Slot), Wr_isDeclaration_b20 = some o → va_P (dC, dI) vwCl [] H → va_D A [] → va_S A s.heap H locs → lv_has ls 1 [] → W p l e { frames := 0, cells := 0, slots := 0, locals := 0 } s m args below meth c H locs 0 0 Q (F0 m 20 ls []) := by
    intro  H locs ls hf hP hD hS hl
    unfold Wr_isDeclaration_b20 at hf
    refine lv_iconst (v := (0 : Int32)) hx hb d_Wr_isDeclaration_20 (by decide) ?_
    have hf : (some (vp_nar .boolean (0 : Int32)) : Option Int32) = some o := hf
    rw [hQ, ← Option.some.inj hf]
    exact jNret hx hb hr rfl hlocks d_Wr_isDeclaration_21 (fun _ => 0) hS hP hD
  unfold f_Wr_isDeclaration at hf
  refine lv_iload_n hx hb d_Wr_isDeclaration_0 rfl (lv_at hl 0 rfl) ?_
  refine lv_iconst (v := (1 : Int32)) hx hb d_Wr_isDeclaration_1 (by decide) ?_
  refine lv_icmp_lt (tgt := 20) hx hb d_Wr_isDeclaration_2 (by decide) (fun c2 => ?_) (fun c2 => ?_)
  · rw [if_pos c2] at hf
    exact B20  H locs ls hf hP hD hS (lv_sub hl [] rfl)
  · rw [if_neg c2] at hf
    refine lv_iload_n hx hb d_Wr_isDeclaration_5 rfl (lv_at hl 0 rfl) ?_
    refine lv_bipush (v := (7 : Int32)) hx hb d_Wr_isDeclaration_6 (by decide) ?_
    refine lv_icmp_gt (tgt := 20) hx hb d_Wr_isDeclaration_8 (by decide) (fun c8 => ?_) (fun c8 => ?_)
    · rw [if_pos c8] at hf
      exact B20  H locs ls hf hP hD hS (lv_sub hl [] rfl)
    · rw [if_neg c8] at hf
      refine lv_iload_n hx hb d_Wr_isDeclaration_11 rfl (lv_at hl 0 rfl) ?_
      refine lv_iconst (v := (5 : Int32)) hx hb d_Wr_isDeclaration_12 (by decide) ?_
      refine lv_icmp_eq (tgt := 20) hx hb d_Wr_isDeclaration_13 (by decide) (fun c13 => ?_) (fun c13 => ?_)
      · rw [if_pos c13] at hf
        exact B20  H locs ls hf hP hD hS (lv_sub hl [] rfl)
      · rw [if_neg c13] at hf
        refine lv_iconst (v := (1 : Int32)) hx hb d_Wr_isDeclaration_16 (by decide) ?_
        refine lv_goto (tgt := 21) hx hb d_Wr_isDeclaration_17 (by decide) ?_
        have hf : (some (vp_nar .boolean (1 : Int32)) : Option Int32) = some o := hf
        rw [hQ, ← Option.some.inj hf]
        exact jNret hx hb hr rfl hlocks d_Wr_isDeclaration_21 (fun _ => 0) hS hP hD
theorem d_Wr_leave_0 : decode b_Wr_leave 0 = .ok (.aload_n 1, 1) := by decide +kernel
theorem d_Wr_leave_1 : decode b_Wr_leave 1 = .ok (.iload_n 2, 1) := by decide +kernel
theorem d_Wr_leave_2 : decode b_Wr_leave 2 = .ok (.iload_n 3, 1) := by decide +kernel
theorem d_Wr_leave_3 : decode b_Wr_leave 3 = .ok (.invokestatic 65, 3) := by decide +kernel
theorem d_Wr_leave_6 : decode b_Wr_leave 6 = .ok (.ifCond .eq 9, 3) := by decide +kernel
theorem d_Wr_leave_9 : decode b_Wr_leave 9 = .ok (.aload_n 0, 1) := by decide +kernel
theorem d_Wr_leave_10 : decode b_Wr_leave 10 = .ok (.bipush 16, 2) := by decide +kernel
theorem d_Wr_leave_12 : decode b_Wr_leave 12 = .ok (.invokevirtual 61, 3) := by decide +kernel
theorem d_Wr_leave_15 : decode b_Wr_leave 15 = .ok (.aload_n 1, 1) := by decide +kernel
theorem d_Wr_leave_16 : decode b_Wr_leave 16 = .ok (.iload_n 2, 1) := by decide +kernel
theorem d_Wr_leave_17 : decode b_Wr_leave 17 = .ok (.invokevirtual 71, 3) := by decide +kernel
theorem d_Wr_leave_20 : decode b_Wr_leave 20 = .ok (.invokestatic 90, 3) := by decide +kernel
theorem d_Wr_leave_23 : decode b_Wr_leave 23 = .ok (.ifCond .eq 22, 3) := by decide +kernel
theorem d_Wr_leave_26 : decode b_Wr_leave 26 = .ok (.aload_n 0, 1) := by decide +kernel
theorem d_Wr_leave_27 : decode b_Wr_leave 27 = .ok (.bipush 22, 2) := by decide +kernel
theorem d_Wr_leave_29 : decode b_Wr_leave 29 = .ok (.invokevirtual 61, 3) := by decide +kernel
theorem d_Wr_leave_32 : decode b_Wr_leave 32 = .ok (.iload_n 3, 1) := by decide +kernel
theorem d_Wr_leave_33 : decode b_Wr_leave 33 = .ok (.ifCond .ne 12, 3) := by decide +kernel
theorem d_Wr_leave_36 : decode b_Wr_leave 36 = .ok (.aload_n 0, 1) := by decide +kernel
theorem d_Wr_leave_37 : decode b_Wr_leave 37 = .ok (.getfield 18, 3) := by decide +kernel
theorem d_Wr_leave_40 : decode b_Wr_leave 40 = .ok (.bipush 10, 2) := by decide +kernel
theorem d_Wr_leave_42 : decode b_Wr_leave 42 = .ok (.invokevirtual 93, 3) := by decide +kernel
theorem d_Wr_leave_45 : decode b_Wr_leave 45 = .ok (.return_, 1) := by decide +kernel
noncomputable def Wr_leave_b15 (p1_kinds : (Nat → Int32)) (p1_places : (Nat → Int32)) (p1_values : (Nat → Int32)) (p1_sizes : (Nat → Int32)) (p1_partCounts : (Nat → Int32)) (p1_wholes : (Nat → Int32)) (p1_count : Int32) (t_draft_row : (Nat → Int32)) (t_draft_length : Int32) (t_draft_overrun : Int32) (l2 : Int32) (l3 : Int32) : Option ((Nat → Int32) × Int32 × Int32) := jb (f_Tr_kindOf p1_kinds p1_count l2) (fun o13 => jb (f_Wr_isDeclaration o13) (fun o15 => if o15 = 0 then (some (t_draft_row, t_draft_length, t_draft_overrun)) else (jb (f_Wr_putToken t_draft_row t_draft_length t_draft_overrun (22 : Int32)) (fun o17 => if l3 = 0 then (jb (f_By_put o17.1 o17.2.1 o17.2.2 (10 : Int32)) (fun o19 => some (o19.1, o19.2.1, o19.2.2))) else (some (o17.1, o17.2.1, o17.2.2))))))
noncomputable def f_Wr_leave (p1_kinds : (Nat → Int32)) (p1_places : (Nat → Int32)) (p1_values : (Nat → Int32)) (p1_sizes : (Nat → Int32)) (p1_partCounts : (Nat → Int32)) (p1_wholes : (Nat → Int32)) (p1_count : Int32) (t_draft_row : (Nat → Int32)) (t_draft_length : Int32) (t_draft_overrun : Int32) (a2 : Int32) (a3 : Int32) : Option ((Nat → Int32) × Int32 × Int32) := jb (f_Wr_hasBrackets p1_kinds p1_places p1_values p1_sizes p1_partCounts p1_wholes p1_count a2 a3) (fun o21 => if o21 = 0 then (Wr_leave_b15 p1_kinds p1_places p1_values p1_sizes p1_partCounts p1_wholes p1_count t_draft_row t_draft_length t_draft_overrun a2 a3) else (jb (f_Wr_putToken t_draft_row t_draft_length t_draft_overrun (16 : Int32)) (fun o23 => Wr_leave_b15 p1_kinds p1_places p1_values p1_sizes p1_partCounts p1_wholes p1_count o23.1 o23.2.1 o23.2.2 a2 a3)))
set_option maxHeartbeats 4000000 in
set_option maxRecDepth 100000 in
theorem c_Wr_leave {l : Launch} {dC : Nat → ClassId} {dI : Nat → Nat → Nat} {cI cB cS : ClassId} {adK adV adR : Nat → Nat} (h_t h_t_shown h_t_shown_row h_t_draft h_t_draft_row h_p1 h_p1_kinds h_p1_places h_p1_values h_p1_sizes h_p1_partCounts h_p1_wholes : Nat) (t_shown_row : (Nat → Int32)) (t_shown_length : Int32) (t_shown_overrun : Int32) (t_draft_row : (Nat → Int32)) (t_draft_length : Int32) (t_draft_overrun : Int32) (p1_kinds : (Nat → Int32)) (p1_places : (Nat → Int32)) (p1_values : (Nat → Int32)) (p1_sizes : (Nat → Int32)) (p1_partCounts : (Nat → Int32)) (p1_wholes : (Nat → Int32)) (p1_count : Int32) (a2 : Int32) (a3 : Int32) {o : ((Nat → Int32) × Int32 × Int32)} (hf : f_Wr_leave p1_kinds p1_places p1_values p1_sizes p1_partCounts p1_wholes p1_count t_draft_row t_draft_length t_draft_overrun a2 a3 = some o) : jMet l dC dI cI cB cS adK adV adR y_Wr_leave wd_Wr_leave { frames := 6, cells := 0, slots := 0, locals := 128 } [.ref h_t, .ref h_p1, .int a2, .int a3] [(h_t, .inr (6, [.ref h_t_shown, .ref h_t_draft])), (h_t_shown, .inr (0, [.ref h_t_shown_row, .int t_shown_length, .int t_shown_overrun])), (h_t_shown_row, .inl (cB, 8000, .inl t_shown_row)), (h_t_draft, .inr (0, [.ref h_t_draft_row, .int t_draft_length, .int t_draft_overrun])), (h_t_draft_row, .inl (cB, 8000, .inl t_draft_row)), (h_p1, .inr (5, [.ref h_p1_kinds, .ref h_p1_places, .ref h_p1_values, .ref h_p1_sizes, .ref h_p1_partCounts, .ref h_p1_wholes, .int p1_count])), (h_p1_kinds, .inl (cI, 8001, .inl p1_kinds)), (h_p1_places, .inl (cI, 8001, .inl p1_places)), (h_p1_values, .inl (cI, 8001, .inl p1_values)), (h_p1_sizes, .inl (cI, 8001, .inl p1_sizes)), (h_p1_partCounts, .inl (cI, 8001, .inl p1_partCounts)), (h_p1_wholes, .inl (cI, 8001, .inl p1_wholes))] (none) (fun q => [(h_t, .inr (6, [.ref h_t_shown, .ref h_t_draft])), (h_t_shown, .inr (0, [.ref h_t_shown_row, .int t_shown_length, .int t_shown_overrun])), (h_t_shown_row, .inl (cB, 8000, .inl t_shown_row)), (h_t_draft, .inr (0, [.ref h_t_draft_row, .int o.2.1, .int o.2.2])), (h_t_draft_row, .inl (cB, 8000, .inl o.1)), (h_p1, .inr (5, [.ref h_p1_kinds, .ref h_p1_places, .ref h_p1_values, .ref h_p1_sizes, .ref h_p1_partCounts, .ref h_p1_wholes, .int p1_count])), (h_p1_kinds, .inl (cI, 8001, .inl p1_kinds)), (h_p1_places, .inl (cI, 8001, .inl p1_places)), (h_p1_values, .inl (cI, 8001, .inl p1_values)), (h_p1_sizes, .inl (cI, 8001, .inl p1_sizes)), (h_p1_partCounts, .inl (cI, 8001, .inl p1_partCounts)), (h_p1_wholes, .inl (cI, 8001, .inl p1_wholes))]) 0 0 := by
  refine jEntry (cc := b_Wr_leave) (maxL := 4) (ret := none) (by decide) rfl (Nat.le_of_ble_eq_true rfl) rfl (fun p e s m args below meth c A H locs ls Q hQ hx hb hr hml hown hts hlocks hnm hJ hA hP hD hS hl => ?_)
  have hK := hJ.K
  have hl : lv_has ls 4 [(0, .ref h_t), (1, .ref h_p1), (2, .int a2), (3, .int a3)] := hl
  have B15 : ∀ (t_draft_row : (Nat → Int32)) (t_draft_length : Int32) (t_draft_overrun : Int32) (l2 : Int32) (l3 : Int32) (H : Heap) (locs : List Loc) (ls : Array Slot), Wr_leave_b15 p1_kinds p1_places p1_values p1_sizes p1_partCounts p1_wholes p1_count t_draft_row t_draft_length t_draft_overrun l2 l3 = some o → va_P (dC, dI) vwCl [(h_t, .inr (6, [.ref h_t_shown, .ref h_t_draft])), (h_t_shown, .inr (0, [.ref h_t_shown_row, .int t_shown_length, .int t_shown_overrun])), (h_t_shown_row, .inl (cB, 8000, .inl t_shown_row)), (h_t_draft, .inr (0, [.ref h_t_draft_row, .int t_draft_length, .int t_draft_overrun])), (h_t_draft_row, .inl (cB, 8000, .inl t_draft_row)), (h_p1, .inr (5, [.ref h_p1_kinds, .ref h_p1_places, .ref h_p1_values, .ref h_p1_sizes, .ref h_p1_partCounts, .ref h_p1_wholes, .int p1_count])), (h_p1_kinds, .inl (cI, 8001, .inl p1_kinds)), (h_p1_places, .inl (cI, 8001, .inl p1_places)), (h_p1_values, .inl (cI, 8001, .inl p1_values)), (h_p1_sizes, .inl (cI, 8001, .inl p1_sizes)), (h_p1_partCounts, .inl (cI, 8001, .inl p1_partCounts)), (h_p1_wholes, .inl (cI, 8001, .inl p1_wholes))] H → va_D A [(h_t, .inr (6, [.ref h_t_shown, .ref h_t_draft])), (h_t_shown, .inr (0, [.ref h_t_shown_row, .int t_shown_length, .int t_shown_overrun])), (h_t_shown_row, .inl (cB, 8000, .inl t_shown_row)), (h_t_draft, .inr (0, [.ref h_t_draft_row, .int t_draft_length, .int t_draft_overrun])), (h_t_draft_row, .inl (cB, 8000, .inl t_draft_row)), (h_p1, .inr (5, [.ref h_p1_kinds, .ref h_p1_places, .ref h_p1_values, .ref h_p1_sizes, .ref h_p1_partCounts, .ref h_p1_wholes, .int p1_count])), (h_p1_kinds, .inl (cI, 8001, .inl p1_kinds)), (h_p1_places, .inl (cI, 8001, .inl p1_places)), (h_p1_values, .inl (cI, 8001, .inl p1_values)), (h_p1_sizes, .inl (cI, 8001, .inl p1_sizes)), (h_p1_partCounts, .inl (cI, 8001, .inl p1_partCounts)), (h_p1_wholes, .inl (cI, 8001, .inl p1_wholes))] → va_S A s.heap H locs → lv_has ls 4 [(0, .ref h_t), (1, .ref h_p1), (2, .int l2), (3, .int l3)] → W p l e { frames := 6, cells := 0, slots := 0, locals := 128 } s m args below meth c H locs 0 0 Q (F0 m 15 ls []) := by
    intro t_draft_row t_draft_length t_draft_overrun l2 l3 H locs ls hf hP hD hS hl
    unfold Wr_leave_b15 at hf
    refine lv_aload_n hx hb d_Wr_leave_15 rfl (lv_at hl 1 rfl) ?_
    refine lv_iload_n hx hb d_Wr_leave_16 rfl (lv_at hl 2 rfl) ?_
    obtain ⟨o25, ho25⟩ : ∃ z, f_Tr_kindOf p1_kinds p1_count l2 = some z := by
      cases hz : f_Tr_kindOf p1_kinds p1_count l2 with
      | none => rw [hz] at hf; simp only [jb_none, jl_b_none, jm_none, reduceCtorEq] at hf
      | some z => exact ⟨z, rfl⟩
    rw [ho25, jb_some] at hf
    refine jCallV (As := [.int l2]) (rest := []) (wr := [(h_t, .inr (6, [.ref h_t_shown, .ref h_t_draft])), (h_t_shown, .inr (0, [.ref h_t_shown_row, .int t_shown_length, .int t_shown_overrun])), (h_t_shown_row, .inl (cB, 8000, .inl t_shown_row)), (h_t_draft, .inr (0, [.ref h_t_draft_row, .int t_draft_length, .int t_draft_overrun])), (h_t_draft_row, .inl (cB, 8000, .inl t_draft_row))]) ⟨hx, hb, hml, hown, hts⟩ hJ (c_Tr_kindOf h_p1 h_p1_kinds h_p1_places h_p1_values h_p1_sizes h_p1_partCounts h_p1_wholes p1_kinds p1_places p1_values p1_sizes p1_partCounts p1_wholes p1_count l2 ho25) (cwV 1 hts (jgV jw366 jw368 jw369 jw153 jw367) rfl rfl rfl dd_Tr_kindOf ⟨Nat.le_of_ble_eq_true rfl, Nat.le_of_ble_eq_true rfl⟩) hP hD hS hA (va_recv hK hP (ci := 5) (q0 := 5) rfl rfl) [5, 6, 7, 8, 9, 10, 11] [0, 1, 2, 3, 4] rfl rfl (by decide) (by decide) (by decide) rfl hl.1 rfl (Nat.le_of_ble_eq_true rfl) d_Wr_leave_17 ⟨Nat.le_of_ble_eq_true rfl, Nat.le_of_ble_eq_true rfl⟩ (fun qz26 H locs hP hD hS => ?_)
    have hP : va_P (dC, dI) vwCl [(h_t, .inr (6, [.ref h_t_shown, .ref h_t_draft])), (h_t_shown, .inr (0, [.ref h_t_shown_row, .int t_shown_length, .int t_shown_overrun])), (h_t_shown_row, .inl (cB, 8000, .inl t_shown_row)), (h_t_draft, .inr (0, [.ref h_t_draft_row, .int t_draft_length, .int t_draft_overrun])), (h_t_draft_row, .inl (cB, 8000, .inl t_draft_row)), (h_p1, .inr (5, [.ref h_p1_kinds, .ref h_p1_places, .ref h_p1_values, .ref h_p1_sizes, .ref h_p1_partCounts, .ref h_p1_wholes, .int p1_count])), (h_p1_kinds, .inl (cI, 8001, .inl p1_kinds)), (h_p1_places, .inl (cI, 8001, .inl p1_places)), (h_p1_values, .inl (cI, 8001, .inl p1_values)), (h_p1_sizes, .inl (cI, 8001, .inl p1_sizes)), (h_p1_partCounts, .inl (cI, 8001, .inl p1_partCounts)), (h_p1_wholes, .inl (cI, 8001, .inl p1_wholes))] H := hP
    have hD : va_D A [(h_t, .inr (6, [.ref h_t_shown, .ref h_t_draft])), (h_t_shown, .inr (0, [.ref h_t_shown_row, .int t_shown_length, .int t_shown_overrun])), (h_t_shown_row, .inl (cB, 8000, .inl t_shown_row)), (h_t_draft, .inr (0, [.ref h_t_draft_row, .int t_draft_length, .int t_draft_overrun])), (h_t_draft_row, .inl (cB, 8000, .inl t_draft_row)), (h_p1, .inr (5, [.ref h_p1_kinds, .ref h_p1_places, .ref h_p1_values, .ref h_p1_sizes, .ref h_p1_partCounts, .ref h_p1_wholes, .int p1_count])), (h_p1_kinds, .inl (cI, 8001, .inl p1_kinds)), (h_p1_places, .inl (cI, 8001, .inl p1_places)), (h_p1_values, .inl (cI, 8001, .inl p1_values)), (h_p1_sizes, .inl (cI, 8001, .inl p1_sizes)), (h_p1_partCounts, .inl (cI, 8001, .inl p1_partCounts)), (h_p1_wholes, .inl (cI, 8001, .inl p1_wholes))] := hD
    obtain ⟨o27, ho27⟩ : ∃ z, f_Wr_isDeclaration o25 = some z := by
      cases hz : f_Wr_isDeclaration o25 with
      | none => rw [hz] at hf; simp only [jb_none, jl_b_none, jm_none, reduceCtorEq] at hf
      | some z => exact ⟨z, rfl⟩
    rw [ho27, jb_some] at hf
    refine jCallS (As := [.int o25]) (rest := []) (wr := [(h_t, .inr (6, [.ref h_t_shown, .ref h_t_draft])), (h_t_shown, .inr (0, [.ref h_t_shown_row, .int t_shown_length, .int t_shown_overrun])), (h_t_shown_row, .inl (cB, 8000, .inl t_shown_row)), (h_t_draft, .inr (0, [.ref h_t_draft_row, .int t_draft_length, .int t_draft_overrun])), (h_t_draft_row, .inl (cB, 8000, .inl t_draft_row)), (h_p1, .inr (5, [.ref h_p1_kinds, .ref h_p1_places, .ref h_p1_values, .ref h_p1_sizes, .ref h_p1_partCounts, .ref h_p1_wholes, .int p1_count])), (h_p1_kinds, .inl (cI, 8001, .inl p1_kinds)), (h_p1_places, .inl (cI, 8001, .inl p1_places)), (h_p1_values, .inl (cI, 8001, .inl p1_values)), (h_p1_sizes, .inl (cI, 8001, .inl p1_sizes)), (h_p1_partCounts, .inl (cI, 8001, .inl p1_partCounts)), (h_p1_wholes, .inl (cI, 8001, .inl p1_wholes))]) ⟨hx, hb, hml, hown, hts⟩ hJ (c_Wr_isDeclaration o25 ho27) (va_cwS 1 hts (jgS jw397 jw399 jw356 jw398) rfl rfl rfl dd_Wr_isDeclaration.2 ⟨Nat.le_of_ble_eq_true rfl, Nat.le_of_ble_eq_true rfl⟩) hP hD hS hA [] [0, 1, 2, 3, 4, 5, 6, 7, 8, 9, 10, 11] rfl rfl (by decide) (by decide) (by decide) rfl hl.1 rfl (Nat.le_of_ble_eq_true rfl) d_Wr_leave_20 ⟨Nat.le_of_ble_eq_true rfl, Nat.le_of_ble_eq_true rfl⟩ (fun qz28 H locs hP hD hS => ?_)
    have hP : va_P (dC, dI) vwCl [(h_t, .inr (6, [.ref h_t_shown, .ref h_t_draft])), (h_t_shown, .inr (0, [.ref h_t_shown_row, .int t_shown_length, .int t_shown_overrun])), (h_t_shown_row, .inl (cB, 8000, .inl t_shown_row)), (h_t_draft, .inr (0, [.ref h_t_draft_row, .int t_draft_length, .int t_draft_overrun])), (h_t_draft_row, .inl (cB, 8000, .inl t_draft_row)), (h_p1, .inr (5, [.ref h_p1_kinds, .ref h_p1_places, .ref h_p1_values, .ref h_p1_sizes, .ref h_p1_partCounts, .ref h_p1_wholes, .int p1_count])), (h_p1_kinds, .inl (cI, 8001, .inl p1_kinds)), (h_p1_places, .inl (cI, 8001, .inl p1_places)), (h_p1_values, .inl (cI, 8001, .inl p1_values)), (h_p1_sizes, .inl (cI, 8001, .inl p1_sizes)), (h_p1_partCounts, .inl (cI, 8001, .inl p1_partCounts)), (h_p1_wholes, .inl (cI, 8001, .inl p1_wholes))] H := hP
    have hD : va_D A [(h_t, .inr (6, [.ref h_t_shown, .ref h_t_draft])), (h_t_shown, .inr (0, [.ref h_t_shown_row, .int t_shown_length, .int t_shown_overrun])), (h_t_shown_row, .inl (cB, 8000, .inl t_shown_row)), (h_t_draft, .inr (0, [.ref h_t_draft_row, .int t_draft_length, .int t_draft_overrun])), (h_t_draft_row, .inl (cB, 8000, .inl t_draft_row)), (h_p1, .inr (5, [.ref h_p1_kinds, .ref h_p1_places, .ref h_p1_values, .ref h_p1_sizes, .ref h_p1_partCounts, .ref h_p1_wholes, .int p1_count])), (h_p1_kinds, .inl (cI, 8001, .inl p1_kinds)), (h_p1_places, .inl (cI, 8001, .inl p1_places)), (h_p1_values, .inl (cI, 8001, .inl p1_values)), (h_p1_sizes, .inl (cI, 8001, .inl p1_sizes)), (h_p1_partCounts, .inl (cI, 8001, .inl p1_partCounts)), (h_p1_wholes, .inl (cI, 8001, .inl p1_wholes))] := hD
    refine lv_if_eq (tgt := 45) hx hb d_Wr_leave_23 (by decide) (fun c23 => ?_) (fun c23 => ?_)
    · rw [if_pos c23] at hf
      have hf : (some (t_draft_row, t_draft_length, t_draft_overrun) : Option ((Nat → Int32) × Int32 × Int32)) = some o := hf
      rw [hQ, ← Option.some.inj hf]
      exact jVret hx hb hr hlocks d_Wr_leave_45 (fun _ => 0) hS hP hD
    · rw [if_neg c23] at hf
      refine lv_aload_n hx hb d_Wr_leave_26 rfl (lv_at hl 0 rfl) ?_
      refine lv_bipush (v := (22 : Int32)) hx hb d_Wr_leave_27 (by decide) ?_
      obtain ⟨o29, ho29⟩ : ∃ z, f_Wr_putToken t_draft_row t_draft_length t_draft_overrun (22 : Int32) = some z := by
        cases hz : f_Wr_putToken t_draft_row t_draft_length t_draft_overrun (22 : Int32) with
        | none => rw [hz] at hf; simp only [jb_none, jl_b_none, jm_none, reduceCtorEq] at hf
        | some z => exact ⟨z, rfl⟩
      rw [ho29, jb_some] at hf
      refine jCallV (As := [.int (22 : Int32)]) (rest := []) (wr := [(h_p1, .inr (5, [.ref h_p1_kinds, .ref h_p1_places, .ref h_p1_values, .ref h_p1_sizes, .ref h_p1_partCounts, .ref h_p1_wholes, .int p1_count])), (h_p1_kinds, .inl (cI, 8001, .inl p1_kinds)), (h_p1_places, .inl (cI, 8001, .inl p1_places)), (h_p1_values, .inl (cI, 8001, .inl p1_values)), (h_p1_sizes, .inl (cI, 8001, .inl p1_sizes)), (h_p1_partCounts, .inl (cI, 8001, .inl p1_partCounts)), (h_p1_wholes, .inl (cI, 8001, .inl p1_wholes))]) ⟨hx, hb, hml, hown, hts⟩ hJ (c_Wr_putToken h_t h_t_shown h_t_shown_row h_t_draft h_t_draft_row t_shown_row t_shown_length t_shown_overrun t_draft_row t_draft_length t_draft_overrun (22 : Int32) ho29) (cwV 1 hts (jgV jw393 jw395 jw396 jw356 jw394) rfl rfl rfl dd_Wr_putToken ⟨Nat.le_of_ble_eq_true rfl, Nat.le_of_ble_eq_true rfl⟩) hP hD hS hA (va_recv hK hP (ci := 6) (q0 := 0) rfl rfl) [0, 1, 2, 3, 4] [5, 6, 7, 8, 9, 10, 11] rfl rfl (by decide) (by decide) (by decide) rfl hl.1 rfl (Nat.le_of_ble_eq_true rfl) d_Wr_leave_29 ⟨Nat.le_of_ble_eq_true rfl, Nat.le_of_ble_eq_true rfl⟩ (fun qz30 H locs hP hD hS => ?_)
      have hP : va_P (dC, dI) vwCl [(h_p1, .inr (5, [.ref h_p1_kinds, .ref h_p1_places, .ref h_p1_values, .ref h_p1_sizes, .ref h_p1_partCounts, .ref h_p1_wholes, .int p1_count])), (h_p1_kinds, .inl (cI, 8001, .inl p1_kinds)), (h_p1_places, .inl (cI, 8001, .inl p1_places)), (h_p1_values, .inl (cI, 8001, .inl p1_values)), (h_p1_sizes, .inl (cI, 8001, .inl p1_sizes)), (h_p1_partCounts, .inl (cI, 8001, .inl p1_partCounts)), (h_p1_wholes, .inl (cI, 8001, .inl p1_wholes)), (h_t, .inr (6, [.ref h_t_shown, .ref h_t_draft])), (h_t_shown, .inr (0, [.ref h_t_shown_row, .int t_shown_length, .int t_shown_overrun])), (h_t_shown_row, .inl (cB, 8000, .inl t_shown_row)), (h_t_draft, .inr (0, [.ref h_t_draft_row, .int o29.2.1, .int o29.2.2])), (h_t_draft_row, .inl (cB, 8000, .inl o29.1))] H := hP
      have hD : va_D A [(h_p1, .inr (5, [.ref h_p1_kinds, .ref h_p1_places, .ref h_p1_values, .ref h_p1_sizes, .ref h_p1_partCounts, .ref h_p1_wholes, .int p1_count])), (h_p1_kinds, .inl (cI, 8001, .inl p1_kinds)), (h_p1_places, .inl (cI, 8001, .inl p1_places)), (h_p1_values, .inl (cI, 8001, .inl p1_values)), (h_p1_sizes, .inl (cI, 8001, .inl p1_sizes)), (h_p1_partCounts, .inl (cI, 8001, .inl p1_partCounts)), (h_p1_wholes, .inl (cI, 8001, .inl p1_wholes)), (h_t, .inr (6, [.ref h_t_shown, .ref h_t_draft])), (h_t_shown, .inr (0, [.ref h_t_shown_row, .int t_shown_length, .int t_shown_overrun])), (h_t_shown_row, .inl (cB, 8000, .inl t_shown_row)), (h_t_draft, .inr (0, [.ref h_t_draft_row, .int o29.2.1, .int o29.2.2])), (h_t_draft_row, .inl (cB, 8000, .inl o29.1))] := hD
      refine lv_iload_n hx hb d_Wr_leave_32 rfl (lv_at hl 3 rfl) ?_
      refine lv_if_ne (tgt := 45) hx hb d_Wr_leave_33 (by decide) (fun c33 => ?_) (fun c33 => ?_)
      · rw [if_neg c33] at hf
        have hf : (some (o29.1, o29.2.1, o29.2.2) : Option ((Nat → Int32) × Int32 × Int32)) = some o := hf
        rw [hQ, ← Option.some.inj hf]
        exact jVret hx hb hr hlocks d_Wr_leave_45 (fun _ => 0) hS (hP.sub [7, 8, 9, 10, 11, 0, 1, 2, 3, 4, 5, 6] rfl) (hD.sub [7, 8, 9, 10, 11, 0, 1, 2, 3, 4, 5, 6] (by decide) rfl)
      · rw [if_pos c33] at hf
        refine lv_aload_n hx hb d_Wr_leave_36 rfl (lv_at hl 0 rfl) ?_
        refine va_get (D := (dC, dI)) (ci := 6) (v := .ref h_t_draft) (C := R_Wr) (T := T_Wr) (N := 2) hx hb hts (fun w h => List.mem_cons_of_mem _ (in_Wr w h)) hown hK hP 7 rfl rfl 1 (by decide) (hts _ (List.mem_cons_of_mem _ jw348)) (fun _ h9 => h9) rfl d_Wr_leave_37 ?_
        refine lv_bipush (v := (10 : Int32)) hx hb d_Wr_leave_40 (by decide) ?_
        obtain ⟨o31, ho31⟩ : ∃ z, f_By_put o29.1 o29.2.1 o29.2.2 (10 : Int32) = some z := by
          cases hz : f_By_put o29.1 o29.2.1 o29.2.2 (10 : Int32) with
          | none => rw [hz] at hf; simp only [jb_none, jl_b_none, jm_none, reduceCtorEq] at hf
          | some z => exact ⟨z, rfl⟩
        rw [ho31, jb_some] at hf
        refine jCallV (As := [.int (10 : Int32)]) (rest := []) (wr := [(h_p1, .inr (5, [.ref h_p1_kinds, .ref h_p1_places, .ref h_p1_values, .ref h_p1_sizes, .ref h_p1_partCounts, .ref h_p1_wholes, .int p1_count])), (h_p1_kinds, .inl (cI, 8001, .inl p1_kinds)), (h_p1_places, .inl (cI, 8001, .inl p1_places)), (h_p1_values, .inl (cI, 8001, .inl p1_values)), (h_p1_sizes, .inl (cI, 8001, .inl p1_sizes)), (h_p1_partCounts, .inl (cI, 8001, .inl p1_partCounts)), (h_p1_wholes, .inl (cI, 8001, .inl p1_wholes)), (h_t, .inr (6, [.ref h_t_shown, .ref h_t_draft])), (h_t_shown, .inr (0, [.ref h_t_shown_row, .int t_shown_length, .int t_shown_overrun])), (h_t_shown_row, .inl (cB, 8000, .inl t_shown_row))]) ⟨hx, hb, hml, hown, hts⟩ hJ (c_By_put h_t_draft h_t_draft_row o29.1 o29.2.1 o29.2.2 (10 : Int32) ho31) (cwV 1 hts (jgV jw351 jw34 jw35 jw33 jw32) rfl rfl rfl dd_By_put ⟨Nat.le_of_ble_eq_true rfl, Nat.le_of_ble_eq_true rfl⟩) hP hD hS hA (va_recv hK hP (ci := 0) (q0 := 10) rfl rfl) [10, 11] [0, 1, 2, 3, 4, 5, 6, 7, 8, 9] rfl rfl (by decide) (by decide) (by decide) rfl hl.1 rfl (Nat.le_of_ble_eq_true rfl) d_Wr_leave_42 ⟨Nat.le_of_ble_eq_true rfl, Nat.le_of_ble_eq_true rfl⟩ (fun qz32 H locs hP hD hS => ?_)
        have hP : va_P (dC, dI) vwCl [(h_p1, .inr (5, [.ref h_p1_kinds, .ref h_p1_places, .ref h_p1_values, .ref h_p1_sizes, .ref h_p1_partCounts, .ref h_p1_wholes, .int p1_count])), (h_p1_kinds, .inl (cI, 8001, .inl p1_kinds)), (h_p1_places, .inl (cI, 8001, .inl p1_places)), (h_p1_values, .inl (cI, 8001, .inl p1_values)), (h_p1_sizes, .inl (cI, 8001, .inl p1_sizes)), (h_p1_partCounts, .inl (cI, 8001, .inl p1_partCounts)), (h_p1_wholes, .inl (cI, 8001, .inl p1_wholes)), (h_t, .inr (6, [.ref h_t_shown, .ref h_t_draft])), (h_t_shown, .inr (0, [.ref h_t_shown_row, .int t_shown_length, .int t_shown_overrun])), (h_t_shown_row, .inl (cB, 8000, .inl t_shown_row)), (h_t_draft, .inr (0, [.ref h_t_draft_row, .int o31.2.1, .int o31.2.2])), (h_t_draft_row, .inl (cB, 8000, .inl o31.1))] H := hP
        have hD : va_D A [(h_p1, .inr (5, [.ref h_p1_kinds, .ref h_p1_places, .ref h_p1_values, .ref h_p1_sizes, .ref h_p1_partCounts, .ref h_p1_wholes, .int p1_count])), (h_p1_kinds, .inl (cI, 8001, .inl p1_kinds)), (h_p1_places, .inl (cI, 8001, .inl p1_places)), (h_p1_values, .inl (cI, 8001, .inl p1_values)), (h_p1_sizes, .inl (cI, 8001, .inl p1_sizes)), (h_p1_partCounts, .inl (cI, 8001, .inl p1_partCounts)), (h_p1_wholes, .inl (cI, 8001, .inl p1_wholes)), (h_t, .inr (6, [.ref h_t_shown, .ref h_t_draft])), (h_t_shown, .inr (0, [.ref h_t_shown_row, .int t_shown_length, .int t_shown_overrun])), (h_t_shown_row, .inl (cB, 8000, .inl t_shown_row)), (h_t_draft, .inr (0, [.ref h_t_draft_row, .int o31.2.1, .int o31.2.2])), (h_t_draft_row, .inl (cB, 8000, .inl o31.1))] := hD
        have hf : (some (o31.1, o31.2.1, o31.2.2) : Option ((Nat → Int32) × Int32 × Int32)) = some o := hf
        rw [hQ, ← Option.some.inj hf]
        exact jVret hx hb hr hlocks d_Wr_leave_45 (fun _ => 0) hS (hP.sub [7, 8, 9, 10, 11, 0, 1, 2, 3, 4, 5, 6] rfl) (hD.sub [7, 8, 9, 10, 11, 0, 1, 2, 3, 4, 5, 6] (by decide) rfl)
  unfold f_Wr_leave at hf
  refine lv_aload_n hx hb d_Wr_leave_0 rfl (lv_at hl 1 rfl) ?_
  refine lv_iload_n hx hb d_Wr_leave_1 rfl (lv_at hl 2 rfl) ?_
  refine lv_iload_n hx hb d_Wr_leave_2 rfl (lv_at hl 3 rfl) ?_
  obtain ⟨o33, ho33⟩ : ∃ z, f_Wr_hasBrackets p1_kinds p1_places p1_values p1_sizes p1_partCounts p1_wholes p1_count a2 a3 = some z := by
    cases hz : f_Wr_hasBrackets p1_kinds p1_places p1_values p1_sizes p1_partCounts p1_wholes p1_count a2 a3 with
    | none => rw [hz] at hf; simp only [jb_none, jl_b_none, jm_none, reduceCtorEq] at hf
    | some z => exact ⟨z, rfl⟩
  rw [ho33, jb_some] at hf
  refine jCallS (As := [.ref h_p1, .int a2, .int a3]) (rest := []) (wr := [(h_t, .inr (6, [.ref h_t_shown, .ref h_t_draft])), (h_t_shown, .inr (0, [.ref h_t_shown_row, .int t_shown_length, .int t_shown_overrun])), (h_t_shown_row, .inl (cB, 8000, .inl t_shown_row)), (h_t_draft, .inr (0, [.ref h_t_draft_row, .int t_draft_length, .int t_draft_overrun])), (h_t_draft_row, .inl (cB, 8000, .inl t_draft_row))]) ⟨hx, hb, hml, hown, hts⟩ hJ (c_Wr_hasBrackets h_p1 h_p1_kinds h_p1_places h_p1_values h_p1_sizes h_p1_partCounts h_p1_wholes p1_kinds p1_places p1_values p1_sizes p1_partCounts p1_wholes p1_count a2 a3 ho33) (va_cwS 3 hts (jgS jw390 jw392 jw356 jw391) rfl rfl rfl dd_Wr_hasBrackets.2 ⟨Nat.le_of_ble_eq_true rfl, Nat.le_of_ble_eq_true rfl⟩) hP hD hS hA [5, 6, 7, 8, 9, 10, 11] [0, 1, 2, 3, 4] rfl rfl (by decide) (by decide) (by decide) rfl hl.1 rfl (Nat.le_of_ble_eq_true rfl) d_Wr_leave_3 ⟨Nat.le_of_ble_eq_true rfl, Nat.le_of_ble_eq_true rfl⟩ (fun qz34 H locs hP hD hS => ?_)
  have hP : va_P (dC, dI) vwCl [(h_t, .inr (6, [.ref h_t_shown, .ref h_t_draft])), (h_t_shown, .inr (0, [.ref h_t_shown_row, .int t_shown_length, .int t_shown_overrun])), (h_t_shown_row, .inl (cB, 8000, .inl t_shown_row)), (h_t_draft, .inr (0, [.ref h_t_draft_row, .int t_draft_length, .int t_draft_overrun])), (h_t_draft_row, .inl (cB, 8000, .inl t_draft_row)), (h_p1, .inr (5, [.ref h_p1_kinds, .ref h_p1_places, .ref h_p1_values, .ref h_p1_sizes, .ref h_p1_partCounts, .ref h_p1_wholes, .int p1_count])), (h_p1_kinds, .inl (cI, 8001, .inl p1_kinds)), (h_p1_places, .inl (cI, 8001, .inl p1_places)), (h_p1_values, .inl (cI, 8001, .inl p1_values)), (h_p1_sizes, .inl (cI, 8001, .inl p1_sizes)), (h_p1_partCounts, .inl (cI, 8001, .inl p1_partCounts)), (h_p1_wholes, .inl (cI, 8001, .inl p1_wholes))] H := hP
  have hD : va_D A [(h_t, .inr (6, [.ref h_t_shown, .ref h_t_draft])), (h_t_shown, .inr (0, [.ref h_t_shown_row, .int t_shown_length, .int t_shown_overrun])), (h_t_shown_row, .inl (cB, 8000, .inl t_shown_row)), (h_t_draft, .inr (0, [.ref h_t_draft_row, .int t_draft_length, .int t_draft_overrun])), (h_t_draft_row, .inl (cB, 8000, .inl t_draft_row)), (h_p1, .inr (5, [.ref h_p1_kinds, .ref h_p1_places, .ref h_p1_values, .ref h_p1_sizes, .ref h_p1_partCounts, .ref h_p1_wholes, .int p1_count])), (h_p1_kinds, .inl (cI, 8001, .inl p1_kinds)), (h_p1_places, .inl (cI, 8001, .inl p1_places)), (h_p1_values, .inl (cI, 8001, .inl p1_values)), (h_p1_sizes, .inl (cI, 8001, .inl p1_sizes)), (h_p1_partCounts, .inl (cI, 8001, .inl p1_partCounts)), (h_p1_wholes, .inl (cI, 8001, .inl p1_wholes))] := hD
  refine lv_if_eq (tgt := 15) hx hb d_Wr_leave_6 (by decide) (fun c6 => ?_) (fun c6 => ?_)
  · rw [if_pos c6] at hf
    exact B15 t_draft_row t_draft_length t_draft_overrun a2 a3 H locs ls hf hP hD hS (lv_sub hl [0, 1, 2, 3] rfl)
  · rw [if_neg c6] at hf
    refine lv_aload_n hx hb d_Wr_leave_9 rfl (lv_at hl 0 rfl) ?_
    refine lv_bipush (v := (16 : Int32)) hx hb d_Wr_leave_10 (by decide) ?_
    obtain ⟨o35, ho35⟩ : ∃ z, f_Wr_putToken t_draft_row t_draft_length t_draft_overrun (16 : Int32) = some z := by
      cases hz : f_Wr_putToken t_draft_row t_draft_length t_draft_overrun (16 : Int32) with
      | none => rw [hz] at hf; simp only [jb_none, jl_b_none, jm_none, reduceCtorEq] at hf
      | some z => exact ⟨z, rfl⟩
    rw [ho35, jb_some] at hf
    refine jCallV (As := [.int (16 : Int32)]) (rest := []) (wr := [(h_p1, .inr (5, [.ref h_p1_kinds, .ref h_p1_places, .ref h_p1_values, .ref h_p1_sizes, .ref h_p1_partCounts, .ref h_p1_wholes, .int p1_count])), (h_p1_kinds, .inl (cI, 8001, .inl p1_kinds)), (h_p1_places, .inl (cI, 8001, .inl p1_places)), (h_p1_values, .inl (cI, 8001, .inl p1_values)), (h_p1_sizes, .inl (cI, 8001, .inl p1_sizes)), (h_p1_partCounts, .inl (cI, 8001, .inl p1_partCounts)), (h_p1_wholes, .inl (cI, 8001, .inl p1_wholes))]) ⟨hx, hb, hml, hown, hts⟩ hJ (c_Wr_putToken h_t h_t_shown h_t_shown_row h_t_draft h_t_draft_row t_shown_row t_shown_length t_shown_overrun t_draft_row t_draft_length t_draft_overrun (16 : Int32) ho35) (cwV 1 hts (jgV jw393 jw395 jw396 jw356 jw394) rfl rfl rfl dd_Wr_putToken ⟨Nat.le_of_ble_eq_true rfl, Nat.le_of_ble_eq_true rfl⟩) hP hD hS hA (va_recv hK hP (ci := 6) (q0 := 0) rfl rfl) [0, 1, 2, 3, 4] [5, 6, 7, 8, 9, 10, 11] rfl rfl (by decide) (by decide) (by decide) rfl hl.1 rfl (Nat.le_of_ble_eq_true rfl) d_Wr_leave_12 ⟨Nat.le_of_ble_eq_true rfl, Nat.le_of_ble_eq_true rfl⟩ (fun qz36 H locs hP hD hS => ?_)
    have hP : va_P (dC, dI) vwCl [(h_p1, .inr (5, [.ref h_p1_kinds, .ref h_p1_places, .ref h_p1_values, .ref h_p1_sizes, .ref h_p1_partCounts, .ref h_p1_wholes, .int p1_count])), (h_p1_kinds, .inl (cI, 8001, .inl p1_kinds)), (h_p1_places, .inl (cI, 8001, .inl p1_places)), (h_p1_values, .inl (cI, 8001, .inl p1_values)), (h_p1_sizes, .inl (cI, 8001, .inl p1_sizes)), (h_p1_partCounts, .inl (cI, 8001, .inl p1_partCounts)), (h_p1_wholes, .inl (cI, 8001, .inl p1_wholes)), (h_t, .inr (6, [.ref h_t_shown, .ref h_t_draft])), (h_t_shown, .inr (0, [.ref h_t_shown_row, .int t_shown_length, .int t_shown_overrun])), (h_t_shown_row, .inl (cB, 8000, .inl t_shown_row)), (h_t_draft, .inr (0, [.ref h_t_draft_row, .int o35.2.1, .int o35.2.2])), (h_t_draft_row, .inl (cB, 8000, .inl o35.1))] H := hP
    have hD : va_D A [(h_p1, .inr (5, [.ref h_p1_kinds, .ref h_p1_places, .ref h_p1_values, .ref h_p1_sizes, .ref h_p1_partCounts, .ref h_p1_wholes, .int p1_count])), (h_p1_kinds, .inl (cI, 8001, .inl p1_kinds)), (h_p1_places, .inl (cI, 8001, .inl p1_places)), (h_p1_values, .inl (cI, 8001, .inl p1_values)), (h_p1_sizes, .inl (cI, 8001, .inl p1_sizes)), (h_p1_partCounts, .inl (cI, 8001, .inl p1_partCounts)), (h_p1_wholes, .inl (cI, 8001, .inl p1_wholes)), (h_t, .inr (6, [.ref h_t_shown, .ref h_t_draft])), (h_t_shown, .inr (0, [.ref h_t_shown_row, .int t_shown_length, .int t_shown_overrun])), (h_t_shown_row, .inl (cB, 8000, .inl t_shown_row)), (h_t_draft, .inr (0, [.ref h_t_draft_row, .int o35.2.1, .int o35.2.2])), (h_t_draft_row, .inl (cB, 8000, .inl o35.1))] := hD
    exact B15 o35.1 o35.2.1 o35.2.2 a2 a3 H locs ls hf (hP.sub [7, 8, 9, 10, 11, 0, 1, 2, 3, 4, 5, 6] rfl) (hD.sub [7, 8, 9, 10, 11, 0, 1, 2, 3, 4, 5, 6] (by decide) rfl) hS (lv_sub hl [0, 1, 2, 3] rfl)
theorem d_Wr_enter_0 : decode b_Wr_enter 0 = .ok (.iload 4, 2) := by decide +kernel
theorem d_Wr_enter_2 : decode b_Wr_enter 2 = .ok (.ifCond .ne 12, 3) := by decide +kernel
theorem d_Wr_enter_5 : decode b_Wr_enter 5 = .ok (.aload_n 0, 1) := by decide +kernel
theorem d_Wr_enter_6 : decode b_Wr_enter 6 = .ok (.aload_n 1, 1) := by decide +kernel
theorem d_Wr_enter_7 : decode b_Wr_enter 7 = .ok (.iload_n 3, 1) := by decide +kernel
theorem d_Wr_enter_8 : decode b_Wr_enter 8 = .ok (.invokestatic 57, 3) := by decide +kernel
theorem d_Wr_enter_11 : decode b_Wr_enter 11 = .ok (.invokevirtual 61, 3) := by decide +kernel
theorem d_Wr_enter_14 : decode b_Wr_enter 14 = .ok (.aload_n 1, 1) := by decide +kernel
theorem d_Wr_enter_15 : decode b_Wr_enter 15 = .ok (.iload_n 3, 1) := by decide +kernel
theorem d_Wr_enter_16 : decode b_Wr_enter 16 = .ok (.iload 4, 2) := by decide +kernel
theorem d_Wr_enter_18 : decode b_Wr_enter 18 = .ok (.invokestatic 65, 3) := by decide +kernel
theorem d_Wr_enter_21 : decode b_Wr_enter 21 = .ok (.ifCond .eq 9, 3) := by decide +kernel
theorem d_Wr_enter_24 : decode b_Wr_enter 24 = .ok (.aload_n 0, 1) := by decide +kernel
theorem d_Wr_enter_25 : decode b_Wr_enter 25 = .ok (.bipush 15, 2) := by decide +kernel
theorem d_Wr_enter_27 : decode b_Wr_enter 27 = .ok (.invokevirtual 61, 3) := by decide +kernel
theorem d_Wr_enter_30 : decode b_Wr_enter 30 = .ok (.aload_n 1, 1) := by decide +kernel
theorem d_Wr_enter_31 : decode b_Wr_enter 31 = .ok (.iload_n 3, 1) := by decide +kernel
theorem d_Wr_enter_32 : decode b_Wr_enter 32 = .ok (.invokevirtual 71, 3) := by decide +kernel
theorem d_Wr_enter_35 : decode b_Wr_enter 35 = .ok (.istore 5, 2) := by decide +kernel
theorem d_Wr_enter_37 : decode b_Wr_enter 37 = .ok (.iload 5, 2) := by decide +kernel
theorem d_Wr_enter_39 : decode b_Wr_enter 39 = .ok (.bipush 9, 2) := by decide +kernel
theorem d_Wr_enter_41 : decode b_Wr_enter 41 = .ok (.if_icmp .eq 10, 3) := by decide +kernel
theorem d_Wr_enter_44 : decode b_Wr_enter 44 = .ok (.iload 5, 2) := by decide +kernel
theorem d_Wr_enter_46 : decode b_Wr_enter 46 = .ok (.bipush 16, 2) := by decide +kernel
theorem d_Wr_enter_48 : decode b_Wr_enter 48 = .ok (.if_icmp .ne 17, 3) := by decide +kernel
theorem d_Wr_enter_51 : decode b_Wr_enter 51 = .ok (.aload_n 0, 1) := by decide +kernel
theorem d_Wr_enter_52 : decode b_Wr_enter 52 = .ok (.aload_n 2, 1) := by decide +kernel
theorem d_Wr_enter_53 : decode b_Wr_enter 53 = .ok (.aload_n 1, 1) := by decide +kernel
theorem d_Wr_enter_54 : decode b_Wr_enter 54 = .ok (.iload_n 3, 1) := by decide +kernel
theorem d_Wr_enter_55 : decode b_Wr_enter 55 = .ok (.iconst 2, 1) := by decide +kernel
theorem d_Wr_enter_56 : decode b_Wr_enter 56 = .ok (.invokevirtual 76, 3) := by decide +kernel
theorem d_Wr_enter_59 : decode b_Wr_enter 59 = .ok (.invokevirtual 80, 3) := by decide +kernel
theorem d_Wr_enter_62 : decode b_Wr_enter 62 = .ok (.goto 32, 3) := by decide +kernel
theorem d_Wr_enter_65 : decode b_Wr_enter 65 = .ok (.iload 5, 2) := by decide +kernel
theorem d_Wr_enter_67 : decode b_Wr_enter 67 = .ok (.bipush 17, 2) := by decide +kernel
theorem d_Wr_enter_69 : decode b_Wr_enter 69 = .ok (.if_icmp .ne 16, 3) := by decide +kernel
theorem d_Wr_enter_72 : decode b_Wr_enter 72 = .ok (.aload_n 0, 1) := by decide +kernel
theorem d_Wr_enter_73 : decode b_Wr_enter 73 = .ok (.aload_n 1, 1) := by decide +kernel
theorem d_Wr_enter_74 : decode b_Wr_enter 74 = .ok (.iload_n 3, 1) := by decide +kernel
theorem d_Wr_enter_75 : decode b_Wr_enter 75 = .ok (.iconst 2, 1) := by decide +kernel
theorem d_Wr_enter_76 : decode b_Wr_enter 76 = .ok (.invokevirtual 76, 3) := by decide +kernel
theorem d_Wr_enter_79 : decode b_Wr_enter 79 = .ok (.invokevirtual 84, 3) := by decide +kernel
theorem d_Wr_enter_82 : decode b_Wr_enter 82 = .ok (.goto 12, 3) := by decide +kernel
theorem d_Wr_enter_85 : decode b_Wr_enter 85 = .ok (.aload_n 0, 1) := by decide +kernel
theorem d_Wr_enter_86 : decode b_Wr_enter 86 = .ok (.iload 5, 2) := by decide +kernel
theorem d_Wr_enter_88 : decode b_Wr_enter 88 = .ok (.invokestatic 87, 3) := by decide +kernel
theorem d_Wr_enter_91 : decode b_Wr_enter 91 = .ok (.invokevirtual 61, 3) := by decide +kernel
theorem d_Wr_enter_94 : decode b_Wr_enter 94 = .ok (.return_, 1) := by decide +kernel
noncomputable def Wr_enter_b51 (p1_kinds : (Nat → Int32)) (p1_places : (Nat → Int32)) (p1_values : (Nat → Int32)) (p1_sizes : (Nat → Int32)) (p1_partCounts : (Nat → Int32)) (p1_wholes : (Nat → Int32)) (p1_count : Int32) (p2_spelling : (Nat → Int32)) (p2_starts : (Nat → Int32)) (p2_count : Int32) (t_draft_row : (Nat → Int32)) (t_draft_length : Int32) (t_draft_overrun : Int32) (l3 : Int32) : Option ((Nat → Int32) × Int32 × Int32) := jb (f_Tr_tell p1_kinds p1_places p1_values p1_sizes p1_partCounts p1_count l3 (2 : Int32)) (fun o23 => jb (f_Wr_putName p2_spelling p2_starts p2_count t_draft_row t_draft_length t_draft_overrun o23) (fun o25 => some (o25.1, o25.2.1, o25.2.2)))
noncomputable def Wr_enter_b30 (p1_kinds : (Nat → Int32)) (p1_places : (Nat → Int32)) (p1_values : (Nat → Int32)) (p1_sizes : (Nat → Int32)) (p1_partCounts : (Nat → Int32)) (p1_wholes : (Nat → Int32)) (p1_count : Int32) (p2_spelling : (Nat → Int32)) (p2_starts : (Nat → Int32)) (p2_count : Int32) (t_draft_row : (Nat → Int32)) (t_draft_length : Int32) (t_draft_overrun : Int32) (l3 : Int32) : Option ((Nat → Int32) × Int32 × Int32) := jb (f_Tr_kindOf p1_kinds p1_count l3) (fun o27 => if o27 = (9 : Int32) then (Wr_enter_b51 p1_kinds p1_places p1_values p1_sizes p1_partCounts p1_wholes p1_count p2_spelling p2_starts p2_count t_draft_row t_draft_length t_draft_overrun l3) else (if o27 = (16 : Int32) then (Wr_enter_b51 p1_kinds p1_places p1_values p1_sizes p1_partCounts p1_wholes p1_count p2_spelling p2_starts p2_count t_draft_row t_draft_length t_draft_overrun l3) else (if o27 = (17 : Int32) then (jb (f_Tr_tell p1_kinds p1_places p1_values p1_sizes p1_partCounts p1_count l3 (2 : Int32)) (fun o33 => jb (f_Wr_putSort t_draft_row t_draft_length t_draft_overrun o33) (fun o35 => some (o35.1, o35.2.1, o35.2.2)))) else (jb (f_Wr_firstWord o27) (fun o29 => jb (f_Wr_putToken t_draft_row t_draft_length t_draft_overrun o29) (fun o31 => some (o31.1, o31.2.1, o31.2.2)))))))
noncomputable def Wr_enter_b14 (p1_kinds : (Nat → Int32)) (p1_places : (Nat → Int32)) (p1_values : (Nat → Int32)) (p1_sizes : (Nat → Int32)) (p1_partCounts : (Nat → Int32)) (p1_wholes : (Nat → Int32)) (p1_count : Int32) (p2_spelling : (Nat → Int32)) (p2_starts : (Nat → Int32)) (p2_count : Int32) (t_draft_row : (Nat → Int32)) (t_draft_length : Int32) (t_draft_overrun : Int32) (l3 : Int32) (l4 : Int32) : Option ((Nat → Int32) × Int32 × Int32) := jb (f_Wr_hasBrackets p1_kinds p1_places p1_values p1_sizes p1_partCounts p1_wholes p1_count l3 l4) (fun o37 => if o37 = 0 then (Wr_enter_b30 p1_kinds p1_places p1_values p1_sizes p1_partCounts p1_wholes p1_count p2_spelling p2_starts p2_count t_draft_row t_draft_length t_draft_overrun l3) else (jb (f_Wr_putToken t_draft_row t_draft_length t_draft_overrun (15 : Int32)) (fun o39 => Wr_enter_b30 p1_kinds p1_places p1_values p1_sizes p1_partCounts p1_wholes p1_count p2_spelling p2_starts p2_count o39.1 o39.2.1 o39.2.2 l3)))
noncomputable def f_Wr_enter (p1_kinds : (Nat → Int32)) (p1_places : (Nat → Int32)) (p1_values : (Nat → Int32)) (p1_sizes : (Nat → Int32)) (p1_partCounts : (Nat → Int32)) (p1_wholes : (Nat → Int32)) (p1_count : Int32) (p2_spelling : (Nat → Int32)) (p2_starts : (Nat → Int32)) (p2_count : Int32) (t_draft_row : (Nat → Int32)) (t_draft_length : Int32) (t_draft_overrun : Int32) (a3 : Int32) (a4 : Int32) : Option ((Nat → Int32) × Int32 × Int32) := if a4 = 0 then (jb (f_Wr_tokenBefore p1_kinds p1_sizes p1_wholes p1_count a3) (fun o41 => jb (f_Wr_putToken t_draft_row t_draft_length t_draft_overrun o41) (fun o43 => Wr_enter_b14 p1_kinds p1_places p1_values p1_sizes p1_partCounts p1_wholes p1_count p2_spelling p2_starts p2_count o43.1 o43.2.1 o43.2.2 a3 a4))) else (Wr_enter_b14 p1_kinds p1_places p1_values p1_sizes p1_partCounts p1_wholes p1_count p2_spelling p2_starts p2_count t_draft_row t_draft_length t_draft_overrun a3 a4)
set_option maxHeartbeats 4000000 in
set_option maxRecDepth 100000 in
theorem c_Wr_enter {l : Launch} {dC : Nat → ClassId} {dI : Nat → Nat → Nat} {cI cB cS : ClassId} {adK adV adR : Nat → Nat} (h_t h_t_shown h_t_shown_row h_t_draft h_t_draft_row h_p1 h_p1_kinds h_p1_places h_p1_values h_p1_sizes h_p1_partCounts h_p1_wholes h_p2 h_p2_spelling h_p2_starts h_p2_newest h_p2_older : Nat) (t_shown_row : (Nat → Int32)) (t_shown_length : Int32) (t_shown_overrun : Int32) (t_draft_row : (Nat → Int32)) (t_draft_length : Int32) (t_draft_overrun : Int32) (p1_kinds : (Nat → Int32)) (p1_places : (Nat → Int32)) (p1_values : (Nat → Int32)) (p1_sizes : (Nat → Int32)) (p1_partCounts : (Nat → Int32)) (p1_wholes : (Nat → Int32)) (p1_count : Int32) (p2_spelling : (Nat → Int32)) (p2_starts : (Nat → Int32)) (p2_newest : (Nat → Int32)) (p2_older : (Nat → Int32)) (p2_count : Int32) (a3 : Int32) (a4 : Int32) {o : ((Nat → Int32) × Int32 × Int32)} (hf : f_Wr_enter p1_kinds p1_places p1_values p1_sizes p1_partCounts p1_wholes p1_count p2_spelling p2_starts p2_count t_draft_row t_draft_length t_draft_overrun a3 a4 = some o) : jMet l dC dI cI cB cS adK adV adR y_Wr_enter wd_Wr_enter { frames := 6, cells := 0, slots := 0, locals := 129 } [.ref h_t, .ref h_p1, .ref h_p2, .int a3, .int a4] [(h_t, .inr (6, [.ref h_t_shown, .ref h_t_draft])), (h_t_shown, .inr (0, [.ref h_t_shown_row, .int t_shown_length, .int t_shown_overrun])), (h_t_shown_row, .inl (cB, 8000, .inl t_shown_row)), (h_t_draft, .inr (0, [.ref h_t_draft_row, .int t_draft_length, .int t_draft_overrun])), (h_t_draft_row, .inl (cB, 8000, .inl t_draft_row)), (h_p1, .inr (5, [.ref h_p1_kinds, .ref h_p1_places, .ref h_p1_values, .ref h_p1_sizes, .ref h_p1_partCounts, .ref h_p1_wholes, .int p1_count])), (h_p1_kinds, .inl (cI, 8001, .inl p1_kinds)), (h_p1_places, .inl (cI, 8001, .inl p1_places)), (h_p1_values, .inl (cI, 8001, .inl p1_values)), (h_p1_sizes, .inl (cI, 8001, .inl p1_sizes)), (h_p1_partCounts, .inl (cI, 8001, .inl p1_partCounts)), (h_p1_wholes, .inl (cI, 8001, .inl p1_wholes)), (h_p2, .inr (2, [.ref h_p2_spelling, .ref h_p2_starts, .ref h_p2_newest, .ref h_p2_older, .int p2_count])), (h_p2_spelling, .inl (cB, 12288, .inl p2_spelling)), (h_p2_starts, .inl (cI, 4097, .inl p2_starts)), (h_p2_newest, .inl (cI, 1024, .inl p2_newest)), (h_p2_older, .inl (cI, 4096, .inl p2_older))] (none) (fun q => [(h_t, .inr (6, [.ref h_t_shown, .ref h_t_draft])), (h_t_shown, .inr (0, [.ref h_t_shown_row, .int t_shown_length, .int t_shown_overrun])), (h_t_shown_row, .inl (cB, 8000, .inl t_shown_row)), (h_t_draft, .inr (0, [.ref h_t_draft_row, .int o.2.1, .int o.2.2])), (h_t_draft_row, .inl (cB, 8000, .inl o.1)), (h_p1, .inr (5, [.ref h_p1_kinds, .ref h_p1_places, .ref h_p1_values, .ref h_p1_sizes, .ref h_p1_partCounts, .ref h_p1_wholes, .int p1_count])), (h_p1_kinds, .inl (cI, 8001, .inl p1_kinds)), (h_p1_places, .inl (cI, 8001, .inl p1_places)), (h_p1_values, .inl (cI, 8001, .inl p1_values)), (h_p1_sizes, .inl (cI, 8001, .inl p1_sizes)), (h_p1_partCounts, .inl (cI, 8001, .inl p1_partCounts)), (h_p1_wholes, .inl (cI, 8001, .inl p1_wholes)), (h_p2, .inr (2, [.ref h_p2_spelling, .ref h_p2_starts, .ref h_p2_newest, .ref h_p2_older, .int p2_count])), (h_p2_spelling, .inl (cB, 12288, .inl p2_spelling)), (h_p2_starts, .inl (cI, 4097, .inl p2_starts)), (h_p2_newest, .inl (cI, 1024, .inl p2_newest)), (h_p2_older, .inl (cI, 4096, .inl p2_older))]) 0 0 := by
  refine jEntry (cc := b_Wr_enter) (maxL := 6) (ret := none) (by decide) rfl (Nat.le_of_ble_eq_true rfl) rfl (fun p e s m args below meth c A H locs ls Q hQ hx hb hr hml hown hts hlocks hnm hJ hA hP hD hS hl => ?_)
  have hK := hJ.K
  have hl : lv_has ls 6 [(0, .ref h_t), (1, .ref h_p1), (2, .ref h_p2), (3, .int a3), (4, .int a4)] := hl
  have B51 : ∀ (t_draft_row : (Nat → Int32)) (t_draft_length : Int32) (t_draft_overrun : Int32) (l3 : Int32) (H : Heap) (locs : List Loc) (ls : Array Slot), Wr_enter_b51 p1_kinds p1_places p1_values p1_sizes p1_partCounts p1_wholes p1_count p2_spelling p2_starts p2_count t_draft_row t_draft_length t_draft_overrun l3 = some o → va_P (dC, dI) vwCl [(h_t, .inr (6, [.ref h_t_shown, .ref h_t_draft])), (h_t_shown, .inr (0, [.ref h_t_shown_row, .int t_shown_length, .int t_shown_overrun])), (h_t_shown_row, .inl (cB, 8000, .inl t_shown_row)), (h_t_draft, .inr (0, [.ref h_t_draft_row, .int t_draft_length, .int t_draft_overrun])), (h_t_draft_row, .inl (cB, 8000, .inl t_draft_row)), (h_p1, .inr (5, [.ref h_p1_kinds, .ref h_p1_places, .ref h_p1_values, .ref h_p1_sizes, .ref h_p1_partCounts, .ref h_p1_wholes, .int p1_count])), (h_p1_kinds, .inl (cI, 8001, .inl p1_kinds)), (h_p1_places, .inl (cI, 8001, .inl p1_places)), (h_p1_values, .inl (cI, 8001, .inl p1_values)), (h_p1_sizes, .inl (cI, 8001, .inl p1_sizes)), (h_p1_partCounts, .inl (cI, 8001, .inl p1_partCounts)), (h_p1_wholes, .inl (cI, 8001, .inl p1_wholes)), (h_p2, .inr (2, [.ref h_p2_spelling, .ref h_p2_starts, .ref h_p2_newest, .ref h_p2_older, .int p2_count])), (h_p2_spelling, .inl (cB, 12288, .inl p2_spelling)), (h_p2_starts, .inl (cI, 4097, .inl p2_starts)), (h_p2_newest, .inl (cI, 1024, .inl p2_newest)), (h_p2_older, .inl (cI, 4096, .inl p2_older))] H → va_D A [(h_t, .inr (6, [.ref h_t_shown, .ref h_t_draft])), (h_t_shown, .inr (0, [.ref h_t_shown_row, .int t_shown_length, .int t_shown_overrun])), (h_t_shown_row, .inl (cB, 8000, .inl t_shown_row)), (h_t_draft, .inr (0, [.ref h_t_draft_row, .int t_draft_length, .int t_draft_overrun])), (h_t_draft_row, .inl (cB, 8000, .inl t_draft_row)), (h_p1, .inr (5, [.ref h_p1_kinds, .ref h_p1_places, .ref h_p1_values, .ref h_p1_sizes, .ref h_p1_partCounts, .ref h_p1_wholes, .int p1_count])), (h_p1_kinds, .inl (cI, 8001, .inl p1_kinds)), (h_p1_places, .inl (cI, 8001, .inl p1_places)), (h_p1_values, .inl (cI, 8001, .inl p1_values)), (h_p1_sizes, .inl (cI, 8001, .inl p1_sizes)), (h_p1_partCounts, .inl (cI, 8001, .inl p1_partCounts)), (h_p1_wholes, .inl (cI, 8001, .inl p1_wholes)), (h_p2, .inr (2, [.ref h_p2_spelling, .ref h_p2_starts, .ref h_p2_newest, .ref h_p2_older, .int p2_count])), (h_p2_spelling, .inl (cB, 12288, .inl p2_spelling)), (h_p2_starts, .inl (cI, 4097, .inl p2_starts)), (h_p2_newest, .inl (cI, 1024, .inl p2_newest)), (h_p2_older, .inl (cI, 4096, .inl p2_older))] → va_S A s.heap H locs → lv_has ls 6 [(0, .ref h_t), (1, .ref h_p1), (2, .ref h_p2), (3, .int l3)] → W p l e { frames := 6, cells := 0, slots := 0, locals := 129 } s m args below meth c H locs 0 0 Q (F0 m 51 ls []) := by
    intro t_draft_row t_draft_length t_draft_overrun l3 H locs ls hf hP hD hS hl
    unfold Wr_enter_b51 at hf
    refine lv_aload_n hx hb d_Wr_enter_51 rfl (lv_at hl 0 rfl) ?_
    refine lv_aload_n hx hb d_Wr_enter_52 rfl (lv_at hl 2 rfl) ?_
    refine lv_aload_n hx hb d_Wr_enter_53 rfl (lv_at hl 1 rfl) ?_
    refine lv_iload_n hx hb d_Wr_enter_54 rfl (lv_at hl 3 rfl) ?_
    refine lv_iconst (v := (2 : Int32)) hx hb d_Wr_enter_55 (by decide) ?_
    obtain ⟨o45, ho45⟩ : ∃ z, f_Tr_tell p1_kinds p1_places p1_values p1_sizes p1_partCounts p1_count l3 (2 : Int32) = some z := by
      cases hz : f_Tr_tell p1_kinds p1_places p1_values p1_sizes p1_partCounts p1_count l3 (2 : Int32) with
      | none => rw [hz] at hf; simp only [jb_none, jl_b_none, jm_none, reduceCtorEq] at hf
      | some z => exact ⟨z, rfl⟩
    rw [ho45, jb_some] at hf
    refine jCallV (As := [.int l3, .int (2 : Int32)]) (rest := [.ref h_p2, .ref h_t]) (wr := [(h_t, .inr (6, [.ref h_t_shown, .ref h_t_draft])), (h_t_shown, .inr (0, [.ref h_t_shown_row, .int t_shown_length, .int t_shown_overrun])), (h_t_shown_row, .inl (cB, 8000, .inl t_shown_row)), (h_t_draft, .inr (0, [.ref h_t_draft_row, .int t_draft_length, .int t_draft_overrun])), (h_t_draft_row, .inl (cB, 8000, .inl t_draft_row)), (h_p2, .inr (2, [.ref h_p2_spelling, .ref h_p2_starts, .ref h_p2_newest, .ref h_p2_older, .int p2_count])), (h_p2_spelling, .inl (cB, 12288, .inl p2_spelling)), (h_p2_starts, .inl (cI, 4097, .inl p2_starts)), (h_p2_newest, .inl (cI, 1024, .inl p2_newest)), (h_p2_older, .inl (cI, 4096, .inl p2_older))]) ⟨hx, hb, hml, hown, hts⟩ hJ (c_Tr_tell h_p1 h_p1_kinds h_p1_places h_p1_values h_p1_sizes h_p1_partCounts h_p1_wholes p1_kinds p1_places p1_values p1_sizes p1_partCounts p1_wholes p1_count l3 (2 : Int32) ho45) (cwV 2 hts (jgV jw379 jw381 jw382 jw153 jw380) rfl rfl rfl dd_Tr_tell ⟨Nat.le_of_ble_eq_true rfl, Nat.le_of_ble_eq_true rfl⟩) hP hD hS hA (va_recv hK hP (ci := 5) (q0 := 5) rfl rfl) [5, 6, 7, 8, 9, 10, 11] [0, 1, 2, 3, 4, 12, 13, 14, 15, 16] rfl rfl (by decide) (by decide) (by decide) rfl hl.1 rfl (Nat.le_of_ble_eq_true rfl) d_Wr_enter_56 ⟨Nat.le_of_ble_eq_true rfl, Nat.le_of_ble_eq_true rfl⟩ (fun qz46 H locs hP hD hS => ?_)
    have hP : va_P (dC, dI) vwCl [(h_t, .inr (6, [.ref h_t_shown, .ref h_t_draft])), (h_t_shown, .inr (0, [.ref h_t_shown_row, .int t_shown_length, .int t_shown_overrun])), (h_t_shown_row, .inl (cB, 8000, .inl t_shown_row)), (h_t_draft, .inr (0, [.ref h_t_draft_row, .int t_draft_length, .int t_draft_overrun])), (h_t_draft_row, .inl (cB, 8000, .inl t_draft_row)), (h_p2, .inr (2, [.ref h_p2_spelling, .ref h_p2_starts, .ref h_p2_newest, .ref h_p2_older, .int p2_count])), (h_p2_spelling, .inl (cB, 12288, .inl p2_spelling)), (h_p2_starts, .inl (cI, 4097, .inl p2_starts)), (h_p2_newest, .inl (cI, 1024, .inl p2_newest)), (h_p2_older, .inl (cI, 4096, .inl p2_older)), (h_p1, .inr (5, [.ref h_p1_kinds, .ref h_p1_places, .ref h_p1_values, .ref h_p1_sizes, .ref h_p1_partCounts, .ref h_p1_wholes, .int p1_count])), (h_p1_kinds, .inl (cI, 8001, .inl p1_kinds)), (h_p1_places, .inl (cI, 8001, .inl p1_places)), (h_p1_values, .inl (cI, 8001, .inl p1_values)), (h_p1_sizes, .inl (cI, 8001, .inl p1_sizes)), (h_p1_partCounts, .inl (cI, 8001, .inl p1_partCounts)), (h_p1_wholes, .inl (cI, 8001, .inl p1_wholes))] H := hP
    have hD : va_D A [(h_t, .inr (6, [.ref h_t_shown, .ref h_t_draft])), (h_t_shown, .inr (0, [.ref h_t_shown_row, .int t_shown_length, .int t_shown_overrun])), (h_t_shown_row, .inl (cB, 8000, .inl t_shown_row)), (h_t_draft, .inr (0, [.ref h_t_draft_row, .int t_draft_length, .int t_draft_overrun])), (h_t_draft_row, .inl (cB, 8000, .inl t_draft_row)), (h_p2, .inr (2, [.ref h_p2_spelling, .ref h_p2_starts, .ref h_p2_newest, .ref h_p2_older, .int p2_count])), (h_p2_spelling, .inl (cB, 12288, .inl p2_spelling)), (h_p2_starts, .inl (cI, 4097, .inl p2_starts)), (h_p2_newest, .inl (cI, 1024, .inl p2_newest)), (h_p2_older, .inl (cI, 4096, .inl p2_older)), (h_p1, .inr (5, [.ref h_p1_kinds, .ref h_p1_places, .ref h_p1_values, .ref h_p1_sizes, .ref h_p1_partCounts, .ref h_p1_wholes, .int p1_count])), (h_p1_kinds, .inl (cI, 8001, .inl p1_kinds)), (h_p1_places, .inl (cI, 8001, .inl p1_places)), (h_p1_values, .inl (cI, 8001, .inl p1_values)), (h_p1_sizes, .inl (cI, 8001, .inl p1_sizes)), (h_p1_partCounts, .inl (cI, 8001, .inl p1_partCounts)), (h_p1_wholes, .inl (cI, 8001, .inl p1_wholes))] := hD
    obtain ⟨o47, ho47⟩ : ∃ z, f_Wr_putName p2_spelling p2_starts p2_count t_draft_row t_draft_length t_draft_overrun o45 = some z := by
      cases hz : f_Wr_putName p2_spelling p2_starts p2_count t_draft_row t_draft_length t_draft_overrun o45 with
      | none => rw [hz] at hf; simp only [jb_none, jl_b_none, jm_none, reduceCtorEq] at hf
      | some z => exact ⟨z, rfl⟩
    rw [ho47, jb_some] at hf
    refine jCallV (As := [.ref h_p2, .int o45]) (rest := []) (wr := [(h_p1, .inr (5, [.ref h_p1_kinds, .ref h_p1_places, .ref h_p1_values, .ref h_p1_sizes, .ref h_p1_partCounts, .ref h_p1_wholes, .int p1_count])), (h_p1_kinds, .inl (cI, 8001, .inl p1_kinds)), (h_p1_places, .inl (cI, 8001, .inl p1_places)), (h_p1_values, .inl (cI, 8001, .inl p1_values)), (h_p1_sizes, .inl (cI, 8001, .inl p1_sizes)), (h_p1_partCounts, .inl (cI, 8001, .inl p1_partCounts)), (h_p1_wholes, .inl (cI, 8001, .inl p1_wholes))]) ⟨hx, hb, hml, hown, hts⟩ hJ (c_Wr_putName h_t h_t_shown h_t_shown_row h_t_draft h_t_draft_row h_p2 h_p2_spelling h_p2_starts h_p2_newest h_p2_older t_shown_row t_shown_length t_shown_overrun t_draft_row t_draft_length t_draft_overrun p2_spelling p2_starts p2_newest p2_older p2_count o45 ho47) (cwV 2 hts (jgV jw410 jw412 jw413 jw356 jw411) rfl rfl rfl dd_Wr_putName ⟨Nat.le_of_ble_eq_true rfl, Nat.le_of_ble_eq_true rfl⟩) hP hD hS hA (va_recv hK hP (ci := 6) (q0 := 0) rfl rfl) [0, 1, 2, 3, 4, 5, 6, 7, 8, 9] [10, 11, 12, 13, 14, 15, 16] rfl rfl (by decide) (by decide) (by decide) rfl hl.1 rfl (Nat.le_of_ble_eq_true rfl) d_Wr_enter_59 ⟨Nat.le_of_ble_eq_true rfl, Nat.le_of_ble_eq_true rfl⟩ (fun qz48 H locs hP hD hS => ?_)
    have hP : va_P (dC, dI) vwCl [(h_p1, .inr (5, [.ref h_p1_kinds, .ref h_p1_places, .ref h_p1_values, .ref h_p1_sizes, .ref h_p1_partCounts, .ref h_p1_wholes, .int p1_count])), (h_p1_kinds, .inl (cI, 8001, .inl p1_kinds)), (h_p1_places, .inl (cI, 8001, .inl p1_places)), (h_p1_values, .inl (cI, 8001, .inl p1_values)), (h_p1_sizes, .inl (cI, 8001, .inl p1_sizes)), (h_p1_partCounts, .inl (cI, 8001, .inl p1_partCounts)), (h_p1_wholes, .inl (cI, 8001, .inl p1_wholes)), (h_t, .inr (6, [.ref h_t_shown, .ref h_t_draft])), (h_t_shown, .inr (0, [.ref h_t_shown_row, .int t_shown_length, .int t_shown_overrun])), (h_t_shown_row, .inl (cB, 8000, .inl t_shown_row)), (h_t_draft, .inr (0, [.ref h_t_draft_row, .int o47.2.1, .int o47.2.2])), (h_t_draft_row, .inl (cB, 8000, .inl o47.1)), (h_p2, .inr (2, [.ref h_p2_spelling, .ref h_p2_starts, .ref h_p2_newest, .ref h_p2_older, .int p2_count])), (h_p2_spelling, .inl (cB, 12288, .inl p2_spelling)), (h_p2_starts, .inl (cI, 4097, .inl p2_starts)), (h_p2_newest, .inl (cI, 1024, .inl p2_newest)), (h_p2_older, .inl (cI, 4096, .inl p2_older))] H := hP
    have hD : va_D A [(h_p1, .inr (5, [.ref h_p1_kinds, .ref h_p1_places, .ref h_p1_values, .ref h_p1_sizes, .ref h_p1_partCounts, .ref h_p1_wholes, .int p1_count])), (h_p1_kinds, .inl (cI, 8001, .inl p1_kinds)), (h_p1_places, .inl (cI, 8001, .inl p1_places)), (h_p1_values, .inl (cI, 8001, .inl p1_values)), (h_p1_sizes, .inl (cI, 8001, .inl p1_sizes)), (h_p1_partCounts, .inl (cI, 8001, .inl p1_partCounts)), (h_p1_wholes, .inl (cI, 8001, .inl p1_wholes)), (h_t, .inr (6, [.ref h_t_shown, .ref h_t_draft])), (h_t_shown, .inr (0, [.ref h_t_shown_row, .int t_shown_length, .int t_shown_overrun])), (h_t_shown_row, .inl (cB, 8000, .inl t_shown_row)), (h_t_draft, .inr (0, [.ref h_t_draft_row, .int o47.2.1, .int o47.2.2])), (h_t_draft_row, .inl (cB, 8000, .inl o47.1)), (h_p2, .inr (2, [.ref h_p2_spelling, .ref h_p2_starts, .ref h_p2_newest, .ref h_p2_older, .int p2_count])), (h_p2_spelling, .inl (cB, 12288, .inl p2_spelling)), (h_p2_starts, .inl (cI, 4097, .inl p2_starts)), (h_p2_newest, .inl (cI, 1024, .inl p2_newest)), (h_p2_older, .inl (cI, 4096, .inl p2_older))] := hD
    refine lv_goto (tgt := 94) hx hb d_Wr_enter_62 (by decide) ?_
    have hf : (some (o47.1, o47.2.1, o47.2.2) : Option ((Nat → Int32) × Int32 × Int32)) = some o := hf
    rw [hQ, ← Option.some.inj hf]
    exact jVret hx hb hr hlocks d_Wr_enter_94 (fun _ => 0) hS (hP.sub [7, 8, 9, 10, 11, 0, 1, 2, 3, 4, 5, 6, 12, 13, 14, 15, 16] rfl) (hD.sub [7, 8, 9, 10, 11, 0, 1, 2, 3, 4, 5, 6, 12, 13, 14, 15, 16] (by decide) rfl)
  have B30 : ∀ (t_draft_row : (Nat → Int32)) (t_draft_length : Int32) (t_draft_overrun : Int32) (l3 : Int32) (H : Heap) (locs : List Loc) (ls : Array Slot), Wr_enter_b30 p1_kinds p1_places p1_values p1_sizes p1_partCounts p1_wholes p1_count p2_spelling p2_starts p2_count t_draft_row t_draft_length t_draft_overrun l3 = some o → va_P (dC, dI) vwCl [(h_t, .inr (6, [.ref h_t_shown, .ref h_t_draft])), (h_t_shown, .inr (0, [.ref h_t_shown_row, .int t_shown_length, .int t_shown_overrun])), (h_t_shown_row, .inl (cB, 8000, .inl t_shown_row)), (h_t_draft, .inr (0, [.ref h_t_draft_row, .int t_draft_length, .int t_draft_overrun])), (h_t_draft_row, .inl (cB, 8000, .inl t_draft_row)), (h_p1, .inr (5, [.ref h_p1_kinds, .ref h_p1_places, .ref h_p1_values, .ref h_p1_sizes, .ref h_p1_partCounts, .ref h_p1_wholes, .int p1_count])), (h_p1_kinds, .inl (cI, 8001, .inl p1_kinds)), (h_p1_places, .inl (cI, 8001, .inl p1_places)), (h_p1_values, .inl (cI, 8001, .inl p1_values)), (h_p1_sizes, .inl (cI, 8001, .inl p1_sizes)), (h_p1_partCounts, .inl (cI, 8001, .inl p1_partCounts)), (h_p1_wholes, .inl (cI, 8001, .inl p1_wholes)), (h_p2, .inr (2, [.ref h_p2_spelling, .ref h_p2_starts, .ref h_p2_newest, .ref h_p2_older, .int p2_count])), (h_p2_spelling, .inl (cB, 12288, .inl p2_spelling)), (h_p2_starts, .inl (cI, 4097, .inl p2_starts)), (h_p2_newest, .inl (cI, 1024, .inl p2_newest)), (h_p2_older, .inl (cI, 4096, .inl p2_older))] H → va_D A [(h_t, .inr (6, [.ref h_t_shown, .ref h_t_draft])), (h_t_shown, .inr (0, [.ref h_t_shown_row, .int t_shown_length, .int t_shown_overrun])), (h_t_shown_row, .inl (cB, 8000, .inl t_shown_row)), (h_t_draft, .inr (0, [.ref h_t_draft_row, .int t_draft_length, .int t_draft_overrun])), (h_t_draft_row, .inl (cB, 8000, .inl t_draft_row)), (h_p1, .inr (5, [.ref h_p1_kinds, .ref h_p1_places, .ref h_p1_values, .ref h_p1_sizes, .ref h_p1_partCounts, .ref h_p1_wholes, .int p1_count])), (h_p1_kinds, .inl (cI, 8001, .inl p1_kinds)), (h_p1_places, .inl (cI, 8001, .inl p1_places)), (h_p1_values, .inl (cI, 8001, .inl p1_values)), (h_p1_sizes, .inl (cI, 8001, .inl p1_sizes)), (h_p1_partCounts, .inl (cI, 8001, .inl p1_partCounts)), (h_p1_wholes, .inl (cI, 8001, .inl p1_wholes)), (h_p2, .inr (2, [.ref h_p2_spelling, .ref h_p2_starts, .ref h_p2_newest, .ref h_p2_older, .int p2_count])), (h_p2_spelling, .inl (cB, 12288, .inl p2_spelling)), (h_p2_starts, .inl (cI, 4097, .inl p2_starts)), (h_p2_newest, .inl (cI, 1024, .inl p2_newest)), (h_p2_older, .inl (cI, 4096, .inl p2_older))] → va_S A s.heap H locs → lv_has ls 6 [(0, .ref h_t), (1, .ref h_p1), (2, .ref h_p2), (3, .int l3)] → W p l e { frames := 6, cells := 0, slots := 0, locals := 129 } s m args below meth c H locs 0 0 Q (F0 m 30 ls []) := by
    intro t_draft_row t_draft_length t_draft_overrun l3 H locs ls hf hP hD hS hl
    unfold Wr_enter_b30 at hf
    refine lv_aload_n hx hb d_Wr_enter_30 rfl (lv_at hl 1 rfl) ?_
    refine lv_iload_n hx hb d_Wr_enter_31 rfl (lv_at hl 3 rfl) ?_
    obtain ⟨o49, ho49⟩ : ∃ z, f_Tr_kindOf p1_kinds p1_count l3 = some z := by
      cases hz : f_Tr_kindOf p1_kinds p1_count l3 with
      | none => rw [hz] at hf; simp only [jb_none, jl_b_none, jm_none, reduceCtorEq] at hf
      | some z => exact ⟨z, rfl⟩
    rw [ho49, jb_some] at hf
    refine jCallV (As := [.int l3]) (rest := []) (wr := [(h_t, .inr (6, [.ref h_t_shown, .ref h_t_draft])), (h_t_shown, .inr (0, [.ref h_t_shown_row, .int t_shown_length, .int t_shown_overrun])), (h_t_shown_row, .inl (cB, 8000, .inl t_shown_row)), (h_t_draft, .inr (0, [.ref h_t_draft_row, .int t_draft_length, .int t_draft_overrun])), (h_t_draft_row, .inl (cB, 8000, .inl t_draft_row)), (h_p2, .inr (2, [.ref h_p2_spelling, .ref h_p2_starts, .ref h_p2_newest, .ref h_p2_older, .int p2_count])), (h_p2_spelling, .inl (cB, 12288, .inl p2_spelling)), (h_p2_starts, .inl (cI, 4097, .inl p2_starts)), (h_p2_newest, .inl (cI, 1024, .inl p2_newest)), (h_p2_older, .inl (cI, 4096, .inl p2_older))]) ⟨hx, hb, hml, hown, hts⟩ hJ (c_Tr_kindOf h_p1 h_p1_kinds h_p1_places h_p1_values h_p1_sizes h_p1_partCounts h_p1_wholes p1_kinds p1_places p1_values p1_sizes p1_partCounts p1_wholes p1_count l3 ho49) (cwV 1 hts (jgV jw366 jw368 jw369 jw153 jw367) rfl rfl rfl dd_Tr_kindOf ⟨Nat.le_of_ble_eq_true rfl, Nat.le_of_ble_eq_true rfl⟩) hP hD hS hA (va_recv hK hP (ci := 5) (q0 := 5) rfl rfl) [5, 6, 7, 8, 9, 10, 11] [0, 1, 2, 3, 4, 12, 13, 14, 15, 16] rfl rfl (by decide) (by decide) (by decide) rfl hl.1 rfl (Nat.le_of_ble_eq_true rfl) d_Wr_enter_32 ⟨Nat.le_of_ble_eq_true rfl, Nat.le_of_ble_eq_true rfl⟩ (fun qz50 H locs hP hD hS => ?_)
    have hP : va_P (dC, dI) vwCl [(h_t, .inr (6, [.ref h_t_shown, .ref h_t_draft])), (h_t_shown, .inr (0, [.ref h_t_shown_row, .int t_shown_length, .int t_shown_overrun])), (h_t_shown_row, .inl (cB, 8000, .inl t_shown_row)), (h_t_draft, .inr (0, [.ref h_t_draft_row, .int t_draft_length, .int t_draft_overrun])), (h_t_draft_row, .inl (cB, 8000, .inl t_draft_row)), (h_p2, .inr (2, [.ref h_p2_spelling, .ref h_p2_starts, .ref h_p2_newest, .ref h_p2_older, .int p2_count])), (h_p2_spelling, .inl (cB, 12288, .inl p2_spelling)), (h_p2_starts, .inl (cI, 4097, .inl p2_starts)), (h_p2_newest, .inl (cI, 1024, .inl p2_newest)), (h_p2_older, .inl (cI, 4096, .inl p2_older)), (h_p1, .inr (5, [.ref h_p1_kinds, .ref h_p1_places, .ref h_p1_values, .ref h_p1_sizes, .ref h_p1_partCounts, .ref h_p1_wholes, .int p1_count])), (h_p1_kinds, .inl (cI, 8001, .inl p1_kinds)), (h_p1_places, .inl (cI, 8001, .inl p1_places)), (h_p1_values, .inl (cI, 8001, .inl p1_values)), (h_p1_sizes, .inl (cI, 8001, .inl p1_sizes)), (h_p1_partCounts, .inl (cI, 8001, .inl p1_partCounts)), (h_p1_wholes, .inl (cI, 8001, .inl p1_wholes))] H := hP
    have hD : va_D A [(h_t, .inr (6, [.ref h_t_shown, .ref h_t_draft])), (h_t_shown, .inr (0, [.ref h_t_shown_row, .int t_shown_length, .int t_shown_overrun])), (h_t_shown_row, .inl (cB, 8000, .inl t_shown_row)), (h_t_draft, .inr (0, [.ref h_t_draft_row, .int t_draft_length, .int t_draft_overrun])), (h_t_draft_row, .inl (cB, 8000, .inl t_draft_row)), (h_p2, .inr (2, [.ref h_p2_spelling, .ref h_p2_starts, .ref h_p2_newest, .ref h_p2_older, .int p2_count])), (h_p2_spelling, .inl (cB, 12288, .inl p2_spelling)), (h_p2_starts, .inl (cI, 4097, .inl p2_starts)), (h_p2_newest, .inl (cI, 1024, .inl p2_newest)), (h_p2_older, .inl (cI, 4096, .inl p2_older)), (h_p1, .inr (5, [.ref h_p1_kinds, .ref h_p1_places, .ref h_p1_values, .ref h_p1_sizes, .ref h_p1_partCounts, .ref h_p1_wholes, .int p1_count])), (h_p1_kinds, .inl (cI, 8001, .inl p1_kinds)), (h_p1_places, .inl (cI, 8001, .inl p1_places)), (h_p1_values, .inl (cI, 8001, .inl p1_values)), (h_p1_sizes, .inl (cI, 8001, .inl p1_sizes)), (h_p1_partCounts, .inl (cI, 8001, .inl p1_partCounts)), (h_p1_wholes, .inl (cI, 8001, .inl p1_wholes))] := hD
    refine lv_istore (lv' := [(5, .int o49), (0, .ref h_t), (1, .ref h_p1), (2, .ref h_p2), (3, .int l3)]) hx hb d_Wr_enter_35 hl (by decide) rfl (fun ls hl => ?_)
    refine lv_iload hx hb d_Wr_enter_37 (lv_at hl 0 rfl) ?_
    refine lv_bipush (v := (9 : Int32)) hx hb d_Wr_enter_39 (by decide) ?_
    refine lv_icmp_eq (tgt := 51) hx hb d_Wr_enter_41 (by decide) (fun c41 => ?_) (fun c41 => ?_)
    · rw [if_pos c41] at hf
      exact B51 t_draft_row t_draft_length t_draft_overrun l3 H locs ls hf (hP.sub [0, 1, 2, 3, 4, 10, 11, 12, 13, 14, 15, 16, 5, 6, 7, 8, 9] rfl) (hD.sub [0, 1, 2, 3, 4, 10, 11, 12, 13, 14, 15, 16, 5, 6, 7, 8, 9] (by decide) rfl) hS (lv_sub hl [1, 2, 3, 4] rfl)
    · rw [if_neg c41] at hf
      refine lv_iload hx hb d_Wr_enter_44 (lv_at hl 0 rfl) ?_
      refine lv_bipush (v := (16 : Int32)) hx hb d_Wr_enter_46 (by decide) ?_
      refine lv_icmp_ne (tgt := 65) hx hb d_Wr_enter_48 (by decide) (fun c48 => ?_) (fun c48 => ?_)
      · rw [if_neg c48] at hf
        refine lv_iload hx hb d_Wr_enter_65 (lv_at hl 0 rfl) ?_
        refine lv_bipush (v := (17 : Int32)) hx hb d_Wr_enter_67 (by decide) ?_
        refine lv_icmp_ne (tgt := 85) hx hb d_Wr_enter_69 (by decide) (fun c69 => ?_) (fun c69 => ?_)
        · rw [if_neg c69] at hf
          refine lv_aload_n hx hb d_Wr_enter_85 rfl (lv_at hl 1 rfl) ?_
          refine lv_iload hx hb d_Wr_enter_86 (lv_at hl 0 rfl) ?_
          obtain ⟨o51, ho51⟩ : ∃ z, f_Wr_firstWord o49 = some z := by
            cases hz : f_Wr_firstWord o49 with
            | none => rw [hz] at hf; simp only [jb_none, jl_b_none, jm_none, reduceCtorEq] at hf
            | some z => exact ⟨z, rfl⟩
          rw [ho51, jb_some] at hf
          refine jCallS (As := [.int o49]) (rest := [.ref h_t]) (wr := [(h_t, .inr (6, [.ref h_t_shown, .ref h_t_draft])), (h_t_shown, .inr (0, [.ref h_t_shown_row, .int t_shown_length, .int t_shown_overrun])), (h_t_shown_row, .inl (cB, 8000, .inl t_shown_row)), (h_t_draft, .inr (0, [.ref h_t_draft_row, .int t_draft_length, .int t_draft_overrun])), (h_t_draft_row, .inl (cB, 8000, .inl t_draft_row)), (h_p2, .inr (2, [.ref h_p2_spelling, .ref h_p2_starts, .ref h_p2_newest, .ref h_p2_older, .int p2_count])), (h_p2_spelling, .inl (cB, 12288, .inl p2_spelling)), (h_p2_starts, .inl (cI, 4097, .inl p2_starts)), (h_p2_newest, .inl (cI, 1024, .inl p2_newest)), (h_p2_older, .inl (cI, 4096, .inl p2_older)), (h_p1, .inr (5, [.ref h_p1_kinds, .ref h_p1_places, .ref h_p1_values, .ref h_p1_sizes, .ref h_p1_partCounts, .ref h_p1_wholes, .int p1_count])), (h_p1_kinds, .inl (cI, 8001, .inl p1_kinds)), (h_p1_places, .inl (cI, 8001, .inl p1_places)), (h_p1_values, .inl (cI, 8001, .inl p1_values)), (h_p1_sizes, .inl (cI, 8001, .inl p1_sizes)), (h_p1_partCounts, .inl (cI, 8001, .inl p1_partCounts)), (h_p1_wholes, .inl (cI, 8001, .inl p1_wholes))]) ⟨hx, hb, hml, hown, hts⟩ hJ (c_Wr_firstWord o49 ho51) (va_cwS 1 hts (jgS jw403 jw405 jw356 jw404) rfl rfl rfl dd_Wr_firstWord.2 ⟨Nat.le_of_ble_eq_true rfl, Nat.le_of_ble_eq_true rfl⟩) hP hD hS hA [] [0, 1, 2, 3, 4, 5, 6, 7, 8, 9, 10, 11, 12, 13, 14, 15, 16] rfl rfl (by decide) (by decide) (by decide) rfl hl.1 rfl (Nat.le_of_ble_eq_true rfl) d_Wr_enter_88 ⟨Nat.le_of_ble_eq_true rfl, Nat.le_of_ble_eq_true rfl⟩ (fun qz52 H locs hP hD hS => ?_)
          have hP : va_P (dC, dI) vwCl [(h_t, .inr (6, [.ref h_t_shown, .ref h_t_draft])), (h_t_shown, .inr (0, [.ref h_t_shown_row, .int t_shown_length, .int t_shown_overrun])), (h_t_shown_row, .inl (cB, 8000, .inl t_shown_row)), (h_t_draft, .inr (0, [.ref h_t_draft_row, .int t_draft_length, .int t_draft_overrun])), (h_t_draft_row, .inl (cB, 8000, .inl t_draft_row)), (h_p2, .inr (2, [.ref h_p2_spelling, .ref h_p2_starts, .ref h_p2_newest, .ref h_p2_older, .int p2_count])), (h_p2_spelling, .inl (cB, 12288, .inl p2_spelling)), (h_p2_starts, .inl (cI, 4097, .inl p2_starts)), (h_p2_newest, .inl (cI, 1024, .inl p2_newest)), (h_p2_older, .inl (cI, 4096, .inl p2_older)), (h_p1, .inr (5, [.ref h_p1_kinds, .ref h_p1_places, .ref h_p1_values, .ref h_p1_sizes, .ref h_p1_partCounts, .ref h_p1_wholes, .int p1_count])), (h_p1_kinds, .inl (cI, 8001, .inl p1_kinds)), (h_p1_places, .inl (cI, 8001, .inl p1_places)), (h_p1_values, .inl (cI, 8001, .inl p1_values)), (h_p1_sizes, .inl (cI, 8001, .inl p1_sizes)), (h_p1_partCounts, .inl (cI, 8001, .inl p1_partCounts)), (h_p1_wholes, .inl (cI, 8001, .inl p1_wholes))] H := hP
          have hD : va_D A [(h_t, .inr (6, [.ref h_t_shown, .ref h_t_draft])), (h_t_shown, .inr (0, [.ref h_t_shown_row, .int t_shown_length, .int t_shown_overrun])), (h_t_shown_row, .inl (cB, 8000, .inl t_shown_row)), (h_t_draft, .inr (0, [.ref h_t_draft_row, .int t_draft_length, .int t_draft_overrun])), (h_t_draft_row, .inl (cB, 8000, .inl t_draft_row)), (h_p2, .inr (2, [.ref h_p2_spelling, .ref h_p2_starts, .ref h_p2_newest, .ref h_p2_older, .int p2_count])), (h_p2_spelling, .inl (cB, 12288, .inl p2_spelling)), (h_p2_starts, .inl (cI, 4097, .inl p2_starts)), (h_p2_newest, .inl (cI, 1024, .inl p2_newest)), (h_p2_older, .inl (cI, 4096, .inl p2_older)), (h_p1, .inr (5, [.ref h_p1_kinds, .ref h_p1_places, .ref h_p1_values, .ref h_p1_sizes, .ref h_p1_partCounts, .ref h_p1_wholes, .int p1_count])), (h_p1_kinds, .inl (cI, 8001, .inl p1_kinds)), (h_p1_places, .inl (cI, 8001, .inl p1_places)), (h_p1_values, .inl (cI, 8001, .inl p1_values)), (h_p1_sizes, .inl (cI, 8001, .inl p1_sizes)), (h_p1_partCounts, .inl (cI, 8001, .inl p1_partCounts)), (h_p1_wholes, .inl (cI, 8001, .inl p1_wholes))] := hD
          obtain ⟨o53, ho53⟩ : ∃ z, f_Wr_putToken t_draft_row t_draft_length t_draft_overrun o51 = some z := by
            cases hz : f_Wr_putToken t_draft_row t_draft_length t_draft_overrun o51 with
            | none => rw [hz] at hf; simp only [jb_none, jl_b_none, jm_none, reduceCtorEq] at hf
            | some z => exact ⟨z, rfl⟩
          rw [ho53, jb_some] at hf
          refine jCallV (As := [.int o51]) (rest := []) (wr := [(h_p2, .inr (2, [.ref h_p2_spelling, .ref h_p2_starts, .ref h_p2_newest, .ref h_p2_older, .int p2_count])), (h_p2_spelling, .inl (cB, 12288, .inl p2_spelling)), (h_p2_starts, .inl (cI, 4097, .inl p2_starts)), (h_p2_newest, .inl (cI, 1024, .inl p2_newest)), (h_p2_older, .inl (cI, 4096, .inl p2_older)), (h_p1, .inr (5, [.ref h_p1_kinds, .ref h_p1_places, .ref h_p1_values, .ref h_p1_sizes, .ref h_p1_partCounts, .ref h_p1_wholes, .int p1_count])), (h_p1_kinds, .inl (cI, 8001, .inl p1_kinds)), (h_p1_places, .inl (cI, 8001, .inl p1_places)), (h_p1_values, .inl (cI, 8001, .inl p1_values)), (h_p1_sizes, .inl (cI, 8001, .inl p1_sizes)), (h_p1_partCounts, .inl (cI, 8001, .inl p1_partCounts)), (h_p1_wholes, .inl (cI, 8001, .inl p1_wholes))]) ⟨hx, hb, hml, hown, hts⟩ hJ (c_Wr_putToken h_t h_t_shown h_t_shown_row h_t_draft h_t_draft_row t_shown_row t_shown_length t_shown_overrun t_draft_row t_draft_length t_draft_overrun o51 ho53) (cwV 1 hts (jgV jw393 jw395 jw396 jw356 jw394) rfl rfl rfl dd_Wr_putToken ⟨Nat.le_of_ble_eq_true rfl, Nat.le_of_ble_eq_true rfl⟩) hP hD hS hA (va_recv hK hP (ci := 6) (q0 := 0) rfl rfl) [0, 1, 2, 3, 4] [5, 6, 7, 8, 9, 10, 11, 12, 13, 14, 15, 16] rfl rfl (by decide) (by decide) (by decide) rfl hl.1 rfl (Nat.le_of_ble_eq_true rfl) d_Wr_enter_91 ⟨Nat.le_of_ble_eq_true rfl, Nat.le_of_ble_eq_true rfl⟩ (fun qz54 H locs hP hD hS => ?_)
          have hP : va_P (dC, dI) vwCl [(h_p2, .inr (2, [.ref h_p2_spelling, .ref h_p2_starts, .ref h_p2_newest, .ref h_p2_older, .int p2_count])), (h_p2_spelling, .inl (cB, 12288, .inl p2_spelling)), (h_p2_starts, .inl (cI, 4097, .inl p2_starts)), (h_p2_newest, .inl (cI, 1024, .inl p2_newest)), (h_p2_older, .inl (cI, 4096, .inl p2_older)), (h_p1, .inr (5, [.ref h_p1_kinds, .ref h_p1_places, .ref h_p1_values, .ref h_p1_sizes, .ref h_p1_partCounts, .ref h_p1_wholes, .int p1_count])), (h_p1_kinds, .inl (cI, 8001, .inl p1_kinds)), (h_p1_places, .inl (cI, 8001, .inl p1_places)), (h_p1_values, .inl (cI, 8001, .inl p1_values)), (h_p1_sizes, .inl (cI, 8001, .inl p1_sizes)), (h_p1_partCounts, .inl (cI, 8001, .inl p1_partCounts)), (h_p1_wholes, .inl (cI, 8001, .inl p1_wholes)), (h_t, .inr (6, [.ref h_t_shown, .ref h_t_draft])), (h_t_shown, .inr (0, [.ref h_t_shown_row, .int t_shown_length, .int t_shown_overrun])), (h_t_shown_row, .inl (cB, 8000, .inl t_shown_row)), (h_t_draft, .inr (0, [.ref h_t_draft_row, .int o53.2.1, .int o53.2.2])), (h_t_draft_row, .inl (cB, 8000, .inl o53.1))] H := hP
          have hD : va_D A [(h_p2, .inr (2, [.ref h_p2_spelling, .ref h_p2_starts, .ref h_p2_newest, .ref h_p2_older, .int p2_count])), (h_p2_spelling, .inl (cB, 12288, .inl p2_spelling)), (h_p2_starts, .inl (cI, 4097, .inl p2_starts)), (h_p2_newest, .inl (cI, 1024, .inl p2_newest)), (h_p2_older, .inl (cI, 4096, .inl p2_older)), (h_p1, .inr (5, [.ref h_p1_kinds, .ref h_p1_places, .ref h_p1_values, .ref h_p1_sizes, .ref h_p1_partCounts, .ref h_p1_wholes, .int p1_count])), (h_p1_kinds, .inl (cI, 8001, .inl p1_kinds)), (h_p1_places, .inl (cI, 8001, .inl p1_places)), (h_p1_values, .inl (cI, 8001, .inl p1_values)), (h_p1_sizes, .inl (cI, 8001, .inl p1_sizes)), (h_p1_partCounts, .inl (cI, 8001, .inl p1_partCounts)), (h_p1_wholes, .inl (cI, 8001, .inl p1_wholes)), (h_t, .inr (6, [.ref h_t_shown, .ref h_t_draft])), (h_t_shown, .inr (0, [.ref h_t_shown_row, .int t_shown_length, .int t_shown_overrun])), (h_t_shown_row, .inl (cB, 8000, .inl t_shown_row)), (h_t_draft, .inr (0, [.ref h_t_draft_row, .int o53.2.1, .int o53.2.2])), (h_t_draft_row, .inl (cB, 8000, .inl o53.1))] := hD
          have hf : (some (o53.1, o53.2.1, o53.2.2) : Option ((Nat → Int32) × Int32 × Int32)) = some o := hf
          rw [hQ, ← Option.some.inj hf]
          exact jVret hx hb hr hlocks d_Wr_enter_94 (fun _ => 0) hS (hP.sub [12, 13, 14, 15, 16, 5, 6, 7, 8, 9, 10, 11, 0, 1, 2, 3, 4] rfl) (hD.sub [12, 13, 14, 15, 16, 5, 6, 7, 8, 9, 10, 11, 0, 1, 2, 3, 4] (by decide) rfl)
        · rw [if_pos c69] at hf
          refine lv_aload_n hx hb d_Wr_enter_72 rfl (lv_at hl 1 rfl) ?_
          refine lv_aload_n hx hb d_Wr_enter_73 rfl (lv_at hl 2 rfl) ?_
          refine lv_iload_n hx hb d_Wr_enter_74 rfl (lv_at hl 4 rfl) ?_
          refine lv_iconst (v := (2 : Int32)) hx hb d_Wr_enter_75 (by decide) ?_
          obtain ⟨o55, ho55⟩ : ∃ z, f_Tr_tell p1_kinds p1_places p1_values p1_sizes p1_partCounts p1_count l3 (2 : Int32) = some z := by
            cases hz : f_Tr_tell p1_kinds p1_places p1_values p1_sizes p1_partCounts p1_count l3 (2 : Int32) with
            | none => rw [hz] at hf; simp only [jb_none, jl_b_none, jm_none, reduceCtorEq] at hf
            | some z => exact ⟨z, rfl⟩
          rw [ho55, jb_some] at hf
          refine jCallV (As := [.int l3, .int (2 : Int32)]) (rest := [.ref h_t]) (wr := [(h_t, .inr (6, [.ref h_t_shown, .ref h_t_draft])), (h_t_shown, .inr (0, [.ref h_t_shown_row, .int t_shown_length, .int t_shown_overrun])), (h_t_shown_row, .inl (cB, 8000, .inl t_shown_row)), (h_t_draft, .inr (0, [.ref h_t_draft_row, .int t_draft_length, .int t_draft_overrun])), (h_t_draft_row, .inl (cB, 8000, .inl t_draft_row)), (h_p2, .inr (2, [.ref h_p2_spelling, .ref h_p2_starts, .ref h_p2_newest, .ref h_p2_older, .int p2_count])), (h_p2_spelling, .inl (cB, 12288, .inl p2_spelling)), (h_p2_starts, .inl (cI, 4097, .inl p2_starts)), (h_p2_newest, .inl (cI, 1024, .inl p2_newest)), (h_p2_older, .inl (cI, 4096, .inl p2_older))]) ⟨hx, hb, hml, hown, hts⟩ hJ (c_Tr_tell h_p1 h_p1_kinds h_p1_places h_p1_values h_p1_sizes h_p1_partCounts h_p1_wholes p1_kinds p1_places p1_values p1_sizes p1_partCounts p1_wholes p1_count l3 (2 : Int32) ho55) (cwV 2 hts (jgV jw379 jw381 jw382 jw153 jw380) rfl rfl rfl dd_Tr_tell ⟨Nat.le_of_ble_eq_true rfl, Nat.le_of_ble_eq_true rfl⟩) hP hD hS hA (va_recv hK hP (ci := 5) (q0 := 10) rfl rfl) [10, 11, 12, 13, 14, 15, 16] [0, 1, 2, 3, 4, 5, 6, 7, 8, 9] rfl rfl (by decide) (by decide) (by decide) rfl hl.1 rfl (Nat.le_of_ble_eq_true rfl) d_Wr_enter_76 ⟨Nat.le_of_ble_eq_true rfl, Nat.le_of_ble_eq_true rfl⟩ (fun qz56 H locs hP hD hS => ?_)
          have hP : va_P (dC, dI) vwCl [(h_t, .inr (6, [.ref h_t_shown, .ref h_t_draft])), (h_t_shown, .inr (0, [.ref h_t_shown_row, .int t_shown_length, .int t_shown_overrun])), (h_t_shown_row, .inl (cB, 8000, .inl t_shown_row)), (h_t_draft, .inr (0, [.ref h_t_draft_row, .int t_draft_length, .int t_draft_overrun])), (h_t_draft_row, .inl (cB, 8000, .inl t_draft_row)), (h_p2, .inr (2, [.ref h_p2_spelling, .ref h_p2_starts, .ref h_p2_newest, .ref h_p2_older, .int p2_count])), (h_p2_spelling, .inl (cB, 12288, .inl p2_spelling)), (h_p2_starts, .inl (cI, 4097, .inl p2_starts)), (h_p2_newest, .inl (cI, 1024, .inl p2_newest)), (h_p2_older, .inl (cI, 4096, .inl p2_older)), (h_p1, .inr (5, [.ref h_p1_kinds, .ref h_p1_places, .ref h_p1_values, .ref h_p1_sizes, .ref h_p1_partCounts, .ref h_p1_wholes, .int p1_count])), (h_p1_kinds, .inl (cI, 8001, .inl p1_kinds)), (h_p1_places, .inl (cI, 8001, .inl p1_places)), (h_p1_values, .inl (cI, 8001, .inl p1_values)), (h_p1_sizes, .inl (cI, 8001, .inl p1_sizes)), (h_p1_partCounts, .inl (cI, 8001, .inl p1_partCounts)), (h_p1_wholes, .inl (cI, 8001, .inl p1_wholes))] H := hP
          have hD : va_D A [(h_t, .inr (6, [.ref h_t_shown, .ref h_t_draft])), (h_t_shown, .inr (0, [.ref h_t_shown_row, .int t_shown_length, .int t_shown_overrun])), (h_t_shown_row, .inl (cB, 8000, .inl t_shown_row)), (h_t_draft, .inr (0, [.ref h_t_draft_row, .int t_draft_length, .int t_draft_overrun])), (h_t_draft_row, .inl (cB, 8000, .inl t_draft_row)), (h_p2, .inr (2, [.ref h_p2_spelling, .ref h_p2_starts, .ref h_p2_newest, .ref h_p2_older, .int p2_count])), (h_p2_spelling, .inl (cB, 12288, .inl p2_spelling)), (h_p2_starts, .inl (cI, 4097, .inl p2_starts)), (h_p2_newest, .inl (cI, 1024, .inl p2_newest)), (h_p2_older, .inl (cI, 4096, .inl p2_older)), (h_p1, .inr (5, [.ref h_p1_kinds, .ref h_p1_places, .ref h_p1_values, .ref h_p1_sizes, .ref h_p1_partCounts, .ref h_p1_wholes, .int p1_count])), (h_p1_kinds, .inl (cI, 8001, .inl p1_kinds)), (h_p1_places, .inl (cI, 8001, .inl p1_places)), (h_p1_values, .inl (cI, 8001, .inl p1_values)), (h_p1_sizes, .inl (cI, 8001, .inl p1_sizes)), (h_p1_partCounts, .inl (cI, 8001, .inl p1_partCounts)), (h_p1_wholes, .inl (cI, 8001, .inl p1_wholes))] := hD
          obtain ⟨o57, ho57⟩ : ∃ z, f_Wr_putSort t_draft_row t_draft_length t_draft_overrun o55 = some z := by
            cases hz : f_Wr_putSort t_draft_row t_draft_length t_draft_overrun o55 with
            | none => rw [hz] at hf; simp only [jb_none, jl_b_none, jm_none, reduceCtorEq] at hf
            | some z => exact ⟨z, rfl⟩
          rw [ho57, jb_some] at hf
          refine jCallV (As := [.int o55]) (rest := []) (wr := [(h_p2, .inr (2, [.ref h_p2_spelling, .ref h_p2_starts, .ref h_p2_newest, .ref h_p2_older, .int p2_count])), (h_p2_spelling, .inl (cB, 12288, .inl p2_spelling)), (h_p2_starts, .inl (cI, 4097, .inl p2_starts)), (h_p2_newest, .inl (cI, 1024, .inl p2_newest)), (h_p2_older, .inl (cI, 4096, .inl p2_older)), (h_p1, .inr (5, [.ref h_p1_kinds, .ref h_p1_places, .ref h_p1_values, .ref h_p1_sizes, .ref h_p1_partCounts, .ref h_p1_wholes, .int p1_count])), (h_p1_kinds, .inl (cI, 8001, .inl p1_kinds)), (h_p1_places, .inl (cI, 8001, .inl p1_places)), (h_p1_values, .inl (cI, 8001, .inl p1_values)), (h_p1_sizes, .inl (cI, 8001, .inl p1_sizes)), (h_p1_partCounts, .inl (cI, 8001, .inl p1_partCounts)), (h_p1_wholes, .inl (cI, 8001, .inl p1_wholes))]) ⟨hx, hb, hml, hown, hts⟩ hJ (c_Wr_putSort h_t h_t_shown h_t_shown_row h_t_draft h_t_draft_row t_shown_row t_shown_length t_shown_overrun t_draft_row t_draft_length t_draft_overrun o55 ho57) (cwV 1 hts (jgV jw406 jw408 jw409 jw356 jw407) rfl rfl rfl dd_Wr_putSort ⟨Nat.le_of_ble_eq_true rfl, Nat.le_of_ble_eq_true rfl⟩) hP hD hS hA (va_recv hK hP (ci := 6) (q0 := 0) rfl rfl) [0, 1, 2, 3, 4] [5, 6, 7, 8, 9, 10, 11, 12, 13, 14, 15, 16] rfl rfl (by decide) (by decide) (by decide) rfl hl.1 rfl (Nat.le_of_ble_eq_true rfl) d_Wr_enter_79 ⟨Nat.le_of_ble_eq_true rfl, Nat.le_of_ble_eq_true rfl⟩ (fun qz58 H locs hP hD hS => ?_)
          have hP : va_P (dC, dI) vwCl [(h_p2, .inr (2, [.ref h_p2_spelling, .ref h_p2_starts, .ref h_p2_newest, .ref h_p2_older, .int p2_count])), (h_p2_spelling, .inl (cB, 12288, .inl p2_spelling)), (h_p2_starts, .inl (cI, 4097, .inl p2_starts)), (h_p2_newest, .inl (cI, 1024, .inl p2_newest)), (h_p2_older, .inl (cI, 4096, .inl p2_older)), (h_p1, .inr (5, [.ref h_p1_kinds, .ref h_p1_places, .ref h_p1_values, .ref h_p1_sizes, .ref h_p1_partCounts, .ref h_p1_wholes, .int p1_count])), (h_p1_kinds, .inl (cI, 8001, .inl p1_kinds)), (h_p1_places, .inl (cI, 8001, .inl p1_places)), (h_p1_values, .inl (cI, 8001, .inl p1_values)), (h_p1_sizes, .inl (cI, 8001, .inl p1_sizes)), (h_p1_partCounts, .inl (cI, 8001, .inl p1_partCounts)), (h_p1_wholes, .inl (cI, 8001, .inl p1_wholes)), (h_t, .inr (6, [.ref h_t_shown, .ref h_t_draft])), (h_t_shown, .inr (0, [.ref h_t_shown_row, .int t_shown_length, .int t_shown_overrun])), (h_t_shown_row, .inl (cB, 8000, .inl t_shown_row)), (h_t_draft, .inr (0, [.ref h_t_draft_row, .int o57.2.1, .int o57.2.2])), (h_t_draft_row, .inl (cB, 8000, .inl o57.1))] H := hP
          have hD : va_D A [(h_p2, .inr (2, [.ref h_p2_spelling, .ref h_p2_starts, .ref h_p2_newest, .ref h_p2_older, .int p2_count])), (h_p2_spelling, .inl (cB, 12288, .inl p2_spelling)), (h_p2_starts, .inl (cI, 4097, .inl p2_starts)), (h_p2_newest, .inl (cI, 1024, .inl p2_newest)), (h_p2_older, .inl (cI, 4096, .inl p2_older)), (h_p1, .inr (5, [.ref h_p1_kinds, .ref h_p1_places, .ref h_p1_values, .ref h_p1_sizes, .ref h_p1_partCounts, .ref h_p1_wholes, .int p1_count])), (h_p1_kinds, .inl (cI, 8001, .inl p1_kinds)), (h_p1_places, .inl (cI, 8001, .inl p1_places)), (h_p1_values, .inl (cI, 8001, .inl p1_values)), (h_p1_sizes, .inl (cI, 8001, .inl p1_sizes)), (h_p1_partCounts, .inl (cI, 8001, .inl p1_partCounts)), (h_p1_wholes, .inl (cI, 8001, .inl p1_wholes)), (h_t, .inr (6, [.ref h_t_shown, .ref h_t_draft])), (h_t_shown, .inr (0, [.ref h_t_shown_row, .int t_shown_length, .int t_shown_overrun])), (h_t_shown_row, .inl (cB, 8000, .inl t_shown_row)), (h_t_draft, .inr (0, [.ref h_t_draft_row, .int o57.2.1, .int o57.2.2])), (h_t_draft_row, .inl (cB, 8000, .inl o57.1))] := hD
          refine lv_goto (tgt := 94) hx hb d_Wr_enter_82 (by decide) ?_
          have hf : (some (o57.1, o57.2.1, o57.2.2) : Option ((Nat → Int32) × Int32 × Int32)) = some o := hf
          rw [hQ, ← Option.some.inj hf]
          exact jVret hx hb hr hlocks d_Wr_enter_94 (fun _ => 0) hS (hP.sub [12, 13, 14, 15, 16, 5, 6, 7, 8, 9, 10, 11, 0, 1, 2, 3, 4] rfl) (hD.sub [12, 13, 14, 15, 16, 5, 6, 7, 8, 9, 10, 11, 0, 1, 2, 3, 4] (by decide) rfl)
      · rw [if_pos c48] at hf
        exact B51 t_draft_row t_draft_length t_draft_overrun l3 H locs ls hf (hP.sub [0, 1, 2, 3, 4, 10, 11, 12, 13, 14, 15, 16, 5, 6, 7, 8, 9] rfl) (hD.sub [0, 1, 2, 3, 4, 10, 11, 12, 13, 14, 15, 16, 5, 6, 7, 8, 9] (by decide) rfl) hS (lv_sub hl [1, 2, 3, 4] rfl)
  have B14 : ∀ (t_draft_row : (Nat → Int32)) (t_draft_length : Int32) (t_draft_overrun : Int32) (l3 : Int32) (l4 : Int32) (H : Heap) (locs : List Loc) (ls : Array Slot), Wr_enter_b14 p1_kinds p1_places p1_values p1_sizes p1_partCounts p1_wholes p1_count p2_spelling p2_starts p2_count t_draft_row t_draft_length t_draft_overrun l3 l4 = some o → va_P (dC, dI) vwCl [(h_t, .inr (6, [.ref h_t_shown, .ref h_t_draft])), (h_t_shown, .inr (0, [.ref h_t_shown_row, .int t_shown_length, .int t_shown_overrun])), (h_t_shown_row, .inl (cB, 8000, .inl t_shown_row)), (h_t_draft, .inr (0, [.ref h_t_draft_row, .int t_draft_length, .int t_draft_overrun])), (h_t_draft_row, .inl (cB, 8000, .inl t_draft_row)), (h_p1, .inr (5, [.ref h_p1_kinds, .ref h_p1_places, .ref h_p1_values, .ref h_p1_sizes, .ref h_p1_partCounts, .ref h_p1_wholes, .int p1_count])), (h_p1_kinds, .inl (cI, 8001, .inl p1_kinds)), (h_p1_places, .inl (cI, 8001, .inl p1_places)), (h_p1_values, .inl (cI, 8001, .inl p1_values)), (h_p1_sizes, .inl (cI, 8001, .inl p1_sizes)), (h_p1_partCounts, .inl (cI, 8001, .inl p1_partCounts)), (h_p1_wholes, .inl (cI, 8001, .inl p1_wholes)), (h_p2, .inr (2, [.ref h_p2_spelling, .ref h_p2_starts, .ref h_p2_newest, .ref h_p2_older, .int p2_count])), (h_p2_spelling, .inl (cB, 12288, .inl p2_spelling)), (h_p2_starts, .inl (cI, 4097, .inl p2_starts)), (h_p2_newest, .inl (cI, 1024, .inl p2_newest)), (h_p2_older, .inl (cI, 4096, .inl p2_older))] H → va_D A [(h_t, .inr (6, [.ref h_t_shown, .ref h_t_draft])), (h_t_shown, .inr (0, [.ref h_t_shown_row, .int t_shown_length, .int t_shown_overrun])), (h_t_shown_row, .inl (cB, 8000, .inl t_shown_row)), (h_t_draft, .inr (0, [.ref h_t_draft_row, .int t_draft_length, .int t_draft_overrun])), (h_t_draft_row, .inl (cB, 8000, .inl t_draft_row)), (h_p1, .inr (5, [.ref h_p1_kinds, .ref h_p1_places, .ref h_p1_values, .ref h_p1_sizes, .ref h_p1_partCounts, .ref h_p1_wholes, .int p1_count])), (h_p1_kinds, .inl (cI, 8001, .inl p1_kinds)), (h_p1_places, .inl (cI, 8001, .inl p1_places)), (h_p1_values, .inl (cI, 8001, .inl p1_values)), (h_p1_sizes, .inl (cI, 8001, .inl p1_sizes)), (h_p1_partCounts, .inl (cI, 8001, .inl p1_partCounts)), (h_p1_wholes, .inl (cI, 8001, .inl p1_wholes)), (h_p2, .inr (2, [.ref h_p2_spelling, .ref h_p2_starts, .ref h_p2_newest, .ref h_p2_older, .int p2_count])), (h_p2_spelling, .inl (cB, 12288, .inl p2_spelling)), (h_p2_starts, .inl (cI, 4097, .inl p2_starts)), (h_p2_newest, .inl (cI, 1024, .inl p2_newest)), (h_p2_older, .inl (cI, 4096, .inl p2_older))] → va_S A s.heap H locs → lv_has ls 6 [(0, .ref h_t), (1, .ref h_p1), (2, .ref h_p2), (3, .int l3), (4, .int l4)] → W p l e { frames := 6, cells := 0, slots := 0, locals := 129 } s m args below meth c H locs 0 0 Q (F0 m 14 ls []) := by
    intro t_draft_row t_draft_length t_draft_overrun l3 l4 H locs ls hf hP hD hS hl
    unfold Wr_enter_b14 at hf
    refine lv_aload_n hx hb d_Wr_enter_14 rfl (lv_at hl 1 rfl) ?_
    refine lv_iload_n hx hb d_Wr_enter_15 rfl (lv_at hl 3 rfl) ?_
    refine lv_iload hx hb d_Wr_enter_16 (lv_at hl 4 rfl) ?_
    obtain ⟨o59, ho59⟩ : ∃ z, f_Wr_hasBrackets p1_kinds p1_places p1_values p1_sizes p1_partCounts p1_wholes p1_count l3 l4 = some z := by
      cases hz : f_Wr_hasBrackets p1_kinds p1_places p1_values p1_sizes p1_partCounts p1_wholes p1_count l3 l4 with
      | none => rw [hz] at hf; simp only [jb_none, jl_b_none, jm_none, reduceCtorEq] at hf
      | some z => exact ⟨z, rfl⟩
    rw [ho59, jb_some] at hf
    refine jCallS (As := [.ref h_p1, .int l3, .int l4]) (rest := []) (wr := [(h_t, .inr (6, [.ref h_t_shown, .ref h_t_draft])), (h_t_shown, .inr (0, [.ref h_t_shown_row, .int t_shown_length, .int t_shown_overrun])), (h_t_shown_row, .inl (cB, 8000, .inl t_shown_row)), (h_t_draft, .inr (0, [.ref h_t_draft_row, .int t_draft_length, .int t_draft_overrun])), (h_t_draft_row, .inl (cB, 8000, .inl t_draft_row)), (h_p2, .inr (2, [.ref h_p2_spelling, .ref h_p2_starts, .ref h_p2_newest, .ref h_p2_older, .int p2_count])), (h_p2_spelling, .inl (cB, 12288, .inl p2_spelling)), (h_p2_starts, .inl (cI, 4097, .inl p2_starts)), (h_p2_newest, .inl (cI, 1024, .inl p2_newest)), (h_p2_older, .inl (cI, 4096, .inl p2_older))]) ⟨hx, hb, hml, hown, hts⟩ hJ (c_Wr_hasBrackets h_p1 h_p1_kinds h_p1_places h_p1_values h_p1_sizes h_p1_partCounts h_p1_wholes p1_kinds p1_places p1_values p1_sizes p1_partCounts p1_wholes p1_count l3 l4 ho59) (va_cwS 3 hts (jgS jw390 jw392 jw356 jw391) rfl rfl rfl dd_Wr_hasBrackets.2 ⟨Nat.le_of_ble_eq_true rfl, Nat.le_of_ble_eq_true rfl⟩) hP hD hS hA [5, 6, 7, 8, 9, 10, 11] [0, 1, 2, 3, 4, 12, 13, 14, 15, 16] rfl rfl (by decide) (by decide) (by decide) rfl hl.1 rfl (Nat.le_of_ble_eq_true rfl) d_Wr_enter_18 ⟨Nat.le_of_ble_eq_true rfl, Nat.le_of_ble_eq_true rfl⟩ (fun qz60 H locs hP hD hS => ?_)
    have hP : va_P (dC, dI) vwCl [(h_t, .inr (6, [.ref h_t_shown, .ref h_t_draft])), (h_t_shown, .inr (0, [.ref h_t_shown_row, .int t_shown_length, .int t_shown_overrun])), (h_t_shown_row, .inl (cB, 8000, .inl t_shown_row)), (h_t_draft, .inr (0, [.ref h_t_draft_row, .int t_draft_length, .int t_draft_overrun])), (h_t_draft_row, .inl (cB, 8000, .inl t_draft_row)), (h_p2, .inr (2, [.ref h_p2_spelling, .ref h_p2_starts, .ref h_p2_newest, .ref h_p2_older, .int p2_count])), (h_p2_spelling, .inl (cB, 12288, .inl p2_spelling)), (h_p2_starts, .inl (cI, 4097, .inl p2_starts)), (h_p2_newest, .inl (cI, 1024, .inl p2_newest)), (h_p2_older, .inl (cI, 4096, .inl p2_older)), (h_p1, .inr (5, [.ref h_p1_kinds, .ref h_p1_places, .ref h_p1_values, .ref h_p1_sizes, .ref h_p1_partCounts, .ref h_p1_wholes, .int p1_count])), (h_p1_kinds, .inl (cI, 8001, .inl p1_kinds)), (h_p1_places, .inl (cI, 8001, .inl p1_places)), (h_p1_values, .inl (cI, 8001, .inl p1_values)), (h_p1_sizes, .inl (cI, 8001, .inl p1_sizes)), (h_p1_partCounts, .inl (cI, 8001, .inl p1_partCounts)), (h_p1_wholes, .inl (cI, 8001, .inl p1_wholes))] H := hP
    have hD : va_D A [(h_t, .inr (6, [.ref h_t_shown, .ref h_t_draft])), (h_t_shown, .inr (0, [.ref h_t_shown_row, .int t_shown_length, .int t_shown_overrun])), (h_t_shown_row, .inl (cB, 8000, .inl t_shown_row)), (h_t_draft, .inr (0, [.ref h_t_draft_row, .int t_draft_length, .int t_draft_overrun])), (h_t_draft_row, .inl (cB, 8000, .inl t_draft_row)), (h_p2, .inr (2, [.ref h_p2_spelling, .ref h_p2_starts, .ref h_p2_newest, .ref h_p2_older, .int p2_count])), (h_p2_spelling, .inl (cB, 12288, .inl p2_spelling)), (h_p2_starts, .inl (cI, 4097, .inl p2_starts)), (h_p2_newest, .inl (cI, 1024, .inl p2_newest)), (h_p2_older, .inl (cI, 4096, .inl p2_older)), (h_p1, .inr (5, [.ref h_p1_kinds, .ref h_p1_places, .ref h_p1_values, .ref h_p1_sizes, .ref h_p1_partCounts, .ref h_p1_wholes, .int p1_count])), (h_p1_kinds, .inl (cI, 8001, .inl p1_kinds)), (h_p1_places, .inl (cI, 8001, .inl p1_places)), (h_p1_values, .inl (cI, 8001, .inl p1_values)), (h_p1_sizes, .inl (cI, 8001, .inl p1_sizes)), (h_p1_partCounts, .inl (cI, 8001, .inl p1_partCounts)), (h_p1_wholes, .inl (cI, 8001, .inl p1_wholes))] := hD
    refine lv_if_eq (tgt := 30) hx hb d_Wr_enter_21 (by decide) (fun c21 => ?_) (fun c21 => ?_)
    · rw [if_pos c21] at hf
      exact B30 t_draft_row t_draft_length t_draft_overrun l3 H locs ls hf (hP.sub [0, 1, 2, 3, 4, 10, 11, 12, 13, 14, 15, 16, 5, 6, 7, 8, 9] rfl) (hD.sub [0, 1, 2, 3, 4, 10, 11, 12, 13, 14, 15, 16, 5, 6, 7, 8, 9] (by decide) rfl) hS (lv_sub hl [0, 1, 2, 3] rfl)
    · rw [if_neg c21] at hf
      refine lv_aload_n hx hb d_Wr_enter_24 rfl (lv_at hl 0 rfl) ?_
      refine lv_bipush (v := (15 : Int32)) hx hb d_Wr_enter_25 (by decide) ?_
      obtain ⟨o61, ho61⟩ : ∃ z, f_Wr_putToken t_draft_row t_draft_length t_draft_overrun (15 : Int32) = some z := by
        cases hz : f_Wr_putToken t_draft_row t_draft_length t_draft_overrun (15 : Int32) with
        | none => rw [hz] at hf; simp only [jb_none, jl_b_none, jm_none, reduceCtorEq] at hf
        | some z => exact ⟨z, rfl⟩
      rw [ho61, jb_some] at hf
      refine jCallV (As := [.int (15 : Int32)]) (rest := []) (wr := [(h_p2, .inr (2, [.ref h_p2_spelling, .ref h_p2_starts, .ref h_p2_newest, .ref h_p2_older, .int p2_count])), (h_p2_spelling, .inl (cB, 12288, .inl p2_spelling)), (h_p2_starts, .inl (cI, 4097, .inl p2_starts)), (h_p2_newest, .inl (cI, 1024, .inl p2_newest)), (h_p2_older, .inl (cI, 4096, .inl p2_older)), (h_p1, .inr (5, [.ref h_p1_kinds, .ref h_p1_places, .ref h_p1_values, .ref h_p1_sizes, .ref h_p1_partCounts, .ref h_p1_wholes, .int p1_count])), (h_p1_kinds, .inl (cI, 8001, .inl p1_kinds)), (h_p1_places, .inl (cI, 8001, .inl p1_places)), (h_p1_values, .inl (cI, 8001, .inl p1_values)), (h_p1_sizes, .inl (cI, 8001, .inl p1_sizes)), (h_p1_partCounts, .inl (cI, 8001, .inl p1_partCounts)), (h_p1_wholes, .inl (cI, 8001, .inl p1_wholes))]) ⟨hx, hb, hml, hown, hts⟩ hJ (c_Wr_putToken h_t h_t_shown h_t_shown_row h_t_draft h_t_draft_row t_shown_row t_shown_length t_shown_overrun t_draft_row t_draft_length t_draft_overrun (15 : Int32) ho61) (cwV 1 hts (jgV jw393 jw395 jw396 jw356 jw394) rfl rfl rfl dd_Wr_putToken ⟨Nat.le_of_ble_eq_true rfl, Nat.le_of_ble_eq_true rfl⟩) hP hD hS hA (va_recv hK hP (ci := 6) (q0 := 0) rfl rfl) [0, 1, 2, 3, 4] [5, 6, 7, 8, 9, 10, 11, 12, 13, 14, 15, 16] rfl rfl (by decide) (by decide) (by decide) rfl hl.1 rfl (Nat.le_of_ble_eq_true rfl) d_Wr_enter_27 ⟨Nat.le_of_ble_eq_true rfl, Nat.le_of_ble_eq_true rfl⟩ (fun qz62 H locs hP hD hS => ?_)
      have hP : va_P (dC, dI) vwCl [(h_p2, .inr (2, [.ref h_p2_spelling, .ref h_p2_starts, .ref h_p2_newest, .ref h_p2_older, .int p2_count])), (h_p2_spelling, .inl (cB, 12288, .inl p2_spelling)), (h_p2_starts, .inl (cI, 4097, .inl p2_starts)), (h_p2_newest, .inl (cI, 1024, .inl p2_newest)), (h_p2_older, .inl (cI, 4096, .inl p2_older)), (h_p1, .inr (5, [.ref h_p1_kinds, .ref h_p1_places, .ref h_p1_values, .ref h_p1_sizes, .ref h_p1_partCounts, .ref h_p1_wholes, .int p1_count])), (h_p1_kinds, .inl (cI, 8001, .inl p1_kinds)), (h_p1_places, .inl (cI, 8001, .inl p1_places)), (h_p1_values, .inl (cI, 8001, .inl p1_values)), (h_p1_sizes, .inl (cI, 8001, .inl p1_sizes)), (h_p1_partCounts, .inl (cI, 8001, .inl p1_partCounts)), (h_p1_wholes, .inl (cI, 8001, .inl p1_wholes)), (h_t, .inr (6, [.ref h_t_shown, .ref h_t_draft])), (h_t_shown, .inr (0, [.ref h_t_shown_row, .int t_shown_length, .int t_shown_overrun])), (h_t_shown_row, .inl (cB, 8000, .inl t_shown_row)), (h_t_draft, .inr (0, [.ref h_t_draft_row, .int o61.2.1, .int o61.2.2])), (h_t_draft_row, .inl (cB, 8000, .inl o61.1))] H := hP
      have hD : va_D A [(h_p2, .inr (2, [.ref h_p2_spelling, .ref h_p2_starts, .ref h_p2_newest, .ref h_p2_older, .int p2_count])), (h_p2_spelling, .inl (cB, 12288, .inl p2_spelling)), (h_p2_starts, .inl (cI, 4097, .inl p2_starts)), (h_p2_newest, .inl (cI, 1024, .inl p2_newest)), (h_p2_older, .inl (cI, 4096, .inl p2_older)), (h_p1, .inr (5, [.ref h_p1_kinds, .ref h_p1_places, .ref h_p1_values, .ref h_p1_sizes, .ref h_p1_partCounts, .ref h_p1_wholes, .int p1_count])), (h_p1_kinds, .inl (cI, 8001, .inl p1_kinds)), (h_p1_places, .inl (cI, 8001, .inl p1_places)), (h_p1_values, .inl (cI, 8001, .inl p1_values)), (h_p1_sizes, .inl (cI, 8001, .inl p1_sizes)), (h_p1_partCounts, .inl (cI, 8001, .inl p1_partCounts)), (h_p1_wholes, .inl (cI, 8001, .inl p1_wholes)), (h_t, .inr (6, [.ref h_t_shown, .ref h_t_draft])), (h_t_shown, .inr (0, [.ref h_t_shown_row, .int t_shown_length, .int t_shown_overrun])), (h_t_shown_row, .inl (cB, 8000, .inl t_shown_row)), (h_t_draft, .inr (0, [.ref h_t_draft_row, .int o61.2.1, .int o61.2.2])), (h_t_draft_row, .inl (cB, 8000, .inl o61.1))] := hD
      exact B30 o61.1 o61.2.1 o61.2.2 l3 H locs ls hf (hP.sub [12, 13, 14, 15, 16, 5, 6, 7, 8, 9, 10, 11, 0, 1, 2, 3, 4] rfl) (hD.sub [12, 13, 14, 15, 16, 5, 6, 7, 8, 9, 10, 11, 0, 1, 2, 3, 4] (by decide) rfl) hS (lv_sub hl [0, 1, 2, 3] rfl)
  unfold f_Wr_enter at hf
  refine lv_iload hx hb d_Wr_enter_0 (lv_at hl 4 rfl) ?_
  refine lv_if_ne (tgt := 14) hx hb d_Wr_enter_2 (by decide) (fun c2 => ?_) (fun c2 => ?_)
  · rw [if_neg c2] at hf
    exact B14 t_draft_row t_draft_length t_draft_overrun a3 a4 H locs ls hf hP hD hS (lv_sub hl [0, 1, 2, 3, 4] rfl)
  · rw [if_pos c2] at hf
    refine lv_aload_n hx hb d_Wr_enter_5 rfl (lv_at hl 0 rfl) ?_
    refine lv_aload_n hx hb d_Wr_enter_6 rfl (lv_at hl 1 rfl) ?_
    refine lv_iload_n hx hb d_Wr_enter_7 rfl (lv_at hl 3 rfl) ?_
    obtain ⟨o63, ho63⟩ : ∃ z, f_Wr_tokenBefore p1_kinds p1_sizes p1_wholes p1_count a3 = some z := by
      cases hz : f_Wr_tokenBefore p1_kinds p1_sizes p1_wholes p1_count a3 with
      | none => rw [hz] at hf; simp only [jb_none, jl_b_none, jm_none, reduceCtorEq] at hf
      | some z => exact ⟨z, rfl⟩
    rw [ho63, jb_some] at hf
    refine jCallS (As := [.ref h_p1, .int a3]) (rest := [.ref h_t]) (wr := [(h_t, .inr (6, [.ref h_t_shown, .ref h_t_draft])), (h_t_shown, .inr (0, [.ref h_t_shown_row, .int t_shown_length, .int t_shown_overrun])), (h_t_shown_row, .inl (cB, 8000, .inl t_shown_row)), (h_t_draft, .inr (0, [.ref h_t_draft_row, .int t_draft_length, .int t_draft_overrun])), (h_t_draft_row, .inl (cB, 8000, .inl t_draft_row)), (h_p2, .inr (2, [.ref h_p2_spelling, .ref h_p2_starts, .ref h_p2_newest, .ref h_p2_older, .int p2_count])), (h_p2_spelling, .inl (cB, 12288, .inl p2_spelling)), (h_p2_starts, .inl (cI, 4097, .inl p2_starts)), (h_p2_newest, .inl (cI, 1024, .inl p2_newest)), (h_p2_older, .inl (cI, 4096, .inl p2_older))]) ⟨hx, hb, hml, hown, hts⟩ hJ (c_Wr_tokenBefore h_p1 h_p1_kinds h_p1_places h_p1_values h_p1_sizes h_p1_partCounts h_p1_wholes p1_kinds p1_places p1_values p1_sizes p1_partCounts p1_wholes p1_count a3 ho63) (va_cwS 2 hts (jgS jw400 jw402 jw356 jw401) rfl rfl rfl dd_Wr_tokenBefore.2 ⟨Nat.le_of_ble_eq_true rfl, Nat.le_of_ble_eq_true rfl⟩) hP hD hS hA [5, 6, 7, 8, 9, 10, 11] [0, 1, 2, 3, 4, 12, 13, 14, 15, 16] rfl rfl (by decide) (by decide) (by decide) rfl hl.1 rfl (Nat.le_of_ble_eq_true rfl) d_Wr_enter_8 ⟨Nat.le_of_ble_eq_true rfl, Nat.le_of_ble_eq_true rfl⟩ (fun qz64 H locs hP hD hS => ?_)
    have hP : va_P (dC, dI) vwCl [(h_t, .inr (6, [.ref h_t_shown, .ref h_t_draft])), (h_t_shown, .inr (0, [.ref h_t_shown_row, .int t_shown_length, .int t_shown_overrun])), (h_t_shown_row, .inl (cB, 8000, .inl t_shown_row)), (h_t_draft, .inr (0, [.ref h_t_draft_row, .int t_draft_length, .int t_draft_overrun])), (h_t_draft_row, .inl (cB, 8000, .inl t_draft_row)), (h_p2, .inr (2, [.ref h_p2_spelling, .ref h_p2_starts, .ref h_p2_newest, .ref h_p2_older, .int p2_count])), (h_p2_spelling, .inl (cB, 12288, .inl p2_spelling)), (h_p2_starts, .inl (cI, 4097, .inl p2_starts)), (h_p2_newest, .inl (cI, 1024, .inl p2_newest)), (h_p2_older, .inl (cI, 4096, .inl p2_older)), (h_p1, .inr (5, [.ref h_p1_kinds, .ref h_p1_places, .ref h_p1_values, .ref h_p1_sizes, .ref h_p1_partCounts, .ref h_p1_wholes, .int p1_count])), (h_p1_kinds, .inl (cI, 8001, .inl p1_kinds)), (h_p1_places, .inl (cI, 8001, .inl p1_places)), (h_p1_values, .inl (cI, 8001, .inl p1_values)), (h_p1_sizes, .inl (cI, 8001, .inl p1_sizes)), (h_p1_partCounts, .inl (cI, 8001, .inl p1_partCounts)), (h_p1_wholes, .inl (cI, 8001, .inl p1_wholes))] H := hP
    have hD : va_D A [(h_t, .inr (6, [.ref h_t_shown, .ref h_t_draft])), (h_t_shown, .inr (0, [.ref h_t_shown_row, .int t_shown_length, .int t_shown_overrun])), (h_t_shown_row, .inl (cB, 8000, .inl t_shown_row)), (h_t_draft, .inr (0, [.ref h_t_draft_row, .int t_draft_length, .int t_draft_overrun])), (h_t_draft_row, .inl (cB, 8000, .inl t_draft_row)), (h_p2, .inr (2, [.ref h_p2_spelling, .ref h_p2_starts, .ref h_p2_newest, .ref h_p2_older, .int p2_count])), (h_p2_spelling, .inl (cB, 12288, .inl p2_spelling)), (h_p2_starts, .inl (cI, 4097, .inl p2_starts)), (h_p2_newest, .inl (cI, 1024, .inl p2_newest)), (h_p2_older, .inl (cI, 4096, .inl p2_older)), (h_p1, .inr (5, [.ref h_p1_kinds, .ref h_p1_places, .ref h_p1_values, .ref h_p1_sizes, .ref h_p1_partCounts, .ref h_p1_wholes, .int p1_count])), (h_p1_kinds, .inl (cI, 8001, .inl p1_kinds)), (h_p1_places, .inl (cI, 8001, .inl p1_places)), (h_p1_values, .inl (cI, 8001, .inl p1_values)), (h_p1_sizes, .inl (cI, 8001, .inl p1_sizes)), (h_p1_partCounts, .inl (cI, 8001, .inl p1_partCounts)), (h_p1_wholes, .inl (cI, 8001, .inl p1_wholes))] := hD
    obtain ⟨o65, ho65⟩ : ∃ z, f_Wr_putToken t_draft_row t_draft_length t_draft_overrun o63 = some z := by
      cases hz : f_Wr_putToken t_draft_row t_draft_length t_draft_overrun o63 with
      | none => rw [hz] at hf; simp only [jb_none, jl_b_none, jm_none, reduceCtorEq] at hf
      | some z => exact ⟨z, rfl⟩
    rw [ho65, jb_some] at hf
    refine jCallV (As := [.int o63]) (rest := []) (wr := [(h_p2, .inr (2, [.ref h_p2_spelling, .ref h_p2_starts, .ref h_p2_newest, .ref h_p2_older, .int p2_count])), (h_p2_spelling, .inl (cB, 12288, .inl p2_spelling)), (h_p2_starts, .inl (cI, 4097, .inl p2_starts)), (h_p2_newest, .inl (cI, 1024, .inl p2_newest)), (h_p2_older, .inl (cI, 4096, .inl p2_older)), (h_p1, .inr (5, [.ref h_p1_kinds, .ref h_p1_places, .ref h_p1_values, .ref h_p1_sizes, .ref h_p1_partCounts, .ref h_p1_wholes, .int p1_count])), (h_p1_kinds, .inl (cI, 8001, .inl p1_kinds)), (h_p1_places, .inl (cI, 8001, .inl p1_places)), (h_p1_values, .inl (cI, 8001, .inl p1_values)), (h_p1_sizes, .inl (cI, 8001, .inl p1_sizes)), (h_p1_partCounts, .inl (cI, 8001, .inl p1_partCounts)), (h_p1_wholes, .inl (cI, 8001, .inl p1_wholes))]) ⟨hx, hb, hml, hown, hts⟩ hJ (c_Wr_putToken h_t h_t_shown h_t_shown_row h_t_draft h_t_draft_row t_shown_row t_shown_length t_shown_overrun t_draft_row t_draft_length t_draft_overrun o63 ho65) (cwV 1 hts (jgV jw393 jw395 jw396 jw356 jw394) rfl rfl rfl dd_Wr_putToken ⟨Nat.le_of_ble_eq_true rfl, Nat.le_of_ble_eq_true rfl⟩) hP hD hS hA (va_recv hK hP (ci := 6) (q0 := 0) rfl rfl) [0, 1, 2, 3, 4] [5, 6, 7, 8, 9, 10, 11, 12, 13, 14, 15, 16] rfl rfl (by decide) (by decide) (by decide) rfl hl.1 rfl (Nat.le_of_ble_eq_true rfl) d_Wr_enter_11 ⟨Nat.le_of_ble_eq_true rfl, Nat.le_of_ble_eq_true rfl⟩ (fun qz66 H locs hP hD hS => ?_)
    have hP : va_P (dC, dI) vwCl [(h_p2, .inr (2, [.ref h_p2_spelling, .ref h_p2_starts, .ref h_p2_newest, .ref h_p2_older, .int p2_count])), (h_p2_spelling, .inl (cB, 12288, .inl p2_spelling)), (h_p2_starts, .inl (cI, 4097, .inl p2_starts)), (h_p2_newest, .inl (cI, 1024, .inl p2_newest)), (h_p2_older, .inl (cI, 4096, .inl p2_older)), (h_p1, .inr (5, [.ref h_p1_kinds, .ref h_p1_places, .ref h_p1_values, .ref h_p1_sizes, .ref h_p1_partCounts, .ref h_p1_wholes, .int p1_count])), (h_p1_kinds, .inl (cI, 8001, .inl p1_kinds)), (h_p1_places, .inl (cI, 8001, .inl p1_places)), (h_p1_values, .inl (cI, 8001, .inl p1_values)), (h_p1_sizes, .inl (cI, 8001, .inl p1_sizes)), (h_p1_partCounts, .inl (cI, 8001, .inl p1_partCounts)), (h_p1_wholes, .inl (cI, 8001, .inl p1_wholes)), (h_t, .inr (6, [.ref h_t_shown, .ref h_t_draft])), (h_t_shown, .inr (0, [.ref h_t_shown_row, .int t_shown_length, .int t_shown_overrun])), (h_t_shown_row, .inl (cB, 8000, .inl t_shown_row)), (h_t_draft, .inr (0, [.ref h_t_draft_row, .int o65.2.1, .int o65.2.2])), (h_t_draft_row, .inl (cB, 8000, .inl o65.1))] H := hP
    have hD : va_D A [(h_p2, .inr (2, [.ref h_p2_spelling, .ref h_p2_starts, .ref h_p2_newest, .ref h_p2_older, .int p2_count])), (h_p2_spelling, .inl (cB, 12288, .inl p2_spelling)), (h_p2_starts, .inl (cI, 4097, .inl p2_starts)), (h_p2_newest, .inl (cI, 1024, .inl p2_newest)), (h_p2_older, .inl (cI, 4096, .inl p2_older)), (h_p1, .inr (5, [.ref h_p1_kinds, .ref h_p1_places, .ref h_p1_values, .ref h_p1_sizes, .ref h_p1_partCounts, .ref h_p1_wholes, .int p1_count])), (h_p1_kinds, .inl (cI, 8001, .inl p1_kinds)), (h_p1_places, .inl (cI, 8001, .inl p1_places)), (h_p1_values, .inl (cI, 8001, .inl p1_values)), (h_p1_sizes, .inl (cI, 8001, .inl p1_sizes)), (h_p1_partCounts, .inl (cI, 8001, .inl p1_partCounts)), (h_p1_wholes, .inl (cI, 8001, .inl p1_wholes)), (h_t, .inr (6, [.ref h_t_shown, .ref h_t_draft])), (h_t_shown, .inr (0, [.ref h_t_shown_row, .int t_shown_length, .int t_shown_overrun])), (h_t_shown_row, .inl (cB, 8000, .inl t_shown_row)), (h_t_draft, .inr (0, [.ref h_t_draft_row, .int o65.2.1, .int o65.2.2])), (h_t_draft_row, .inl (cB, 8000, .inl o65.1))] := hD
    exact B14 o65.1 o65.2.1 o65.2.2 a3 a4 H locs ls hf (hP.sub [12, 13, 14, 15, 16, 5, 6, 7, 8, 9, 10, 11, 0, 1, 2, 3, 4] rfl) (hD.sub [12, 13, 14, 15, 16, 5, 6, 7, 8, 9, 10, 11, 0, 1, 2, 3, 4] (by decide) rfl) hS (lv_sub hl [0, 1, 2, 3, 4] rfl)
theorem d_Wr_walk_0 : decode b_Wr_walk 0 = .ok (.iload_n 3, 1) := by decide +kernel
theorem d_Wr_walk_1 : decode b_Wr_walk 1 = .ok (.istore 4, 2) := by decide +kernel
theorem d_Wr_walk_3 : decode b_Wr_walk 3 = .ok (.iconst 1, 1) := by decide +kernel
theorem d_Wr_walk_4 : decode b_Wr_walk 4 = .ok (.istore 5, 2) := by decide +kernel
theorem d_Wr_walk_6 : decode b_Wr_walk 6 = .ok (.iconst 2, 1) := by decide +kernel
theorem d_Wr_walk_7 : decode b_Wr_walk 7 = .ok (.aload_n 1, 1) := by decide +kernel
theorem d_Wr_walk_8 : decode b_Wr_walk 8 = .ok (.iload_n 3, 1) := by decide +kernel
theorem d_Wr_walk_9 : decode b_Wr_walk 9 = .ok (.invokevirtual 36, 3) := by decide +kernel
theorem d_Wr_walk_12 : decode b_Wr_walk 12 = .ok (.imul, 1) := by decide +kernel
theorem d_Wr_walk_13 : decode b_Wr_walk 13 = .ok (.istore 6, 2) := by decide +kernel
theorem d_Wr_walk_15 : decode b_Wr_walk 15 = .ok (.iload 6, 2) := by decide +kernel
theorem d_Wr_walk_17 : decode b_Wr_walk 17 = .ok (.ifCond .le 138, 3) := by decide +kernel
theorem d_Wr_walk_20 : decode b_Wr_walk 20 = .ok (.aload_n 0, 1) := by decide +kernel
theorem d_Wr_walk_21 : decode b_Wr_walk 21 = .ok (.getfield 18, 3) := by decide +kernel
theorem d_Wr_walk_24 : decode b_Wr_walk 24 = .ok (.getfield 28, 3) := by decide +kernel
theorem d_Wr_walk_27 : decode b_Wr_walk 27 = .ok (.ifCond .ne 128, 3) := by decide +kernel
theorem d_Wr_walk_30 : decode b_Wr_walk 30 = .ok (.iload 4, 2) := by decide +kernel
theorem d_Wr_walk_32 : decode b_Wr_walk 32 = .ok (.iload_n 3, 1) := by decide +kernel
theorem d_Wr_walk_33 : decode b_Wr_walk 33 = .ok (.if_icmp .ne 7, 3) := by decide +kernel
theorem d_Wr_walk_36 : decode b_Wr_walk 36 = .ok (.iconst 1, 1) := by decide +kernel
theorem d_Wr_walk_37 : decode b_Wr_walk 37 = .ok (.goto 4, 3) := by decide +kernel
theorem d_Wr_walk_40 : decode b_Wr_walk 40 = .ok (.iconst 0, 1) := by decide +kernel
theorem d_Wr_walk_41 : decode b_Wr_walk 41 = .ok (.istore 7, 2) := by decide +kernel
theorem d_Wr_walk_43 : decode b_Wr_walk 43 = .ok (.iload 5, 2) := by decide +kernel
theorem d_Wr_walk_45 : decode b_Wr_walk 45 = .ok (.ifCond .eq 49, 3) := by decide +kernel
theorem d_Wr_walk_48 : decode b_Wr_walk 48 = .ok (.aload_n 0, 1) := by decide +kernel
theorem d_Wr_walk_49 : decode b_Wr_walk 49 = .ok (.aload_n 1, 1) := by decide +kernel
theorem d_Wr_walk_50 : decode b_Wr_walk 50 = .ok (.aload_n 2, 1) := by decide +kernel
theorem d_Wr_walk_51 : decode b_Wr_walk 51 = .ok (.iload 4, 2) := by decide +kernel
theorem d_Wr_walk_53 : decode b_Wr_walk 53 = .ok (.iload 7, 2) := by decide +kernel
theorem d_Wr_walk_55 : decode b_Wr_walk 55 = .ok (.invokevirtual 42, 3) := by decide +kernel
theorem d_Wr_walk_58 : decode b_Wr_walk 58 = .ok (.aload_n 1, 1) := by decide +kernel
theorem d_Wr_walk_59 : decode b_Wr_walk 59 = .ok (.iload 4, 2) := by decide +kernel
theorem d_Wr_walk_61 : decode b_Wr_walk 61 = .ok (.invokevirtual 36, 3) := by decide +kernel
theorem d_Wr_walk_64 : decode b_Wr_walk 64 = .ok (.iconst 1, 1) := by decide +kernel
theorem d_Wr_walk_65 : decode b_Wr_walk 65 = .ok (.if_icmp .le 7, 3) := by decide +kernel
theorem d_Wr_walk_68 : decode b_Wr_walk 68 = .ok (.iconst 1, 1) := by decide +kernel
theorem d_Wr_walk_69 : decode b_Wr_walk 69 = .ok (.goto 4, 3) := by decide +kernel
theorem d_Wr_walk_72 : decode b_Wr_walk 72 = .ok (.iconst 0, 1) := by decide +kernel
theorem d_Wr_walk_73 : decode b_Wr_walk 73 = .ok (.istore 5, 2) := by decide +kernel
theorem d_Wr_walk_75 : decode b_Wr_walk 75 = .ok (.iload 5, 2) := by decide +kernel
theorem d_Wr_walk_77 : decode b_Wr_walk 77 = .ok (.ifCond .eq 10, 3) := by decide +kernel
theorem d_Wr_walk_80 : decode b_Wr_walk 80 = .ok (.iload 4, 2) := by decide +kernel
theorem d_Wr_walk_82 : decode b_Wr_walk 82 = .ok (.iconst 1, 1) := by decide +kernel
theorem d_Wr_walk_83 : decode b_Wr_walk 83 = .ok (.iadd, 1) := by decide +kernel
theorem d_Wr_walk_84 : decode b_Wr_walk 84 = .ok (.goto 5, 3) := by decide +kernel
theorem d_Wr_walk_87 : decode b_Wr_walk 87 = .ok (.iload 4, 2) := by decide +kernel
theorem d_Wr_walk_89 : decode b_Wr_walk 89 = .ok (.istore 4, 2) := by decide +kernel
theorem d_Wr_walk_91 : decode b_Wr_walk 91 = .ok (.goto 58, 3) := by decide +kernel
theorem d_Wr_walk_94 : decode b_Wr_walk 94 = .ok (.aload_n 0, 1) := by decide +kernel
theorem d_Wr_walk_95 : decode b_Wr_walk 95 = .ok (.aload_n 1, 1) := by decide +kernel
theorem d_Wr_walk_96 : decode b_Wr_walk 96 = .ok (.iload 4, 2) := by decide +kernel
theorem d_Wr_walk_98 : decode b_Wr_walk 98 = .ok (.iload 7, 2) := by decide +kernel
theorem d_Wr_walk_100 : decode b_Wr_walk 100 = .ok (.invokevirtual 46, 3) := by decide +kernel
theorem d_Wr_walk_103 : decode b_Wr_walk 103 = .ok (.iload 7, 2) := by decide +kernel
theorem d_Wr_walk_105 : decode b_Wr_walk 105 = .ok (.ifCond .ne 16, 3) := by decide +kernel
theorem d_Wr_walk_108 : decode b_Wr_walk 108 = .ok (.aload_n 1, 1) := by decide +kernel
theorem d_Wr_walk_109 : decode b_Wr_walk 109 = .ok (.iload 4, 2) := by decide +kernel
theorem d_Wr_walk_111 : decode b_Wr_walk 111 = .ok (.invokevirtual 50, 3) := by decide +kernel
theorem d_Wr_walk_114 : decode b_Wr_walk 114 = .ok (.ifCond .ne 7, 3) := by decide +kernel
theorem d_Wr_walk_117 : decode b_Wr_walk 117 = .ok (.iconst 1, 1) := by decide +kernel
theorem d_Wr_walk_118 : decode b_Wr_walk 118 = .ok (.goto 4, 3) := by decide +kernel
theorem d_Wr_walk_121 : decode b_Wr_walk 121 = .ok (.iconst 0, 1) := by decide +kernel
theorem d_Wr_walk_122 : decode b_Wr_walk 122 = .ok (.istore 5, 2) := by decide +kernel
theorem d_Wr_walk_124 : decode b_Wr_walk 124 = .ok (.iload 5, 2) := by decide +kernel
theorem d_Wr_walk_126 : decode b_Wr_walk 126 = .ok (.ifCond .eq 15, 3) := by decide +kernel
theorem d_Wr_walk_129 : decode b_Wr_walk 129 = .ok (.iload 4, 2) := by decide +kernel
theorem d_Wr_walk_131 : decode b_Wr_walk 131 = .ok (.aload_n 1, 1) := by decide +kernel
theorem d_Wr_walk_132 : decode b_Wr_walk 132 = .ok (.iload 4, 2) := by decide +kernel
theorem d_Wr_walk_134 : decode b_Wr_walk 134 = .ok (.invokevirtual 36, 3) := by decide +kernel
theorem d_Wr_walk_137 : decode b_Wr_walk 137 = .ok (.iadd, 1) := by decide +kernel
theorem d_Wr_walk_138 : decode b_Wr_walk 138 = .ok (.goto 9, 3) := by decide +kernel
theorem d_Wr_walk_141 : decode b_Wr_walk 141 = .ok (.aload_n 1, 1) := by decide +kernel
theorem d_Wr_walk_142 : decode b_Wr_walk 142 = .ok (.iload 4, 2) := by decide +kernel
theorem d_Wr_walk_144 : decode b_Wr_walk 144 = .ok (.invokevirtual 54, 3) := by decide +kernel
theorem d_Wr_walk_147 : decode b_Wr_walk 147 = .ok (.istore 4, 2) := by decide +kernel
theorem d_Wr_walk_149 : decode b_Wr_walk 149 = .ok (.iinc 6 (-1), 3) := by decide +kernel
theorem d_Wr_walk_152 : decode b_Wr_walk 152 = .ok (.goto (-137), 3) := by decide +kernel
theorem d_Wr_walk_155 : decode b_Wr_walk 155 = .ok (.return_, 1) := by decide +kernel
noncomputable def Wr_walk_b149 (p1_kinds : (Nat → Int32)) (p1_places : (Nat → Int32)) (p1_values : (Nat → Int32)) (p1_sizes : (Nat → Int32)) (p1_partCounts : (Nat → Int32)) (p1_wholes : (Nat → Int32)) (p1_count : Int32) (p2_spelling : (Nat → Int32)) (p2_starts : (Nat → Int32)) (p2_count : Int32) (t_draft_row : (Nat → Int32)) (t_draft_length : Int32) (t_draft_overrun : Int32) (l3 : Int32) (l4 : Int32) (l5 : Int32) (l6 : Int32) : Option (((Nat → Int32) × Int32 × Int32 × Int32 × Int32 × Int32) ⊕ ((Nat → Int32) × Int32 × Int32)) := some (.inl (t_draft_row, t_draft_length, t_draft_overrun, l4, l5, (l6 + (-1 : Int32))))
noncomputable def Wr_walk_b147 (p1_kinds : (Nat → Int32)) (p1_places : (Nat → Int32)) (p1_values : (Nat → Int32)) (p1_sizes : (Nat → Int32)) (p1_partCounts : (Nat → Int32)) (p1_wholes : (Nat → Int32)) (p1_count : Int32) (p2_spelling : (Nat → Int32)) (p2_starts : (Nat → Int32)) (p2_count : Int32) (t_draft_row : (Nat → Int32)) (t_draft_length : Int32) (t_draft_overrun : Int32) (l3 : Int32) (l5 : Int32) (l6 : Int32) (s0 : Int32) : Option (((Nat → Int32) × Int32 × Int32 × Int32 × Int32 × Int32) ⊕ ((Nat → Int32) × Int32 × Int32)) := Wr_walk_b149 p1_kinds p1_places p1_values p1_sizes p1_partCounts p1_wholes p1_count p2_spelling p2_starts p2_count t_draft_row t_draft_length t_draft_overrun l3 s0 l5 l6
noncomputable def Wr_walk_b122 (p1_kinds : (Nat → Int32)) (p1_places : (Nat → Int32)) (p1_values : (Nat → Int32)) (p1_sizes : (Nat → Int32)) (p1_partCounts : (Nat → Int32)) (p1_wholes : (Nat → Int32)) (p1_count : Int32) (p2_spelling : (Nat → Int32)) (p2_starts : (Nat → Int32)) (p2_count : Int32) (t_draft_row : (Nat → Int32)) (t_draft_length : Int32) (t_draft_overrun : Int32) (l3 : Int32) (l4 : Int32) (l6 : Int32) (s0 : Int32) : Option (((Nat → Int32) × Int32 × Int32 × Int32 × Int32 × Int32) ⊕ ((Nat → Int32) × Int32 × Int32)) := if s0 = 0 then (jb (f_Tr_wholeOf p1_wholes p1_count l4) (fun o15 => Wr_walk_b147 p1_kinds p1_places p1_values p1_sizes p1_partCounts p1_wholes p1_count p2_spelling p2_starts p2_count t_draft_row t_draft_length t_draft_overrun l3 s0 l6 o15)) else (jb (f_Tr_sizeOf p1_sizes p1_count l4) (fun o17 => Wr_walk_b147 p1_kinds p1_places p1_values p1_sizes p1_partCounts p1_wholes p1_count p2_spelling p2_starts p2_count t_draft_row t_draft_length t_draft_overrun l3 s0 l6 (l4 + o17)))
noncomputable def Wr_walk_b121 (p1_kinds : (Nat → Int32)) (p1_places : (Nat → Int32)) (p1_values : (Nat → Int32)) (p1_sizes : (Nat → Int32)) (p1_partCounts : (Nat → Int32)) (p1_wholes : (Nat → Int32)) (p1_count : Int32) (p2_spelling : (Nat → Int32)) (p2_starts : (Nat → Int32)) (p2_count : Int32) (t_draft_row : (Nat → Int32)) (t_draft_length : Int32) (t_draft_overrun : Int32) (l3 : Int32) (l4 : Int32) (l6 : Int32) : Option (((Nat → Int32) × Int32 × Int32 × Int32 × Int32 × Int32) ⊕ ((Nat → Int32) × Int32 × Int32)) := Wr_walk_b122 p1_kinds p1_places p1_values p1_sizes p1_partCounts p1_wholes p1_count p2_spelling p2_starts p2_count t_draft_row t_draft_length t_draft_overrun l3 l4 l6 (0 : Int32)
noncomputable def Wr_walk_b89 (p1_kinds : (Nat → Int32)) (p1_places : (Nat → Int32)) (p1_values : (Nat → Int32)) (p1_sizes : (Nat → Int32)) (p1_partCounts : (Nat → Int32)) (p1_wholes : (Nat → Int32)) (p1_count : Int32) (p2_spelling : (Nat → Int32)) (p2_starts : (Nat → Int32)) (p2_count : Int32) (t_draft_row : (Nat → Int32)) (t_draft_length : Int32) (t_draft_overrun : Int32) (l3 : Int32) (l5 : Int32) (l6 : Int32) (s0 : Int32) : Option (((Nat → Int32) × Int32 × Int32 × Int32 × Int32 × Int32) ⊕ ((Nat → Int32) × Int32 × Int32)) := Wr_walk_b149 p1_kinds p1_places p1_values p1_sizes p1_partCounts p1_wholes p1_count p2_spelling p2_starts p2_count t_draft_row t_draft_length t_draft_overrun l3 s0 l5 l6
noncomputable def Wr_walk_b73 (p1_kinds : (Nat → Int32)) (p1_places : (Nat → Int32)) (p1_values : (Nat → Int32)) (p1_sizes : (Nat → Int32)) (p1_partCounts : (Nat → Int32)) (p1_wholes : (Nat → Int32)) (p1_count : Int32) (p2_spelling : (Nat → Int32)) (p2_starts : (Nat → Int32)) (p2_count : Int32) (t_draft_row : (Nat → Int32)) (t_draft_length : Int32) (t_draft_overrun : Int32) (l3 : Int32) (l4 : Int32) (l6 : Int32) (s0 : Int32) : Option (((Nat → Int32) × Int32 × Int32 × Int32 × Int32 × Int32) ⊕ ((Nat → Int32) × Int32 × Int32)) := if s0 = 0 then (Wr_walk_b89 p1_kinds p1_places p1_values p1_sizes p1_partCounts p1_wholes p1_count p2_spelling p2_starts p2_count t_draft_row t_draft_length t_draft_overrun l3 s0 l6 l4) else (Wr_walk_b89 p1_kinds p1_places p1_values p1_sizes p1_partCounts p1_wholes p1_count p2_spelling p2_starts p2_count t_draft_row t_draft_length t_draft_overrun l3 s0 l6 (l4 + (1 : Int32)))
noncomputable def Wr_walk_b41 (p1_kinds : (Nat → Int32)) (p1_places : (Nat → Int32)) (p1_values : (Nat → Int32)) (p1_sizes : (Nat → Int32)) (p1_partCounts : (Nat → Int32)) (p1_wholes : (Nat → Int32)) (p1_count : Int32) (p2_spelling : (Nat → Int32)) (p2_starts : (Nat → Int32)) (p2_count : Int32) (t_draft_row : (Nat → Int32)) (t_draft_length : Int32) (t_draft_overrun : Int32) (l3 : Int32) (l4 : Int32) (l5 : Int32) (l6 : Int32) (s0 : Int32) : Option (((Nat → Int32) × Int32 × Int32 × Int32 × Int32 × Int32) ⊕ ((Nat → Int32) × Int32 × Int32)) := if l5 = 0 then (jb (f_Wr_leave p1_kinds p1_places p1_values p1_sizes p1_partCounts p1_wholes p1_count t_draft_row t_draft_length t_draft_overrun l4 s0) (fun o19 => if s0 = 0 then (jb (f_Tr_isLastPart p1_sizes p1_wholes p1_count l4) (fun o21 => if o21 = 0 then (Wr_walk_b122 p1_kinds p1_places p1_values p1_sizes p1_partCounts p1_wholes p1_count p2_spelling p2_starts p2_count o19.1 o19.2.1 o19.2.2 l3 l4 l6 (1 : Int32)) else (Wr_walk_b121 p1_kinds p1_places p1_values p1_sizes p1_partCounts p1_wholes p1_count p2_spelling p2_starts p2_count o19.1 o19.2.1 o19.2.2 l3 l4 l6))) else (Wr_walk_b121 p1_kinds p1_places p1_values p1_sizes p1_partCounts p1_wholes p1_count p2_spelling p2_starts p2_count o19.1 o19.2.1 o19.2.2 l3 l4 l6))) else (jb (f_Wr_enter p1_kinds p1_places p1_values p1_sizes p1_partCounts p1_wholes p1_count p2_spelling p2_starts p2_count t_draft_row t_draft_length t_draft_overrun l4 s0) (fun o23 => jb (f_Tr_sizeOf p1_sizes p1_count l4) (fun o25 => if o25 ≤ (1 : Int32) then (Wr_walk_b73 p1_kinds p1_places p1_values p1_sizes p1_partCounts p1_wholes p1_count p2_spelling p2_starts p2_count o23.1 o23.2.1 o23.2.2 l3 l4 l6 (0 : Int32)) else (Wr_walk_b73 p1_kinds p1_places p1_values p1_sizes p1_partCounts p1_wholes p1_count p2_spelling p2_starts p2_count o23.1 o23.2.1 o23.2.2 l3 l4 l6 (1 : Int32)))))
noncomputable def Wr_walk_b15_s (p1_kinds : (Nat → Int32)) (p1_places : (Nat → Int32)) (p1_values : (Nat → Int32)) (p1_sizes : (Nat → Int32)) (p1_partCounts : (Nat → Int32)) (p1_wholes : (Nat → Int32)) (p1_count : Int32) (p2_spelling : (Nat → Int32)) (p2_starts : (Nat → Int32)) (p2_count : Int32) (l3 : Int32) (t_draft_row : (Nat → Int32)) (t_draft_length : Int32) (t_draft_overrun : Int32) (l4 : Int32) (l5 : Int32) (l6 : Int32) : Option (((Nat → Int32) × Int32 × Int32 × Int32 × Int32 × Int32) ⊕ ((Nat → Int32) × Int32 × Int32)) := if l6 ≤ 0 then (some (.inr (t_draft_row, t_draft_length, t_draft_overrun))) else (if t_draft_overrun = 0 then (if l4 = l3 then (Wr_walk_b41 p1_kinds p1_places p1_values p1_sizes p1_partCounts p1_wholes p1_count p2_spelling p2_starts p2_count t_draft_row t_draft_length t_draft_overrun l3 l4 l5 l6 (1 : Int32)) else (Wr_walk_b41 p1_kinds p1_places p1_values p1_sizes p1_partCounts p1_wholes p1_count p2_spelling p2_starts p2_count t_draft_row t_draft_length t_draft_overrun l3 l4 l5 l6 (0 : Int32))) else (some (.inr (t_draft_row, t_draft_length, t_draft_overrun))))
noncomputable def Wr_walk_b15_b (p1_kinds : (Nat → Int32)) (p1_places : (Nat → Int32)) (p1_values : (Nat → Int32)) (p1_sizes : (Nat → Int32)) (p1_partCounts : (Nat → Int32)) (p1_wholes : (Nat → Int32)) (p1_count : Int32) (p2_spelling : (Nat → Int32)) (p2_starts : (Nat → Int32)) (p2_count : Int32) (l3 : Int32) : ((Nat → Int32) × Int32 × Int32 × Int32 × Int32 × Int32) → Option (((Nat → Int32) × Int32 × Int32 × Int32 × Int32 × Int32) ⊕ ((Nat → Int32) × Int32 × Int32)) := fun x => Wr_walk_b15_s p1_kinds p1_places p1_values p1_sizes p1_partCounts p1_wholes p1_count p2_spelling p2_starts p2_count l3 x.1 x.2.1 x.2.2.1 x.2.2.2.1 x.2.2.2.2.1 x.2.2.2.2.2
noncomputable def Wr_walk_b15 (p1_kinds : (Nat → Int32)) (p1_places : (Nat → Int32)) (p1_values : (Nat → Int32)) (p1_sizes : (Nat → Int32)) (p1_partCounts : (Nat → Int32)) (p1_wholes : (Nat → Int32)) (p1_count : Int32) (p2_spelling : (Nat → Int32)) (p2_starts : (Nat → Int32)) (p2_count : Int32) (t_draft_row : (Nat → Int32)) (t_draft_length : Int32) (t_draft_overrun : Int32) (l3 : Int32) (l4 : Int32) (l5 : Int32) (l6 : Int32) : Option ((Nat → Int32) × Int32 × Int32) := jl (Wr_walk_b15_b p1_kinds p1_places p1_values p1_sizes p1_partCounts p1_wholes p1_count p2_spelling p2_starts p2_count l3) (t_draft_row, t_draft_length, t_draft_overrun, l4, l5, l6)
noncomputable def f_Wr_walk (p1_kinds : (Nat → Int32)) (p1_places : (Nat → Int32)) (p1_values : (Nat → Int32)) (p1_sizes : (Nat → Int32)) (p1_partCounts : (Nat → Int32)) (p1_wholes : (Nat → Int32)) (p1_count : Int32) (p2_spelling : (Nat → Int32)) (p2_starts : (Nat → Int32)) (p2_count : Int32) (t_draft_row : (Nat → Int32)) (t_draft_length : Int32) (t_draft_overrun : Int32) (a3 : Int32) : Option ((Nat → Int32) × Int32 × Int32) := jb (f_Tr_sizeOf p1_sizes p1_count a3) (fun o27 => Wr_walk_b15 p1_kinds p1_places p1_values p1_sizes p1_partCounts p1_wholes p1_count p2_spelling p2_starts p2_count t_draft_row t_draft_length t_draft_overrun a3 a3 (1 : Int32) ((2 : Int32) * o27))
set_option maxHeartbeats 4000000 in
set_option maxRecDepth 100000 in
theorem c_Wr_walk {l : Launch} {dC : Nat → ClassId} {dI : Nat → Nat → Nat} {cI cB cS : ClassId} {adK adV adR : Nat → Nat} (h_t h_t_shown h_t_shown_row h_t_draft h_t_draft_row h_p1 h_p1_kinds h_p1_places h_p1_values h_p1_sizes h_p1_partCounts h_p1_wholes h_p2 h_p2_spelling h_p2_starts h_p2_newest h_p2_older : Nat) (t_shown_row : (Nat → Int32)) (t_shown_length : Int32) (t_shown_overrun : Int32) (t_draft_row : (Nat → Int32)) (t_draft_length : Int32) (t_draft_overrun : Int32) (p1_kinds : (Nat → Int32)) (p1_places : (Nat → Int32)) (p1_values : (Nat → Int32)) (p1_sizes : (Nat → Int32)) (p1_partCounts : (Nat → Int32)) (p1_wholes : (Nat → Int32)) (p1_count : Int32) (p2_spelling : (Nat → Int32)) (p2_starts : (Nat → Int32)) (p2_newest : (Nat → Int32)) (p2_older : (Nat → Int32)) (p2_count : Int32) (a3 : Int32) {o : ((Nat → Int32) × Int32 × Int32)} (hf : f_Wr_walk p1_kinds p1_places p1_values p1_sizes p1_partCounts p1_wholes p1_count p2_spelling p2_starts p2_count t_draft_row t_draft_length t_draft_overrun a3 = some o) : jMet l dC dI cI cB cS adK adV adR y_Wr_walk wd_Wr_walk { frames := 7, cells := 0, slots := 0, locals := 154 } [.ref h_t, .ref h_p1, .ref h_p2, .int a3] [(h_t, .inr (6, [.ref h_t_shown, .ref h_t_draft])), (h_t_shown, .inr (0, [.ref h_t_shown_row, .int t_shown_length, .int t_shown_overrun])), (h_t_shown_row, .inl (cB, 8000, .inl t_shown_row)), (h_t_draft, .inr (0, [.ref h_t_draft_row, .int t_draft_length, .int t_draft_overrun])), (h_t_draft_row, .inl (cB, 8000, .inl t_draft_row)), (h_p1, .inr (5, [.ref h_p1_kinds, .ref h_p1_places, .ref h_p1_values, .ref h_p1_sizes, .ref h_p1_partCounts, .ref h_p1_wholes, .int p1_count])), (h_p1_kinds, .inl (cI, 8001, .inl p1_kinds)), (h_p1_places, .inl (cI, 8001, .inl p1_places)), (h_p1_values, .inl (cI, 8001, .inl p1_values)), (h_p1_sizes, .inl (cI, 8001, .inl p1_sizes)), (h_p1_partCounts, .inl (cI, 8001, .inl p1_partCounts)), (h_p1_wholes, .inl (cI, 8001, .inl p1_wholes)), (h_p2, .inr (2, [.ref h_p2_spelling, .ref h_p2_starts, .ref h_p2_newest, .ref h_p2_older, .int p2_count])), (h_p2_spelling, .inl (cB, 12288, .inl p2_spelling)), (h_p2_starts, .inl (cI, 4097, .inl p2_starts)), (h_p2_newest, .inl (cI, 1024, .inl p2_newest)), (h_p2_older, .inl (cI, 4096, .inl p2_older))] (none) (fun q => [(h_t, .inr (6, [.ref h_t_shown, .ref h_t_draft])), (h_t_shown, .inr (0, [.ref h_t_shown_row, .int t_shown_length, .int t_shown_overrun])), (h_t_shown_row, .inl (cB, 8000, .inl t_shown_row)), (h_t_draft, .inr (0, [.ref h_t_draft_row, .int o.2.1, .int o.2.2])), (h_t_draft_row, .inl (cB, 8000, .inl o.1)), (h_p1, .inr (5, [.ref h_p1_kinds, .ref h_p1_places, .ref h_p1_values, .ref h_p1_sizes, .ref h_p1_partCounts, .ref h_p1_wholes, .int p1_count])), (h_p1_kinds, .inl (cI, 8001, .inl p1_kinds)), (h_p1_places, .inl (cI, 8001, .inl p1_places)), (h_p1_values, .inl (cI, 8001, .inl p1_values)), (h_p1_sizes, .inl (cI, 8001, .inl p1_sizes)), (h_p1_partCounts, .inl (cI, 8001, .inl p1_partCounts)), (h_p1_wholes, .inl (cI, 8001, .inl p1_wholes)), (h_p2, .inr (2, [.ref h_p2_spelling, .ref h_p2_starts, .ref h_p2_newest, .ref h_p2_older, .int p2_count])), (h_p2_spelling, .inl (cB, 12288, .inl p2_spelling)), (h_p2_starts, .inl (cI, 4097, .inl p2_starts)), (h_p2_newest, .inl (cI, 1024, .inl p2_newest)), (h_p2_older, .inl (cI, 4096, .inl p2_older))]) 0 0 := by
  refine jEntry (cc := b_Wr_walk) (maxL := 8) (ret := none) (by decide) rfl (Nat.le_of_ble_eq_true rfl) rfl (fun p e s m args below meth c A H locs ls Q hQ hx hb hr hml hown hts hlocks hnm hJ hA hP hD hS hl => ?_)
  have hK := hJ.K
  have hl : lv_has ls 8 [(0, .ref h_t), (1, .ref h_p1), (2, .ref h_p2), (3, .int a3)] := hl
  have L15 : ∀ (n15 : Nat) (t_draft_row : (Nat → Int32)) (t_draft_length : Int32) (t_draft_overrun : Int32) (l3 : Int32) (l4 : Int32) (l5 : Int32) (l6 : Int32) (H : Heap) (locs : List Loc) (ls : Array Slot), jl_n (Wr_walk_b15_b p1_kinds p1_places p1_values p1_sizes p1_partCounts p1_wholes p1_count p2_spelling p2_starts p2_count l3) n15 (t_draft_row, t_draft_length, t_draft_overrun, l4, l5, l6) = some o → va_P (dC, dI) vwCl [(h_t, .inr (6, [.ref h_t_shown, .ref h_t_draft])), (h_t_shown, .inr (0, [.ref h_t_shown_row, .int t_shown_length, .int t_shown_overrun])), (h_t_shown_row, .inl (cB, 8000, .inl t_shown_row)), (h_t_draft, .inr (0, [.ref h_t_draft_row, .int t_draft_length, .int t_draft_overrun])), (h_t_draft_row, .inl (cB, 8000, .inl t_draft_row)), (h_p1, .inr (5, [.ref h_p1_kinds, .ref h_p1_places, .ref h_p1_values, .ref h_p1_sizes, .ref h_p1_partCounts, .ref h_p1_wholes, .int p1_count])), (h_p1_kinds, .inl (cI, 8001, .inl p1_kinds)), (h_p1_places, .inl (cI, 8001, .inl p1_places)), (h_p1_values, .inl (cI, 8001, .inl p1_values)), (h_p1_sizes, .inl (cI, 8001, .inl p1_sizes)), (h_p1_partCounts, .inl (cI, 8001, .inl p1_partCounts)), (h_p1_wholes, .inl (cI, 8001, .inl p1_wholes)), (h_p2, .inr (2, [.ref h_p2_spelling, .ref h_p2_starts, .ref h_p2_newest, .ref h_p2_older, .int p2_count])), (h_p2_spelling, .inl (cB, 12288, .inl p2_spelling)), (h_p2_starts, .inl (cI, 4097, .inl p2_starts)), (h_p2_newest, .inl (cI, 1024, .inl p2_newest)), (h_p2_older, .inl (cI, 4096, .inl p2_older))] H → va_D A [(h_t, .inr (6, [.ref h_t_shown, .ref h_t_draft])), (h_t_shown, .inr (0, [.ref h_t_shown_row, .int t_shown_length, .int t_shown_overrun])), (h_t_shown_row, .inl (cB, 8000, .inl t_shown_row)), (h_t_draft, .inr (0, [.ref h_t_draft_row, .int t_draft_length, .int t_draft_overrun])), (h_t_draft_row, .inl (cB, 8000, .inl t_draft_row)), (h_p1, .inr (5, [.ref h_p1_kinds, .ref h_p1_places, .ref h_p1_values, .ref h_p1_sizes, .ref h_p1_partCounts, .ref h_p1_wholes, .int p1_count])), (h_p1_kinds, .inl (cI, 8001, .inl p1_kinds)), (h_p1_places, .inl (cI, 8001, .inl p1_places)), (h_p1_values, .inl (cI, 8001, .inl p1_values)), (h_p1_sizes, .inl (cI, 8001, .inl p1_sizes)), (h_p1_partCounts, .inl (cI, 8001, .inl p1_partCounts)), (h_p1_wholes, .inl (cI, 8001, .inl p1_wholes)), (h_p2, .inr (2, [.ref h_p2_spelling, .ref h_p2_starts, .ref h_p2_newest, .ref h_p2_older, .int p2_count])), (h_p2_spelling, .inl (cB, 12288, .inl p2_spelling)), (h_p2_starts, .inl (cI, 4097, .inl p2_starts)), (h_p2_newest, .inl (cI, 1024, .inl p2_newest)), (h_p2_older, .inl (cI, 4096, .inl p2_older))] → va_S A s.heap H locs → lv_has ls 8 [(0, .ref h_t), (1, .ref h_p1), (2, .ref h_p2), (3, .int l3), (4, .int l4), (5, .int l5), (6, .int l6)] → W p l e { frames := 7, cells := 0, slots := 0, locals := 154 } s m args below meth c H locs 0 0 Q (F0 m 15 ls []) := by
    intro n15
    induction n15 with
    | zero => intro t_draft_row t_draft_length t_draft_overrun l3 l4 l5 l6 H locs ls hf; simp only [jl_n_zero, jl_b_none, reduceCtorEq] at hf
    | succ n15 ih15 =>
      intro t_draft_row t_draft_length t_draft_overrun l3 l4 l5 l6 H locs ls hf hP hD hS hl
      rw [jl_n_succ] at hf
      have hf : jl_b (jl_n (Wr_walk_b15_b p1_kinds p1_places p1_values p1_sizes p1_partCounts p1_wholes p1_count p2_spelling p2_starts p2_count l3) n15) (Wr_walk_b15_s p1_kinds p1_places p1_values p1_sizes p1_partCounts p1_wholes p1_count p2_spelling p2_starts p2_count l3 t_draft_row t_draft_length t_draft_overrun l4 l5 l6) = some o := hf
      have B149 : ∀ (t_draft_row : (Nat → Int32)) (t_draft_length : Int32) (t_draft_overrun : Int32) (l4 : Int32) (l5 : Int32) (l6 : Int32) (H : Heap) (locs : List Loc) (ls : Array Slot), jl_b (jl_n (Wr_walk_b15_b p1_kinds p1_places p1_values p1_sizes p1_partCounts p1_wholes p1_count p2_spelling p2_starts p2_count l3) n15) (Wr_walk_b149 p1_kinds p1_places p1_values p1_sizes p1_partCounts p1_wholes p1_count p2_spelling p2_starts p2_count t_draft_row t_draft_length t_draft_overrun l3 l4 l5 l6) = some o → va_P (dC, dI) vwCl [(h_t, .inr (6, [.ref h_t_shown, .ref h_t_draft])), (h_t_shown, .inr (0, [.ref h_t_shown_row, .int t_shown_length, .int t_shown_overrun])), (h_t_shown_row, .inl (cB, 8000, .inl t_shown_row)), (h_t_draft, .inr (0, [.ref h_t_draft_row, .int t_draft_length, .int t_draft_overrun])), (h_t_draft_row, .inl (cB, 8000, .inl t_draft_row)), (h_p1, .inr (5, [.ref h_p1_kinds, .ref h_p1_places, .ref h_p1_values, .ref h_p1_sizes, .ref h_p1_partCounts, .ref h_p1_wholes, .int p1_count])), (h_p1_kinds, .inl (cI, 8001, .inl p1_kinds)), (h_p1_places, .inl (cI, 8001, .inl p1_places)), (h_p1_values, .inl (cI, 8001, .inl p1_values)), (h_p1_sizes, .inl (cI, 8001, .inl p1_sizes)), (h_p1_partCounts, .inl (cI, 8001, .inl p1_partCounts)), (h_p1_wholes, .inl (cI, 8001, .inl p1_wholes)), (h_p2, .inr (2, [.ref h_p2_spelling, .ref h_p2_starts, .ref h_p2_newest, .ref h_p2_older, .int p2_count])), (h_p2_spelling, .inl (cB, 12288, .inl p2_spelling)), (h_p2_starts, .inl (cI, 4097, .inl p2_starts)), (h_p2_newest, .inl (cI, 1024, .inl p2_newest)), (h_p2_older, .inl (cI, 4096, .inl p2_older))] H → va_D A [(h_t, .inr (6, [.ref h_t_shown, .ref h_t_draft])), (h_t_shown, .inr (0, [.ref h_t_shown_row, .int t_shown_length, .int t_shown_overrun])), (h_t_shown_row, .inl (cB, 8000, .inl t_shown_row)), (h_t_draft, .inr (0, [.ref h_t_draft_row, .int t_draft_length, .int t_draft_overrun])), (h_t_draft_row, .inl (cB, 8000, .inl t_draft_row)), (h_p1, .inr (5, [.ref h_p1_kinds, .ref h_p1_places, .ref h_p1_values, .ref h_p1_sizes, .ref h_p1_partCounts, .ref h_p1_wholes, .int p1_count])), (h_p1_kinds, .inl (cI, 8001, .inl p1_kinds)), (h_p1_places, .inl (cI, 8001, .inl p1_places)), (h_p1_values, .inl (cI, 8001, .inl p1_values)), (h_p1_sizes, .inl (cI, 8001, .inl p1_sizes)), (h_p1_partCounts, .inl (cI, 8001, .inl p1_partCounts)), (h_p1_wholes, .inl (cI, 8001, .inl p1_wholes)), (h_p2, .inr (2, [.ref h_p2_spelling, .ref h_p2_starts, .ref h_p2_newest, .ref h_p2_older, .int p2_count])), (h_p2_spelling, .inl (cB, 12288, .inl p2_spelling)), (h_p2_starts, .inl (cI, 4097, .inl p2_starts)), (h_p2_newest, .inl (cI, 1024, .inl p2_newest)), (h_p2_older, .inl (cI, 4096, .inl p2_older))] → va_S A s.heap H locs → lv_has ls 8 [(0, .ref h_t), (1, .ref h_p1), (2, .ref h_p2), (3, .int l3), (4, .int l4), (5, .int l5), (6, .int l6)] → W p l e { frames := 7, cells := 0, slots := 0, locals := 154 } s m args below meth c H locs 0 0 Q (F0 m 149 ls []) := by
        intro t_draft_row t_draft_length t_draft_overrun l4 l5 l6 H locs ls hf hP hD hS hl
        unfold Wr_walk_b149 at hf
        refine lv_iinc (v := l6 + (-1 : Int32)) (lv' := [(6, .int (l6 + (-1 : Int32))), (0, .ref h_t), (1, .ref h_p1), (2, .ref h_p2), (3, .int l3), (4, .int l4), (5, .int l5)]) hx hb d_Wr_walk_149 hl (k := 6) rfl rfl (by decide) rfl (fun ls hl => ?_)
        refine lv_goto (tgt := 15) hx hb d_Wr_walk_152 (by decide) ?_
        exact ih15 t_draft_row t_draft_length t_draft_overrun l3 l4 l5 (l6 + (-1 : Int32)) H locs ls hf hP hD hS (lv_sub hl [1, 2, 3, 4, 5, 6, 0] rfl)
      have B147 : ∀ (t_draft_row : (Nat → Int32)) (t_draft_length : Int32) (t_draft_overrun : Int32) (l5 : Int32) (l6 : Int32) (s0 : Int32) (H : Heap) (locs : List Loc) (ls : Array Slot), jl_b (jl_n (Wr_walk_b15_b p1_kinds p1_places p1_values p1_sizes p1_partCounts p1_wholes p1_count p2_spelling p2_starts p2_count l3) n15) (Wr_walk_b147 p1_kinds p1_places p1_values p1_sizes p1_partCounts p1_wholes p1_count p2_spelling p2_starts p2_count t_draft_row t_draft_length t_draft_overrun l3 l5 l6 s0) = some o → va_P (dC, dI) vwCl [(h_t, .inr (6, [.ref h_t_shown, .ref h_t_draft])), (h_t_shown, .inr (0, [.ref h_t_shown_row, .int t_shown_length, .int t_shown_overrun])), (h_t_shown_row, .inl (cB, 8000, .inl t_shown_row)), (h_t_draft, .inr (0, [.ref h_t_draft_row, .int t_draft_length, .int t_draft_overrun])), (h_t_draft_row, .inl (cB, 8000, .inl t_draft_row)), (h_p1, .inr (5, [.ref h_p1_kinds, .ref h_p1_places, .ref h_p1_values, .ref h_p1_sizes, .ref h_p1_partCounts, .ref h_p1_wholes, .int p1_count])), (h_p1_kinds, .inl (cI, 8001, .inl p1_kinds)), (h_p1_places, .inl (cI, 8001, .inl p1_places)), (h_p1_values, .inl (cI, 8001, .inl p1_values)), (h_p1_sizes, .inl (cI, 8001, .inl p1_sizes)), (h_p1_partCounts, .inl (cI, 8001, .inl p1_partCounts)), (h_p1_wholes, .inl (cI, 8001, .inl p1_wholes)), (h_p2, .inr (2, [.ref h_p2_spelling, .ref h_p2_starts, .ref h_p2_newest, .ref h_p2_older, .int p2_count])), (h_p2_spelling, .inl (cB, 12288, .inl p2_spelling)), (h_p2_starts, .inl (cI, 4097, .inl p2_starts)), (h_p2_newest, .inl (cI, 1024, .inl p2_newest)), (h_p2_older, .inl (cI, 4096, .inl p2_older))] H → va_D A [(h_t, .inr (6, [.ref h_t_shown, .ref h_t_draft])), (h_t_shown, .inr (0, [.ref h_t_shown_row, .int t_shown_length, .int t_shown_overrun])), (h_t_shown_row, .inl (cB, 8000, .inl t_shown_row)), (h_t_draft, .inr (0, [.ref h_t_draft_row, .int t_draft_length, .int t_draft_overrun])), (h_t_draft_row, .inl (cB, 8000, .inl t_draft_row)), (h_p1, .inr (5, [.ref h_p1_kinds, .ref h_p1_places, .ref h_p1_values, .ref h_p1_sizes, .ref h_p1_partCounts, .ref h_p1_wholes, .int p1_count])), (h_p1_kinds, .inl (cI, 8001, .inl p1_kinds)), (h_p1_places, .inl (cI, 8001, .inl p1_places)), (h_p1_values, .inl (cI, 8001, .inl p1_values)), (h_p1_sizes, .inl (cI, 8001, .inl p1_sizes)), (h_p1_partCounts, .inl (cI, 8001, .inl p1_partCounts)), (h_p1_wholes, .inl (cI, 8001, .inl p1_wholes)), (h_p2, .inr (2, [.ref h_p2_spelling, .ref h_p2_starts, .ref h_p2_newest, .ref h_p2_older, .int p2_count])), (h_p2_spelling, .inl (cB, 12288, .inl p2_spelling)), (h_p2_starts, .inl (cI, 4097, .inl p2_starts)), (h_p2_newest, .inl (cI, 1024, .inl p2_newest)), (h_p2_older, .inl (cI, 4096, .inl p2_older))] → va_S A s.heap H locs → lv_has ls 8 [(0, .ref h_t), (1, .ref h_p1), (2, .ref h_p2), (3, .int l3), (5, .int l5), (6, .int l6)] → W p l e { frames := 7, cells := 0, slots := 0, locals := 154 } s m args below meth c H locs 0 0 Q (F0 m 147 ls [.int s0]) := by
        intro t_draft_row t_draft_length t_draft_overrun l5 l6 s0 H locs ls hf hP hD hS hl
        unfold Wr_walk_b147 at hf
        refine lv_istore (lv' := [(4, .int s0), (0, .ref h_t), (1, .ref h_p1), (2, .ref h_p2), (3, .int l3), (5, .int l5), (6, .int l6)]) hx hb d_Wr_walk_147 hl (by decide) rfl (fun ls hl => ?_)
        exact B149 t_draft_row t_draft_length t_draft_overrun s0 l5 l6 H locs ls hf hP hD hS (lv_sub hl [1, 2, 3, 4, 0, 5, 6] rfl)
      have B122 : ∀ (t_draft_row : (Nat → Int32)) (t_draft_length : Int32) (t_draft_overrun : Int32) (l4 : Int32) (l6 : Int32) (s0 : Int32) (H : Heap) (locs : List Loc) (ls : Array Slot), jl_b (jl_n (Wr_walk_b15_b p1_kinds p1_places p1_values p1_sizes p1_partCounts p1_wholes p1_count p2_spelling p2_starts p2_count l3) n15) (Wr_walk_b122 p1_kinds p1_places p1_values p1_sizes p1_partCounts p1_wholes p1_count p2_spelling p2_starts p2_count t_draft_row t_draft_length t_draft_overrun l3 l4 l6 s0) = some o → va_P (dC, dI) vwCl [(h_t, .inr (6, [.ref h_t_shown, .ref h_t_draft])), (h_t_shown, .inr (0, [.ref h_t_shown_row, .int t_shown_length, .int t_shown_overrun])), (h_t_shown_row, .inl (cB, 8000, .inl t_shown_row)), (h_t_draft, .inr (0, [.ref h_t_draft_row, .int t_draft_length, .int t_draft_overrun])), (h_t_draft_row, .inl (cB, 8000, .inl t_draft_row)), (h_p1, .inr (5, [.ref h_p1_kinds, .ref h_p1_places, .ref h_p1_values, .ref h_p1_sizes, .ref h_p1_partCounts, .ref h_p1_wholes, .int p1_count])), (h_p1_kinds, .inl (cI, 8001, .inl p1_kinds)), (h_p1_places, .inl (cI, 8001, .inl p1_places)), (h_p1_values, .inl (cI, 8001, .inl p1_values)), (h_p1_sizes, .inl (cI, 8001, .inl p1_sizes)), (h_p1_partCounts, .inl (cI, 8001, .inl p1_partCounts)), (h_p1_wholes, .inl (cI, 8001, .inl p1_wholes)), (h_p2, .inr (2, [.ref h_p2_spelling, .ref h_p2_starts, .ref h_p2_newest, .ref h_p2_older, .int p2_count])), (h_p2_spelling, .inl (cB, 12288, .inl p2_spelling)), (h_p2_starts, .inl (cI, 4097, .inl p2_starts)), (h_p2_newest, .inl (cI, 1024, .inl p2_newest)), (h_p2_older, .inl (cI, 4096, .inl p2_older))] H → va_D A [(h_t, .inr (6, [.ref h_t_shown, .ref h_t_draft])), (h_t_shown, .inr (0, [.ref h_t_shown_row, .int t_shown_length, .int t_shown_overrun])), (h_t_shown_row, .inl (cB, 8000, .inl t_shown_row)), (h_t_draft, .inr (0, [.ref h_t_draft_row, .int t_draft_length, .int t_draft_overrun])), (h_t_draft_row, .inl (cB, 8000, .inl t_draft_row)), (h_p1, .inr (5, [.ref h_p1_kinds, .ref h_p1_places, .ref h_p1_values, .ref h_p1_sizes, .ref h_p1_partCounts, .ref h_p1_wholes, .int p1_count])), (h_p1_kinds, .inl (cI, 8001, .inl p1_kinds)), (h_p1_places, .inl (cI, 8001, .inl p1_places)), (h_p1_values, .inl (cI, 8001, .inl p1_values)), (h_p1_sizes, .inl (cI, 8001, .inl p1_sizes)), (h_p1_partCounts, .inl (cI, 8001, .inl p1_partCounts)), (h_p1_wholes, .inl (cI, 8001, .inl p1_wholes)), (h_p2, .inr (2, [.ref h_p2_spelling, .ref h_p2_starts, .ref h_p2_newest, .ref h_p2_older, .int p2_count])), (h_p2_spelling, .inl (cB, 12288, .inl p2_spelling)), (h_p2_starts, .inl (cI, 4097, .inl p2_starts)), (h_p2_newest, .inl (cI, 1024, .inl p2_newest)), (h_p2_older, .inl (cI, 4096, .inl p2_older))] → va_S A s.heap H locs → lv_has ls 8 [(0, .ref h_t), (1, .ref h_p1), (2, .ref h_p2), (3, .int l3), (4, .int l4), (6, .int l6)] → W p l e { frames := 7, cells := 0, slots := 0, locals := 154 } s m args below meth c H locs 0 0 Q (F0 m 122 ls [.int s0]) := by
        intro t_draft_row t_draft_length t_draft_overrun l4 l6 s0 H locs ls hf hP hD hS hl
        unfold Wr_walk_b122 at hf
        refine lv_istore (lv' := [(5, .int s0), (0, .ref h_t), (1, .ref h_p1), (2, .ref h_p2), (3, .int l3), (4, .int l4), (6, .int l6)]) hx hb d_Wr_walk_122 hl (by decide) rfl (fun ls hl => ?_)
        refine lv_iload hx hb d_Wr_walk_124 (lv_at hl 0 rfl) ?_
        refine lv_if_eq (tgt := 141) hx hb d_Wr_walk_126 (by decide) (fun c126 => ?_) (fun c126 => ?_)
        · rw [if_pos c126] at hf
          refine lv_aload_n hx hb d_Wr_walk_141 rfl (lv_at hl 2 rfl) ?_
          refine lv_iload hx hb d_Wr_walk_142 (lv_at hl 5 rfl) ?_
          obtain ⟨o29, ho29⟩ : ∃ z, f_Tr_wholeOf p1_wholes p1_count l4 = some z := by
            cases hz : f_Tr_wholeOf p1_wholes p1_count l4 with
            | none => rw [hz] at hf; simp only [jb_none, jl_b_none, jm_none, reduceCtorEq] at hf
            | some z => exact ⟨z, rfl⟩
          rw [ho29, jb_some] at hf
          refine jCallV (As := [.int l4]) (rest := []) (wr := [(h_t, .inr (6, [.ref h_t_shown, .ref h_t_draft])), (h_t_shown, .inr (0, [.ref h_t_shown_row, .int t_shown_length, .int t_shown_overrun])), (h_t_shown_row, .inl (cB, 8000, .inl t_shown_row)), (h_t_draft, .inr (0, [.ref h_t_draft_row, .int t_draft_length, .int t_draft_overrun])), (h_t_draft_row, .inl (cB, 8000, .inl t_draft_row)), (h_p2, .inr (2, [.ref h_p2_spelling, .ref h_p2_starts, .ref h_p2_newest, .ref h_p2_older, .int p2_count])), (h_p2_spelling, .inl (cB, 12288, .inl p2_spelling)), (h_p2_starts, .inl (cI, 4097, .inl p2_starts)), (h_p2_newest, .inl (cI, 1024, .inl p2_newest)), (h_p2_older, .inl (cI, 4096, .inl p2_older))]) ⟨hx, hb, hml, hown, hts⟩ hJ (c_Tr_wholeOf h_p1 h_p1_kinds h_p1_places h_p1_values h_p1_sizes h_p1_partCounts h_p1_wholes p1_kinds p1_places p1_values p1_sizes p1_partCounts p1_wholes p1_count l4 ho29) (cwV 1 hts (jgV jw370 jw158 jw159 jw153 jw157) rfl rfl rfl dd_Tr_wholeOf ⟨Nat.le_of_ble_eq_true rfl, Nat.le_of_ble_eq_true rfl⟩) hP hD hS hA (va_recv hK hP (ci := 5) (q0 := 5) rfl rfl) [5, 6, 7, 8, 9, 10, 11] [0, 1, 2, 3, 4, 12, 13, 14, 15, 16] rfl rfl (by decide) (by decide) (by decide) rfl hl.1 rfl (Nat.le_of_ble_eq_true rfl) d_Wr_walk_144 ⟨Nat.le_of_ble_eq_true rfl, Nat.le_of_ble_eq_true rfl⟩ (fun qz30 H locs hP hD hS => ?_)
          have hP : va_P (dC, dI) vwCl [(h_t, .inr (6, [.ref h_t_shown, .ref h_t_draft])), (h_t_shown, .inr (0, [.ref h_t_shown_row, .int t_shown_length, .int t_shown_overrun])), (h_t_shown_row, .inl (cB, 8000, .inl t_shown_row)), (h_t_draft, .inr (0, [.ref h_t_draft_row, .int t_draft_length, .int t_draft_overrun])), (h_t_draft_row, .inl (cB, 8000, .inl t_draft_row)), (h_p2, .inr (2, [.ref h_p2_spelling, .ref h_p2_starts, .ref h_p2_newest, .ref h_p2_older, .int p2_count])), (h_p2_spelling, .inl (cB, 12288, .inl p2_spelling)), (h_p2_starts, .inl (cI, 4097, .inl p2_starts)), (h_p2_newest, .inl (cI, 1024, .inl p2_newest)), (h_p2_older, .inl (cI, 4096, .inl p2_older)), (h_p1, .inr (5, [.ref h_p1_kinds, .ref h_p1_places, .ref h_p1_values, .ref h_p1_sizes, .ref h_p1_partCounts, .ref h_p1_wholes, .int p1_count])), (h_p1_kinds, .inl (cI, 8001, .inl p1_kinds)), (h_p1_places, .inl (cI, 8001, .inl p1_places)), (h_p1_values, .inl (cI, 8001, .inl p1_values)), (h_p1_sizes, .inl (cI, 8001, .inl p1_sizes)), (h_p1_partCounts, .inl (cI, 8001, .inl p1_partCounts)), (h_p1_wholes, .inl (cI, 8001, .inl p1_wholes))] H := hP
          have hD : va_D A [(h_t, .inr (6, [.ref h_t_shown, .ref h_t_draft])), (h_t_shown, .inr (0, [.ref h_t_shown_row, .int t_shown_length, .int t_shown_overrun])), (h_t_shown_row, .inl (cB, 8000, .inl t_shown_row)), (h_t_draft, .inr (0, [.ref h_t_draft_row, .int t_draft_length, .int t_draft_overrun])), (h_t_draft_row, .inl (cB, 8000, .inl t_draft_row)), (h_p2, .inr (2, [.ref h_p2_spelling, .ref h_p2_starts, .ref h_p2_newest, .ref h_p2_older, .int p2_count])), (h_p2_spelling, .inl (cB, 12288, .inl p2_spelling)), (h_p2_starts, .inl (cI, 4097, .inl p2_starts)), (h_p2_newest, .inl (cI, 1024, .inl p2_newest)), (h_p2_older, .inl (cI, 4096, .inl p2_older)), (h_p1, .inr (5, [.ref h_p1_kinds, .ref h_p1_places, .ref h_p1_values, .ref h_p1_sizes, .ref h_p1_partCounts, .ref h_p1_wholes, .int p1_count])), (h_p1_kinds, .inl (cI, 8001, .inl p1_kinds)), (h_p1_places, .inl (cI, 8001, .inl p1_places)), (h_p1_values, .inl (cI, 8001, .inl p1_values)), (h_p1_sizes, .inl (cI, 8001, .inl p1_sizes)), (h_p1_partCounts, .inl (cI, 8001, .inl p1_partCounts)), (h_p1_wholes, .inl (cI, 8001, .inl p1_wholes))] := hD
          exact B147 t_draft_row t_draft_length t_draft_overrun s0 l6 o29 H locs ls hf (hP.sub [0, 1, 2, 3, 4, 10, 11, 12, 13, 14, 15, 16, 5, 6, 7, 8, 9] rfl) (hD.sub [0, 1, 2, 3, 4, 10, 11, 12, 13, 14, 15, 16, 5, 6, 7, 8, 9] (by decide) rfl) hS (lv_sub hl [1, 2, 3, 4, 0, 6] rfl)
        · rw [if_neg c126] at hf
          refine lv_iload hx hb d_Wr_walk_129 (lv_at hl 5 rfl) ?_
          refine lv_aload_n hx hb d_Wr_walk_131 rfl (lv_at hl 2 rfl) ?_
          refine lv_iload hx hb d_Wr_walk_132 (lv_at hl 5 rfl) ?_
          obtain ⟨o31, ho31⟩ : ∃ z, f_Tr_sizeOf p1_sizes p1_count l4 = some z := by
            cases hz : f_Tr_sizeOf p1_sizes p1_count l4 with
            | none => rw [hz] at hf; simp only [jb_none, jl_b_none, jm_none, reduceCtorEq] at hf
            | some z => exact ⟨z, rfl⟩
          rw [ho31, jb_some] at hf
          refine jCallV (As := [.int l4]) (rest := [.int l4]) (wr := [(h_t, .inr (6, [.ref h_t_shown, .ref h_t_draft])), (h_t_shown, .inr (0, [.ref h_t_shown_row, .int t_shown_length, .int t_shown_overrun])), (h_t_shown_row, .inl (cB, 8000, .inl t_shown_row)), (h_t_draft, .inr (0, [.ref h_t_draft_row, .int t_draft_length, .int t_draft_overrun])), (h_t_draft_row, .inl (cB, 8000, .inl t_draft_row)), (h_p2, .inr (2, [.ref h_p2_spelling, .ref h_p2_starts, .ref h_p2_newest, .ref h_p2_older, .int p2_count])), (h_p2_spelling, .inl (cB, 12288, .inl p2_spelling)), (h_p2_starts, .inl (cI, 4097, .inl p2_starts)), (h_p2_newest, .inl (cI, 1024, .inl p2_newest)), (h_p2_older, .inl (cI, 4096, .inl p2_older))]) ⟨hx, hb, hml, hown, hts⟩ hJ (c_Tr_sizeOf h_p1 h_p1_kinds h_p1_places h_p1_values h_p1_sizes h_p1_partCounts h_p1_wholes p1_kinds p1_places p1_values p1_sizes p1_partCounts p1_wholes p1_count l4 ho31) (cwV 1 hts (jgV jw414 jw416 jw417 jw153 jw415) rfl rfl rfl dd_Tr_sizeOf ⟨Nat.le_of_ble_eq_true rfl, Nat.le_of_ble_eq_true rfl⟩) hP hD hS hA (va_recv hK hP (ci := 5) (q0 := 5) rfl rfl) [5, 6, 7, 8, 9, 10, 11] [0, 1, 2, 3, 4, 12, 13, 14, 15, 16] rfl rfl (by decide) (by decide) (by decide) rfl hl.1 rfl (Nat.le_of_ble_eq_true rfl) d_Wr_walk_134 ⟨Nat.le_of_ble_eq_true rfl, Nat.le_of_ble_eq_true rfl⟩ (fun qz32 H locs hP hD hS => ?_)
          have hP : va_P (dC, dI) vwCl [(h_t, .inr (6, [.ref h_t_shown, .ref h_t_draft])), (h_t_shown, .inr (0, [.ref h_t_shown_row, .int t_shown_length, .int t_shown_overrun])), (h_t_shown_row, .inl (cB, 8000, .inl t_shown_row)), (h_t_draft, .inr (0, [.ref h_t_draft_row, .int t_draft_length, .int t_draft_overrun])), (h_t_draft_row, .inl (cB, 8000, .inl t_draft_row)), (h_p2, .inr (2, [.ref h_p2_spelling, .ref h_p2_starts, .ref h_p2_newest, .ref h_p2_older, .int p2_count])), (h_p2_spelling, .inl (cB, 12288, .inl p2_spelling)), (h_p2_starts, .inl (cI, 4097, .inl p2_starts)), (h_p2_newest, .inl (cI, 1024, .inl p2_newest)), (h_p2_older, .inl (cI, 4096, .inl p2_older)), (h_p1, .inr (5, [.ref h_p1_kinds, .ref h_p1_places, .ref h_p1_values, .ref h_p1_sizes, .ref h_p1_partCounts, .ref h_p1_wholes, .int p1_count])), (h_p1_kinds, .inl (cI, 8001, .inl p1_kinds)), (h_p1_places, .inl (cI, 8001, .inl p1_places)), (h_p1_values, .inl (cI, 8001, .inl p1_values)), (h_p1_sizes, .inl (cI, 8001, .inl p1_sizes)), (h_p1_partCounts, .inl (cI, 8001, .inl p1_partCounts)), (h_p1_wholes, .inl (cI, 8001, .inl p1_wholes))] H := hP
          have hD : va_D A [(h_t, .inr (6, [.ref h_t_shown, .ref h_t_draft])), (h_t_shown, .inr (0, [.ref h_t_shown_row, .int t_shown_length, .int t_shown_overrun])), (h_t_shown_row, .inl (cB, 8000, .inl t_shown_row)), (h_t_draft, .inr (0, [.ref h_t_draft_row, .int t_draft_length, .int t_draft_overrun])), (h_t_draft_row, .inl (cB, 8000, .inl t_draft_row)), (h_p2, .inr (2, [.ref h_p2_spelling, .ref h_p2_starts, .ref h_p2_newest, .ref h_p2_older, .int p2_count])), (h_p2_spelling, .inl (cB, 12288, .inl p2_spelling)), (h_p2_starts, .inl (cI, 4097, .inl p2_starts)), (h_p2_newest, .inl (cI, 1024, .inl p2_newest)), (h_p2_older, .inl (cI, 4096, .inl p2_older)), (h_p1, .inr (5, [.ref h_p1_kinds, .ref h_p1_places, .ref h_p1_values, .ref h_p1_sizes, .ref h_p1_partCounts, .ref h_p1_wholes, .int p1_count])), (h_p1_kinds, .inl (cI, 8001, .inl p1_kinds)), (h_p1_places, .inl (cI, 8001, .inl p1_places)), (h_p1_values, .inl (cI, 8001, .inl p1_values)), (h_p1_sizes, .inl (cI, 8001, .inl p1_sizes)), (h_p1_partCounts, .inl (cI, 8001, .inl p1_partCounts)), (h_p1_wholes, .inl (cI, 8001, .inl p1_wholes))] := hD
          refine lv_iadd hx hb d_Wr_walk_137 ?_
          refine lv_goto (tgt := 147) hx hb d_Wr_walk_138 (by decide) ?_
          exact B147 t_draft_row t_draft_length t_draft_overrun s0 l6 (l4 + o31) H locs ls hf (hP.sub [0, 1, 2, 3, 4, 10, 11, 12, 13, 14, 15, 16, 5, 6, 7, 8, 9] rfl) (hD.sub [0, 1, 2, 3, 4, 10, 11, 12, 13, 14, 15, 16, 5, 6, 7, 8, 9] (by decide) rfl) hS (lv_sub hl [1, 2, 3, 4, 0, 6] rfl)
      have B121 : ∀ (t_draft_row : (Nat → Int32)) (t_draft_length : Int32) (t_draft_overrun : Int32) (l4 : Int32) (l6 : Int32) (H : Heap) (locs : List Loc) (ls : Array Slot), jl_b (jl_n (Wr_walk_b15_b p1_kinds p1_places p1_values p1_sizes p1_partCounts p1_wholes p1_count p2_spelling p2_starts p2_count l3) n15) (Wr_walk_b121 p1_kinds p1_places p1_values p1_sizes p1_partCounts p1_wholes p1_count p2_spelling p2_starts p2_count t_draft_row t_draft_length t_draft_overrun l3 l4 l6) = some o → va_P (dC, dI) vwCl [(h_t, .inr (6, [.ref h_t_shown, .ref h_t_draft])), (h_t_shown, .inr (0, [.ref h_t_shown_row, .int t_shown_length, .int t_shown_overrun])), (h_t_shown_row, .inl (cB, 8000, .inl t_shown_row)), (h_t_draft, .inr (0, [.ref h_t_draft_row, .int t_draft_length, .int t_draft_overrun])), (h_t_draft_row, .inl (cB, 8000, .inl t_draft_row)), (h_p1, .inr (5, [.ref h_p1_kinds, .ref h_p1_places, .ref h_p1_values, .ref h_p1_sizes, .ref h_p1_partCounts, .ref h_p1_wholes, .int p1_count])), (h_p1_kinds, .inl (cI, 8001, .inl p1_kinds)), (h_p1_places, .inl (cI, 8001, .inl p1_places)), (h_p1_values, .inl (cI, 8001, .inl p1_values)), (h_p1_sizes, .inl (cI, 8001, .inl p1_sizes)), (h_p1_partCounts, .inl (cI, 8001, .inl p1_partCounts)), (h_p1_wholes, .inl (cI, 8001, .inl p1_wholes)), (h_p2, .inr (2, [.ref h_p2_spelling, .ref h_p2_starts, .ref h_p2_newest, .ref h_p2_older, .int p2_count])), (h_p2_spelling, .inl (cB, 12288, .inl p2_spelling)), (h_p2_starts, .inl (cI, 4097, .inl p2_starts)), (h_p2_newest, .inl (cI, 1024, .inl p2_newest)), (h_p2_older, .inl (cI, 4096, .inl p2_older))] H → va_D A [(h_t, .inr (6, [.ref h_t_shown, .ref h_t_draft])), (h_t_shown, .inr (0, [.ref h_t_shown_row, .int t_shown_length, .int t_shown_overrun])), (h_t_shown_row, .inl (cB, 8000, .inl t_shown_row)), (h_t_draft, .inr (0, [.ref h_t_draft_row, .int t_draft_length, .int t_draft_overrun])), (h_t_draft_row, .inl (cB, 8000, .inl t_draft_row)), (h_p1, .inr (5, [.ref h_p1_kinds, .ref h_p1_places, .ref h_p1_values, .ref h_p1_sizes, .ref h_p1_partCounts, .ref h_p1_wholes, .int p1_count])), (h_p1_kinds, .inl (cI, 8001, .inl p1_kinds)), (h_p1_places, .inl (cI, 8001, .inl p1_places)), (h_p1_values, .inl (cI, 8001, .inl p1_values)), (h_p1_sizes, .inl (cI, 8001, .inl p1_sizes)), (h_p1_partCounts, .inl (cI, 8001, .inl p1_partCounts)), (h_p1_wholes, .inl (cI, 8001, .inl p1_wholes)), (h_p2, .inr (2, [.ref h_p2_spelling, .ref h_p2_starts, .ref h_p2_newest, .ref h_p2_older, .int p2_count])), (h_p2_spelling, .inl (cB, 12288, .inl p2_spelling)), (h_p2_starts, .inl (cI, 4097, .inl p2_starts)), (h_p2_newest, .inl (cI, 1024, .inl p2_newest)), (h_p2_older, .inl (cI, 4096, .inl p2_older))] → va_S A s.heap H locs → lv_has ls 8 [(0, .ref h_t), (1, .ref h_p1), (2, .ref h_p2), (3, .int l3), (4, .int l4), (6, .int l6)] → W p l e { frames := 7, cells := 0, slots := 0, locals := 154 } s m args below meth c H locs 0 0 Q (F0 m 121 ls []) := by
        intro t_draft_row t_draft_length t_draft_overrun l4 l6 H locs ls hf hP hD hS hl
        unfold Wr_walk_b121 at hf
        refine lv_iconst (v := (0 : Int32)) hx hb d_Wr_walk_121 (by decide) ?_
        exact B122 t_draft_row t_draft_length t_draft_overrun l4 l6 (0 : Int32) H locs ls hf hP hD hS (lv_sub hl [0, 1, 2, 3, 4, 5] rfl)
      have B89 : ∀ (t_draft_row : (Nat → Int32)) (t_draft_length : Int32) (t_draft_overrun : Int32) (l5 : Int32) (l6 : Int32) (s0 : Int32) (H : Heap) (locs : List Loc) (ls : Array Slot), jl_b (jl_n (Wr_walk_b15_b p1_kinds p1_places p1_values p1_sizes p1_partCounts p1_wholes p1_count p2_spelling p2_starts p2_count l3) n15) (Wr_walk_b89 p1_kinds p1_places p1_values p1_sizes p1_partCounts p1_wholes p1_count p2_spelling p2_starts p2_count t_draft_row t_draft_length t_draft_overrun l3 l5 l6 s0) = some o → va_P (dC, dI) vwCl [(h_t, .inr (6, [.ref h_t_shown, .ref h_t_draft])), (h_t_shown, .inr (0, [.ref h_t_shown_row, .int t_shown_length, .int t_shown_overrun])), (h_t_shown_row, .inl (cB, 8000, .inl t_shown_row)), (h_t_draft, .inr (0, [.ref h_t_draft_row, .int t_draft_length, .int t_draft_overrun])), (h_t_draft_row, .inl (cB, 8000, .inl t_draft_row)), (h_p1, .inr (5, [.ref h_p1_kinds, .ref h_p1_places, .ref h_p1_values, .ref h_p1_sizes, .ref h_p1_partCounts, .ref h_p1_wholes, .int p1_count])), (h_p1_kinds, .inl (cI, 8001, .inl p1_kinds)), (h_p1_places, .inl (cI, 8001, .inl p1_places)), (h_p1_values, .inl (cI, 8001, .inl p1_values)), (h_p1_sizes, .inl (cI, 8001, .inl p1_sizes)), (h_p1_partCounts, .inl (cI, 8001, .inl p1_partCounts)), (h_p1_wholes, .inl (cI, 8001, .inl p1_wholes)), (h_p2, .inr (2, [.ref h_p2_spelling, .ref h_p2_starts, .ref h_p2_newest, .ref h_p2_older, .int p2_count])), (h_p2_spelling, .inl (cB, 12288, .inl p2_spelling)), (h_p2_starts, .inl (cI, 4097, .inl p2_starts)), (h_p2_newest, .inl (cI, 1024, .inl p2_newest)), (h_p2_older, .inl (cI, 4096, .inl p2_older))] H → va_D A [(h_t, .inr (6, [.ref h_t_shown, .ref h_t_draft])), (h_t_shown, .inr (0, [.ref h_t_shown_row, .int t_shown_length, .int t_shown_overrun])), (h_t_shown_row, .inl (cB, 8000, .inl t_shown_row)), (h_t_draft, .inr (0, [.ref h_t_draft_row, .int t_draft_length, .int t_draft_overrun])), (h_t_draft_row, .inl (cB, 8000, .inl t_draft_row)), (h_p1, .inr (5, [.ref h_p1_kinds, .ref h_p1_places, .ref h_p1_values, .ref h_p1_sizes, .ref h_p1_partCounts, .ref h_p1_wholes, .int p1_count])), (h_p1_kinds, .inl (cI, 8001, .inl p1_kinds)), (h_p1_places, .inl (cI, 8001, .inl p1_places)), (h_p1_values, .inl (cI, 8001, .inl p1_values)), (h_p1_sizes, .inl (cI, 8001, .inl p1_sizes)), (h_p1_partCounts, .inl (cI, 8001, .inl p1_partCounts)), (h_p1_wholes, .inl (cI, 8001, .inl p1_wholes)), (h_p2, .inr (2, [.ref h_p2_spelling, .ref h_p2_starts, .ref h_p2_newest, .ref h_p2_older, .int p2_count])), (h_p2_spelling, .inl (cB, 12288, .inl p2_spelling)), (h_p2_starts, .inl (cI, 4097, .inl p2_starts)), (h_p2_newest, .inl (cI, 1024, .inl p2_newest)), (h_p2_older, .inl (cI, 4096, .inl p2_older))] → va_S A s.heap H locs → lv_has ls 8 [(0, .ref h_t), (1, .ref h_p1), (2, .ref h_p2), (3, .int l3), (5, .int l5), (6, .int l6)] → W p l e { frames := 7, cells := 0, slots := 0, locals := 154 } s m args below meth c H locs 0 0 Q (F0 m 89 ls [.int s0]) := by
        intro t_draft_row t_draft_length t_draft_overrun l5 l6 s0 H locs ls hf hP hD hS hl
        unfold Wr_walk_b89 at hf
        refine lv_istore (lv' := [(4, .int s0), (0, .ref h_t), (1, .ref h_p1), (2, .ref h_p2), (3, .int l3), (5, .int l5), (6, .int l6)]) hx hb d_Wr_walk_89 hl (by decide) rfl (fun ls hl => ?_)
        refine lv_goto (tgt := 149) hx hb d_Wr_walk_91 (by decide) ?_
        exact B149 t_draft_row t_draft_length t_draft_overrun s0 l5 l6 H locs ls hf hP hD hS (lv_sub hl [1, 2, 3, 4, 0, 5, 6] rfl)
      have B73 : ∀ (t_draft_row : (Nat → Int32)) (t_draft_length : Int32) (t_draft_overrun : Int32) (l4 : Int32) (l6 : Int32) (s0 : Int32) (H : Heap) (locs : List Loc) (ls : Array Slot), jl_b (jl_n (Wr_walk_b15_b p1_kinds p1_places p1_values p1_sizes p1_partCounts p1_wholes p1_count p2_spelling p2_starts p2_count l3) n15) (Wr_walk_b73 p1_kinds p1_places p1_values p1_sizes p1_partCounts p1_wholes p1_count p2_spelling p2_starts p2_count t_draft_row t_draft_length t_draft_overrun l3 l4 l6 s0) = some o → va_P (dC, dI) vwCl [(h_t, .inr (6, [.ref h_t_shown, .ref h_t_draft])), (h_t_shown, .inr (0, [.ref h_t_shown_row, .int t_shown_length, .int t_shown_overrun])), (h_t_shown_row, .inl (cB, 8000, .inl t_shown_row)), (h_t_draft, .inr (0, [.ref h_t_draft_row, .int t_draft_length, .int t_draft_overrun])), (h_t_draft_row, .inl (cB, 8000, .inl t_draft_row)), (h_p1, .inr (5, [.ref h_p1_kinds, .ref h_p1_places, .ref h_p1_values, .ref h_p1_sizes, .ref h_p1_partCounts, .ref h_p1_wholes, .int p1_count])), (h_p1_kinds, .inl (cI, 8001, .inl p1_kinds)), (h_p1_places, .inl (cI, 8001, .inl p1_places)), (h_p1_values, .inl (cI, 8001, .inl p1_values)), (h_p1_sizes, .inl (cI, 8001, .inl p1_sizes)), (h_p1_partCounts, .inl (cI, 8001, .inl p1_partCounts)), (h_p1_wholes, .inl (cI, 8001, .inl p1_wholes)), (h_p2, .inr (2, [.ref h_p2_spelling, .ref h_p2_starts, .ref h_p2_newest, .ref h_p2_older, .int p2_count])), (h_p2_spelling, .inl (cB, 12288, .inl p2_spelling)), (h_p2_starts, .inl (cI, 4097, .inl p2_starts)), (h_p2_newest, .inl (cI, 1024, .inl p2_newest)), (h_p2_older, .inl (cI, 4096, .inl p2_older))] H → va_D A [(h_t, .inr (6, [.ref h_t_shown, .ref h_t_draft])), (h_t_shown, .inr (0, [.ref h_t_shown_row, .int t_shown_length, .int t_shown_overrun])), (h_t_shown_row, .inl (cB, 8000, .inl t_shown_row)), (h_t_draft, .inr (0, [.ref h_t_draft_row, .int t_draft_length, .int t_draft_overrun])), (h_t_draft_row, .inl (cB, 8000, .inl t_draft_row)), (h_p1, .inr (5, [.ref h_p1_kinds, .ref h_p1_places, .ref h_p1_values, .ref h_p1_sizes, .ref h_p1_partCounts, .ref h_p1_wholes, .int p1_count])), (h_p1_kinds, .inl (cI, 8001, .inl p1_kinds)), (h_p1_places, .inl (cI, 8001, .inl p1_places)), (h_p1_values, .inl (cI, 8001, .inl p1_values)), (h_p1_sizes, .inl (cI, 8001, .inl p1_sizes)), (h_p1_partCounts, .inl (cI, 8001, .inl p1_partCounts)), (h_p1_wholes, .inl (cI, 8001, .inl p1_wholes)), (h_p2, .inr (2, [.ref h_p2_spelling, .ref h_p2_starts, .ref h_p2_newest, .ref h_p2_older, .int p2_count])), (h_p2_spelling, .inl (cB, 12288, .inl p2_spelling)), (h_p2_starts, .inl (cI, 4097, .inl p2_starts)), (h_p2_newest, .inl (cI, 1024, .inl p2_newest)), (h_p2_older, .inl (cI, 4096, .inl p2_older))] → va_S A s.heap H locs → lv_has ls 8 [(0, .ref h_t), (1, .ref h_p1), (2, .ref h_p2), (3, .int l3), (4, .int l4), (6, .int l6)] → W p l e { frames := 7, cells := 0, slots := 0, locals := 154 } s m args below meth c H locs 0 0 Q (F0 m 73 ls [.int s0]) := by
        intro t_draft_row t_draft_length t_draft_overrun l4 l6 s0 H locs ls hf hP hD hS hl
        unfold Wr_walk_b73 at hf
        refine lv_istore (lv' := [(5, .int s0), (0, .ref h_t), (1, .ref h_p1), (2, .ref h_p2), (3, .int l3), (4, .int l4), (6, .int l6)]) hx hb d_Wr_walk_73 hl (by decide) rfl (fun ls hl => ?_)
        refine lv_iload hx hb d_Wr_walk_75 (lv_at hl 0 rfl) ?_
        refine lv_if_eq (tgt := 87) hx hb d_Wr_walk_77 (by decide) (fun c77 => ?_) (fun c77 => ?_)
        · rw [if_pos c77] at hf
          refine lv_iload hx hb d_Wr_walk_87 (lv_at hl 5 rfl) ?_
          exact B89 t_draft_row t_draft_length t_draft_overrun s0 l6 l4 H locs ls hf hP hD hS (lv_sub hl [1, 2, 3, 4, 0, 6] rfl)
        · rw [if_neg c77] at hf
          refine lv_iload hx hb d_Wr_walk_80 (lv_at hl 5 rfl) ?_
          refine lv_iconst (v := (1 : Int32)) hx hb d_Wr_walk_82 (by decide) ?_
          refine lv_iadd hx hb d_Wr_walk_83 ?_
          refine lv_goto (tgt := 89) hx hb d_Wr_walk_84 (by decide) ?_
          exact B89 t_draft_row t_draft_length t_draft_overrun s0 l6 (l4 + (1 : Int32)) H locs ls hf hP hD hS (lv_sub hl [1, 2, 3, 4, 0, 6] rfl)
      have B41 : ∀ (t_draft_row : (Nat → Int32)) (t_draft_length : Int32) (t_draft_overrun : Int32) (l4 : Int32) (l5 : Int32) (l6 : Int32) (s0 : Int32) (H : Heap) (locs : List Loc) (ls : Array Slot), jl_b (jl_n (Wr_walk_b15_b p1_kinds p1_places p1_values p1_sizes p1_partCounts p1_wholes p1_count p2_spelling p2_starts p2_count l3) n15) (Wr_walk_b41 p1_kinds p1_places p1_values p1_sizes p1_partCounts p1_wholes p1_count p2_spelling p2_starts p2_count t_draft_row t_draft_length t_draft_overrun l3 l4 l5 l6 s0) = some o → va_P (dC, dI) vwCl [(h_t, .inr (6, [.ref h_t_shown, .ref h_t_draft])), (h_t_shown, .inr (0, [.ref h_t_shown_row, .int t_shown_length, .int t_shown_overrun])), (h_t_shown_row, .inl (cB, 8000, .inl t_shown_row)), (h_t_draft, .inr (0, [.ref h_t_draft_row, .int t_draft_length, .int t_draft_overrun])), (h_t_draft_row, .inl (cB, 8000, .inl t_draft_row)), (h_p1, .inr (5, [.ref h_p1_kinds, .ref h_p1_places, .ref h_p1_values, .ref h_p1_sizes, .ref h_p1_partCounts, .ref h_p1_wholes, .int p1_count])), (h_p1_kinds, .inl (cI, 8001, .inl p1_kinds)), (h_p1_places, .inl (cI, 8001, .inl p1_places)), (h_p1_values, .inl (cI, 8001, .inl p1_values)), (h_p1_sizes, .inl (cI, 8001, .inl p1_sizes)), (h_p1_partCounts, .inl (cI, 8001, .inl p1_partCounts)), (h_p1_wholes, .inl (cI, 8001, .inl p1_wholes)), (h_p2, .inr (2, [.ref h_p2_spelling, .ref h_p2_starts, .ref h_p2_newest, .ref h_p2_older, .int p2_count])), (h_p2_spelling, .inl (cB, 12288, .inl p2_spelling)), (h_p2_starts, .inl (cI, 4097, .inl p2_starts)), (h_p2_newest, .inl (cI, 1024, .inl p2_newest)), (h_p2_older, .inl (cI, 4096, .inl p2_older))] H → va_D A [(h_t, .inr (6, [.ref h_t_shown, .ref h_t_draft])), (h_t_shown, .inr (0, [.ref h_t_shown_row, .int t_shown_length, .int t_shown_overrun])), (h_t_shown_row, .inl (cB, 8000, .inl t_shown_row)), (h_t_draft, .inr (0, [.ref h_t_draft_row, .int t_draft_length, .int t_draft_overrun])), (h_t_draft_row, .inl (cB, 8000, .inl t_draft_row)), (h_p1, .inr (5, [.ref h_p1_kinds, .ref h_p1_places, .ref h_p1_values, .ref h_p1_sizes, .ref h_p1_partCounts, .ref h_p1_wholes, .int p1_count])), (h_p1_kinds, .inl (cI, 8001, .inl p1_kinds)), (h_p1_places, .inl (cI, 8001, .inl p1_places)), (h_p1_values, .inl (cI, 8001, .inl p1_values)), (h_p1_sizes, .inl (cI, 8001, .inl p1_sizes)), (h_p1_partCounts, .inl (cI, 8001, .inl p1_partCounts)), (h_p1_wholes, .inl (cI, 8001, .inl p1_wholes)), (h_p2, .inr (2, [.ref h_p2_spelling, .ref h_p2_starts, .ref h_p2_newest, .ref h_p2_older, .int p2_count])), (h_p2_spelling, .inl (cB, 12288, .inl p2_spelling)), (h_p2_starts, .inl (cI, 4097, .inl p2_starts)), (h_p2_newest, .inl (cI, 1024, .inl p2_newest)), (h_p2_older, .inl (cI, 4096, .inl p2_older))] → va_S A s.heap H locs → lv_has ls 8 [(0, .ref h_t), (1, .ref h_p1), (2, .ref h_p2), (3, .int l3), (4, .int l4), (5, .int l5), (6, .int l6)] → W p l e { frames := 7, cells := 0, slots := 0, locals := 154 } s m args below meth c H locs 0 0 Q (F0 m 41 ls [.int s0]) := by
        intro t_draft_row t_draft_length t_draft_overrun l4 l5 l6 s0 H locs ls hf hP hD hS hl
        unfold Wr_walk_b41 at hf
        refine lv_istore (lv' := [(7, .int s0), (0, .ref h_t), (1, .ref h_p1), (2, .ref h_p2), (3, .int l3), (4, .int l4), (5, .int l5), (6, .int l6)]) hx hb d_Wr_walk_41 hl (by decide) rfl (fun ls hl => ?_)
        refine lv_iload hx hb d_Wr_walk_43 (lv_at hl 6 rfl) ?_
        refine lv_if_eq (tgt := 94) hx hb d_Wr_walk_45 (by decide) (fun c45 => ?_) (fun c45 => ?_)
        · rw [if_pos c45] at hf
          refine lv_aload_n hx hb d_Wr_walk_94 rfl (lv_at hl 1 rfl) ?_
          refine lv_aload_n hx hb d_Wr_walk_95 rfl (lv_at hl 2 rfl) ?_
          refine lv_iload hx hb d_Wr_walk_96 (lv_at hl 5 rfl) ?_
          refine lv_iload hx hb d_Wr_walk_98 (lv_at hl 0 rfl) ?_
          obtain ⟨o33, ho33⟩ : ∃ z, f_Wr_leave p1_kinds p1_places p1_values p1_sizes p1_partCounts p1_wholes p1_count t_draft_row t_draft_length t_draft_overrun l4 s0 = some z := by
            cases hz : f_Wr_leave p1_kinds p1_places p1_values p1_sizes p1_partCounts p1_wholes p1_count t_draft_row t_draft_length t_draft_overrun l4 s0 with
            | none => rw [hz] at hf; simp only [jb_none, jl_b_none, jm_none, reduceCtorEq] at hf
            | some z => exact ⟨z, rfl⟩
          rw [ho33, jb_some] at hf
          refine jCallV (As := [.ref h_p1, .int l4, .int s0]) (rest := []) (wr := [(h_p2, .inr (2, [.ref h_p2_spelling, .ref h_p2_starts, .ref h_p2_newest, .ref h_p2_older, .int p2_count])), (h_p2_spelling, .inl (cB, 12288, .inl p2_spelling)), (h_p2_starts, .inl (cI, 4097, .inl p2_starts)), (h_p2_newest, .inl (cI, 1024, .inl p2_newest)), (h_p2_older, .inl (cI, 4096, .inl p2_older))]) ⟨hx, hb, hml, hown, hts⟩ hJ (c_Wr_leave h_t h_t_shown h_t_shown_row h_t_draft h_t_draft_row h_p1 h_p1_kinds h_p1_places h_p1_values h_p1_sizes h_p1_partCounts h_p1_wholes t_shown_row t_shown_length t_shown_overrun t_draft_row t_draft_length t_draft_overrun p1_kinds p1_places p1_values p1_sizes p1_partCounts p1_wholes p1_count l4 s0 ho33) (cwV 3 hts (jgV jw419 jw421 jw422 jw356 jw420) rfl rfl rfl dd_Wr_leave ⟨Nat.le_of_ble_eq_true rfl, Nat.le_of_ble_eq_true rfl⟩) hP hD hS hA (va_recv hK hP (ci := 6) (q0 := 0) rfl rfl) [0, 1, 2, 3, 4, 5, 6, 7, 8, 9, 10, 11] [12, 13, 14, 15, 16] rfl rfl (by decide) (by decide) (by decide) rfl hl.1 rfl (Nat.le_of_ble_eq_true rfl) d_Wr_walk_100 ⟨Nat.le_of_ble_eq_true rfl, Nat.le_of_ble_eq_true rfl⟩ (fun qz34 H locs hP hD hS => ?_)
          have hP : va_P (dC, dI) vwCl [(h_p2, .inr (2, [.ref h_p2_spelling, .ref h_p2_starts, .ref h_p2_newest, .ref h_p2_older, .int p2_count])), (h_p2_spelling, .inl (cB, 12288, .inl p2_spelling)), (h_p2_starts, .inl (cI, 4097, .inl p2_starts)), (h_p2_newest, .inl (cI, 1024, .inl p2_newest)), (h_p2_older, .inl (cI, 4096, .inl p2_older)), (h_t, .inr (6, [.ref h_t_shown, .ref h_t_draft])), (h_t_shown, .inr (0, [.ref h_t_shown_row, .int t_shown_length, .int t_shown_overrun])), (h_t_shown_row, .inl (cB, 8000, .inl t_shown_row)), (h_t_draft, .inr (0, [.ref h_t_draft_row, .int o33.2.1, .int o33.2.2])), (h_t_draft_row, .inl (cB, 8000, .inl o33.1)), (h_p1, .inr (5, [.ref h_p1_kinds, .ref h_p1_places, .ref h_p1_values, .ref h_p1_sizes, .ref h_p1_partCounts, .ref h_p1_wholes, .int p1_count])), (h_p1_kinds, .inl (cI, 8001, .inl p1_kinds)), (h_p1_places, .inl (cI, 8001, .inl p1_places)), (h_p1_values, .inl (cI, 8001, .inl p1_values)), (h_p1_sizes, .inl (cI, 8001, .inl p1_sizes)), (h_p1_partCounts, .inl (cI, 8001, .inl p1_partCounts)), (h_p1_wholes, .inl (cI, 8001, .inl p1_wholes))] H := hP
          have hD : va_D A [(h_p2, .inr (2, [.ref h_p2_spelling, .ref h_p2_starts, .ref h_p2_newest, .ref h_p2_older, .int p2_count])), (h_p2_spelling, .inl (cB, 12288, .inl p2_spelling)), (h_p2_starts, .inl (cI, 4097, .inl p2_starts)), (h_p2_newest, .inl (cI, 1024, .inl p2_newest)), (h_p2_older, .inl (cI, 4096, .inl p2_older)), (h_t, .inr (6, [.ref h_t_shown, .ref h_t_draft])), (h_t_shown, .inr (0, [.ref h_t_shown_row, .int t_shown_length, .int t_shown_overrun])), (h_t_shown_row, .inl (cB, 8000, .inl t_shown_row)), (h_t_draft, .inr (0, [.ref h_t_draft_row, .int o33.2.1, .int o33.2.2])), (h_t_draft_row, .inl (cB, 8000, .inl o33.1)), (h_p1, .inr (5, [.ref h_p1_kinds, .ref h_p1_places, .ref h_p1_values, .ref h_p1_sizes, .ref h_p1_partCounts, .ref h_p1_wholes, .int p1_count])), (h_p1_kinds, .inl (cI, 8001, .inl p1_kinds)), (h_p1_places, .inl (cI, 8001, .inl p1_places)), (h_p1_values, .inl (cI, 8001, .inl p1_values)), (h_p1_sizes, .inl (cI, 8001, .inl p1_sizes)), (h_p1_partCounts, .inl (cI, 8001, .inl p1_partCounts)), (h_p1_wholes, .inl (cI, 8001, .inl p1_wholes))] := hD
          refine lv_iload hx hb d_Wr_walk_103 (lv_at hl 0 rfl) ?_
          refine lv_if_ne (tgt := 121) hx hb d_Wr_walk_105 (by decide) (fun c105 => ?_) (fun c105 => ?_)
          · rw [if_neg c105] at hf
            exact B121 o33.1 o33.2.1 o33.2.2 l4 l6 H locs ls hf (hP.sub [5, 6, 7, 8, 9, 10, 11, 12, 13, 14, 15, 16, 0, 1, 2, 3, 4] rfl) (hD.sub [5, 6, 7, 8, 9, 10, 11, 12, 13, 14, 15, 16, 0, 1, 2, 3, 4] (by decide) rfl) hS (lv_sub hl [1, 2, 3, 4, 5, 7] rfl)
          · rw [if_pos c105] at hf
            refine lv_aload_n hx hb d_Wr_walk_108 rfl (lv_at hl 2 rfl) ?_
            refine lv_iload hx hb d_Wr_walk_109 (lv_at hl 5 rfl) ?_
            obtain ⟨o35, ho35⟩ : ∃ z, f_Tr_isLastPart p1_sizes p1_wholes p1_count l4 = some z := by
              cases hz : f_Tr_isLastPart p1_sizes p1_wholes p1_count l4 with
              | none => rw [hz] at hf; simp only [jb_none, jl_b_none, jm_none, reduceCtorEq] at hf
              | some z => exact ⟨z, rfl⟩
            rw [ho35, jb_some] at hf
            refine jCallV (As := [.int l4]) (rest := []) (wr := [(h_p2, .inr (2, [.ref h_p2_spelling, .ref h_p2_starts, .ref h_p2_newest, .ref h_p2_older, .int p2_count])), (h_p2_spelling, .inl (cB, 12288, .inl p2_spelling)), (h_p2_starts, .inl (cI, 4097, .inl p2_starts)), (h_p2_newest, .inl (cI, 1024, .inl p2_newest)), (h_p2_older, .inl (cI, 4096, .inl p2_older)), (h_t, .inr (6, [.ref h_t_shown, .ref h_t_draft])), (h_t_shown, .inr (0, [.ref h_t_shown_row, .int t_shown_length, .int t_shown_overrun])), (h_t_shown_row, .inl (cB, 8000, .inl t_shown_row)), (h_t_draft, .inr (0, [.ref h_t_draft_row, .int o33.2.1, .int o33.2.2])), (h_t_draft_row, .inl (cB, 8000, .inl o33.1))]) ⟨hx, hb, hml, hown, hts⟩ hJ (c_Tr_isLastPart h_p1 h_p1_kinds h_p1_places h_p1_values h_p1_sizes h_p1_partCounts h_p1_wholes p1_kinds p1_places p1_values p1_sizes p1_partCounts p1_wholes p1_count l4 ho35) (cwV 1 hts (jgV jw383 jw385 jw386 jw153 jw384) rfl rfl rfl dd_Tr_isLastPart ⟨Nat.le_of_ble_eq_true rfl, Nat.le_of_ble_eq_true rfl⟩) hP hD hS hA (va_recv hK hP (ci := 5) (q0 := 10) rfl rfl) [10, 11, 12, 13, 14, 15, 16] [0, 1, 2, 3, 4, 5, 6, 7, 8, 9] rfl rfl (by decide) (by decide) (by decide) rfl hl.1 rfl (Nat.le_of_ble_eq_true rfl) d_Wr_walk_111 ⟨Nat.le_of_ble_eq_true rfl, Nat.le_of_ble_eq_true rfl⟩ (fun qz36 H locs hP hD hS => ?_)
            have hP : va_P (dC, dI) vwCl [(h_p2, .inr (2, [.ref h_p2_spelling, .ref h_p2_starts, .ref h_p2_newest, .ref h_p2_older, .int p2_count])), (h_p2_spelling, .inl (cB, 12288, .inl p2_spelling)), (h_p2_starts, .inl (cI, 4097, .inl p2_starts)), (h_p2_newest, .inl (cI, 1024, .inl p2_newest)), (h_p2_older, .inl (cI, 4096, .inl p2_older)), (h_t, .inr (6, [.ref h_t_shown, .ref h_t_draft])), (h_t_shown, .inr (0, [.ref h_t_shown_row, .int t_shown_length, .int t_shown_overrun])), (h_t_shown_row, .inl (cB, 8000, .inl t_shown_row)), (h_t_draft, .inr (0, [.ref h_t_draft_row, .int o33.2.1, .int o33.2.2])), (h_t_draft_row, .inl (cB, 8000, .inl o33.1)), (h_p1, .inr (5, [.ref h_p1_kinds, .ref h_p1_places, .ref h_p1_values, .ref h_p1_sizes, .ref h_p1_partCounts, .ref h_p1_wholes, .int p1_count])), (h_p1_kinds, .inl (cI, 8001, .inl p1_kinds)), (h_p1_places, .inl (cI, 8001, .inl p1_places)), (h_p1_values, .inl (cI, 8001, .inl p1_values)), (h_p1_sizes, .inl (cI, 8001, .inl p1_sizes)), (h_p1_partCounts, .inl (cI, 8001, .inl p1_partCounts)), (h_p1_wholes, .inl (cI, 8001, .inl p1_wholes))] H := hP
            have hD : va_D A [(h_p2, .inr (2, [.ref h_p2_spelling, .ref h_p2_starts, .ref h_p2_newest, .ref h_p2_older, .int p2_count])), (h_p2_spelling, .inl (cB, 12288, .inl p2_spelling)), (h_p2_starts, .inl (cI, 4097, .inl p2_starts)), (h_p2_newest, .inl (cI, 1024, .inl p2_newest)), (h_p2_older, .inl (cI, 4096, .inl p2_older)), (h_t, .inr (6, [.ref h_t_shown, .ref h_t_draft])), (h_t_shown, .inr (0, [.ref h_t_shown_row, .int t_shown_length, .int t_shown_overrun])), (h_t_shown_row, .inl (cB, 8000, .inl t_shown_row)), (h_t_draft, .inr (0, [.ref h_t_draft_row, .int o33.2.1, .int o33.2.2])), (h_t_draft_row, .inl (cB, 8000, .inl o33.1)), (h_p1, .inr (5, [.ref h_p1_kinds, .ref h_p1_places, .ref h_p1_values, .ref h_p1_sizes, .ref h_p1_partCounts, .ref h_p1_wholes, .int p1_count])), (h_p1_kinds, .inl (cI, 8001, .inl p1_kinds)), (h_p1_places, .inl (cI, 8001, .inl p1_places)), (h_p1_values, .inl (cI, 8001, .inl p1_values)), (h_p1_sizes, .inl (cI, 8001, .inl p1_sizes)), (h_p1_partCounts, .inl (cI, 8001, .inl p1_partCounts)), (h_p1_wholes, .inl (cI, 8001, .inl p1_wholes))] := hD
            refine lv_if_ne (tgt := 121) hx hb d_Wr_walk_114 (by decide) (fun c114 => ?_) (fun c114 => ?_)
            · rw [if_neg c114] at hf
              exact B121 o33.1 o33.2.1 o33.2.2 l4 l6 H locs ls hf (hP.sub [5, 6, 7, 8, 9, 10, 11, 12, 13, 14, 15, 16, 0, 1, 2, 3, 4] rfl) (hD.sub [5, 6, 7, 8, 9, 10, 11, 12, 13, 14, 15, 16, 0, 1, 2, 3, 4] (by decide) rfl) hS (lv_sub hl [1, 2, 3, 4, 5, 7] rfl)
            · rw [if_pos c114] at hf
              refine lv_iconst (v := (1 : Int32)) hx hb d_Wr_walk_117 (by decide) ?_
              refine lv_goto (tgt := 122) hx hb d_Wr_walk_118 (by decide) ?_
              exact B122 o33.1 o33.2.1 o33.2.2 l4 l6 (1 : Int32) H locs ls hf (hP.sub [5, 6, 7, 8, 9, 10, 11, 12, 13, 14, 15, 16, 0, 1, 2, 3, 4] rfl) (hD.sub [5, 6, 7, 8, 9, 10, 11, 12, 13, 14, 15, 16, 0, 1, 2, 3, 4] (by decide) rfl) hS (lv_sub hl [1, 2, 3, 4, 5, 7] rfl)
        · rw [if_neg c45] at hf
          refine lv_aload_n hx hb d_Wr_walk_48 rfl (lv_at hl 1 rfl) ?_
          refine lv_aload_n hx hb d_Wr_walk_49 rfl (lv_at hl 2 rfl) ?_
          refine lv_aload_n hx hb d_Wr_walk_50 rfl (lv_at hl 3 rfl) ?_
          refine lv_iload hx hb d_Wr_walk_51 (lv_at hl 5 rfl) ?_
          refine lv_iload hx hb d_Wr_walk_53 (lv_at hl 0 rfl) ?_
          obtain ⟨o37, ho37⟩ : ∃ z, f_Wr_enter p1_kinds p1_places p1_values p1_sizes p1_partCounts p1_wholes p1_count p2_spelling p2_starts p2_count t_draft_row t_draft_length t_draft_overrun l4 s0 = some z := by
            cases hz : f_Wr_enter p1_kinds p1_places p1_values p1_sizes p1_partCounts p1_wholes p1_count p2_spelling p2_starts p2_count t_draft_row t_draft_length t_draft_overrun l4 s0 with
            | none => rw [hz] at hf; simp only [jb_none, jl_b_none, jm_none, reduceCtorEq] at hf
            | some z => exact ⟨z, rfl⟩
          rw [ho37, jb_some] at hf
          refine jCallV (As := [.ref h_p1, .ref h_p2, .int l4, .int s0]) (rest := []) (wr := []) ⟨hx, hb, hml, hown, hts⟩ hJ (c_Wr_enter h_t h_t_shown h_t_shown_row h_t_draft h_t_draft_row h_p1 h_p1_kinds h_p1_places h_p1_values h_p1_sizes h_p1_partCounts h_p1_wholes h_p2 h_p2_spelling h_p2_starts h_p2_newest h_p2_older t_shown_row t_shown_length t_shown_overrun t_draft_row t_draft_length t_draft_overrun p1_kinds p1_places p1_values p1_sizes p1_partCounts p1_wholes p1_count p2_spelling p2_starts p2_newest p2_older p2_count l4 s0 ho37) (cwV 4 hts (jgV jw423 jw425 jw426 jw356 jw424) rfl rfl rfl dd_Wr_enter ⟨Nat.le_of_ble_eq_true rfl, Nat.le_of_ble_eq_true rfl⟩) hP hD hS hA (va_recv hK hP (ci := 6) (q0 := 0) rfl rfl) [0, 1, 2, 3, 4, 5, 6, 7, 8, 9, 10, 11, 12, 13, 14, 15, 16] [] rfl rfl (by decide) (by decide) (by decide) rfl hl.1 rfl (Nat.le_of_ble_eq_true rfl) d_Wr_walk_55 ⟨Nat.le_of_ble_eq_true rfl, Nat.le_of_ble_eq_true rfl⟩ (fun qz38 H locs hP hD hS => ?_)
          have hP : va_P (dC, dI) vwCl [(h_t, .inr (6, [.ref h_t_shown, .ref h_t_draft])), (h_t_shown, .inr (0, [.ref h_t_shown_row, .int t_shown_length, .int t_shown_overrun])), (h_t_shown_row, .inl (cB, 8000, .inl t_shown_row)), (h_t_draft, .inr (0, [.ref h_t_draft_row, .int o37.2.1, .int o37.2.2])), (h_t_draft_row, .inl (cB, 8000, .inl o37.1)), (h_p1, .inr (5, [.ref h_p1_kinds, .ref h_p1_places, .ref h_p1_values, .ref h_p1_sizes, .ref h_p1_partCounts, .ref h_p1_wholes, .int p1_count])), (h_p1_kinds, .inl (cI, 8001, .inl p1_kinds)), (h_p1_places, .inl (cI, 8001, .inl p1_places)), (h_p1_values, .inl (cI, 8001, .inl p1_values)), (h_p1_sizes, .inl (cI, 8001, .inl p1_sizes)), (h_p1_partCounts, .inl (cI, 8001, .inl p1_partCounts)), (h_p1_wholes, .inl (cI, 8001, .inl p1_wholes)), (h_p2, .inr (2, [.ref h_p2_spelling, .ref h_p2_starts, .ref h_p2_newest, .ref h_p2_older, .int p2_count])), (h_p2_spelling, .inl (cB, 12288, .inl p2_spelling)), (h_p2_starts, .inl (cI, 4097, .inl p2_starts)), (h_p2_newest, .inl (cI, 1024, .inl p2_newest)), (h_p2_older, .inl (cI, 4096, .inl p2_older))] H := hP
          have hD : va_D A [(h_t, .inr (6, [.ref h_t_shown, .ref h_t_draft])), (h_t_shown, .inr (0, [.ref h_t_shown_row, .int t_shown_length, .int t_shown_overrun])), (h_t_shown_row, .inl (cB, 8000, .inl t_shown_row)), (h_t_draft, .inr (0, [.ref h_t_draft_row, .int o37.2.1, .int o37.2.2])), (h_t_draft_row, .inl (cB, 8000, .inl o37.1)), (h_p1, .inr (5, [.ref h_p1_kinds, .ref h_p1_places, .ref h_p1_values, .ref h_p1_sizes, .ref h_p1_partCounts, .ref h_p1_wholes, .int p1_count])), (h_p1_kinds, .inl (cI, 8001, .inl p1_kinds)), (h_p1_places, .inl (cI, 8001, .inl p1_places)), (h_p1_values, .inl (cI, 8001, .inl p1_values)), (h_p1_sizes, .inl (cI, 8001, .inl p1_sizes)), (h_p1_partCounts, .inl (cI, 8001, .inl p1_partCounts)), (h_p1_wholes, .inl (cI, 8001, .inl p1_wholes)), (h_p2, .inr (2, [.ref h_p2_spelling, .ref h_p2_starts, .ref h_p2_newest, .ref h_p2_older, .int p2_count])), (h_p2_spelling, .inl (cB, 12288, .inl p2_spelling)), (h_p2_starts, .inl (cI, 4097, .inl p2_starts)), (h_p2_newest, .inl (cI, 1024, .inl p2_newest)), (h_p2_older, .inl (cI, 4096, .inl p2_older))] := hD
          refine lv_aload_n hx hb d_Wr_walk_58 rfl (lv_at hl 2 rfl) ?_
          refine lv_iload hx hb d_Wr_walk_59 (lv_at hl 5 rfl) ?_
          obtain ⟨o39, ho39⟩ : ∃ z, f_Tr_sizeOf p1_sizes p1_count l4 = some z := by
            cases hz : f_Tr_sizeOf p1_sizes p1_count l4 with
            | none => rw [hz] at hf; simp only [jb_none, jl_b_none, jm_none, reduceCtorEq] at hf
            | some z => exact ⟨z, rfl⟩
          rw [ho39, jb_some] at hf
          refine jCallV (As := [.int l4]) (rest := []) (wr := [(h_t, .inr (6, [.ref h_t_shown, .ref h_t_draft])), (h_t_shown, .inr (0, [.ref h_t_shown_row, .int t_shown_length, .int t_shown_overrun])), (h_t_shown_row, .inl (cB, 8000, .inl t_shown_row)), (h_t_draft, .inr (0, [.ref h_t_draft_row, .int o37.2.1, .int o37.2.2])), (h_t_draft_row, .inl (cB, 8000, .inl o37.1)), (h_p2, .inr (2, [.ref h_p2_spelling, .ref h_p2_starts, .ref h_p2_newest, .ref h_p2_older, .int p2_count])), (h_p2_spelling, .inl (cB, 12288, .inl p2_spelling)), (h_p2_starts, .inl (cI, 4097, .inl p2_starts)), (h_p2_newest, .inl (cI, 1024, .inl p2_newest)), (h_p2_older, .inl (cI, 4096, .inl p2_older))]) ⟨hx, hb, hml, hown, hts⟩ hJ (c_Tr_sizeOf h_p1 h_p1_kinds h_p1_places h_p1_values h_p1_sizes h_p1_partCounts h_p1_wholes p1_kinds p1_places p1_values p1_sizes p1_partCounts p1_wholes p1_count l4 ho39) (cwV 1 hts (jgV jw414 jw416 jw417 jw153 jw415) rfl rfl rfl dd_Tr_sizeOf ⟨Nat.le_of_ble_eq_true rfl, Nat.le_of_ble_eq_true rfl⟩) hP hD hS hA (va_recv hK hP (ci := 5) (q0 := 5) rfl rfl) [5, 6, 7, 8, 9, 10, 11] [0, 1, 2, 3, 4, 12, 13, 14, 15, 16] rfl rfl (by decide) (by decide) (by decide) rfl hl.1 rfl (Nat.le_of_ble_eq_true rfl) d_Wr_walk_61 ⟨Nat.le_of_ble_eq_true rfl, Nat.le_of_ble_eq_true rfl⟩ (fun qz40 H locs hP hD hS => ?_)
          have hP : va_P (dC, dI) vwCl [(h_t, .inr (6, [.ref h_t_shown, .ref h_t_draft])), (h_t_shown, .inr (0, [.ref h_t_shown_row, .int t_shown_length, .int t_shown_overrun])), (h_t_shown_row, .inl (cB, 8000, .inl t_shown_row)), (h_t_draft, .inr (0, [.ref h_t_draft_row, .int o37.2.1, .int o37.2.2])), (h_t_draft_row, .inl (cB, 8000, .inl o37.1)), (h_p2, .inr (2, [.ref h_p2_spelling, .ref h_p2_starts, .ref h_p2_newest, .ref h_p2_older, .int p2_count])), (h_p2_spelling, .inl (cB, 12288, .inl p2_spelling)), (h_p2_starts, .inl (cI, 4097, .inl p2_starts)), (h_p2_newest, .inl (cI, 1024, .inl p2_newest)), (h_p2_older, .inl (cI, 4096, .inl p2_older)), (h_p1, .inr (5, [.ref h_p1_kinds, .ref h_p1_places, .ref h_p1_values, .ref h_p1_sizes, .ref h_p1_partCounts, .ref h_p1_wholes, .int p1_count])), (h_p1_kinds, .inl (cI, 8001, .inl p1_kinds)), (h_p1_places, .inl (cI, 8001, .inl p1_places)), (h_p1_values, .inl (cI, 8001, .inl p1_values)), (h_p1_sizes, .inl (cI, 8001, .inl p1_sizes)), (h_p1_partCounts, .inl (cI, 8001, .inl p1_partCounts)), (h_p1_wholes, .inl (cI, 8001, .inl p1_wholes))] H := hP
          have hD : va_D A [(h_t, .inr (6, [.ref h_t_shown, .ref h_t_draft])), (h_t_shown, .inr (0, [.ref h_t_shown_row, .int t_shown_length, .int t_shown_overrun])), (h_t_shown_row, .inl (cB, 8000, .inl t_shown_row)), (h_t_draft, .inr (0, [.ref h_t_draft_row, .int o37.2.1, .int o37.2.2])), (h_t_draft_row, .inl (cB, 8000, .inl o37.1)), (h_p2, .inr (2, [.ref h_p2_spelling, .ref h_p2_starts, .ref h_p2_newest, .ref h_p2_older, .int p2_count])), (h_p2_spelling, .inl (cB, 12288, .inl p2_spelling)), (h_p2_starts, .inl (cI, 4097, .inl p2_starts)), (h_p2_newest, .inl (cI, 1024, .inl p2_newest)), (h_p2_older, .inl (cI, 4096, .inl p2_older)), (h_p1, .inr (5, [.ref h_p1_kinds, .ref h_p1_places, .ref h_p1_values, .ref h_p1_sizes, .ref h_p1_partCounts, .ref h_p1_wholes, .int p1_count])), (h_p1_kinds, .inl (cI, 8001, .inl p1_kinds)), (h_p1_places, .inl (cI, 8001, .inl p1_places)), (h_p1_values, .inl (cI, 8001, .inl p1_values)), (h_p1_sizes, .inl (cI, 8001, .inl p1_sizes)), (h_p1_partCounts, .inl (cI, 8001, .inl p1_partCounts)), (h_p1_wholes, .inl (cI, 8001, .inl p1_wholes))] := hD
          refine lv_iconst (v := (1 : Int32)) hx hb d_Wr_walk_64 (by decide) ?_
          refine lv_icmp_le (tgt := 72) hx hb d_Wr_walk_65 (by decide) (fun c65 => ?_) (fun c65 => ?_)
          · rw [if_pos c65] at hf
            refine lv_iconst (v := (0 : Int32)) hx hb d_Wr_walk_72 (by decide) ?_
            exact B73 o37.1 o37.2.1 o37.2.2 l4 l6 (0 : Int32) H locs ls hf (hP.sub [0, 1, 2, 3, 4, 10, 11, 12, 13, 14, 15, 16, 5, 6, 7, 8, 9] rfl) (hD.sub [0, 1, 2, 3, 4, 10, 11, 12, 13, 14, 15, 16, 5, 6, 7, 8, 9] (by decide) rfl) hS (lv_sub hl [1, 2, 3, 4, 5, 7] rfl)
          · rw [if_neg c65] at hf
            refine lv_iconst (v := (1 : Int32)) hx hb d_Wr_walk_68 (by decide) ?_
            refine lv_goto (tgt := 73) hx hb d_Wr_walk_69 (by decide) ?_
            exact B73 o37.1 o37.2.1 o37.2.2 l4 l6 (1 : Int32) H locs ls hf (hP.sub [0, 1, 2, 3, 4, 10, 11, 12, 13, 14, 15, 16, 5, 6, 7, 8, 9] rfl) (hD.sub [0, 1, 2, 3, 4, 10, 11, 12, 13, 14, 15, 16, 5, 6, 7, 8, 9] (by decide) rfl) hS (lv_sub hl [1, 2, 3, 4, 5, 7] rfl)
      unfold Wr_walk_b15_s at hf
      refine lv_iload hx hb d_Wr_walk_15 (lv_at hl 6 rfl) ?_
      refine lv_if_le (tgt := 155) hx hb d_Wr_walk_17 (by decide) (fun c17 => ?_) (fun c17 => ?_)
      · rw [if_pos c17] at hf
        have hf : (some (t_draft_row, t_draft_length, t_draft_overrun) : Option ((Nat → Int32) × Int32 × Int32)) = some o := hf
        rw [hQ, ← Option.some.inj hf]
        exact jVret hx hb hr hlocks d_Wr_walk_155 (fun _ => 0) hS hP hD
      · rw [if_neg c17] at hf
        refine lv_aload_n hx hb d_Wr_walk_20 rfl (lv_at hl 0 rfl) ?_
        refine va_get (D := (dC, dI)) (ci := 6) (v := .ref h_t_draft) (C := R_Wr) (T := T_Wr) (N := 2) hx hb hts (fun w h => List.mem_cons_of_mem _ (in_Wr w h)) hown hK hP 0 rfl rfl 1 (by decide) (hts _ (List.mem_cons_of_mem _ jw348)) (fun _ h9 => h9) rfl d_Wr_walk_21 ?_
        refine va_get (D := (dC, dI)) (ci := 0) (v := .int t_draft_overrun) (C := R_By) (T := T_By) (N := 3) hx hb hts (fun w h => List.mem_cons_of_mem _ (in_By w h)) hown hK hP 3 rfl rfl 2 (by decide) (hts _ (List.mem_cons_of_mem _ jw418)) (fun _ h9 => h9) rfl d_Wr_walk_24 ?_
        refine lv_if_ne (tgt := 155) hx hb d_Wr_walk_27 (by decide) (fun c27 => ?_) (fun c27 => ?_)
        · rw [if_neg c27] at hf
          have hf : (some (t_draft_row, t_draft_length, t_draft_overrun) : Option ((Nat → Int32) × Int32 × Int32)) = some o := hf
          rw [hQ, ← Option.some.inj hf]
          exact jVret hx hb hr hlocks d_Wr_walk_155 (fun _ => 0) hS hP hD
        · rw [if_pos c27] at hf
          refine lv_iload hx hb d_Wr_walk_30 (lv_at hl 4 rfl) ?_
          refine lv_iload_n hx hb d_Wr_walk_32 rfl (lv_at hl 3 rfl) ?_
          refine lv_icmp_ne (tgt := 40) hx hb d_Wr_walk_33 (by decide) (fun c33 => ?_) (fun c33 => ?_)
          · rw [if_neg c33] at hf
            refine lv_iconst (v := (0 : Int32)) hx hb d_Wr_walk_40 (by decide) ?_
            exact B41 t_draft_row t_draft_length t_draft_overrun l4 l5 l6 (0 : Int32) H locs ls hf hP hD hS (lv_sub hl [0, 1, 2, 3, 4, 5, 6] rfl)
          · rw [if_pos c33] at hf
            refine lv_iconst (v := (1 : Int32)) hx hb d_Wr_walk_36 (by decide) ?_
            refine lv_goto (tgt := 41) hx hb d_Wr_walk_37 (by decide) ?_
            exact B41 t_draft_row t_draft_length t_draft_overrun l4 l5 l6 (1 : Int32) H locs ls hf hP hD hS (lv_sub hl [0, 1, 2, 3, 4, 5, 6] rfl)
  unfold f_Wr_walk at hf
  refine lv_iload_n hx hb d_Wr_walk_0 rfl (lv_at hl 3 rfl) ?_
  refine lv_istore (lv' := [(4, .int a3), (0, .ref h_t), (1, .ref h_p1), (2, .ref h_p2), (3, .int a3)]) hx hb d_Wr_walk_1 hl (by decide) rfl (fun ls hl => ?_)
  refine lv_iconst (v := (1 : Int32)) hx hb d_Wr_walk_3 (by decide) ?_
  refine lv_istore (lv' := [(5, .int (1 : Int32)), (4, .int a3), (0, .ref h_t), (1, .ref h_p1), (2, .ref h_p2), (3, .int a3)]) hx hb d_Wr_walk_4 hl (by decide) rfl (fun ls hl => ?_)
  refine lv_iconst (v := (2 : Int32)) hx hb d_Wr_walk_6 (by decide) ?_
  refine lv_aload_n hx hb d_Wr_walk_7 rfl (lv_at hl 3 rfl) ?_
  refine lv_iload_n hx hb d_Wr_walk_8 rfl (lv_at hl 5 rfl) ?_
  obtain ⟨o41, ho41⟩ : ∃ z, f_Tr_sizeOf p1_sizes p1_count a3 = some z := by
    cases hz : f_Tr_sizeOf p1_sizes p1_count a3 with
    | none => rw [hz] at hf; simp only [jb_none, jl_b_none, jm_none, reduceCtorEq] at hf
    | some z => exact ⟨z, rfl⟩
  rw [ho41, jb_some] at hf
  refine jCallV (As := [.int a3]) (rest := [.int (2 : Int32)]) (wr := [(h_t, .inr (6, [.ref h_t_shown, .ref h_t_draft])), (h_t_shown, .inr (0, [.ref h_t_shown_row, .int t_shown_length, .int t_shown_overrun])), (h_t_shown_row, .inl (cB, 8000, .inl t_shown_row)), (h_t_draft, .inr (0, [.ref h_t_draft_row, .int t_draft_length, .int t_draft_overrun])), (h_t_draft_row, .inl (cB, 8000, .inl t_draft_row)), (h_p2, .inr (2, [.ref h_p2_spelling, .ref h_p2_starts, .ref h_p2_newest, .ref h_p2_older, .int p2_count])), (h_p2_spelling, .inl (cB, 12288, .inl p2_spelling)), (h_p2_starts, .inl (cI, 4097, .inl p2_starts)), (h_p2_newest, .inl (cI, 1024, .inl p2_newest)), (h_p2_older, .inl (cI, 4096, .inl p2_older))]) ⟨hx, hb, hml, hown, hts⟩ hJ (c_Tr_sizeOf h_p1 h_p1_kinds h_p1_places h_p1_values h_p1_sizes h_p1_partCounts h_p1_wholes p1_kinds p1_places p1_values p1_sizes p1_partCounts p1_wholes p1_count a3 ho41) (cwV 1 hts (jgV jw414 jw416 jw417 jw153 jw415) rfl rfl rfl dd_Tr_sizeOf ⟨Nat.le_of_ble_eq_true rfl, Nat.le_of_ble_eq_true rfl⟩) hP hD hS hA (va_recv hK hP (ci := 5) (q0 := 5) rfl rfl) [5, 6, 7, 8, 9, 10, 11] [0, 1, 2, 3, 4, 12, 13, 14, 15, 16] rfl rfl (by decide) (by decide) (by decide) rfl hl.1 rfl (Nat.le_of_ble_eq_true rfl) d_Wr_walk_9 ⟨Nat.le_of_ble_eq_true rfl, Nat.le_of_ble_eq_true rfl⟩ (fun qz42 H locs hP hD hS => ?_)
  have hP : va_P (dC, dI) vwCl [(h_t, .inr (6, [.ref h_t_shown, .ref h_t_draft])), (h_t_shown, .inr (0, [.ref h_t_shown_row, .int t_shown_length, .int t_shown_overrun])), (h_t_shown_row, .inl (cB, 8000, .inl t_shown_row)), (h_t_draft, .inr (0, [.ref h_t_draft_row, .int t_draft_length, .int t_draft_overrun])), (h_t_draft_row, .inl (cB, 8000, .inl t_draft_row)), (h_p2, .inr (2, [.ref h_p2_spelling, .ref h_p2_starts, .ref h_p2_newest, .ref h_p2_older, .int p2_count])), (h_p2_spelling, .inl (cB, 12288, .inl p2_spelling)), (h_p2_starts, .inl (cI, 4097, .inl p2_starts)), (h_p2_newest, .inl (cI, 1024, .inl p2_newest)), (h_p2_older, .inl (cI, 4096, .inl p2_older)), (h_p1, .inr (5, [.ref h_p1_kinds, .ref h_p1_places, .ref h_p1_values, .ref h_p1_sizes, .ref h_p1_partCounts, .ref h_p1_wholes, .int p1_count])), (h_p1_kinds, .inl (cI, 8001, .inl p1_kinds)), (h_p1_places, .inl (cI, 8001, .inl p1_places)), (h_p1_values, .inl (cI, 8001, .inl p1_values)), (h_p1_sizes, .inl (cI, 8001, .inl p1_sizes)), (h_p1_partCounts, .inl (cI, 8001, .inl p1_partCounts)), (h_p1_wholes, .inl (cI, 8001, .inl p1_wholes))] H := hP
  have hD : va_D A [(h_t, .inr (6, [.ref h_t_shown, .ref h_t_draft])), (h_t_shown, .inr (0, [.ref h_t_shown_row, .int t_shown_length, .int t_shown_overrun])), (h_t_shown_row, .inl (cB, 8000, .inl t_shown_row)), (h_t_draft, .inr (0, [.ref h_t_draft_row, .int t_draft_length, .int t_draft_overrun])), (h_t_draft_row, .inl (cB, 8000, .inl t_draft_row)), (h_p2, .inr (2, [.ref h_p2_spelling, .ref h_p2_starts, .ref h_p2_newest, .ref h_p2_older, .int p2_count])), (h_p2_spelling, .inl (cB, 12288, .inl p2_spelling)), (h_p2_starts, .inl (cI, 4097, .inl p2_starts)), (h_p2_newest, .inl (cI, 1024, .inl p2_newest)), (h_p2_older, .inl (cI, 4096, .inl p2_older)), (h_p1, .inr (5, [.ref h_p1_kinds, .ref h_p1_places, .ref h_p1_values, .ref h_p1_sizes, .ref h_p1_partCounts, .ref h_p1_wholes, .int p1_count])), (h_p1_kinds, .inl (cI, 8001, .inl p1_kinds)), (h_p1_places, .inl (cI, 8001, .inl p1_places)), (h_p1_values, .inl (cI, 8001, .inl p1_values)), (h_p1_sizes, .inl (cI, 8001, .inl p1_sizes)), (h_p1_partCounts, .inl (cI, 8001, .inl p1_partCounts)), (h_p1_wholes, .inl (cI, 8001, .inl p1_wholes))] := hD
  refine lv_imul hx hb d_Wr_walk_12 ?_
  refine lv_istore (lv' := [(6, .int ((2 : Int32) * o41)), (5, .int (1 : Int32)), (4, .int a3), (0, .ref h_t), (1, .ref h_p1), (2, .ref h_p2), (3, .int a3)]) hx hb d_Wr_walk_13 hl (by decide) rfl (fun ls hl => ?_)
  unfold Wr_walk_b15 at hf
  obtain ⟨nn, en⟩ := jl_ex (Wr_walk_b15_b p1_kinds p1_places p1_values p1_sizes p1_partCounts p1_wholes p1_count p2_spelling p2_starts p2_count a3) (t_draft_row, t_draft_length, t_draft_overrun, a3, (1 : Int32), ((2 : Int32) * o41))
  rw [en] at hf
  exact L15 nn t_draft_row t_draft_length t_draft_overrun a3 a3 (1 : Int32) ((2 : Int32) * o41) H locs ls hf (hP.sub [0, 1, 2, 3, 4, 10, 11, 12, 13, 14, 15, 16, 5, 6, 7, 8, 9] rfl) (hD.sub [0, 1, 2, 3, 4, 10, 11, 12, 13, 14, 15, 16, 5, 6, 7, 8, 9] (by decide) rfl) hS (lv_sub hl [3, 4, 5, 6, 2, 1, 0] rfl)
theorem d_Wr_show_0 : decode b_Wr_show 0 = .ok (.aload_n 0, 1) := by decide +kernel
theorem d_Wr_show_1 : decode b_Wr_show 1 = .ok (.getfield 18, 3) := by decide +kernel
theorem d_Wr_show_4 : decode b_Wr_show 4 = .ok (.invokevirtual 21, 3) := by decide +kernel
theorem d_Wr_show_7 : decode b_Wr_show 7 = .ok (.aload_n 0, 1) := by decide +kernel
theorem d_Wr_show_8 : decode b_Wr_show 8 = .ok (.aload_n 1, 1) := by decide +kernel
theorem d_Wr_show_9 : decode b_Wr_show 9 = .ok (.aload_n 2, 1) := by decide +kernel
theorem d_Wr_show_10 : decode b_Wr_show 10 = .ok (.iload_n 3, 1) := by decide +kernel
theorem d_Wr_show_11 : decode b_Wr_show 11 = .ok (.invokevirtual 24, 3) := by decide +kernel
theorem d_Wr_show_14 : decode b_Wr_show 14 = .ok (.aload_n 0, 1) := by decide +kernel
theorem d_Wr_show_15 : decode b_Wr_show 15 = .ok (.getfield 18, 3) := by decide +kernel
theorem d_Wr_show_18 : decode b_Wr_show 18 = .ok (.getfield 28, 3) := by decide +kernel
theorem d_Wr_show_21 : decode b_Wr_show 21 = .ok (.ifCond .eq 5, 3) := by decide +kernel
theorem d_Wr_show_24 : decode b_Wr_show 24 = .ok (.iconst (-1), 1) := by decide +kernel
theorem d_Wr_show_25 : decode b_Wr_show 25 = .ok (.ireturn, 1) := by decide +kernel
theorem d_Wr_show_26 : decode b_Wr_show 26 = .ok (.aload_n 0, 1) := by decide +kernel
theorem d_Wr_show_27 : decode b_Wr_show 27 = .ok (.getfield 12, 3) := by decide +kernel
theorem d_Wr_show_30 : decode b_Wr_show 30 = .ok (.astore 4, 2) := by decide +kernel
theorem d_Wr_show_32 : decode b_Wr_show 32 = .ok (.aload_n 0, 1) := by decide +kernel
theorem d_Wr_show_33 : decode b_Wr_show 33 = .ok (.aload_n 0, 1) := by decide +kernel
theorem d_Wr_show_34 : decode b_Wr_show 34 = .ok (.getfield 18, 3) := by decide +kernel
theorem d_Wr_show_37 : decode b_Wr_show 37 = .ok (.putfield 12, 3) := by decide +kernel
theorem d_Wr_show_40 : decode b_Wr_show 40 = .ok (.aload_n 0, 1) := by decide +kernel
theorem d_Wr_show_41 : decode b_Wr_show 41 = .ok (.aload 4, 2) := by decide +kernel
theorem d_Wr_show_43 : decode b_Wr_show 43 = .ok (.putfield 18, 3) := by decide +kernel
theorem d_Wr_show_46 : decode b_Wr_show 46 = .ok (.aload_n 0, 1) := by decide +kernel
theorem d_Wr_show_47 : decode b_Wr_show 47 = .ok (.getfield 12, 3) := by decide +kernel
theorem d_Wr_show_50 : decode b_Wr_show 50 = .ok (.getfield 32, 3) := by decide +kernel
theorem d_Wr_show_53 : decode b_Wr_show 53 = .ok (.ireturn, 1) := by decide +kernel
noncomputable def f_Wr_show (p1_kinds : (Nat → Int32)) (p1_places : (Nat → Int32)) (p1_values : (Nat → Int32)) (p1_sizes : (Nat → Int32)) (p1_partCounts : (Nat → Int32)) (p1_wholes : (Nat → Int32)) (p1_count : Int32) (p2_spelling : (Nat → Int32)) (p2_starts : (Nat → Int32)) (p2_count : Int32) (t_shown_row : (Nat → Int32)) (t_shown_length : Int32) (t_shown_overrun : Int32) (t_draft_row : (Nat → Int32)) (t_draft_length : Int32) (t_draft_overrun : Int32) (a3 : Int32) : Option (Int32 × (Nat → Int32) × Int32 × Int32 × (Nat → Int32) × Int32 × Int32) := jb (f_By_clear t_draft_length t_draft_overrun) (fun o5 => jb (f_Wr_walk p1_kinds p1_places p1_values p1_sizes p1_partCounts p1_wholes p1_count p2_spelling p2_starts p2_count t_draft_row o5.1 o5.2 a3) (fun o7 => if o7.2.2 = 0 then (some (o7.2.1, o7.1, o7.2.1, o7.2.2, t_shown_row, t_shown_length, t_shown_overrun)) else (some ((-1 : Int32), t_shown_row, t_shown_length, t_shown_overrun, o7.1, o7.2.1, o7.2.2))))
set_option maxHeartbeats 4000000 in
set_option maxRecDepth 100000 in
theorem c_Wr_show {l : Launch} {dC : Nat → ClassId} {dI : Nat → Nat → Nat} {cI cB cS : ClassId} {adK adV adR : Nat → Nat} (h_t h_t_shown h_t_shown_row h_t_draft h_t_draft_row h_p1 h_p1_kinds h_p1_places h_p1_values h_p1_sizes h_p1_partCounts h_p1_wholes h_p2 h_p2_spelling h_p2_starts h_p2_newest h_p2_older : Nat) (t_shown_row : (Nat → Int32)) (t_shown_length : Int32) (t_shown_overrun : Int32) (t_draft_row : (Nat → Int32)) (t_draft_length : Int32) (t_draft_overrun : Int32) (p1_kinds : (Nat → Int32)) (p1_places : (Nat → Int32)) (p1_values : (Nat → Int32)) (p1_sizes : (Nat → Int32)) (p1_partCounts : (Nat → Int32)) (p1_wholes : (Nat → Int32)) (p1_count : Int32) (p2_spelling : (Nat → Int32)) (p2_starts : (Nat → Int32)) (p2_newest : (Nat → Int32)) (p2_older : (Nat → Int32)) (p2_count : Int32) (a3 : Int32) {o : (Int32 × (Nat → Int32) × Int32 × Int32 × (Nat → Int32) × Int32 × Int32)} (hf : f_Wr_show p1_kinds p1_places p1_values p1_sizes p1_partCounts p1_wholes p1_count p2_spelling p2_starts p2_count t_shown_row t_shown_length t_shown_overrun t_draft_row t_draft_length t_draft_overrun a3 = some o) : jMet l dC dI cI cB cS adK adV adR y_Wr_show wd_Wr_show { frames := 8, cells := 0, slots := 0, locals := 181 } [.ref h_t, .ref h_p1, .ref h_p2, .int a3] [(h_t, .inr (6, [.ref h_t_shown, .ref h_t_draft])), (h_t_shown, .inr (0, [.ref h_t_shown_row, .int t_shown_length, .int t_shown_overrun])), (h_t_shown_row, .inl (cB, 8000, .inl t_shown_row)), (h_t_draft, .inr (0, [.ref h_t_draft_row, .int t_draft_length, .int t_draft_overrun])), (h_t_draft_row, .inl (cB, 8000, .inl t_draft_row)), (h_p1, .inr (5, [.ref h_p1_kinds, .ref h_p1_places, .ref h_p1_values, .ref h_p1_sizes, .ref h_p1_partCounts, .ref h_p1_wholes, .int p1_count])), (h_p1_kinds, .inl (cI, 8001, .inl p1_kinds)), (h_p1_places, .inl (cI, 8001, .inl p1_places)), (h_p1_values, .inl (cI, 8001, .inl p1_values)), (h_p1_sizes, .inl (cI, 8001, .inl p1_sizes)), (h_p1_partCounts, .inl (cI, 8001, .inl p1_partCounts)), (h_p1_wholes, .inl (cI, 8001, .inl p1_wholes)), (h_p2, .inr (2, [.ref h_p2_spelling, .ref h_p2_starts, .ref h_p2_newest, .ref h_p2_older, .int p2_count])), (h_p2_spelling, .inl (cB, 12288, .inl p2_spelling)), (h_p2_starts, .inl (cI, 4097, .inl p2_starts)), (h_p2_newest, .inl (cI, 1024, .inl p2_newest)), (h_p2_older, .inl (cI, 4096, .inl p2_older))] (some (.int o.1)) (fun q => [(h_t, .inr (6, [.ref (q 0), .ref (q 2)])), ((q 0), .inr (0, [.ref (q 1), .int o.2.2.1, .int o.2.2.2.1])), ((q 1), .inl (cB, 8000, .inl o.2.1)), ((q 2), .inr (0, [.ref (q 3), .int o.2.2.2.2.2.1, .int o.2.2.2.2.2.2])), ((q 3), .inl (cB, 8000, .inl o.2.2.2.2.1)), (h_p1, .inr (5, [.ref h_p1_kinds, .ref h_p1_places, .ref h_p1_values, .ref h_p1_sizes, .ref h_p1_partCounts, .ref h_p1_wholes, .int p1_count])), (h_p1_kinds, .inl (cI, 8001, .inl p1_kinds)), (h_p1_places, .inl (cI, 8001, .inl p1_places)), (h_p1_values, .inl (cI, 8001, .inl p1_values)), (h_p1_sizes, .inl (cI, 8001, .inl p1_sizes)), (h_p1_partCounts, .inl (cI, 8001, .inl p1_partCounts)), (h_p1_wholes, .inl (cI, 8001, .inl p1_wholes)), (h_p2, .inr (2, [.ref h_p2_spelling, .ref h_p2_starts, .ref h_p2_newest, .ref h_p2_older, .int p2_count])), (h_p2_spelling, .inl (cB, 12288, .inl p2_spelling)), (h_p2_starts, .inl (cI, 4097, .inl p2_starts)), (h_p2_newest, .inl (cI, 1024, .inl p2_newest)), (h_p2_older, .inl (cI, 4096, .inl p2_older))]) 0 0 := by
  refine jEntry (cc := b_Wr_show) (maxL := 5) (ret := (some .int)) (by decide) rfl (Nat.le_of_ble_eq_true rfl) rfl (fun p e s m args below meth c A H locs ls Q hQ hx hb hr hml hown hts hlocks hnm hJ hA hP hD hS hl => ?_)
  have hK := hJ.K
  have hl : lv_has ls 5 [(0, .ref h_t), (1, .ref h_p1), (2, .ref h_p2), (3, .int a3)] := hl
  unfold f_Wr_show at hf
  refine lv_aload_n hx hb d_Wr_show_0 rfl (lv_at hl 0 rfl) ?_
  refine va_get (D := (dC, dI)) (ci := 6) (v := .ref h_t_draft) (C := R_Wr) (T := T_Wr) (N := 2) hx hb hts (fun w h => List.mem_cons_of_mem _ (in_Wr w h)) hown hK hP 0 rfl rfl 1 (by decide) (hts _ (List.mem_cons_of_mem _ jw348)) (fun _ h9 => h9) rfl d_Wr_show_1 ?_
  obtain ⟨o9, ho9⟩ : ∃ z, f_By_clear t_draft_length t_draft_overrun = some z := by
    cases hz : f_By_clear t_draft_length t_draft_overrun with
    | none => rw [hz] at hf; simp only [jb_none, jl_b_none, jm_none, reduceCtorEq] at hf
    | some z => exact ⟨z, rfl⟩
  rw [ho9, jb_some] at hf
  refine jCallV (As := []) (rest := []) (wr := [(h_t, .inr (6, [.ref h_t_shown, .ref h_t_draft])), (h_t_shown, .inr (0, [.ref h_t_shown_row, .int t_shown_length, .int t_shown_overrun])), (h_t_shown_row, .inl (cB, 8000, .inl t_shown_row)), (h_p1, .inr (5, [.ref h_p1_kinds, .ref h_p1_places, .ref h_p1_values, .ref h_p1_sizes, .ref h_p1_partCounts, .ref h_p1_wholes, .int p1_count])), (h_p1_kinds, .inl (cI, 8001, .inl p1_kinds)), (h_p1_places, .inl (cI, 8001, .inl p1_places)), (h_p1_values, .inl (cI, 8001, .inl p1_values)), (h_p1_sizes, .inl (cI, 8001, .inl p1_sizes)), (h_p1_partCounts, .inl (cI, 8001, .inl p1_partCounts)), (h_p1_wholes, .inl (cI, 8001, .inl p1_wholes)), (h_p2, .inr (2, [.ref h_p2_spelling, .ref h_p2_starts, .ref h_p2_newest, .ref h_p2_older, .int p2_count])), (h_p2_spelling, .inl (cB, 12288, .inl p2_spelling)), (h_p2_starts, .inl (cI, 4097, .inl p2_starts)), (h_p2_newest, .inl (cI, 1024, .inl p2_newest)), (h_p2_older, .inl (cI, 4096, .inl p2_older))]) ⟨hx, hb, hml, hown, hts⟩ hJ (c_By_clear h_t_draft h_t_draft_row t_draft_row t_draft_length t_draft_overrun ho9) (cwV 0 hts (jgV jw427 jw429 jw430 jw33 jw428) rfl rfl rfl dd_By_clear ⟨Nat.le_of_ble_eq_true rfl, Nat.le_of_ble_eq_true rfl⟩) hP hD hS hA (va_recv hK hP (ci := 0) (q0 := 3) rfl rfl) [3, 4] [0, 1, 2, 5, 6, 7, 8, 9, 10, 11, 12, 13, 14, 15, 16] rfl rfl (by decide) (by decide) (by decide) rfl hl.1 rfl (Nat.le_of_ble_eq_true rfl) d_Wr_show_4 ⟨Nat.le_of_ble_eq_true rfl, Nat.le_of_ble_eq_true rfl⟩ (fun qz10 H locs hP hD hS => ?_)
  have hP : va_P (dC, dI) vwCl [(h_t, .inr (6, [.ref h_t_shown, .ref h_t_draft])), (h_t_shown, .inr (0, [.ref h_t_shown_row, .int t_shown_length, .int t_shown_overrun])), (h_t_shown_row, .inl (cB, 8000, .inl t_shown_row)), (h_p1, .inr (5, [.ref h_p1_kinds, .ref h_p1_places, .ref h_p1_values, .ref h_p1_sizes, .ref h_p1_partCounts, .ref h_p1_wholes, .int p1_count])), (h_p1_kinds, .inl (cI, 8001, .inl p1_kinds)), (h_p1_places, .inl (cI, 8001, .inl p1_places)), (h_p1_values, .inl (cI, 8001, .inl p1_values)), (h_p1_sizes, .inl (cI, 8001, .inl p1_sizes)), (h_p1_partCounts, .inl (cI, 8001, .inl p1_partCounts)), (h_p1_wholes, .inl (cI, 8001, .inl p1_wholes)), (h_p2, .inr (2, [.ref h_p2_spelling, .ref h_p2_starts, .ref h_p2_newest, .ref h_p2_older, .int p2_count])), (h_p2_spelling, .inl (cB, 12288, .inl p2_spelling)), (h_p2_starts, .inl (cI, 4097, .inl p2_starts)), (h_p2_newest, .inl (cI, 1024, .inl p2_newest)), (h_p2_older, .inl (cI, 4096, .inl p2_older)), (h_t_draft, .inr (0, [.ref h_t_draft_row, .int o9.1, .int o9.2])), (h_t_draft_row, .inl (cB, 8000, .inl t_draft_row))] H := hP
  have hD : va_D A [(h_t, .inr (6, [.ref h_t_shown, .ref h_t_draft])), (h_t_shown, .inr (0, [.ref h_t_shown_row, .int t_shown_length, .int t_shown_overrun])), (h_t_shown_row, .inl (cB, 8000, .inl t_shown_row)), (h_p1, .inr (5, [.ref h_p1_kinds, .ref h_p1_places, .ref h_p1_values, .ref h_p1_sizes, .ref h_p1_partCounts, .ref h_p1_wholes, .int p1_count])), (h_p1_kinds, .inl (cI, 8001, .inl p1_kinds)), (h_p1_places, .inl (cI, 8001, .inl p1_places)), (h_p1_values, .inl (cI, 8001, .inl p1_values)), (h_p1_sizes, .inl (cI, 8001, .inl p1_sizes)), (h_p1_partCounts, .inl (cI, 8001, .inl p1_partCounts)), (h_p1_wholes, .inl (cI, 8001, .inl p1_wholes)), (h_p2, .inr (2, [.ref h_p2_spelling, .ref h_p2_starts, .ref h_p2_newest, .ref h_p2_older, .int p2_count])), (h_p2_spelling, .inl (cB, 12288, .inl p2_spelling)), (h_p2_starts, .inl (cI, 4097, .inl p2_starts)), (h_p2_newest, .inl (cI, 1024, .inl p2_newest)), (h_p2_older, .inl (cI, 4096, .inl p2_older)), (h_t_draft, .inr (0, [.ref h_t_draft_row, .int o9.1, .int o9.2])), (h_t_draft_row, .inl (cB, 8000, .inl t_draft_row))] := hD
  refine lv_aload_n hx hb d_Wr_show_7 rfl (lv_at hl 0 rfl) ?_
  refine lv_aload_n hx hb d_Wr_show_8 rfl (lv_at hl 1 rfl) ?_
  refine lv_aload_n hx hb d_Wr_show_9 rfl (lv_at hl 2 rfl) ?_
  refine lv_iload_n hx hb d_Wr_show_10 rfl (lv_at hl 3 rfl) ?_
  obtain ⟨o11, ho11⟩ : ∃ z, f_Wr_walk p1_kinds p1_places p1_values p1_sizes p1_partCounts p1_wholes p1_count p2_spelling p2_starts p2_count t_draft_row o9.1 o9.2 a3 = some z := by
    cases hz : f_Wr_walk p1_kinds p1_places p1_values p1_sizes p1_partCounts p1_wholes p1_count p2_spelling p2_starts p2_count t_draft_row o9.1 o9.2 a3 with
    | none => rw [hz] at hf; simp only [jb_none, jl_b_none, jm_none, reduceCtorEq] at hf
    | some z => exact ⟨z, rfl⟩
  rw [ho11, jb_some] at hf
  refine jCallV (As := [.ref h_p1, .ref h_p2, .int a3]) (rest := []) (wr := []) ⟨hx, hb, hml, hown, hts⟩ hJ (c_Wr_walk h_t h_t_shown h_t_shown_row h_t_draft h_t_draft_row h_p1 h_p1_kinds h_p1_places h_p1_values h_p1_sizes h_p1_partCounts h_p1_wholes h_p2 h_p2_spelling h_p2_starts h_p2_newest h_p2_older t_shown_row t_shown_length t_shown_overrun t_draft_row o9.1 o9.2 p1_kinds p1_places p1_values p1_sizes p1_partCounts p1_wholes p1_count p2_spelling p2_starts p2_newest p2_older p2_count a3 ho11) (cwV 3 hts (jgV jw431 jw433 jw434 jw356 jw432) rfl rfl rfl dd_Wr_walk ⟨Nat.le_of_ble_eq_true rfl, Nat.le_of_ble_eq_true rfl⟩) hP hD hS hA (va_recv hK hP (ci := 6) (q0 := 0) rfl rfl) [0, 1, 2, 15, 16, 3, 4, 5, 6, 7, 8, 9, 10, 11, 12, 13, 14] [] rfl rfl (by decide) (by decide) (by decide) rfl hl.1 rfl (Nat.le_of_ble_eq_true rfl) d_Wr_show_11 ⟨Nat.le_of_ble_eq_true rfl, Nat.le_of_ble_eq_true rfl⟩ (fun qz12 H locs hP hD hS => ?_)
  have hP : va_P (dC, dI) vwCl [(h_t, .inr (6, [.ref h_t_shown, .ref h_t_draft])), (h_t_shown, .inr (0, [.ref h_t_shown_row, .int t_shown_length, .int t_shown_overrun])), (h_t_shown_row, .inl (cB, 8000, .inl t_shown_row)), (h_t_draft, .inr (0, [.ref h_t_draft_row, .int o11.2.1, .int o11.2.2])), (h_t_draft_row, .inl (cB, 8000, .inl o11.1)), (h_p1, .inr (5, [.ref h_p1_kinds, .ref h_p1_places, .ref h_p1_values, .ref h_p1_sizes, .ref h_p1_partCounts, .ref h_p1_wholes, .int p1_count])), (h_p1_kinds, .inl (cI, 8001, .inl p1_kinds)), (h_p1_places, .inl (cI, 8001, .inl p1_places)), (h_p1_values, .inl (cI, 8001, .inl p1_values)), (h_p1_sizes, .inl (cI, 8001, .inl p1_sizes)), (h_p1_partCounts, .inl (cI, 8001, .inl p1_partCounts)), (h_p1_wholes, .inl (cI, 8001, .inl p1_wholes)), (h_p2, .inr (2, [.ref h_p2_spelling, .ref h_p2_starts, .ref h_p2_newest, .ref h_p2_older, .int p2_count])), (h_p2_spelling, .inl (cB, 12288, .inl p2_spelling)), (h_p2_starts, .inl (cI, 4097, .inl p2_starts)), (h_p2_newest, .inl (cI, 1024, .inl p2_newest)), (h_p2_older, .inl (cI, 4096, .inl p2_older))] H := hP
  have hD : va_D A [(h_t, .inr (6, [.ref h_t_shown, .ref h_t_draft])), (h_t_shown, .inr (0, [.ref h_t_shown_row, .int t_shown_length, .int t_shown_overrun])), (h_t_shown_row, .inl (cB, 8000, .inl t_shown_row)), (h_t_draft, .inr (0, [.ref h_t_draft_row, .int o11.2.1, .int o11.2.2])), (h_t_draft_row, .inl (cB, 8000, .inl o11.1)), (h_p1, .inr (5, [.ref h_p1_kinds, .ref h_p1_places, .ref h_p1_values, .ref h_p1_sizes, .ref h_p1_partCounts, .ref h_p1_wholes, .int p1_count])), (h_p1_kinds, .inl (cI, 8001, .inl p1_kinds)), (h_p1_places, .inl (cI, 8001, .inl p1_places)), (h_p1_values, .inl (cI, 8001, .inl p1_values)), (h_p1_sizes, .inl (cI, 8001, .inl p1_sizes)), (h_p1_partCounts, .inl (cI, 8001, .inl p1_partCounts)), (h_p1_wholes, .inl (cI, 8001, .inl p1_wholes)), (h_p2, .inr (2, [.ref h_p2_spelling, .ref h_p2_starts, .ref h_p2_newest, .ref h_p2_older, .int p2_count])), (h_p2_spelling, .inl (cB, 12288, .inl p2_spelling)), (h_p2_starts, .inl (cI, 4097, .inl p2_starts)), (h_p2_newest, .inl (cI, 1024, .inl p2_newest)), (h_p2_older, .inl (cI, 4096, .inl p2_older))] := hD
  refine lv_aload_n hx hb d_Wr_show_14 rfl (lv_at hl 0 rfl) ?_
  refine va_get (D := (dC, dI)) (ci := 6) (v := .ref h_t_draft) (C := R_Wr) (T := T_Wr) (N := 2) hx hb hts (fun w h => List.mem_cons_of_mem _ (in_Wr w h)) hown hK hP 0 rfl rfl 1 (by decide) (hts _ (List.mem_cons_of_mem _ jw348)) (fun _ h9 => h9) rfl d_Wr_show_15 ?_
  refine va_get (D := (dC, dI)) (ci := 0) (v := .int o11.2.2) (C := R_By) (T := T_By) (N := 3) hx hb hts (fun w h => List.mem_cons_of_mem _ (in_By w h)) hown hK hP 3 rfl rfl 2 (by decide) (hts _ (List.mem_cons_of_mem _ jw418)) (fun _ h9 => h9) rfl d_Wr_show_18 ?_
  refine lv_if_eq (tgt := 26) hx hb d_Wr_show_21 (by decide) (fun c21 => ?_) (fun c21 => ?_)
  · rw [if_pos c21] at hf
    refine lv_aload_n hx hb d_Wr_show_26 rfl (lv_at hl 0 rfl) ?_
    refine va_get (D := (dC, dI)) (ci := 6) (v := .ref h_t_shown) (C := R_Wr) (T := T_Wr) (N := 2) hx hb hts (fun w h => List.mem_cons_of_mem _ (in_Wr w h)) hown hK hP 0 rfl rfl 0 (by decide) (hts _ (List.mem_cons_of_mem _ jw347)) (fun _ h9 => h9) rfl d_Wr_show_27 ?_
    refine lv_astore (lv' := [(4, .ref h_t_shown), (0, .ref h_t), (1, .ref h_p1), (2, .ref h_p2), (3, .int a3)]) hx hb d_Wr_show_30 hl (by decide) rfl (fun ls hl => ?_)
    refine lv_aload_n hx hb d_Wr_show_32 rfl (lv_at hl 1 rfl) ?_
    refine lv_aload_n hx hb d_Wr_show_33 rfl (lv_at hl 1 rfl) ?_
    refine va_get (D := (dC, dI)) (ci := 6) (v := .ref h_t_draft) (C := R_Wr) (T := T_Wr) (N := 2) hx hb hts (fun w h => List.mem_cons_of_mem _ (in_Wr w h)) hown hK hP 0 rfl rfl 1 (by decide) (hts _ (List.mem_cons_of_mem _ jw348)) (fun _ h9 => h9) rfl d_Wr_show_34 ?_
    refine va_put (D := (dC, dI)) (ci := 6) (v := .ref h_t_draft) (ty := (.object "TermReader$Bytes")) (C := R_Wr) (T := T_Wr) (N := 2) hx hb hts (fun w h => List.mem_cons_of_mem _ (in_Wr w h)) ty_Wr tyok_Wr nm_Wr hown hK hP hD hS 0 rfl rfl 0 (by decide) (hts _ (List.mem_cons_of_mem _ jw347)) (fun _ h9 => h9) rfl (by decide +kernel) rfl rfl (Nat.le_of_ble_eq_true rfl) d_Wr_show_37 (fun H locs hP hD hS => ?_)
    have hP : va_P (dC, dI) vwCl [(h_t, .inr (6, [.ref h_t_draft, .ref h_t_draft])), (h_t_shown, .inr (0, [.ref h_t_shown_row, .int t_shown_length, .int t_shown_overrun])), (h_t_shown_row, .inl (cB, 8000, .inl t_shown_row)), (h_t_draft, .inr (0, [.ref h_t_draft_row, .int o11.2.1, .int o11.2.2])), (h_t_draft_row, .inl (cB, 8000, .inl o11.1)), (h_p1, .inr (5, [.ref h_p1_kinds, .ref h_p1_places, .ref h_p1_values, .ref h_p1_sizes, .ref h_p1_partCounts, .ref h_p1_wholes, .int p1_count])), (h_p1_kinds, .inl (cI, 8001, .inl p1_kinds)), (h_p1_places, .inl (cI, 8001, .inl p1_places)), (h_p1_values, .inl (cI, 8001, .inl p1_values)), (h_p1_sizes, .inl (cI, 8001, .inl p1_sizes)), (h_p1_partCounts, .inl (cI, 8001, .inl p1_partCounts)), (h_p1_wholes, .inl (cI, 8001, .inl p1_wholes)), (h_p2, .inr (2, [.ref h_p2_spelling, .ref h_p2_starts, .ref h_p2_newest, .ref h_p2_older, .int p2_count])), (h_p2_spelling, .inl (cB, 12288, .inl p2_spelling)), (h_p2_starts, .inl (cI, 4097, .inl p2_starts)), (h_p2_newest, .inl (cI, 1024, .inl p2_newest)), (h_p2_older, .inl (cI, 4096, .inl p2_older))] H := hP
    have hD : va_D A [(h_t, .inr (6, [.ref h_t_draft, .ref h_t_draft])), (h_t_shown, .inr (0, [.ref h_t_shown_row, .int t_shown_length, .int t_shown_overrun])), (h_t_shown_row, .inl (cB, 8000, .inl t_shown_row)), (h_t_draft, .inr (0, [.ref h_t_draft_row, .int o11.2.1, .int o11.2.2])), (h_t_draft_row, .inl (cB, 8000, .inl o11.1)), (h_p1, .inr (5, [.ref h_p1_kinds, .ref h_p1_places, .ref h_p1_values, .ref h_p1_sizes, .ref h_p1_partCounts, .ref h_p1_wholes, .int p1_count])), (h_p1_kinds, .inl (cI, 8001, .inl p1_kinds)), (h_p1_places, .inl (cI, 8001, .inl p1_places)), (h_p1_values, .inl (cI, 8001, .inl p1_values)), (h_p1_sizes, .inl (cI, 8001, .inl p1_sizes)), (h_p1_partCounts, .inl (cI, 8001, .inl p1_partCounts)), (h_p1_wholes, .inl (cI, 8001, .inl p1_wholes)), (h_p2, .inr (2, [.ref h_p2_spelling, .ref h_p2_starts, .ref h_p2_newest, .ref h_p2_older, .int p2_count])), (h_p2_spelling, .inl (cB, 12288, .inl p2_spelling)), (h_p2_starts, .inl (cI, 4097, .inl p2_starts)), (h_p2_newest, .inl (cI, 1024, .inl p2_newest)), (h_p2_older, .inl (cI, 4096, .inl p2_older))] := hD
    refine lv_aload_n hx hb d_Wr_show_40 rfl (lv_at hl 1 rfl) ?_
    refine lv_aload hx hb d_Wr_show_41 (lv_at hl 0 rfl) ?_
    refine va_put (D := (dC, dI)) (ci := 6) (v := .ref h_t_shown) (ty := (.object "TermReader$Bytes")) (C := R_Wr) (T := T_Wr) (N := 2) hx hb hts (fun w h => List.mem_cons_of_mem _ (in_Wr w h)) ty_Wr tyok_Wr nm_Wr hown hK hP hD hS 0 rfl rfl 1 (by decide) (hts _ (List.mem_cons_of_mem _ jw348)) (fun _ h9 => h9) rfl (by decide +kernel) rfl rfl (Nat.le_of_ble_eq_true rfl) d_Wr_show_43 (fun H locs hP hD hS => ?_)
    have hP : va_P (dC, dI) vwCl [(h_t, .inr (6, [.ref h_t_draft, .ref h_t_shown])), (h_t_shown, .inr (0, [.ref h_t_shown_row, .int t_shown_length, .int t_shown_overrun])), (h_t_shown_row, .inl (cB, 8000, .inl t_shown_row)), (h_t_draft, .inr (0, [.ref h_t_draft_row, .int o11.2.1, .int o11.2.2])), (h_t_draft_row, .inl (cB, 8000, .inl o11.1)), (h_p1, .inr (5, [.ref h_p1_kinds, .ref h_p1_places, .ref h_p1_values, .ref h_p1_sizes, .ref h_p1_partCounts, .ref h_p1_wholes, .int p1_count])), (h_p1_kinds, .inl (cI, 8001, .inl p1_kinds)), (h_p1_places, .inl (cI, 8001, .inl p1_places)), (h_p1_values, .inl (cI, 8001, .inl p1_values)), (h_p1_sizes, .inl (cI, 8001, .inl p1_sizes)), (h_p1_partCounts, .inl (cI, 8001, .inl p1_partCounts)), (h_p1_wholes, .inl (cI, 8001, .inl p1_wholes)), (h_p2, .inr (2, [.ref h_p2_spelling, .ref h_p2_starts, .ref h_p2_newest, .ref h_p2_older, .int p2_count])), (h_p2_spelling, .inl (cB, 12288, .inl p2_spelling)), (h_p2_starts, .inl (cI, 4097, .inl p2_starts)), (h_p2_newest, .inl (cI, 1024, .inl p2_newest)), (h_p2_older, .inl (cI, 4096, .inl p2_older))] H := hP
    have hD : va_D A [(h_t, .inr (6, [.ref h_t_draft, .ref h_t_shown])), (h_t_shown, .inr (0, [.ref h_t_shown_row, .int t_shown_length, .int t_shown_overrun])), (h_t_shown_row, .inl (cB, 8000, .inl t_shown_row)), (h_t_draft, .inr (0, [.ref h_t_draft_row, .int o11.2.1, .int o11.2.2])), (h_t_draft_row, .inl (cB, 8000, .inl o11.1)), (h_p1, .inr (5, [.ref h_p1_kinds, .ref h_p1_places, .ref h_p1_values, .ref h_p1_sizes, .ref h_p1_partCounts, .ref h_p1_wholes, .int p1_count])), (h_p1_kinds, .inl (cI, 8001, .inl p1_kinds)), (h_p1_places, .inl (cI, 8001, .inl p1_places)), (h_p1_values, .inl (cI, 8001, .inl p1_values)), (h_p1_sizes, .inl (cI, 8001, .inl p1_sizes)), (h_p1_partCounts, .inl (cI, 8001, .inl p1_partCounts)), (h_p1_wholes, .inl (cI, 8001, .inl p1_wholes)), (h_p2, .inr (2, [.ref h_p2_spelling, .ref h_p2_starts, .ref h_p2_newest, .ref h_p2_older, .int p2_count])), (h_p2_spelling, .inl (cB, 12288, .inl p2_spelling)), (h_p2_starts, .inl (cI, 4097, .inl p2_starts)), (h_p2_newest, .inl (cI, 1024, .inl p2_newest)), (h_p2_older, .inl (cI, 4096, .inl p2_older))] := hD
    refine lv_aload_n hx hb d_Wr_show_46 rfl (lv_at hl 1 rfl) ?_
    refine va_get (D := (dC, dI)) (ci := 6) (v := .ref h_t_draft) (C := R_Wr) (T := T_Wr) (N := 2) hx hb hts (fun w h => List.mem_cons_of_mem _ (in_Wr w h)) hown hK hP 0 rfl rfl 0 (by decide) (hts _ (List.mem_cons_of_mem _ jw347)) (fun _ h9 => h9) rfl d_Wr_show_47 ?_
    refine va_get (D := (dC, dI)) (ci := 0) (v := .int o11.2.1) (C := R_By) (T := T_By) (N := 3) hx hb hts (fun w h => List.mem_cons_of_mem _ (in_By w h)) hown hK hP 3 rfl rfl 1 (by decide) (hts _ (List.mem_cons_of_mem _ jw352)) (fun _ h9 => h9) rfl d_Wr_show_50 ?_
    have hf : (some (o11.2.1, o11.1, o11.2.1, o11.2.2, t_shown_row, t_shown_length, t_shown_overrun) : Option (Int32 × (Nat → Int32) × Int32 × Int32 × (Nat → Int32) × Int32 × Int32)) = some o := hf
    rw [hQ, ← Option.some.inj hf]
    exact jIret hx hb hr hlocks d_Wr_show_53 (fun n => [h_t_draft, h_t_draft_row, h_t_shown, h_t_shown_row].getD n 0) hS (hP.sub [0, 3, 4, 1, 2, 5, 6, 7, 8, 9, 10, 11, 12, 13, 14, 15, 16] rfl) (hD.sub [0, 3, 4, 1, 2, 5, 6, 7, 8, 9, 10, 11, 12, 13, 14, 15, 16] (by decide) rfl)
  · rw [if_neg c21] at hf
    refine lv_iconst (v := (-1 : Int32)) hx hb d_Wr_show_24 (by decide) ?_
    have hf : (some ((-1 : Int32), t_shown_row, t_shown_length, t_shown_overrun, o11.1, o11.2.1, o11.2.2) : Option (Int32 × (Nat → Int32) × Int32 × Int32 × (Nat → Int32) × Int32 × Int32)) = some o := hf
    rw [hQ, ← Option.some.inj hf]
    exact jIret hx hb hr hlocks d_Wr_show_25 (fun n => [h_t_shown, h_t_shown_row, h_t_draft, h_t_draft_row].getD n 0) hS hP hD
