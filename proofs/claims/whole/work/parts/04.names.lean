theorem d_Na_init_0 : decode b_Na_init 0 = .ok (.aload_n 0, 1) := by decide +kernel
theorem d_Na_init_1 : decode b_Na_init 1 = .ok (.invokespecial 3, 3) := by decide +kernel
theorem d_Na_init_4 : decode b_Na_init 4 = .ok (.aload_n 0, 1) := by decide +kernel
theorem d_Na_init_5 : decode b_Na_init 5 = .ok (.sipush 12288, 3) := by decide +kernel
theorem d_Na_init_8 : decode b_Na_init 8 = .ok (.newarray .byte, 2) := by decide +kernel
theorem d_Na_init_10 : decode b_Na_init 10 = .ok (.putfield 11, 3) := by decide +kernel
theorem d_Na_init_13 : decode b_Na_init 13 = .ok (.aload_n 0, 1) := by decide +kernel
theorem d_Na_init_14 : decode b_Na_init 14 = .ok (.sipush 4097, 3) := by decide +kernel
theorem d_Na_init_17 : decode b_Na_init 17 = .ok (.newarray .int, 2) := by decide +kernel
theorem d_Na_init_19 : decode b_Na_init 19 = .ok (.putfield 15, 3) := by decide +kernel
theorem d_Na_init_22 : decode b_Na_init 22 = .ok (.aload_n 0, 1) := by decide +kernel
theorem d_Na_init_23 : decode b_Na_init 23 = .ok (.sipush 1024, 3) := by decide +kernel
theorem d_Na_init_26 : decode b_Na_init 26 = .ok (.newarray .int, 2) := by decide +kernel
theorem d_Na_init_28 : decode b_Na_init 28 = .ok (.putfield 19, 3) := by decide +kernel
theorem d_Na_init_31 : decode b_Na_init 31 = .ok (.aload_n 0, 1) := by decide +kernel
theorem d_Na_init_32 : decode b_Na_init 32 = .ok (.sipush 4096, 3) := by decide +kernel
theorem d_Na_init_35 : decode b_Na_init 35 = .ok (.newarray .int, 2) := by decide +kernel
theorem d_Na_init_37 : decode b_Na_init 37 = .ok (.putfield 22, 3) := by decide +kernel
theorem d_Na_init_40 : decode b_Na_init 40 = .ok (.aload_n 0, 1) := by decide +kernel
theorem d_Na_init_41 : decode b_Na_init 41 = .ok (.iconst 0, 1) := by decide +kernel
theorem d_Na_init_42 : decode b_Na_init 42 = .ok (.putfield 25, 3) := by decide +kernel
theorem d_Na_init_45 : decode b_Na_init 45 = .ok (.return_, 1) := by decide +kernel
set_option maxHeartbeats 4000000 in
set_option maxRecDepth 100000 in
theorem c_Na_init {l : Launch} {dC : Nat → ClassId} {dI : Nat → Nat → Nat} {cI cB cS : ClassId} {adK adV adR : Nat → Nat} (h_t : Nat) : jMet l dC dI cI cB cS adK adV adR y_Na_init wd_Na_init { frames := 1, cells := 4, slots := 21505, locals := 12 } [.ref h_t] [(h_t, .inr (2, [.null, .null, .null, .null, .int 0]))] (none) (fun q => [(h_t, .inr (2, [.ref (q 0), .ref (q 1), .ref (q 2), .ref (q 3), .int (0 : Int32)])), ((q 0), .inl (cB, 12288, .inl (fun _ => 0))), ((q 1), .inl (cI, 4097, .inl (fun _ => 0))), ((q 2), .inl (cI, 1024, .inl (fun _ => 0))), ((q 3), .inl (cI, 4096, .inl (fun _ => 0)))]) 4 21505 := by
  refine jEntry (cc := b_Na_init) (maxL := 1) (ret := none) (by decide) rfl (Nat.le_of_ble_eq_true rfl) rfl (fun p e s m args below meth c A H locs ls Q hQ hx hb hr hml hown hts hlocks hnm hJ hA hP hD hS hl => ?_)
  have hK := hJ.K
  have hl : lv_has ls 1 [(0, .ref h_t)] := hl
  subst hQ
  refine lv_aload_n hx hb d_Na_init_0 rfl (lv_at hl 0 rfl) ?_
  refine W.objInit hx hb hown (hts _ (List.mem_cons_of_mem _ jw40)) (hts _ (List.mem_cons_of_mem _ jw25)) (hts _ (List.mem_cons_of_mem _ jw26)) rfl (by rw [hml]; exact hl.1) rfl d_Na_init_1 (Nat.le_of_ble_eq_true rfl) (Nat.le_of_ble_eq_true rfl) ?_
  refine W.eq (g2 := F0 m 4 ls []) rfl ?_
  refine lv_aload_n hx hb d_Na_init_4 rfl (lv_at hl 0 rfl) ?_
  refine lv_sipush (v := (12288 : Int32)) hx hb d_Na_init_5 (by decide) ?_
  refine va_newa (atype := .byte) (ty := .byte) (a0 := (12288, .inl (fun _ => 0))) hx hb (hts _ (List.mem_cons_of_mem _ jw27)) rfl hK hP hD hS hA (fun _ => rfl) (by decide) (by decide) (by decide) (Nat.le_of_ble_eq_true rfl) (Nat.le_of_ble_eq_true rfl) d_Na_init_8 (fun q8 cA H hKn hP hD hS => ?_)
  rw [j_clsB hKn] at hP hD
  have hP : va_P (dC, dI) vwCl [(h_t, .inr (2, [.null, .null, .null, .null, .int 0])), (q8, .inl (cB, 12288, .inl (fun _ => 0)))] H := hP
  have hD : va_D A [(h_t, .inr (2, [.null, .null, .null, .null, .int 0])), (q8, .inl (cB, 12288, .inl (fun _ => 0)))] := hD
  refine W.widen (k := 1) (n := 12288) (by decide) (by decide) ?_
  refine va_putF (D := (dC, dI)) (ci := 2) (v := .ref q8) (ty := (.array .byte)) (C := R_Na) (T := T_Na) (N := 5) hx hb hts (fun w h => List.mem_cons_of_mem _ (in_Na w h)) ty_Na tyok_Na nm_Na hown hK hP hD hS 0 rfl rfl 0 (by decide) (hts _ (List.mem_cons_of_mem _ jw41)) (fun _ h9 => h9) rfl hnm rfl (by decide +kernel) rfl rfl (Nat.le_of_ble_eq_true rfl) d_Na_init_10 (fun H locs hP hD hS => ?_)
  have hP : va_P (dC, dI) vwCl [(h_t, .inr (2, [.ref q8, .null, .null, .null, .int 0])), (q8, .inl (cB, 12288, .inl (fun _ => 0)))] H := hP
  have hD : va_D A [(h_t, .inr (2, [.ref q8, .null, .null, .null, .int 0])), (q8, .inl (cB, 12288, .inl (fun _ => 0)))] := hD
  refine lv_aload_n hx hb d_Na_init_13 rfl (lv_at hl 0 rfl) ?_
  refine lv_sipush (v := (4097 : Int32)) hx hb d_Na_init_14 (by decide) ?_
  refine va_newa (atype := .int) (ty := .int) (a0 := (4097, .inl (fun _ => 0))) hx hb (hts _ (List.mem_cons_of_mem _ jw42)) rfl hK hP hD hS hA (fun _ => rfl) (by decide) (by decide) (by decide) (Nat.le_of_ble_eq_true rfl) (Nat.le_of_ble_eq_true rfl) d_Na_init_17 (fun q17 cA H hKn hP hD hS => ?_)
  rw [j_clsI hKn] at hP hD
  have hP : va_P (dC, dI) vwCl [(h_t, .inr (2, [.ref q8, .null, .null, .null, .int 0])), (q8, .inl (cB, 12288, .inl (fun _ => 0))), (q17, .inl (cI, 4097, .inl (fun _ => 0)))] H := hP
  have hD : va_D A [(h_t, .inr (2, [.ref q8, .null, .null, .null, .int 0])), (q8, .inl (cB, 12288, .inl (fun _ => 0))), (q17, .inl (cI, 4097, .inl (fun _ => 0)))] := hD
  refine W.widen (k := 2) (n := 16385) (by decide) (by decide) ?_
  refine va_putF (D := (dC, dI)) (ci := 2) (v := .ref q17) (ty := (.array .int)) (C := R_Na) (T := T_Na) (N := 5) hx hb hts (fun w h => List.mem_cons_of_mem _ (in_Na w h)) ty_Na tyok_Na nm_Na hown hK hP hD hS 0 rfl rfl 1 (by decide) (hts _ (List.mem_cons_of_mem _ jw43)) (fun _ h9 => h9) rfl hnm rfl (by decide +kernel) rfl rfl (Nat.le_of_ble_eq_true rfl) d_Na_init_19 (fun H locs hP hD hS => ?_)
  have hP : va_P (dC, dI) vwCl [(h_t, .inr (2, [.ref q8, .ref q17, .null, .null, .int 0])), (q8, .inl (cB, 12288, .inl (fun _ => 0))), (q17, .inl (cI, 4097, .inl (fun _ => 0)))] H := hP
  have hD : va_D A [(h_t, .inr (2, [.ref q8, .ref q17, .null, .null, .int 0])), (q8, .inl (cB, 12288, .inl (fun _ => 0))), (q17, .inl (cI, 4097, .inl (fun _ => 0)))] := hD
  refine lv_aload_n hx hb d_Na_init_22 rfl (lv_at hl 0 rfl) ?_
  refine lv_sipush (v := (1024 : Int32)) hx hb d_Na_init_23 (by decide) ?_
  refine va_newa (atype := .int) (ty := .int) (a0 := (1024, .inl (fun _ => 0))) hx hb (hts _ (List.mem_cons_of_mem _ jw42)) rfl hK hP hD hS hA (fun _ => rfl) (by decide) (by decide) (by decide) (Nat.le_of_ble_eq_true rfl) (Nat.le_of_ble_eq_true rfl) d_Na_init_26 (fun q26 cA H hKn hP hD hS => ?_)
  rw [j_clsI hKn] at hP hD
  have hP : va_P (dC, dI) vwCl [(h_t, .inr (2, [.ref q8, .ref q17, .null, .null, .int 0])), (q8, .inl (cB, 12288, .inl (fun _ => 0))), (q17, .inl (cI, 4097, .inl (fun _ => 0))), (q26, .inl (cI, 1024, .inl (fun _ => 0)))] H := hP
  have hD : va_D A [(h_t, .inr (2, [.ref q8, .ref q17, .null, .null, .int 0])), (q8, .inl (cB, 12288, .inl (fun _ => 0))), (q17, .inl (cI, 4097, .inl (fun _ => 0))), (q26, .inl (cI, 1024, .inl (fun _ => 0)))] := hD
  refine W.widen (k := 3) (n := 17409) (by decide) (by decide) ?_
  refine va_putF (D := (dC, dI)) (ci := 2) (v := .ref q26) (ty := (.array .int)) (C := R_Na) (T := T_Na) (N := 5) hx hb hts (fun w h => List.mem_cons_of_mem _ (in_Na w h)) ty_Na tyok_Na nm_Na hown hK hP hD hS 0 rfl rfl 2 (by decide) (hts _ (List.mem_cons_of_mem _ jw44)) (fun _ h9 => h9) rfl hnm rfl (by decide +kernel) rfl rfl (Nat.le_of_ble_eq_true rfl) d_Na_init_28 (fun H locs hP hD hS => ?_)
  have hP : va_P (dC, dI) vwCl [(h_t, .inr (2, [.ref q8, .ref q17, .ref q26, .null, .int 0])), (q8, .inl (cB, 12288, .inl (fun _ => 0))), (q17, .inl (cI, 4097, .inl (fun _ => 0))), (q26, .inl (cI, 1024, .inl (fun _ => 0)))] H := hP
  have hD : va_D A [(h_t, .inr (2, [.ref q8, .ref q17, .ref q26, .null, .int 0])), (q8, .inl (cB, 12288, .inl (fun _ => 0))), (q17, .inl (cI, 4097, .inl (fun _ => 0))), (q26, .inl (cI, 1024, .inl (fun _ => 0)))] := hD
  refine lv_aload_n hx hb d_Na_init_31 rfl (lv_at hl 0 rfl) ?_
  refine lv_sipush (v := (4096 : Int32)) hx hb d_Na_init_32 (by decide) ?_
  refine va_newa (atype := .int) (ty := .int) (a0 := (4096, .inl (fun _ => 0))) hx hb (hts _ (List.mem_cons_of_mem _ jw42)) rfl hK hP hD hS hA (fun _ => rfl) (by decide) (by decide) (by decide) (Nat.le_of_ble_eq_true rfl) (Nat.le_of_ble_eq_true rfl) d_Na_init_35 (fun q35 cA H hKn hP hD hS => ?_)
  rw [j_clsI hKn] at hP hD
  have hP : va_P (dC, dI) vwCl [(h_t, .inr (2, [.ref q8, .ref q17, .ref q26, .null, .int 0])), (q8, .inl (cB, 12288, .inl (fun _ => 0))), (q17, .inl (cI, 4097, .inl (fun _ => 0))), (q26, .inl (cI, 1024, .inl (fun _ => 0))), (q35, .inl (cI, 4096, .inl (fun _ => 0)))] H := hP
  have hD : va_D A [(h_t, .inr (2, [.ref q8, .ref q17, .ref q26, .null, .int 0])), (q8, .inl (cB, 12288, .inl (fun _ => 0))), (q17, .inl (cI, 4097, .inl (fun _ => 0))), (q26, .inl (cI, 1024, .inl (fun _ => 0))), (q35, .inl (cI, 4096, .inl (fun _ => 0)))] := hD
  refine W.widen (k := 4) (n := 21505) (by decide) (by decide) ?_
  refine va_putF (D := (dC, dI)) (ci := 2) (v := .ref q35) (ty := (.array .int)) (C := R_Na) (T := T_Na) (N := 5) hx hb hts (fun w h => List.mem_cons_of_mem _ (in_Na w h)) ty_Na tyok_Na nm_Na hown hK hP hD hS 0 rfl rfl 3 (by decide) (hts _ (List.mem_cons_of_mem _ jw45)) (fun _ h9 => h9) rfl hnm rfl (by decide +kernel) rfl rfl (Nat.le_of_ble_eq_true rfl) d_Na_init_37 (fun H locs hP hD hS => ?_)
  have hP : va_P (dC, dI) vwCl [(h_t, .inr (2, [.ref q8, .ref q17, .ref q26, .ref q35, .int 0])), (q8, .inl (cB, 12288, .inl (fun _ => 0))), (q17, .inl (cI, 4097, .inl (fun _ => 0))), (q26, .inl (cI, 1024, .inl (fun _ => 0))), (q35, .inl (cI, 4096, .inl (fun _ => 0)))] H := hP
  have hD : va_D A [(h_t, .inr (2, [.ref q8, .ref q17, .ref q26, .ref q35, .int 0])), (q8, .inl (cB, 12288, .inl (fun _ => 0))), (q17, .inl (cI, 4097, .inl (fun _ => 0))), (q26, .inl (cI, 1024, .inl (fun _ => 0))), (q35, .inl (cI, 4096, .inl (fun _ => 0)))] := hD
  refine lv_aload_n hx hb d_Na_init_40 rfl (lv_at hl 0 rfl) ?_
  refine lv_iconst (v := (0 : Int32)) hx hb d_Na_init_41 (by decide) ?_
  refine va_put (D := (dC, dI)) (ci := 2) (v := .int (0 : Int32)) (ty := .int) (C := R_Na) (T := T_Na) (N := 5) hx hb hts (fun w h => List.mem_cons_of_mem _ (in_Na w h)) ty_Na tyok_Na nm_Na hown hK hP hD hS 0 rfl rfl 4 (by decide) (hts _ (List.mem_cons_of_mem _ jw46)) (fun _ h9 => h9) rfl (by decide +kernel) rfl rfl (Nat.le_of_ble_eq_true rfl) d_Na_init_42 (fun H locs hP hD hS => ?_)
  have hP : va_P (dC, dI) vwCl [(h_t, .inr (2, [.ref q8, .ref q17, .ref q26, .ref q35, .int (0 : Int32)])), (q8, .inl (cB, 12288, .inl (fun _ => 0))), (q17, .inl (cI, 4097, .inl (fun _ => 0))), (q26, .inl (cI, 1024, .inl (fun _ => 0))), (q35, .inl (cI, 4096, .inl (fun _ => 0)))] H := hP
  have hD : va_D A [(h_t, .inr (2, [.ref q8, .ref q17, .ref q26, .ref q35, .int (0 : Int32)])), (q8, .inl (cB, 12288, .inl (fun _ => 0))), (q17, .inl (cI, 4097, .inl (fun _ => 0))), (q26, .inl (cI, 1024, .inl (fun _ => 0))), (q35, .inl (cI, 4096, .inl (fun _ => 0)))] := hD
  refine W.widen (k := 4) (n := 21505) (by decide) (by decide) ?_
  exact jVret hx hb hr hlocks d_Na_init_45 (fun n => [q8, q17, q26, q35].getD n 0) hS hP hD
theorem d_Na_lengthOf_0 : decode b_Na_lengthOf 0 = .ok (.iload_n 1, 1) := by decide +kernel
theorem d_Na_lengthOf_1 : decode b_Na_lengthOf 1 = .ok (.ifCond .lt 29, 3) := by decide +kernel
theorem d_Na_lengthOf_4 : decode b_Na_lengthOf 4 = .ok (.iload_n 1, 1) := by decide +kernel
theorem d_Na_lengthOf_5 : decode b_Na_lengthOf 5 = .ok (.aload_n 0, 1) := by decide +kernel
theorem d_Na_lengthOf_6 : decode b_Na_lengthOf 6 = .ok (.getfield 25, 3) := by decide +kernel
theorem d_Na_lengthOf_9 : decode b_Na_lengthOf 9 = .ok (.if_icmp .ge 21, 3) := by decide +kernel
theorem d_Na_lengthOf_12 : decode b_Na_lengthOf 12 = .ok (.aload_n 0, 1) := by decide +kernel
theorem d_Na_lengthOf_13 : decode b_Na_lengthOf 13 = .ok (.getfield 15, 3) := by decide +kernel
theorem d_Na_lengthOf_16 : decode b_Na_lengthOf 16 = .ok (.iload_n 1, 1) := by decide +kernel
theorem d_Na_lengthOf_17 : decode b_Na_lengthOf 17 = .ok (.iconst 1, 1) := by decide +kernel
theorem d_Na_lengthOf_18 : decode b_Na_lengthOf 18 = .ok (.iadd, 1) := by decide +kernel
theorem d_Na_lengthOf_19 : decode b_Na_lengthOf 19 = .ok (.iaload, 1) := by decide +kernel
theorem d_Na_lengthOf_20 : decode b_Na_lengthOf 20 = .ok (.aload_n 0, 1) := by decide +kernel
theorem d_Na_lengthOf_21 : decode b_Na_lengthOf 21 = .ok (.getfield 15, 3) := by decide +kernel
theorem d_Na_lengthOf_24 : decode b_Na_lengthOf 24 = .ok (.iload_n 1, 1) := by decide +kernel
theorem d_Na_lengthOf_25 : decode b_Na_lengthOf 25 = .ok (.iaload, 1) := by decide +kernel
theorem d_Na_lengthOf_26 : decode b_Na_lengthOf 26 = .ok (.isub, 1) := by decide +kernel
theorem d_Na_lengthOf_27 : decode b_Na_lengthOf 27 = .ok (.goto 4, 3) := by decide +kernel
theorem d_Na_lengthOf_30 : decode b_Na_lengthOf 30 = .ok (.iconst 0, 1) := by decide +kernel
theorem d_Na_lengthOf_31 : decode b_Na_lengthOf 31 = .ok (.ireturn, 1) := by decide +kernel
noncomputable def Na_lengthOf_b30 (t_starts : (Nat → Int32)) (t_count : Int32)  : Option Int32 := some (0 : Int32)
noncomputable def f_Na_lengthOf (t_starts : (Nat → Int32)) (t_count : Int32)  (a1 : Int32) : Option Int32 := if a1 < 0 then (Na_lengthOf_b30 t_starts t_count) else (if t_count ≤ a1 then (Na_lengthOf_b30 t_starts t_count) else (if (a1 + (1 : Int32)) < 0 ∨ 4097 ≤ (a1 + (1 : Int32)).toNatClampNeg then none else (if a1 < 0 ∨ 4097 ≤ a1.toNatClampNeg then none else (some ((t_starts (a1 + (1 : Int32)).toNatClampNeg) - (t_starts a1.toNatClampNeg))))))
set_option maxHeartbeats 4000000 in
set_option maxRecDepth 100000 in
theorem c_Na_lengthOf {l : Launch} {dC : Nat → ClassId} {dI : Nat → Nat → Nat} {cI cB cS : ClassId} {adK adV adR : Nat → Nat} (h_t h_t_spelling h_t_starts h_t_newest h_t_older : Nat) (t_spelling : (Nat → Int32)) (t_starts : (Nat → Int32)) (t_newest : (Nat → Int32)) (t_older : (Nat → Int32)) (t_count : Int32) (a1 : Int32) {o : Int32} (hf : f_Na_lengthOf t_starts t_count a1 = some o) : jMet l dC dI cI cB cS adK adV adR y_Na_lengthOf wd_Na_lengthOf { frames := 0, cells := 0, slots := 0, locals := 0 } [.ref h_t, .int a1] [(h_t, .inr (2, [.ref h_t_spelling, .ref h_t_starts, .ref h_t_newest, .ref h_t_older, .int t_count])), (h_t_spelling, .inl (cB, 12288, .inl t_spelling)), (h_t_starts, .inl (cI, 4097, .inl t_starts)), (h_t_newest, .inl (cI, 1024, .inl t_newest)), (h_t_older, .inl (cI, 4096, .inl t_older))] (some (.int o)) (fun q => [(h_t, .inr (2, [.ref h_t_spelling, .ref h_t_starts, .ref h_t_newest, .ref h_t_older, .int t_count])), (h_t_spelling, .inl (cB, 12288, .inl t_spelling)), (h_t_starts, .inl (cI, 4097, .inl t_starts)), (h_t_newest, .inl (cI, 1024, .inl t_newest)), (h_t_older, .inl (cI, 4096, .inl t_older))]) 0 0 := by
  refine jEntry (cc := b_Na_lengthOf) (maxL := 2) (ret := (some .int)) (by decide) rfl (Nat.le_of_ble_eq_true rfl) rfl (fun p e s m args below meth c A H locs ls Q hQ hx hb hr hml hown hts hlocks hnm hJ hA hP hD hS hl => ?_)
  have hK := hJ.K
  have hl : lv_has ls 2 [(0, .ref h_t), (1, .int a1)] := hl
  have B30 : ∀  (H : Heap) (locs : List Loc) (ls : Array Slot), Na_lengthOf_b30 t_starts t_count = some o → va_P (dC, dI) vwCl [(h_t, .inr (2, [.ref h_t_spelling, .ref h_t_starts, .ref h_t_newest, .ref h_t_older, .int t_count])), (h_t_spelling, .inl (cB, 12288, .inl t_spelling)), (h_t_starts, .inl (cI, 4097, .inl t_starts)), (h_t_newest, .inl (cI, 1024, .inl t_newest)), (h_t_older, .inl (cI, 4096, .inl t_older))] H → va_D A [(h_t, .inr (2, [.ref h_t_spelling, .ref h_t_starts, .ref h_t_newest, .ref h_t_older, .int t_count])), (h_t_spelling, .inl (cB, 12288, .inl t_spelling)), (h_t_starts, .inl (cI, 4097, .inl t_starts)), (h_t_newest, .inl (cI, 1024, .inl t_newest)), (h_t_older, .inl (cI, 4096, .inl t_older))] → va_S A s.heap H locs → lv_has ls 2 [] → W p l e { frames := 0, cells := 0, slots := 0, locals := 0 } s m args below meth c H locs 0 0 Q (F0 m 30 ls []) := by
    intro  H locs ls hf hP hD hS hl
    unfold Na_lengthOf_b30 at hf
    refine lv_iconst (v := (0 : Int32)) hx hb d_Na_lengthOf_30 (by decide) ?_
    have hf : (some (0 : Int32) : Option Int32) = some o := hf
    rw [hQ, ← Option.some.inj hf]
    exact jIret hx hb hr hlocks d_Na_lengthOf_31 (fun _ => 0) hS hP hD
  unfold f_Na_lengthOf at hf
  refine lv_iload_n hx hb d_Na_lengthOf_0 rfl (lv_at hl 1 rfl) ?_
  refine lv_if_lt (tgt := 30) hx hb d_Na_lengthOf_1 (by decide) (fun c1 => ?_) (fun c1 => ?_)
  · rw [if_pos c1] at hf
    exact B30  H locs ls hf hP hD hS (lv_sub hl [] rfl)
  · rw [if_neg c1] at hf
    refine lv_iload_n hx hb d_Na_lengthOf_4 rfl (lv_at hl 1 rfl) ?_
    refine lv_aload_n hx hb d_Na_lengthOf_5 rfl (lv_at hl 0 rfl) ?_
    refine va_get (D := (dC, dI)) (ci := 2) (v := .int t_count) (C := R_Na) (T := T_Na) (N := 5) hx hb hts (fun w h => List.mem_cons_of_mem _ (in_Na w h)) hown hK hP 0 rfl rfl 4 (by decide) (hts _ (List.mem_cons_of_mem _ jw46)) (fun _ h9 => h9) rfl d_Na_lengthOf_6 ?_
    refine lv_icmp_ge (tgt := 30) hx hb d_Na_lengthOf_9 (by decide) (fun c9 => ?_) (fun c9 => ?_)
    · rw [if_pos c9] at hf
      exact B30  H locs ls hf hP hD hS (lv_sub hl [] rfl)
    · rw [if_neg c9] at hf
      refine lv_aload_n hx hb d_Na_lengthOf_12 rfl (lv_at hl 0 rfl) ?_
      refine va_get (D := (dC, dI)) (ci := 2) (v := .ref h_t_starts) (C := R_Na) (T := T_Na) (N := 5) hx hb hts (fun w h => List.mem_cons_of_mem _ (in_Na w h)) hown hK hP 0 rfl rfl 1 (by decide) (hts _ (List.mem_cons_of_mem _ jw43)) (fun _ h9 => h9) rfl d_Na_lengthOf_13 ?_
      refine lv_iload_n hx hb d_Na_lengthOf_16 rfl (lv_at hl 1 rfl) ?_
      refine lv_iconst (v := (1 : Int32)) hx hb d_Na_lengthOf_17 (by decide) ?_
      refine lv_iadd hx hb d_Na_lengthOf_18 ?_
      have c19 : ¬ ((a1 + (1 : Int32)) < 0 ∨ 4097 ≤ (a1 + (1 : Int32)).toNatClampNeg) := by intro z; rw [if_pos z] at hf; simp only [jb_none, jl_b_none, jm_none, reduceCtorEq] at hf
      rw [if_neg c19] at hf
      refine va_iald hx hb hK hP 2 0 rfl rfl c19 d_Na_lengthOf_19 ?_
      refine lv_aload_n hx hb d_Na_lengthOf_20 rfl (lv_at hl 0 rfl) ?_
      refine va_get (D := (dC, dI)) (ci := 2) (v := .ref h_t_starts) (C := R_Na) (T := T_Na) (N := 5) hx hb hts (fun w h => List.mem_cons_of_mem _ (in_Na w h)) hown hK hP 0 rfl rfl 1 (by decide) (hts _ (List.mem_cons_of_mem _ jw43)) (fun _ h9 => h9) rfl d_Na_lengthOf_21 ?_
      refine lv_iload_n hx hb d_Na_lengthOf_24 rfl (lv_at hl 1 rfl) ?_
      have c25 : ¬ (a1 < 0 ∨ 4097 ≤ a1.toNatClampNeg) := by intro z; rw [if_pos z] at hf; simp only [jb_none, jl_b_none, jm_none, reduceCtorEq] at hf
      rw [if_neg c25] at hf
      refine va_iald hx hb hK hP 2 0 rfl rfl c25 d_Na_lengthOf_25 ?_
      refine lv_isub hx hb d_Na_lengthOf_26 ?_
      refine lv_goto (tgt := 31) hx hb d_Na_lengthOf_27 (by decide) ?_
      have hf : (some ((t_starts (a1 + (1 : Int32)).toNatClampNeg) - (t_starts a1.toNatClampNeg)) : Option Int32) = some o := hf
      rw [hQ, ← Option.some.inj hf]
      exact jIret hx hb hr hlocks d_Na_lengthOf_31 (fun _ => 0) hS hP hD
theorem d_Na_byteOf_0 : decode b_Na_byteOf 0 = .ok (.iload_n 2, 1) := by decide +kernel
theorem d_Na_byteOf_1 : decode b_Na_byteOf 1 = .ok (.ifCond .lt 28, 3) := by decide +kernel
theorem d_Na_byteOf_4 : decode b_Na_byteOf 4 = .ok (.iload_n 2, 1) := by decide +kernel
theorem d_Na_byteOf_5 : decode b_Na_byteOf 5 = .ok (.aload_n 0, 1) := by decide +kernel
theorem d_Na_byteOf_6 : decode b_Na_byteOf 6 = .ok (.iload_n 1, 1) := by decide +kernel
theorem d_Na_byteOf_7 : decode b_Na_byteOf 7 = .ok (.invokevirtual 29, 3) := by decide +kernel
theorem d_Na_byteOf_10 : decode b_Na_byteOf 10 = .ok (.if_icmp .ge 19, 3) := by decide +kernel
theorem d_Na_byteOf_13 : decode b_Na_byteOf 13 = .ok (.aload_n 0, 1) := by decide +kernel
theorem d_Na_byteOf_14 : decode b_Na_byteOf 14 = .ok (.getfield 11, 3) := by decide +kernel
theorem d_Na_byteOf_17 : decode b_Na_byteOf 17 = .ok (.aload_n 0, 1) := by decide +kernel
theorem d_Na_byteOf_18 : decode b_Na_byteOf 18 = .ok (.getfield 15, 3) := by decide +kernel
theorem d_Na_byteOf_21 : decode b_Na_byteOf 21 = .ok (.iload_n 1, 1) := by decide +kernel
theorem d_Na_byteOf_22 : decode b_Na_byteOf 22 = .ok (.iaload, 1) := by decide +kernel
theorem d_Na_byteOf_23 : decode b_Na_byteOf 23 = .ok (.iload_n 2, 1) := by decide +kernel
theorem d_Na_byteOf_24 : decode b_Na_byteOf 24 = .ok (.iadd, 1) := by decide +kernel
theorem d_Na_byteOf_25 : decode b_Na_byteOf 25 = .ok (.baload, 1) := by decide +kernel
theorem d_Na_byteOf_26 : decode b_Na_byteOf 26 = .ok (.goto 4, 3) := by decide +kernel
theorem d_Na_byteOf_29 : decode b_Na_byteOf 29 = .ok (.iconst (-1), 1) := by decide +kernel
theorem d_Na_byteOf_30 : decode b_Na_byteOf 30 = .ok (.ireturn, 1) := by decide +kernel
noncomputable def Na_byteOf_b29 (t_spelling : (Nat → Int32)) (t_starts : (Nat → Int32)) (t_count : Int32)  : Option Int32 := some (-1 : Int32)
noncomputable def f_Na_byteOf (t_spelling : (Nat → Int32)) (t_starts : (Nat → Int32)) (t_count : Int32)  (a1 : Int32) (a2 : Int32) : Option Int32 := if a2 < 0 then (Na_byteOf_b29 t_spelling t_starts t_count) else (jb (f_Na_lengthOf t_starts t_count a1) (fun o3 => if o3 ≤ a2 then (Na_byteOf_b29 t_spelling t_starts t_count) else (if a1 < 0 ∨ 4097 ≤ a1.toNatClampNeg then none else (if ((t_starts a1.toNatClampNeg) + a2) < 0 ∨ 12288 ≤ ((t_starts a1.toNatClampNeg) + a2).toNatClampNeg then none else (some (t_spelling ((t_starts a1.toNatClampNeg) + a2).toNatClampNeg))))))
set_option maxHeartbeats 4000000 in
set_option maxRecDepth 100000 in
theorem c_Na_byteOf {l : Launch} {dC : Nat → ClassId} {dI : Nat → Nat → Nat} {cI cB cS : ClassId} {adK adV adR : Nat → Nat} (h_t h_t_spelling h_t_starts h_t_newest h_t_older : Nat) (t_spelling : (Nat → Int32)) (t_starts : (Nat → Int32)) (t_newest : (Nat → Int32)) (t_older : (Nat → Int32)) (t_count : Int32) (a1 : Int32) (a2 : Int32) {o : Int32} (hf : f_Na_byteOf t_spelling t_starts t_count a1 a2 = some o) : jMet l dC dI cI cB cS adK adV adR y_Na_byteOf wd_Na_byteOf { frames := 1, cells := 0, slots := 0, locals := 21 } [.ref h_t, .int a1, .int a2] [(h_t, .inr (2, [.ref h_t_spelling, .ref h_t_starts, .ref h_t_newest, .ref h_t_older, .int t_count])), (h_t_spelling, .inl (cB, 12288, .inl t_spelling)), (h_t_starts, .inl (cI, 4097, .inl t_starts)), (h_t_newest, .inl (cI, 1024, .inl t_newest)), (h_t_older, .inl (cI, 4096, .inl t_older))] (some (.int o)) (fun q => [(h_t, .inr (2, [.ref h_t_spelling, .ref h_t_starts, .ref h_t_newest, .ref h_t_older, .int t_count])), (h_t_spelling, .inl (cB, 12288, .inl t_spelling)), (h_t_starts, .inl (cI, 4097, .inl t_starts)), (h_t_newest, .inl (cI, 1024, .inl t_newest)), (h_t_older, .inl (cI, 4096, .inl t_older))]) 0 0 := by
  refine jEntry (cc := b_Na_byteOf) (maxL := 3) (ret := (some .int)) (by decide) rfl (Nat.le_of_ble_eq_true rfl) rfl (fun p e s m args below meth c A H locs ls Q hQ hx hb hr hml hown hts hlocks hnm hJ hA hP hD hS hl => ?_)
  have hK := hJ.K
  have hl : lv_has ls 3 [(0, .ref h_t), (1, .int a1), (2, .int a2)] := hl
  have B29 : ∀  (H : Heap) (locs : List Loc) (ls : Array Slot), Na_byteOf_b29 t_spelling t_starts t_count = some o → va_P (dC, dI) vwCl [(h_t, .inr (2, [.ref h_t_spelling, .ref h_t_starts, .ref h_t_newest, .ref h_t_older, .int t_count])), (h_t_spelling, .inl (cB, 12288, .inl t_spelling)), (h_t_starts, .inl (cI, 4097, .inl t_starts)), (h_t_newest, .inl (cI, 1024, .inl t_newest)), (h_t_older, .inl (cI, 4096, .inl t_older))] H → va_D A [(h_t, .inr (2, [.ref h_t_spelling, .ref h_t_starts, .ref h_t_newest, .ref h_t_older, .int t_count])), (h_t_spelling, .inl (cB, 12288, .inl t_spelling)), (h_t_starts, .inl (cI, 4097, .inl t_starts)), (h_t_newest, .inl (cI, 1024, .inl t_newest)), (h_t_older, .inl (cI, 4096, .inl t_older))] → va_S A s.heap H locs → lv_has ls 3 [] → W p l e { frames := 1, cells := 0, slots := 0, locals := 21 } s m args below meth c H locs 0 0 Q (F0 m 29 ls []) := by
    intro  H locs ls hf hP hD hS hl
    unfold Na_byteOf_b29 at hf
    refine lv_iconst (v := (-1 : Int32)) hx hb d_Na_byteOf_29 (by decide) ?_
    have hf : (some (-1 : Int32) : Option Int32) = some o := hf
    rw [hQ, ← Option.some.inj hf]
    exact jIret hx hb hr hlocks d_Na_byteOf_30 (fun _ => 0) hS hP hD
  unfold f_Na_byteOf at hf
  refine lv_iload_n hx hb d_Na_byteOf_0 rfl (lv_at hl 2 rfl) ?_
  refine lv_if_lt (tgt := 29) hx hb d_Na_byteOf_1 (by decide) (fun c1 => ?_) (fun c1 => ?_)
  · rw [if_pos c1] at hf
    exact B29  H locs ls hf hP hD hS (lv_sub hl [] rfl)
  · rw [if_neg c1] at hf
    refine lv_iload_n hx hb d_Na_byteOf_4 rfl (lv_at hl 2 rfl) ?_
    refine lv_aload_n hx hb d_Na_byteOf_5 rfl (lv_at hl 0 rfl) ?_
    refine lv_iload_n hx hb d_Na_byteOf_6 rfl (lv_at hl 1 rfl) ?_
    obtain ⟨o5, ho5⟩ : ∃ z, f_Na_lengthOf t_starts t_count a1 = some z := by
      cases hz : f_Na_lengthOf t_starts t_count a1 with
      | none => rw [hz] at hf; simp only [jb_none, jl_b_none, jm_none, reduceCtorEq] at hf
      | some z => exact ⟨z, rfl⟩
    rw [ho5, jb_some] at hf
    refine jCallV (As := [.int a1]) (rest := [.int a2]) (wr := []) ⟨hx, hb, hml, hown, hts⟩ hJ (c_Na_lengthOf h_t h_t_spelling h_t_starts h_t_newest h_t_older t_spelling t_starts t_newest t_older t_count a1 ho5) (cwV 1 hts (jgV jw47 jw50 jw51 jw49 jw48) rfl rfl rfl dd_Na_lengthOf ⟨Nat.le_of_ble_eq_true rfl, Nat.le_of_ble_eq_true rfl⟩) hP hD hS hA (va_recv hK hP (ci := 2) (q0 := 0) rfl rfl) [0, 1, 2, 3, 4] [] rfl rfl (by decide) (by decide) (by decide) rfl hl.1 rfl (Nat.le_of_ble_eq_true rfl) d_Na_byteOf_7 ⟨Nat.le_of_ble_eq_true rfl, Nat.le_of_ble_eq_true rfl⟩ (fun qz6 H locs hP hD hS => ?_)
    have hP : va_P (dC, dI) vwCl [(h_t, .inr (2, [.ref h_t_spelling, .ref h_t_starts, .ref h_t_newest, .ref h_t_older, .int t_count])), (h_t_spelling, .inl (cB, 12288, .inl t_spelling)), (h_t_starts, .inl (cI, 4097, .inl t_starts)), (h_t_newest, .inl (cI, 1024, .inl t_newest)), (h_t_older, .inl (cI, 4096, .inl t_older))] H := hP
    have hD : va_D A [(h_t, .inr (2, [.ref h_t_spelling, .ref h_t_starts, .ref h_t_newest, .ref h_t_older, .int t_count])), (h_t_spelling, .inl (cB, 12288, .inl t_spelling)), (h_t_starts, .inl (cI, 4097, .inl t_starts)), (h_t_newest, .inl (cI, 1024, .inl t_newest)), (h_t_older, .inl (cI, 4096, .inl t_older))] := hD
    refine lv_icmp_ge (tgt := 29) hx hb d_Na_byteOf_10 (by decide) (fun c10 => ?_) (fun c10 => ?_)
    · rw [if_pos c10] at hf
      exact B29  H locs ls hf hP hD hS (lv_sub hl [] rfl)
    · rw [if_neg c10] at hf
      refine lv_aload_n hx hb d_Na_byteOf_13 rfl (lv_at hl 0 rfl) ?_
      refine va_get (D := (dC, dI)) (ci := 2) (v := .ref h_t_spelling) (C := R_Na) (T := T_Na) (N := 5) hx hb hts (fun w h => List.mem_cons_of_mem _ (in_Na w h)) hown hK hP 0 rfl rfl 0 (by decide) (hts _ (List.mem_cons_of_mem _ jw41)) (fun _ h9 => h9) rfl d_Na_byteOf_14 ?_
      refine lv_aload_n hx hb d_Na_byteOf_17 rfl (lv_at hl 0 rfl) ?_
      refine va_get (D := (dC, dI)) (ci := 2) (v := .ref h_t_starts) (C := R_Na) (T := T_Na) (N := 5) hx hb hts (fun w h => List.mem_cons_of_mem _ (in_Na w h)) hown hK hP 0 rfl rfl 1 (by decide) (hts _ (List.mem_cons_of_mem _ jw43)) (fun _ h9 => h9) rfl d_Na_byteOf_18 ?_
      refine lv_iload_n hx hb d_Na_byteOf_21 rfl (lv_at hl 1 rfl) ?_
      have c22 : ¬ (a1 < 0 ∨ 4097 ≤ a1.toNatClampNeg) := by intro z; rw [if_pos z] at hf; simp only [jb_none, jl_b_none, jm_none, reduceCtorEq] at hf
      rw [if_neg c22] at hf
      refine va_iald hx hb hK hP 2 0 rfl rfl c22 d_Na_byteOf_22 ?_
      refine lv_iload_n hx hb d_Na_byteOf_23 rfl (lv_at hl 2 rfl) ?_
      refine lv_iadd hx hb d_Na_byteOf_24 ?_
      have c25 : ¬ (((t_starts a1.toNatClampNeg) + a2) < 0 ∨ 12288 ≤ ((t_starts a1.toNatClampNeg) + a2).toNatClampNeg) := by intro z; rw [if_pos z] at hf; simp only [jb_none, jl_b_none, jm_none, reduceCtorEq] at hf
      rw [if_neg c25] at hf
      refine va_bald hx hb hK hP 1 1 rfl rfl c25 d_Na_byteOf_25 ?_
      refine lv_goto (tgt := 30) hx hb d_Na_byteOf_26 (by decide) ?_
      have hf : (some (t_spelling ((t_starts a1.toNatClampNeg) + a2).toNatClampNeg) : Option Int32) = some o := hf
      rw [hQ, ← Option.some.inj hf]
      exact jIret hx hb hr hlocks d_Na_byteOf_30 (fun _ => 0) hS hP hD
theorem d_Na_bucketOf_0 : decode b_Na_bucketOf 0 = .ok (.iconst 0, 1) := by decide +kernel
theorem d_Na_bucketOf_1 : decode b_Na_bucketOf 1 = .ok (.istore_n 3, 1) := by decide +kernel
theorem d_Na_bucketOf_2 : decode b_Na_bucketOf 2 = .ok (.iconst 0, 1) := by decide +kernel
theorem d_Na_bucketOf_3 : decode b_Na_bucketOf 3 = .ok (.istore 4, 2) := by decide +kernel
theorem d_Na_bucketOf_5 : decode b_Na_bucketOf 5 = .ok (.iload 4, 2) := by decide +kernel
theorem d_Na_bucketOf_7 : decode b_Na_bucketOf 7 = .ok (.iload_n 2, 1) := by decide +kernel
theorem d_Na_bucketOf_8 : decode b_Na_bucketOf 8 = .ok (.if_icmp .ge 23, 3) := by decide +kernel
theorem d_Na_bucketOf_11 : decode b_Na_bucketOf 11 = .ok (.bipush 31, 2) := by decide +kernel
theorem d_Na_bucketOf_13 : decode b_Na_bucketOf 13 = .ok (.iload_n 3, 1) := by decide +kernel
theorem d_Na_bucketOf_14 : decode b_Na_bucketOf 14 = .ok (.imul, 1) := by decide +kernel
theorem d_Na_bucketOf_15 : decode b_Na_bucketOf 15 = .ok (.aload_n 0, 1) := by decide +kernel
theorem d_Na_bucketOf_16 : decode b_Na_bucketOf 16 = .ok (.iload_n 1, 1) := by decide +kernel
theorem d_Na_bucketOf_17 : decode b_Na_bucketOf 17 = .ok (.iload 4, 2) := by decide +kernel
theorem d_Na_bucketOf_19 : decode b_Na_bucketOf 19 = .ok (.iadd, 1) := by decide +kernel
theorem d_Na_bucketOf_20 : decode b_Na_bucketOf 20 = .ok (.invokevirtual 45, 3) := by decide +kernel
theorem d_Na_bucketOf_23 : decode b_Na_bucketOf 23 = .ok (.iadd, 1) := by decide +kernel
theorem d_Na_bucketOf_24 : decode b_Na_bucketOf 24 = .ok (.istore_n 3, 1) := by decide +kernel
theorem d_Na_bucketOf_25 : decode b_Na_bucketOf 25 = .ok (.iinc 4 1, 3) := by decide +kernel
theorem d_Na_bucketOf_28 : decode b_Na_bucketOf 28 = .ok (.goto (-23), 3) := by decide +kernel
theorem d_Na_bucketOf_31 : decode b_Na_bucketOf 31 = .ok (.iload_n 3, 1) := by decide +kernel
theorem d_Na_bucketOf_32 : decode b_Na_bucketOf 32 = .ok (.sipush 1023, 3) := by decide +kernel
theorem d_Na_bucketOf_35 : decode b_Na_bucketOf 35 = .ok (.iand, 1) := by decide +kernel
theorem d_Na_bucketOf_36 : decode b_Na_bucketOf 36 = .ok (.ireturn, 1) := by decide +kernel
noncomputable def Na_bucketOf_b5_s (p1_row : (Nat → Int32)) (p1_length : Int32) (l1 : Int32) (l2 : Int32) (l3 : Int32) (l4 : Int32) : Option ((Int32 × Int32) ⊕ Int32) := if l2 ≤ l4 then (some (.inr (l3 &&& (1023 : Int32)))) else (jb (f_By_at p1_row p1_length (l1 + l4)) (fun o3 => some (.inl ((((31 : Int32) * l3) + o3), (l4 + (1 : Int32))))))
noncomputable def Na_bucketOf_b5_b (p1_row : (Nat → Int32)) (p1_length : Int32) (l1 : Int32) (l2 : Int32) : (Int32 × Int32) → Option ((Int32 × Int32) ⊕ Int32) := fun x => Na_bucketOf_b5_s p1_row p1_length l1 l2 x.1 x.2
noncomputable def Na_bucketOf_b5 (p1_row : (Nat → Int32)) (p1_length : Int32) (l1 : Int32) (l2 : Int32) (l3 : Int32) (l4 : Int32) : Option Int32 := jl (Na_bucketOf_b5_b p1_row p1_length l1 l2) (l3, l4)
noncomputable def f_Na_bucketOf (p1_row : (Nat → Int32)) (p1_length : Int32)  (a2 : Int32) (a3 : Int32) : Option Int32 := Na_bucketOf_b5 p1_row p1_length a2 a3 (0 : Int32) (0 : Int32)
set_option maxHeartbeats 4000000 in
set_option maxRecDepth 100000 in
theorem c_Na_bucketOf {l : Launch} {dC : Nat → ClassId} {dI : Nat → Nat → Nat} {cI cB cS : ClassId} {adK adV adR : Nat → Nat} (h_p1 h_p1_row : Nat) (p1_row : (Nat → Int32)) (p1_length : Int32) (p1_overrun : Int32) (a2 : Int32) (a3 : Int32) {o : Int32} (hf : f_Na_bucketOf p1_row p1_length a2 a3 = some o) : jMet l dC dI cI cB cS adK adV adR y_Na_bucketOf wd_Na_bucketOf { frames := 1, cells := 0, slots := 0, locals := 21 } [.ref h_p1, .int a2, .int a3] [(h_p1, .inr (0, [.ref h_p1_row, .int p1_length, .int p1_overrun])), (h_p1_row, .inl (cB, 8000, .inl p1_row))] (some (.int o)) (fun q => [(h_p1, .inr (0, [.ref h_p1_row, .int p1_length, .int p1_overrun])), (h_p1_row, .inl (cB, 8000, .inl p1_row))]) 0 0 := by
  refine jEntry (cc := b_Na_bucketOf) (maxL := 5) (ret := (some .int)) (by decide) rfl (Nat.le_of_ble_eq_true rfl) rfl (fun p e s m args below meth c A H locs ls Q hQ hx hb hr hml hown hts hlocks hnm hJ hA hP hD hS hl => ?_)
  have hK := hJ.K
  have hl : lv_has ls 5 [(0, .ref h_p1), (1, .int a2), (2, .int a3)] := hl
  have L5 : ∀ (n5 : Nat) (l1 : Int32) (l2 : Int32) (l3 : Int32) (l4 : Int32) (H : Heap) (locs : List Loc) (ls : Array Slot), jl_n (Na_bucketOf_b5_b p1_row p1_length l1 l2) n5 (l3, l4) = some o → va_P (dC, dI) vwCl [(h_p1, .inr (0, [.ref h_p1_row, .int p1_length, .int p1_overrun])), (h_p1_row, .inl (cB, 8000, .inl p1_row))] H → va_D A [(h_p1, .inr (0, [.ref h_p1_row, .int p1_length, .int p1_overrun])), (h_p1_row, .inl (cB, 8000, .inl p1_row))] → va_S A s.heap H locs → lv_has ls 5 [(0, .ref h_p1), (1, .int l1), (2, .int l2), (3, .int l3), (4, .int l4)] → W p l e { frames := 1, cells := 0, slots := 0, locals := 21 } s m args below meth c H locs 0 0 Q (F0 m 5 ls []) := by
    intro n5
    induction n5 with
    | zero => intro l1 l2 l3 l4 H locs ls hf; simp only [jl_n_zero, jl_b_none, reduceCtorEq] at hf
    | succ n5 ih5 =>
      intro l1 l2 l3 l4 H locs ls hf hP hD hS hl
      rw [jl_n_succ] at hf
      have hf : jl_b (jl_n (Na_bucketOf_b5_b p1_row p1_length l1 l2) n5) (Na_bucketOf_b5_s p1_row p1_length l1 l2 l3 l4) = some o := hf
      unfold Na_bucketOf_b5_s at hf
      refine lv_iload hx hb d_Na_bucketOf_5 (lv_at hl 4 rfl) ?_
      refine lv_iload_n hx hb d_Na_bucketOf_7 rfl (lv_at hl 2 rfl) ?_
      refine lv_icmp_ge (tgt := 31) hx hb d_Na_bucketOf_8 (by decide) (fun c8 => ?_) (fun c8 => ?_)
      · rw [if_pos c8] at hf
        refine lv_iload_n hx hb d_Na_bucketOf_31 rfl (lv_at hl 3 rfl) ?_
        refine lv_sipush (v := (1023 : Int32)) hx hb d_Na_bucketOf_32 (by decide) ?_
        refine lv_iand hx hb d_Na_bucketOf_35 ?_
        have hf : (some (l3 &&& (1023 : Int32)) : Option Int32) = some o := hf
        rw [hQ, ← Option.some.inj hf]
        exact jIret hx hb hr hlocks d_Na_bucketOf_36 (fun _ => 0) hS hP hD
      · rw [if_neg c8] at hf
        refine lv_bipush (v := (31 : Int32)) hx hb d_Na_bucketOf_11 (by decide) ?_
        refine lv_iload_n hx hb d_Na_bucketOf_13 rfl (lv_at hl 3 rfl) ?_
        refine lv_imul hx hb d_Na_bucketOf_14 ?_
        refine lv_aload_n hx hb d_Na_bucketOf_15 rfl (lv_at hl 0 rfl) ?_
        refine lv_iload_n hx hb d_Na_bucketOf_16 rfl (lv_at hl 1 rfl) ?_
        refine lv_iload hx hb d_Na_bucketOf_17 (lv_at hl 4 rfl) ?_
        refine lv_iadd hx hb d_Na_bucketOf_19 ?_
        obtain ⟨o5, ho5⟩ : ∃ z, f_By_at p1_row p1_length (l1 + l4) = some z := by
          cases hz : f_By_at p1_row p1_length (l1 + l4) with
          | none => rw [hz] at hf; simp only [jb_none, jl_b_none, jm_none, reduceCtorEq] at hf
          | some z => exact ⟨z, rfl⟩
        rw [ho5, jb_some] at hf
        refine jCallV (As := [.int (l1 + l4)]) (rest := [.int ((31 : Int32) * l3)]) (wr := []) ⟨hx, hb, hml, hown, hts⟩ hJ (c_By_at h_p1 h_p1_row p1_row p1_length p1_overrun (l1 + l4) ho5) (cwV 1 hts (jgV jw52 jw54 jw55 jw33 jw53) rfl rfl rfl dd_By_at ⟨Nat.le_of_ble_eq_true rfl, Nat.le_of_ble_eq_true rfl⟩) hP hD hS hA (va_recv hK hP (ci := 0) (q0 := 0) rfl rfl) [0, 1] [] rfl rfl (by decide) (by decide) (by decide) rfl hl.1 rfl (Nat.le_of_ble_eq_true rfl) d_Na_bucketOf_20 ⟨Nat.le_of_ble_eq_true rfl, Nat.le_of_ble_eq_true rfl⟩ (fun qz6 H locs hP hD hS => ?_)
        have hP : va_P (dC, dI) vwCl [(h_p1, .inr (0, [.ref h_p1_row, .int p1_length, .int p1_overrun])), (h_p1_row, .inl (cB, 8000, .inl p1_row))] H := hP
        have hD : va_D A [(h_p1, .inr (0, [.ref h_p1_row, .int p1_length, .int p1_overrun])), (h_p1_row, .inl (cB, 8000, .inl p1_row))] := hD
        refine lv_iadd hx hb d_Na_bucketOf_23 ?_
        refine lv_istore_n (lv' := [(3, .int (((31 : Int32) * l3) + o5)), (0, .ref h_p1), (1, .int l1), (2, .int l2), (4, .int l4)]) hx hb d_Na_bucketOf_24 rfl hl (by decide) rfl (fun ls hl => ?_)
        refine lv_iinc (v := l4 + (1 : Int32)) (lv' := [(4, .int (l4 + (1 : Int32))), (3, .int (((31 : Int32) * l3) + o5)), (0, .ref h_p1), (1, .int l1), (2, .int l2)]) hx hb d_Na_bucketOf_25 hl (k := 4) rfl rfl (by decide) rfl (fun ls hl => ?_)
        refine lv_goto (tgt := 5) hx hb d_Na_bucketOf_28 (by decide) ?_
        exact ih5 l1 l2 (((31 : Int32) * l3) + o5) (l4 + (1 : Int32)) H locs ls hf hP hD hS (lv_sub hl [2, 3, 4, 1, 0] rfl)
  unfold f_Na_bucketOf at hf
  refine lv_iconst (v := (0 : Int32)) hx hb d_Na_bucketOf_0 (by decide) ?_
  refine lv_istore_n (lv' := [(3, .int (0 : Int32)), (0, .ref h_p1), (1, .int a2), (2, .int a3)]) hx hb d_Na_bucketOf_1 rfl hl (by decide) rfl (fun ls hl => ?_)
  refine lv_iconst (v := (0 : Int32)) hx hb d_Na_bucketOf_2 (by decide) ?_
  refine lv_istore (lv' := [(4, .int (0 : Int32)), (3, .int (0 : Int32)), (0, .ref h_p1), (1, .int a2), (2, .int a3)]) hx hb d_Na_bucketOf_3 hl (by decide) rfl (fun ls hl => ?_)
  unfold Na_bucketOf_b5 at hf
  obtain ⟨nn, en⟩ := jl_ex (Na_bucketOf_b5_b p1_row p1_length a2 a3) ((0 : Int32), (0 : Int32))
  rw [en] at hf
  exact L5 nn a2 a3 (0 : Int32) (0 : Int32) H locs ls hf hP hD hS (lv_sub hl [2, 3, 4, 1, 0] rfl)
theorem d_Na_isSpelt_0 : decode b_Na_isSpelt 0 = .ok (.aload_n 0, 1) := by decide +kernel
theorem d_Na_isSpelt_1 : decode b_Na_isSpelt 1 = .ok (.iload_n 1, 1) := by decide +kernel
theorem d_Na_isSpelt_2 : decode b_Na_isSpelt 2 = .ok (.invokevirtual 29, 3) := by decide +kernel
theorem d_Na_isSpelt_5 : decode b_Na_isSpelt 5 = .ok (.iload 4, 2) := by decide +kernel
theorem d_Na_isSpelt_7 : decode b_Na_isSpelt 7 = .ok (.if_icmp .eq 5, 3) := by decide +kernel
theorem d_Na_isSpelt_10 : decode b_Na_isSpelt 10 = .ok (.iconst 0, 1) := by decide +kernel
theorem d_Na_isSpelt_11 : decode b_Na_isSpelt 11 = .ok (.ireturn, 1) := by decide +kernel
theorem d_Na_isSpelt_12 : decode b_Na_isSpelt 12 = .ok (.iconst 0, 1) := by decide +kernel
theorem d_Na_isSpelt_13 : decode b_Na_isSpelt 13 = .ok (.istore 5, 2) := by decide +kernel
theorem d_Na_isSpelt_15 : decode b_Na_isSpelt 15 = .ok (.iload 5, 2) := by decide +kernel
theorem d_Na_isSpelt_17 : decode b_Na_isSpelt 17 = .ok (.iload 4, 2) := by decide +kernel
theorem d_Na_isSpelt_19 : decode b_Na_isSpelt 19 = .ok (.if_icmp .ge 29, 3) := by decide +kernel
theorem d_Na_isSpelt_22 : decode b_Na_isSpelt 22 = .ok (.aload_n 0, 1) := by decide +kernel
theorem d_Na_isSpelt_23 : decode b_Na_isSpelt 23 = .ok (.iload_n 1, 1) := by decide +kernel
theorem d_Na_isSpelt_24 : decode b_Na_isSpelt 24 = .ok (.iload 5, 2) := by decide +kernel
theorem d_Na_isSpelt_26 : decode b_Na_isSpelt 26 = .ok (.invokevirtual 50, 3) := by decide +kernel
theorem d_Na_isSpelt_29 : decode b_Na_isSpelt 29 = .ok (.aload_n 2, 1) := by decide +kernel
theorem d_Na_isSpelt_30 : decode b_Na_isSpelt 30 = .ok (.iload_n 3, 1) := by decide +kernel
theorem d_Na_isSpelt_31 : decode b_Na_isSpelt 31 = .ok (.iload 5, 2) := by decide +kernel
theorem d_Na_isSpelt_33 : decode b_Na_isSpelt 33 = .ok (.iadd, 1) := by decide +kernel
theorem d_Na_isSpelt_34 : decode b_Na_isSpelt 34 = .ok (.invokevirtual 45, 3) := by decide +kernel
theorem d_Na_isSpelt_37 : decode b_Na_isSpelt 37 = .ok (.if_icmp .eq 5, 3) := by decide +kernel
theorem d_Na_isSpelt_40 : decode b_Na_isSpelt 40 = .ok (.iconst 0, 1) := by decide +kernel
theorem d_Na_isSpelt_41 : decode b_Na_isSpelt 41 = .ok (.ireturn, 1) := by decide +kernel
theorem d_Na_isSpelt_42 : decode b_Na_isSpelt 42 = .ok (.iinc 5 1, 3) := by decide +kernel
theorem d_Na_isSpelt_45 : decode b_Na_isSpelt 45 = .ok (.goto (-30), 3) := by decide +kernel
theorem d_Na_isSpelt_48 : decode b_Na_isSpelt 48 = .ok (.iconst 1, 1) := by decide +kernel
theorem d_Na_isSpelt_49 : decode b_Na_isSpelt 49 = .ok (.ireturn, 1) := by decide +kernel
noncomputable def Na_isSpelt_b15_s (t_spelling : (Nat → Int32)) (t_starts : (Nat → Int32)) (t_count : Int32) (p2_row : (Nat → Int32)) (p2_length : Int32) (l1 : Int32) (l3 : Int32) (l4 : Int32) (l5 : Int32) : Option (Int32 ⊕ Int32) := if l4 ≤ l5 then (some (.inr (vp_nar .boolean (1 : Int32)))) else (jb (f_Na_byteOf t_spelling t_starts t_count l1 l5) (fun o7 => jb (f_By_at p2_row p2_length (l3 + l5)) (fun o9 => if o7 = o9 then (some (.inl (l5 + (1 : Int32)))) else (some (.inr (vp_nar .boolean (0 : Int32)))))))
noncomputable def Na_isSpelt_b15_b (t_spelling : (Nat → Int32)) (t_starts : (Nat → Int32)) (t_count : Int32) (p2_row : (Nat → Int32)) (p2_length : Int32) (l1 : Int32) (l3 : Int32) (l4 : Int32) : Int32 → Option (Int32 ⊕ Int32) := fun x => Na_isSpelt_b15_s t_spelling t_starts t_count p2_row p2_length l1 l3 l4 x
noncomputable def Na_isSpelt_b15 (t_spelling : (Nat → Int32)) (t_starts : (Nat → Int32)) (t_count : Int32) (p2_row : (Nat → Int32)) (p2_length : Int32) (l1 : Int32) (l3 : Int32) (l4 : Int32) (l5 : Int32) : Option Int32 := jl (Na_isSpelt_b15_b t_spelling t_starts t_count p2_row p2_length l1 l3 l4) l5
noncomputable def f_Na_isSpelt (t_spelling : (Nat → Int32)) (t_starts : (Nat → Int32)) (t_count : Int32) (p2_row : (Nat → Int32)) (p2_length : Int32)  (a1 : Int32) (a3 : Int32) (a4 : Int32) : Option Int32 := jb (f_Na_lengthOf t_starts t_count a1) (fun o11 => if o11 = a4 then (Na_isSpelt_b15 t_spelling t_starts t_count p2_row p2_length a1 a3 a4 (0 : Int32)) else (some (vp_nar .boolean (0 : Int32))))
set_option maxHeartbeats 4000000 in
set_option maxRecDepth 100000 in
theorem c_Na_isSpelt {l : Launch} {dC : Nat → ClassId} {dI : Nat → Nat → Nat} {cI cB cS : ClassId} {adK adV adR : Nat → Nat} (h_t h_t_spelling h_t_starts h_t_newest h_t_older h_p2 h_p2_row : Nat) (t_spelling : (Nat → Int32)) (t_starts : (Nat → Int32)) (t_newest : (Nat → Int32)) (t_older : (Nat → Int32)) (t_count : Int32) (p2_row : (Nat → Int32)) (p2_length : Int32) (p2_overrun : Int32) (a1 : Int32) (a3 : Int32) (a4 : Int32) {o : Int32} (hf : f_Na_isSpelt t_spelling t_starts t_count p2_row p2_length a1 a3 a4 = some o) : jMet l dC dI cI cB cS adK adV adR y_Na_isSpelt wd_Na_isSpelt { frames := 2, cells := 0, slots := 0, locals := 43 } [.ref h_t, .int a1, .ref h_p2, .int a3, .int a4] [(h_t, .inr (2, [.ref h_t_spelling, .ref h_t_starts, .ref h_t_newest, .ref h_t_older, .int t_count])), (h_t_spelling, .inl (cB, 12288, .inl t_spelling)), (h_t_starts, .inl (cI, 4097, .inl t_starts)), (h_t_newest, .inl (cI, 1024, .inl t_newest)), (h_t_older, .inl (cI, 4096, .inl t_older)), (h_p2, .inr (0, [.ref h_p2_row, .int p2_length, .int p2_overrun])), (h_p2_row, .inl (cB, 8000, .inl p2_row))] (some (.int o)) (fun q => [(h_t, .inr (2, [.ref h_t_spelling, .ref h_t_starts, .ref h_t_newest, .ref h_t_older, .int t_count])), (h_t_spelling, .inl (cB, 12288, .inl t_spelling)), (h_t_starts, .inl (cI, 4097, .inl t_starts)), (h_t_newest, .inl (cI, 1024, .inl t_newest)), (h_t_older, .inl (cI, 4096, .inl t_older)), (h_p2, .inr (0, [.ref h_p2_row, .int p2_length, .int p2_overrun])), (h_p2_row, .inl (cB, 8000, .inl p2_row))]) 0 0 := by
  refine jEntry (cc := b_Na_isSpelt) (maxL := 6) (ret := (some .boolean)) (by decide) rfl (Nat.le_of_ble_eq_true rfl) rfl (fun p e s m args below meth c A H locs ls Q hQ hx hb hr hml hown hts hlocks hnm hJ hA hP hD hS hl => ?_)
  have hK := hJ.K
  have hl : lv_has ls 6 [(0, .ref h_t), (1, .int a1), (2, .ref h_p2), (3, .int a3), (4, .int a4)] := hl
  have L15 : ∀ (n15 : Nat) (l1 : Int32) (l3 : Int32) (l4 : Int32) (l5 : Int32) (H : Heap) (locs : List Loc) (ls : Array Slot), jl_n (Na_isSpelt_b15_b t_spelling t_starts t_count p2_row p2_length l1 l3 l4) n15 l5 = some o → va_P (dC, dI) vwCl [(h_t, .inr (2, [.ref h_t_spelling, .ref h_t_starts, .ref h_t_newest, .ref h_t_older, .int t_count])), (h_t_spelling, .inl (cB, 12288, .inl t_spelling)), (h_t_starts, .inl (cI, 4097, .inl t_starts)), (h_t_newest, .inl (cI, 1024, .inl t_newest)), (h_t_older, .inl (cI, 4096, .inl t_older)), (h_p2, .inr (0, [.ref h_p2_row, .int p2_length, .int p2_overrun])), (h_p2_row, .inl (cB, 8000, .inl p2_row))] H → va_D A [(h_t, .inr (2, [.ref h_t_spelling, .ref h_t_starts, .ref h_t_newest, .ref h_t_older, .int t_count])), (h_t_spelling, .inl (cB, 12288, .inl t_spelling)), (h_t_starts, .inl (cI, 4097, .inl t_starts)), (h_t_newest, .inl (cI, 1024, .inl t_newest)), (h_t_older, .inl (cI, 4096, .inl t_older)), (h_p2, .inr (0, [.ref h_p2_row, .int p2_length, .int p2_overrun])), (h_p2_row, .inl (cB, 8000, .inl p2_row))] → va_S A s.heap H locs → lv_has ls 6 [(0, .ref h_t), (1, .int l1), (2, .ref h_p2), (3, .int l3), (4, .int l4), (5, .int l5)] → W p l e { frames := 2, cells := 0, slots := 0, locals := 43 } s m args below meth c H locs 0 0 Q (F0 m 15 ls []) := by
    intro n15
    induction n15 with
    | zero => intro l1 l3 l4 l5 H locs ls hf; simp only [jl_n_zero, jl_b_none, reduceCtorEq] at hf
    | succ n15 ih15 =>
      intro l1 l3 l4 l5 H locs ls hf hP hD hS hl
      rw [jl_n_succ] at hf
      have hf : jl_b (jl_n (Na_isSpelt_b15_b t_spelling t_starts t_count p2_row p2_length l1 l3 l4) n15) (Na_isSpelt_b15_s t_spelling t_starts t_count p2_row p2_length l1 l3 l4 l5) = some o := hf
      unfold Na_isSpelt_b15_s at hf
      refine lv_iload hx hb d_Na_isSpelt_15 (lv_at hl 5 rfl) ?_
      refine lv_iload hx hb d_Na_isSpelt_17 (lv_at hl 4 rfl) ?_
      refine lv_icmp_ge (tgt := 48) hx hb d_Na_isSpelt_19 (by decide) (fun c19 => ?_) (fun c19 => ?_)
      · rw [if_pos c19] at hf
        refine lv_iconst (v := (1 : Int32)) hx hb d_Na_isSpelt_48 (by decide) ?_
        have hf : (some (vp_nar .boolean (1 : Int32)) : Option Int32) = some o := hf
        rw [hQ, ← Option.some.inj hf]
        exact jNret hx hb hr rfl hlocks d_Na_isSpelt_49 (fun _ => 0) hS hP hD
      · rw [if_neg c19] at hf
        refine lv_aload_n hx hb d_Na_isSpelt_22 rfl (lv_at hl 0 rfl) ?_
        refine lv_iload_n hx hb d_Na_isSpelt_23 rfl (lv_at hl 1 rfl) ?_
        refine lv_iload hx hb d_Na_isSpelt_24 (lv_at hl 5 rfl) ?_
        obtain ⟨o13, ho13⟩ : ∃ z, f_Na_byteOf t_spelling t_starts t_count l1 l5 = some z := by
          cases hz : f_Na_byteOf t_spelling t_starts t_count l1 l5 with
          | none => rw [hz] at hf; simp only [jb_none, jl_b_none, jm_none, reduceCtorEq] at hf
          | some z => exact ⟨z, rfl⟩
        rw [ho13, jb_some] at hf
        refine jCallV (As := [.int l1, .int l5]) (rest := []) (wr := [(h_p2, .inr (0, [.ref h_p2_row, .int p2_length, .int p2_overrun])), (h_p2_row, .inl (cB, 8000, .inl p2_row))]) ⟨hx, hb, hml, hown, hts⟩ hJ (c_Na_byteOf h_t h_t_spelling h_t_starts h_t_newest h_t_older t_spelling t_starts t_newest t_older t_count l1 l5 ho13) (cwV 2 hts (jgV jw56 jw58 jw59 jw49 jw57) rfl rfl rfl dd_Na_byteOf ⟨Nat.le_of_ble_eq_true rfl, Nat.le_of_ble_eq_true rfl⟩) hP hD hS hA (va_recv hK hP (ci := 2) (q0 := 0) rfl rfl) [0, 1, 2, 3, 4] [5, 6] rfl rfl (by decide) (by decide) (by decide) rfl hl.1 rfl (Nat.le_of_ble_eq_true rfl) d_Na_isSpelt_26 ⟨Nat.le_of_ble_eq_true rfl, Nat.le_of_ble_eq_true rfl⟩ (fun qz14 H locs hP hD hS => ?_)
        have hP : va_P (dC, dI) vwCl [(h_p2, .inr (0, [.ref h_p2_row, .int p2_length, .int p2_overrun])), (h_p2_row, .inl (cB, 8000, .inl p2_row)), (h_t, .inr (2, [.ref h_t_spelling, .ref h_t_starts, .ref h_t_newest, .ref h_t_older, .int t_count])), (h_t_spelling, .inl (cB, 12288, .inl t_spelling)), (h_t_starts, .inl (cI, 4097, .inl t_starts)), (h_t_newest, .inl (cI, 1024, .inl t_newest)), (h_t_older, .inl (cI, 4096, .inl t_older))] H := hP
        have hD : va_D A [(h_p2, .inr (0, [.ref h_p2_row, .int p2_length, .int p2_overrun])), (h_p2_row, .inl (cB, 8000, .inl p2_row)), (h_t, .inr (2, [.ref h_t_spelling, .ref h_t_starts, .ref h_t_newest, .ref h_t_older, .int t_count])), (h_t_spelling, .inl (cB, 12288, .inl t_spelling)), (h_t_starts, .inl (cI, 4097, .inl t_starts)), (h_t_newest, .inl (cI, 1024, .inl t_newest)), (h_t_older, .inl (cI, 4096, .inl t_older))] := hD
        refine lv_aload_n hx hb d_Na_isSpelt_29 rfl (lv_at hl 2 rfl) ?_
        refine lv_iload_n hx hb d_Na_isSpelt_30 rfl (lv_at hl 3 rfl) ?_
        refine lv_iload hx hb d_Na_isSpelt_31 (lv_at hl 5 rfl) ?_
        refine lv_iadd hx hb d_Na_isSpelt_33 ?_
        obtain ⟨o15, ho15⟩ : ∃ z, f_By_at p2_row p2_length (l3 + l5) = some z := by
          cases hz : f_By_at p2_row p2_length (l3 + l5) with
          | none => rw [hz] at hf; simp only [jb_none, jl_b_none, jm_none, reduceCtorEq] at hf
          | some z => exact ⟨z, rfl⟩
        rw [ho15, jb_some] at hf
        refine jCallV (As := [.int (l3 + l5)]) (rest := [.int o13]) (wr := [(h_t, .inr (2, [.ref h_t_spelling, .ref h_t_starts, .ref h_t_newest, .ref h_t_older, .int t_count])), (h_t_spelling, .inl (cB, 12288, .inl t_spelling)), (h_t_starts, .inl (cI, 4097, .inl t_starts)), (h_t_newest, .inl (cI, 1024, .inl t_newest)), (h_t_older, .inl (cI, 4096, .inl t_older))]) ⟨hx, hb, hml, hown, hts⟩ hJ (c_By_at h_p2 h_p2_row p2_row p2_length p2_overrun (l3 + l5) ho15) (cwV 1 hts (jgV jw52 jw54 jw55 jw33 jw53) rfl rfl rfl dd_By_at ⟨Nat.le_of_ble_eq_true rfl, Nat.le_of_ble_eq_true rfl⟩) hP hD hS hA (va_recv hK hP (ci := 0) (q0 := 0) rfl rfl) [0, 1] [2, 3, 4, 5, 6] rfl rfl (by decide) (by decide) (by decide) rfl hl.1 rfl (Nat.le_of_ble_eq_true rfl) d_Na_isSpelt_34 ⟨Nat.le_of_ble_eq_true rfl, Nat.le_of_ble_eq_true rfl⟩ (fun qz16 H locs hP hD hS => ?_)
        have hP : va_P (dC, dI) vwCl [(h_t, .inr (2, [.ref h_t_spelling, .ref h_t_starts, .ref h_t_newest, .ref h_t_older, .int t_count])), (h_t_spelling, .inl (cB, 12288, .inl t_spelling)), (h_t_starts, .inl (cI, 4097, .inl t_starts)), (h_t_newest, .inl (cI, 1024, .inl t_newest)), (h_t_older, .inl (cI, 4096, .inl t_older)), (h_p2, .inr (0, [.ref h_p2_row, .int p2_length, .int p2_overrun])), (h_p2_row, .inl (cB, 8000, .inl p2_row))] H := hP
        have hD : va_D A [(h_t, .inr (2, [.ref h_t_spelling, .ref h_t_starts, .ref h_t_newest, .ref h_t_older, .int t_count])), (h_t_spelling, .inl (cB, 12288, .inl t_spelling)), (h_t_starts, .inl (cI, 4097, .inl t_starts)), (h_t_newest, .inl (cI, 1024, .inl t_newest)), (h_t_older, .inl (cI, 4096, .inl t_older)), (h_p2, .inr (0, [.ref h_p2_row, .int p2_length, .int p2_overrun])), (h_p2_row, .inl (cB, 8000, .inl p2_row))] := hD
        refine lv_icmp_eq (tgt := 42) hx hb d_Na_isSpelt_37 (by decide) (fun c37 => ?_) (fun c37 => ?_)
        · rw [if_pos c37] at hf
          refine lv_iinc (v := l5 + (1 : Int32)) (lv' := [(5, .int (l5 + (1 : Int32))), (0, .ref h_t), (1, .int l1), (2, .ref h_p2), (3, .int l3), (4, .int l4)]) hx hb d_Na_isSpelt_42 hl (k := 5) rfl rfl (by decide) rfl (fun ls hl => ?_)
          refine lv_goto (tgt := 15) hx hb d_Na_isSpelt_45 (by decide) ?_
          exact ih15 l1 l3 l4 (l5 + (1 : Int32)) H locs ls hf hP hD hS (lv_sub hl [1, 2, 3, 4, 5, 0] rfl)
        · rw [if_neg c37] at hf
          refine lv_iconst (v := (0 : Int32)) hx hb d_Na_isSpelt_40 (by decide) ?_
          have hf : (some (vp_nar .boolean (0 : Int32)) : Option Int32) = some o := hf
          rw [hQ, ← Option.some.inj hf]
          exact jNret hx hb hr rfl hlocks d_Na_isSpelt_41 (fun _ => 0) hS hP hD
  unfold f_Na_isSpelt at hf
  refine lv_aload_n hx hb d_Na_isSpelt_0 rfl (lv_at hl 0 rfl) ?_
  refine lv_iload_n hx hb d_Na_isSpelt_1 rfl (lv_at hl 1 rfl) ?_
  obtain ⟨o17, ho17⟩ : ∃ z, f_Na_lengthOf t_starts t_count a1 = some z := by
    cases hz : f_Na_lengthOf t_starts t_count a1 with
    | none => rw [hz] at hf; simp only [jb_none, jl_b_none, jm_none, reduceCtorEq] at hf
    | some z => exact ⟨z, rfl⟩
  rw [ho17, jb_some] at hf
  refine jCallV (As := [.int a1]) (rest := []) (wr := [(h_p2, .inr (0, [.ref h_p2_row, .int p2_length, .int p2_overrun])), (h_p2_row, .inl (cB, 8000, .inl p2_row))]) ⟨hx, hb, hml, hown, hts⟩ hJ (c_Na_lengthOf h_t h_t_spelling h_t_starts h_t_newest h_t_older t_spelling t_starts t_newest t_older t_count a1 ho17) (cwV 1 hts (jgV jw47 jw50 jw51 jw49 jw48) rfl rfl rfl dd_Na_lengthOf ⟨Nat.le_of_ble_eq_true rfl, Nat.le_of_ble_eq_true rfl⟩) hP hD hS hA (va_recv hK hP (ci := 2) (q0 := 0) rfl rfl) [0, 1, 2, 3, 4] [5, 6] rfl rfl (by decide) (by decide) (by decide) rfl hl.1 rfl (Nat.le_of_ble_eq_true rfl) d_Na_isSpelt_2 ⟨Nat.le_of_ble_eq_true rfl, Nat.le_of_ble_eq_true rfl⟩ (fun qz18 H locs hP hD hS => ?_)
  have hP : va_P (dC, dI) vwCl [(h_p2, .inr (0, [.ref h_p2_row, .int p2_length, .int p2_overrun])), (h_p2_row, .inl (cB, 8000, .inl p2_row)), (h_t, .inr (2, [.ref h_t_spelling, .ref h_t_starts, .ref h_t_newest, .ref h_t_older, .int t_count])), (h_t_spelling, .inl (cB, 12288, .inl t_spelling)), (h_t_starts, .inl (cI, 4097, .inl t_starts)), (h_t_newest, .inl (cI, 1024, .inl t_newest)), (h_t_older, .inl (cI, 4096, .inl t_older))] H := hP
  have hD : va_D A [(h_p2, .inr (0, [.ref h_p2_row, .int p2_length, .int p2_overrun])), (h_p2_row, .inl (cB, 8000, .inl p2_row)), (h_t, .inr (2, [.ref h_t_spelling, .ref h_t_starts, .ref h_t_newest, .ref h_t_older, .int t_count])), (h_t_spelling, .inl (cB, 12288, .inl t_spelling)), (h_t_starts, .inl (cI, 4097, .inl t_starts)), (h_t_newest, .inl (cI, 1024, .inl t_newest)), (h_t_older, .inl (cI, 4096, .inl t_older))] := hD
  refine lv_iload hx hb d_Na_isSpelt_5 (lv_at hl 4 rfl) ?_
  refine lv_icmp_eq (tgt := 12) hx hb d_Na_isSpelt_7 (by decide) (fun c7 => ?_) (fun c7 => ?_)
  · rw [if_pos c7] at hf
    refine lv_iconst (v := (0 : Int32)) hx hb d_Na_isSpelt_12 (by decide) ?_
    refine lv_istore (lv' := [(5, .int (0 : Int32)), (0, .ref h_t), (1, .int a1), (2, .ref h_p2), (3, .int a3), (4, .int a4)]) hx hb d_Na_isSpelt_13 hl (by decide) rfl (fun ls hl => ?_)
    unfold Na_isSpelt_b15 at hf
    obtain ⟨nn, en⟩ := jl_ex (Na_isSpelt_b15_b t_spelling t_starts t_count p2_row p2_length a1 a3 a4) (0 : Int32)
    rw [en] at hf
    exact L15 nn a1 a3 a4 (0 : Int32) H locs ls hf (hP.sub [2, 3, 4, 5, 6, 0, 1] rfl) (hD.sub [2, 3, 4, 5, 6, 0, 1] (by decide) rfl) hS (lv_sub hl [1, 2, 3, 4, 5, 0] rfl)
  · rw [if_neg c7] at hf
    refine lv_iconst (v := (0 : Int32)) hx hb d_Na_isSpelt_10 (by decide) ?_
    have hf : (some (vp_nar .boolean (0 : Int32)) : Option Int32) = some o := hf
    rw [hQ, ← Option.some.inj hf]
    exact jNret hx hb hr rfl hlocks d_Na_isSpelt_11 (fun _ => 0) hS (hP.sub [2, 3, 4, 5, 6, 0, 1] rfl) (hD.sub [2, 3, 4, 5, 6, 0, 1] (by decide) rfl)
theorem d_Na_addName_0 : decode b_Na_addName 0 = .ok (.aload_n 0, 1) := by decide +kernel
theorem d_Na_addName_1 : decode b_Na_addName 1 = .ok (.getfield 15, 3) := by decide +kernel
theorem d_Na_addName_4 : decode b_Na_addName 4 = .ok (.aload_n 0, 1) := by decide +kernel
theorem d_Na_addName_5 : decode b_Na_addName 5 = .ok (.getfield 25, 3) := by decide +kernel
theorem d_Na_addName_8 : decode b_Na_addName 8 = .ok (.iaload, 1) := by decide +kernel
theorem d_Na_addName_9 : decode b_Na_addName 9 = .ok (.istore 5, 2) := by decide +kernel
theorem d_Na_addName_11 : decode b_Na_addName 11 = .ok (.aload_n 0, 1) := by decide +kernel
theorem d_Na_addName_12 : decode b_Na_addName 12 = .ok (.getfield 25, 3) := by decide +kernel
theorem d_Na_addName_15 : decode b_Na_addName 15 = .ok (.sipush 4096, 3) := by decide +kernel
theorem d_Na_addName_18 : decode b_Na_addName 18 = .ok (.if_icmp .ge 13, 3) := by decide +kernel
theorem d_Na_addName_21 : decode b_Na_addName 21 = .ok (.iload_n 3, 1) := by decide +kernel
theorem d_Na_addName_22 : decode b_Na_addName 22 = .ok (.sipush 12288, 3) := by decide +kernel
theorem d_Na_addName_25 : decode b_Na_addName 25 = .ok (.iload 5, 2) := by decide +kernel
theorem d_Na_addName_27 : decode b_Na_addName 27 = .ok (.isub, 1) := by decide +kernel
theorem d_Na_addName_28 : decode b_Na_addName 28 = .ok (.if_icmp .le 5, 3) := by decide +kernel
theorem d_Na_addName_31 : decode b_Na_addName 31 = .ok (.iconst (-1), 1) := by decide +kernel
theorem d_Na_addName_32 : decode b_Na_addName 32 = .ok (.ireturn, 1) := by decide +kernel
theorem d_Na_addName_33 : decode b_Na_addName 33 = .ok (.iconst 0, 1) := by decide +kernel
theorem d_Na_addName_34 : decode b_Na_addName 34 = .ok (.istore 6, 2) := by decide +kernel
theorem d_Na_addName_36 : decode b_Na_addName 36 = .ok (.iload 6, 2) := by decide +kernel
theorem d_Na_addName_38 : decode b_Na_addName 38 = .ok (.iload_n 3, 1) := by decide +kernel
theorem d_Na_addName_39 : decode b_Na_addName 39 = .ok (.if_icmp .ge 28, 3) := by decide +kernel
theorem d_Na_addName_42 : decode b_Na_addName 42 = .ok (.aload_n 0, 1) := by decide +kernel
theorem d_Na_addName_43 : decode b_Na_addName 43 = .ok (.getfield 11, 3) := by decide +kernel
theorem d_Na_addName_46 : decode b_Na_addName 46 = .ok (.iload 5, 2) := by decide +kernel
theorem d_Na_addName_48 : decode b_Na_addName 48 = .ok (.iload 6, 2) := by decide +kernel
theorem d_Na_addName_50 : decode b_Na_addName 50 = .ok (.iadd, 1) := by decide +kernel
theorem d_Na_addName_51 : decode b_Na_addName 51 = .ok (.aload_n 1, 1) := by decide +kernel
theorem d_Na_addName_52 : decode b_Na_addName 52 = .ok (.iload_n 2, 1) := by decide +kernel
theorem d_Na_addName_53 : decode b_Na_addName 53 = .ok (.iload 6, 2) := by decide +kernel
theorem d_Na_addName_55 : decode b_Na_addName 55 = .ok (.iadd, 1) := by decide +kernel
theorem d_Na_addName_56 : decode b_Na_addName 56 = .ok (.invokevirtual 45, 3) := by decide +kernel
theorem d_Na_addName_59 : decode b_Na_addName 59 = .ok (.i2b, 1) := by decide +kernel
theorem d_Na_addName_60 : decode b_Na_addName 60 = .ok (.bastore, 1) := by decide +kernel
theorem d_Na_addName_61 : decode b_Na_addName 61 = .ok (.iinc 6 1, 3) := by decide +kernel
theorem d_Na_addName_64 : decode b_Na_addName 64 = .ok (.goto (-28), 3) := by decide +kernel
theorem d_Na_addName_67 : decode b_Na_addName 67 = .ok (.aload_n 0, 1) := by decide +kernel
theorem d_Na_addName_68 : decode b_Na_addName 68 = .ok (.getfield 22, 3) := by decide +kernel
theorem d_Na_addName_71 : decode b_Na_addName 71 = .ok (.aload_n 0, 1) := by decide +kernel
theorem d_Na_addName_72 : decode b_Na_addName 72 = .ok (.getfield 25, 3) := by decide +kernel
theorem d_Na_addName_75 : decode b_Na_addName 75 = .ok (.aload_n 0, 1) := by decide +kernel
theorem d_Na_addName_76 : decode b_Na_addName 76 = .ok (.getfield 19, 3) := by decide +kernel
theorem d_Na_addName_79 : decode b_Na_addName 79 = .ok (.iload 4, 2) := by decide +kernel
theorem d_Na_addName_81 : decode b_Na_addName 81 = .ok (.iaload, 1) := by decide +kernel
theorem d_Na_addName_82 : decode b_Na_addName 82 = .ok (.iastore, 1) := by decide +kernel
theorem d_Na_addName_83 : decode b_Na_addName 83 = .ok (.aload_n 0, 1) := by decide +kernel
theorem d_Na_addName_84 : decode b_Na_addName 84 = .ok (.dup, 1) := by decide +kernel
theorem d_Na_addName_85 : decode b_Na_addName 85 = .ok (.getfield 25, 3) := by decide +kernel
theorem d_Na_addName_88 : decode b_Na_addName 88 = .ok (.iconst 1, 1) := by decide +kernel
theorem d_Na_addName_89 : decode b_Na_addName 89 = .ok (.iadd, 1) := by decide +kernel
theorem d_Na_addName_90 : decode b_Na_addName 90 = .ok (.putfield 25, 3) := by decide +kernel
theorem d_Na_addName_93 : decode b_Na_addName 93 = .ok (.aload_n 0, 1) := by decide +kernel
theorem d_Na_addName_94 : decode b_Na_addName 94 = .ok (.getfield 15, 3) := by decide +kernel
theorem d_Na_addName_97 : decode b_Na_addName 97 = .ok (.aload_n 0, 1) := by decide +kernel
theorem d_Na_addName_98 : decode b_Na_addName 98 = .ok (.getfield 25, 3) := by decide +kernel
theorem d_Na_addName_101 : decode b_Na_addName 101 = .ok (.iload 5, 2) := by decide +kernel
theorem d_Na_addName_103 : decode b_Na_addName 103 = .ok (.iload_n 3, 1) := by decide +kernel
theorem d_Na_addName_104 : decode b_Na_addName 104 = .ok (.iadd, 1) := by decide +kernel
theorem d_Na_addName_105 : decode b_Na_addName 105 = .ok (.iastore, 1) := by decide +kernel
theorem d_Na_addName_106 : decode b_Na_addName 106 = .ok (.aload_n 0, 1) := by decide +kernel
theorem d_Na_addName_107 : decode b_Na_addName 107 = .ok (.getfield 19, 3) := by decide +kernel
theorem d_Na_addName_110 : decode b_Na_addName 110 = .ok (.iload 4, 2) := by decide +kernel
theorem d_Na_addName_112 : decode b_Na_addName 112 = .ok (.aload_n 0, 1) := by decide +kernel
theorem d_Na_addName_113 : decode b_Na_addName 113 = .ok (.getfield 25, 3) := by decide +kernel
theorem d_Na_addName_116 : decode b_Na_addName 116 = .ok (.iastore, 1) := by decide +kernel
theorem d_Na_addName_117 : decode b_Na_addName 117 = .ok (.aload_n 0, 1) := by decide +kernel
theorem d_Na_addName_118 : decode b_Na_addName 118 = .ok (.getfield 25, 3) := by decide +kernel
theorem d_Na_addName_121 : decode b_Na_addName 121 = .ok (.iconst 1, 1) := by decide +kernel
theorem d_Na_addName_122 : decode b_Na_addName 122 = .ok (.isub, 1) := by decide +kernel
theorem d_Na_addName_123 : decode b_Na_addName 123 = .ok (.ireturn, 1) := by decide +kernel
noncomputable def Na_addName_b36_s (p1_row : (Nat → Int32)) (p1_length : Int32) (t_starts : (Nat → Int32)) (t_newest : (Nat → Int32)) (t_older : (Nat → Int32)) (t_count : Int32) (l2 : Int32) (l3 : Int32) (l4 : Int32) (l5 : Int32) (t_spelling : (Nat → Int32)) (l6 : Int32) : Option (((Nat → Int32) × Int32) ⊕ (Int32 × (Nat → Int32) × (Nat → Int32) × (Nat → Int32) × (Nat → Int32) × Int32)) := if l3 ≤ l6 then (if l4 < 0 ∨ 1024 ≤ l4.toNatClampNeg then none else (if t_count < 0 ∨ 4096 ≤ t_count.toNatClampNeg then none else (if (t_count + (1 : Int32)) < 0 ∨ 4097 ≤ (t_count + (1 : Int32)).toNatClampNeg then none else (if l4 < 0 ∨ 1024 ≤ l4.toNatClampNeg then none else (some (.inr (((t_count + (1 : Int32)) - (1 : Int32)), t_spelling, (upd t_starts (t_count + (1 : Int32)).toNatClampNeg (l5 + l3)), (upd t_newest l4.toNatClampNeg (t_count + (1 : Int32))), (upd t_older t_count.toNatClampNeg (t_newest l4.toNatClampNeg)), (t_count + (1 : Int32))))))))) else (jb (f_By_at p1_row p1_length (l2 + l6)) (fun o3 => if (l5 + l6) < 0 ∨ 12288 ≤ (l5 + l6).toNatClampNeg then none else (some (.inl ((upd t_spelling (l5 + l6).toNatClampNeg (vp_nar .byte (o3.toInt8.toInt32))), (l6 + (1 : Int32)))))))
noncomputable def Na_addName_b36_b (p1_row : (Nat → Int32)) (p1_length : Int32) (t_starts : (Nat → Int32)) (t_newest : (Nat → Int32)) (t_older : (Nat → Int32)) (t_count : Int32) (l2 : Int32) (l3 : Int32) (l4 : Int32) (l5 : Int32) : ((Nat → Int32) × Int32) → Option (((Nat → Int32) × Int32) ⊕ (Int32 × (Nat → Int32) × (Nat → Int32) × (Nat → Int32) × (Nat → Int32) × Int32)) := fun x => Na_addName_b36_s p1_row p1_length t_starts t_newest t_older t_count l2 l3 l4 l5 x.1 x.2
noncomputable def Na_addName_b36 (p1_row : (Nat → Int32)) (p1_length : Int32) (t_spelling : (Nat → Int32)) (t_starts : (Nat → Int32)) (t_newest : (Nat → Int32)) (t_older : (Nat → Int32)) (t_count : Int32) (l2 : Int32) (l3 : Int32) (l4 : Int32) (l5 : Int32) (l6 : Int32) : Option (Int32 × (Nat → Int32) × (Nat → Int32) × (Nat → Int32) × (Nat → Int32) × Int32) := jl (Na_addName_b36_b p1_row p1_length t_starts t_newest t_older t_count l2 l3 l4 l5) (t_spelling, l6)
noncomputable def f_Na_addName (p1_row : (Nat → Int32)) (p1_length : Int32) (t_spelling : (Nat → Int32)) (t_starts : (Nat → Int32)) (t_newest : (Nat → Int32)) (t_older : (Nat → Int32)) (t_count : Int32) (a2 : Int32) (a3 : Int32) (a4 : Int32) : Option (Int32 × (Nat → Int32) × (Nat → Int32) × (Nat → Int32) × (Nat → Int32) × Int32) := if t_count < 0 ∨ 4097 ≤ t_count.toNatClampNeg then none else (if (4096 : Int32) ≤ t_count then (some ((-1 : Int32), t_spelling, t_starts, t_newest, t_older, t_count)) else (if a3 ≤ ((12288 : Int32) - (t_starts t_count.toNatClampNeg)) then (Na_addName_b36 p1_row p1_length t_spelling t_starts t_newest t_older t_count a2 a3 a4 (t_starts t_count.toNatClampNeg) (0 : Int32)) else (some ((-1 : Int32), t_spelling, t_starts, t_newest, t_older, t_count))))
set_option maxHeartbeats 4000000 in
set_option maxRecDepth 100000 in
theorem c_Na_addName {l : Launch} {dC : Nat → ClassId} {dI : Nat → Nat → Nat} {cI cB cS : ClassId} {adK adV adR : Nat → Nat} (h_t h_t_spelling h_t_starts h_t_newest h_t_older h_p1 h_p1_row : Nat) (t_spelling : (Nat → Int32)) (t_starts : (Nat → Int32)) (t_newest : (Nat → Int32)) (t_older : (Nat → Int32)) (t_count : Int32) (p1_row : (Nat → Int32)) (p1_length : Int32) (p1_overrun : Int32) (a2 : Int32) (a3 : Int32) (a4 : Int32) {o : (Int32 × (Nat → Int32) × (Nat → Int32) × (Nat → Int32) × (Nat → Int32) × Int32)} (hf : f_Na_addName p1_row p1_length t_spelling t_starts t_newest t_older t_count a2 a3 a4 = some o) : jMet l dC dI cI cB cS adK adV adR y_Na_addName wd_Na_addName { frames := 1, cells := 0, slots := 0, locals := 21 } [.ref h_t, .ref h_p1, .int a2, .int a3, .int a4] [(h_t, .inr (2, [.ref h_t_spelling, .ref h_t_starts, .ref h_t_newest, .ref h_t_older, .int t_count])), (h_t_spelling, .inl (cB, 12288, .inl t_spelling)), (h_t_starts, .inl (cI, 4097, .inl t_starts)), (h_t_newest, .inl (cI, 1024, .inl t_newest)), (h_t_older, .inl (cI, 4096, .inl t_older)), (h_p1, .inr (0, [.ref h_p1_row, .int p1_length, .int p1_overrun])), (h_p1_row, .inl (cB, 8000, .inl p1_row))] (some (.int o.1)) (fun q => [(h_t, .inr (2, [.ref h_t_spelling, .ref h_t_starts, .ref h_t_newest, .ref h_t_older, .int o.2.2.2.2.2])), (h_t_spelling, .inl (cB, 12288, .inl o.2.1)), (h_t_starts, .inl (cI, 4097, .inl o.2.2.1)), (h_t_newest, .inl (cI, 1024, .inl o.2.2.2.1)), (h_t_older, .inl (cI, 4096, .inl o.2.2.2.2.1)), (h_p1, .inr (0, [.ref h_p1_row, .int p1_length, .int p1_overrun])), (h_p1_row, .inl (cB, 8000, .inl p1_row))]) 0 0 := by
  refine jEntry (cc := b_Na_addName) (maxL := 7) (ret := (some .int)) (by decide) rfl (Nat.le_of_ble_eq_true rfl) rfl (fun p e s m args below meth c A H locs ls Q hQ hx hb hr hml hown hts hlocks hnm hJ hA hP hD hS hl => ?_)
  have hK := hJ.K
  have hl : lv_has ls 7 [(0, .ref h_t), (1, .ref h_p1), (2, .int a2), (3, .int a3), (4, .int a4)] := hl
  have L36 : ∀ (n36 : Nat) (t_spelling : (Nat → Int32)) (t_starts : (Nat → Int32)) (t_newest : (Nat → Int32)) (t_older : (Nat → Int32)) (t_count : Int32) (l2 : Int32) (l3 : Int32) (l4 : Int32) (l5 : Int32) (l6 : Int32) (H : Heap) (locs : List Loc) (ls : Array Slot), jl_n (Na_addName_b36_b p1_row p1_length t_starts t_newest t_older t_count l2 l3 l4 l5) n36 (t_spelling, l6) = some o → va_P (dC, dI) vwCl [(h_t, .inr (2, [.ref h_t_spelling, .ref h_t_starts, .ref h_t_newest, .ref h_t_older, .int t_count])), (h_t_spelling, .inl (cB, 12288, .inl t_spelling)), (h_t_starts, .inl (cI, 4097, .inl t_starts)), (h_t_newest, .inl (cI, 1024, .inl t_newest)), (h_t_older, .inl (cI, 4096, .inl t_older)), (h_p1, .inr (0, [.ref h_p1_row, .int p1_length, .int p1_overrun])), (h_p1_row, .inl (cB, 8000, .inl p1_row))] H → va_D A [(h_t, .inr (2, [.ref h_t_spelling, .ref h_t_starts, .ref h_t_newest, .ref h_t_older, .int t_count])), (h_t_spelling, .inl (cB, 12288, .inl t_spelling)), (h_t_starts, .inl (cI, 4097, .inl t_starts)), (h_t_newest, .inl (cI, 1024, .inl t_newest)), (h_t_older, .inl (cI, 4096, .inl t_older)), (h_p1, .inr (0, [.ref h_p1_row, .int p1_length, .int p1_overrun])), (h_p1_row, .inl (cB, 8000, .inl p1_row))] → va_S A s.heap H locs → lv_has ls 7 [(0, .ref h_t), (1, .ref h_p1), (2, .int l2), (3, .int l3), (4, .int l4), (5, .int l5), (6, .int l6)] → W p l e { frames := 1, cells := 0, slots := 0, locals := 21 } s m args below meth c H locs 0 0 Q (F0 m 36 ls []) := by
    intro n36
    induction n36 with
    | zero => intro t_spelling t_starts t_newest t_older t_count l2 l3 l4 l5 l6 H locs ls hf; simp only [jl_n_zero, jl_b_none, reduceCtorEq] at hf
    | succ n36 ih36 =>
      intro t_spelling t_starts t_newest t_older t_count l2 l3 l4 l5 l6 H locs ls hf hP hD hS hl
      rw [jl_n_succ] at hf
      have hf : jl_b (jl_n (Na_addName_b36_b p1_row p1_length t_starts t_newest t_older t_count l2 l3 l4 l5) n36) (Na_addName_b36_s p1_row p1_length t_starts t_newest t_older t_count l2 l3 l4 l5 t_spelling l6) = some o := hf
      unfold Na_addName_b36_s at hf
      refine lv_iload hx hb d_Na_addName_36 (lv_at hl 6 rfl) ?_
      refine lv_iload_n hx hb d_Na_addName_38 rfl (lv_at hl 3 rfl) ?_
      refine lv_icmp_ge (tgt := 67) hx hb d_Na_addName_39 (by decide) (fun c39 => ?_) (fun c39 => ?_)
      · rw [if_pos c39] at hf
        refine lv_aload_n hx hb d_Na_addName_67 rfl (lv_at hl 0 rfl) ?_
        refine va_get (D := (dC, dI)) (ci := 2) (v := .ref h_t_older) (C := R_Na) (T := T_Na) (N := 5) hx hb hts (fun w h => List.mem_cons_of_mem _ (in_Na w h)) hown hK hP 0 rfl rfl 3 (by decide) (hts _ (List.mem_cons_of_mem _ jw45)) (fun _ h9 => h9) rfl d_Na_addName_68 ?_
        refine lv_aload_n hx hb d_Na_addName_71 rfl (lv_at hl 0 rfl) ?_
        refine va_get (D := (dC, dI)) (ci := 2) (v := .int t_count) (C := R_Na) (T := T_Na) (N := 5) hx hb hts (fun w h => List.mem_cons_of_mem _ (in_Na w h)) hown hK hP 0 rfl rfl 4 (by decide) (hts _ (List.mem_cons_of_mem _ jw46)) (fun _ h9 => h9) rfl d_Na_addName_72 ?_
        refine lv_aload_n hx hb d_Na_addName_75 rfl (lv_at hl 0 rfl) ?_
        refine va_get (D := (dC, dI)) (ci := 2) (v := .ref h_t_newest) (C := R_Na) (T := T_Na) (N := 5) hx hb hts (fun w h => List.mem_cons_of_mem _ (in_Na w h)) hown hK hP 0 rfl rfl 2 (by decide) (hts _ (List.mem_cons_of_mem _ jw44)) (fun _ h9 => h9) rfl d_Na_addName_76 ?_
        refine lv_iload hx hb d_Na_addName_79 (lv_at hl 4 rfl) ?_
        have c81 : ¬ (l4 < 0 ∨ 1024 ≤ l4.toNatClampNeg) := by intro z; rw [if_pos z] at hf; simp only [jb_none, jl_b_none, jm_none, reduceCtorEq] at hf
        rw [if_neg c81] at hf
        refine va_iald hx hb hK hP 3 0 rfl rfl c81 d_Na_addName_81 ?_
        have c82 : ¬ (t_count < 0 ∨ 4096 ≤ t_count.toNatClampNeg) := by intro z; rw [if_pos z] at hf; simp only [jb_none, jl_b_none, jm_none, reduceCtorEq] at hf
        rw [if_neg c82] at hf
        refine va_iast hx hb hK hP hD hS 4 0 rfl rfl c82 d_Na_addName_82 (fun H locs hP hD hS => ?_)
        have hP : va_P (dC, dI) vwCl [(h_t, .inr (2, [.ref h_t_spelling, .ref h_t_starts, .ref h_t_newest, .ref h_t_older, .int t_count])), (h_t_spelling, .inl (cB, 12288, .inl t_spelling)), (h_t_starts, .inl (cI, 4097, .inl t_starts)), (h_t_newest, .inl (cI, 1024, .inl t_newest)), (h_t_older, .inl (cI, 4096, .inl (upd t_older t_count.toNatClampNeg (t_newest l4.toNatClampNeg)))), (h_p1, .inr (0, [.ref h_p1_row, .int p1_length, .int p1_overrun])), (h_p1_row, .inl (cB, 8000, .inl p1_row))] H := hP
        have hD : va_D A [(h_t, .inr (2, [.ref h_t_spelling, .ref h_t_starts, .ref h_t_newest, .ref h_t_older, .int t_count])), (h_t_spelling, .inl (cB, 12288, .inl t_spelling)), (h_t_starts, .inl (cI, 4097, .inl t_starts)), (h_t_newest, .inl (cI, 1024, .inl t_newest)), (h_t_older, .inl (cI, 4096, .inl (upd t_older t_count.toNatClampNeg (t_newest l4.toNatClampNeg)))), (h_p1, .inr (0, [.ref h_p1_row, .int p1_length, .int p1_overrun])), (h_p1_row, .inl (cB, 8000, .inl p1_row))] := hD
        refine lv_aload_n hx hb d_Na_addName_83 rfl (lv_at hl 0 rfl) ?_
        refine lv_dup hx hb d_Na_addName_84 rfl ?_
        refine va_get (D := (dC, dI)) (ci := 2) (v := .int t_count) (C := R_Na) (T := T_Na) (N := 5) hx hb hts (fun w h => List.mem_cons_of_mem _ (in_Na w h)) hown hK hP 0 rfl rfl 4 (by decide) (hts _ (List.mem_cons_of_mem _ jw46)) (fun _ h9 => h9) rfl d_Na_addName_85 ?_
        refine lv_iconst (v := (1 : Int32)) hx hb d_Na_addName_88 (by decide) ?_
        refine lv_iadd hx hb d_Na_addName_89 ?_
        refine va_put (D := (dC, dI)) (ci := 2) (v := .int (t_count + (1 : Int32))) (ty := .int) (C := R_Na) (T := T_Na) (N := 5) hx hb hts (fun w h => List.mem_cons_of_mem _ (in_Na w h)) ty_Na tyok_Na nm_Na hown hK hP hD hS 0 rfl rfl 4 (by decide) (hts _ (List.mem_cons_of_mem _ jw46)) (fun _ h9 => h9) rfl (by decide +kernel) rfl rfl (Nat.le_of_ble_eq_true rfl) d_Na_addName_90 (fun H locs hP hD hS => ?_)
        have hP : va_P (dC, dI) vwCl [(h_t, .inr (2, [.ref h_t_spelling, .ref h_t_starts, .ref h_t_newest, .ref h_t_older, .int (t_count + (1 : Int32))])), (h_t_spelling, .inl (cB, 12288, .inl t_spelling)), (h_t_starts, .inl (cI, 4097, .inl t_starts)), (h_t_newest, .inl (cI, 1024, .inl t_newest)), (h_t_older, .inl (cI, 4096, .inl (upd t_older t_count.toNatClampNeg (t_newest l4.toNatClampNeg)))), (h_p1, .inr (0, [.ref h_p1_row, .int p1_length, .int p1_overrun])), (h_p1_row, .inl (cB, 8000, .inl p1_row))] H := hP
        have hD : va_D A [(h_t, .inr (2, [.ref h_t_spelling, .ref h_t_starts, .ref h_t_newest, .ref h_t_older, .int (t_count + (1 : Int32))])), (h_t_spelling, .inl (cB, 12288, .inl t_spelling)), (h_t_starts, .inl (cI, 4097, .inl t_starts)), (h_t_newest, .inl (cI, 1024, .inl t_newest)), (h_t_older, .inl (cI, 4096, .inl (upd t_older t_count.toNatClampNeg (t_newest l4.toNatClampNeg)))), (h_p1, .inr (0, [.ref h_p1_row, .int p1_length, .int p1_overrun])), (h_p1_row, .inl (cB, 8000, .inl p1_row))] := hD
        refine lv_aload_n hx hb d_Na_addName_93 rfl (lv_at hl 0 rfl) ?_
        refine va_get (D := (dC, dI)) (ci := 2) (v := .ref h_t_starts) (C := R_Na) (T := T_Na) (N := 5) hx hb hts (fun w h => List.mem_cons_of_mem _ (in_Na w h)) hown hK hP 0 rfl rfl 1 (by decide) (hts _ (List.mem_cons_of_mem _ jw43)) (fun _ h9 => h9) rfl d_Na_addName_94 ?_
        refine lv_aload_n hx hb d_Na_addName_97 rfl (lv_at hl 0 rfl) ?_
        refine va_get (D := (dC, dI)) (ci := 2) (v := .int (t_count + (1 : Int32))) (C := R_Na) (T := T_Na) (N := 5) hx hb hts (fun w h => List.mem_cons_of_mem _ (in_Na w h)) hown hK hP 0 rfl rfl 4 (by decide) (hts _ (List.mem_cons_of_mem _ jw46)) (fun _ h9 => h9) rfl d_Na_addName_98 ?_
        refine lv_iload hx hb d_Na_addName_101 (lv_at hl 5 rfl) ?_
        refine lv_iload_n hx hb d_Na_addName_103 rfl (lv_at hl 3 rfl) ?_
        refine lv_iadd hx hb d_Na_addName_104 ?_
        have c105 : ¬ ((t_count + (1 : Int32)) < 0 ∨ 4097 ≤ (t_count + (1 : Int32)).toNatClampNeg) := by intro z; rw [if_pos z] at hf; simp only [jb_none, jl_b_none, jm_none, reduceCtorEq] at hf
        rw [if_neg c105] at hf
        refine va_iast hx hb hK hP hD hS 2 0 rfl rfl c105 d_Na_addName_105 (fun H locs hP hD hS => ?_)
        have hP : va_P (dC, dI) vwCl [(h_t, .inr (2, [.ref h_t_spelling, .ref h_t_starts, .ref h_t_newest, .ref h_t_older, .int (t_count + (1 : Int32))])), (h_t_spelling, .inl (cB, 12288, .inl t_spelling)), (h_t_starts, .inl (cI, 4097, .inl (upd t_starts (t_count + (1 : Int32)).toNatClampNeg (l5 + l3)))), (h_t_newest, .inl (cI, 1024, .inl t_newest)), (h_t_older, .inl (cI, 4096, .inl (upd t_older t_count.toNatClampNeg (t_newest l4.toNatClampNeg)))), (h_p1, .inr (0, [.ref h_p1_row, .int p1_length, .int p1_overrun])), (h_p1_row, .inl (cB, 8000, .inl p1_row))] H := hP
        have hD : va_D A [(h_t, .inr (2, [.ref h_t_spelling, .ref h_t_starts, .ref h_t_newest, .ref h_t_older, .int (t_count + (1 : Int32))])), (h_t_spelling, .inl (cB, 12288, .inl t_spelling)), (h_t_starts, .inl (cI, 4097, .inl (upd t_starts (t_count + (1 : Int32)).toNatClampNeg (l5 + l3)))), (h_t_newest, .inl (cI, 1024, .inl t_newest)), (h_t_older, .inl (cI, 4096, .inl (upd t_older t_count.toNatClampNeg (t_newest l4.toNatClampNeg)))), (h_p1, .inr (0, [.ref h_p1_row, .int p1_length, .int p1_overrun])), (h_p1_row, .inl (cB, 8000, .inl p1_row))] := hD
        refine lv_aload_n hx hb d_Na_addName_106 rfl (lv_at hl 0 rfl) ?_
        refine va_get (D := (dC, dI)) (ci := 2) (v := .ref h_t_newest) (C := R_Na) (T := T_Na) (N := 5) hx hb hts (fun w h => List.mem_cons_of_mem _ (in_Na w h)) hown hK hP 0 rfl rfl 2 (by decide) (hts _ (List.mem_cons_of_mem _ jw44)) (fun _ h9 => h9) rfl d_Na_addName_107 ?_
        refine lv_iload hx hb d_Na_addName_110 (lv_at hl 4 rfl) ?_
        refine lv_aload_n hx hb d_Na_addName_112 rfl (lv_at hl 0 rfl) ?_
        refine va_get (D := (dC, dI)) (ci := 2) (v := .int (t_count + (1 : Int32))) (C := R_Na) (T := T_Na) (N := 5) hx hb hts (fun w h => List.mem_cons_of_mem _ (in_Na w h)) hown hK hP 0 rfl rfl 4 (by decide) (hts _ (List.mem_cons_of_mem _ jw46)) (fun _ h9 => h9) rfl d_Na_addName_113 ?_
        have c116 : ¬ (l4 < 0 ∨ 1024 ≤ l4.toNatClampNeg) := by intro z; rw [if_pos z] at hf; simp only [jb_none, jl_b_none, jm_none, reduceCtorEq] at hf
        rw [if_neg c116] at hf
        refine va_iast hx hb hK hP hD hS 3 0 rfl rfl c116 d_Na_addName_116 (fun H locs hP hD hS => ?_)
        have hP : va_P (dC, dI) vwCl [(h_t, .inr (2, [.ref h_t_spelling, .ref h_t_starts, .ref h_t_newest, .ref h_t_older, .int (t_count + (1 : Int32))])), (h_t_spelling, .inl (cB, 12288, .inl t_spelling)), (h_t_starts, .inl (cI, 4097, .inl (upd t_starts (t_count + (1 : Int32)).toNatClampNeg (l5 + l3)))), (h_t_newest, .inl (cI, 1024, .inl (upd t_newest l4.toNatClampNeg (t_count + (1 : Int32))))), (h_t_older, .inl (cI, 4096, .inl (upd t_older t_count.toNatClampNeg (t_newest l4.toNatClampNeg)))), (h_p1, .inr (0, [.ref h_p1_row, .int p1_length, .int p1_overrun])), (h_p1_row, .inl (cB, 8000, .inl p1_row))] H := hP
        have hD : va_D A [(h_t, .inr (2, [.ref h_t_spelling, .ref h_t_starts, .ref h_t_newest, .ref h_t_older, .int (t_count + (1 : Int32))])), (h_t_spelling, .inl (cB, 12288, .inl t_spelling)), (h_t_starts, .inl (cI, 4097, .inl (upd t_starts (t_count + (1 : Int32)).toNatClampNeg (l5 + l3)))), (h_t_newest, .inl (cI, 1024, .inl (upd t_newest l4.toNatClampNeg (t_count + (1 : Int32))))), (h_t_older, .inl (cI, 4096, .inl (upd t_older t_count.toNatClampNeg (t_newest l4.toNatClampNeg)))), (h_p1, .inr (0, [.ref h_p1_row, .int p1_length, .int p1_overrun])), (h_p1_row, .inl (cB, 8000, .inl p1_row))] := hD
        refine lv_aload_n hx hb d_Na_addName_117 rfl (lv_at hl 0 rfl) ?_
        refine va_get (D := (dC, dI)) (ci := 2) (v := .int (t_count + (1 : Int32))) (C := R_Na) (T := T_Na) (N := 5) hx hb hts (fun w h => List.mem_cons_of_mem _ (in_Na w h)) hown hK hP 0 rfl rfl 4 (by decide) (hts _ (List.mem_cons_of_mem _ jw46)) (fun _ h9 => h9) rfl d_Na_addName_118 ?_
        refine lv_iconst (v := (1 : Int32)) hx hb d_Na_addName_121 (by decide) ?_
        refine lv_isub hx hb d_Na_addName_122 ?_
        have hf : (some (((t_count + (1 : Int32)) - (1 : Int32)), t_spelling, (upd t_starts (t_count + (1 : Int32)).toNatClampNeg (l5 + l3)), (upd t_newest l4.toNatClampNeg (t_count + (1 : Int32))), (upd t_older t_count.toNatClampNeg (t_newest l4.toNatClampNeg)), (t_count + (1 : Int32))) : Option (Int32 × (Nat → Int32) × (Nat → Int32) × (Nat → Int32) × (Nat → Int32) × Int32)) = some o := hf
        rw [hQ, ← Option.some.inj hf]
        exact jIret hx hb hr hlocks d_Na_addName_123 (fun _ => 0) hS hP hD
      · rw [if_neg c39] at hf
        refine lv_aload_n hx hb d_Na_addName_42 rfl (lv_at hl 0 rfl) ?_
        refine va_get (D := (dC, dI)) (ci := 2) (v := .ref h_t_spelling) (C := R_Na) (T := T_Na) (N := 5) hx hb hts (fun w h => List.mem_cons_of_mem _ (in_Na w h)) hown hK hP 0 rfl rfl 0 (by decide) (hts _ (List.mem_cons_of_mem _ jw41)) (fun _ h9 => h9) rfl d_Na_addName_43 ?_
        refine lv_iload hx hb d_Na_addName_46 (lv_at hl 5 rfl) ?_
        refine lv_iload hx hb d_Na_addName_48 (lv_at hl 6 rfl) ?_
        refine lv_iadd hx hb d_Na_addName_50 ?_
        refine lv_aload_n hx hb d_Na_addName_51 rfl (lv_at hl 1 rfl) ?_
        refine lv_iload_n hx hb d_Na_addName_52 rfl (lv_at hl 2 rfl) ?_
        refine lv_iload hx hb d_Na_addName_53 (lv_at hl 6 rfl) ?_
        refine lv_iadd hx hb d_Na_addName_55 ?_
        obtain ⟨o5, ho5⟩ : ∃ z, f_By_at p1_row p1_length (l2 + l6) = some z := by
          cases hz : f_By_at p1_row p1_length (l2 + l6) with
          | none => rw [hz] at hf; simp only [jb_none, jl_b_none, jm_none, reduceCtorEq] at hf
          | some z => exact ⟨z, rfl⟩
        rw [ho5, jb_some] at hf
        refine jCallV (As := [.int (l2 + l6)]) (rest := [.int (l5 + l6), .ref h_t_spelling]) (wr := [(h_t, .inr (2, [.ref h_t_spelling, .ref h_t_starts, .ref h_t_newest, .ref h_t_older, .int t_count])), (h_t_spelling, .inl (cB, 12288, .inl t_spelling)), (h_t_starts, .inl (cI, 4097, .inl t_starts)), (h_t_newest, .inl (cI, 1024, .inl t_newest)), (h_t_older, .inl (cI, 4096, .inl t_older))]) ⟨hx, hb, hml, hown, hts⟩ hJ (c_By_at h_p1 h_p1_row p1_row p1_length p1_overrun (l2 + l6) ho5) (cwV 1 hts (jgV jw52 jw54 jw55 jw33 jw53) rfl rfl rfl dd_By_at ⟨Nat.le_of_ble_eq_true rfl, Nat.le_of_ble_eq_true rfl⟩) hP hD hS hA (va_recv hK hP (ci := 0) (q0 := 5) rfl rfl) [5, 6] [0, 1, 2, 3, 4] rfl rfl (by decide) (by decide) (by decide) rfl hl.1 rfl (Nat.le_of_ble_eq_true rfl) d_Na_addName_56 ⟨Nat.le_of_ble_eq_true rfl, Nat.le_of_ble_eq_true rfl⟩ (fun qz6 H locs hP hD hS => ?_)
        have hP : va_P (dC, dI) vwCl [(h_t, .inr (2, [.ref h_t_spelling, .ref h_t_starts, .ref h_t_newest, .ref h_t_older, .int t_count])), (h_t_spelling, .inl (cB, 12288, .inl t_spelling)), (h_t_starts, .inl (cI, 4097, .inl t_starts)), (h_t_newest, .inl (cI, 1024, .inl t_newest)), (h_t_older, .inl (cI, 4096, .inl t_older)), (h_p1, .inr (0, [.ref h_p1_row, .int p1_length, .int p1_overrun])), (h_p1_row, .inl (cB, 8000, .inl p1_row))] H := hP
        have hD : va_D A [(h_t, .inr (2, [.ref h_t_spelling, .ref h_t_starts, .ref h_t_newest, .ref h_t_older, .int t_count])), (h_t_spelling, .inl (cB, 12288, .inl t_spelling)), (h_t_starts, .inl (cI, 4097, .inl t_starts)), (h_t_newest, .inl (cI, 1024, .inl t_newest)), (h_t_older, .inl (cI, 4096, .inl t_older)), (h_p1, .inr (0, [.ref h_p1_row, .int p1_length, .int p1_overrun])), (h_p1_row, .inl (cB, 8000, .inl p1_row))] := hD
        refine lv_i2b (v := o5.toInt8.toInt32) hx hb d_Na_addName_59 rfl ?_
        have c60 : ¬ ((l5 + l6) < 0 ∨ 12288 ≤ (l5 + l6).toNatClampNeg) := by intro z; rw [if_pos z] at hf; simp only [jb_none, jl_b_none, jm_none, reduceCtorEq] at hf
        rw [if_neg c60] at hf
        refine va_bast hx hb hK hP hD hS 1 1 rfl rfl c60 d_Na_addName_60 (fun H locs hP hD hS => ?_)
        have hP : va_P (dC, dI) vwCl [(h_t, .inr (2, [.ref h_t_spelling, .ref h_t_starts, .ref h_t_newest, .ref h_t_older, .int t_count])), (h_t_spelling, .inl (cB, 12288, .inl (upd t_spelling (l5 + l6).toNatClampNeg (vp_nar .byte (o5.toInt8.toInt32))))), (h_t_starts, .inl (cI, 4097, .inl t_starts)), (h_t_newest, .inl (cI, 1024, .inl t_newest)), (h_t_older, .inl (cI, 4096, .inl t_older)), (h_p1, .inr (0, [.ref h_p1_row, .int p1_length, .int p1_overrun])), (h_p1_row, .inl (cB, 8000, .inl p1_row))] H := hP
        have hD : va_D A [(h_t, .inr (2, [.ref h_t_spelling, .ref h_t_starts, .ref h_t_newest, .ref h_t_older, .int t_count])), (h_t_spelling, .inl (cB, 12288, .inl (upd t_spelling (l5 + l6).toNatClampNeg (vp_nar .byte (o5.toInt8.toInt32))))), (h_t_starts, .inl (cI, 4097, .inl t_starts)), (h_t_newest, .inl (cI, 1024, .inl t_newest)), (h_t_older, .inl (cI, 4096, .inl t_older)), (h_p1, .inr (0, [.ref h_p1_row, .int p1_length, .int p1_overrun])), (h_p1_row, .inl (cB, 8000, .inl p1_row))] := hD
        refine lv_iinc (v := l6 + (1 : Int32)) (lv' := [(6, .int (l6 + (1 : Int32))), (0, .ref h_t), (1, .ref h_p1), (2, .int l2), (3, .int l3), (4, .int l4), (5, .int l5)]) hx hb d_Na_addName_61 hl (k := 6) rfl rfl (by decide) rfl (fun ls hl => ?_)
        refine lv_goto (tgt := 36) hx hb d_Na_addName_64 (by decide) ?_
        exact ih36 (upd t_spelling (l5 + l6).toNatClampNeg (vp_nar .byte (o5.toInt8.toInt32))) t_starts t_newest t_older t_count l2 l3 l4 l5 (l6 + (1 : Int32)) H locs ls hf hP hD hS (lv_sub hl [1, 2, 3, 4, 5, 6, 0] rfl)
  unfold f_Na_addName at hf
  refine lv_aload_n hx hb d_Na_addName_0 rfl (lv_at hl 0 rfl) ?_
  refine va_get (D := (dC, dI)) (ci := 2) (v := .ref h_t_starts) (C := R_Na) (T := T_Na) (N := 5) hx hb hts (fun w h => List.mem_cons_of_mem _ (in_Na w h)) hown hK hP 0 rfl rfl 1 (by decide) (hts _ (List.mem_cons_of_mem _ jw43)) (fun _ h9 => h9) rfl d_Na_addName_1 ?_
  refine lv_aload_n hx hb d_Na_addName_4 rfl (lv_at hl 0 rfl) ?_
  refine va_get (D := (dC, dI)) (ci := 2) (v := .int t_count) (C := R_Na) (T := T_Na) (N := 5) hx hb hts (fun w h => List.mem_cons_of_mem _ (in_Na w h)) hown hK hP 0 rfl rfl 4 (by decide) (hts _ (List.mem_cons_of_mem _ jw46)) (fun _ h9 => h9) rfl d_Na_addName_5 ?_
  have c8 : ¬ (t_count < 0 ∨ 4097 ≤ t_count.toNatClampNeg) := by intro z; rw [if_pos z] at hf; simp only [jb_none, jl_b_none, jm_none, reduceCtorEq] at hf
  rw [if_neg c8] at hf
  refine va_iald hx hb hK hP 2 0 rfl rfl c8 d_Na_addName_8 ?_
  refine lv_istore (lv' := [(5, .int (t_starts t_count.toNatClampNeg)), (0, .ref h_t), (1, .ref h_p1), (2, .int a2), (3, .int a3), (4, .int a4)]) hx hb d_Na_addName_9 hl (by decide) rfl (fun ls hl => ?_)
  refine lv_aload_n hx hb d_Na_addName_11 rfl (lv_at hl 1 rfl) ?_
  refine va_get (D := (dC, dI)) (ci := 2) (v := .int t_count) (C := R_Na) (T := T_Na) (N := 5) hx hb hts (fun w h => List.mem_cons_of_mem _ (in_Na w h)) hown hK hP 0 rfl rfl 4 (by decide) (hts _ (List.mem_cons_of_mem _ jw46)) (fun _ h9 => h9) rfl d_Na_addName_12 ?_
  refine lv_sipush (v := (4096 : Int32)) hx hb d_Na_addName_15 (by decide) ?_
  refine lv_icmp_ge (tgt := 31) hx hb d_Na_addName_18 (by decide) (fun c18 => ?_) (fun c18 => ?_)
  · rw [if_pos c18] at hf
    refine lv_iconst (v := (-1 : Int32)) hx hb d_Na_addName_31 (by decide) ?_
    have hf : (some ((-1 : Int32), t_spelling, t_starts, t_newest, t_older, t_count) : Option (Int32 × (Nat → Int32) × (Nat → Int32) × (Nat → Int32) × (Nat → Int32) × Int32)) = some o := hf
    rw [hQ, ← Option.some.inj hf]
    exact jIret hx hb hr hlocks d_Na_addName_32 (fun _ => 0) hS hP hD
  · rw [if_neg c18] at hf
    refine lv_iload_n hx hb d_Na_addName_21 rfl (lv_at hl 4 rfl) ?_
    refine lv_sipush (v := (12288 : Int32)) hx hb d_Na_addName_22 (by decide) ?_
    refine lv_iload hx hb d_Na_addName_25 (lv_at hl 0 rfl) ?_
    refine lv_isub hx hb d_Na_addName_27 ?_
    refine lv_icmp_le (tgt := 33) hx hb d_Na_addName_28 (by decide) (fun c28 => ?_) (fun c28 => ?_)
    · rw [if_pos c28] at hf
      refine lv_iconst (v := (0 : Int32)) hx hb d_Na_addName_33 (by decide) ?_
      refine lv_istore (lv' := [(6, .int (0 : Int32)), (5, .int (t_starts t_count.toNatClampNeg)), (0, .ref h_t), (1, .ref h_p1), (2, .int a2), (3, .int a3), (4, .int a4)]) hx hb d_Na_addName_34 hl (by decide) rfl (fun ls hl => ?_)
      unfold Na_addName_b36 at hf
      obtain ⟨nn, en⟩ := jl_ex (Na_addName_b36_b p1_row p1_length t_starts t_newest t_older t_count a2 a3 a4 (t_starts t_count.toNatClampNeg)) (t_spelling, (0 : Int32))
      rw [en] at hf
      exact L36 nn t_spelling t_starts t_newest t_older t_count a2 a3 a4 (t_starts t_count.toNatClampNeg) (0 : Int32) H locs ls hf hP hD hS (lv_sub hl [2, 3, 4, 5, 6, 1, 0] rfl)
    · rw [if_neg c28] at hf
      refine lv_iconst (v := (-1 : Int32)) hx hb d_Na_addName_31 (by decide) ?_
      have hf : (some ((-1 : Int32), t_spelling, t_starts, t_newest, t_older, t_count) : Option (Int32 × (Nat → Int32) × (Nat → Int32) × (Nat → Int32) × (Nat → Int32) × Int32)) = some o := hf
      rw [hQ, ← Option.some.inj hf]
      exact jIret hx hb hr hlocks d_Na_addName_32 (fun _ => 0) hS hP hD
theorem d_Na_numberOf_0 : decode b_Na_numberOf 0 = .ok (.aload_n 1, 1) := by decide +kernel
theorem d_Na_numberOf_1 : decode b_Na_numberOf 1 = .ok (.iload_n 2, 1) := by decide +kernel
theorem d_Na_numberOf_2 : decode b_Na_numberOf 2 = .ok (.iload_n 3, 1) := by decide +kernel
theorem d_Na_numberOf_3 : decode b_Na_numberOf 3 = .ok (.invokestatic 33, 3) := by decide +kernel
theorem d_Na_numberOf_6 : decode b_Na_numberOf 6 = .ok (.istore 4, 2) := by decide +kernel
theorem d_Na_numberOf_8 : decode b_Na_numberOf 8 = .ok (.aload_n 0, 1) := by decide +kernel
theorem d_Na_numberOf_9 : decode b_Na_numberOf 9 = .ok (.getfield 19, 3) := by decide +kernel
theorem d_Na_numberOf_12 : decode b_Na_numberOf 12 = .ok (.iload 4, 2) := by decide +kernel
theorem d_Na_numberOf_14 : decode b_Na_numberOf 14 = .ok (.iaload, 1) := by decide +kernel
theorem d_Na_numberOf_15 : decode b_Na_numberOf 15 = .ok (.iconst 1, 1) := by decide +kernel
theorem d_Na_numberOf_16 : decode b_Na_numberOf 16 = .ok (.isub, 1) := by decide +kernel
theorem d_Na_numberOf_17 : decode b_Na_numberOf 17 = .ok (.istore 5, 2) := by decide +kernel
theorem d_Na_numberOf_19 : decode b_Na_numberOf 19 = .ok (.iconst 0, 1) := by decide +kernel
theorem d_Na_numberOf_20 : decode b_Na_numberOf 20 = .ok (.istore 6, 2) := by decide +kernel
theorem d_Na_numberOf_22 : decode b_Na_numberOf 22 = .ok (.iload 6, 2) := by decide +kernel
theorem d_Na_numberOf_24 : decode b_Na_numberOf 24 = .ok (.aload_n 0, 1) := by decide +kernel
theorem d_Na_numberOf_25 : decode b_Na_numberOf 25 = .ok (.getfield 25, 3) := by decide +kernel
theorem d_Na_numberOf_28 : decode b_Na_numberOf 28 = .ok (.if_icmp .ge 49, 3) := by decide +kernel
theorem d_Na_numberOf_31 : decode b_Na_numberOf 31 = .ok (.iload 5, 2) := by decide +kernel
theorem d_Na_numberOf_33 : decode b_Na_numberOf 33 = .ok (.ifCond .lt 44, 3) := by decide +kernel
theorem d_Na_numberOf_36 : decode b_Na_numberOf 36 = .ok (.iload 5, 2) := by decide +kernel
theorem d_Na_numberOf_38 : decode b_Na_numberOf 38 = .ok (.aload_n 0, 1) := by decide +kernel
theorem d_Na_numberOf_39 : decode b_Na_numberOf 39 = .ok (.getfield 25, 3) := by decide +kernel
theorem d_Na_numberOf_42 : decode b_Na_numberOf 42 = .ok (.if_icmp .ge 35, 3) := by decide +kernel
theorem d_Na_numberOf_45 : decode b_Na_numberOf 45 = .ok (.aload_n 0, 1) := by decide +kernel
theorem d_Na_numberOf_46 : decode b_Na_numberOf 46 = .ok (.iload 5, 2) := by decide +kernel
theorem d_Na_numberOf_48 : decode b_Na_numberOf 48 = .ok (.aload_n 1, 1) := by decide +kernel
theorem d_Na_numberOf_49 : decode b_Na_numberOf 49 = .ok (.iload_n 2, 1) := by decide +kernel
theorem d_Na_numberOf_50 : decode b_Na_numberOf 50 = .ok (.iload_n 3, 1) := by decide +kernel
theorem d_Na_numberOf_51 : decode b_Na_numberOf 51 = .ok (.invokevirtual 37, 3) := by decide +kernel
theorem d_Na_numberOf_54 : decode b_Na_numberOf 54 = .ok (.ifCond .eq 6, 3) := by decide +kernel
theorem d_Na_numberOf_57 : decode b_Na_numberOf 57 = .ok (.iload 5, 2) := by decide +kernel
theorem d_Na_numberOf_59 : decode b_Na_numberOf 59 = .ok (.ireturn, 1) := by decide +kernel
theorem d_Na_numberOf_60 : decode b_Na_numberOf 60 = .ok (.aload_n 0, 1) := by decide +kernel
theorem d_Na_numberOf_61 : decode b_Na_numberOf 61 = .ok (.getfield 22, 3) := by decide +kernel
theorem d_Na_numberOf_64 : decode b_Na_numberOf 64 = .ok (.iload 5, 2) := by decide +kernel
theorem d_Na_numberOf_66 : decode b_Na_numberOf 66 = .ok (.iaload, 1) := by decide +kernel
theorem d_Na_numberOf_67 : decode b_Na_numberOf 67 = .ok (.iconst 1, 1) := by decide +kernel
theorem d_Na_numberOf_68 : decode b_Na_numberOf 68 = .ok (.isub, 1) := by decide +kernel
theorem d_Na_numberOf_69 : decode b_Na_numberOf 69 = .ok (.istore 5, 2) := by decide +kernel
theorem d_Na_numberOf_71 : decode b_Na_numberOf 71 = .ok (.iinc 6 1, 3) := by decide +kernel
theorem d_Na_numberOf_74 : decode b_Na_numberOf 74 = .ok (.goto (-52), 3) := by decide +kernel
theorem d_Na_numberOf_77 : decode b_Na_numberOf 77 = .ok (.aload_n 0, 1) := by decide +kernel
theorem d_Na_numberOf_78 : decode b_Na_numberOf 78 = .ok (.aload_n 1, 1) := by decide +kernel
theorem d_Na_numberOf_79 : decode b_Na_numberOf 79 = .ok (.iload_n 2, 1) := by decide +kernel
theorem d_Na_numberOf_80 : decode b_Na_numberOf 80 = .ok (.iload_n 3, 1) := by decide +kernel
theorem d_Na_numberOf_81 : decode b_Na_numberOf 81 = .ok (.iload 4, 2) := by decide +kernel
theorem d_Na_numberOf_83 : decode b_Na_numberOf 83 = .ok (.invokevirtual 41, 3) := by decide +kernel
theorem d_Na_numberOf_86 : decode b_Na_numberOf 86 = .ok (.ireturn, 1) := by decide +kernel
noncomputable def Na_numberOf_b77 (p1_row : (Nat → Int32)) (p1_length : Int32) (t_spelling : (Nat → Int32)) (t_starts : (Nat → Int32)) (t_newest : (Nat → Int32)) (t_older : (Nat → Int32)) (t_count : Int32) (l2 : Int32) (l3 : Int32) (l4 : Int32) : Option (Int32 × (Nat → Int32) × (Nat → Int32) × (Nat → Int32) × (Nat → Int32) × Int32) := jb (f_Na_addName p1_row p1_length t_spelling t_starts t_newest t_older t_count l2 l3 l4) (fun o7 => some (o7.1, o7.2.1, o7.2.2.1, o7.2.2.2.1, o7.2.2.2.2.1, o7.2.2.2.2.2))
noncomputable def Na_numberOf_b22_s (p1_row : (Nat → Int32)) (p1_length : Int32) (t_spelling : (Nat → Int32)) (t_starts : (Nat → Int32)) (t_newest : (Nat → Int32)) (t_older : (Nat → Int32)) (t_count : Int32) (l2 : Int32) (l3 : Int32) (l4 : Int32) (l5 : Int32) (l6 : Int32) : Option ((Int32 × Int32) ⊕ (Int32 × (Nat → Int32) × (Nat → Int32) × (Nat → Int32) × (Nat → Int32) × Int32)) := if t_count ≤ l6 then (jm (Na_numberOf_b77 p1_row p1_length t_spelling t_starts t_newest t_older t_count l2 l3 l4)) else (if l5 < 0 then (jm (Na_numberOf_b77 p1_row p1_length t_spelling t_starts t_newest t_older t_count l2 l3 l4)) else (if t_count ≤ l5 then (jm (Na_numberOf_b77 p1_row p1_length t_spelling t_starts t_newest t_older t_count l2 l3 l4)) else (jb (f_Na_isSpelt t_spelling t_starts t_count p1_row p1_length l5 l2 l3) (fun o9 => if o9 = 0 then (if l5 < 0 ∨ 4096 ≤ l5.toNatClampNeg then none else (some (.inl (((t_older l5.toNatClampNeg) - (1 : Int32)), (l6 + (1 : Int32)))))) else (some (.inr (l5, t_spelling, t_starts, t_newest, t_older, t_count)))))))
noncomputable def Na_numberOf_b22_b (p1_row : (Nat → Int32)) (p1_length : Int32) (t_spelling : (Nat → Int32)) (t_starts : (Nat → Int32)) (t_newest : (Nat → Int32)) (t_older : (Nat → Int32)) (t_count : Int32) (l2 : Int32) (l3 : Int32) (l4 : Int32) : (Int32 × Int32) → Option ((Int32 × Int32) ⊕ (Int32 × (Nat → Int32) × (Nat → Int32) × (Nat → Int32) × (Nat → Int32) × Int32)) := fun x => Na_numberOf_b22_s p1_row p1_length t_spelling t_starts t_newest t_older t_count l2 l3 l4 x.1 x.2
noncomputable def Na_numberOf_b22 (p1_row : (Nat → Int32)) (p1_length : Int32) (t_spelling : (Nat → Int32)) (t_starts : (Nat → Int32)) (t_newest : (Nat → Int32)) (t_older : (Nat → Int32)) (t_count : Int32) (l2 : Int32) (l3 : Int32) (l4 : Int32) (l5 : Int32) (l6 : Int32) : Option (Int32 × (Nat → Int32) × (Nat → Int32) × (Nat → Int32) × (Nat → Int32) × Int32) := jl (Na_numberOf_b22_b p1_row p1_length t_spelling t_starts t_newest t_older t_count l2 l3 l4) (l5, l6)
noncomputable def f_Na_numberOf (p1_row : (Nat → Int32)) (p1_length : Int32) (t_spelling : (Nat → Int32)) (t_starts : (Nat → Int32)) (t_newest : (Nat → Int32)) (t_older : (Nat → Int32)) (t_count : Int32) (a2 : Int32) (a3 : Int32) : Option (Int32 × (Nat → Int32) × (Nat → Int32) × (Nat → Int32) × (Nat → Int32) × Int32) := jb (f_Na_bucketOf p1_row p1_length a2 a3) (fun o11 => if o11 < 0 ∨ 1024 ≤ o11.toNatClampNeg then none else (Na_numberOf_b22 p1_row p1_length t_spelling t_starts t_newest t_older t_count a2 a3 o11 ((t_newest o11.toNatClampNeg) - (1 : Int32)) (0 : Int32)))
set_option maxHeartbeats 4000000 in
set_option maxRecDepth 100000 in
theorem c_Na_numberOf {l : Launch} {dC : Nat → ClassId} {dI : Nat → Nat → Nat} {cI cB cS : ClassId} {adK adV adR : Nat → Nat} (h_t h_t_spelling h_t_starts h_t_newest h_t_older h_p1 h_p1_row : Nat) (t_spelling : (Nat → Int32)) (t_starts : (Nat → Int32)) (t_newest : (Nat → Int32)) (t_older : (Nat → Int32)) (t_count : Int32) (p1_row : (Nat → Int32)) (p1_length : Int32) (p1_overrun : Int32) (a2 : Int32) (a3 : Int32) {o : (Int32 × (Nat → Int32) × (Nat → Int32) × (Nat → Int32) × (Nat → Int32) × Int32)} (hf : f_Na_numberOf p1_row p1_length t_spelling t_starts t_newest t_older t_count a2 a3 = some o) : jMet l dC dI cI cB cS adK adV adR y_Na_numberOf wd_Na_numberOf { frames := 3, cells := 0, slots := 0, locals := 68 } [.ref h_t, .ref h_p1, .int a2, .int a3] [(h_t, .inr (2, [.ref h_t_spelling, .ref h_t_starts, .ref h_t_newest, .ref h_t_older, .int t_count])), (h_t_spelling, .inl (cB, 12288, .inl t_spelling)), (h_t_starts, .inl (cI, 4097, .inl t_starts)), (h_t_newest, .inl (cI, 1024, .inl t_newest)), (h_t_older, .inl (cI, 4096, .inl t_older)), (h_p1, .inr (0, [.ref h_p1_row, .int p1_length, .int p1_overrun])), (h_p1_row, .inl (cB, 8000, .inl p1_row))] (some (.int o.1)) (fun q => [(h_t, .inr (2, [.ref h_t_spelling, .ref h_t_starts, .ref h_t_newest, .ref h_t_older, .int o.2.2.2.2.2])), (h_t_spelling, .inl (cB, 12288, .inl o.2.1)), (h_t_starts, .inl (cI, 4097, .inl o.2.2.1)), (h_t_newest, .inl (cI, 1024, .inl o.2.2.2.1)), (h_t_older, .inl (cI, 4096, .inl o.2.2.2.2.1)), (h_p1, .inr (0, [.ref h_p1_row, .int p1_length, .int p1_overrun])), (h_p1_row, .inl (cB, 8000, .inl p1_row))]) 0 0 := by
  refine jEntry (cc := b_Na_numberOf) (maxL := 7) (ret := (some .int)) (by decide) rfl (Nat.le_of_ble_eq_true rfl) rfl (fun p e s m args below meth c A H locs ls Q hQ hx hb hr hml hown hts hlocks hnm hJ hA hP hD hS hl => ?_)
  have hK := hJ.K
  have hl : lv_has ls 7 [(0, .ref h_t), (1, .ref h_p1), (2, .int a2), (3, .int a3)] := hl
  have B77 : ∀ (t_spelling : (Nat → Int32)) (t_starts : (Nat → Int32)) (t_newest : (Nat → Int32)) (t_older : (Nat → Int32)) (t_count : Int32) (l2 : Int32) (l3 : Int32) (l4 : Int32) (H : Heap) (locs : List Loc) (ls : Array Slot), Na_numberOf_b77 p1_row p1_length t_spelling t_starts t_newest t_older t_count l2 l3 l4 = some o → va_P (dC, dI) vwCl [(h_t, .inr (2, [.ref h_t_spelling, .ref h_t_starts, .ref h_t_newest, .ref h_t_older, .int t_count])), (h_t_spelling, .inl (cB, 12288, .inl t_spelling)), (h_t_starts, .inl (cI, 4097, .inl t_starts)), (h_t_newest, .inl (cI, 1024, .inl t_newest)), (h_t_older, .inl (cI, 4096, .inl t_older)), (h_p1, .inr (0, [.ref h_p1_row, .int p1_length, .int p1_overrun])), (h_p1_row, .inl (cB, 8000, .inl p1_row))] H → va_D A [(h_t, .inr (2, [.ref h_t_spelling, .ref h_t_starts, .ref h_t_newest, .ref h_t_older, .int t_count])), (h_t_spelling, .inl (cB, 12288, .inl t_spelling)), (h_t_starts, .inl (cI, 4097, .inl t_starts)), (h_t_newest, .inl (cI, 1024, .inl t_newest)), (h_t_older, .inl (cI, 4096, .inl t_older)), (h_p1, .inr (0, [.ref h_p1_row, .int p1_length, .int p1_overrun])), (h_p1_row, .inl (cB, 8000, .inl p1_row))] → va_S A s.heap H locs → lv_has ls 7 [(0, .ref h_t), (1, .ref h_p1), (2, .int l2), (3, .int l3), (4, .int l4)] → W p l e { frames := 3, cells := 0, slots := 0, locals := 68 } s m args below meth c H locs 0 0 Q (F0 m 77 ls []) := by
    intro t_spelling t_starts t_newest t_older t_count l2 l3 l4 H locs ls hf hP hD hS hl
    unfold Na_numberOf_b77 at hf
    refine lv_aload_n hx hb d_Na_numberOf_77 rfl (lv_at hl 0 rfl) ?_
    refine lv_aload_n hx hb d_Na_numberOf_78 rfl (lv_at hl 1 rfl) ?_
    refine lv_iload_n hx hb d_Na_numberOf_79 rfl (lv_at hl 2 rfl) ?_
    refine lv_iload_n hx hb d_Na_numberOf_80 rfl (lv_at hl 3 rfl) ?_
    refine lv_iload hx hb d_Na_numberOf_81 (lv_at hl 4 rfl) ?_
    obtain ⟨o13, ho13⟩ : ∃ z, f_Na_addName p1_row p1_length t_spelling t_starts t_newest t_older t_count l2 l3 l4 = some z := by
      cases hz : f_Na_addName p1_row p1_length t_spelling t_starts t_newest t_older t_count l2 l3 l4 with
      | none => rw [hz] at hf; simp only [jb_none, jl_b_none, jm_none, reduceCtorEq] at hf
      | some z => exact ⟨z, rfl⟩
    rw [ho13, jb_some] at hf
    refine jCallV (As := [.ref h_p1, .int l2, .int l3, .int l4]) (rest := []) (wr := []) ⟨hx, hb, hml, hown, hts⟩ hJ (c_Na_addName h_t h_t_spelling h_t_starts h_t_newest h_t_older h_p1 h_p1_row t_spelling t_starts t_newest t_older t_count p1_row p1_length p1_overrun l2 l3 l4 ho13) (cwV 4 hts (jgV jw67 jw69 jw70 jw49 jw68) rfl rfl rfl dd_Na_addName ⟨Nat.le_of_ble_eq_true rfl, Nat.le_of_ble_eq_true rfl⟩) hP hD hS hA (va_recv hK hP (ci := 2) (q0 := 0) rfl rfl) [0, 1, 2, 3, 4, 5, 6] [] rfl rfl (by decide) (by decide) (by decide) rfl hl.1 rfl (Nat.le_of_ble_eq_true rfl) d_Na_numberOf_83 ⟨Nat.le_of_ble_eq_true rfl, Nat.le_of_ble_eq_true rfl⟩ (fun qz14 H locs hP hD hS => ?_)
    have hP : va_P (dC, dI) vwCl [(h_t, .inr (2, [.ref h_t_spelling, .ref h_t_starts, .ref h_t_newest, .ref h_t_older, .int o13.2.2.2.2.2])), (h_t_spelling, .inl (cB, 12288, .inl o13.2.1)), (h_t_starts, .inl (cI, 4097, .inl o13.2.2.1)), (h_t_newest, .inl (cI, 1024, .inl o13.2.2.2.1)), (h_t_older, .inl (cI, 4096, .inl o13.2.2.2.2.1)), (h_p1, .inr (0, [.ref h_p1_row, .int p1_length, .int p1_overrun])), (h_p1_row, .inl (cB, 8000, .inl p1_row))] H := hP
    have hD : va_D A [(h_t, .inr (2, [.ref h_t_spelling, .ref h_t_starts, .ref h_t_newest, .ref h_t_older, .int o13.2.2.2.2.2])), (h_t_spelling, .inl (cB, 12288, .inl o13.2.1)), (h_t_starts, .inl (cI, 4097, .inl o13.2.2.1)), (h_t_newest, .inl (cI, 1024, .inl o13.2.2.2.1)), (h_t_older, .inl (cI, 4096, .inl o13.2.2.2.2.1)), (h_p1, .inr (0, [.ref h_p1_row, .int p1_length, .int p1_overrun])), (h_p1_row, .inl (cB, 8000, .inl p1_row))] := hD
    have hf : (some (o13.1, o13.2.1, o13.2.2.1, o13.2.2.2.1, o13.2.2.2.2.1, o13.2.2.2.2.2) : Option (Int32 × (Nat → Int32) × (Nat → Int32) × (Nat → Int32) × (Nat → Int32) × Int32)) = some o := hf
    rw [hQ, ← Option.some.inj hf]
    exact jIret hx hb hr hlocks d_Na_numberOf_86 (fun _ => 0) hS hP hD
  have L22 : ∀ (n22 : Nat) (t_spelling : (Nat → Int32)) (t_starts : (Nat → Int32)) (t_newest : (Nat → Int32)) (t_older : (Nat → Int32)) (t_count : Int32) (l2 : Int32) (l3 : Int32) (l4 : Int32) (l5 : Int32) (l6 : Int32) (H : Heap) (locs : List Loc) (ls : Array Slot), jl_n (Na_numberOf_b22_b p1_row p1_length t_spelling t_starts t_newest t_older t_count l2 l3 l4) n22 (l5, l6) = some o → va_P (dC, dI) vwCl [(h_t, .inr (2, [.ref h_t_spelling, .ref h_t_starts, .ref h_t_newest, .ref h_t_older, .int t_count])), (h_t_spelling, .inl (cB, 12288, .inl t_spelling)), (h_t_starts, .inl (cI, 4097, .inl t_starts)), (h_t_newest, .inl (cI, 1024, .inl t_newest)), (h_t_older, .inl (cI, 4096, .inl t_older)), (h_p1, .inr (0, [.ref h_p1_row, .int p1_length, .int p1_overrun])), (h_p1_row, .inl (cB, 8000, .inl p1_row))] H → va_D A [(h_t, .inr (2, [.ref h_t_spelling, .ref h_t_starts, .ref h_t_newest, .ref h_t_older, .int t_count])), (h_t_spelling, .inl (cB, 12288, .inl t_spelling)), (h_t_starts, .inl (cI, 4097, .inl t_starts)), (h_t_newest, .inl (cI, 1024, .inl t_newest)), (h_t_older, .inl (cI, 4096, .inl t_older)), (h_p1, .inr (0, [.ref h_p1_row, .int p1_length, .int p1_overrun])), (h_p1_row, .inl (cB, 8000, .inl p1_row))] → va_S A s.heap H locs → lv_has ls 7 [(0, .ref h_t), (1, .ref h_p1), (2, .int l2), (3, .int l3), (4, .int l4), (5, .int l5), (6, .int l6)] → W p l e { frames := 3, cells := 0, slots := 0, locals := 68 } s m args below meth c H locs 0 0 Q (F0 m 22 ls []) := by
    intro n22
    induction n22 with
    | zero => intro t_spelling t_starts t_newest t_older t_count l2 l3 l4 l5 l6 H locs ls hf; simp only [jl_n_zero, jl_b_none, reduceCtorEq] at hf
    | succ n22 ih22 =>
      intro t_spelling t_starts t_newest t_older t_count l2 l3 l4 l5 l6 H locs ls hf hP hD hS hl
      rw [jl_n_succ] at hf
      have hf : jl_b (jl_n (Na_numberOf_b22_b p1_row p1_length t_spelling t_starts t_newest t_older t_count l2 l3 l4) n22) (Na_numberOf_b22_s p1_row p1_length t_spelling t_starts t_newest t_older t_count l2 l3 l4 l5 l6) = some o := hf
      unfold Na_numberOf_b22_s at hf
      refine lv_iload hx hb d_Na_numberOf_22 (lv_at hl 6 rfl) ?_
      refine lv_aload_n hx hb d_Na_numberOf_24 rfl (lv_at hl 0 rfl) ?_
      refine va_get (D := (dC, dI)) (ci := 2) (v := .int t_count) (C := R_Na) (T := T_Na) (N := 5) hx hb hts (fun w h => List.mem_cons_of_mem _ (in_Na w h)) hown hK hP 0 rfl rfl 4 (by decide) (hts _ (List.mem_cons_of_mem _ jw46)) (fun _ h9 => h9) rfl d_Na_numberOf_25 ?_
      refine lv_icmp_ge (tgt := 77) hx hb d_Na_numberOf_28 (by decide) (fun c28 => ?_) (fun c28 => ?_)
      · rw [if_pos c28] at hf
        rw [jl_b_jm] at hf
        exact B77 t_spelling t_starts t_newest t_older t_count l2 l3 l4 H locs ls hf hP hD hS (lv_sub hl [0, 1, 2, 3, 4] rfl)
      · rw [if_neg c28] at hf
        refine lv_iload hx hb d_Na_numberOf_31 (lv_at hl 5 rfl) ?_
        refine lv_if_lt (tgt := 77) hx hb d_Na_numberOf_33 (by decide) (fun c33 => ?_) (fun c33 => ?_)
        · rw [if_pos c33] at hf
          rw [jl_b_jm] at hf
          exact B77 t_spelling t_starts t_newest t_older t_count l2 l3 l4 H locs ls hf hP hD hS (lv_sub hl [0, 1, 2, 3, 4] rfl)
        · rw [if_neg c33] at hf
          refine lv_iload hx hb d_Na_numberOf_36 (lv_at hl 5 rfl) ?_
          refine lv_aload_n hx hb d_Na_numberOf_38 rfl (lv_at hl 0 rfl) ?_
          refine va_get (D := (dC, dI)) (ci := 2) (v := .int t_count) (C := R_Na) (T := T_Na) (N := 5) hx hb hts (fun w h => List.mem_cons_of_mem _ (in_Na w h)) hown hK hP 0 rfl rfl 4 (by decide) (hts _ (List.mem_cons_of_mem _ jw46)) (fun _ h9 => h9) rfl d_Na_numberOf_39 ?_
          refine lv_icmp_ge (tgt := 77) hx hb d_Na_numberOf_42 (by decide) (fun c42 => ?_) (fun c42 => ?_)
          · rw [if_pos c42] at hf
            rw [jl_b_jm] at hf
            exact B77 t_spelling t_starts t_newest t_older t_count l2 l3 l4 H locs ls hf hP hD hS (lv_sub hl [0, 1, 2, 3, 4] rfl)
          · rw [if_neg c42] at hf
            refine lv_aload_n hx hb d_Na_numberOf_45 rfl (lv_at hl 0 rfl) ?_
            refine lv_iload hx hb d_Na_numberOf_46 (lv_at hl 5 rfl) ?_
            refine lv_aload_n hx hb d_Na_numberOf_48 rfl (lv_at hl 1 rfl) ?_
            refine lv_iload_n hx hb d_Na_numberOf_49 rfl (lv_at hl 2 rfl) ?_
            refine lv_iload_n hx hb d_Na_numberOf_50 rfl (lv_at hl 3 rfl) ?_
            obtain ⟨o15, ho15⟩ : ∃ z, f_Na_isSpelt t_spelling t_starts t_count p1_row p1_length l5 l2 l3 = some z := by
              cases hz : f_Na_isSpelt t_spelling t_starts t_count p1_row p1_length l5 l2 l3 with
              | none => rw [hz] at hf; simp only [jb_none, jl_b_none, jm_none, reduceCtorEq] at hf
              | some z => exact ⟨z, rfl⟩
            rw [ho15, jb_some] at hf
            refine jCallV (As := [.int l5, .ref h_p1, .int l2, .int l3]) (rest := []) (wr := []) ⟨hx, hb, hml, hown, hts⟩ hJ (c_Na_isSpelt h_t h_t_spelling h_t_starts h_t_newest h_t_older h_p1 h_p1_row t_spelling t_starts t_newest t_older t_count p1_row p1_length p1_overrun l5 l2 l3 ho15) (cwV 4 hts (jgV jw63 jw65 jw66 jw49 jw64) rfl rfl rfl dd_Na_isSpelt ⟨Nat.le_of_ble_eq_true rfl, Nat.le_of_ble_eq_true rfl⟩) hP hD hS hA (va_recv hK hP (ci := 2) (q0 := 0) rfl rfl) [0, 1, 2, 3, 4, 5, 6] [] rfl rfl (by decide) (by decide) (by decide) rfl hl.1 rfl (Nat.le_of_ble_eq_true rfl) d_Na_numberOf_51 ⟨Nat.le_of_ble_eq_true rfl, Nat.le_of_ble_eq_true rfl⟩ (fun qz16 H locs hP hD hS => ?_)
            have hP : va_P (dC, dI) vwCl [(h_t, .inr (2, [.ref h_t_spelling, .ref h_t_starts, .ref h_t_newest, .ref h_t_older, .int t_count])), (h_t_spelling, .inl (cB, 12288, .inl t_spelling)), (h_t_starts, .inl (cI, 4097, .inl t_starts)), (h_t_newest, .inl (cI, 1024, .inl t_newest)), (h_t_older, .inl (cI, 4096, .inl t_older)), (h_p1, .inr (0, [.ref h_p1_row, .int p1_length, .int p1_overrun])), (h_p1_row, .inl (cB, 8000, .inl p1_row))] H := hP
            have hD : va_D A [(h_t, .inr (2, [.ref h_t_spelling, .ref h_t_starts, .ref h_t_newest, .ref h_t_older, .int t_count])), (h_t_spelling, .inl (cB, 12288, .inl t_spelling)), (h_t_starts, .inl (cI, 4097, .inl t_starts)), (h_t_newest, .inl (cI, 1024, .inl t_newest)), (h_t_older, .inl (cI, 4096, .inl t_older)), (h_p1, .inr (0, [.ref h_p1_row, .int p1_length, .int p1_overrun])), (h_p1_row, .inl (cB, 8000, .inl p1_row))] := hD
            refine lv_if_eq (tgt := 60) hx hb d_Na_numberOf_54 (by decide) (fun c54 => ?_) (fun c54 => ?_)
            · rw [if_pos c54] at hf
              refine lv_aload_n hx hb d_Na_numberOf_60 rfl (lv_at hl 0 rfl) ?_
              refine va_get (D := (dC, dI)) (ci := 2) (v := .ref h_t_older) (C := R_Na) (T := T_Na) (N := 5) hx hb hts (fun w h => List.mem_cons_of_mem _ (in_Na w h)) hown hK hP 0 rfl rfl 3 (by decide) (hts _ (List.mem_cons_of_mem _ jw45)) (fun _ h9 => h9) rfl d_Na_numberOf_61 ?_
              refine lv_iload hx hb d_Na_numberOf_64 (lv_at hl 5 rfl) ?_
              have c66 : ¬ (l5 < 0 ∨ 4096 ≤ l5.toNatClampNeg) := by intro z; rw [if_pos z] at hf; simp only [jb_none, jl_b_none, jm_none, reduceCtorEq] at hf
              rw [if_neg c66] at hf
              refine va_iald hx hb hK hP 4 0 rfl rfl c66 d_Na_numberOf_66 ?_
              refine lv_iconst (v := (1 : Int32)) hx hb d_Na_numberOf_67 (by decide) ?_
              refine lv_isub hx hb d_Na_numberOf_68 ?_
              refine lv_istore (lv' := [(5, .int ((t_older l5.toNatClampNeg) - (1 : Int32))), (0, .ref h_t), (1, .ref h_p1), (2, .int l2), (3, .int l3), (4, .int l4), (6, .int l6)]) hx hb d_Na_numberOf_69 hl (by decide) rfl (fun ls hl => ?_)
              refine lv_iinc (v := l6 + (1 : Int32)) (lv' := [(6, .int (l6 + (1 : Int32))), (5, .int ((t_older l5.toNatClampNeg) - (1 : Int32))), (0, .ref h_t), (1, .ref h_p1), (2, .int l2), (3, .int l3), (4, .int l4)]) hx hb d_Na_numberOf_71 hl (k := 6) rfl rfl (by decide) rfl (fun ls hl => ?_)
              refine lv_goto (tgt := 22) hx hb d_Na_numberOf_74 (by decide) ?_
              exact ih22 t_spelling t_starts t_newest t_older t_count l2 l3 l4 ((t_older l5.toNatClampNeg) - (1 : Int32)) (l6 + (1 : Int32)) H locs ls hf hP hD hS (lv_sub hl [2, 3, 4, 5, 6, 1, 0] rfl)
            · rw [if_neg c54] at hf
              refine lv_iload hx hb d_Na_numberOf_57 (lv_at hl 5 rfl) ?_
              have hf : (some (l5, t_spelling, t_starts, t_newest, t_older, t_count) : Option (Int32 × (Nat → Int32) × (Nat → Int32) × (Nat → Int32) × (Nat → Int32) × Int32)) = some o := hf
              rw [hQ, ← Option.some.inj hf]
              exact jIret hx hb hr hlocks d_Na_numberOf_59 (fun _ => 0) hS hP hD
  unfold f_Na_numberOf at hf
  refine lv_aload_n hx hb d_Na_numberOf_0 rfl (lv_at hl 1 rfl) ?_
  refine lv_iload_n hx hb d_Na_numberOf_1 rfl (lv_at hl 2 rfl) ?_
  refine lv_iload_n hx hb d_Na_numberOf_2 rfl (lv_at hl 3 rfl) ?_
  obtain ⟨o17, ho17⟩ : ∃ z, f_Na_bucketOf p1_row p1_length a2 a3 = some z := by
    cases hz : f_Na_bucketOf p1_row p1_length a2 a3 with
    | none => rw [hz] at hf; simp only [jb_none, jl_b_none, jm_none, reduceCtorEq] at hf
    | some z => exact ⟨z, rfl⟩
  rw [ho17, jb_some] at hf
  refine jCallS (As := [.ref h_p1, .int a2, .int a3]) (rest := []) (wr := [(h_t, .inr (2, [.ref h_t_spelling, .ref h_t_starts, .ref h_t_newest, .ref h_t_older, .int t_count])), (h_t_spelling, .inl (cB, 12288, .inl t_spelling)), (h_t_starts, .inl (cI, 4097, .inl t_starts)), (h_t_newest, .inl (cI, 1024, .inl t_newest)), (h_t_older, .inl (cI, 4096, .inl t_older))]) ⟨hx, hb, hml, hown, hts⟩ hJ (c_Na_bucketOf h_p1 h_p1_row p1_row p1_length p1_overrun a2 a3 ho17) (va_cwS 3 hts (jgS jw60 jw62 jw49 jw61) rfl rfl rfl dd_Na_bucketOf.2 ⟨Nat.le_of_ble_eq_true rfl, Nat.le_of_ble_eq_true rfl⟩) hP hD hS hA [5, 6] [0, 1, 2, 3, 4] rfl rfl (by decide) (by decide) (by decide) rfl hl.1 rfl (Nat.le_of_ble_eq_true rfl) d_Na_numberOf_3 ⟨Nat.le_of_ble_eq_true rfl, Nat.le_of_ble_eq_true rfl⟩ (fun qz18 H locs hP hD hS => ?_)
  have hP : va_P (dC, dI) vwCl [(h_t, .inr (2, [.ref h_t_spelling, .ref h_t_starts, .ref h_t_newest, .ref h_t_older, .int t_count])), (h_t_spelling, .inl (cB, 12288, .inl t_spelling)), (h_t_starts, .inl (cI, 4097, .inl t_starts)), (h_t_newest, .inl (cI, 1024, .inl t_newest)), (h_t_older, .inl (cI, 4096, .inl t_older)), (h_p1, .inr (0, [.ref h_p1_row, .int p1_length, .int p1_overrun])), (h_p1_row, .inl (cB, 8000, .inl p1_row))] H := hP
  have hD : va_D A [(h_t, .inr (2, [.ref h_t_spelling, .ref h_t_starts, .ref h_t_newest, .ref h_t_older, .int t_count])), (h_t_spelling, .inl (cB, 12288, .inl t_spelling)), (h_t_starts, .inl (cI, 4097, .inl t_starts)), (h_t_newest, .inl (cI, 1024, .inl t_newest)), (h_t_older, .inl (cI, 4096, .inl t_older)), (h_p1, .inr (0, [.ref h_p1_row, .int p1_length, .int p1_overrun])), (h_p1_row, .inl (cB, 8000, .inl p1_row))] := hD
  refine lv_istore (lv' := [(4, .int o17), (0, .ref h_t), (1, .ref h_p1), (2, .int a2), (3, .int a3)]) hx hb d_Na_numberOf_6 hl (by decide) rfl (fun ls hl => ?_)
  refine lv_aload_n hx hb d_Na_numberOf_8 rfl (lv_at hl 1 rfl) ?_
  refine va_get (D := (dC, dI)) (ci := 2) (v := .ref h_t_newest) (C := R_Na) (T := T_Na) (N := 5) hx hb hts (fun w h => List.mem_cons_of_mem _ (in_Na w h)) hown hK hP 0 rfl rfl 2 (by decide) (hts _ (List.mem_cons_of_mem _ jw44)) (fun _ h9 => h9) rfl d_Na_numberOf_9 ?_
  refine lv_iload hx hb d_Na_numberOf_12 (lv_at hl 0 rfl) ?_
  have c14 : ¬ (o17 < 0 ∨ 1024 ≤ o17.toNatClampNeg) := by intro z; rw [if_pos z] at hf; simp only [jb_none, jl_b_none, jm_none, reduceCtorEq] at hf
  rw [if_neg c14] at hf
  refine va_iald hx hb hK hP 3 0 rfl rfl c14 d_Na_numberOf_14 ?_
  refine lv_iconst (v := (1 : Int32)) hx hb d_Na_numberOf_15 (by decide) ?_
  refine lv_isub hx hb d_Na_numberOf_16 ?_
  refine lv_istore (lv' := [(5, .int ((t_newest o17.toNatClampNeg) - (1 : Int32))), (4, .int o17), (0, .ref h_t), (1, .ref h_p1), (2, .int a2), (3, .int a3)]) hx hb d_Na_numberOf_17 hl (by decide) rfl (fun ls hl => ?_)
  refine lv_iconst (v := (0 : Int32)) hx hb d_Na_numberOf_19 (by decide) ?_
  refine lv_istore (lv' := [(6, .int (0 : Int32)), (5, .int ((t_newest o17.toNatClampNeg) - (1 : Int32))), (4, .int o17), (0, .ref h_t), (1, .ref h_p1), (2, .int a2), (3, .int a3)]) hx hb d_Na_numberOf_20 hl (by decide) rfl (fun ls hl => ?_)
  unfold Na_numberOf_b22 at hf
  obtain ⟨nn, en⟩ := jl_ex (Na_numberOf_b22_b p1_row p1_length t_spelling t_starts t_newest t_older t_count a2 a3 o17) (((t_newest o17.toNatClampNeg) - (1 : Int32)), (0 : Int32))
  rw [en] at hf
  exact L22 nn t_spelling t_starts t_newest t_older t_count a2 a3 o17 ((t_newest o17.toNatClampNeg) - (1 : Int32)) (0 : Int32) H locs ls hf hP hD hS (lv_sub hl [3, 4, 5, 6, 2, 1, 0] rfl)
