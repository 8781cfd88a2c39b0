theorem d_Tr_init_0 : decode b_Tr_init 0 = .ok (.aload_n 0, 1) := by decide +kernel
theorem d_Tr_init_1 : decode b_Tr_init 1 = .ok (.invokespecial 3, 3) := by decide +kernel
theorem d_Tr_init_4 : decode b_Tr_init 4 = .ok (.aload_n 0, 1) := by decide +kernel
theorem d_Tr_init_5 : decode b_Tr_init 5 = .ok (.sipush 8001, 3) := by decide +kernel
theorem d_Tr_init_8 : decode b_Tr_init 8 = .ok (.newarray .int, 2) := by decide +kernel
theorem d_Tr_init_10 : decode b_Tr_init 10 = .ok (.putfield 9, 3) := by decide +kernel
theorem d_Tr_init_13 : decode b_Tr_init 13 = .ok (.aload_n 0, 1) := by decide +kernel
theorem d_Tr_init_14 : decode b_Tr_init 14 = .ok (.sipush 8001, 3) := by decide +kernel
theorem d_Tr_init_17 : decode b_Tr_init 17 = .ok (.newarray .int, 2) := by decide +kernel
theorem d_Tr_init_19 : decode b_Tr_init 19 = .ok (.putfield 15, 3) := by decide +kernel
theorem d_Tr_init_22 : decode b_Tr_init 22 = .ok (.aload_n 0, 1) := by decide +kernel
theorem d_Tr_init_23 : decode b_Tr_init 23 = .ok (.sipush 8001, 3) := by decide +kernel
theorem d_Tr_init_26 : decode b_Tr_init 26 = .ok (.newarray .int, 2) := by decide +kernel
theorem d_Tr_init_28 : decode b_Tr_init 28 = .ok (.putfield 18, 3) := by decide +kernel
theorem d_Tr_init_31 : decode b_Tr_init 31 = .ok (.aload_n 0, 1) := by decide +kernel
theorem d_Tr_init_32 : decode b_Tr_init 32 = .ok (.sipush 8001, 3) := by decide +kernel
theorem d_Tr_init_35 : decode b_Tr_init 35 = .ok (.newarray .int, 2) := by decide +kernel
theorem d_Tr_init_37 : decode b_Tr_init 37 = .ok (.putfield 21, 3) := by decide +kernel
theorem d_Tr_init_40 : decode b_Tr_init 40 = .ok (.aload_n 0, 1) := by decide +kernel
theorem d_Tr_init_41 : decode b_Tr_init 41 = .ok (.sipush 8001, 3) := by decide +kernel
theorem d_Tr_init_44 : decode b_Tr_init 44 = .ok (.newarray .int, 2) := by decide +kernel
theorem d_Tr_init_46 : decode b_Tr_init 46 = .ok (.putfield 24, 3) := by decide +kernel
theorem d_Tr_init_49 : decode b_Tr_init 49 = .ok (.aload_n 0, 1) := by decide +kernel
theorem d_Tr_init_50 : decode b_Tr_init 50 = .ok (.sipush 8001, 3) := by decide +kernel
theorem d_Tr_init_53 : decode b_Tr_init 53 = .ok (.newarray .int, 2) := by decide +kernel
theorem d_Tr_init_55 : decode b_Tr_init 55 = .ok (.putfield 27, 3) := by decide +kernel
theorem d_Tr_init_58 : decode b_Tr_init 58 = .ok (.aload_n 0, 1) := by decide +kernel
theorem d_Tr_init_59 : decode b_Tr_init 59 = .ok (.getfield 9, 3) := by decide +kernel
theorem d_Tr_init_62 : decode b_Tr_init 62 = .ok (.iconst 0, 1) := by decide +kernel
theorem d_Tr_init_63 : decode b_Tr_init 63 = .ok (.iconst 0, 1) := by decide +kernel
theorem d_Tr_init_64 : decode b_Tr_init 64 = .ok (.iastore, 1) := by decide +kernel
theorem d_Tr_init_65 : decode b_Tr_init 65 = .ok (.aload_n 0, 1) := by decide +kernel
theorem d_Tr_init_66 : decode b_Tr_init 66 = .ok (.getfield 15, 3) := by decide +kernel
theorem d_Tr_init_69 : decode b_Tr_init 69 = .ok (.iconst 0, 1) := by decide +kernel
theorem d_Tr_init_70 : decode b_Tr_init 70 = .ok (.iconst (-1), 1) := by decide +kernel
theorem d_Tr_init_71 : decode b_Tr_init 71 = .ok (.iastore, 1) := by decide +kernel
theorem d_Tr_init_72 : decode b_Tr_init 72 = .ok (.aload_n 0, 1) := by decide +kernel
theorem d_Tr_init_73 : decode b_Tr_init 73 = .ok (.getfield 21, 3) := by decide +kernel
theorem d_Tr_init_76 : decode b_Tr_init 76 = .ok (.iconst 0, 1) := by decide +kernel
theorem d_Tr_init_77 : decode b_Tr_init 77 = .ok (.iconst 1, 1) := by decide +kernel
theorem d_Tr_init_78 : decode b_Tr_init 78 = .ok (.iastore, 1) := by decide +kernel
theorem d_Tr_init_79 : decode b_Tr_init 79 = .ok (.aload_n 0, 1) := by decide +kernel
theorem d_Tr_init_80 : decode b_Tr_init 80 = .ok (.getfield 27, 3) := by decide +kernel
theorem d_Tr_init_83 : decode b_Tr_init 83 = .ok (.iconst 0, 1) := by decide +kernel
theorem d_Tr_init_84 : decode b_Tr_init 84 = .ok (.iconst (-1), 1) := by decide +kernel
theorem d_Tr_init_85 : decode b_Tr_init 85 = .ok (.iastore, 1) := by decide +kernel
theorem d_Tr_init_86 : decode b_Tr_init 86 = .ok (.aload_n 0, 1) := by decide +kernel
theorem d_Tr_init_87 : decode b_Tr_init 87 = .ok (.iconst 1, 1) := by decide +kernel
theorem d_Tr_init_88 : decode b_Tr_init 88 = .ok (.putfield 32, 3) := by decide +kernel
theorem d_Tr_init_91 : decode b_Tr_init 91 = .ok (.return_, 1) := by decide +kernel
set_option maxHeartbeats 4000000 in
set_option maxRecDepth 100000 in
theorem c_Tr_init {l : Launch} {dC : Nat → ClassId} {dI : Nat → Nat → Nat} {cI cB cS : ClassId} {adK adV adR : Nat → Nat} (h_t : Nat) : jMet l dC dI cI cB cS adK adV adR y_Tr_init wd_Tr_init { frames := 1, cells := 6, slots := 48006, locals := 12 } [.ref h_t] [(h_t, .inr (5, [.null, .null, .null, .null, .null, .null, .int 0]))] (none) (fun q => [(h_t, .inr (5, [.ref (q 0), .ref (q 1), .ref (q 2), .ref (q 3), .ref (q 4), .ref (q 5), .int (1 : Int32)])), ((q 0), .inl (cI, 8001, .inl (upd (fun _ => 0) (0 : Int32).toNatClampNeg (0 : Int32)))), ((q 1), .inl (cI, 8001, .inl (upd (fun _ => 0) (0 : Int32).toNatClampNeg (-1 : Int32)))), ((q 2), .inl (cI, 8001, .inl (fun _ => 0))), ((q 3), .inl (cI, 8001, .inl (upd (fun _ => 0) (0 : Int32).toNatClampNeg (1 : Int32)))), ((q 4), .inl (cI, 8001, .inl (fun _ => 0))), ((q 5), .inl (cI, 8001, .inl (upd (fun _ => 0) (0 : Int32).toNatClampNeg (-1 : Int32))))]) 6 48006 := by
  refine jEntry (cc := b_Tr_init) (maxL := 1) (ret := none) (by decide) rfl (Nat.le_of_ble_eq_true rfl) rfl (fun p e s m args below meth c A H locs ls Q hQ hx hb hr hml hown hts hlocks hnm hJ hA hP hD hS hl => ?_)
  have hK := hJ.K
  have hl : lv_has ls 1 [(0, .ref h_t)] := hl
  subst hQ
  refine lv_aload_n hx hb d_Tr_init_0 rfl (lv_at hl 0 rfl) ?_
  refine W.objInit hx hb hown (hts _ (List.mem_cons_of_mem _ jw139)) (hts _ (List.mem_cons_of_mem _ jw25)) (hts _ (List.mem_cons_of_mem _ jw26)) rfl (by rw [hml]; exact hl.1) rfl d_Tr_init_1 (Nat.le_of_ble_eq_true rfl) (Nat.le_of_ble_eq_true rfl) ?_
  refine W.eq (g2 := F0 m 4 ls []) rfl ?_
  refine lv_aload_n hx hb d_Tr_init_4 rfl (lv_at hl 0 rfl) ?_
  refine lv_sipush (v := (8001 : Int32)) hx hb d_Tr_init_5 (by decide) ?_
  refine va_newa (atype := .int) (ty := .int) (a0 := (8001, .inl (fun _ => 0))) hx hb (hts _ (List.mem_cons_of_mem _ jw42)) rfl hK hP hD hS hA (fun _ => rfl) (by decide) (by decide) (by decide) (Nat.le_of_ble_eq_true rfl) (Nat.le_of_ble_eq_true rfl) d_Tr_init_8 (fun q8 cA H hKn hP hD hS => ?_)
  rw [j_clsI hKn] at hP hD
  have hP : va_P (dC, dI) vwCl [(h_t, .inr (5, [.null, .null, .null, .null, .null, .null, .int 0])), (q8, .inl (cI, 8001, .inl (fun _ => 0)))] H := hP
  have hD : va_D A [(h_t, .inr (5, [.null, .null, .null, .null, .null, .null, .int 0])), (q8, .inl (cI, 8001, .inl (fun _ => 0)))] := hD
  refine W.widen (k := 1) (n := 8001) (by decide) (by decide) ?_
  refine va_putF (D := (dC, dI)) (ci := 5) (v := .ref q8) (ty := (.array .int)) (C := R_Tr) (T := T_Tr) (N := 7) hx hb hts (fun w h => List.mem_cons_of_mem _ (in_Tr w h)) ty_Tr tyok_Tr nm_Tr hown hK hP hD hS 0 rfl rfl 0 (by decide) (hts _ (List.mem_cons_of_mem _ jw140)) (fun _ h9 => h9) rfl hnm rfl (by decide +kernel) rfl rfl (Nat.le_of_ble_eq_true rfl) d_Tr_init_10 (fun H locs hP hD hS => ?_)
  have hP : va_P (dC, dI) vwCl [(h_t, .inr (5, [.ref q8, .null, .null, .null, .null, .null, .int 0])), (q8, .inl (cI, 8001, .inl (fun _ => 0)))] H := hP
  have hD : va_D A [(h_t, .inr (5, [.ref q8, .null, .null, .null, .null, .null, .int 0])), (q8, .inl (cI, 8001, .inl (fun _ => 0)))] := hD
  refine lv_aload_n hx hb d_Tr_init_13 rfl (lv_at hl 0 rfl) ?_
  refine lv_sipush (v := (8001 : Int32)) hx hb d_Tr_init_14 (by decide) ?_
  refine va_newa (atype := .int) (ty := .int) (a0 := (8001, .inl (fun _ => 0))) hx hb (hts _ (List.mem_cons_of_mem _ jw42)) rfl hK hP hD hS hA (fun _ => rfl) (by decide) (by decide) (by decide) (Nat.le_of_ble_eq_true rfl) (Nat.le_of_ble_eq_true rfl) d_Tr_init_17 (fun q17 cA H hKn hP hD hS => ?_)
  rw [j_clsI hKn] at hP hD
  have hP : va_P (dC, dI) vwCl [(h_t, .inr (5, [.ref q8, .null, .null, .null, .null, .null, .int 0])), (q8, .inl (cI, 8001, .inl (fun _ => 0))), (q17, .inl (cI, 8001, .inl (fun _ => 0)))] H := hP
  have hD : va_D A [(h_t, .inr (5, [.ref q8, .null, .null, .null, .null, .null, .int 0])), (q8, .inl (cI, 8001, .inl (fun _ => 0))), (q17, .inl (cI, 8001, .inl (fun _ => 0)))] := hD
  refine W.widen (k := 2) (n := 16002) (by decide) (by decide) ?_
  refine va_putF (D := (dC, dI)) (ci := 5) (v := .ref q17) (ty := (.array .int)) (C := R_Tr) (T := T_Tr) (N := 7) hx hb hts (fun w h => List.mem_cons_of_mem _ (in_Tr w h)) ty_Tr tyok_Tr nm_Tr hown hK hP hD hS 0 rfl rfl 1 (by decide) (hts _ (List.mem_cons_of_mem _ jw141)) (fun _ h9 => h9) rfl hnm rfl (by decide +kernel) rfl rfl (Nat.le_of_ble_eq_true rfl) d_Tr_init_19 (fun H locs hP hD hS => ?_)
  have hP : va_P (dC, dI) vwCl [(h_t, .inr (5, [.ref q8, .ref q17, .null, .null, .null, .null, .int 0])), (q8, .inl (cI, 8001, .inl (fun _ => 0))), (q17, .inl (cI, 8001, .inl (fun _ => 0)))] H := hP
  have hD : va_D A [(h_t, .inr (5, [.ref q8, .ref q17, .null, .null, .null, .null, .int 0])), (q8, .inl (cI, 8001, .inl (fun _ => 0))), (q17, .inl (cI, 8001, .inl (fun _ => 0)))] := hD
  refine lv_aload_n hx hb d_Tr_init_22 rfl (lv_at hl 0 rfl) ?_
  refine lv_sipush (v := (8001 : Int32)) hx hb d_Tr_init_23 (by decide) ?_
  refine va_newa (atype := .int) (ty := .int) (a0 := (8001, .inl (fun _ => 0))) hx hb (hts _ (List.mem_cons_of_mem _ jw42)) rfl hK hP hD hS hA (fun _ => rfl) (by decide) (by decide) (by decide) (Nat.le_of_ble_eq_true rfl) (Nat.le_of_ble_eq_true rfl) d_Tr_init_26 (fun q26 cA H hKn hP hD hS => ?_)
  rw [j_clsI hKn] at hP hD
  have hP : va_P (dC, dI) vwCl [(h_t, .inr (5, [.ref q8, .ref q17, .null, .null, .null, .null, .int 0])), (q8, .inl (cI, 8001, .inl (fun _ => 0))), (q17, .inl (cI, 8001, .inl (fun _ => 0))), (q26, .inl (cI, 8001, .inl (fun _ => 0)))] H := hP
  have hD : va_D A [(h_t, .inr (5, [.ref q8, .ref q17, .null, .null, .null, .null, .int 0])), (q8, .inl (cI, 8001, .inl (fun _ => 0))), (q17, .inl (cI, 8001, .inl (fun _ => 0))), (q26, .inl (cI, 8001, .inl (fun _ => 0)))] := hD
  refine W.widen (k := 3) (n := 24003) (by decide) (by decide) ?_
  refine va_putF (D := (dC, dI)) (ci := 5) (v := .ref q26) (ty := (.array .int)) (C := R_Tr) (T := T_Tr) (N := 7) hx hb hts (fun w h => List.mem_cons_of_mem _ (in_Tr w h)) ty_Tr tyok_Tr nm_Tr hown hK hP hD hS 0 rfl rfl 2 (by decide) (hts _ (List.mem_cons_of_mem _ jw142)) (fun _ h9 => h9) rfl hnm rfl (by decide +kernel) rfl rfl (Nat.le_of_ble_eq_true rfl) d_Tr_init_28 (fun H locs hP hD hS => ?_)
  have hP : va_P (dC, dI) vwCl [(h_t, .inr (5, [.ref q8, .ref q17, .ref q26, .null, .null, .null, .int 0])), (q8, .inl (cI, 8001, .inl (fun _ => 0))), (q17, .inl (cI, 8001, .inl (fun _ => 0))), (q26, .inl (cI, 8001, .inl (fun _ => 0)))] H := hP
  have hD : va_D A [(h_t, .inr (5, [.ref q8, .ref q17, .ref q26, .null, .null, .null, .int 0])), (q8, .inl (cI, 8001, .inl (fun _ => 0))), (q17, .inl (cI, 8001, .inl (fun _ => 0))), (q26, .inl (cI, 8001, .inl (fun _ => 0)))] := hD
  refine lv_aload_n hx hb d_Tr_init_31 rfl (lv_at hl 0 rfl) ?_
  refine lv_sipush (v := (8001 : Int32)) hx hb d_Tr_init_32 (by decide) ?_
  refine va_newa (atype := .int) (ty := .int) (a0 := (8001, .inl (fun _ => 0))) hx hb (hts _ (List.mem_cons_of_mem _ jw42)) rfl hK hP hD hS hA (fun _ => rfl) (by decide) (by decide) (by decide) (Nat.le_of_ble_eq_true rfl) (Nat.le_of_ble_eq_true rfl) d_Tr_init_35 (fun q35 cA H hKn hP hD hS => ?_)
  rw [j_clsI hKn] at hP hD
  have hP : va_P (dC, dI) vwCl [(h_t, .inr (5, [.ref q8, .ref q17, .ref q26, .null, .null, .null, .int 0])), (q8, .inl (cI, 8001, .inl (fun _ => 0))), (q17, .inl (cI, 8001, .inl (fun _ => 0))), (q26, .inl (cI, 8001, .inl (fun _ => 0))), (q35, .inl (cI, 8001, .inl (fun _ => 0)))] H := hP
  have hD : va_D A [(h_t, .inr (5, [.ref q8, .ref q17, .ref q26, .null, .null, .null, .int 0])), (q8, .inl (cI, 8001, .inl (fun _ => 0))), (q17, .inl (cI, 8001, .inl (fun _ => 0))), (q26, .inl (cI, 8001, .inl (fun _ => 0))), (q35, .inl (cI, 8001, .inl (fun _ => 0)))] := hD
  refine W.widen (k := 4) (n := 32004) (by decide) (by decide) ?_
  refine va_putF (D := (dC, dI)) (ci := 5) (v := .ref q35) (ty := (.array .int)) (C := R_Tr) (T := T_Tr) (N := 7) hx hb hts (fun w h => List.mem_cons_of_mem _ (in_Tr w h)) ty_Tr tyok_Tr nm_Tr hown hK hP hD hS 0 rfl rfl 3 (by decide) (hts _ (List.mem_cons_of_mem _ jw143)) (fun _ h9 => h9) rfl hnm rfl (by decide +kernel) rfl rfl (Nat.le_of_ble_eq_true rfl) d_Tr_init_37 (fun H locs hP hD hS => ?_)
  have hP : va_P (dC, dI) vwCl [(h_t, .inr (5, [.ref q8, .ref q17, .ref q26, .ref q35, .null, .null, .int 0])), (q8, .inl (cI, 8001, .inl (fun _ => 0))), (q17, .inl (cI, 8001, .inl (fun _ => 0))), (q26, .inl (cI, 8001, .inl (fun _ => 0))), (q35, .inl (cI, 8001, .inl (fun _ => 0)))] H := hP
  have hD : va_D A [(h_t, .inr (5, [.ref q8, .ref q17, .ref q26, .ref q35, .null, .null, .int 0])), (q8, .inl (cI, 8001, .inl (fun _ => 0))), (q17, .inl (cI, 8001, .inl (fun _ => 0))), (q26, .inl (cI, 8001, .inl (fun _ => 0))), (q35, .inl (cI, 8001, .inl (fun _ => 0)))] := hD
  refine lv_aload_n hx hb d_Tr_init_40 rfl (lv_at hl 0 rfl) ?_
  refine lv_sipush (v := (8001 : Int32)) hx hb d_Tr_init_41 (by decide) ?_
  refine va_newa (atype := .int) (ty := .int) (a0 := (8001, .inl (fun _ => 0))) hx hb (hts _ (List.mem_cons_of_mem _ jw42)) rfl hK hP hD hS hA (fun _ => rfl) (by decide) (by decide) (by decide) (Nat.le_of_ble_eq_true rfl) (Nat.le_of_ble_eq_true rfl) d_Tr_init_44 (fun q44 cA H hKn hP hD hS => ?_)
  rw [j_clsI hKn] at hP hD
  have hP : va_P (dC, dI) vwCl [(h_t, .inr (5, [.ref q8, .ref q17, .ref q26, .ref q35, .null, .null, .int 0])), (q8, .inl (cI, 8001, .inl (fun _ => 0))), (q17, .inl (cI, 8001, .inl (fun _ => 0))), (q26, .inl (cI, 8001, .inl (fun _ => 0))), (q35, .inl (cI, 8001, .inl (fun _ => 0))), (q44, .inl (cI, 8001, .inl (fun _ => 0)))] H := hP
  have hD : va_D A [(h_t, .inr (5, [.ref q8, .ref q17, .ref q26, .ref q35, .null, .null, .int 0])), (q8, .inl (cI, 8001, .inl (fun _ => 0))), (q17, .inl (cI, 8001, .inl (fun _ => 0))), (q26, .inl (cI, 8001, .inl (fun _ => 0))), (q35, .inl (cI, 8001, .inl (fun _ => 0))), (q44, .inl (cI, 8001, .inl (fun _ => 0)))] := hD
  refine W.widen (k := 5) (n := 40005) (by decide) (by decide) ?_
  refine va_putF (D := (dC, dI)) (ci := 5) (v := .ref q44) (ty := (.array .int)) (C := R_Tr) (T := T_Tr) (N := 7) hx hb hts (fun w h => List.mem_cons_of_mem _ (in_Tr w h)) ty_Tr tyok_Tr nm_Tr hown hK hP hD hS 0 rfl rfl 4 (by decide) (hts _ (List.mem_cons_of_mem _ jw144)) (fun _ h9 => h9) rfl hnm rfl (by decide +kernel) rfl rfl (Nat.le_of_ble_eq_true rfl) d_Tr_init_46 (fun H locs hP hD hS => ?_)
  have hP : va_P (dC, dI) vwCl [(h_t, .inr (5, [.ref q8, .ref q17, .ref q26, .ref q35, .ref q44, .null, .int 0])), (q8, .inl (cI, 8001, .inl (fun _ => 0))), (q17, .inl (cI, 8001, .inl (fun _ => 0))), (q26, .inl (cI, 8001, .inl (fun _ => 0))), (q35, .inl (cI, 8001, .inl (fun _ => 0))), (q44, .inl (cI, 8001, .inl (fun _ => 0)))] H := hP
  have hD : va_D A [(h_t, .inr (5, [.ref q8, .ref q17, .ref q26, .ref q35, .ref q44, .null, .int 0])), (q8, .inl (cI, 8001, .inl (fun _ => 0))), (q17, .inl (cI, 8001, .inl (fun _ => 0))), (q26, .inl (cI, 8001, .inl (fun _ => 0))), (q35, .inl (cI, 8001, .inl (fun _ => 0))), (q44, .inl (cI, 8001, .inl (fun _ => 0)))] := hD
  refine lv_aload_n hx hb d_Tr_init_49 rfl (lv_at hl 0 rfl) ?_
  refine lv_sipush (v := (8001 : Int32)) hx hb d_Tr_init_50 (by decide) ?_
  refine va_newa (atype := .int) (ty := .int) (a0 := (8001, .inl (fun _ => 0))) hx hb (hts _ (List.mem_cons_of_mem _ jw42)) rfl hK hP hD hS hA (fun _ => rfl) (by decide) (by decide) (by decide) (Nat.le_of_ble_eq_true rfl) (Nat.le_of_ble_eq_true rfl) d_Tr_init_53 (fun q53 cA H hKn hP hD hS => ?_)
  rw [j_clsI hKn] at hP hD
  have hP : va_P (dC, dI) vwCl [(h_t, .inr (5, [.ref q8, .ref q17, .ref q26, .ref q35, .ref q44, .null, .int 0])), (q8, .inl (cI, 8001, .inl (fun _ => 0))), (q17, .inl (cI, 8001, .inl (fun _ => 0))), (q26, .inl (cI, 8001, .inl (fun _ => 0))), (q35, .inl (cI, 8001, .inl (fun _ => 0))), (q44, .inl (cI, 8001, .inl (fun _ => 0))), (q53, .inl (cI, 8001, .inl (fun _ => 0)))] H := hP
  have hD : va_D A [(h_t, .inr (5, [.ref q8, .ref q17, .ref q26, .ref q35, .ref q44, .null, .int 0])), (q8, .inl (cI, 8001, .inl (fun _ => 0))), (q17, .inl (cI, 8001, .inl (fun _ => 0))), (q26, .inl (cI, 8001, .inl (fun _ => 0))), (q35, .inl (cI, 8001, .inl (fun _ => 0))), (q44, .inl (cI, 8001, .inl (fun _ => 0))), (q53, .inl (cI, 8001, .inl (fun _ => 0)))] := hD
  refine W.widen (k := 6) (n := 48006) (by decide) (by decide) ?_
  refine va_putF (D := (dC, dI)) (ci := 5) (v := .ref q53) (ty := (.array .int)) (C := R_Tr) (T := T_Tr) (N := 7) hx hb hts (fun w h => List.mem_cons_of_mem _ (in_Tr w h)) ty_Tr tyok_Tr nm_Tr hown hK hP hD hS 0 rfl rfl 5 (by decide) (hts _ (List.mem_cons_of_mem _ jw145)) (fun _ h9 => h9) rfl hnm rfl (by decide +kernel) rfl rfl (Nat.le_of_ble_eq_true rfl) d_Tr_init_55 (fun H locs hP hD hS => ?_)
  have hP : va_P (dC, dI) vwCl [(h_t, .inr (5, [.ref q8, .ref q17, .ref q26, .ref q35, .ref q44, .ref q53, .int 0])), (q8, .inl (cI, 8001, .inl (fun _ => 0))), (q17, .inl (cI, 8001, .inl (fun _ => 0))), (q26, .inl (cI, 8001, .inl (fun _ => 0))), (q35, .inl (cI, 8001, .inl (fun _ => 0))), (q44, .inl (cI, 8001, .inl (fun _ => 0))), (q53, .inl (cI, 8001, .inl (fun _ => 0)))] H := hP
  have hD : va_D A [(h_t, .inr (5, [.ref q8, .ref q17, .ref q26, .ref q35, .ref q44, .ref q53, .int 0])), (q8, .inl (cI, 8001, .inl (fun _ => 0))), (q17, .inl (cI, 8001, .inl (fun _ => 0))), (q26, .inl (cI, 8001, .inl (fun _ => 0))), (q35, .inl (cI, 8001, .inl (fun _ => 0))), (q44, .inl (cI, 8001, .inl (fun _ => 0))), (q53, .inl (cI, 8001, .inl (fun _ => 0)))] := hD
  refine lv_aload_n hx hb d_Tr_init_58 rfl (lv_at hl 0 rfl) ?_
  refine va_get (D := (dC, dI)) (ci := 5) (v := .ref q8) (C := R_Tr) (T := T_Tr) (N := 7) hx hb hts (fun w h => List.mem_cons_of_mem _ (in_Tr w h)) hown hK hP 0 rfl rfl 0 (by decide) (hts _ (List.mem_cons_of_mem _ jw140)) (fun _ h9 => h9) rfl d_Tr_init_59 ?_
  refine lv_iconst (v := (0 : Int32)) hx hb d_Tr_init_62 (by decide) ?_
  refine lv_iconst (v := (0 : Int32)) hx hb d_Tr_init_63 (by decide) ?_
  have c64 : ¬ ((0 : Int32) < 0 ∨ 8001 ≤ (0 : Int32).toNatClampNeg) := by decide
  refine va_iast hx hb hK hP hD hS 1 0 rfl rfl c64 d_Tr_init_64 (fun H locs hP hD hS => ?_)
  have hP : va_P (dC, dI) vwCl [(h_t, .inr (5, [.ref q8, .ref q17, .ref q26, .ref q35, .ref q44, .ref q53, .int 0])), (q8, .inl (cI, 8001, .inl (upd (fun _ => 0) (0 : Int32).toNatClampNeg (0 : Int32)))), (q17, .inl (cI, 8001, .inl (fun _ => 0))), (q26, .inl (cI, 8001, .inl (fun _ => 0))), (q35, .inl (cI, 8001, .inl (fun _ => 0))), (q44, .inl (cI, 8001, .inl (fun _ => 0))), (q53, .inl (cI, 8001, .inl (fun _ => 0)))] H := hP
  have hD : va_D A [(h_t, .inr (5, [.ref q8, .ref q17, .ref q26, .ref q35, .ref q44, .ref q53, .int 0])), (q8, .inl (cI, 8001, .inl (upd (fun _ => 0) (0 : Int32).toNatClampNeg (0 : Int32)))), (q17, .inl (cI, 8001, .inl (fun _ => 0))), (q26, .inl (cI, 8001, .inl (fun _ => 0))), (q35, .inl (cI, 8001, .inl (fun _ => 0))), (q44, .inl (cI, 8001, .inl (fun _ => 0))), (q53, .inl (cI, 8001, .inl (fun _ => 0)))] := hD
  refine lv_aload_n hx hb d_Tr_init_65 rfl (lv_at hl 0 rfl) ?_
  refine va_get (D := (dC, dI)) (ci := 5) (v := .ref q17) (C := R_Tr) (T := T_Tr) (N := 7) hx hb hts (fun w h => List.mem_cons_of_mem _ (in_Tr w h)) hown hK hP 0 rfl rfl 1 (by decide) (hts _ (List.mem_cons_of_mem _ jw141)) (fun _ h9 => h9) rfl d_Tr_init_66 ?_
  refine lv_iconst (v := (0 : Int32)) hx hb d_Tr_init_69 (by decide) ?_
  refine lv_iconst (v := (-1 : Int32)) hx hb d_Tr_init_70 (by decide) ?_
  have c71 : ¬ ((0 : Int32) < 0 ∨ 8001 ≤ (0 : Int32).toNatClampNeg) := by decide
  refine va_iast hx hb hK hP hD hS 2 0 rfl rfl c71 d_Tr_init_71 (fun H locs hP hD hS => ?_)
  have hP : va_P (dC, dI) vwCl [(h_t, .inr (5, [.ref q8, .ref q17, .ref q26, .ref q35, .ref q44, .ref q53, .int 0])), (q8, .inl (cI, 8001, .inl (upd (fun _ => 0) (0 : Int32).toNatClampNeg (0 : Int32)))), (q17, .inl (cI, 8001, .inl (upd (fun _ => 0) (0 : Int32).toNatClampNeg (-1 : Int32)))), (q26, .inl (cI, 8001, .inl (fun _ => 0))), (q35, .inl (cI, 8001, .inl (fun _ => 0))), (q44, .inl (cI, 8001, .inl (fun _ => 0))), (q53, .inl (cI, 8001, .inl (fun _ => 0)))] H := hP
  have hD : va_D A [(h_t, .inr (5, [.ref q8, .ref q17, .ref q26, .ref q35, .ref q44, .ref q53, .int 0])), (q8, .inl (cI, 8001, .inl (upd (fun _ => 0) (0 : Int32).toNatClampNeg (0 : Int32)))), (q17, .inl (cI, 8001, .inl (upd (fun _ => 0) (0 : Int32).toNatClampNeg (-1 : Int32)))), (q26, .inl (cI, 8001, .inl (fun _ => 0))), (q35, .inl (cI, 8001, .inl (fun _ => 0))), (q44, .inl (cI, 8001, .inl (fun _ => 0))), (q53, .inl (cI, 8001, .inl (fun _ => 0)))] := hD
  refine lv_aload_n hx hb d_Tr_init_72 rfl (lv_at hl 0 rfl) ?_
  refine va_get (D := (dC, dI)) (ci := 5) (v := .ref q35) (C := R_Tr) (T := T_Tr) (N := 7) hx hb hts (fun w h => List.mem_cons_of_mem _ (in_Tr w h)) hown hK hP 0 rfl rfl 3 (by decide) (hts _ (List.mem_cons_of_mem _ jw143)) (fun _ h9 => h9) rfl d_Tr_init_73 ?_
  refine lv_iconst (v := (0 : Int32)) hx hb d_Tr_init_76 (by decide) ?_
  refine lv_iconst (v := (1 : Int32)) hx hb d_Tr_init_77 (by decide) ?_
  have c78 : ¬ ((0 : Int32) < 0 ∨ 8001 ≤ (0 : Int32).toNatClampNeg) := by decide
  refine va_iast hx hb hK hP hD hS 4 0 rfl rfl c78 d_Tr_init_78 (fun H locs hP hD hS => ?_)
  have hP : va_P (dC, dI) vwCl [(h_t, .inr (5, [.ref q8, .ref q17, .ref q26, .ref q35, .ref q44, .ref q53, .int 0])), (q8, .inl (cI, 8001, .inl (upd (fun _ => 0) (0 : Int32).toNatClampNeg (0 : Int32)))), (q17, .inl (cI, 8001, .inl (upd (fun _ => 0) (0 : Int32).toNatClampNeg (-1 : Int32)))), (q26, .inl (cI, 8001, .inl (fun _ => 0))), (q35, .inl (cI, 8001, .inl (upd (fun _ => 0) (0 : Int32).toNatClampNeg (1 : Int32)))), (q44, .inl (cI, 8001, .inl (fun _ => 0))), (q53, .inl (cI, 8001, .inl (fun _ => 0)))] H := hP
  have hD : va_D A [(h_t, .inr (5, [.ref q8, .ref q17, .ref q26, .ref q35, .ref q44, .ref q53, .int 0])), (q8, .inl (cI, 8001, .inl (upd (fun _ => 0) (0 : Int32).toNatClampNeg (0 : Int32)))), (q17, .inl (cI, 8001, .inl (upd (fun _ => 0) (0 : Int32).toNatClampNeg (-1 : Int32)))), (q26, .inl (cI, 8001, .inl (fun _ => 0))), (q35, .inl (cI, 8001, .inl (upd (fun _ => 0) (0 : Int32).toNatClampNeg (1 : Int32)))), (q44, .inl (cI, 8001, .inl (fun _ => 0))), (q53, .inl (cI, 8001, .inl (fun _ => 0)))] := hD
  refine lv_aload_n hx hb d_Tr_init_79 rfl (lv_at hl 0 rfl) ?_
  refine va_get (D := (dC, dI)) (ci := 5) (v := .ref q53) (C := R_Tr) (T := T_Tr) (N := 7) hx hb hts (fun w h => List.mem_cons_of_mem _ (in_Tr w h)) hown hK hP 0 rfl rfl 5 (by decide) (hts _ (List.mem_cons_of_mem _ jw145)) (fun _ h9 => h9) rfl d_Tr_init_80 ?_
  refine lv_iconst (v := (0 : Int32)) hx hb d_Tr_init_83 (by decide) ?_
  refine lv_iconst (v := (-1 : Int32)) hx hb d_Tr_init_84 (by decide) ?_
  have c85 : ¬ ((0 : Int32) < 0 ∨ 8001 ≤ (0 : Int32).toNatClampNeg) := by decide
  refine va_iast hx hb hK hP hD hS 6 0 rfl rfl c85 d_Tr_init_85 (fun H locs hP hD hS => ?_)
  have hP : va_P (dC, dI) vwCl [(h_t, .inr (5, [.ref q8, .ref q17, .ref q26, .ref q35, .ref q44, .ref q53, .int 0])), (q8, .inl (cI, 8001, .inl (upd (fun _ => 0) (0 : Int32).toNatClampNeg (0 : Int32)))), (q17, .inl (cI, 8001, .inl (upd (fun _ => 0) (0 : Int32).toNatClampNeg (-1 : Int32)))), (q26, .inl (cI, 8001, .inl (fun _ => 0))), (q35, .inl (cI, 8001, .inl (upd (fun _ => 0) (0 : Int32).toNatClampNeg (1 : Int32)))), (q44, .inl (cI, 8001, .inl (fun _ => 0))), (q53, .inl (cI, 8001, .inl (upd (fun _ => 0) (0 : Int32).toNatClampNeg (-1 : Int32))))] H := hP
  have hD : va_D A [(h_t, .inr (5, [.ref q8, .ref q17, .ref q26, .ref q35, .ref q44, .ref q53, .int 0])), (q8, .inl (cI, 8001, .inl (upd (fun _ => 0) (0 : Int32).toNatClampNeg (0 : Int32)))), (q17, .inl (cI, 8001, .inl (upd (fun _ => 0) (0 : Int32).toNatClampNeg (-1 : Int32)))), (q26, .inl (cI, 8001, .inl (fun _ => 0))), (q35, .inl (cI, 8001, .inl (upd (fun _ => 0) (0 : Int32).toNatClampNeg (1 : Int32)))), (q44, .inl (cI, 8001, .inl (fun _ => 0))), (q53, .inl (cI, 8001, .inl (upd (fun _ => 0) (0 : Int32).toNatClampNeg (-1 : Int32))))] := hD
  refine lv_aload_n hx hb d_Tr_init_86 rfl (lv_at hl 0 rfl) ?_
  refine lv_iconst (v := (1 : Int32)) hx hb d_Tr_init_87 (by decide) ?_
  refine va_put (D := (dC, dI)) (ci := 5) (v := .int (1 : Int32)) (ty := .int) (C := R_Tr) (T := T_Tr) (N := 7) hx hb hts (fun w h => List.mem_cons_of_mem _ (in_Tr w h)) ty_Tr tyok_Tr nm_Tr hown hK hP hD hS 0 rfl rfl 6 (by decide) (hts _ (List.mem_cons_of_mem _ jw146)) (fun _ h9 => h9) rfl (by decide +kernel) rfl rfl (Nat.le_of_ble_eq_true rfl) d_Tr_init_88 (fun H locs hP hD hS => ?_)
  have hP : va_P (dC, dI) vwCl [(h_t, .inr (5, [.ref q8, .ref q17, .ref q26, .ref q35, .ref q44, .ref q53, .int (1 : Int32)])), (q8, .inl (cI, 8001, .inl (upd (fun _ => 0) (0 : Int32).toNatClampNeg (0 : Int32)))), (q17, .inl (cI, 8001, .inl (upd (fun _ => 0) (0 : Int32).toNatClampNeg (-1 : Int32)))), (q26, .inl (cI, 8001, .inl (fun _ => 0))), (q35, .inl (cI, 8001, .inl (upd (fun _ => 0) (0 : Int32).toNatClampNeg (1 : Int32)))), (q44, .inl (cI, 8001, .inl (fun _ => 0))), (q53, .inl (cI, 8001, .inl (upd (fun _ => 0) (0 : Int32).toNatClampNeg (-1 : Int32))))] H := hP
  have hD : va_D A [(h_t, .inr (5, [.ref q8, .ref q17, .ref q26, .ref q35, .ref q44, .ref q53, .int (1 : Int32)])), (q8, .inl (cI, 8001, .inl (upd (fun _ => 0) (0 : Int32).toNatClampNeg (0 : Int32)))), (q17, .inl (cI, 8001, .inl (upd (fun _ => 0) (0 : Int32).toNatClampNeg (-1 : Int32)))), (q26, .inl (cI, 8001, .inl (fun _ => 0))), (q35, .inl (cI, 8001, .inl (upd (fun _ => 0) (0 : Int32).toNatClampNeg (1 : Int32)))), (q44, .inl (cI, 8001, .inl (fun _ => 0))), (q53, .inl (cI, 8001, .inl (upd (fun _ => 0) (0 : Int32).toNatClampNeg (-1 : Int32))))] := hD
  refine W.widen (k := 6) (n := 48006) (by decide) (by decide) ?_
  exact jVret hx hb hr hlocks d_Tr_init_91 (fun n => [q8, q17, q26, q35, q44, q53].getD n 0) hS hP hD
theorem d_Tr_has_0 : decode b_Tr_has 0 = .ok (.iload_n 1, 1) := by decide +kernel
theorem d_Tr_has_1 : decode b_Tr_has 1 = .ok (.ifCond .lt 15, 3) := by decide +kernel
theorem d_Tr_has_4 : decode b_Tr_has 4 = .ok (.iload_n 1, 1) := by decide +kernel
theorem d_Tr_has_5 : decode b_Tr_has 5 = .ok (.aload_n 0, 1) := by decide +kernel
theorem d_Tr_has_6 : decode b_Tr_has 6 = .ok (.getfield 32, 3) := by decide +kernel
theorem d_Tr_has_9 : decode b_Tr_has 9 = .ok (.if_icmp .ge 7, 3) := by decide +kernel
theorem d_Tr_has_12 : decode b_Tr_has 12 = .ok (.iconst 1, 1) := by decide +kernel
theorem d_Tr_has_13 : decode b_Tr_has 13 = .ok (.goto 4, 3) := by decide +kernel
theorem d_Tr_has_16 : decode b_Tr_has 16 = .ok (.iconst 0, 1) := by decide +kernel
theorem d_Tr_has_17 : decode b_Tr_has 17 = .ok (.ireturn, 1) := by decide +kernel
noncomputable def Tr_has_b16 (t_count : Int32)  : Option Int32 := some (vp_nar .boolean (0 : Int32))
noncomputable def f_Tr_has (t_count : Int32)  (a1 : Int32) : Option Int32 := if a1 < 0 then (Tr_has_b16 t_count) else (if t_count ≤ a1 then (Tr_has_b16 t_count) else (some (vp_nar .boolean (1 : Int32))))
set_option maxHeartbeats 4000000 in
set_option maxRecDepth 100000 in
theorem c_Tr_has {l : Launch} {dC : Nat → ClassId} {dI : Nat → Nat → Nat} {cI cB cS : ClassId} {adK adV adR : Nat → Nat} (h_t h_t_kinds h_t_places h_t_values h_t_sizes h_t_partCounts h_t_wholes : Nat) (t_kinds : (Nat → Int32)) (t_places : (Nat → Int32)) (t_values : (Nat → Int32)) (t_sizes : (Nat → Int32)) (t_partCounts : (Nat → Int32)) (t_wholes : (Nat → Int32)) (t_count : Int32) (a1 : Int32) {o : Int32} (hf : f_Tr_has t_count a1 = some o) : jMet l dC dI cI cB cS adK adV adR y_Tr_has wd_Tr_has { frames := 0, cells := 0, slots := 0, locals := 0 } [.ref h_t, .int a1] [(h_t, .inr (5, [.ref h_t_kinds, .ref h_t_places, .ref h_t_values, .ref h_t_sizes, .ref h_t_partCounts, .ref h_t_wholes, .int t_count])), (h_t_kinds, .inl (cI, 8001, .inl t_kinds)), (h_t_places, .inl (cI, 8001, .inl t_places)), (h_t_values, .inl (cI, 8001, .inl t_values)), (h_t_sizes, .inl (cI, 8001, .inl t_sizes)), (h_t_partCounts, .inl (cI, 8001, .inl t_partCounts)), (h_t_wholes, .inl (cI, 8001, .inl t_wholes))] (some (.int o)) (fun q => [(h_t, .inr (5, [.ref h_t_kinds, .ref h_t_places, .ref h_t_values, .ref h_t_sizes, .ref h_t_partCounts, .ref h_t_wholes, .int t_count])), (h_t_kinds, .inl (cI, 8001, .inl t_kinds)), (h_t_places, .inl (cI, 8001, .inl t_places)), (h_t_values, .inl (cI, 8001, .inl t_values)), (h_t_sizes, .inl (cI, 8001, .inl t_sizes)), (h_t_partCounts, .inl (cI, 8001, .inl t_partCounts)), (h_t_wholes, .inl (cI, 8001, .inl t_wholes))]) 0 0 := by
  refine jEntry (cc := b_Tr_has) (maxL := 2) (ret := (some .boolean)) (by decide) rfl (Nat.le_of_ble_eq_true rfl) rfl (fun p e s m args below meth c A H locs ls Q hQ hx hb hr hml hown hts hlocks hnm hJ hA hP hD hS hl => ?_)
  have hK := hJ.K
  have hl : lv_has ls 2 [(0, .ref h_t), (1, .int a1)] := hl
  have B16 : ∀  (H : Heap) (locs : List Loc) (ls : Array Slot), Tr_has_b16 t_count = some o → va_P (dC, dI) vwCl [(h_t, .inr (5, [.ref h_t_kinds, .ref h_t_places, .ref h_t_values, .ref h_t_sizes, .ref h_t_partCounts, .ref h_t_wholes, .int t_count])), (h_t_kinds, .inl (cI, 8001, .inl t_kinds)), (h_t_places, .inl (cI, 8001, .inl t_places)), (h_t_values, .inl (cI, 8001, .inl t_values)), (h_t_sizes, .inl (cI, 8001, .inl t_sizes)), (h_t_partCounts, .inl (cI, 8001, .inl t_partCounts)), (h_t_wholes, .inl (cI, 8001, .inl t_wholes))] H → va_D A [(h_t, .inr (5, [.ref h_t_kinds, .ref h_t_places, .ref h_t_values, .ref h_t_sizes, .ref h_t_partCounts, .ref h_t_wholes, .int t_count])), (h_t_kinds, .inl (cI, 8001, .inl t_kinds)), (h_t_places, .inl (cI, 8001, .inl t_places)), (h_t_values, .inl (cI, 8001, .inl t_values)), (h_t_sizes, .inl (cI, 8001, .inl t_sizes)), (h_t_partCounts, .inl (cI, 8001, .inl t_partCounts)), (h_t_wholes, .inl (cI, 8001, .inl t_wholes))] → va_S A s.heap H locs → lv_has ls 2 [] → W p l e { frames := 0, cells := 0, slots := 0, locals := 0 } s m args below meth c H locs 0 0 Q (F0 m 16 ls []) := by
    intro  H locs ls hf hP hD hS hl
    unfold Tr_has_b16 at hf
    refine lv_iconst (v := (0 : Int32)) hx hb d_Tr_has_16 (by decide) ?_
    have hf : (some (vp_nar .boolean (0 : Int32)) : Option Int32) = some o := hf
    rw [hQ, ← Option.some.inj hf]
    exact jNret hx hb hr rfl hlocks d_Tr_has_17 (fun _ => 0) hS hP hD
  unfold f_Tr_has at hf
  refine lv_iload_n hx hb d_Tr_has_0 rfl (lv_at hl 1 rfl) ?_
  refine lv_if_lt (tgt := 16) hx hb d_Tr_has_1 (by decide) (fun c1 => ?_) (fun c1 => ?_)
  · rw [if_pos c1] at hf
    exact B16  H locs ls hf hP hD hS (lv_sub hl [] rfl)
  · rw [if_neg c1] at hf
    refine lv_iload_n hx hb d_Tr_has_4 rfl (lv_at hl 1 rfl) ?_
    refine lv_aload_n hx hb d_Tr_has_5 rfl (lv_at hl 0 rfl) ?_
    refine va_get (D := (dC, dI)) (ci := 5) (v := .int t_count) (C := R_Tr) (T := T_Tr) (N := 7) hx hb hts (fun w h => List.mem_cons_of_mem _ (in_Tr w h)) hown hK hP 0 rfl rfl 6 (by decide) (hts _ (List.mem_cons_of_mem _ jw146)) (fun _ h9 => h9) rfl d_Tr_has_6 ?_
    refine lv_icmp_ge (tgt := 16) hx hb d_Tr_has_9 (by decide) (fun c9 => ?_) (fun c9 => ?_)
    · rw [if_pos c9] at hf
      exact B16  H locs ls hf hP hD hS (lv_sub hl [] rfl)
    · rw [if_neg c9] at hf
      refine lv_iconst (v := (1 : Int32)) hx hb d_Tr_has_12 (by decide) ?_
      refine lv_goto (tgt := 17) hx hb d_Tr_has_13 (by decide) ?_
      have hf : (some (vp_nar .boolean (1 : Int32)) : Option Int32) = some o := hf
      rw [hQ, ← Option.some.inj hf]
      exact jNret hx hb hr rfl hlocks d_Tr_has_17 (fun _ => 0) hS hP hD
theorem d_Tr_makeRoom_0 : decode b_Tr_makeRoom 0 = .ok (.aload_n 0, 1) := by decide +kernel
theorem d_Tr_makeRoom_1 : decode b_Tr_makeRoom 1 = .ok (.iload_n 1, 1) := by decide +kernel
theorem d_Tr_makeRoom_2 : decode b_Tr_makeRoom 2 = .ok (.sipush 8001, 3) := by decide +kernel
theorem d_Tr_makeRoom_5 : decode b_Tr_makeRoom 5 = .ok (.invokestatic 36, 3) := by decide +kernel
theorem d_Tr_makeRoom_8 : decode b_Tr_makeRoom 8 = .ok (.putfield 32, 3) := by decide +kernel
theorem d_Tr_makeRoom_11 : decode b_Tr_makeRoom 11 = .ok (.return_, 1) := by decide +kernel
noncomputable def f_Tr_makeRoom  (t_count : Int32) (a1 : Int32) : Option Int32 := some (if (8001 : Int32) < a1 then (8001 : Int32) else a1)
set_option maxHeartbeats 4000000 in
set_option maxRecDepth 100000 in
theorem c_Tr_makeRoom {l : Launch} {dC : Nat → ClassId} {dI : Nat → Nat → Nat} {cI cB cS : ClassId} {adK adV adR : Nat → Nat} (h_t h_t_kinds h_t_places h_t_values h_t_sizes h_t_partCounts h_t_wholes : Nat) (t_kinds : (Nat → Int32)) (t_places : (Nat → Int32)) (t_values : (Nat → Int32)) (t_sizes : (Nat → Int32)) (t_partCounts : (Nat → Int32)) (t_wholes : (Nat → Int32)) (t_count : Int32) (a1 : Int32) {o : Int32} (hf : f_Tr_makeRoom t_count a1 = some o) : jMet l dC dI cI cB cS adK adV adR y_Tr_makeRoom wd_Tr_makeRoom { frames := 1, cells := 0, slots := 0, locals := 14 } [.ref h_t, .int a1] [(h_t, .inr (5, [.ref h_t_kinds, .ref h_t_places, .ref h_t_values, .ref h_t_sizes, .ref h_t_partCounts, .ref h_t_wholes, .int t_count])), (h_t_kinds, .inl (cI, 8001, .inl t_kinds)), (h_t_places, .inl (cI, 8001, .inl t_places)), (h_t_values, .inl (cI, 8001, .inl t_values)), (h_t_sizes, .inl (cI, 8001, .inl t_sizes)), (h_t_partCounts, .inl (cI, 8001, .inl t_partCounts)), (h_t_wholes, .inl (cI, 8001, .inl t_wholes))] (none) (fun q => [(h_t, .inr (5, [.ref h_t_kinds, .ref h_t_places, .ref h_t_values, .ref h_t_sizes, .ref h_t_partCounts, .ref h_t_wholes, .int o])), (h_t_kinds, .inl (cI, 8001, .inl t_kinds)), (h_t_places, .inl (cI, 8001, .inl t_places)), (h_t_values, .inl (cI, 8001, .inl t_values)), (h_t_sizes, .inl (cI, 8001, .inl t_sizes)), (h_t_partCounts, .inl (cI, 8001, .inl t_partCounts)), (h_t_wholes, .inl (cI, 8001, .inl t_wholes))]) 0 0 := by
  refine jEntry (cc := b_Tr_makeRoom) (maxL := 2) (ret := none) (by decide) rfl (Nat.le_of_ble_eq_true rfl) rfl (fun p e s m args below meth c A H locs ls Q hQ hx hb hr hml hown hts hlocks hnm hJ hA hP hD hS hl => ?_)
  have hK := hJ.K
  have hl : lv_has ls 2 [(0, .ref h_t), (1, .int a1)] := hl
  unfold f_Tr_makeRoom at hf
  refine lv_aload_n hx hb d_Tr_makeRoom_0 rfl (lv_at hl 0 rfl) ?_
  refine lv_iload_n hx hb d_Tr_makeRoom_1 rfl (lv_at hl 1 rfl) ?_
  refine lv_sipush (v := (8001 : Int32)) hx hb d_Tr_makeRoom_2 (by decide) ?_
  refine va_mmin hx hb (by rw [hml]; exact hl.1.symm) hown (hts _ (List.mem_cons_of_mem _ jw147)) (hts _ (List.mem_cons_of_mem _ jw148)) (hts _ (List.mem_cons_of_mem _ jw149)) (hts _ (List.mem_cons_of_mem _ jw150)) (Nat.le_of_ble_eq_true rfl) (Nat.le_of_ble_eq_true rfl) (Nat.zero_le _) (Nat.zero_le _) d_Tr_makeRoom_5 ?_
  refine va_put (D := (dC, dI)) (ci := 5) (v := .int (if (8001 : Int32) < a1 then (8001 : Int32) else a1)) (ty := .int) (C := R_Tr) (T := T_Tr) (N := 7) hx hb hts (fun w h => List.mem_cons_of_mem _ (in_Tr w h)) ty_Tr tyok_Tr nm_Tr hown hK hP hD hS 0 rfl rfl 6 (by decide) (hts _ (List.mem_cons_of_mem _ jw146)) (fun _ h9 => h9) rfl (by decide +kernel) rfl rfl (Nat.le_of_ble_eq_true rfl) d_Tr_makeRoom_8 (fun H locs hP hD hS => ?_)
  have hP : va_P (dC, dI) vwCl [(h_t, .inr (5, [.ref h_t_kinds, .ref h_t_places, .ref h_t_values, .ref h_t_sizes, .ref h_t_partCounts, .ref h_t_wholes, .int (if (8001 : Int32) < a1 then (8001 : Int32) else a1)])), (h_t_kinds, .inl (cI, 8001, .inl t_kinds)), (h_t_places, .inl (cI, 8001, .inl t_places)), (h_t_values, .inl (cI, 8001, .inl t_values)), (h_t_sizes, .inl (cI, 8001, .inl t_sizes)), (h_t_partCounts, .inl (cI, 8001, .inl t_partCounts)), (h_t_wholes, .inl (cI, 8001, .inl t_wholes))] H := hP
  have hD : va_D A [(h_t, .inr (5, [.ref h_t_kinds, .ref h_t_places, .ref h_t_values, .ref h_t_sizes, .ref h_t_partCounts, .ref h_t_wholes, .int (if (8001 : Int32) < a1 then (8001 : Int32) else a1)])), (h_t_kinds, .inl (cI, 8001, .inl t_kinds)), (h_t_places, .inl (cI, 8001, .inl t_places)), (h_t_values, .inl (cI, 8001, .inl t_values)), (h_t_sizes, .inl (cI, 8001, .inl t_sizes)), (h_t_partCounts, .inl (cI, 8001, .inl t_partCounts)), (h_t_wholes, .inl (cI, 8001, .inl t_wholes))] := hD
  have hf : (some (if (8001 : Int32) < a1 then (8001 : Int32) else a1) : Option Int32) = some o := hf
  rw [hQ, ← Option.some.inj hf]
  exact jVret hx hb hr hlocks d_Tr_makeRoom_11 (fun _ => 0) hS hP hD
theorem d_Tr_put_0 : decode b_Tr_put 0 = .ok (.aload_n 0, 1) := by decide +kernel
theorem d_Tr_put_1 : decode b_Tr_put 1 = .ok (.iload_n 1, 1) := by decide +kernel
theorem d_Tr_put_2 : decode b_Tr_put 2 = .ok (.invokevirtual 42, 3) := by decide +kernel
theorem d_Tr_put_5 : decode b_Tr_put 5 = .ok (.ifCond .eq 41, 3) := by decide +kernel
theorem d_Tr_put_8 : decode b_Tr_put 8 = .ok (.aload_n 0, 1) := by decide +kernel
theorem d_Tr_put_9 : decode b_Tr_put 9 = .ok (.getfield 9, 3) := by decide +kernel
theorem d_Tr_put_12 : decode b_Tr_put 12 = .ok (.iload_n 1, 1) := by decide +kernel
theorem d_Tr_put_13 : decode b_Tr_put 13 = .ok (.iload_n 2, 1) := by decide +kernel
theorem d_Tr_put_14 : decode b_Tr_put 14 = .ok (.iastore, 1) := by decide +kernel
theorem d_Tr_put_15 : decode b_Tr_put 15 = .ok (.aload_n 0, 1) := by decide +kernel
theorem d_Tr_put_16 : decode b_Tr_put 16 = .ok (.getfield 15, 3) := by decide +kernel
theorem d_Tr_put_19 : decode b_Tr_put 19 = .ok (.iload_n 1, 1) := by decide +kernel
theorem d_Tr_put_20 : decode b_Tr_put 20 = .ok (.iload_n 3, 1) := by decide +kernel
theorem d_Tr_put_21 : decode b_Tr_put 21 = .ok (.iastore, 1) := by decide +kernel
theorem d_Tr_put_22 : decode b_Tr_put 22 = .ok (.aload_n 0, 1) := by decide +kernel
theorem d_Tr_put_23 : decode b_Tr_put 23 = .ok (.getfield 18, 3) := by decide +kernel
theorem d_Tr_put_26 : decode b_Tr_put 26 = .ok (.iload_n 1, 1) := by decide +kernel
theorem d_Tr_put_27 : decode b_Tr_put 27 = .ok (.iload 4, 2) := by decide +kernel
theorem d_Tr_put_29 : decode b_Tr_put 29 = .ok (.iastore, 1) := by decide +kernel
theorem d_Tr_put_30 : decode b_Tr_put 30 = .ok (.aload_n 0, 1) := by decide +kernel
theorem d_Tr_put_31 : decode b_Tr_put 31 = .ok (.getfield 21, 3) := by decide +kernel
theorem d_Tr_put_34 : decode b_Tr_put 34 = .ok (.iload_n 1, 1) := by decide +kernel
theorem d_Tr_put_35 : decode b_Tr_put 35 = .ok (.iload 5, 2) := by decide +kernel
theorem d_Tr_put_37 : decode b_Tr_put 37 = .ok (.iastore, 1) := by decide +kernel
theorem d_Tr_put_38 : decode b_Tr_put 38 = .ok (.aload_n 0, 1) := by decide +kernel
theorem d_Tr_put_39 : decode b_Tr_put 39 = .ok (.getfield 24, 3) := by decide +kernel
theorem d_Tr_put_42 : decode b_Tr_put 42 = .ok (.iload_n 1, 1) := by decide +kernel
theorem d_Tr_put_43 : decode b_Tr_put 43 = .ok (.iload 6, 2) := by decide +kernel
theorem d_Tr_put_45 : decode b_Tr_put 45 = .ok (.iastore, 1) := by decide +kernel
theorem d_Tr_put_46 : decode b_Tr_put 46 = .ok (.return_, 1) := by decide +kernel
noncomputable def f_Tr_put (t_count : Int32) (t_kinds : (Nat → Int32)) (t_places : (Nat → Int32)) (t_values : (Nat → Int32)) (t_sizes : (Nat → Int32)) (t_partCounts : (Nat → Int32)) (a1 : Int32) (a2 : Int32) (a3 : Int32) (a4 : Int32) (a5 : Int32) (a6 : Int32) : Option ((Nat → Int32) × (Nat → Int32) × (Nat → Int32) × (Nat → Int32) × (Nat → Int32)) := jb (f_Tr_has t_count a1) (fun o3 => if o3 = 0 then (some (t_kinds, t_places, t_values, t_sizes, t_partCounts)) else (if a1 < 0 ∨ 8001 ≤ a1.toNatClampNeg then none else (if a1 < 0 ∨ 8001 ≤ a1.toNatClampNeg then none else (if a1 < 0 ∨ 8001 ≤ a1.toNatClampNeg then none else (if a1 < 0 ∨ 8001 ≤ a1.toNatClampNeg then none else (if a1 < 0 ∨ 8001 ≤ a1.toNatClampNeg then none else (some ((upd t_kinds a1.toNatClampNeg a2), (upd t_places a1.toNatClampNeg a3), (upd t_values a1.toNatClampNeg a4), (upd t_sizes a1.toNatClampNeg a5), (upd t_partCounts a1.toNatClampNeg a6)))))))))
set_option maxHeartbeats 4000000 in
set_option maxRecDepth 100000 in
theorem c_Tr_put {l : Launch} {dC : Nat → ClassId} {dI : Nat → Nat → Nat} {cI cB cS : ClassId} {adK adV adR : Nat → Nat} (h_t h_t_kinds h_t_places h_t_values h_t_sizes h_t_partCounts h_t_wholes : Nat) (t_kinds : (Nat → Int32)) (t_places : (Nat → Int32)) (t_values : (Nat → Int32)) (t_sizes : (Nat → Int32)) (t_partCounts : (Nat → Int32)) (t_wholes : (Nat → Int32)) (t_count : Int32) (a1 : Int32) (a2 : Int32) (a3 : Int32) (a4 : Int32) (a5 : Int32) (a6 : Int32) {o : ((Nat → Int32) × (Nat → Int32) × (Nat → Int32) × (Nat → Int32) × (Nat → Int32))} (hf : f_Tr_put t_count t_kinds t_places t_values t_sizes t_partCounts a1 a2 a3 a4 a5 a6 = some o) : jMet l dC dI cI cB cS adK adV adR y_Tr_put wd_Tr_put { frames := 1, cells := 0, slots := 0, locals := 21 } [.ref h_t, .int a1, .int a2, .int a3, .int a4, .int a5, .int a6] [(h_t, .inr (5, [.ref h_t_kinds, .ref h_t_places, .ref h_t_values, .ref h_t_sizes, .ref h_t_partCounts, .ref h_t_wholes, .int t_count])), (h_t_kinds, .inl (cI, 8001, .inl t_kinds)), (h_t_places, .inl (cI, 8001, .inl t_places)), (h_t_values, .inl (cI, 8001, .inl t_values)), (h_t_sizes, .inl (cI, 8001, .inl t_sizes)), (h_t_partCounts, .inl (cI, 8001, .inl t_partCounts)), (h_t_wholes, .inl (cI, 8001, .inl t_wholes))] (none) (fun q => [(h_t, .inr (5, [.ref h_t_kinds, .ref h_t_places, .ref h_t_values, .ref h_t_sizes, .ref h_t_partCounts, .ref h_t_wholes, .int t_count])), (h_t_kinds, .inl (cI, 8001, .inl o.1)), (h_t_places, .inl (cI, 8001, .inl o.2.1)), (h_t_values, .inl (cI, 8001, .inl o.2.2.1)), (h_t_sizes, .inl (cI, 8001, .inl o.2.2.2.1)), (h_t_partCounts, .inl (cI, 8001, .inl o.2.2.2.2)), (h_t_wholes, .inl (cI, 8001, .inl t_wholes))]) 0 0 := by
  refine jEntry (cc := b_Tr_put) (maxL := 7) (ret := none) (by decide) rfl (Nat.le_of_ble_eq_true rfl) rfl (fun p e s m args below meth c A H locs ls Q hQ hx hb hr hml hown hts hlocks hnm hJ hA hP hD hS hl => ?_)
  have hK := hJ.K
  have hl : lv_has ls 7 [(0, .ref h_t), (1, .int a1), (2, .int a2), (3, .int a3), (4, .int a4), (5, .int a5), (6, .int a6)] := hl
  unfold f_Tr_put at hf
  refine lv_aload_n hx hb d_Tr_put_0 rfl (lv_at hl 0 rfl) ?_
  refine lv_iload_n hx hb d_Tr_put_1 rfl (lv_at hl 1 rfl) ?_
  obtain ⟨o5, ho5⟩ : ∃ z, f_Tr_has t_count a1 = some z := by
    cases hz : f_Tr_has t_count a1 with
    | none => rw [hz] at hf; simp only [jb_none, jl_b_none, jm_none, reduceCtorEq] at hf
    | some z => exact ⟨z, rfl⟩
  rw [ho5, jb_some] at hf
  refine jCallV (As := [.int a1]) (rest := []) (wr := []) ⟨hx, hb, hml, hown, hts⟩ hJ (c_Tr_has h_t h_t_kinds h_t_places h_t_values h_t_sizes h_t_partCounts h_t_wholes t_kinds t_places t_values t_sizes t_partCounts t_wholes t_count a1 ho5) (cwV 1 hts (jgV jw151 jw154 jw155 jw153 jw152) rfl rfl rfl dd_Tr_has ⟨Nat.le_of_ble_eq_true rfl, Nat.le_of_ble_eq_true rfl⟩) hP hD hS hA (va_recv hK hP (ci := 5) (q0 := 0) rfl rfl) [0, 1, 2, 3, 4, 5, 6] [] rfl rfl (by decide) (by decide) (by decide) rfl hl.1 rfl (Nat.le_of_ble_eq_true rfl) d_Tr_put_2 ⟨Nat.le_of_ble_eq_true rfl, Nat.le_of_ble_eq_true rfl⟩ (fun qz6 H locs hP hD hS => ?_)
  have hP : va_P (dC, dI) vwCl [(h_t, .inr (5, [.ref h_t_kinds, .ref h_t_places, .ref h_t_values, .ref h_t_sizes, .ref h_t_partCounts, .ref h_t_wholes, .int t_count])), (h_t_kinds, .inl (cI, 8001, .inl t_kinds)), (h_t_places, .inl (cI, 8001, .inl t_places)), (h_t_values, .inl (cI, 8001, .inl t_values)), (h_t_sizes, .inl (cI, 8001, .inl t_sizes)), (h_t_partCounts, .inl (cI, 8001, .inl t_partCounts)), (h_t_wholes, .inl (cI, 8001, .inl t_wholes))] H := hP
  have hD : va_D A [(h_t, .inr (5, [.ref h_t_kinds, .ref h_t_places, .ref h_t_values, .ref h_t_sizes, .ref h_t_partCounts, .ref h_t_wholes, .int t_count])), (h_t_kinds, .inl (cI, 8001, .inl t_kinds)), (h_t_places, .inl (cI, 8001, .inl t_places)), (h_t_values, .inl (cI, 8001, .inl t_values)), (h_t_sizes, .inl (cI, 8001, .inl t_sizes)), (h_t_partCounts, .inl (cI, 8001, .inl t_partCounts)), (h_t_wholes, .inl (cI, 8001, .inl t_wholes))] := hD
  refine lv_if_eq (tgt := 46) hx hb d_Tr_put_5 (by decide) (fun c5 => ?_) (fun c5 => ?_)
  · rw [if_pos c5] at hf
    have hf : (some (t_kinds, t_places, t_values, t_sizes, t_partCounts) : Option ((Nat → Int32) × (Nat → Int32) × (Nat → Int32) × (Nat → Int32) × (Nat → Int32))) = some o := hf
    rw [hQ, ← Option.some.inj hf]
    exact jVret hx hb hr hlocks d_Tr_put_46 (fun _ => 0) hS hP hD
  · rw [if_neg c5] at hf
    refine lv_aload_n hx hb d_Tr_put_8 rfl (lv_at hl 0 rfl) ?_
    refine va_get (D := (dC, dI)) (ci := 5) (v := .ref h_t_kinds) (C := R_Tr) (T := T_Tr) (N := 7) hx hb hts (fun w h => List.mem_cons_of_mem _ (in_Tr w h)) hown hK hP 0 rfl rfl 0 (by decide) (hts _ (List.mem_cons_of_mem _ jw140)) (fun _ h9 => h9) rfl d_Tr_put_9 ?_
    refine lv_iload_n hx hb d_Tr_put_12 rfl (lv_at hl 1 rfl) ?_
    refine lv_iload_n hx hb d_Tr_put_13 rfl (lv_at hl 2 rfl) ?_
    have c14 : ¬ (a1 < 0 ∨ 8001 ≤ a1.toNatClampNeg) := by intro z; rw [if_pos z] at hf; simp only [jb_none, jl_b_none, jm_none, reduceCtorEq] at hf
    rw [if_neg c14] at hf
    refine va_iast hx hb hK hP hD hS 1 0 rfl rfl c14 d_Tr_put_14 (fun H locs hP hD hS => ?_)
    have hP : va_P (dC, dI) vwCl [(h_t, .inr (5, [.ref h_t_kinds, .ref h_t_places, .ref h_t_values, .ref h_t_sizes, .ref h_t_partCounts, .ref h_t_wholes, .int t_count])), (h_t_kinds, .inl (cI, 8001, .inl (upd t_kinds a1.toNatClampNeg a2))), (h_t_places, .inl (cI, 8001, .inl t_places)), (h_t_values, .inl (cI, 8001, .inl t_values)), (h_t_sizes, .inl (cI, 8001, .inl t_sizes)), (h_t_partCounts, .inl (cI, 8001, .inl t_partCounts)), (h_t_wholes, .inl (cI, 8001, .inl t_wholes))] H := hP
    have hD : va_D A [(h_t, .inr (5, [.ref h_t_kinds, .ref h_t_places, .ref h_t_values, .ref h_t_sizes, .ref h_t_partCounts, .ref h_t_wholes, .int t_count])), (h_t_kinds, .inl (cI, 8001, .inl (upd t_kinds a1.toNatClampNeg a2))), (h_t_places, .inl (cI, 8001, .inl t_places)), (h_t_values, .inl (cI, 8001, .inl t_values)), (h_t_sizes, .inl (cI, 8001, .inl t_sizes)), (h_t_partCounts, .inl (cI, 8001, .inl t_partCounts)), (h_t_wholes, .inl (cI, 8001, .inl t_wholes))] := hD
    refine lv_aload_n hx hb d_Tr_put_15 rfl (lv_at hl 0 rfl) ?_
    refine va_get (D := (dC, dI)) (ci := 5) (v := .ref h_t_places) (C := R_Tr) (T := T_Tr) (N := 7) hx hb hts (fun w h => List.mem_cons_of_mem _ (in_Tr w h)) hown hK hP 0 rfl rfl 1 (by decide) (hts _ (List.mem_cons_of_mem _ jw141)) (fun _ h9 => h9) rfl d_Tr_put_16 ?_
    refine lv_iload_n hx hb d_Tr_put_19 rfl (lv_at hl 1 rfl) ?_
    refine lv_iload_n hx hb d_Tr_put_20 rfl (lv_at hl 3 rfl) ?_
    have c21 : ¬ (a1 < 0 ∨ 8001 ≤ a1.toNatClampNeg) := by intro z; rw [if_pos z] at hf; simp only [jb_none, jl_b_none, jm_none, reduceCtorEq] at hf
    rw [if_neg c21] at hf
    refine va_iast hx hb hK hP hD hS 2 0 rfl rfl c21 d_Tr_put_21 (fun H locs hP hD hS => ?_)
    have hP : va_P (dC, dI) vwCl [(h_t, .inr (5, [.ref h_t_kinds, .ref h_t_places, .ref h_t_values, .ref h_t_sizes, .ref h_t_partCounts, .ref h_t_wholes, .int t_count])), (h_t_kinds, .inl (cI, 8001, .inl (upd t_kinds a1.toNatClampNeg a2))), (h_t_places, .inl (cI, 8001, .inl (upd t_places a1.toNatClampNeg a3))), (h_t_values, .inl (cI, 8001, .inl t_values)), (h_t_sizes, .inl (cI, 8001, .inl t_sizes)), (h_t_partCounts, .inl (cI, 8001, .inl t_partCounts)), (h_t_wholes, .inl (cI, 8001, .inl t_wholes))] H := hP
    have hD : va_D A [(h_t, .inr (5, [.ref h_t_kinds, .ref h_t_places, .ref h_t_values, .ref h_t_sizes, .ref h_t_partCounts, .ref h_t_wholes, .int t_count])), (h_t_kinds, .inl (cI, 8001, .inl (upd t_kinds a1.toNatClampNeg a2))), (h_t_places, .inl (cI, 8001, .inl (upd t_places a1.toNatClampNeg a3))), (h_t_values, .inl (cI, 8001, .inl t_values)), (h_t_sizes, .inl (cI, 8001, .inl t_sizes)), (h_t_partCounts, .inl (cI, 8001, .inl t_partCounts)), (h_t_wholes, .inl (cI, 8001, .inl t_wholes))] := hD
    refine lv_aload_n hx hb d_Tr_put_22 rfl (lv_at hl 0 rfl) ?_
    refine va_get (D := (dC, dI)) (ci := 5) (v := .ref h_t_values) (C := R_Tr) (T := T_Tr) (N := 7) hx hb hts (fun w h => List.mem_cons_of_mem _ (in_Tr w h)) hown hK hP 0 rfl rfl 2 (by decide) (hts _ (List.mem_cons_of_mem _ jw142)) (fun _ h9 => h9) rfl d_Tr_put_23 ?_
    refine lv_iload_n hx hb d_Tr_put_26 rfl (lv_at hl 1 rfl) ?_
    refine lv_iload hx hb d_Tr_put_27 (lv_at hl 4 rfl) ?_
    have c29 : ¬ (a1 < 0 ∨ 8001 ≤ a1.toNatClampNeg) := by intro z; rw [if_pos z] at hf; simp only [jb_none, jl_b_none, jm_none, reduceCtorEq] at hf
    rw [if_neg c29] at hf
    refine va_iast hx hb hK hP hD hS 3 0 rfl rfl c29 d_Tr_put_29 (fun H locs hP hD hS => ?_)
    have hP : va_P (dC, dI) vwCl [(h_t, .inr (5, [.ref h_t_kinds, .ref h_t_places, .ref h_t_values, .ref h_t_sizes, .ref h_t_partCounts, .ref h_t_wholes, .int t_count])), (h_t_kinds, .inl (cI, 8001, .inl (upd t_kinds a1.toNatClampNeg a2))), (h_t_places, .inl (cI, 8001, .inl (upd t_places a1.toNatClampNeg a3))), (h_t_values, .inl (cI, 8001, .inl (upd t_values a1.toNatClampNeg a4))), (h_t_sizes, .inl (cI, 8001, .inl t_sizes)), (h_t_partCounts, .inl (cI, 8001, .inl t_partCounts)), (h_t_wholes, .inl (cI, 8001, .inl t_wholes))] H := hP
    have hD : va_D A [(h_t, .inr (5, [.ref h_t_kinds, .ref h_t_places, .ref h_t_values, .ref h_t_sizes, .ref h_t_partCounts, .ref h_t_wholes, .int t_count])), (h_t_kinds, .inl (cI, 8001, .inl (upd t_kinds a1.toNatClampNeg a2))), (h_t_places, .inl (cI, 8001, .inl (upd t_places a1.toNatClampNeg a3))), (h_t_values, .inl (cI, 8001, .inl (upd t_values a1.toNatClampNeg a4))), (h_t_sizes, .inl (cI, 8001, .inl t_sizes)), (h_t_partCounts, .inl (cI, 8001, .inl t_partCounts)), (h_t_wholes, .inl (cI, 8001, .inl t_wholes))] := hD
    refine lv_aload_n hx hb d_Tr_put_30 rfl (lv_at hl 0 rfl) ?_
    refine va_get (D := (dC, dI)) (ci := 5) (v := .ref h_t_sizes) (C := R_Tr) (T := T_Tr) (N := 7) hx hb hts (fun w h => List.mem_cons_of_mem _ (in_Tr w h)) hown hK hP 0 rfl rfl 3 (by decide) (hts _ (List.mem_cons_of_mem _ jw143)) (fun _ h9 => h9) rfl d_Tr_put_31 ?_
    refine lv_iload_n hx hb d_Tr_put_34 rfl (lv_at hl 1 rfl) ?_
    refine lv_iload hx hb d_Tr_put_35 (lv_at hl 5 rfl) ?_
    have c37 : ¬ (a1 < 0 ∨ 8001 ≤ a1.toNatClampNeg) := by intro z; rw [if_pos z] at hf; simp only [jb_none, jl_b_none, jm_none, reduceCtorEq] at hf
    rw [if_neg c37] at hf
    refine va_iast hx hb hK hP hD hS 4 0 rfl rfl c37 d_Tr_put_37 (fun H locs hP hD hS => ?_)
    have hP : va_P (dC, dI) vwCl [(h_t, .inr (5, [.ref h_t_kinds, .ref h_t_places, .ref h_t_values, .ref h_t_sizes, .ref h_t_partCounts, .ref h_t_wholes, .int t_count])), (h_t_kinds, .inl (cI, 8001, .inl (upd t_kinds a1.toNatClampNeg a2))), (h_t_places, .inl (cI, 8001, .inl (upd t_places a1.toNatClampNeg a3))), (h_t_values, .inl (cI, 8001, .inl (upd t_values a1.toNatClampNeg a4))), (h_t_sizes, .inl (cI, 8001, .inl (upd t_sizes a1.toNatClampNeg a5))), (h_t_partCounts, .inl (cI, 8001, .inl t_partCounts)), (h_t_wholes, .inl (cI, 8001, .inl t_wholes))] H := hP
    have hD : va_D A [(h_t, .inr (5, [.ref h_t_kinds, .ref h_t_places, .ref h_t_values, .ref h_t_sizes, .ref h_t_partCounts, .ref h_t_wholes, .int t_count])), (h_t_kinds, .inl (cI, 8001, .inl (upd t_kinds a1.toNatClampNeg a2))), (h_t_places, .inl (cI, 8001, .inl (upd t_places a1.toNatClampNeg a3))), (h_t_values, .inl (cI, 8001, .inl (upd t_values a1.toNatClampNeg a4))), (h_t_sizes, .inl (cI, 8001, .inl (upd t_sizes a1.toNatClampNeg a5))), (h_t_partCounts, .inl (cI, 8001, .inl t_partCounts)), (h_t_wholes, .inl (cI, 8001, .inl t_wholes))] := hD
    refine lv_aload_n hx hb d_Tr_put_38 rfl (lv_at hl 0 rfl) ?_
    refine va_get (D := (dC, dI)) (ci := 5) (v := .ref h_t_partCounts) (C := R_Tr) (T := T_Tr) (N := 7) hx hb hts (fun w h => List.mem_cons_of_mem _ (in_Tr w h)) hown hK hP 0 rfl rfl 4 (by decide) (hts _ (List.mem_cons_of_mem _ jw144)) (fun _ h9 => h9) rfl d_Tr_put_39 ?_
    refine lv_iload_n hx hb d_Tr_put_42 rfl (lv_at hl 1 rfl) ?_
    refine lv_iload hx hb d_Tr_put_43 (lv_at hl 6 rfl) ?_
    have c45 : ¬ (a1 < 0 ∨ 8001 ≤ a1.toNatClampNeg) := by intro z; rw [if_pos z] at hf; simp only [jb_none, jl_b_none, jm_none, reduceCtorEq] at hf
    rw [if_neg c45] at hf
    refine va_iast hx hb hK hP hD hS 5 0 rfl rfl c45 d_Tr_put_45 (fun H locs hP hD hS => ?_)
    have hP : va_P (dC, dI) vwCl [(h_t, .inr (5, [.ref h_t_kinds, .ref h_t_places, .ref h_t_values, .ref h_t_sizes, .ref h_t_partCounts, .ref h_t_wholes, .int t_count])), (h_t_kinds, .inl (cI, 8001, .inl (upd t_kinds a1.toNatClampNeg a2))), (h_t_places, .inl (cI, 8001, .inl (upd t_places a1.toNatClampNeg a3))), (h_t_values, .inl (cI, 8001, .inl (upd t_values a1.toNatClampNeg a4))), (h_t_sizes, .inl (cI, 8001, .inl (upd t_sizes a1.toNatClampNeg a5))), (h_t_partCounts, .inl (cI, 8001, .inl (upd t_partCounts a1.toNatClampNeg a6))), (h_t_wholes, .inl (cI, 8001, .inl t_wholes))] H := hP
    have hD : va_D A [(h_t, .inr (5, [.ref h_t_kinds, .ref h_t_places, .ref h_t_values, .ref h_t_sizes, .ref h_t_partCounts, .ref h_t_wholes, .int t_count])), (h_t_kinds, .inl (cI, 8001, .inl (upd t_kinds a1.toNatClampNeg a2))), (h_t_places, .inl (cI, 8001, .inl (upd t_places a1.toNatClampNeg a3))), (h_t_values, .inl (cI, 8001, .inl (upd t_values a1.toNatClampNeg a4))), (h_t_sizes, .inl (cI, 8001, .inl (upd t_sizes a1.toNatClampNeg a5))), (h_t_partCounts, .inl (cI, 8001, .inl (upd t_partCounts a1.toNatClampNeg a6))), (h_t_wholes, .inl (cI, 8001, .inl t_wholes))] := hD
    have hf : (some ((upd t_kinds a1.toNatClampNeg a2), (upd t_places a1.toNatClampNeg a3), (upd t_values a1.toNatClampNeg a4), (upd t_sizes a1.toNatClampNeg a5), (upd t_partCounts a1.toNatClampNeg a6)) : Option ((Nat → Int32) × (Nat → Int32) × (Nat → Int32) × (Nat → Int32) × (Nat → Int32))) = some o := hf
    rw [hQ, ← Option.some.inj hf]
    exact jVret hx hb hr hlocks d_Tr_put_46 (fun _ => 0) hS hP hD
theorem d_Tr_putWhole_0 : decode b_Tr_putWhole 0 = .ok (.aload_n 0, 1) := by decide +kernel
theorem d_Tr_putWhole_1 : decode b_Tr_putWhole 1 = .ok (.iload_n 1, 1) := by decide +kernel
theorem d_Tr_putWhole_2 : decode b_Tr_putWhole 2 = .ok (.invokevirtual 42, 3) := by decide +kernel
theorem d_Tr_putWhole_5 : decode b_Tr_putWhole 5 = .ok (.ifCond .eq 10, 3) := by decide +kernel
theorem d_Tr_putWhole_8 : decode b_Tr_putWhole 8 = .ok (.aload_n 0, 1) := by decide +kernel
theorem d_Tr_putWhole_9 : decode b_Tr_putWhole 9 = .ok (.getfield 27, 3) := by decide +kernel
theorem d_Tr_putWhole_12 : decode b_Tr_putWhole 12 = .ok (.iload_n 1, 1) := by decide +kernel
theorem d_Tr_putWhole_13 : decode b_Tr_putWhole 13 = .ok (.iload_n 2, 1) := by decide +kernel
theorem d_Tr_putWhole_14 : decode b_Tr_putWhole 14 = .ok (.iastore, 1) := by decide +kernel
theorem d_Tr_putWhole_15 : decode b_Tr_putWhole 15 = .ok (.return_, 1) := by decide +kernel
noncomputable def f_Tr_putWhole (t_count : Int32) (t_wholes : (Nat → Int32)) (a1 : Int32) (a2 : Int32) : Option (Nat → Int32) := jb (f_Tr_has t_count a1) (fun o3 => if o3 = 0 then (some t_wholes) else (if a1 < 0 ∨ 8001 ≤ a1.toNatClampNeg then none else (some (upd t_wholes a1.toNatClampNeg a2))))
set_option maxHeartbeats 4000000 in
set_option maxRecDepth 100000 in
theorem c_Tr_putWhole {l : Launch} {dC : Nat → ClassId} {dI : Nat → Nat → Nat} {cI cB cS : ClassId} {adK adV adR : Nat → Nat} (h_t h_t_kinds h_t_places h_t_values h_t_sizes h_t_partCounts h_t_wholes : Nat) (t_kinds : (Nat → Int32)) (t_places : (Nat → Int32)) (t_values : (Nat → Int32)) (t_sizes : (Nat → Int32)) (t_partCounts : (Nat → Int32)) (t_wholes : (Nat → Int32)) (t_count : Int32) (a1 : Int32) (a2 : Int32) {o : (Nat → Int32)} (hf : f_Tr_putWhole t_count t_wholes a1 a2 = some o) : jMet l dC dI cI cB cS adK adV adR y_Tr_putWhole wd_Tr_putWhole { frames := 1, cells := 0, slots := 0, locals := 21 } [.ref h_t, .int a1, .int a2] [(h_t, .inr (5, [.ref h_t_kinds, .ref h_t_places, .ref h_t_values, .ref h_t_sizes, .ref h_t_partCounts, .ref h_t_wholes, .int t_count])), (h_t_kinds, .inl (cI, 8001, .inl t_kinds)), (h_t_places, .inl (cI, 8001, .inl t_places)), (h_t_values, .inl (cI, 8001, .inl t_values)), (h_t_sizes, .inl (cI, 8001, .inl t_sizes)), (h_t_partCounts, .inl (cI, 8001, .inl t_partCounts)), (h_t_wholes, .inl (cI, 8001, .inl t_wholes))] (none) (fun q => [(h_t, .inr (5, [.ref h_t_kinds, .ref h_t_places, .ref h_t_values, .ref h_t_sizes, .ref h_t_partCounts, .ref h_t_wholes, .int t_count])), (h_t_kinds, .inl (cI, 8001, .inl t_kinds)), (h_t_places, .inl (cI, 8001, .inl t_places)), (h_t_values, .inl (cI, 8001, .inl t_values)), (h_t_sizes, .inl (cI, 8001, .inl t_sizes)), (h_t_partCounts, .inl (cI, 8001, .inl t_partCounts)), (h_t_wholes, .inl (cI, 8001, .inl o))]) 0 0 := by
  refine jEntry (cc := b_Tr_putWhole) (maxL := 3) (ret := none) (by decide) rfl (Nat.le_of_ble_eq_true rfl) rfl (fun p e s m args below meth c A H locs ls Q hQ hx hb hr hml hown hts hlocks hnm hJ hA hP hD hS hl => ?_)
  have hK := hJ.K
  have hl : lv_has ls 3 [(0, .ref h_t), (1, .int a1), (2, .int a2)] := hl
  unfold f_Tr_putWhole at hf
  refine lv_aload_n hx hb d_Tr_putWhole_0 rfl (lv_at hl 0 rfl) ?_
  refine lv_iload_n hx hb d_Tr_putWhole_1 rfl (lv_at hl 1 rfl) ?_
  obtain ⟨o5, ho5⟩ : ∃ z, f_Tr_has t_count a1 = some z := by
    cases hz : f_Tr_has t_count a1 with
    | none => rw [hz] at hf; simp only [jb_none, jl_b_none, jm_none, reduceCtorEq] at hf
    | some z => exact ⟨z, rfl⟩
  rw [ho5, jb_some] at hf
  refine jCallV (As := [.int a1]) (rest := []) (wr := []) ⟨hx, hb, hml, hown, hts⟩ hJ (c_Tr_has h_t h_t_kinds h_t_places h_t_values h_t_sizes h_t_partCounts h_t_wholes t_kinds t_places t_values t_sizes t_partCounts t_wholes t_count a1 ho5) (cwV 1 hts (jgV jw151 jw154 jw155 jw153 jw152) rfl rfl rfl dd_Tr_has ⟨Nat.le_of_ble_eq_true rfl, Nat.le_of_ble_eq_true rfl⟩) hP hD hS hA (va_recv hK hP (ci := 5) (q0 := 0) rfl rfl) [0, 1, 2, 3, 4, 5, 6] [] rfl rfl (by decide) (by decide) (by decide) rfl hl.1 rfl (Nat.le_of_ble_eq_true rfl) d_Tr_putWhole_2 ⟨Nat.le_of_ble_eq_true rfl, Nat.le_of_ble_eq_true rfl⟩ (fun qz6 H locs hP hD hS => ?_)
  have hP : va_P (dC, dI) vwCl [(h_t, .inr (5, [.ref h_t_kinds, .ref h_t_places, .ref h_t_values, .ref h_t_sizes, .ref h_t_partCounts, .ref h_t_wholes, .int t_count])), (h_t_kinds, .inl (cI, 8001, .inl t_kinds)), (h_t_places, .inl (cI, 8001, .inl t_places)), (h_t_values, .inl (cI, 8001, .inl t_values)), (h_t_sizes, .inl (cI, 8001, .inl t_sizes)), (h_t_partCounts, .inl (cI, 8001, .inl t_partCounts)), (h_t_wholes, .inl (cI, 8001, .inl t_wholes))] H := hP
  have hD : va_D A [(h_t, .inr (5, [.ref h_t_kinds, .ref h_t_places, .ref h_t_values, .ref h_t_sizes, .ref h_t_partCounts, .ref h_t_wholes, .int t_count])), (h_t_kinds, .inl (cI, 8001, .inl t_kinds)), (h_t_places, .inl (cI, 8001, .inl t_places)), (h_t_values, .inl (cI, 8001, .inl t_values)), (h_t_sizes, .inl (cI, 8001, .inl t_sizes)), (h_t_partCounts, .inl (cI, 8001, .inl t_partCounts)), (h_t_wholes, .inl (cI, 8001, .inl t_wholes))] := hD
  refine lv_if_eq (tgt := 15) hx hb d_Tr_putWhole_5 (by decide) (fun c5 => ?_) (fun c5 => ?_)
  · rw [if_pos c5] at hf
    have hf : (some t_wholes : Option (Nat → Int32)) = some o := hf
    rw [hQ, ← Option.some.inj hf]
    exact jVret hx hb hr hlocks d_Tr_putWhole_15 (fun _ => 0) hS hP hD
  · rw [if_neg c5] at hf
    refine lv_aload_n hx hb d_Tr_putWhole_8 rfl (lv_at hl 0 rfl) ?_
    refine va_get (D := (dC, dI)) (ci := 5) (v := .ref h_t_wholes) (C := R_Tr) (T := T_Tr) (N := 7) hx hb hts (fun w h => List.mem_cons_of_mem _ (in_Tr w h)) hown hK hP 0 rfl rfl 5 (by decide) (hts _ (List.mem_cons_of_mem _ jw145)) (fun _ h9 => h9) rfl d_Tr_putWhole_9 ?_
    refine lv_iload_n hx hb d_Tr_putWhole_12 rfl (lv_at hl 1 rfl) ?_
    refine lv_iload_n hx hb d_Tr_putWhole_13 rfl (lv_at hl 2 rfl) ?_
    have c14 : ¬ (a1 < 0 ∨ 8001 ≤ a1.toNatClampNeg) := by intro z; rw [if_pos z] at hf; simp only [jb_none, jl_b_none, jm_none, reduceCtorEq] at hf
    rw [if_neg c14] at hf
    refine va_iast hx hb hK hP hD hS 6 0 rfl rfl c14 d_Tr_putWhole_14 (fun H locs hP hD hS => ?_)
    have hP : va_P (dC, dI) vwCl [(h_t, .inr (5, [.ref h_t_kinds, .ref h_t_places, .ref h_t_values, .ref h_t_sizes, .ref h_t_partCounts, .ref h_t_wholes, .int t_count])), (h_t_kinds, .inl (cI, 8001, .inl t_kinds)), (h_t_places, .inl (cI, 8001, .inl t_places)), (h_t_values, .inl (cI, 8001, .inl t_values)), (h_t_sizes, .inl (cI, 8001, .inl t_sizes)), (h_t_partCounts, .inl (cI, 8001, .inl t_partCounts)), (h_t_wholes, .inl (cI, 8001, .inl (upd t_wholes a1.toNatClampNeg a2)))] H := hP
    have hD : va_D A [(h_t, .inr (5, [.ref h_t_kinds, .ref h_t_places, .ref h_t_values, .ref h_t_sizes, .ref h_t_partCounts, .ref h_t_wholes, .int t_count])), (h_t_kinds, .inl (cI, 8001, .inl t_kinds)), (h_t_places, .inl (cI, 8001, .inl t_places)), (h_t_values, .inl (cI, 8001, .inl t_values)), (h_t_sizes, .inl (cI, 8001, .inl t_sizes)), (h_t_partCounts, .inl (cI, 8001, .inl t_partCounts)), (h_t_wholes, .inl (cI, 8001, .inl (upd t_wholes a1.toNatClampNeg a2)))] := hD
    have hf : (some (upd t_wholes a1.toNatClampNeg a2) : Option (Nat → Int32)) = some o := hf
    rw [hQ, ← Option.some.inj hf]
    exact jVret hx hb hr hlocks d_Tr_putWhole_15 (fun _ => 0) hS hP hD
theorem d_Tr_kindOf_0 : decode b_Tr_kindOf 0 = .ok (.aload_n 0, 1) := by decide +kernel
theorem d_Tr_kindOf_1 : decode b_Tr_kindOf 1 = .ok (.iload_n 1, 1) := by decide +kernel
theorem d_Tr_kindOf_2 : decode b_Tr_kindOf 2 = .ok (.invokevirtual 42, 3) := by decide +kernel
theorem d_Tr_kindOf_5 : decode b_Tr_kindOf 5 = .ok (.ifCond .eq 12, 3) := by decide +kernel
theorem d_Tr_kindOf_8 : decode b_Tr_kindOf 8 = .ok (.aload_n 0, 1) := by decide +kernel
theorem d_Tr_kindOf_9 : decode b_Tr_kindOf 9 = .ok (.getfield 9, 3) := by decide +kernel
theorem d_Tr_kindOf_12 : decode b_Tr_kindOf 12 = .ok (.iload_n 1, 1) := by decide +kernel
theorem d_Tr_kindOf_13 : decode b_Tr_kindOf 13 = .ok (.iaload, 1) := by decide +kernel
theorem d_Tr_kindOf_14 : decode b_Tr_kindOf 14 = .ok (.goto 4, 3) := by decide +kernel
theorem d_Tr_kindOf_17 : decode b_Tr_kindOf 17 = .ok (.iconst (-1), 1) := by decide +kernel
theorem d_Tr_kindOf_18 : decode b_Tr_kindOf 18 = .ok (.ireturn, 1) := by decide +kernel
noncomputable def f_Tr_kindOf (t_kinds : (Nat → Int32)) (t_count : Int32)  (a1 : Int32) : Option Int32 := jb (f_Tr_has t_count a1) (fun o3 => if o3 = 0 then (some (-1 : Int32)) else (if a1 < 0 ∨ 8001 ≤ a1.toNatClampNeg then none else (some (t_kinds a1.toNatClampNeg))))
set_option maxHeartbeats 4000000 in
set_option maxRecDepth 100000 in
theorem c_Tr_kindOf {l : Launch} {dC : Nat → ClassId} {dI : Nat → Nat → Nat} {cI cB cS : ClassId} {adK adV adR : Nat → Nat} (h_t h_t_kinds h_t_places h_t_values h_t_sizes h_t_partCounts h_t_wholes : Nat) (t_kinds : (Nat → Int32)) (t_places : (Nat → Int32)) (t_values : (Nat → Int32)) (t_sizes : (Nat → Int32)) (t_partCounts : (Nat → Int32)) (t_wholes : (Nat → Int32)) (t_count : Int32) (a1 : Int32) {o : Int32} (hf : f_Tr_kindOf t_kinds t_count a1 = some o) : jMet l dC dI cI cB cS adK adV adR y_Tr_kindOf wd_Tr_kindOf { frames := 1, cells := 0, slots := 0, locals := 21 } [.ref h_t, .int a1] [(h_t, .inr (5, [.ref h_t_kinds, .ref h_t_places, .ref h_t_values, .ref h_t_sizes, .ref h_t_partCounts, .ref h_t_wholes, .int t_count])), (h_t_kinds, .inl (cI, 8001, .inl t_kinds)), (h_t_places, .inl (cI, 8001, .inl t_places)), (h_t_values, .inl (cI, 8001, .inl t_values)), (h_t_sizes, .inl (cI, 8001, .inl t_sizes)), (h_t_partCounts, .inl (cI, 8001, .inl t_partCounts)), (h_t_wholes, .inl (cI, 8001, .inl t_wholes))] (some (.int o)) (fun q => [(h_t, .inr (5, [.ref h_t_kinds, .ref h_t_places, .ref h_t_values, .ref h_t_sizes, .ref h_t_partCounts, .ref h_t_wholes, .int t_count])), (h_t_kinds, .inl (cI, 8001, .inl t_kinds)), (h_t_places, .inl (cI, 8001, .inl t_places)), (h_t_values, .inl (cI, 8001, .inl t_values)), (h_t_sizes, .inl (cI, 8001, .inl t_sizes)), (h_t_partCounts, .inl (cI, 8001, .inl t_partCounts)), (h_t_wholes, .inl (cI, 8001, .inl t_wholes))]) 0 0 := by
  refine jEntry (cc := b_Tr_kindOf) (maxL := 2) (ret := (some .int)) (by decide) rfl (Nat.le_of_ble_eq_true rfl) rfl (fun p e s m args below meth c A H locs ls Q hQ hx hb hr hml hown hts hlocks hnm hJ hA hP hD hS hl => ?_)
  have hK := hJ.K
  have hl : lv_has ls 2 [(0, .ref h_t), (1, .int a1)] := hl
  unfold f_Tr_kindOf at hf
  refine lv_aload_n hx hb d_Tr_kindOf_0 rfl (lv_at hl 0 rfl) ?_
  refine lv_iload_n hx hb d_Tr_kindOf_1 rfl (lv_at hl 1 rfl) ?_
  obtain ⟨o5, ho5⟩ : ∃ z, f_Tr_has t_count a1 = some z := by
    cases hz : f_Tr_has t_count a1 with
    | none => rw [hz] at hf; simp only [jb_none, jl_b_none, jm_none, reduceCtorEq] at hf
    | some z => exact ⟨z, rfl⟩
  rw [ho5, jb_some] at hf
  refine jCallV (As := [.int a1]) (rest := []) (wr := []) ⟨hx, hb, hml, hown, hts⟩ hJ (c_Tr_has h_t h_t_kinds h_t_places h_t_values h_t_sizes h_t_partCounts h_t_wholes t_kinds t_places t_values t_sizes t_partCounts t_wholes t_count a1 ho5) (cwV 1 hts (jgV jw151 jw154 jw155 jw153 jw152) rfl rfl rfl dd_Tr_has ⟨Nat.le_of_ble_eq_true rfl, Nat.le_of_ble_eq_true rfl⟩) hP hD hS hA (va_recv hK hP (ci := 5) (q0 := 0) rfl rfl) [0, 1, 2, 3, 4, 5, 6] [] rfl rfl (by decide) (by decide) (by decide) rfl hl.1 rfl (Nat.le_of_ble_eq_true rfl) d_Tr_kindOf_2 ⟨Nat.le_of_ble_eq_true rfl, Nat.le_of_ble_eq_true rfl⟩ (fun qz6 H locs hP hD hS => ?_)
  have hP : va_P (dC, dI) vwCl [(h_t, .inr (5, [.ref h_t_kinds, .ref h_t_places, .ref h_t_values, .ref h_t_sizes, .ref h_t_partCounts, .ref h_t_wholes, .int t_count])), (h_t_kinds, .inl (cI, 8001, .inl t_kinds)), (h_t_places, .inl (cI, 8001, .inl t_places)), (h_t_values, .inl (cI, 8001, .inl t_values)), (h_t_sizes, .inl (cI, 8001, .inl t_sizes)), (h_t_partCounts, .inl (cI, 8001, .inl t_partCounts)), (h_t_wholes, .inl (cI, 8001, .inl t_wholes))] H := hP
  have hD : va_D A [(h_t, .inr (5, [.ref h_t_kinds, .ref h_t_places, .ref h_t_values, .ref h_t_sizes, .ref h_t_partCounts, .ref h_t_wholes, .int t_count])), (h_t_kinds, .inl (cI, 8001, .inl t_kinds)), (h_t_places, .inl (cI, 8001, .inl t_places)), (h_t_values, .inl (cI, 8001, .inl t_values)), (h_t_sizes, .inl (cI, 8001, .inl t_sizes)), (h_t_partCounts, .inl (cI, 8001, .inl t_partCounts)), (h_t_wholes, .inl (cI, 8001, .inl t_wholes))] := hD
  refine lv_if_eq (tgt := 17) hx hb d_Tr_kindOf_5 (by decide) (fun c5 => ?_) (fun c5 => ?_)
  · rw [if_pos c5] at hf
    refine lv_iconst (v := (-1 : Int32)) hx hb d_Tr_kindOf_17 (by decide) ?_
    have hf : (some (-1 : Int32) : Option Int32) = some o := hf
    rw [hQ, ← Option.some.inj hf]
    exact jIret hx hb hr hlocks d_Tr_kindOf_18 (fun _ => 0) hS hP hD
  · rw [if_neg c5] at hf
    refine lv_aload_n hx hb d_Tr_kindOf_8 rfl (lv_at hl 0 rfl) ?_
    refine va_get (D := (dC, dI)) (ci := 5) (v := .ref h_t_kinds) (C := R_Tr) (T := T_Tr) (N := 7) hx hb hts (fun w h => List.mem_cons_of_mem _ (in_Tr w h)) hown hK hP 0 rfl rfl 0 (by decide) (hts _ (List.mem_cons_of_mem _ jw140)) (fun _ h9 => h9) rfl d_Tr_kindOf_9 ?_
    refine lv_iload_n hx hb d_Tr_kindOf_12 rfl (lv_at hl 1 rfl) ?_
    have c13 : ¬ (a1 < 0 ∨ 8001 ≤ a1.toNatClampNeg) := by intro z; rw [if_pos z] at hf; simp only [jb_none, jl_b_none, jm_none, reduceCtorEq] at hf
    rw [if_neg c13] at hf
    refine va_iald hx hb hK hP 1 0 rfl rfl c13 d_Tr_kindOf_13 ?_
    refine lv_goto (tgt := 18) hx hb d_Tr_kindOf_14 (by decide) ?_
    have hf : (some (t_kinds a1.toNatClampNeg) : Option Int32) = some o := hf
    rw [hQ, ← Option.some.inj hf]
    exact jIret hx hb hr hlocks d_Tr_kindOf_18 (fun _ => 0) hS hP hD
theorem d_Tr_sizeOf_0 : decode b_Tr_sizeOf 0 = .ok (.aload_n 0, 1) := by decide +kernel
theorem d_Tr_sizeOf_1 : decode b_Tr_sizeOf 1 = .ok (.iload_n 1, 1) := by decide +kernel
theorem d_Tr_sizeOf_2 : decode b_Tr_sizeOf 2 = .ok (.invokevirtual 42, 3) := by decide +kernel
theorem d_Tr_sizeOf_5 : decode b_Tr_sizeOf 5 = .ok (.ifCond .eq 12, 3) := by decide +kernel
theorem d_Tr_sizeOf_8 : decode b_Tr_sizeOf 8 = .ok (.aload_n 0, 1) := by decide +kernel
theorem d_Tr_sizeOf_9 : decode b_Tr_sizeOf 9 = .ok (.getfield 21, 3) := by decide +kernel
theorem d_Tr_sizeOf_12 : decode b_Tr_sizeOf 12 = .ok (.iload_n 1, 1) := by decide +kernel
theorem d_Tr_sizeOf_13 : decode b_Tr_sizeOf 13 = .ok (.iaload, 1) := by decide +kernel
theorem d_Tr_sizeOf_14 : decode b_Tr_sizeOf 14 = .ok (.goto 4, 3) := by decide +kernel
theorem d_Tr_sizeOf_17 : decode b_Tr_sizeOf 17 = .ok (.iconst (-1), 1) := by decide +kernel
theorem d_Tr_sizeOf_18 : decode b_Tr_sizeOf 18 = .ok (.ireturn, 1) := by decide +kernel
noncomputable def f_Tr_sizeOf (t_sizes : (Nat → Int32)) (t_count : Int32)  (a1 : Int32) : Option Int32 := jb (f_Tr_has t_count a1) (fun o3 => if o3 = 0 then (some (-1 : Int32)) else (if a1 < 0 ∨ 8001 ≤ a1.toNatClampNeg then none else (some (t_sizes a1.toNatClampNeg))))
set_option maxHeartbeats 4000000 in
set_option maxRecDepth 100000 in
theorem c_Tr_sizeOf {l : Launch} {dC : Nat → ClassId} {dI : Nat → Nat → Nat} {cI cB cS : ClassId} {adK adV adR : Nat → Nat} (h_t h_t_kinds h_t_places h_t_values h_t_sizes h_t_partCounts h_t_wholes : Nat) (t_kinds : (Nat → Int32)) (t_places : (Nat → Int32)) (t_values : (Nat → Int32)) (t_sizes : (Nat → Int32)) (t_partCounts : (Nat → Int32)) (t_wholes : (Nat → Int32)) (t_count : Int32) (a1 : Int32) {o : Int32} (hf : f_Tr_sizeOf t_sizes t_count a1 = some o) : jMet l dC dI cI cB cS adK adV adR y_Tr_sizeOf wd_Tr_sizeOf { frames := 1, cells := 0, slots := 0, locals := 21 } [.ref h_t, .int a1] [(h_t, .inr (5, [.ref h_t_kinds, .ref h_t_places, .ref h_t_values, .ref h_t_sizes, .ref h_t_partCounts, .ref h_t_wholes, .int t_count])), (h_t_kinds, .inl (cI, 8001, .inl t_kinds)), (h_t_places, .inl (cI, 8001, .inl t_places)), (h_t_values, .inl (cI, 8001, .inl t_values)), (h_t_sizes, .inl (cI, 8001, .inl t_sizes)), (h_t_partCounts, .inl (cI, 8001, .inl t_partCounts)), (h_t_wholes, .inl (cI, 8001, .inl t_wholes))] (some (.int o)) (fun q => [(h_t, .inr (5, [.ref h_t_kinds, .ref h_t_places, .ref h_t_values, .ref h_t_sizes, .ref h_t_partCounts, .ref h_t_wholes, .int t_count])), (h_t_kinds, .inl (cI, 8001, .inl t_kinds)), (h_t_places, .inl (cI, 8001, .inl t_places)), (h_t_values, .inl (cI, 8001, .inl t_values)), (h_t_sizes, .inl (cI, 8001, .inl t_sizes)), (h_t_partCounts, .inl (cI, 8001, .inl t_partCounts)), (h_t_wholes, .inl (cI, 8001, .inl t_wholes))]) 0 0 := by
  refine jEntry (cc := b_Tr_sizeOf) (maxL := 2) (ret := (some .int)) (by decide) rfl (Nat.le_of_ble_eq_true rfl) rfl (fun p e s m args below meth c A H locs ls Q hQ hx hb hr hml hown hts hlocks hnm hJ hA hP hD hS hl => ?_)
  have hK := hJ.K
  have hl : lv_has ls 2 [(0, .ref h_t), (1, .int a1)] := hl
  unfold f_Tr_sizeOf at hf
  refine lv_aload_n hx hb d_Tr_sizeOf_0 rfl (lv_at hl 0 rfl) ?_
  refine lv_iload_n hx hb d_Tr_sizeOf_1 rfl (lv_at hl 1 rfl) ?_
  obtain ⟨o5, ho5⟩ : ∃ z, f_Tr_has t_count a1 = some z := by
    cases hz : f_Tr_has t_count a1 with
    | none => rw [hz] at hf; simp only [jb_none, jl_b_none, jm_none, reduceCtorEq] at hf
    | some z => exact ⟨z, rfl⟩
  rw [ho5, jb_some] at hf
  refine jCallV (As := [.int a1]) (rest := []) (wr := []) ⟨hx, hb, hml, hown, hts⟩ hJ (c_Tr_has h_t h_t_kinds h_t_places h_t_values h_t_sizes h_t_partCounts h_t_wholes t_kinds t_places t_values t_sizes t_partCounts t_wholes t_count a1 ho5) (cwV 1 hts (jgV jw151 jw154 jw155 jw153 jw152) rfl rfl rfl dd_Tr_has ⟨Nat.le_of_ble_eq_true rfl, Nat.le_of_ble_eq_true rfl⟩) hP hD hS hA (va_recv hK hP (ci := 5) (q0 := 0) rfl rfl) [0, 1, 2, 3, 4, 5, 6] [] rfl rfl (by decide) (by decide) (by decide) rfl hl.1 rfl (Nat.le_of_ble_eq_true rfl) d_Tr_sizeOf_2 ⟨Nat.le_of_ble_eq_true rfl, Nat.le_of_ble_eq_true rfl⟩ (fun qz6 H locs hP hD hS => ?_)
  have hP : va_P (dC, dI) vwCl [(h_t, .inr (5, [.ref h_t_kinds, .ref h_t_places, .ref h_t_values, .ref h_t_sizes, .ref h_t_partCounts, .ref h_t_wholes, .int t_count])), (h_t_kinds, .inl (cI, 8001, .inl t_kinds)), (h_t_places, .inl (cI, 8001, .inl t_places)), (h_t_values, .inl (cI, 8001, .inl t_values)), (h_t_sizes, .inl (cI, 8001, .inl t_sizes)), (h_t_partCounts, .inl (cI, 8001, .inl t_partCounts)), (h_t_wholes, .inl (cI, 8001, .inl t_wholes))] H := hP
  have hD : va_D A [(h_t, .inr (5, [.ref h_t_kinds, .ref h_t_places, .ref h_t_values, .ref h_t_sizes, .ref h_t_partCounts, .ref h_t_wholes, .int t_count])), (h_t_kinds, .inl (cI, 8001, .inl t_kinds)), (h_t_places, .inl (cI, 8001, .inl t_places)), (h_t_values, .inl (cI, 8001, .inl t_values)), (h_t_sizes, .inl (cI, 8001, .inl t_sizes)), (h_t_partCounts, .inl (cI, 8001, .inl t_partCounts)), (h_t_wholes, .inl (cI, 8001, .inl t_wholes))] := hD
  refine lv_if_eq (tgt := 17) hx hb d_Tr_sizeOf_5 (by decide) (fun c5 => ?_) (fun c5 => ?_)
  · rw [if_pos c5] at hf
    refine lv_iconst (v := (-1 : Int32)) hx hb d_Tr_sizeOf_17 (by decide) ?_
    have hf : (some (-1 : Int32) : Option Int32) = some o := hf
    rw [hQ, ← Option.some.inj hf]
    exact jIret hx hb hr hlocks d_Tr_sizeOf_18 (fun _ => 0) hS hP hD
  · rw [if_neg c5] at hf
    refine lv_aload_n hx hb d_Tr_sizeOf_8 rfl (lv_at hl 0 rfl) ?_
    refine va_get (D := (dC, dI)) (ci := 5) (v := .ref h_t_sizes) (C := R_Tr) (T := T_Tr) (N := 7) hx hb hts (fun w h => List.mem_cons_of_mem _ (in_Tr w h)) hown hK hP 0 rfl rfl 3 (by decide) (hts _ (List.mem_cons_of_mem _ jw143)) (fun _ h9 => h9) rfl d_Tr_sizeOf_9 ?_
    refine lv_iload_n hx hb d_Tr_sizeOf_12 rfl (lv_at hl 1 rfl) ?_
    have c13 : ¬ (a1 < 0 ∨ 8001 ≤ a1.toNatClampNeg) := by intro z; rw [if_pos z] at hf; simp only [jb_none, jl_b_none, jm_none, reduceCtorEq] at hf
    rw [if_neg c13] at hf
    refine va_iald hx hb hK hP 4 0 rfl rfl c13 d_Tr_sizeOf_13 ?_
    refine lv_goto (tgt := 18) hx hb d_Tr_sizeOf_14 (by decide) ?_
    have hf : (some (t_sizes a1.toNatClampNeg) : Option Int32) = some o := hf
    rw [hQ, ← Option.some.inj hf]
    exact jIret hx hb hr hlocks d_Tr_sizeOf_18 (fun _ => 0) hS hP hD
theorem d_Tr_wholeOf_0 : decode b_Tr_wholeOf 0 = .ok (.aload_n 0, 1) := by decide +kernel
theorem d_Tr_wholeOf_1 : decode b_Tr_wholeOf 1 = .ok (.iload_n 1, 1) := by decide +kernel
theorem d_Tr_wholeOf_2 : decode b_Tr_wholeOf 2 = .ok (.invokevirtual 42, 3) := by decide +kernel
theorem d_Tr_wholeOf_5 : decode b_Tr_wholeOf 5 = .ok (.ifCond .eq 12, 3) := by decide +kernel
theorem d_Tr_wholeOf_8 : decode b_Tr_wholeOf 8 = .ok (.aload_n 0, 1) := by decide +kernel
theorem d_Tr_wholeOf_9 : decode b_Tr_wholeOf 9 = .ok (.getfield 27, 3) := by decide +kernel
theorem d_Tr_wholeOf_12 : decode b_Tr_wholeOf 12 = .ok (.iload_n 1, 1) := by decide +kernel
theorem d_Tr_wholeOf_13 : decode b_Tr_wholeOf 13 = .ok (.iaload, 1) := by decide +kernel
theorem d_Tr_wholeOf_14 : decode b_Tr_wholeOf 14 = .ok (.goto 4, 3) := by decide +kernel
theorem d_Tr_wholeOf_17 : decode b_Tr_wholeOf 17 = .ok (.iconst (-1), 1) := by decide +kernel
theorem d_Tr_wholeOf_18 : decode b_Tr_wholeOf 18 = .ok (.ireturn, 1) := by decide +kernel
noncomputable def f_Tr_wholeOf (t_wholes : (Nat → Int32)) (t_count : Int32)  (a1 : Int32) : Option Int32 := jb (f_Tr_has t_count a1) (fun o3 => if o3 = 0 then (some (-1 : Int32)) else (if a1 < 0 ∨ 8001 ≤ a1.toNatClampNeg then none else (some (t_wholes a1.toNatClampNeg))))
set_option maxHeartbeats 4000000 in
set_option maxRecDepth 100000 in
theorem c_Tr_wholeOf {l : Launch} {dC : Nat → ClassId} {dI : Nat → Nat → Nat} {cI cB cS : ClassId} {adK adV adR : Nat → Nat} (h_t h_t_kinds h_t_places h_t_values h_t_sizes h_t_partCounts h_t_wholes : Nat) (t_kinds : (Nat → Int32)) (t_places : (Nat → Int32)) (t_values : (Nat → Int32)) (t_sizes : (Nat → Int32)) (t_partCounts : (Nat → Int32)) (t_wholes : (Nat → Int32)) (t_count : Int32) (a1 : Int32) {o : Int32} (hf : f_Tr_wholeOf t_wholes t_count a1 = some o) : jMet l dC dI cI cB cS adK adV adR y_Tr_wholeOf wd_Tr_wholeOf { frames := 1, cells := 0, slots := 0, locals := 21 } [.ref h_t, .int a1] [(h_t, .inr (5, [.ref h_t_kinds, .ref h_t_places, .ref h_t_values, .ref h_t_sizes, .ref h_t_partCounts, .ref h_t_wholes, .int t_count])), (h_t_kinds, .inl (cI, 8001, .inl t_kinds)), (h_t_places, .inl (cI, 8001, .inl t_places)), (h_t_values, .inl (cI, 8001, .inl t_values)), (h_t_sizes, .inl (cI, 8001, .inl t_sizes)), (h_t_partCounts, .inl (cI, 8001, .inl t_partCounts)), (h_t_wholes, .inl (cI, 8001, .inl t_wholes))] (some (.int o)) (fun q => [(h_t, .inr (5, [.ref h_t_kinds, .ref h_t_places, .ref h_t_values, .ref h_t_sizes, .ref h_t_partCounts, .ref h_t_wholes, .int t_count])), (h_t_kinds, .inl (cI, 8001, .inl t_kinds)), (h_t_places, .inl (cI, 8001, .inl t_places)), (h_t_values, .inl (cI, 8001, .inl t_values)), (h_t_sizes, .inl (cI, 8001, .inl t_sizes)), (h_t_partCounts, .inl (cI, 8001, .inl t_partCounts)), (h_t_wholes, .inl (cI, 8001, .inl t_wholes))]) 0 0 := by
  refine jEntry (cc := b_Tr_wholeOf) (maxL := 2) (ret := (some .int)) (by decide) rfl (Nat.le_of_ble_eq_true rfl) rfl (fun p e s m args below meth c A H locs ls Q hQ hx hb hr hml hown hts hlocks hnm hJ hA hP hD hS hl => ?_)
  have hK := hJ.K
  have hl : lv_has ls 2 [(0, .ref h_t), (1, .int a1)] := hl
  unfold f_Tr_wholeOf at hf
  refine lv_aload_n hx hb d_Tr_wholeOf_0 rfl (lv_at hl 0 rfl) ?_
  refine lv_iload_n hx hb d_Tr_wholeOf_1 rfl (lv_at hl 1 rfl) ?_
  obtain ⟨o5, ho5⟩ : ∃ z, f_Tr_has t_count a1 = some z := by
    cases hz : f_Tr_has t_count a1 with
    | none => rw [hz] at hf; simp only [jb_none, jl_b_none, jm_none, reduceCtorEq] at hf
    | some z => exact ⟨z, rfl⟩
  rw [ho5, jb_some] at hf
  refine jCallV (As := [.int a1]) (rest := []) (wr := []) ⟨hx, hb, hml, hown, hts⟩ hJ (c_Tr_has h_t h_t_kinds h_t_places h_t_values h_t_sizes h_t_partCounts h_t_wholes t_kinds t_places t_values t_sizes t_partCounts t_wholes t_count a1 ho5) (cwV 1 hts (jgV jw151 jw154 jw155 jw153 jw152) rfl rfl rfl dd_Tr_has ⟨Nat.le_of_ble_eq_true rfl, Nat.le_of_ble_eq_true rfl⟩) hP hD hS hA (va_recv hK hP (ci := 5) (q0 := 0) rfl rfl) [0, 1, 2, 3, 4, 5, 6] [] rfl rfl (by decide) (by decide) (by decide) rfl hl.1 rfl (Nat.le_of_ble_eq_true rfl) d_Tr_wholeOf_2 ⟨Nat.le_of_ble_eq_true rfl, Nat.le_of_ble_eq_true rfl⟩ (fun qz6 H locs hP hD hS => ?_)
  have hP : va_P (dC, dI) vwCl [(h_t, .inr (5, [.ref h_t_kinds, .ref h_t_places, .ref h_t_values, .ref h_t_sizes, .ref h_t_partCounts, .ref h_t_wholes, .int t_count])), (h_t_kinds, .inl (cI, 8001, .inl t_kinds)), (h_t_places, .inl (cI, 8001, .inl t_places)), (h_t_values, .inl (cI, 8001, .inl t_values)), (h_t_sizes, .inl (cI, 8001, .inl t_sizes)), (h_t_partCounts, .inl (cI, 8001, .inl t_partCounts)), (h_t_wholes, .inl (cI, 8001, .inl t_wholes))] H := hP
  have hD : va_D A [(h_t, .inr (5, [.ref h_t_kinds, .ref h_t_places, .ref h_t_values, .ref h_t_sizes, .ref h_t_partCounts, .ref h_t_wholes, .int t_count])), (h_t_kinds, .inl (cI, 8001, .inl t_kinds)), (h_t_places, .inl (cI, 8001, .inl t_places)), (h_t_values, .inl (cI, 8001, .inl t_values)), (h_t_sizes, .inl (cI, 8001, .inl t_sizes)), (h_t_partCounts, .inl (cI, 8001, .inl t_partCounts)), (h_t_wholes, .inl (cI, 8001, .inl t_wholes))] := hD
  refine lv_if_eq (tgt := 17) hx hb d_Tr_wholeOf_5 (by decide) (fun c5 => ?_) (fun c5 => ?_)
  · rw [if_pos c5] at hf
    refine lv_iconst (v := (-1 : Int32)) hx hb d_Tr_wholeOf_17 (by decide) ?_
    have hf : (some (-1 : Int32) : Option Int32) = some o := hf
    rw [hQ, ← Option.some.inj hf]
    exact jIret hx hb hr hlocks d_Tr_wholeOf_18 (fun _ => 0) hS hP hD
  · rw [if_neg c5] at hf
    refine lv_aload_n hx hb d_Tr_wholeOf_8 rfl (lv_at hl 0 rfl) ?_
    refine va_get (D := (dC, dI)) (ci := 5) (v := .ref h_t_wholes) (C := R_Tr) (T := T_Tr) (N := 7) hx hb hts (fun w h => List.mem_cons_of_mem _ (in_Tr w h)) hown hK hP 0 rfl rfl 5 (by decide) (hts _ (List.mem_cons_of_mem _ jw145)) (fun _ h9 => h9) rfl d_Tr_wholeOf_9 ?_
    refine lv_iload_n hx hb d_Tr_wholeOf_12 rfl (lv_at hl 1 rfl) ?_
    have c13 : ¬ (a1 < 0 ∨ 8001 ≤ a1.toNatClampNeg) := by intro z; rw [if_pos z] at hf; simp only [jb_none, jl_b_none, jm_none, reduceCtorEq] at hf
    rw [if_neg c13] at hf
    refine va_iald hx hb hK hP 6 0 rfl rfl c13 d_Tr_wholeOf_13 ?_
    refine lv_goto (tgt := 18) hx hb d_Tr_wholeOf_14 (by decide) ?_
    have hf : (some (t_wholes a1.toNatClampNeg) : Option Int32) = some o := hf
    rw [hQ, ← Option.some.inj hf]
    exact jIret hx hb hr hlocks d_Tr_wholeOf_18 (fun _ => 0) hS hP hD
theorem d_Tr_tell_0 : decode b_Tr_tell 0 = .ok (.aload_n 0, 1) := by decide +kernel
theorem d_Tr_tell_1 : decode b_Tr_tell 1 = .ok (.iload_n 1, 1) := by decide +kernel
theorem d_Tr_tell_2 : decode b_Tr_tell 2 = .ok (.invokevirtual 42, 3) := by decide +kernel
theorem d_Tr_tell_5 : decode b_Tr_tell 5 = .ok (.ifCond .ne 5, 3) := by decide +kernel
theorem d_Tr_tell_8 : decode b_Tr_tell 8 = .ok (.iconst (-1), 1) := by decide +kernel
theorem d_Tr_tell_9 : decode b_Tr_tell 9 = .ok (.ireturn, 1) := by decide +kernel
theorem d_Tr_tell_10 : decode b_Tr_tell 10 = .ok (.iload_n 2, 1) := by decide +kernel
theorem d_Tr_tell_11 : decode b_Tr_tell 11 = .ok (.tableswitch 68 0 4 #[33, 40, 47, 54, 61], 33) := by decide +kernel
theorem d_Tr_tell_44 : decode b_Tr_tell 44 = .ok (.aload_n 0, 1) := by decide +kernel
theorem d_Tr_tell_45 : decode b_Tr_tell 45 = .ok (.getfield 9, 3) := by decide +kernel
theorem d_Tr_tell_48 : decode b_Tr_tell 48 = .ok (.iload_n 1, 1) := by decide +kernel
theorem d_Tr_tell_49 : decode b_Tr_tell 49 = .ok (.iaload, 1) := by decide +kernel
theorem d_Tr_tell_50 : decode b_Tr_tell 50 = .ok (.ireturn, 1) := by decide +kernel
theorem d_Tr_tell_51 : decode b_Tr_tell 51 = .ok (.aload_n 0, 1) := by decide +kernel
theorem d_Tr_tell_52 : decode b_Tr_tell 52 = .ok (.getfield 15, 3) := by decide +kernel
theorem d_Tr_tell_55 : decode b_Tr_tell 55 = .ok (.iload_n 1, 1) := by decide +kernel
theorem d_Tr_tell_56 : decode b_Tr_tell 56 = .ok (.iaload, 1) := by decide +kernel
theorem d_Tr_tell_57 : decode b_Tr_tell 57 = .ok (.ireturn, 1) := by decide +kernel
theorem d_Tr_tell_58 : decode b_Tr_tell 58 = .ok (.aload_n 0, 1) := by decide +kernel
theorem d_Tr_tell_59 : decode b_Tr_tell 59 = .ok (.getfield 18, 3) := by decide +kernel
theorem d_Tr_tell_62 : decode b_Tr_tell 62 = .ok (.iload_n 1, 1) := by decide +kernel
theorem d_Tr_tell_63 : decode b_Tr_tell 63 = .ok (.iaload, 1) := by decide +kernel
theorem d_Tr_tell_64 : decode b_Tr_tell 64 = .ok (.ireturn, 1) := by decide +kernel
theorem d_Tr_tell_65 : decode b_Tr_tell 65 = .ok (.aload_n 0, 1) := by decide +kernel
theorem d_Tr_tell_66 : decode b_Tr_tell 66 = .ok (.getfield 21, 3) := by decide +kernel
theorem d_Tr_tell_69 : decode b_Tr_tell 69 = .ok (.iload_n 1, 1) := by decide +kernel
theorem d_Tr_tell_70 : decode b_Tr_tell 70 = .ok (.iaload, 1) := by decide +kernel
theorem d_Tr_tell_71 : decode b_Tr_tell 71 = .ok (.ireturn, 1) := by decide +kernel
theorem d_Tr_tell_72 : decode b_Tr_tell 72 = .ok (.aload_n 0, 1) := by decide +kernel
theorem d_Tr_tell_73 : decode b_Tr_tell 73 = .ok (.getfield 24, 3) := by decide +kernel
theorem d_Tr_tell_76 : decode b_Tr_tell 76 = .ok (.iload_n 1, 1) := by decide +kernel
theorem d_Tr_tell_77 : decode b_Tr_tell 77 = .ok (.iaload, 1) := by decide +kernel
theorem d_Tr_tell_78 : decode b_Tr_tell 78 = .ok (.ireturn, 1) := by decide +kernel
theorem d_Tr_tell_79 : decode b_Tr_tell 79 = .ok (.iconst (-1), 1) := by decide +kernel
theorem d_Tr_tell_80 : decode b_Tr_tell 80 = .ok (.ireturn, 1) := by decide +kernel
noncomputable def f_Tr_tell (t_kinds : (Nat → Int32)) (t_places : (Nat → Int32)) (t_values : (Nat → Int32)) (t_sizes : (Nat → Int32)) (t_partCounts : (Nat → Int32)) (t_count : Int32)  (a1 : Int32) (a2 : Int32) : Option Int32 := jb (f_Tr_has t_count a1) (fun o3 => if o3 = 0 then (some (-1 : Int32)) else (if a2 = (0 : Int32) then (if a1 < 0 ∨ 8001 ≤ a1.toNatClampNeg then none else (some (t_kinds a1.toNatClampNeg))) else if a2 = (1 : Int32) then (if a1 < 0 ∨ 8001 ≤ a1.toNatClampNeg then none else (some (t_places a1.toNatClampNeg))) else if a2 = (2 : Int32) then (if a1 < 0 ∨ 8001 ≤ a1.toNatClampNeg then none else (some (t_values a1.toNatClampNeg))) else if a2 = (3 : Int32) then (if a1 < 0 ∨ 8001 ≤ a1.toNatClampNeg then none else (some (t_sizes a1.toNatClampNeg))) else if a2 = (4 : Int32) then (if a1 < 0 ∨ 8001 ≤ a1.toNatClampNeg then none else (some (t_partCounts a1.toNatClampNeg))) else (some (-1 : Int32))))
set_option maxHeartbeats 4000000 in
set_option maxRecDepth 100000 in
theorem c_Tr_tell {l : Launch} {dC : Nat → ClassId} {dI : Nat → Nat → Nat} {cI cB cS : ClassId} {adK adV adR : Nat → Nat} (h_t h_t_kinds h_t_places h_t_values h_t_sizes h_t_partCounts h_t_wholes : Nat) (t_kinds : (Nat → Int32)) (t_places : (Nat → Int32)) (t_values : (Nat → Int32)) (t_sizes : (Nat → Int32)) (t_partCounts : (Nat → Int32)) (t_wholes : (Nat → Int32)) (t_count : Int32) (a1 : Int32) (a2 : Int32) {o : Int32} (hf : f_Tr_tell t_kinds t_places t_values t_sizes t_partCounts t_count a1 a2 = some o) : jMet l dC dI cI cB cS adK adV adR y_Tr_tell wd_Tr_tell { frames := 1, cells := 0, slots := 0, locals := 21 } [.ref h_t, .int a1, .int a2] [(h_t, .inr (5, [.ref h_t_kinds, .ref h_t_places, .ref h_t_values, .ref h_t_sizes, .ref h_t_partCounts, .ref h_t_wholes, .int t_count])), (h_t_kinds, .inl (cI, 8001, .inl t_kinds)), (h_t_places, .inl (cI, 8001, .inl t_places)), (h_t_values, .inl (cI, 8001, .inl t_values)), (h_t_sizes, .inl (cI, 8001, .inl t_sizes)), (h_t_partCounts, .inl (cI, 8001, .inl t_partCounts)), (h_t_wholes, .inl (cI, 8001, .inl t_wholes))] (some (.int o)) (fun q => [(h_t, .inr (5, [.ref h_t_kinds, .ref h_t_places, .ref h_t_values, .ref h_t_sizes, .ref h_t_partCounts, .ref h_t_wholes, .int t_count])), (h_t_kinds, .inl (cI, 8001, .inl t_kinds)), (h_t_places, .inl (cI, 8001, .inl t_places)), (h_t_values, .inl (cI, 8001, .inl t_values)), (h_t_sizes, .inl (cI, 8001, .inl t_sizes)), (h_t_partCounts, .inl (cI, 8001, .inl t_partCounts)), (h_t_wholes, .inl (cI, 8001, .inl t_wholes))]) 0 0 := by
  refine jEntry (cc := b_Tr_tell) (maxL := 3) (ret := (some .int)) (by decide) rfl (Nat.le_of_ble_eq_true rfl) rfl (fun p e s m args below meth c A H locs ls Q hQ hx hb hr hml hown hts hlocks hnm hJ hA hP hD hS hl => ?_)
  have hK := hJ.K
  have hl : lv_has ls 3 [(0, .ref h_t), (1, .int a1), (2, .int a2)] := hl
  unfold f_Tr_tell at hf
  refine lv_aload_n hx hb d_Tr_tell_0 rfl (lv_at hl 0 rfl) ?_
  refine lv_iload_n hx hb d_Tr_tell_1 rfl (lv_at hl 1 rfl) ?_
  obtain ⟨o5, ho5⟩ : ∃ z, f_Tr_has t_count a1 = some z := by
    cases hz : f_Tr_has t_count a1 with
    | none => rw [hz] at hf; simp only [jb_none, jl_b_none, jm_none, reduceCtorEq] at hf
    | some z => exact ⟨z, rfl⟩
  rw [ho5, jb_some] at hf
  refine jCallV (As := [.int a1]) (rest := []) (wr := []) ⟨hx, hb, hml, hown, hts⟩ hJ (c_Tr_has h_t h_t_kinds h_t_places h_t_values h_t_sizes h_t_partCounts h_t_wholes t_kinds t_places t_values t_sizes t_partCounts t_wholes t_count a1 ho5) (cwV 1 hts (jgV jw151 jw154 jw155 jw153 jw152) rfl rfl rfl dd_Tr_has ⟨Nat.le_of_ble_eq_true rfl, Nat.le_of_ble_eq_true rfl⟩) hP hD hS hA (va_recv hK hP (ci := 5) (q0 := 0) rfl rfl) [0, 1, 2, 3, 4, 5, 6] [] rfl rfl (by decide) (by decide) (by decide) rfl hl.1 rfl (Nat.le_of_ble_eq_true rfl) d_Tr_tell_2 ⟨Nat.le_of_ble_eq_true rfl, Nat.le_of_ble_eq_true rfl⟩ (fun qz6 H locs hP hD hS => ?_)
  have hP : va_P (dC, dI) vwCl [(h_t, .inr (5, [.ref h_t_kinds, .ref h_t_places, .ref h_t_values, .ref h_t_sizes, .ref h_t_partCounts, .ref h_t_wholes, .int t_count])), (h_t_kinds, .inl (cI, 8001, .inl t_kinds)), (h_t_places, .inl (cI, 8001, .inl t_places)), (h_t_values, .inl (cI, 8001, .inl t_values)), (h_t_sizes, .inl (cI, 8001, .inl t_sizes)), (h_t_partCounts, .inl (cI, 8001, .inl t_partCounts)), (h_t_wholes, .inl (cI, 8001, .inl t_wholes))] H := hP
  have hD : va_D A [(h_t, .inr (5, [.ref h_t_kinds, .ref h_t_places, .ref h_t_values, .ref h_t_sizes, .ref h_t_partCounts, .ref h_t_wholes, .int t_count])), (h_t_kinds, .inl (cI, 8001, .inl t_kinds)), (h_t_places, .inl (cI, 8001, .inl t_places)), (h_t_values, .inl (cI, 8001, .inl t_values)), (h_t_sizes, .inl (cI, 8001, .inl t_sizes)), (h_t_partCounts, .inl (cI, 8001, .inl t_partCounts)), (h_t_wholes, .inl (cI, 8001, .inl t_wholes))] := hD
  refine lv_if_ne (tgt := 10) hx hb d_Tr_tell_5 (by decide) (fun c5 => ?_) (fun c5 => ?_)
  · rw [if_neg c5] at hf
    refine lv_iload_n hx hb d_Tr_tell_10 rfl (lv_at hl 2 rfl) ?_
    by_cases c11_0 : a2 = (0 : Int32)
    · rw [if_pos c11_0] at hf
      refine lv_tableIn (off := 33) (tgt := 44) hx hb d_Tr_tell_11 (by rw [c11_0]; decide) (by rw [c11_0]; decide) (by rw [c11_0]; decide) (by decide) ?_
      refine lv_aload_n hx hb d_Tr_tell_44 rfl (lv_at hl 0 rfl) ?_
      refine va_get (D := (dC, dI)) (ci := 5) (v := .ref h_t_kinds) (C := R_Tr) (T := T_Tr) (N := 7) hx hb hts (fun w h => List.mem_cons_of_mem _ (in_Tr w h)) hown hK hP 0 rfl rfl 0 (by decide) (hts _ (List.mem_cons_of_mem _ jw140)) (fun _ h9 => h9) rfl d_Tr_tell_45 ?_
      refine lv_iload_n hx hb d_Tr_tell_48 rfl (lv_at hl 1 rfl) ?_
      have c49 : ¬ (a1 < 0 ∨ 8001 ≤ a1.toNatClampNeg) := by intro z; rw [if_pos z] at hf; simp only [jb_none, jl_b_none, jm_none, reduceCtorEq] at hf
      rw [if_neg c49] at hf
      refine va_iald hx hb hK hP 1 0 rfl rfl c49 d_Tr_tell_49 ?_
      have hf : (some (t_kinds a1.toNatClampNeg) : Option Int32) = some o := hf
      rw [hQ, ← Option.some.inj hf]
      exact jIret hx hb hr hlocks d_Tr_tell_50 (fun _ => 0) hS hP hD
    · rw [if_neg c11_0] at hf
      by_cases c11_1 : a2 = (1 : Int32)
      · rw [if_pos c11_1] at hf
        refine lv_tableIn (off := 40) (tgt := 51) hx hb d_Tr_tell_11 (by rw [c11_1]; decide) (by rw [c11_1]; decide) (by rw [c11_1]; decide) (by decide) ?_
        refine lv_aload_n hx hb d_Tr_tell_51 rfl (lv_at hl 0 rfl) ?_
        refine va_get (D := (dC, dI)) (ci := 5) (v := .ref h_t_places) (C := R_Tr) (T := T_Tr) (N := 7) hx hb hts (fun w h => List.mem_cons_of_mem _ (in_Tr w h)) hown hK hP 0 rfl rfl 1 (by decide) (hts _ (List.mem_cons_of_mem _ jw141)) (fun _ h9 => h9) rfl d_Tr_tell_52 ?_
        refine lv_iload_n hx hb d_Tr_tell_55 rfl (lv_at hl 1 rfl) ?_
        have c56 : ¬ (a1 < 0 ∨ 8001 ≤ a1.toNatClampNeg) := by intro z; rw [if_pos z] at hf; simp only [jb_none, jl_b_none, jm_none, reduceCtorEq] at hf
        rw [if_neg c56] at hf
        refine va_iald hx hb hK hP 2 0 rfl rfl c56 d_Tr_tell_56 ?_
        have hf : (some (t_places a1.toNatClampNeg) : Option Int32) = some o := hf
        rw [hQ, ← Option.some.inj hf]
        exact jIret hx hb hr hlocks d_Tr_tell_57 (fun _ => 0) hS hP hD
      · rw [if_neg c11_1] at hf
        by_cases c11_2 : a2 = (2 : Int32)
        · rw [if_pos c11_2] at hf
          refine lv_tableIn (off := 47) (tgt := 58) hx hb d_Tr_tell_11 (by rw [c11_2]; decide) (by rw [c11_2]; decide) (by rw [c11_2]; decide) (by decide) ?_
          refine lv_aload_n hx hb d_Tr_tell_58 rfl (lv_at hl 0 rfl) ?_
          refine va_get (D := (dC, dI)) (ci := 5) (v := .ref h_t_values) (C := R_Tr) (T := T_Tr) (N := 7) hx hb hts (fun w h => List.mem_cons_of_mem _ (in_Tr w h)) hown hK hP 0 rfl rfl 2 (by decide) (hts _ (List.mem_cons_of_mem _ jw142)) (fun _ h9 => h9) rfl d_Tr_tell_59 ?_
          refine lv_iload_n hx hb d_Tr_tell_62 rfl (lv_at hl 1 rfl) ?_
          have c63 : ¬ (a1 < 0 ∨ 8001 ≤ a1.toNatClampNeg) := by intro z; rw [if_pos z] at hf; simp only [jb_none, jl_b_none, jm_none, reduceCtorEq] at hf
          rw [if_neg c63] at hf
          refine va_iald hx hb hK hP 3 0 rfl rfl c63 d_Tr_tell_63 ?_
          have hf : (some (t_values a1.toNatClampNeg) : Option Int32) = some o := hf
          rw [hQ, ← Option.some.inj hf]
          exact jIret hx hb hr hlocks d_Tr_tell_64 (fun _ => 0) hS hP hD
        · rw [if_neg c11_2] at hf
          by_cases c11_3 : a2 = (3 : Int32)
          · rw [if_pos c11_3] at hf
            refine lv_tableIn (off := 54) (tgt := 65) hx hb d_Tr_tell_11 (by rw [c11_3]; decide) (by rw [c11_3]; decide) (by rw [c11_3]; decide) (by decide) ?_
            refine lv_aload_n hx hb d_Tr_tell_65 rfl (lv_at hl 0 rfl) ?_
            refine va_get (D := (dC, dI)) (ci := 5) (v := .ref h_t_sizes) (C := R_Tr) (T := T_Tr) (N := 7) hx hb hts (fun w h => List.mem_cons_of_mem _ (in_Tr w h)) hown hK hP 0 rfl rfl 3 (by decide) (hts _ (List.mem_cons_of_mem _ jw143)) (fun _ h9 => h9) rfl d_Tr_tell_66 ?_
            refine lv_iload_n hx hb d_Tr_tell_69 rfl (lv_at hl 1 rfl) ?_
            have c70 : ¬ (a1 < 0 ∨ 8001 ≤ a1.toNatClampNeg) := by intro z; rw [if_pos z] at hf; simp only [jb_none, jl_b_none, jm_none, reduceCtorEq] at hf
            rw [if_neg c70] at hf
            refine va_iald hx hb hK hP 4 0 rfl rfl c70 d_Tr_tell_70 ?_
            have hf : (some (t_sizes a1.toNatClampNeg) : Option Int32) = some o := hf
            rw [hQ, ← Option.some.inj hf]
            exact jIret hx hb hr hlocks d_Tr_tell_71 (fun _ => 0) hS hP hD
          · rw [if_neg c11_3] at hf
            by_cases c11_4 : a2 = (4 : Int32)
            · rw [if_pos c11_4] at hf
              refine lv_tableIn (off := 61) (tgt := 72) hx hb d_Tr_tell_11 (by rw [c11_4]; decide) (by rw [c11_4]; decide) (by rw [c11_4]; decide) (by decide) ?_
              refine lv_aload_n hx hb d_Tr_tell_72 rfl (lv_at hl 0 rfl) ?_
              refine va_get (D := (dC, dI)) (ci := 5) (v := .ref h_t_partCounts) (C := R_Tr) (T := T_Tr) (N := 7) hx hb hts (fun w h => List.mem_cons_of_mem _ (in_Tr w h)) hown hK hP 0 rfl rfl 4 (by decide) (hts _ (List.mem_cons_of_mem _ jw144)) (fun _ h9 => h9) rfl d_Tr_tell_73 ?_
              refine lv_iload_n hx hb d_Tr_tell_76 rfl (lv_at hl 1 rfl) ?_
              have c77 : ¬ (a1 < 0 ∨ 8001 ≤ a1.toNatClampNeg) := by intro z; rw [if_pos z] at hf; simp only [jb_none, jl_b_none, jm_none, reduceCtorEq] at hf
              rw [if_neg c77] at hf
              refine va_iald hx hb hK hP 5 0 rfl rfl c77 d_Tr_tell_77 ?_
              have hf : (some (t_partCounts a1.toNatClampNeg) : Option Int32) = some o := hf
              rw [hQ, ← Option.some.inj hf]
              exact jIret hx hb hr hlocks d_Tr_tell_78 (fun _ => 0) hS hP hD
            · rw [if_neg c11_4] at hf
              refine lv_tableOut (tgt := 79) hx hb d_Tr_tell_11 (by have z0 := lv_neT c11_0 (k := (0 : Int32)) (a := 0) (by decide); have z1 := lv_neT c11_1 (k := (1 : Int32)) (a := 1) (by decide); have z2 := lv_neT c11_2 (k := (2 : Int32)) (a := 2) (by decide); have z3 := lv_neT c11_3 (k := (3 : Int32)) (a := 3) (by decide); have z4 := lv_neT c11_4 (k := (4 : Int32)) (a := 4) (by decide); omega) (by decide) ?_
              refine lv_iconst (v := (-1 : Int32)) hx hb d_Tr_tell_79 (by decide) ?_
              have hf : (some (-1 : Int32) : Option Int32) = some o := hf
              rw [hQ, ← Option.some.inj hf]
              exact jIret hx hb hr hlocks d_Tr_tell_80 (fun _ => 0) hS hP hD
  · rw [if_pos c5] at hf
    refine lv_iconst (v := (-1 : Int32)) hx hb d_Tr_tell_8 (by decide) ?_
    have hf : (some (-1 : Int32) : Option Int32) = some o := hf
    rw [hQ, ← Option.some.inj hf]
    exact jIret hx hb hr hlocks d_Tr_tell_9 (fun _ => 0) hS hP hD
theorem d_Tr_partOf_0 : decode b_Tr_partOf 0 = .ok (.aload_n 0, 1) := by decide +kernel
theorem d_Tr_partOf_1 : decode b_Tr_partOf 1 = .ok (.iload_n 1, 1) := by decide +kernel
theorem d_Tr_partOf_2 : decode b_Tr_partOf 2 = .ok (.invokevirtual 42, 3) := by decide +kernel
theorem d_Tr_partOf_5 : decode b_Tr_partOf 5 = .ok (.ifCond .eq 17, 3) := by decide +kernel
theorem d_Tr_partOf_8 : decode b_Tr_partOf 8 = .ok (.iload_n 2, 1) := by decide +kernel
theorem d_Tr_partOf_9 : decode b_Tr_partOf 9 = .ok (.ifCond .lt 13, 3) := by decide +kernel
theorem d_Tr_partOf_12 : decode b_Tr_partOf 12 = .ok (.iload_n 2, 1) := by decide +kernel
theorem d_Tr_partOf_13 : decode b_Tr_partOf 13 = .ok (.aload_n 0, 1) := by decide +kernel
theorem d_Tr_partOf_14 : decode b_Tr_partOf 14 = .ok (.getfield 24, 3) := by decide +kernel
theorem d_Tr_partOf_17 : decode b_Tr_partOf 17 = .ok (.iload_n 1, 1) := by decide +kernel
theorem d_Tr_partOf_18 : decode b_Tr_partOf 18 = .ok (.iaload, 1) := by decide +kernel
theorem d_Tr_partOf_19 : decode b_Tr_partOf 19 = .ok (.if_icmp .lt 5, 3) := by decide +kernel
theorem d_Tr_partOf_22 : decode b_Tr_partOf 22 = .ok (.iconst (-1), 1) := by decide +kernel
theorem d_Tr_partOf_23 : decode b_Tr_partOf 23 = .ok (.ireturn, 1) := by decide +kernel
theorem d_Tr_partOf_24 : decode b_Tr_partOf 24 = .ok (.iload_n 1, 1) := by decide +kernel
theorem d_Tr_partOf_25 : decode b_Tr_partOf 25 = .ok (.iconst 1, 1) := by decide +kernel
theorem d_Tr_partOf_26 : decode b_Tr_partOf 26 = .ok (.iadd, 1) := by decide +kernel
theorem d_Tr_partOf_27 : decode b_Tr_partOf 27 = .ok (.istore_n 3, 1) := by decide +kernel
theorem d_Tr_partOf_28 : decode b_Tr_partOf 28 = .ok (.iconst 0, 1) := by decide +kernel
theorem d_Tr_partOf_29 : decode b_Tr_partOf 29 = .ok (.istore 4, 2) := by decide +kernel
theorem d_Tr_partOf_31 : decode b_Tr_partOf 31 = .ok (.iload 4, 2) := by decide +kernel
theorem d_Tr_partOf_33 : decode b_Tr_partOf 33 = .ok (.iload_n 2, 1) := by decide +kernel
theorem d_Tr_partOf_34 : decode b_Tr_partOf 34 = .ok (.if_icmp .ge 26, 3) := by decide +kernel
theorem d_Tr_partOf_37 : decode b_Tr_partOf 37 = .ok (.aload_n 0, 1) := by decide +kernel
theorem d_Tr_partOf_38 : decode b_Tr_partOf 38 = .ok (.iload_n 3, 1) := by decide +kernel
theorem d_Tr_partOf_39 : decode b_Tr_partOf 39 = .ok (.invokevirtual 42, 3) := by decide +kernel
theorem d_Tr_partOf_42 : decode b_Tr_partOf 42 = .ok (.ifCond .eq 18, 3) := by decide +kernel
theorem d_Tr_partOf_45 : decode b_Tr_partOf 45 = .ok (.iload_n 3, 1) := by decide +kernel
theorem d_Tr_partOf_46 : decode b_Tr_partOf 46 = .ok (.aload_n 0, 1) := by decide +kernel
theorem d_Tr_partOf_47 : decode b_Tr_partOf 47 = .ok (.getfield 21, 3) := by decide +kernel
theorem d_Tr_partOf_50 : decode b_Tr_partOf 50 = .ok (.iload_n 3, 1) := by decide +kernel
theorem d_Tr_partOf_51 : decode b_Tr_partOf 51 = .ok (.iaload, 1) := by decide +kernel
theorem d_Tr_partOf_52 : decode b_Tr_partOf 52 = .ok (.iadd, 1) := by decide +kernel
theorem d_Tr_partOf_53 : decode b_Tr_partOf 53 = .ok (.istore_n 3, 1) := by decide +kernel
theorem d_Tr_partOf_54 : decode b_Tr_partOf 54 = .ok (.iinc 4 1, 3) := by decide +kernel
theorem d_Tr_partOf_57 : decode b_Tr_partOf 57 = .ok (.goto (-26), 3) := by decide +kernel
theorem d_Tr_partOf_60 : decode b_Tr_partOf 60 = .ok (.iload_n 3, 1) := by decide +kernel
theorem d_Tr_partOf_61 : decode b_Tr_partOf 61 = .ok (.ireturn, 1) := by decide +kernel
noncomputable def Tr_partOf_b31_s (t_sizes : (Nat → Int32)) (t_partCounts : (Nat → Int32)) (t_count : Int32) (l2 : Int32) (l3 : Int32) (l4 : Int32) : Option ((Int32 × Int32) ⊕ Int32) := if l2 ≤ l4 then (some (.inr l3)) else (jb (f_Tr_has t_count l3) (fun o5 => if o5 = 0 then (some (.inr l3)) else (if l3 < 0 ∨ 8001 ≤ l3.toNatClampNeg then none else (some (.inl ((l3 + (t_sizes l3.toNatClampNeg)), (l4 + (1 : Int32))))))))
noncomputable def Tr_partOf_b31_b (t_sizes : (Nat → Int32)) (t_partCounts : (Nat → Int32)) (t_count : Int32) (l2 : Int32) : (Int32 × Int32) → Option ((Int32 × Int32) ⊕ Int32) := fun x => Tr_partOf_b31_s t_sizes t_partCounts t_count l2 x.1 x.2
noncomputable def Tr_partOf_b31 (t_sizes : (Nat → Int32)) (t_partCounts : (Nat → Int32)) (t_count : Int32) (l2 : Int32) (l3 : Int32) (l4 : Int32) : Option Int32 := jl (Tr_partOf_b31_b t_sizes t_partCounts t_count l2) (l3, l4)
noncomputable def f_Tr_partOf (t_sizes : (Nat → Int32)) (t_partCounts : (Nat → Int32)) (t_count : Int32)  (a1 : Int32) (a2 : Int32) : Option Int32 := jb (f_Tr_has t_count a1) (fun o7 => if o7 = 0 then (some (-1 : Int32)) else (if a2 < 0 then (some (-1 : Int32)) else (if a1 < 0 ∨ 8001 ≤ a1.toNatClampNeg then none else (if a2 < (t_partCounts a1.toNatClampNeg) then (Tr_partOf_b31 t_sizes t_partCounts t_count a2 (a1 + (1 : Int32)) (0 : Int32)) else (some (-1 : Int32))))))
set_option maxHeartbeats 4000000 in
set_option maxRecDepth 100000 in
theorem c_Tr_partOf {l : Launch} {dC : Nat → ClassId} {dI : Nat → Nat → Nat} {cI cB cS : ClassId} {adK adV adR : Nat → Nat} (h_t h_t_kinds h_t_places h_t_values h_t_sizes h_t_partCounts h_t_wholes : Nat) (t_kinds : (Nat → Int32)) (t_places : (Nat → Int32)) (t_values : (Nat → Int32)) (t_sizes : (Nat → Int32)) (t_partCounts : (Nat → Int32)) (t_wholes : (Nat → Int32)) (t_count : Int32) (a1 : Int32) (a2 : Int32) {o : Int32} (hf : f_Tr_partOf t_sizes t_partCounts t_count a1 a2 = some o) : jMet l dC dI cI cB cS adK adV adR y_Tr_partOf wd_Tr_partOf { frames := 1, cells := 0, slots := 0, locals := 21 } [.ref h_t, .int a1, .int a2] [(h_t, .inr (5, [.ref h_t_kinds, .ref h_t_places, .ref h_t_values, .ref h_t_sizes, .ref h_t_partCounts, .ref h_t_wholes, .int t_count])), (h_t_kinds, .inl (cI, 8001, .inl t_kinds)), (h_t_places, .inl (cI, 8001, .inl t_places)), (h_t_values, .inl (cI, 8001, .inl t_values)), (h_t_sizes, .inl (cI, 8001, .inl t_sizes)), (h_t_partCounts, .inl (cI, 8001, .inl t_partCounts)), (h_t_wholes, .inl (cI, 8001, .inl t_wholes))] (some (.int o)) (fun q => [(h_t, .inr (5, [.ref h_t_kinds, .ref h_t_places, .ref h_t_values, .ref h_t_sizes, .ref h_t_partCounts, .ref h_t_wholes, .int t_count])), (h_t_kinds, .inl (cI, 8001, .inl t_kinds)), (h_t_places, .inl (cI, 8001, .inl t_places)), (h_t_values, .inl (cI, 8001, .inl t_values)), (h_t_sizes, .inl (cI, 8001, .inl t_sizes)), (h_t_partCounts, .inl (cI, 8001, .inl t_partCounts)), (h_t_wholes, .inl (cI, 8001, .inl t_wholes))]) 0 0 := by
  refine jEntry (cc := b_Tr_partOf) (maxL := 5) (ret := (some .int)) (by decide) rfl (Nat.le_of_ble_eq_true rfl) rfl (fun p e s m args below meth c A H locs ls Q hQ hx hb hr hml hown hts hlocks hnm hJ hA hP hD hS hl => ?_)
  have hK := hJ.K
  have hl : lv_has ls 5 [(0, .ref h_t), (1, .int a1), (2, .int a2)] := hl
  have L31 : ∀ (n31 : Nat) (l2 : Int32) (l3 : Int32) (l4 : Int32) (H : Heap) (locs : List Loc) (ls : Array Slot), jl_n (Tr_partOf_b31_b t_sizes t_partCounts t_count l2) n31 (l3, l4) = some o → va_P (dC, dI) vwCl [(h_t, .inr (5, [.ref h_t_kinds, .ref h_t_places, .ref h_t_values, .ref h_t_sizes, .ref h_t_partCounts, .ref h_t_wholes, .int t_count])), (h_t_kinds, .inl (cI, 8001, .inl t_kinds)), (h_t_places, .inl (cI, 8001, .inl t_places)), (h_t_values, .inl (cI, 8001, .inl t_values)), (h_t_sizes, .inl (cI, 8001, .inl t_sizes)), (h_t_partCounts, .inl (cI, 8001, .inl t_partCounts)), (h_t_wholes, .inl (cI, 8001, .inl t_wholes))] H → va_D A [(h_t, .inr (5, [.ref h_t_kinds, .ref h_t_places, .ref h_t_values, .ref h_t_sizes, .ref h_t_partCounts, .ref h_t_wholes, .int t_count])), (h_t_kinds, .inl (cI, 8001, .inl t_kinds)), (h_t_places, .inl (cI, 8001, .inl t_places)), (h_t_values, .inl (cI, 8001, .inl t_values)), (h_t_sizes, .inl (cI, 8001, .inl t_sizes)), (h_t_partCounts, .inl (cI, 8001, .inl t_partCounts)), (h_t_wholes, .inl (cI, 8001, .inl t_wholes))] → va_S A s.heap H locs → lv_has ls 5 [(0, .ref h_t), (2, .int l2), (3, .int l3), (4, .int l4)] → W p l e { frames := 1, cells := 0, slots := 0, locals := 21 } s m args below meth c H locs 0 0 Q (F0 m 31 ls []) := by
    intro n31
    induction n31 with
    | zero => intro l2 l3 l4 H locs ls hf; simp only [jl_n_zero, jl_b_none, reduceCtorEq] at hf
    | succ n31 ih31 =>
      intro l2 l3 l4 H locs ls hf hP hD hS hl
      rw [jl_n_succ] at hf
      have hf : jl_b (jl_n (Tr_partOf_b31_b t_sizes t_partCounts t_count l2) n31) (Tr_partOf_b31_s t_sizes t_partCounts t_count l2 l3 l4) = some o := hf
      unfold Tr_partOf_b31_s at hf
      refine lv_iload hx hb d_Tr_partOf_31 (lv_at hl 3 rfl) ?_
      refine lv_iload_n hx hb d_Tr_partOf_33 rfl (lv_at hl 1 rfl) ?_
      refine lv_icmp_ge (tgt := 60) hx hb d_Tr_partOf_34 (by decide) (fun c34 => ?_) (fun c34 => ?_)
      · rw [if_pos c34] at hf
        refine lv_iload_n hx hb d_Tr_partOf_60 rfl (lv_at hl 2 rfl) ?_
        have hf : (some l3 : Option Int32) = some o := hf
        rw [hQ, ← Option.some.inj hf]
        exact jIret hx hb hr hlocks d_Tr_partOf_61 (fun _ => 0) hS hP hD
      · rw [if_neg c34] at hf
        refine lv_aload_n hx hb d_Tr_partOf_37 rfl (lv_at hl 0 rfl) ?_
        refine lv_iload_n hx hb d_Tr_partOf_38 rfl (lv_at hl 2 rfl) ?_
        obtain ⟨o9, ho9⟩ : ∃ z, f_Tr_has t_count l3 = some z := by
          cases hz : f_Tr_has t_count l3 with
          | none => rw [hz] at hf; simp only [jb_none, jl_b_none, jm_none, reduceCtorEq] at hf
          | some z => exact ⟨z, rfl⟩
        rw [ho9, jb_some] at hf
        refine jCallV (As := [.int l3]) (rest := []) (wr := []) ⟨hx, hb, hml, hown, hts⟩ hJ (c_Tr_has h_t h_t_kinds h_t_places h_t_values h_t_sizes h_t_partCounts h_t_wholes t_kinds t_places t_values t_sizes t_partCounts t_wholes t_count l3 ho9) (cwV 1 hts (jgV jw151 jw154 jw155 jw153 jw152) rfl rfl rfl dd_Tr_has ⟨Nat.le_of_ble_eq_true rfl, Nat.le_of_ble_eq_true rfl⟩) hP hD hS hA (va_recv hK hP (ci := 5) (q0 := 0) rfl rfl) [0, 1, 2, 3, 4, 5, 6] [] rfl rfl (by decide) (by decide) (by decide) rfl hl.1 rfl (Nat.le_of_ble_eq_true rfl) d_Tr_partOf_39 ⟨Nat.le_of_ble_eq_true rfl, Nat.le_of_ble_eq_true rfl⟩ (fun qz10 H locs hP hD hS => ?_)
        have hP : va_P (dC, dI) vwCl [(h_t, .inr (5, [.ref h_t_kinds, .ref h_t_places, .ref h_t_values, .ref h_t_sizes, .ref h_t_partCounts, .ref h_t_wholes, .int t_count])), (h_t_kinds, .inl (cI, 8001, .inl t_kinds)), (h_t_places, .inl (cI, 8001, .inl t_places)), (h_t_values, .inl (cI, 8001, .inl t_values)), (h_t_sizes, .inl (cI, 8001, .inl t_sizes)), (h_t_partCounts, .inl (cI, 8001, .inl t_partCounts)), (h_t_wholes, .inl (cI, 8001, .inl t_wholes))] H := hP
        have hD : va_D A [(h_t, .inr (5, [.ref h_t_kinds, .ref h_t_places, .ref h_t_values, .ref h_t_sizes, .ref h_t_partCounts, .ref h_t_wholes, .int t_count])), (h_t_kinds, .inl (cI, 8001, .inl t_kinds)), (h_t_places, .inl (cI, 8001, .inl t_places)), (h_t_values, .inl (cI, 8001, .inl t_values)), (h_t_sizes, .inl (cI, 8001, .inl t_sizes)), (h_t_partCounts, .inl (cI, 8001, .inl t_partCounts)), (h_t_wholes, .inl (cI, 8001, .inl t_wholes))] := hD
        refine lv_if_eq (tgt := 60) hx hb d_Tr_partOf_42 (by decide) (fun c42 => ?_) (fun c42 => ?_)
        · rw [if_pos c42] at hf
          refine lv_iload_n hx hb d_Tr_partOf_60 rfl (lv_at hl 2 rfl) ?_
          have hf : (some l3 : Option Int32) = some o := hf
          rw [hQ, ← Option.some.inj hf]
          exact jIret hx hb hr hlocks d_Tr_partOf_61 (fun _ => 0) hS hP hD
        · rw [if_neg c42] at hf
          refine lv_iload_n hx hb d_Tr_partOf_45 rfl (lv_at hl 2 rfl) ?_
          refine lv_aload_n hx hb d_Tr_partOf_46 rfl (lv_at hl 0 rfl) ?_
          refine va_get (D := (dC, dI)) (ci := 5) (v := .ref h_t_sizes) (C := R_Tr) (T := T_Tr) (N := 7) hx hb hts (fun w h => List.mem_cons_of_mem _ (in_Tr w h)) hown hK hP 0 rfl rfl 3 (by decide) (hts _ (List.mem_cons_of_mem _ jw143)) (fun _ h9 => h9) rfl d_Tr_partOf_47 ?_
          refine lv_iload_n hx hb d_Tr_partOf_50 rfl (lv_at hl 2 rfl) ?_
          have c51 : ¬ (l3 < 0 ∨ 8001 ≤ l3.toNatClampNeg) := by intro z; rw [if_pos z] at hf; simp only [jb_none, jl_b_none, jm_none, reduceCtorEq] at hf
          rw [if_neg c51] at hf
          refine va_iald hx hb hK hP 4 0 rfl rfl c51 d_Tr_partOf_51 ?_
          refine lv_iadd hx hb d_Tr_partOf_52 ?_
          refine lv_istore_n (lv' := [(3, .int (l3 + (t_sizes l3.toNatClampNeg))), (0, .ref h_t), (2, .int l2), (4, .int l4)]) hx hb d_Tr_partOf_53 rfl hl (by decide) rfl (fun ls hl => ?_)
          refine lv_iinc (v := l4 + (1 : Int32)) (lv' := [(4, .int (l4 + (1 : Int32))), (3, .int (l3 + (t_sizes l3.toNatClampNeg))), (0, .ref h_t), (2, .int l2)]) hx hb d_Tr_partOf_54 hl (k := 3) rfl rfl (by decide) rfl (fun ls hl => ?_)
          refine lv_goto (tgt := 31) hx hb d_Tr_partOf_57 (by decide) ?_
          exact ih31 l2 (l3 + (t_sizes l3.toNatClampNeg)) (l4 + (1 : Int32)) H locs ls hf hP hD hS (lv_sub hl [2, 3, 1, 0] rfl)
  unfold f_Tr_partOf at hf
  refine lv_aload_n hx hb d_Tr_partOf_0 rfl (lv_at hl 0 rfl) ?_
  refine lv_iload_n hx hb d_Tr_partOf_1 rfl (lv_at hl 1 rfl) ?_
  obtain ⟨o11, ho11⟩ : ∃ z, f_Tr_has t_count a1 = some z := by
    cases hz : f_Tr_has t_count a1 with
    | none => rw [hz] at hf; simp only [jb_none, jl_b_none, jm_none, reduceCtorEq] at hf
    | some z => exact ⟨z, rfl⟩
  rw [ho11, jb_some] at hf
  refine jCallV (As := [.int a1]) (rest := []) (wr := []) ⟨hx, hb, hml, hown, hts⟩ hJ (c_Tr_has h_t h_t_kinds h_t_places h_t_values h_t_sizes h_t_partCounts h_t_wholes t_kinds t_places t_values t_sizes t_partCounts t_wholes t_count a1 ho11) (cwV 1 hts (jgV jw151 jw154 jw155 jw153 jw152) rfl rfl rfl dd_Tr_has ⟨Nat.le_of_ble_eq_true rfl, Nat.le_of_ble_eq_true rfl⟩) hP hD hS hA (va_recv hK hP (ci := 5) (q0 := 0) rfl rfl) [0, 1, 2, 3, 4, 5, 6] [] rfl rfl (by decide) (by decide) (by decide) rfl hl.1 rfl (Nat.le_of_ble_eq_true rfl) d_Tr_partOf_2 ⟨Nat.le_of_ble_eq_true rfl, Nat.le_of_ble_eq_true rfl⟩ (fun qz12 H locs hP hD hS => ?_)
  have hP : va_P (dC, dI) vwCl [(h_t, .inr (5, [.ref h_t_kinds, .ref h_t_places, .ref h_t_values, .ref h_t_sizes, .ref h_t_partCounts, .ref h_t_wholes, .int t_count])), (h_t_kinds, .inl (cI, 8001, .inl t_kinds)), (h_t_places, .inl (cI, 8001, .inl t_places)), (h_t_values, .inl (cI, 8001, .inl t_values)), (h_t_sizes, .inl (cI, 8001, .inl t_sizes)), (h_t_partCounts, .inl (cI, 8001, .inl t_partCounts)), (h_t_wholes, .inl (cI, 8001, .inl t_wholes))] H := hP
  have hD : va_D A [(h_t, .inr (5, [.ref h_t_kinds, .ref h_t_places, .ref h_t_values, .ref h_t_sizes, .ref h_t_partCounts, .ref h_t_wholes, .int t_count])), (h_t_kinds, .inl (cI, 8001, .inl t_kinds)), (h_t_places, .inl (cI, 8001, .inl t_places)), (h_t_values, .inl (cI, 8001, .inl t_values)), (h_t_sizes, .inl (cI, 8001, .inl t_sizes)), (h_t_partCounts, .inl (cI, 8001, .inl t_partCounts)), (h_t_wholes, .inl (cI, 8001, .inl t_wholes))] := hD
  refine lv_if_eq (tgt := 22) hx hb d_Tr_partOf_5 (by decide) (fun c5 => ?_) (fun c5 => ?_)
  · rw [if_pos c5] at hf
    refine lv_iconst (v := (-1 : Int32)) hx hb d_Tr_partOf_22 (by decide) ?_
    have hf : (some (-1 : Int32) : Option Int32) = some o := hf
    rw [hQ, ← Option.some.inj hf]
    exact jIret hx hb hr hlocks d_Tr_partOf_23 (fun _ => 0) hS hP hD
  · rw [if_neg c5] at hf
    refine lv_iload_n hx hb d_Tr_partOf_8 rfl (lv_at hl 2 rfl) ?_
    refine lv_if_lt (tgt := 22) hx hb d_Tr_partOf_9 (by decide) (fun c9 => ?_) (fun c9 => ?_)
    · rw [if_pos c9] at hf
      refine lv_iconst (v := (-1 : Int32)) hx hb d_Tr_partOf_22 (by decide) ?_
      have hf : (some (-1 : Int32) : Option Int32) = some o := hf
      rw [hQ, ← Option.some.inj hf]
      exact jIret hx hb hr hlocks d_Tr_partOf_23 (fun _ => 0) hS hP hD
    · rw [if_neg c9] at hf
      refine lv_iload_n hx hb d_Tr_partOf_12 rfl (lv_at hl 2 rfl) ?_
      refine lv_aload_n hx hb d_Tr_partOf_13 rfl (lv_at hl 0 rfl) ?_
      refine va_get (D := (dC, dI)) (ci := 5) (v := .ref h_t_partCounts) (C := R_Tr) (T := T_Tr) (N := 7) hx hb hts (fun w h => List.mem_cons_of_mem _ (in_Tr w h)) hown hK hP 0 rfl rfl 4 (by decide) (hts _ (List.mem_cons_of_mem _ jw144)) (fun _ h9 => h9) rfl d_Tr_partOf_14 ?_
      refine lv_iload_n hx hb d_Tr_partOf_17 rfl (lv_at hl 1 rfl) ?_
      have c18 : ¬ (a1 < 0 ∨ 8001 ≤ a1.toNatClampNeg) := by intro z; rw [if_pos z] at hf; simp only [jb_none, jl_b_none, jm_none, reduceCtorEq] at hf
      rw [if_neg c18] at hf
      refine va_iald hx hb hK hP 5 0 rfl rfl c18 d_Tr_partOf_18 ?_
      refine lv_icmp_lt (tgt := 24) hx hb d_Tr_partOf_19 (by decide) (fun c19 => ?_) (fun c19 => ?_)
      · rw [if_pos c19] at hf
        refine lv_iload_n hx hb d_Tr_partOf_24 rfl (lv_at hl 1 rfl) ?_
        refine lv_iconst (v := (1 : Int32)) hx hb d_Tr_partOf_25 (by decide) ?_
        refine lv_iadd hx hb d_Tr_partOf_26 ?_
        refine lv_istore_n (lv' := [(3, .int (a1 + (1 : Int32))), (0, .ref h_t), (1, .int a1), (2, .int a2)]) hx hb d_Tr_partOf_27 rfl hl (by decide) rfl (fun ls hl => ?_)
        refine lv_iconst (v := (0 : Int32)) hx hb d_Tr_partOf_28 (by decide) ?_
        refine lv_istore (lv' := [(4, .int (0 : Int32)), (3, .int (a1 + (1 : Int32))), (0, .ref h_t), (1, .int a1), (2, .int a2)]) hx hb d_Tr_partOf_29 hl (by decide) rfl (fun ls hl => ?_)
        unfold Tr_partOf_b31 at hf
        obtain ⟨nn, en⟩ := jl_ex (Tr_partOf_b31_b t_sizes t_partCounts t_count a2) ((a1 + (1 : Int32)), (0 : Int32))
        rw [en] at hf
        exact L31 nn a2 (a1 + (1 : Int32)) (0 : Int32) H locs ls hf hP hD hS (lv_sub hl [2, 4, 1, 0] rfl)
      · rw [if_neg c19] at hf
        refine lv_iconst (v := (-1 : Int32)) hx hb d_Tr_partOf_22 (by decide) ?_
        have hf : (some (-1 : Int32) : Option Int32) = some o := hf
        rw [hQ, ← Option.some.inj hf]
        exact jIret hx hb hr hlocks d_Tr_partOf_23 (fun _ => 0) hS hP hD
theorem d_Tr_isFirstPart_0 : decode b_Tr_isFirstPart 0 = .ok (.aload_n 0, 1) := by decide +kernel
theorem d_Tr_isFirstPart_1 : decode b_Tr_isFirstPart 1 = .ok (.iload_n 1, 1) := by decide +kernel
theorem d_Tr_isFirstPart_2 : decode b_Tr_isFirstPart 2 = .ok (.invokevirtual 42, 3) := by decide +kernel
theorem d_Tr_isFirstPart_5 : decode b_Tr_isFirstPart 5 = .ok (.ifCond .eq 19, 3) := by decide +kernel
theorem d_Tr_isFirstPart_8 : decode b_Tr_isFirstPart 8 = .ok (.aload_n 0, 1) := by decide +kernel
theorem d_Tr_isFirstPart_9 : decode b_Tr_isFirstPart 9 = .ok (.getfield 27, 3) := by decide +kernel
theorem d_Tr_isFirstPart_12 : decode b_Tr_isFirstPart 12 = .ok (.iload_n 1, 1) := by decide +kernel
theorem d_Tr_isFirstPart_13 : decode b_Tr_isFirstPart 13 = .ok (.iaload, 1) := by decide +kernel
theorem d_Tr_isFirstPart_14 : decode b_Tr_isFirstPart 14 = .ok (.iload_n 1, 1) := by decide +kernel
theorem d_Tr_isFirstPart_15 : decode b_Tr_isFirstPart 15 = .ok (.iconst 1, 1) := by decide +kernel
theorem d_Tr_isFirstPart_16 : decode b_Tr_isFirstPart 16 = .ok (.isub, 1) := by decide +kernel
theorem d_Tr_isFirstPart_17 : decode b_Tr_isFirstPart 17 = .ok (.if_icmp .ne 7, 3) := by decide +kernel
theorem d_Tr_isFirstPart_20 : decode b_Tr_isFirstPart 20 = .ok (.iconst 1, 1) := by decide +kernel
theorem d_Tr_isFirstPart_21 : decode b_Tr_isFirstPart 21 = .ok (.goto 4, 3) := by decide +kernel
theorem d_Tr_isFirstPart_24 : decode b_Tr_isFirstPart 24 = .ok (.iconst 0, 1) := by decide +kernel
theorem d_Tr_isFirstPart_25 : decode b_Tr_isFirstPart 25 = .ok (.ireturn, 1) := by decide +kernel
noncomputable def Tr_isFirstPart_b24 (t_wholes : (Nat → Int32)) (t_count : Int32)  : Option Int32 := some (vp_nar .boolean (0 : Int32))
noncomputable def f_Tr_isFirstPart (t_wholes : (Nat → Int32)) (t_count : Int32)  (a1 : Int32) : Option Int32 := jb (f_Tr_has t_count a1) (fun o3 => if o3 = 0 then (Tr_isFirstPart_b24 t_wholes t_count) else (if a1 < 0 ∨ 8001 ≤ a1.toNatClampNeg then none else (if (t_wholes a1.toNatClampNeg) = (a1 - (1 : Int32)) then (some (vp_nar .boolean (1 : Int32))) else (Tr_isFirstPart_b24 t_wholes t_count))))
set_option maxHeartbeats 4000000 in
set_option maxRecDepth 100000 in
theorem c_Tr_isFirstPart {l : Launch} {dC : Nat → ClassId} {dI : Nat → Nat → Nat} {cI cB cS : ClassId} {adK adV adR : Nat → Nat} (h_t h_t_kinds h_t_places h_t_values h_t_sizes h_t_partCounts h_t_wholes : Nat) (t_kinds : (Nat → Int32)) (t_places : (Nat → Int32)) (t_values : (Nat → Int32)) (t_sizes : (Nat → Int32)) (t_partCounts : (Nat → Int32)) (t_wholes : (Nat → Int32)) (t_count : Int32) (a1 : Int32) {o : Int32} (hf : f_Tr_isFirstPart t_wholes t_count a1 = some o) : jMet l dC dI cI cB cS adK adV adR y_Tr_isFirstPart wd_Tr_isFirstPart { frames := 1, cells := 0, slots := 0, locals := 21 } [.ref h_t, .int a1] [(h_t, .inr (5, [.ref h_t_kinds, .ref h_t_places, .ref h_t_values, .ref h_t_sizes, .ref h_t_partCounts, .ref h_t_wholes, .int t_count])), (h_t_kinds, .inl (cI, 8001, .inl t_kinds)), (h_t_places, .inl (cI, 8001, .inl t_places)), (h_t_values, .inl (cI, 8001, .inl t_values)), (h_t_sizes, .inl (cI, 8001, .inl t_sizes)), (h_t_partCounts, .inl (cI, 8001, .inl t_partCounts)), (h_t_wholes, .inl (cI, 8001, .inl t_wholes))] (some (.int o)) (fun q => [(h_t, .inr (5, [.ref h_t_kinds, .ref h_t_places, .ref h_t_values, .ref h_t_sizes, .ref h_t_partCounts, .ref h_t_wholes, .int t_count])), (h_t_kinds, .inl (cI, 8001, .inl t_kinds)), (h_t_places, .inl (cI, 8001, .inl t_places)), (h_t_values, .inl (cI, 8001, .inl t_values)), (h_t_sizes, .inl (cI, 8001, .inl t_sizes)), (h_t_partCounts, .inl (cI, 8001, .inl t_partCounts)), (h_t_wholes, .inl (cI, 8001, .inl t_wholes))]) 0 0 := by
  refine jEntry (cc := b_Tr_isFirstPart) (maxL := 2) (ret := (some .boolean)) (by decide) rfl (Nat.le_of_ble_eq_true rfl) rfl (fun p e s m args below meth c A H locs ls Q hQ hx hb hr hml hown hts hlocks hnm hJ hA hP hD hS hl => ?_)
  have hK := hJ.K
  have hl : lv_has ls 2 [(0, .ref h_t), (1, .int a1)] := hl
  have B24 : ∀  (H : Heap) (locs : List Loc) (ls : Array Slot), Tr_isFirstPart_b24 t_wholes t_count = some o → va_P (dC, dI) vwCl [(h_t, .inr (5, [.ref h_t_kinds, .ref h_t_places, .ref h_t_values, .ref h_t_sizes, .ref h_t_partCounts, .ref h_t_wholes, .int t_count])), (h_t_kinds, .inl (cI, 8001, .inl t_kinds)), (h_t_places, .inl (cI, 8001, .inl t_places)), (h_t_values, .inl (cI, 8001, .inl t_values)), (h_t_sizes, .inl (cI, 8001, .inl t_sizes)), (h_t_partCounts, .inl (cI, 8001, .inl t_partCounts)), (h_t_wholes, .inl (cI, 8001, .inl t_wholes))] H → va_D A [(h_t, .inr (5, [.ref h_t_kinds, .ref h_t_places, .ref h_t_values, .ref h_t_sizes, .ref h_t_partCounts, .ref h_t_wholes, .int t_count])), (h_t_kinds, .inl (cI, 8001, .inl t_kinds)), (h_t_places, .inl (cI, 8001, .inl t_places)), (h_t_values, .inl (cI, 8001, .inl t_values)), (h_t_sizes, .inl (cI, 8001, .inl t_sizes)), (h_t_partCounts, .inl (cI, 8001, .inl t_partCounts)), (h_t_wholes, .inl (cI, 8001, .inl t_wholes))] → va_S A s.heap H locs → lv_has ls 2 [] → W p l e { frames := 1, cells := 0, slots := 0, locals := 21 } s m args below meth c H locs 0 0 Q (F0 m 24 ls []) := by
    intro  H locs ls hf hP hD hS hl
    unfold Tr_isFirstPart_b24 at hf
    refine lv_iconst (v := (0 : Int32)) hx hb d_Tr_isFirstPart_24 (by decide) ?_
    have hf : (some (vp_nar .boolean (0 : Int32)) : Option Int32) = some o := hf
    rw [hQ, ← Option.some.inj hf]
    exact jNret hx hb hr rfl hlocks d_Tr_isFirstPart_25 (fun _ => 0) hS hP hD
  unfold f_Tr_isFirstPart at hf
  refine lv_aload_n hx hb d_Tr_isFirstPart_0 rfl (lv_at hl 0 rfl) ?_
  refine lv_iload_n hx hb d_Tr_isFirstPart_1 rfl (lv_at hl 1 rfl) ?_
  obtain ⟨o5, ho5⟩ : ∃ z, f_Tr_has t_count a1 = some z := by
    cases hz : f_Tr_has t_count a1 with
    | none => rw [hz] at hf; simp only [jb_none, jl_b_none, jm_none, reduceCtorEq] at hf
    | some z => exact ⟨z, rfl⟩
  rw [ho5, jb_some] at hf
  refine jCallV (As := [.int a1]) (rest := []) (wr := []) ⟨hx, hb, hml, hown, hts⟩ hJ (c_Tr_has h_t h_t_kinds h_t_places h_t_values h_t_sizes h_t_partCounts h_t_wholes t_kinds t_places t_values t_sizes t_partCounts t_wholes t_count a1 ho5) (cwV 1 hts (jgV jw151 jw154 jw155 jw153 jw152) rfl rfl rfl dd_Tr_has ⟨Nat.le_of_ble_eq_true rfl, Nat.le_of_ble_eq_true rfl⟩) hP hD hS hA (va_recv hK hP (ci := 5) (q0 := 0) rfl rfl) [0, 1, 2, 3, 4, 5, 6] [] rfl rfl (by decide) (by decide) (by decide) rfl hl.1 rfl (Nat.le_of_ble_eq_true rfl) d_Tr_isFirstPart_2 ⟨Nat.le_of_ble_eq_true rfl, Nat.le_of_ble_eq_true rfl⟩ (fun qz6 H locs hP hD hS => ?_)
  have hP : va_P (dC, dI) vwCl [(h_t, .inr (5, [.ref h_t_kinds, .ref h_t_places, .ref h_t_values, .ref h_t_sizes, .ref h_t_partCounts, .ref h_t_wholes, .int t_count])), (h_t_kinds, .inl (cI, 8001, .inl t_kinds)), (h_t_places, .inl (cI, 8001, .inl t_places)), (h_t_values, .inl (cI, 8001, .inl t_values)), (h_t_sizes, .inl (cI, 8001, .inl t_sizes)), (h_t_partCounts, .inl (cI, 8001, .inl t_partCounts)), (h_t_wholes, .inl (cI, 8001, .inl t_wholes))] H := hP
  have hD : va_D A [(h_t, .inr (5, [.ref h_t_kinds, .ref h_t_places, .ref h_t_values, .ref h_t_sizes, .ref h_t_partCounts, .ref h_t_wholes, .int t_count])), (h_t_kinds, .inl (cI, 8001, .inl t_kinds)), (h_t_places, .inl (cI, 8001, .inl t_places)), (h_t_values, .inl (cI, 8001, .inl t_values)), (h_t_sizes, .inl (cI, 8001, .inl t_sizes)), (h_t_partCounts, .inl (cI, 8001, .inl t_partCounts)), (h_t_wholes, .inl (cI, 8001, .inl t_wholes))] := hD
  refine lv_if_eq (tgt := 24) hx hb d_Tr_isFirstPart_5 (by decide) (fun c5 => ?_) (fun c5 => ?_)
  · rw [if_pos c5] at hf
    exact B24  H locs ls hf hP hD hS (lv_sub hl [] rfl)
  · rw [if_neg c5] at hf
    refine lv_aload_n hx hb d_Tr_isFirstPart_8 rfl (lv_at hl 0 rfl) ?_
    refine va_get (D := (dC, dI)) (ci := 5) (v := .ref h_t_wholes) (C := R_Tr) (T := T_Tr) (N := 7) hx hb hts (fun w h => List.mem_cons_of_mem _ (in_Tr w h)) hown hK hP 0 rfl rfl 5 (by decide) (hts _ (List.mem_cons_of_mem _ jw145)) (fun _ h9 => h9) rfl d_Tr_isFirstPart_9 ?_
    refine lv_iload_n hx hb d_Tr_isFirstPart_12 rfl (lv_at hl 1 rfl) ?_
    have c13 : ¬ (a1 < 0 ∨ 8001 ≤ a1.toNatClampNeg) := by intro z; rw [if_pos z] at hf; simp only [jb_none, jl_b_none, jm_none, reduceCtorEq] at hf
    rw [if_neg c13] at hf
    refine va_iald hx hb hK hP 6 0 rfl rfl c13 d_Tr_isFirstPart_13 ?_
    refine lv_iload_n hx hb d_Tr_isFirstPart_14 rfl (lv_at hl 1 rfl) ?_
    refine lv_iconst (v := (1 : Int32)) hx hb d_Tr_isFirstPart_15 (by decide) ?_
    refine lv_isub hx hb d_Tr_isFirstPart_16 ?_
    refine lv_icmp_ne (tgt := 24) hx hb d_Tr_isFirstPart_17 (by decide) (fun c17 => ?_) (fun c17 => ?_)
    · rw [if_neg c17] at hf
      exact B24  H locs ls hf hP hD hS (lv_sub hl [] rfl)
    · rw [if_pos c17] at hf
      refine lv_iconst (v := (1 : Int32)) hx hb d_Tr_isFirstPart_20 (by decide) ?_
      refine lv_goto (tgt := 25) hx hb d_Tr_isFirstPart_21 (by decide) ?_
      have hf : (some (vp_nar .boolean (1 : Int32)) : Option Int32) = some o := hf
      rw [hQ, ← Option.some.inj hf]
      exact jNret hx hb hr rfl hlocks d_Tr_isFirstPart_25 (fun _ => 0) hS hP hD
theorem d_Tr_isLastPart_0 : decode b_Tr_isLastPart 0 = .ok (.aload_n 0, 1) := by decide +kernel
theorem d_Tr_isLastPart_1 : decode b_Tr_isLastPart 1 = .ok (.iload_n 1, 1) := by decide +kernel
theorem d_Tr_isLastPart_2 : decode b_Tr_isLastPart 2 = .ok (.invokevirtual 46, 3) := by decide +kernel
theorem d_Tr_isLastPart_5 : decode b_Tr_isLastPart 5 = .ok (.istore_n 2, 1) := by decide +kernel
theorem d_Tr_isLastPart_6 : decode b_Tr_isLastPart 6 = .ok (.aload_n 0, 1) := by decide +kernel
theorem d_Tr_isLastPart_7 : decode b_Tr_isLastPart 7 = .ok (.iload_n 2, 1) := by decide +kernel
theorem d_Tr_isLastPart_8 : decode b_Tr_isLastPart 8 = .ok (.invokevirtual 42, 3) := by decide +kernel
theorem d_Tr_isLastPart_11 : decode b_Tr_isLastPart 11 = .ok (.ifCond .eq 26, 3) := by decide +kernel
theorem d_Tr_isLastPart_14 : decode b_Tr_isLastPart 14 = .ok (.iload_n 1, 1) := by decide +kernel
theorem d_Tr_isLastPart_15 : decode b_Tr_isLastPart 15 = .ok (.aload_n 0, 1) := by decide +kernel
theorem d_Tr_isLastPart_16 : decode b_Tr_isLastPart 16 = .ok (.getfield 21, 3) := by decide +kernel
theorem d_Tr_isLastPart_19 : decode b_Tr_isLastPart 19 = .ok (.iload_n 1, 1) := by decide +kernel
theorem d_Tr_isLastPart_20 : decode b_Tr_isLastPart 20 = .ok (.iaload, 1) := by decide +kernel
theorem d_Tr_isLastPart_21 : decode b_Tr_isLastPart 21 = .ok (.iadd, 1) := by decide +kernel
theorem d_Tr_isLastPart_22 : decode b_Tr_isLastPart 22 = .ok (.iload_n 2, 1) := by decide +kernel
theorem d_Tr_isLastPart_23 : decode b_Tr_isLastPart 23 = .ok (.aload_n 0, 1) := by decide +kernel
theorem d_Tr_isLastPart_24 : decode b_Tr_isLastPart 24 = .ok (.getfield 21, 3) := by decide +kernel
theorem d_Tr_isLastPart_27 : decode b_Tr_isLastPart 27 = .ok (.iload_n 2, 1) := by decide +kernel
theorem d_Tr_isLastPart_28 : decode b_Tr_isLastPart 28 = .ok (.iaload, 1) := by decide +kernel
theorem d_Tr_isLastPart_29 : decode b_Tr_isLastPart 29 = .ok (.iadd, 1) := by decide +kernel
theorem d_Tr_isLastPart_30 : decode b_Tr_isLastPart 30 = .ok (.if_icmp .ne 7, 3) := by decide +kernel
theorem d_Tr_isLastPart_33 : decode b_Tr_isLastPart 33 = .ok (.iconst 1, 1) := by decide +kernel
theorem d_Tr_isLastPart_34 : decode b_Tr_isLastPart 34 = .ok (.goto 4, 3) := by decide +kernel
theorem d_Tr_isLastPart_37 : decode b_Tr_isLastPart 37 = .ok (.iconst 0, 1) := by decide +kernel
theorem d_Tr_isLastPart_38 : decode b_Tr_isLastPart 38 = .ok (.ireturn, 1) := by decide +kernel
noncomputable def Tr_isLastPart_b37 (t_sizes : (Nat → Int32)) (t_wholes : (Nat → Int32)) (t_count : Int32)  : Option Int32 := some (vp_nar .boolean (0 : Int32))
noncomputable def f_Tr_isLastPart (t_sizes : (Nat → Int32)) (t_wholes : (Nat → Int32)) (t_count : Int32)  (a1 : Int32) : Option Int32 := jb (f_Tr_wholeOf t_wholes t_count a1) (fun o5 => jb (f_Tr_has t_count o5) (fun o7 => if o7 = 0 then (Tr_isLastPart_b37 t_sizes t_wholes t_count) else (if a1 < 0 ∨ 8001 ≤ a1.toNatClampNeg then none else (if o5 < 0 ∨ 8001 ≤ o5.toNatClampNeg then none else (if (a1 + (t_sizes a1.toNatClampNeg)) = (o5 + (t_sizes o5.toNatClampNeg)) then (some (vp_nar .boolean (1 : Int32))) else (Tr_isLastPart_b37 t_sizes t_wholes t_count))))))
set_option maxHeartbeats 4000000 in
set_option maxRecDepth 100000 in
theorem c_Tr_isLastPart {l : Launch} {dC : Nat → ClassId} {dI : Nat → Nat → Nat} {cI cB cS : ClassId} {adK adV adR : Nat → Nat} (h_t h_t_kinds h_t_places h_t_values h_t_sizes h_t_partCounts h_t_wholes : Nat) (t_kinds : (Nat → Int32)) (t_places : (Nat → Int32)) (t_values : (Nat → Int32)) (t_sizes : (Nat → Int32)) (t_partCounts : (Nat → Int32)) (t_wholes : (Nat → Int32)) (t_count : Int32) (a1 : Int32) {o : Int32} (hf : f_Tr_isLastPart t_sizes t_wholes t_count a1 = some o) : jMet l dC dI cI cB cS adK adV adR y_Tr_isLastPart wd_Tr_isLastPart { frames := 2, cells := 0, slots := 0, locals := 42 } [.ref h_t, .int a1] [(h_t, .inr (5, [.ref h_t_kinds, .ref h_t_places, .ref h_t_values, .ref h_t_sizes, .ref h_t_partCounts, .ref h_t_wholes, .int t_count])), (h_t_kinds, .inl (cI, 8001, .inl t_kinds)), (h_t_places, .inl (cI, 8001, .inl t_places)), (h_t_values, .inl (cI, 8001, .inl t_values)), (h_t_sizes, .inl (cI, 8001, .inl t_sizes)), (h_t_partCounts, .inl (cI, 8001, .inl t_partCounts)), (h_t_wholes, .inl (cI, 8001, .inl t_wholes))] (some (.int o)) (fun q => [(h_t, .inr (5, [.ref h_t_kinds, .ref h_t_places, .ref h_t_values, .ref h_t_sizes, .ref h_t_partCounts, .ref h_t_wholes, .int t_count])), (h_t_kinds, .inl (cI, 8001, .inl t_kinds)), (h_t_places, .inl (cI, 8001, .inl t_places)), (h_t_values, .inl (cI, 8001, .inl t_values)), (h_t_sizes, .inl (cI, 8001, .inl t_sizes)), (h_t_partCounts, .inl (cI, 8001, .inl t_partCounts)), (h_t_wholes, .inl (cI, 8001, .inl t_wholes))]) 0 0 := by
  refine jEntry (cc := b_Tr_isLastPart) (maxL := 3) (ret := (some .boolean)) (by decide) rfl (Nat.le_of_ble_eq_true rfl) rfl (fun p e s m args below meth c A H locs ls Q hQ hx hb hr hml hown hts hlocks hnm hJ hA hP hD hS hl => ?_)
  have hK := hJ.K
  have hl : lv_has ls 3 [(0, .ref h_t), (1, .int a1)] := hl
  have B37 : ∀  (H : Heap) (locs : List Loc) (ls : Array Slot), Tr_isLastPart_b37 t_sizes t_wholes t_count = some o → va_P (dC, dI) vwCl [(h_t, .inr (5, [.ref h_t_kinds, .ref h_t_places, .ref h_t_values, .ref h_t_sizes, .ref h_t_partCounts, .ref h_t_wholes, .int t_count])), (h_t_kinds, .inl (cI, 8001, .inl t_kinds)), (h_t_places, .inl (cI, 8001, .inl t_places)), (h_t_values, .inl (cI, 8001, .inl t_values)), (h_t_sizes, .inl (cI, 8001, .inl t_sizes)), (h_t_partCounts, .inl (cI, 8001, .inl t_partCounts)), (h_t_wholes, .inl (cI, 8001, .inl t_wholes))] H → va_D A [(h_t, .inr (5, [.ref h_t_kinds, .ref h_t_places, .ref h_t_values, .ref h_t_sizes, .ref h_t_partCounts, .ref h_t_wholes, .int t_count])), (h_t_kinds, .inl (cI, 8001, .inl t_kinds)), (h_t_places, .inl (cI, 8001, .inl t_places)), (h_t_values, .inl (cI, 8001, .inl t_values)), (h_t_sizes, .inl (cI, 8001, .inl t_sizes)), (h_t_partCounts, .inl (cI, 8001, .inl t_partCounts)), (h_t_wholes, .inl (cI, 8001, .inl t_wholes))] → va_S A s.heap H locs → lv_has ls 3 [] → W p l e { frames := 2, cells := 0, slots := 0, locals := 42 } s m args below meth c H locs 0 0 Q (F0 m 37 ls []) := by
    intro  H locs ls hf hP hD hS hl
    unfold Tr_isLastPart_b37 at hf
    refine lv_iconst (v := (0 : Int32)) hx hb d_Tr_isLastPart_37 (by decide) ?_
    have hf : (some (vp_nar .boolean (0 : Int32)) : Option Int32) = some o := hf
    rw [hQ, ← Option.some.inj hf]
    exact jNret hx hb hr rfl hlocks d_Tr_isLastPart_38 (fun _ => 0) hS hP hD
  unfold f_Tr_isLastPart at hf
  refine lv_aload_n hx hb d_Tr_isLastPart_0 rfl (lv_at hl 0 rfl) ?_
  refine lv_iload_n hx hb d_Tr_isLastPart_1 rfl (lv_at hl 1 rfl) ?_
  obtain ⟨o9, ho9⟩ : ∃ z, f_Tr_wholeOf t_wholes t_count a1 = some z := by
    cases hz : f_Tr_wholeOf t_wholes t_count a1 with
    | none => rw [hz] at hf; simp only [jb_none, jl_b_none, jm_none, reduceCtorEq] at hf
    | some z => exact ⟨z, rfl⟩
  rw [ho9, jb_some] at hf
  refine jCallV (As := [.int a1]) (rest := []) (wr := []) ⟨hx, hb, hml, hown, hts⟩ hJ (c_Tr_wholeOf h_t h_t_kinds h_t_places h_t_values h_t_sizes h_t_partCounts h_t_wholes t_kinds t_places t_values t_sizes t_partCounts t_wholes t_count a1 ho9) (cwV 1 hts (jgV jw156 jw158 jw159 jw153 jw157) rfl rfl rfl dd_Tr_wholeOf ⟨Nat.le_of_ble_eq_true rfl, Nat.le_of_ble_eq_true rfl⟩) hP hD hS hA (va_recv hK hP (ci := 5) (q0 := 0) rfl rfl) [0, 1, 2, 3, 4, 5, 6] [] rfl rfl (by decide) (by decide) (by decide) rfl hl.1 rfl (Nat.le_of_ble_eq_true rfl) d_Tr_isLastPart_2 ⟨Nat.le_of_ble_eq_true rfl, Nat.le_of_ble_eq_true rfl⟩ (fun qz10 H locs hP hD hS => ?_)
  have hP : va_P (dC, dI) vwCl [(h_t, .inr (5, [.ref h_t_kinds, .ref h_t_places, .ref h_t_values, .ref h_t_sizes, .ref h_t_partCounts, .ref h_t_wholes, .int t_count])), (h_t_kinds, .inl (cI, 8001, .inl t_kinds)), (h_t_places, .inl (cI, 8001, .inl t_places)), (h_t_values, .inl (cI, 8001, .inl t_values)), (h_t_sizes, .inl (cI, 8001, .inl t_sizes)), (h_t_partCounts, .inl (cI, 8001, .inl t_partCounts)), (h_t_wholes, .inl (cI, 8001, .inl t_wholes))] H := hP
  have hD : va_D A [(h_t, .inr (5, [.ref h_t_kinds, .ref h_t_places, .ref h_t_values, .ref h_t_sizes, .ref h_t_partCounts, .ref h_t_wholes, .int t_count])), (h_t_kinds, .inl (cI, 8001, .inl t_kinds)), (h_t_places, .inl (cI, 8001, .inl t_places)), (h_t_values, .inl (cI, 8001, .inl t_values)), (h_t_sizes, .inl (cI, 8001, .inl t_sizes)), (h_t_partCounts, .inl (cI, 8001, .inl t_partCounts)), (h_t_wholes, .inl (cI, 8001, .inl t_wholes))] := hD
  refine lv_istore_n (lv' := [(2, .int o9), (0, .ref h_t), (1, .int a1)]) hx hb d_Tr_isLastPart_5 rfl hl (by decide) rfl (fun ls hl => ?_)
  refine lv_aload_n hx hb d_Tr_isLastPart_6 rfl (lv_at hl 1 rfl) ?_
  refine lv_iload_n hx hb d_Tr_isLastPart_7 rfl (lv_at hl 0 rfl) ?_
  obtain ⟨o11, ho11⟩ : ∃ z, f_Tr_has t_count o9 = some z := by
    cases hz : f_Tr_has t_count o9 with
    | none => rw [hz] at hf; simp only [jb_none, jl_b_none, jm_none, reduceCtorEq] at hf
    | some z => exact ⟨z, rfl⟩
  rw [ho11, jb_some] at hf
  refine jCallV (As := [.int o9]) (rest := []) (wr := []) ⟨hx, hb, hml, hown, hts⟩ hJ (c_Tr_has h_t h_t_kinds h_t_places h_t_values h_t_sizes h_t_partCounts h_t_wholes t_kinds t_places t_values t_sizes t_partCounts t_wholes t_count o9 ho11) (cwV 1 hts (jgV jw151 jw154 jw155 jw153 jw152) rfl rfl rfl dd_Tr_has ⟨Nat.le_of_ble_eq_true rfl, Nat.le_of_ble_eq_true rfl⟩) hP hD hS hA (va_recv hK hP (ci := 5) (q0 := 0) rfl rfl) [0, 1, 2, 3, 4, 5, 6] [] rfl rfl (by decide) (by decide) (by decide) rfl hl.1 rfl (Nat.le_of_ble_eq_true rfl) d_Tr_isLastPart_8 ⟨Nat.le_of_ble_eq_true rfl, Nat.le_of_ble_eq_true rfl⟩ (fun qz12 H locs hP hD hS => ?_)
  have hP : va_P (dC, dI) vwCl [(h_t, .inr (5, [.ref h_t_kinds, .ref h_t_places, .ref h_t_values, .ref h_t_sizes, .ref h_t_partCounts, .ref h_t_wholes, .int t_count])), (h_t_kinds, .inl (cI, 8001, .inl t_kinds)), (h_t_places, .inl (cI, 8001, .inl t_places)), (h_t_values, .inl (cI, 8001, .inl t_values)), (h_t_sizes, .inl (cI, 8001, .inl t_sizes)), (h_t_partCounts, .inl (cI, 8001, .inl t_partCounts)), (h_t_wholes, .inl (cI, 8001, .inl t_wholes))] H := hP
  have hD : va_D A [(h_t, .inr (5, [.ref h_t_kinds, .ref h_t_places, .ref h_t_values, .ref h_t_sizes, .ref h_t_partCounts, .ref h_t_wholes, .int t_count])), (h_t_kinds, .inl (cI, 8001, .inl t_kinds)), (h_t_places, .inl (cI, 8001, .inl t_places)), (h_t_values, .inl (cI, 8001, .inl t_values)), (h_t_sizes, .inl (cI, 8001, .inl t_sizes)), (h_t_partCounts, .inl (cI, 8001, .inl t_partCounts)), (h_t_wholes, .inl (cI, 8001, .inl t_wholes))] := hD
  refine lv_if_eq (tgt := 37) hx hb d_Tr_isLastPart_11 (by decide) (fun c11 => ?_) (fun c11 => ?_)
  · rw [if_pos c11] at hf
    exact B37  H locs ls hf hP hD hS (lv_sub hl [] rfl)
  · rw [if_neg c11] at hf
    refine lv_iload_n hx hb d_Tr_isLastPart_14 rfl (lv_at hl 2 rfl) ?_
    refine lv_aload_n hx hb d_Tr_isLastPart_15 rfl (lv_at hl 1 rfl) ?_
    refine va_get (D := (dC, dI)) (ci := 5) (v := .ref h_t_sizes) (C := R_Tr) (T := T_Tr) (N := 7) hx hb hts (fun w h => List.mem_cons_of_mem _ (in_Tr w h)) hown hK hP 0 rfl rfl 3 (by decide) (hts _ (List.mem_cons_of_mem _ jw143)) (fun _ h9 => h9) rfl d_Tr_isLastPart_16 ?_
    refine lv_iload_n hx hb d_Tr_isLastPart_19 rfl (lv_at hl 2 rfl) ?_
    have c20 : ¬ (a1 < 0 ∨ 8001 ≤ a1.toNatClampNeg) := by intro z; rw [if_pos z] at hf; simp only [jb_none, jl_b_none, jm_none, reduceCtorEq] at hf
    rw [if_neg c20] at hf
    refine va_iald hx hb hK hP 4 0 rfl rfl c20 d_Tr_isLastPart_20 ?_
    refine lv_iadd hx hb d_Tr_isLastPart_21 ?_
    refine lv_iload_n hx hb d_Tr_isLastPart_22 rfl (lv_at hl 0 rfl) ?_
    refine lv_aload_n hx hb d_Tr_isLastPart_23 rfl (lv_at hl 1 rfl) ?_
    refine va_get (D := (dC, dI)) (ci := 5) (v := .ref h_t_sizes) (C := R_Tr) (T := T_Tr) (N := 7) hx hb hts (fun w h => List.mem_cons_of_mem _ (in_Tr w h)) hown hK hP 0 rfl rfl 3 (by decide) (hts _ (List.mem_cons_of_mem _ jw143)) (fun _ h9 => h9) rfl d_Tr_isLastPart_24 ?_
    refine lv_iload_n hx hb d_Tr_isLastPart_27 rfl (lv_at hl 0 rfl) ?_
    have c28 : ¬ (o9 < 0 ∨ 8001 ≤ o9.toNatClampNeg) := by intro z; rw [if_pos z] at hf; simp only [jb_none, jl_b_none, jm_none, reduceCtorEq] at hf
    rw [if_neg c28] at hf
    refine va_iald hx hb hK hP 4 0 rfl rfl c28 d_Tr_isLastPart_28 ?_
    refine lv_iadd hx hb d_Tr_isLastPart_29 ?_
    refine lv_icmp_ne (tgt := 37) hx hb d_Tr_isLastPart_30 (by decide) (fun c30 => ?_) (fun c30 => ?_)
    · rw [if_neg c30] at hf
      exact B37  H locs ls hf hP hD hS (lv_sub hl [] rfl)
    · rw [if_pos c30] at hf
      refine lv_iconst (v := (1 : Int32)) hx hb d_Tr_isLastPart_33 (by decide) ?_
      refine lv_goto (tgt := 38) hx hb d_Tr_isLastPart_34 (by decide) ?_
      have hf : (some (vp_nar .boolean (1 : Int32)) : Option Int32) = some o := hf
      rw [hQ, ← Option.some.inj hf]
      exact jNret hx hb hr rfl hlocks d_Tr_isLastPart_38 (fun _ => 0) hS hP hD
theorem d_Tr_numberNames_0 : decode b_Tr_numberNames 0 = .ok (.iconst 0, 1) := by decide +kernel
theorem d_Tr_numberNames_1 : decode b_Tr_numberNames 1 = .ok (.istore_n 3, 1) := by decide +kernel
theorem d_Tr_numberNames_2 : decode b_Tr_numberNames 2 = .ok (.iload_n 3, 1) := by decide +kernel
theorem d_Tr_numberNames_3 : decode b_Tr_numberNames 3 = .ok (.aload_n 0, 1) := by decide +kernel
theorem d_Tr_numberNames_4 : decode b_Tr_numberNames 4 = .ok (.getfield 32, 3) := by decide +kernel
theorem d_Tr_numberNames_7 : decode b_Tr_numberNames 7 = .ok (.if_icmp .ge 54, 3) := by decide +kernel
theorem d_Tr_numberNames_10 : decode b_Tr_numberNames 10 = .ok (.aload_n 0, 1) := by decide +kernel
theorem d_Tr_numberNames_11 : decode b_Tr_numberNames 11 = .ok (.getfield 9, 3) := by decide +kernel
theorem d_Tr_numberNames_14 : decode b_Tr_numberNames 14 = .ok (.iload_n 3, 1) := by decide +kernel
theorem d_Tr_numberNames_15 : decode b_Tr_numberNames 15 = .ok (.iaload, 1) := by decide +kernel
theorem d_Tr_numberNames_16 : decode b_Tr_numberNames 16 = .ok (.bipush 9, 2) := by decide +kernel
theorem d_Tr_numberNames_18 : decode b_Tr_numberNames 18 = .ok (.if_icmp .eq 14, 3) := by decide +kernel
theorem d_Tr_numberNames_21 : decode b_Tr_numberNames 21 = .ok (.aload_n 0, 1) := by decide +kernel
theorem d_Tr_numberNames_22 : decode b_Tr_numberNames 22 = .ok (.getfield 9, 3) := by decide +kernel
theorem d_Tr_numberNames_25 : decode b_Tr_numberNames 25 = .ok (.iload_n 3, 1) := by decide +kernel
theorem d_Tr_numberNames_26 : decode b_Tr_numberNames 26 = .ok (.iaload, 1) := by decide +kernel
theorem d_Tr_numberNames_27 : decode b_Tr_numberNames 27 = .ok (.bipush 16, 2) := by decide +kernel
theorem d_Tr_numberNames_29 : decode b_Tr_numberNames 29 = .ok (.if_icmp .ne 26, 3) := by decide +kernel
theorem d_Tr_numberNames_32 : decode b_Tr_numberNames 32 = .ok (.aload_n 0, 1) := by decide +kernel
theorem d_Tr_numberNames_33 : decode b_Tr_numberNames 33 = .ok (.getfield 18, 3) := by decide +kernel
theorem d_Tr_numberNames_36 : decode b_Tr_numberNames 36 = .ok (.iload_n 3, 1) := by decide +kernel
theorem d_Tr_numberNames_37 : decode b_Tr_numberNames 37 = .ok (.aload_n 1, 1) := by decide +kernel
theorem d_Tr_numberNames_38 : decode b_Tr_numberNames 38 = .ok (.aload_n 2, 1) := by decide +kernel
theorem d_Tr_numberNames_39 : decode b_Tr_numberNames 39 = .ok (.aload_n 0, 1) := by decide +kernel
theorem d_Tr_numberNames_40 : decode b_Tr_numberNames 40 = .ok (.getfield 15, 3) := by decide +kernel
theorem d_Tr_numberNames_43 : decode b_Tr_numberNames 43 = .ok (.iload_n 3, 1) := by decide +kernel
theorem d_Tr_numberNames_44 : decode b_Tr_numberNames 44 = .ok (.iaload, 1) := by decide +kernel
theorem d_Tr_numberNames_45 : decode b_Tr_numberNames 45 = .ok (.aload_n 0, 1) := by decide +kernel
theorem d_Tr_numberNames_46 : decode b_Tr_numberNames 46 = .ok (.getfield 18, 3) := by decide +kernel
theorem d_Tr_numberNames_49 : decode b_Tr_numberNames 49 = .ok (.iload_n 3, 1) := by decide +kernel
theorem d_Tr_numberNames_50 : decode b_Tr_numberNames 50 = .ok (.iaload, 1) := by decide +kernel
theorem d_Tr_numberNames_51 : decode b_Tr_numberNames 51 = .ok (.invokevirtual 50, 3) := by decide +kernel
theorem d_Tr_numberNames_54 : decode b_Tr_numberNames 54 = .ok (.iastore, 1) := by decide +kernel
theorem d_Tr_numberNames_55 : decode b_Tr_numberNames 55 = .ok (.iinc 3 1, 3) := by decide +kernel
theorem d_Tr_numberNames_58 : decode b_Tr_numberNames 58 = .ok (.goto (-56), 3) := by decide +kernel
theorem d_Tr_numberNames_61 : decode b_Tr_numberNames 61 = .ok (.return_, 1) := by decide +kernel
noncomputable def Tr_numberNames_b55 (t_kinds : (Nat → Int32)) (t_places : (Nat → Int32)) (t_count : Int32) (p2_row : (Nat → Int32)) (p2_length : Int32) (t_values : (Nat → Int32)) (p1_spelling : (Nat → Int32)) (p1_starts : (Nat → Int32)) (p1_newest : (Nat → Int32)) (p1_older : (Nat → Int32)) (p1_count : Int32) (l3 : Int32) : Option (((Nat → Int32) × (Nat → Int32) × (Nat → Int32) × (Nat → Int32) × (Nat → Int32) × Int32 × Int32) ⊕ ((Nat → Int32) × (Nat → Int32) × (Nat → Int32) × (Nat → Int32) × (Nat → Int32) × Int32)) := some (.inl (t_values, p1_spelling, p1_starts, p1_newest, p1_older, p1_count, (l3 + (1 : Int32))))
noncomputable def Tr_numberNames_b32 (t_kinds : (Nat → Int32)) (t_places : (Nat → Int32)) (t_count : Int32) (p2_row : (Nat → Int32)) (p2_length : Int32) (t_values : (Nat → Int32)) (p1_spelling : (Nat → Int32)) (p1_starts : (Nat → Int32)) (p1_newest : (Nat → Int32)) (p1_older : (Nat → Int32)) (p1_count : Int32) (l3 : Int32) : Option (((Nat → Int32) × (Nat → Int32) × (Nat → Int32) × (Nat → Int32) × (Nat → Int32) × Int32 × Int32) ⊕ ((Nat → Int32) × (Nat → Int32) × (Nat → Int32) × (Nat → Int32) × (Nat → Int32) × Int32)) := if l3 < 0 ∨ 8001 ≤ l3.toNatClampNeg then none else (if l3 < 0 ∨ 8001 ≤ l3.toNatClampNeg then none else (jb (f_Na_numberOf p2_row p2_length p1_spelling p1_starts p1_newest p1_older p1_count (t_places l3.toNatClampNeg) (t_values l3.toNatClampNeg)) (fun o3 => if l3 < 0 ∨ 8001 ≤ l3.toNatClampNeg then none else (Tr_numberNames_b55 t_kinds t_places t_count p2_row p2_length (upd t_values l3.toNatClampNeg o3.1) o3.2.1 o3.2.2.1 o3.2.2.2.1 o3.2.2.2.2.1 o3.2.2.2.2.2 l3))))
noncomputable def Tr_numberNames_b2_s (t_kinds : (Nat → Int32)) (t_places : (Nat → Int32)) (t_count : Int32) (p2_row : (Nat → Int32)) (p2_length : Int32)  (t_values : (Nat → Int32)) (p1_spelling : (Nat → Int32)) (p1_starts : (Nat → Int32)) (p1_newest : (Nat → Int32)) (p1_older : (Nat → Int32)) (p1_count : Int32) (l3 : Int32) : Option (((Nat → Int32) × (Nat → Int32) × (Nat → Int32) × (Nat → Int32) × (Nat → Int32) × Int32 × Int32) ⊕ ((Nat → Int32) × (Nat → Int32) × (Nat → Int32) × (Nat → Int32) × (Nat → Int32) × Int32)) := if t_count ≤ l3 then (some (.inr (t_values, p1_spelling, p1_starts, p1_newest, p1_older, p1_count))) else (if l3 < 0 ∨ 8001 ≤ l3.toNatClampNeg then none else (if (t_kinds l3.toNatClampNeg) = (9 : Int32) then (Tr_numberNames_b32 t_kinds t_places t_count p2_row p2_length t_values p1_spelling p1_starts p1_newest p1_older p1_count l3) else (if l3 < 0 ∨ 8001 ≤ l3.toNatClampNeg then none else (if (t_kinds l3.toNatClampNeg) = (16 : Int32) then (Tr_numberNames_b32 t_kinds t_places t_count p2_row p2_length t_values p1_spelling p1_starts p1_newest p1_older p1_count l3) else (Tr_numberNames_b55 t_kinds t_places t_count p2_row p2_length t_values p1_spelling p1_starts p1_newest p1_older p1_count l3)))))
noncomputable def Tr_numberNames_b2_b (t_kinds : (Nat → Int32)) (t_places : (Nat → Int32)) (t_count : Int32) (p2_row : (Nat → Int32)) (p2_length : Int32)  : ((Nat → Int32) × (Nat → Int32) × (Nat → Int32) × (Nat → Int32) × (Nat → Int32) × Int32 × Int32) → Option (((Nat → Int32) × (Nat → Int32) × (Nat → Int32) × (Nat → Int32) × (Nat → Int32) × Int32 × Int32) ⊕ ((Nat → Int32) × (Nat → Int32) × (Nat → Int32) × (Nat → Int32) × (Nat → Int32) × Int32)) := fun x => Tr_numberNames_b2_s t_kinds t_places t_count p2_row p2_length  x.1 x.2.1 x.2.2.1 x.2.2.2.1 x.2.2.2.2.1 x.2.2.2.2.2.1 x.2.2.2.2.2.2
noncomputable def Tr_numberNames_b2 (t_kinds : (Nat → Int32)) (t_places : (Nat → Int32)) (t_count : Int32) (p2_row : (Nat → Int32)) (p2_length : Int32) (t_values : (Nat → Int32)) (p1_spelling : (Nat → Int32)) (p1_starts : (Nat → Int32)) (p1_newest : (Nat → Int32)) (p1_older : (Nat → Int32)) (p1_count : Int32) (l3 : Int32) : Option ((Nat → Int32) × (Nat → Int32) × (Nat → Int32) × (Nat → Int32) × (Nat → Int32) × Int32) := jl (Tr_numberNames_b2_b t_kinds t_places t_count p2_row p2_length ) (t_values, p1_spelling, p1_starts, p1_newest, p1_older, p1_count, l3)
noncomputable def f_Tr_numberNames (t_kinds : (Nat → Int32)) (t_places : (Nat → Int32)) (t_count : Int32) (p2_row : (Nat → Int32)) (p2_length : Int32) (t_values : (Nat → Int32)) (p1_spelling : (Nat → Int32)) (p1_starts : (Nat → Int32)) (p1_newest : (Nat → Int32)) (p1_older : (Nat → Int32)) (p1_count : Int32)  : Option ((Nat → Int32) × (Nat → Int32) × (Nat → Int32) × (Nat → Int32) × (Nat → Int32) × Int32) := Tr_numberNames_b2 t_kinds t_places t_count p2_row p2_length t_values p1_spelling p1_starts p1_newest p1_older p1_count (0 : Int32)
set_option maxHeartbeats 4000000 in
set_option maxRecDepth 100000 in
theorem c_Tr_numberNames {l : Launch} {dC : Nat → ClassId} {dI : Nat → Nat → Nat} {cI cB cS : ClassId} {adK adV adR : Nat → Nat} (h_t h_t_kinds h_t_places h_t_values h_t_sizes h_t_partCounts h_t_wholes h_p1 h_p1_spelling h_p1_starts h_p1_newest h_p1_older h_p2 h_p2_row : Nat) (t_kinds : (Nat → Int32)) (t_places : (Nat → Int32)) (t_values : (Nat → Int32)) (t_sizes : (Nat → Int32)) (t_partCounts : (Nat → Int32)) (t_wholes : (Nat → Int32)) (t_count : Int32) (p1_spelling : (Nat → Int32)) (p1_starts : (Nat → Int32)) (p1_newest : (Nat → Int32)) (p1_older : (Nat → Int32)) (p1_count : Int32) (p2_row : (Nat → Int32)) (p2_length : Int32) (p2_overrun : Int32)  {o : ((Nat → Int32) × (Nat → Int32) × (Nat → Int32) × (Nat → Int32) × (Nat → Int32) × Int32)} (hf : f_Tr_numberNames t_kinds t_places t_count p2_row p2_length t_values p1_spelling p1_starts p1_newest p1_older p1_count = some o) : jMet l dC dI cI cB cS adK adV adR y_Tr_numberNames wd_Tr_numberNames { frames := 4, cells := 0, slots := 0, locals := 94 } [.ref h_t, .ref h_p1, .ref h_p2] [(h_t, .inr (5, [.ref h_t_kinds, .ref h_t_places, .ref h_t_values, .ref h_t_sizes, .ref h_t_partCounts, .ref h_t_wholes, .int t_count])), (h_t_kinds, .inl (cI, 8001, .inl t_kinds)), (h_t_places, .inl (cI, 8001, .inl t_places)), (h_t_values, .inl (cI, 8001, .inl t_values)), (h_t_sizes, .inl (cI, 8001, .inl t_sizes)), (h_t_partCounts, .inl (cI, 8001, .inl t_partCounts)), (h_t_wholes, .inl (cI, 8001, .inl t_wholes)), (h_p1, .inr (2, [.ref h_p1_spelling, .ref h_p1_starts, .ref h_p1_newest, .ref h_p1_older, .int p1_count])), (h_p1_spelling, .inl (cB, 12288, .inl p1_spelling)), (h_p1_starts, .inl (cI, 4097, .inl p1_starts)), (h_p1_newest, .inl (cI, 1024, .inl p1_newest)), (h_p1_older, .inl (cI, 4096, .inl p1_older)), (h_p2, .inr (0, [.ref h_p2_row, .int p2_length, .int p2_overrun])), (h_p2_row, .inl (cB, 8000, .inl p2_row))] (none) (fun q => [(h_t, .inr (5, [.ref h_t_kinds, .ref h_t_places, .ref h_t_values, .ref h_t_sizes, .ref h_t_partCounts, .ref h_t_wholes, .int t_count])), (h_t_kinds, .inl (cI, 8001, .inl t_kinds)), (h_t_places, .inl (cI, 8001, .inl t_places)), (h_t_values, .inl (cI, 8001, .inl o.1)), (h_t_sizes, .inl (cI, 8001, .inl t_sizes)), (h_t_partCounts, .inl (cI, 8001, .inl t_partCounts)), (h_t_wholes, .inl (cI, 8001, .inl t_wholes)), (h_p1, .inr (2, [.ref h_p1_spelling, .ref h_p1_starts, .ref h_p1_newest, .ref h_p1_older, .int o.2.2.2.2.2])), (h_p1_spelling, .inl (cB, 12288, .inl o.2.1)), (h_p1_starts, .inl (cI, 4097, .inl o.2.2.1)), (h_p1_newest, .inl (cI, 1024, .inl o.2.2.2.1)), (h_p1_older, .inl (cI, 4096, .inl o.2.2.2.2.1)), (h_p2, .inr (0, [.ref h_p2_row, .int p2_length, .int p2_overrun])), (h_p2_row, .inl (cB, 8000, .inl p2_row))]) 0 0 := by
  refine jEntry (cc := b_Tr_numberNames) (maxL := 4) (ret := none) (by decide) rfl (Nat.le_of_ble_eq_true rfl) rfl (fun p e s m args below meth c A H locs ls Q hQ hx hb hr hml hown hts hlocks hnm hJ hA hP hD hS hl => ?_)
  have hK := hJ.K
  have hl : lv_has ls 4 [(0, .ref h_t), (1, .ref h_p1), (2, .ref h_p2)] := hl
  have L2 : ∀ (n2 : Nat) (t_values : (Nat → Int32)) (p1_spelling : (Nat → Int32)) (p1_starts : (Nat → Int32)) (p1_newest : (Nat → Int32)) (p1_older : (Nat → Int32)) (p1_count : Int32) (l3 : Int32) (H : Heap) (locs : List Loc) (ls : Array Slot), jl_n (Tr_numberNames_b2_b t_kinds t_places t_count p2_row p2_length) n2 (t_values, p1_spelling, p1_starts, p1_newest, p1_older, p1_count, l3) = some o → va_P (dC, dI) vwCl [(h_t, .inr (5, [.ref h_t_kinds, .ref h_t_places, .ref h_t_values, .ref h_t_sizes, .ref h_t_partCounts, .ref h_t_wholes, .int t_count])), (h_t_kinds, .inl (cI, 8001, .inl t_kinds)), (h_t_places, .inl (cI, 8001, .inl t_places)), (h_t_values, .inl (cI, 8001, .inl t_values)), (h_t_sizes, .inl (cI, 8001, .inl t_sizes)), (h_t_partCounts, .inl (cI, 8001, .inl t_partCounts)), (h_t_wholes, .inl (cI, 8001, .inl t_wholes)), (h_p1, .inr (2, [.ref h_p1_spelling, .ref h_p1_starts, .ref h_p1_newest, .ref h_p1_older, .int p1_count])), (h_p1_spelling, .inl (cB, 12288, .inl p1_spelling)), (h_p1_starts, .inl (cI, 4097, .inl p1_starts)), (h_p1_newest, .inl (cI, 1024, .inl p1_newest)), (h_p1_older, .inl (cI, 4096, .inl p1_older)), (h_p2, .inr (0, [.ref h_p2_row, .int p2_length, .int p2_overrun])), (h_p2_row, .inl (cB, 8000, .inl p2_row))] H → va_D A [(h_t, .inr (5, [.ref h_t_kinds, .ref h_t_places, .ref h_t_values, .ref h_t_sizes, .ref h_t_partCounts, .ref h_t_wholes, .int t_count])), (h_t_kinds, .inl (cI, 8001, .inl t_kinds)), (h_t_places, .inl (cI, 8001, .inl t_places)), (h_t_values, .inl (cI, 8001, .inl t_values)), (h_t_sizes, .inl (cI, 8001, .inl t_sizes)), (h_t_partCounts, .inl (cI, 8001, .inl t_partCounts)), (h_t_wholes, .inl (cI, 8001, .inl t_wholes)), (h_p1, .inr (2, [.ref h_p1_spelling, .ref h_p1_starts, .ref h_p1_newest, .ref h_p1_older, .int p1_count])), (h_p1_spelling, .inl (cB, 12288, .inl p1_spelling)), (h_p1_starts, .inl (cI, 4097, .inl p1_starts)), (h_p1_newest, .inl (cI, 1024, .inl p1_newest)), (h_p1_older, .inl (cI, 4096, .inl p1_older)), (h_p2, .inr (0, [.ref h_p2_row, .int p2_length, .int p2_overrun])), (h_p2_row, .inl (cB, 8000, .inl p2_row))] → va_S A s.heap H locs → lv_has ls 4 [(0, .ref h_t), (1, .ref h_p1), (2, .ref h_p2), (3, .int l3)] → W p l e { frames := 4, cells := 0, slots := 0, locals := 94 } s m args below meth c H locs 0 0 Q (F0 m 2 ls []) := by
    intro n2
    induction n2 with
    | zero => intro t_values p1_spelling p1_starts p1_newest p1_older p1_count l3 H locs ls hf; simp only [jl_n_zero, jl_b_none, reduceCtorEq] at hf
    | succ n2 ih2 =>
      intro t_values p1_spelling p1_starts p1_newest p1_older p1_count l3 H locs ls hf hP hD hS hl
      rw [jl_n_succ] at hf
      have hf : jl_b (jl_n (Tr_numberNames_b2_b t_kinds t_places t_count p2_row p2_length) n2) (Tr_numberNames_b2_s t_kinds t_places t_count p2_row p2_length t_values p1_spelling p1_starts p1_newest p1_older p1_count l3) = some o := hf
      have B55 : ∀ (t_values : (Nat → Int32)) (p1_spelling : (Nat → Int32)) (p1_starts : (Nat → Int32)) (p1_newest : (Nat → Int32)) (p1_older : (Nat → Int32)) (p1_count : Int32) (l3 : Int32) (H : Heap) (locs : List Loc) (ls : Array Slot), jl_b (jl_n (Tr_numberNames_b2_b t_kinds t_places t_count p2_row p2_length) n2) (Tr_numberNames_b55 t_kinds t_places t_count p2_row p2_length t_values p1_spelling p1_starts p1_newest p1_older p1_count l3) = some o → va_P (dC, dI) vwCl [(h_t, .inr (5, [.ref h_t_kinds, .ref h_t_places, .ref h_t_values, .ref h_t_sizes, .ref h_t_partCounts, .ref h_t_wholes, .int t_count])), (h_t_kinds, .inl (cI, 8001, .inl t_kinds)), (h_t_places, .inl (cI, 8001, .inl t_places)), (h_t_values, .inl (cI, 8001, .inl t_values)), (h_t_sizes, .inl (cI, 8001, .inl t_sizes)), (h_t_partCounts, .inl (cI, 8001, .inl t_partCounts)), (h_t_wholes, .inl (cI, 8001, .inl t_wholes)), (h_p1, .inr (2, [.ref h_p1_spelling, .ref h_p1_starts, .ref h_p1_newest, .ref h_p1_older, .int p1_count])), (h_p1_spelling, .inl (cB, 12288, .inl p1_spelling)), (h_p1_starts, .inl (cI, 4097, .inl p1_starts)), (h_p1_newest, .inl (cI, 1024, .inl p1_newest)), (h_p1_older, .inl (cI, 4096, .inl p1_older)), (h_p2, .inr (0, [.ref h_p2_row, .int p2_length, .int p2_overrun])), (h_p2_row, .inl (cB, 8000, .inl p2_row))] H → va_D A [(h_t, .inr (5, [.ref h_t_kinds, .ref h_t_places, .ref h_t_values, .ref h_t_sizes, .ref h_t_partCounts, .ref h_t_wholes, .int t_count])), (h_t_kinds, .inl (cI, 8001, .inl t_kinds)), (h_t_places, .inl (cI, 8001, .inl t_places)), (h_t_values, .inl (cI, 8001, .inl t_values)), (h_t_sizes, .inl (cI, 8001, .inl t_sizes)), (h_t_partCounts, .inl (cI, 8001, .inl t_partCounts)), (h_t_wholes, .inl (cI, 8001, .inl t_wholes)), (h_p1, .inr (2, [.ref h_p1_spelling, .ref h_p1_starts, .ref h_p1_newest, .ref h_p1_older, .int p1_count])), (h_p1_spelling, .inl (cB, 12288, .inl p1_spelling)), (h_p1_starts, .inl (cI, 4097, .inl p1_starts)), (h_p1_newest, .inl (cI, 1024, .inl p1_newest)), (h_p1_older, .inl (cI, 4096, .inl p1_older)), (h_p2, .inr (0, [.ref h_p2_row, .int p2_length, .int p2_overrun])), (h_p2_row, .inl (cB, 8000, .inl p2_row))] → va_S A s.heap H locs → lv_has ls 4 [(0, .ref h_t), (1, .ref h_p1), (2, .ref h_p2), (3, .int l3)] → W p l e { frames := 4, cells := 0, slots := 0, locals := 94 } s m args below meth c H locs 0 0 Q (F0 m 55 ls []) := by
        intro t_values p1_spelling p1_starts p1_newest p1_older p1_count l3 H locs ls hf hP hD hS hl
        unfold Tr_numberNames_b55 at hf
        refine lv_iinc (v := l3 + (1 : Int32)) (lv' := [(3, .int (l3 + (1 : Int32))), (0, .ref h_t), (1, .ref h_p1), (2, .ref h_p2)]) hx hb d_Tr_numberNames_55 hl (k := 3) rfl rfl (by decide) rfl (fun ls hl => ?_)
        refine lv_goto (tgt := 2) hx hb d_Tr_numberNames_58 (by decide) ?_
        exact ih2 t_values p1_spelling p1_starts p1_newest p1_older p1_count (l3 + (1 : Int32)) H locs ls hf hP hD hS (lv_sub hl [1, 2, 3, 0] rfl)
      have B32 : ∀ (t_values : (Nat → Int32)) (p1_spelling : (Nat → Int32)) (p1_starts : (Nat → Int32)) (p1_newest : (Nat → Int32)) (p1_older : (Nat → Int32)) (p1_count : Int32) (l3 : Int32) (H : Heap) (locs : List Loc) (ls : Array Slot), jl_b (jl_n (Tr_numberNames_b2_b t_kinds t_places t_count p2_row p2_length) n2) (Tr_numberNames_b32 t_kinds t_places t_count p2_row p2_length t_values p1_spelling p1_starts p1_newest p1_older p1_count l3) = some o → va_P (dC, dI) vwCl [(h_t, .inr (5, [.ref h_t_kinds, .ref h_t_places, .ref h_t_values, .ref h_t_sizes, .ref h_t_partCounts, .ref h_t_wholes, .int t_count])), (h_t_kinds, .inl (cI, 8001, .inl t_kinds)), (h_t_places, .inl (cI, 8001, .inl t_places)), (h_t_values, .inl (cI, 8001, .inl t_values)), (h_t_sizes, .inl (cI, 8001, .inl t_sizes)), (h_t_partCounts, .inl (cI, 8001, .inl t_partCounts)), (h_t_wholes, .inl (cI, 8001, .inl t_wholes)), (h_p1, .inr (2, [.ref h_p1_spelling, .ref h_p1_starts, .ref h_p1_newest, .ref h_p1_older, .int p1_count])), (h_p1_spelling, .inl (cB, 12288, .inl p1_spelling)), (h_p1_starts, .inl (cI, 4097, .inl p1_starts)), (h_p1_newest, .inl (cI, 1024, .inl p1_newest)), (h_p1_older, .inl (cI, 4096, .inl p1_older)), (h_p2, .inr (0, [.ref h_p2_row, .int p2_length, .int p2_overrun])), (h_p2_row, .inl (cB, 8000, .inl p2_row))] H → va_D A [(h_t, .inr (5, [.ref h_t_kinds, .ref h_t_places, .ref h_t_values, .ref h_t_sizes, .ref h_t_partCounts, .ref h_t_wholes, .int t_count])), (h_t_kinds, .inl (cI, 8001, .inl t_kinds)), (h_t_places, .inl (cI, 8001, .inl t_places)), (h_t_values, .inl (cI, 8001, .inl t_values)), (h_t_sizes, .inl (cI, 8001, .inl t_sizes)), (h_t_partCounts, .inl (cI, 8001, .inl t_partCounts)), (h_t_wholes, .inl (cI, 8001, .inl t_wholes)), (h_p1, .inr (2, [.ref h_p1_spelling, .ref h_p1_starts, .ref h_p1_newest, .ref h_p1_older, .int p1_count])), (h_p1_spelling, .inl (cB, 12288, .inl p1_spelling)), (h_p1_starts, .inl (cI, 4097, .inl p1_starts)), (h_p1_newest, .inl (cI, 1024, .inl p1_newest)), (h_p1_older, .inl (cI, 4096, .inl p1_older)), (h_p2, .inr (0, [.ref h_p2_row, .int p2_length, .int p2_overrun])), (h_p2_row, .inl (cB, 8000, .inl p2_row))] → va_S A s.heap H locs → lv_has ls 4 [(0, .ref h_t), (1, .ref h_p1), (2, .ref h_p2), (3, .int l3)] → W p l e { frames := 4, cells := 0, slots := 0, locals := 94 } s m args below meth c H locs 0 0 Q (F0 m 32 ls []) := by
        intro t_values p1_spelling p1_starts p1_newest p1_older p1_count l3 H locs ls hf hP hD hS hl
        unfold Tr_numberNames_b32 at hf
        refine lv_aload_n hx hb d_Tr_numberNames_32 rfl (lv_at hl 0 rfl) ?_
        refine va_get (D := (dC, dI)) (ci := 5) (v := .ref h_t_values) (C := R_Tr) (T := T_Tr) (N := 7) hx hb hts (fun w h => List.mem_cons_of_mem _ (in_Tr w h)) hown hK hP 0 rfl rfl 2 (by decide) (hts _ (List.mem_cons_of_mem _ jw142)) (fun _ h9 => h9) rfl d_Tr_numberNames_33 ?_
        refine lv_iload_n hx hb d_Tr_numberNames_36 rfl (lv_at hl 3 rfl) ?_
        refine lv_aload_n hx hb d_Tr_numberNames_37 rfl (lv_at hl 1 rfl) ?_
        refine lv_aload_n hx hb d_Tr_numberNames_38 rfl (lv_at hl 2 rfl) ?_
        refine lv_aload_n hx hb d_Tr_numberNames_39 rfl (lv_at hl 0 rfl) ?_
        refine va_get (D := (dC, dI)) (ci := 5) (v := .ref h_t_places) (C := R_Tr) (T := T_Tr) (N := 7) hx hb hts (fun w h => List.mem_cons_of_mem _ (in_Tr w h)) hown hK hP 0 rfl rfl 1 (by decide) (hts _ (List.mem_cons_of_mem _ jw141)) (fun _ h9 => h9) rfl d_Tr_numberNames_40 ?_
        refine lv_iload_n hx hb d_Tr_numberNames_43 rfl (lv_at hl 3 rfl) ?_
        have c44 : ¬ (l3 < 0 ∨ 8001 ≤ l3.toNatClampNeg) := by intro z; rw [if_pos z] at hf; simp only [jb_none, jl_b_none, jm_none, reduceCtorEq] at hf
        rw [if_neg c44] at hf
        refine va_iald hx hb hK hP 2 0 rfl rfl c44 d_Tr_numberNames_44 ?_
        refine lv_aload_n hx hb d_Tr_numberNames_45 rfl (lv_at hl 0 rfl) ?_
        refine va_get (D := (dC, dI)) (ci := 5) (v := .ref h_t_values) (C := R_Tr) (T := T_Tr) (N := 7) hx hb hts (fun w h => List.mem_cons_of_mem _ (in_Tr w h)) hown hK hP 0 rfl rfl 2 (by decide) (hts _ (List.mem_cons_of_mem _ jw142)) (fun _ h9 => h9) rfl d_Tr_numberNames_46 ?_
        refine lv_iload_n hx hb d_Tr_numberNames_49 rfl (lv_at hl 3 rfl) ?_
        have c50 : ¬ (l3 < 0 ∨ 8001 ≤ l3.toNatClampNeg) := by intro z; rw [if_pos z] at hf; simp only [jb_none, jl_b_none, jm_none, reduceCtorEq] at hf
        rw [if_neg c50] at hf
        refine va_iald hx hb hK hP 3 0 rfl rfl c50 d_Tr_numberNames_50 ?_
        obtain ⟨o5, ho5⟩ : ∃ z, f_Na_numberOf p2_row p2_length p1_spelling p1_starts p1_newest p1_older p1_count (t_places l3.toNatClampNeg) (t_values l3.toNatClampNeg) = some z := by
          cases hz : f_Na_numberOf p2_row p2_length p1_spelling p1_starts p1_newest p1_older p1_count (t_places l3.toNatClampNeg) (t_values l3.toNatClampNeg) with
          | none => rw [hz] at hf; simp only [jb_none, jl_b_none, jm_none, reduceCtorEq] at hf
          | some z => exact ⟨z, rfl⟩
        rw [ho5, jb_some] at hf
        refine jCallV (As := [.ref h_p2, .int (t_places l3.toNatClampNeg), .int (t_values l3.toNatClampNeg)]) (rest := [.int l3, .ref h_t_values]) (wr := [(h_t, .inr (5, [.ref h_t_kinds, .ref h_t_places, .ref h_t_values, .ref h_t_sizes, .ref h_t_partCounts, .ref h_t_wholes, .int t_count])), (h_t_kinds, .inl (cI, 8001, .inl t_kinds)), (h_t_places, .inl (cI, 8001, .inl t_places)), (h_t_values, .inl (cI, 8001, .inl t_values)), (h_t_sizes, .inl (cI, 8001, .inl t_sizes)), (h_t_partCounts, .inl (cI, 8001, .inl t_partCounts)), (h_t_wholes, .inl (cI, 8001, .inl t_wholes))]) ⟨hx, hb, hml, hown, hts⟩ hJ (c_Na_numberOf h_p1 h_p1_spelling h_p1_starts h_p1_newest h_p1_older h_p2 h_p2_row p1_spelling p1_starts p1_newest p1_older p1_count p2_row p2_length p2_overrun (t_places l3.toNatClampNeg) (t_values l3.toNatClampNeg) ho5) (cwV 3 hts (jgV jw160 jw162 jw163 jw49 jw161) rfl rfl rfl dd_Na_numberOf ⟨Nat.le_of_ble_eq_true rfl, Nat.le_of_ble_eq_true rfl⟩) hP hD hS hA (va_recv hK hP (ci := 2) (q0 := 7) rfl rfl) [7, 8, 9, 10, 11, 12, 13] [0, 1, 2, 3, 4, 5, 6] rfl rfl (by decide) (by decide) (by decide) rfl hl.1 rfl (Nat.le_of_ble_eq_true rfl) d_Tr_numberNames_51 ⟨Nat.le_of_ble_eq_true rfl, Nat.le_of_ble_eq_true rfl⟩ (fun qz6 H locs hP hD hS => ?_)
        have hP : va_P (dC, dI) vwCl [(h_t, .inr (5, [.ref h_t_kinds, .ref h_t_places, .ref h_t_values, .ref h_t_sizes, .ref h_t_partCounts, .ref h_t_wholes, .int t_count])), (h_t_kinds, .inl (cI, 8001, .inl t_kinds)), (h_t_places, .inl (cI, 8001, .inl t_places)), (h_t_values, .inl (cI, 8001, .inl t_values)), (h_t_sizes, .inl (cI, 8001, .inl t_sizes)), (h_t_partCounts, .inl (cI, 8001, .inl t_partCounts)), (h_t_wholes, .inl (cI, 8001, .inl t_wholes)), (h_p1, .inr (2, [.ref h_p1_spelling, .ref h_p1_starts, .ref h_p1_newest, .ref h_p1_older, .int o5.2.2.2.2.2])), (h_p1_spelling, .inl (cB, 12288, .inl o5.2.1)), (h_p1_starts, .inl (cI, 4097, .inl o5.2.2.1)), (h_p1_newest, .inl (cI, 1024, .inl o5.2.2.2.1)), (h_p1_older, .inl (cI, 4096, .inl o5.2.2.2.2.1)), (h_p2, .inr (0, [.ref h_p2_row, .int p2_length, .int p2_overrun])), (h_p2_row, .inl (cB, 8000, .inl p2_row))] H := hP
        have hD : va_D A [(h_t, .inr (5, [.ref h_t_kinds, .ref h_t_places, .ref h_t_values, .ref h_t_sizes, .ref h_t_partCounts, .ref h_t_wholes, .int t_count])), (h_t_kinds, .inl (cI, 8001, .inl t_kinds)), (h_t_places, .inl (cI, 8001, .inl t_places)), (h_t_values, .inl (cI, 8001, .inl t_values)), (h_t_sizes, .inl (cI, 8001, .inl t_sizes)), (h_t_partCounts, .inl (cI, 8001, .inl t_partCounts)), (h_t_wholes, .inl (cI, 8001, .inl t_wholes)), (h_p1, .inr (2, [.ref h_p1_spelling, .ref h_p1_starts, .ref h_p1_newest, .ref h_p1_older, .int o5.2.2.2.2.2])), (h_p1_spelling, .inl (cB, 12288, .inl o5.2.1)), (h_p1_starts, .inl (cI, 4097, .inl o5.2.2.1)), (h_p1_newest, .inl (cI, 1024, .inl o5.2.2.2.1)), (h_p1_older, .inl (cI, 4096, .inl o5.2.2.2.2.1)), (h_p2, .inr (0, [.ref h_p2_row, .int p2_length, .int p2_overrun])), (h_p2_row, .inl (cB, 8000, .inl p2_row))] := hD
        have c54 : ¬ (l3 < 0 ∨ 8001 ≤ l3.toNatClampNeg) := by intro z; rw [if_pos z] at hf; simp only [jb_none, jl_b_none, jm_none, reduceCtorEq] at hf
        rw [if_neg c54] at hf
        refine va_iast hx hb hK hP hD hS 3 0 rfl rfl c54 d_Tr_numberNames_54 (fun H locs hP hD hS => ?_)
        have hP : va_P (dC, dI) vwCl [(h_t, .inr (5, [.ref h_t_kinds, .ref h_t_places, .ref h_t_values, .ref h_t_sizes, .ref h_t_partCounts, .ref h_t_wholes, .int t_count])), (h_t_kinds, .inl (cI, 8001, .inl t_kinds)), (h_t_places, .inl (cI, 8001, .inl t_places)), (h_t_values, .inl (cI, 8001, .inl (upd t_values l3.toNatClampNeg o5.1))), (h_t_sizes, .inl (cI, 8001, .inl t_sizes)), (h_t_partCounts, .inl (cI, 8001, .inl t_partCounts)), (h_t_wholes, .inl (cI, 8001, .inl t_wholes)), (h_p1, .inr (2, [.ref h_p1_spelling, .ref h_p1_starts, .ref h_p1_newest, .ref h_p1_older, .int o5.2.2.2.2.2])), (h_p1_spelling, .inl (cB, 12288, .inl o5.2.1)), (h_p1_starts, .inl (cI, 4097, .inl o5.2.2.1)), (h_p1_newest, .inl (cI, 1024, .inl o5.2.2.2.1)), (h_p1_older, .inl (cI, 4096, .inl o5.2.2.2.2.1)), (h_p2, .inr (0, [.ref h_p2_row, .int p2_length, .int p2_overrun])), (h_p2_row, .inl (cB, 8000, .inl p2_row))] H := hP
        have hD : va_D A [(h_t, .inr (5, [.ref h_t_kinds, .ref h_t_places, .ref h_t_values, .ref h_t_sizes, .ref h_t_partCounts, .ref h_t_wholes, .int t_count])), (h_t_kinds, .inl (cI, 8001, .inl t_kinds)), (h_t_places, .inl (cI, 8001, .inl t_places)), (h_t_values, .inl (cI, 8001, .inl (upd t_values l3.toNatClampNeg o5.1))), (h_t_sizes, .inl (cI, 8001, .inl t_sizes)), (h_t_partCounts, .inl (cI, 8001, .inl t_partCounts)), (h_t_wholes, .inl (cI, 8001, .inl t_wholes)), (h_p1, .inr (2, [.ref h_p1_spelling, .ref h_p1_starts, .ref h_p1_newest, .ref h_p1_older, .int o5.2.2.2.2.2])), (h_p1_spelling, .inl (cB, 12288, .inl o5.2.1)), (h_p1_starts, .inl (cI, 4097, .inl o5.2.2.1)), (h_p1_newest, .inl (cI, 1024, .inl o5.2.2.2.1)), (h_p1_older, .inl (cI, 4096, .inl o5.2.2.2.2.1)), (h_p2, .inr (0, [.ref h_p2_row, .int p2_length, .int p2_overrun])), (h_p2_row, .inl (cB, 8000, .inl p2_row))] := hD
        exact B55 (upd t_values l3.toNatClampNeg o5.1) o5.2.1 o5.2.2.1 o5.2.2.2.1 o5.2.2.2.2.1 o5.2.2.2.2.2 l3 H locs ls hf hP hD hS (lv_sub hl [0, 1, 2, 3] rfl)
      unfold Tr_numberNames_b2_s at hf
      refine lv_iload_n hx hb d_Tr_numberNames_2 rfl (lv_at hl 3 rfl) ?_
      refine lv_aload_n hx hb d_Tr_numberNames_3 rfl (lv_at hl 0 rfl) ?_
      refine va_get (D := (dC, dI)) (ci := 5) (v := .int t_count) (C := R_Tr) (T := T_Tr) (N := 7) hx hb hts (fun w h => List.mem_cons_of_mem _ (in_Tr w h)) hown hK hP 0 rfl rfl 6 (by decide) (hts _ (List.mem_cons_of_mem _ jw146)) (fun _ h9 => h9) rfl d_Tr_numberNames_4 ?_
      refine lv_icmp_ge (tgt := 61) hx hb d_Tr_numberNames_7 (by decide) (fun c7 => ?_) (fun c7 => ?_)
      · rw [if_pos c7] at hf
        have hf : (some (t_values, p1_spelling, p1_starts, p1_newest, p1_older, p1_count) : Option ((Nat → Int32) × (Nat → Int32) × (Nat → Int32) × (Nat → Int32) × (Nat → Int32) × Int32)) = some o := hf
        rw [hQ, ← Option.some.inj hf]
        exact jVret hx hb hr hlocks d_Tr_numberNames_61 (fun _ => 0) hS hP hD
      · rw [if_neg c7] at hf
        refine lv_aload_n hx hb d_Tr_numberNames_10 rfl (lv_at hl 0 rfl) ?_
        refine va_get (D := (dC, dI)) (ci := 5) (v := .ref h_t_kinds) (C := R_Tr) (T := T_Tr) (N := 7) hx hb hts (fun w h => List.mem_cons_of_mem _ (in_Tr w h)) hown hK hP 0 rfl rfl 0 (by decide) (hts _ (List.mem_cons_of_mem _ jw140)) (fun _ h9 => h9) rfl d_Tr_numberNames_11 ?_
        refine lv_iload_n hx hb d_Tr_numberNames_14 rfl (lv_at hl 3 rfl) ?_
        have c15 : ¬ (l3 < 0 ∨ 8001 ≤ l3.toNatClampNeg) := by intro z; rw [if_pos z] at hf; simp only [jb_none, jl_b_none, jm_none, reduceCtorEq] at hf
        rw [if_neg c15] at hf
        refine va_iald hx hb hK hP 1 0 rfl rfl c15 d_Tr_numberNames_15 ?_
        refine lv_bipush (v := (9 : Int32)) hx hb d_Tr_numberNames_16 (by decide) ?_
        refine lv_icmp_eq (tgt := 32) hx hb d_Tr_numberNames_18 (by decide) (fun c18 => ?_) (fun c18 => ?_)
        · rw [if_pos c18] at hf
          exact B32 t_values p1_spelling p1_starts p1_newest p1_older p1_count l3 H locs ls hf hP hD hS (lv_sub hl [0, 1, 2, 3] rfl)
        · rw [if_neg c18] at hf
          refine lv_aload_n hx hb d_Tr_numberNames_21 rfl (lv_at hl 0 rfl) ?_
          refine va_get (D := (dC, dI)) (ci := 5) (v := .ref h_t_kinds) (C := R_Tr) (T := T_Tr) (N := 7) hx hb hts (fun w h => List.mem_cons_of_mem _ (in_Tr w h)) hown hK hP 0 rfl rfl 0 (by decide) (hts _ (List.mem_cons_of_mem _ jw140)) (fun _ h9 => h9) rfl d_Tr_numberNames_22 ?_
          refine lv_iload_n hx hb d_Tr_numberNames_25 rfl (lv_at hl 3 rfl) ?_
          have c26 : ¬ (l3 < 0 ∨ 8001 ≤ l3.toNatClampNeg) := by intro z; rw [if_pos z] at hf; simp only [jb_none, jl_b_none, jm_none, reduceCtorEq] at hf
          rw [if_neg c26] at hf
          refine va_iald hx hb hK hP 1 0 rfl rfl c26 d_Tr_numberNames_26 ?_
          refine lv_bipush (v := (16 : Int32)) hx hb d_Tr_numberNames_27 (by decide) ?_
          refine lv_icmp_ne (tgt := 55) hx hb d_Tr_numberNames_29 (by decide) (fun c29 => ?_) (fun c29 => ?_)
          · rw [if_neg c29] at hf
            exact B55 t_values p1_spelling p1_starts p1_newest p1_older p1_count l3 H locs ls hf hP hD hS (lv_sub hl [0, 1, 2, 3] rfl)
          · rw [if_pos c29] at hf
            exact B32 t_values p1_spelling p1_starts p1_newest p1_older p1_count l3 H locs ls hf hP hD hS (lv_sub hl [0, 1, 2, 3] rfl)
  unfold f_Tr_numberNames at hf
  refine lv_iconst (v := (0 : Int32)) hx hb d_Tr_numberNames_0 (by decide) ?_
  refine lv_istore_n (lv' := [(3, .int (0 : Int32)), (0, .ref h_t), (1, .ref h_p1), (2, .ref h_p2)]) hx hb d_Tr_numberNames_1 rfl hl (by decide) rfl (fun ls hl => ?_)
  unfold Tr_numberNames_b2 at hf
  obtain ⟨nn, en⟩ := jl_ex (Tr_numberNames_b2_b t_kinds t_places t_count p2_row p2_length) (t_values, p1_spelling, p1_starts, p1_newest, p1_older, p1_count, (0 : Int32))
  rw [en] at hf
  exact L2 nn t_values p1_spelling p1_starts p1_newest p1_older p1_count (0 : Int32) H locs ls hf hP hD hS (lv_sub hl [1, 2, 3, 0] rfl)
theorem d_Tr_equalsButForPlaces_0 : decode b_Tr_equalsButForPlaces 0 = .ok (.aload_n 0, 1) := by decide +kernel
theorem d_Tr_equalsButForPlaces_1 : decode b_Tr_equalsButForPlaces 1 = .ok (.getfield 32, 3) := by decide +kernel
theorem d_Tr_equalsButForPlaces_4 : decode b_Tr_equalsButForPlaces 4 = .ok (.aload_n 1, 1) := by decide +kernel
theorem d_Tr_equalsButForPlaces_5 : decode b_Tr_equalsButForPlaces 5 = .ok (.getfield 32, 3) := by decide +kernel
theorem d_Tr_equalsButForPlaces_8 : decode b_Tr_equalsButForPlaces 8 = .ok (.if_icmp .eq 5, 3) := by decide +kernel
theorem d_Tr_equalsButForPlaces_11 : decode b_Tr_equalsButForPlaces 11 = .ok (.iconst 0, 1) := by decide +kernel
theorem d_Tr_equalsButForPlaces_12 : decode b_Tr_equalsButForPlaces 12 = .ok (.ireturn, 1) := by decide +kernel
theorem d_Tr_equalsButForPlaces_13 : decode b_Tr_equalsButForPlaces 13 = .ok (.iconst 0, 1) := by decide +kernel
theorem d_Tr_equalsButForPlaces_14 : decode b_Tr_equalsButForPlaces 14 = .ok (.istore_n 2, 1) := by decide +kernel
theorem d_Tr_equalsButForPlaces_15 : decode b_Tr_equalsButForPlaces 15 = .ok (.iload_n 2, 1) := by decide +kernel
theorem d_Tr_equalsButForPlaces_16 : decode b_Tr_equalsButForPlaces 16 = .ok (.aload_n 0, 1) := by decide +kernel
theorem d_Tr_equalsButForPlaces_17 : decode b_Tr_equalsButForPlaces 17 = .ok (.getfield 32, 3) := by decide +kernel
theorem d_Tr_equalsButForPlaces_20 : decode b_Tr_equalsButForPlaces 20 = .ok (.if_icmp .ge 56, 3) := by decide +kernel
theorem d_Tr_equalsButForPlaces_23 : decode b_Tr_equalsButForPlaces 23 = .ok (.aload_n 0, 1) := by decide +kernel
theorem d_Tr_equalsButForPlaces_24 : decode b_Tr_equalsButForPlaces 24 = .ok (.getfield 9, 3) := by decide +kernel
theorem d_Tr_equalsButForPlaces_27 : decode b_Tr_equalsButForPlaces 27 = .ok (.iload_n 2, 1) := by decide +kernel
theorem d_Tr_equalsButForPlaces_28 : decode b_Tr_equalsButForPlaces 28 = .ok (.iaload, 1) := by decide +kernel
theorem d_Tr_equalsButForPlaces_29 : decode b_Tr_equalsButForPlaces 29 = .ok (.aload_n 1, 1) := by decide +kernel
theorem d_Tr_equalsButForPlaces_30 : decode b_Tr_equalsButForPlaces 30 = .ok (.getfield 9, 3) := by decide +kernel
theorem d_Tr_equalsButForPlaces_33 : decode b_Tr_equalsButForPlaces 33 = .ok (.iload_n 2, 1) := by decide +kernel
theorem d_Tr_equalsButForPlaces_34 : decode b_Tr_equalsButForPlaces 34 = .ok (.iaload, 1) := by decide +kernel
theorem d_Tr_equalsButForPlaces_35 : decode b_Tr_equalsButForPlaces 35 = .ok (.if_icmp .ne 33, 3) := by decide +kernel
theorem d_Tr_equalsButForPlaces_38 : decode b_Tr_equalsButForPlaces 38 = .ok (.aload_n 0, 1) := by decide +kernel
theorem d_Tr_equalsButForPlaces_39 : decode b_Tr_equalsButForPlaces 39 = .ok (.getfield 18, 3) := by decide +kernel
theorem d_Tr_equalsButForPlaces_42 : decode b_Tr_equalsButForPlaces 42 = .ok (.iload_n 2, 1) := by decide +kernel
theorem d_Tr_equalsButForPlaces_43 : decode b_Tr_equalsButForPlaces 43 = .ok (.iaload, 1) := by decide +kernel
theorem d_Tr_equalsButForPlaces_44 : decode b_Tr_equalsButForPlaces 44 = .ok (.aload_n 1, 1) := by decide +kernel
theorem d_Tr_equalsButForPlaces_45 : decode b_Tr_equalsButForPlaces 45 = .ok (.getfield 18, 3) := by decide +kernel
theorem d_Tr_equalsButForPlaces_48 : decode b_Tr_equalsButForPlaces 48 = .ok (.iload_n 2, 1) := by decide +kernel
theorem d_Tr_equalsButForPlaces_49 : decode b_Tr_equalsButForPlaces 49 = .ok (.iaload, 1) := by decide +kernel
theorem d_Tr_equalsButForPlaces_50 : decode b_Tr_equalsButForPlaces 50 = .ok (.if_icmp .ne 18, 3) := by decide +kernel
theorem d_Tr_equalsButForPlaces_53 : decode b_Tr_equalsButForPlaces 53 = .ok (.aload_n 0, 1) := by decide +kernel
theorem d_Tr_equalsButForPlaces_54 : decode b_Tr_equalsButForPlaces 54 = .ok (.getfield 21, 3) := by decide +kernel
theorem d_Tr_equalsButForPlaces_57 : decode b_Tr_equalsButForPlaces 57 = .ok (.iload_n 2, 1) := by decide +kernel
theorem d_Tr_equalsButForPlaces_58 : decode b_Tr_equalsButForPlaces 58 = .ok (.iaload, 1) := by decide +kernel
theorem d_Tr_equalsButForPlaces_59 : decode b_Tr_equalsButForPlaces 59 = .ok (.aload_n 1, 1) := by decide +kernel
theorem d_Tr_equalsButForPlaces_60 : decode b_Tr_equalsButForPlaces 60 = .ok (.getfield 21, 3) := by decide +kernel
theorem d_Tr_equalsButForPlaces_63 : decode b_Tr_equalsButForPlaces 63 = .ok (.iload_n 2, 1) := by decide +kernel
theorem d_Tr_equalsButForPlaces_64 : decode b_Tr_equalsButForPlaces 64 = .ok (.iaload, 1) := by decide +kernel
theorem d_Tr_equalsButForPlaces_65 : decode b_Tr_equalsButForPlaces 65 = .ok (.if_icmp .eq 5, 3) := by decide +kernel
theorem d_Tr_equalsButForPlaces_68 : decode b_Tr_equalsButForPlaces 68 = .ok (.iconst 0, 1) := by decide +kernel
theorem d_Tr_equalsButForPlaces_69 : decode b_Tr_equalsButForPlaces 69 = .ok (.ireturn, 1) := by decide +kernel
theorem d_Tr_equalsButForPlaces_70 : decode b_Tr_equalsButForPlaces 70 = .ok (.iinc 2 1, 3) := by decide +kernel
theorem d_Tr_equalsButForPlaces_73 : decode b_Tr_equalsButForPlaces 73 = .ok (.goto (-58), 3) := by decide +kernel
theorem d_Tr_equalsButForPlaces_76 : decode b_Tr_equalsButForPlaces 76 = .ok (.iconst 1, 1) := by decide +kernel
theorem d_Tr_equalsButForPlaces_77 : decode b_Tr_equalsButForPlaces 77 = .ok (.ireturn, 1) := by decide +kernel
noncomputable def Tr_equalsButForPlaces_b15_s (t_kinds : (Nat → Int32)) (t_values : (Nat → Int32)) (t_sizes : (Nat → Int32)) (t_count : Int32) (p1_kinds : (Nat → Int32)) (p1_values : (Nat → Int32)) (p1_sizes : (Nat → Int32)) (p1_count : Int32)  (l2 : Int32) : Option (Int32 ⊕ Int32) := if t_count ≤ l2 then (some (.inr (vp_nar .boolean (1 : Int32)))) else (if l2 < 0 ∨ 8001 ≤ l2.toNatClampNeg then none else (if l2 < 0 ∨ 8001 ≤ l2.toNatClampNeg then none else (if (t_kinds l2.toNatClampNeg) = (p1_kinds l2.toNatClampNeg) then (if l2 < 0 ∨ 8001 ≤ l2.toNatClampNeg then none else (if l2 < 0 ∨ 8001 ≤ l2.toNatClampNeg then none else (if (t_values l2.toNatClampNeg) = (p1_values l2.toNatClampNeg) then (if l2 < 0 ∨ 8001 ≤ l2.toNatClampNeg then none else (if l2 < 0 ∨ 8001 ≤ l2.toNatClampNeg then none else (if (t_sizes l2.toNatClampNeg) = (p1_sizes l2.toNatClampNeg) then (some (.inl (l2 + (1 : Int32)))) else (some (.inr (vp_nar .boolean (0 : Int32))))))) else (some (.inr (vp_nar .boolean (0 : Int32))))))) else (some (.inr (vp_nar .boolean (0 : Int32)))))))
noncomputable def Tr_equalsButForPlaces_b15_b (t_kinds : (Nat → Int32)) (t_values : (Nat → Int32)) (t_sizes : (Nat → Int32)) (t_count : Int32) (p1_kinds : (Nat → Int32)) (p1_values : (Nat → Int32)) (p1_sizes : (Nat → Int32)) (p1_count : Int32)  : Int32 → Option (Int32 ⊕ Int32) := fun x => Tr_equalsButForPlaces_b15_s t_kinds t_values t_sizes t_count p1_kinds p1_values p1_sizes p1_count  x
noncomputable def Tr_equalsButForPlaces_b15 (t_kinds : (Nat → Int32)) (t_values : (Nat → Int32)) (t_sizes : (Nat → Int32)) (t_count : Int32) (p1_kinds : (Nat → Int32)) (p1_values : (Nat → Int32)) (p1_sizes : (Nat → Int32)) (p1_count : Int32) (l2 : Int32) : Option Int32 := jl (Tr_equalsButForPlaces_b15_b t_kinds t_values t_sizes t_count p1_kinds p1_values p1_sizes p1_count ) l2
noncomputable def f_Tr_equalsButForPlaces (t_kinds : (Nat → Int32)) (t_values : (Nat → Int32)) (t_sizes : (Nat → Int32)) (t_count : Int32) (p1_kinds : (Nat → Int32)) (p1_values : (Nat → Int32)) (p1_sizes : (Nat → Int32)) (p1_count : Int32)   : Option Int32 := if t_count = p1_count then (Tr_equalsButForPlaces_b15 t_kinds t_values t_sizes t_count p1_kinds p1_values p1_sizes p1_count (0 : Int32)) else (some (vp_nar .boolean (0 : Int32)))
set_option maxHeartbeats 4000000 in
set_option maxRecDepth 100000 in
theorem c_Tr_equalsButForPlaces {l : Launch} {dC : Nat → ClassId} {dI : Nat → Nat → Nat} {cI cB cS : ClassId} {adK adV adR : Nat → Nat} (h_t h_t_kinds h_t_places h_t_values h_t_sizes h_t_partCounts h_t_wholes h_p1 h_p1_kinds h_p1_places h_p1_values h_p1_sizes h_p1_partCounts h_p1_wholes : Nat) (t_kinds : (Nat → Int32)) (t_places : (Nat → Int32)) (t_values : (Nat → Int32)) (t_sizes : (Nat → Int32)) (t_partCounts : (Nat → Int32)) (t_wholes : (Nat → Int32)) (t_count : Int32) (p1_kinds : (Nat → Int32)) (p1_places : (Nat → Int32)) (p1_values : (Nat → Int32)) (p1_sizes : (Nat → Int32)) (p1_partCounts : (Nat → Int32)) (p1_wholes : (Nat → Int32)) (p1_count : Int32)  {o : Int32} (hf : f_Tr_equalsButForPlaces t_kinds t_values t_sizes t_count p1_kinds p1_values p1_sizes p1_count = some o) : jMet l dC dI cI cB cS adK adV adR y_Tr_equalsButForPlaces wd_Tr_equalsButForPlaces { frames := 0, cells := 0, slots := 0, locals := 0 } [.ref h_t, .ref h_p1] [(h_t, .inr (5, [.ref h_t_kinds, .ref h_t_places, .ref h_t_values, .ref h_t_sizes, .ref h_t_partCounts, .ref h_t_wholes, .int t_count])), (h_t_kinds, .inl (cI, 8001, .inl t_kinds)), (h_t_places, .inl (cI, 8001, .inl t_places)), (h_t_values, .inl (cI, 8001, .inl t_values)), (h_t_sizes, .inl (cI, 8001, .inl t_sizes)), (h_t_partCounts, .inl (cI, 8001, .inl t_partCounts)), (h_t_wholes, .inl (cI, 8001, .inl t_wholes)), (h_p1, .inr (5, [.ref h_p1_kinds, .ref h_p1_places, .ref h_p1_values, .ref h_p1_sizes, .ref h_p1_partCounts, .ref h_p1_wholes, .int p1_count])), (h_p1_kinds, .inl (cI, 8001, .inl p1_kinds)), (h_p1_places, .inl (cI, 8001, .inl p1_places)), (h_p1_values, .inl (cI, 8001, .inl p1_values)), (h_p1_sizes, .inl (cI, 8001, .inl p1_sizes)), (h_p1_partCounts, .inl (cI, 8001, .inl p1_partCounts)), (h_p1_wholes, .inl (cI, 8001, .inl p1_wholes))] (some (.int o)) (fun q => [(h_t, .inr (5, [.ref h_t_kinds, .ref h_t_places, .ref h_t_values, .ref h_t_sizes, .ref h_t_partCounts, .ref h_t_wholes, .int t_count])), (h_t_kinds, .inl (cI, 8001, .inl t_kinds)), (h_t_places, .inl (cI, 8001, .inl t_places)), (h_t_values, .inl (cI, 8001, .inl t_values)), (h_t_sizes, .inl (cI, 8001, .inl t_sizes)), (h_t_partCounts, .inl (cI, 8001, .inl t_partCounts)), (h_t_wholes, .inl (cI, 8001, .inl t_wholes)), (h_p1, .inr (5, [.ref h_p1_kinds, .ref h_p1_places, .ref h_p1_values, .ref h_p1_sizes, .ref h_p1_partCounts, .ref h_p1_wholes, .int p1_count])), (h_p1_kinds, .inl (cI, 8001, .inl p1_kinds)), (h_p1_places, .inl (cI, 8001, .inl p1_places)), (h_p1_values, .inl (cI, 8001, .inl p1_values)), (h_p1_sizes, .inl (cI, 8001, .inl p1_sizes)), (h_p1_partCounts, .inl (cI, 8001, .inl p1_partCounts)), (h_p1_wholes, .inl (cI, 8001, .inl p1_wholes))]) 0 0 := by
  refine jEntry (cc := b_Tr_equalsButForPlaces) (maxL := 3) (ret := (some .boolean)) (by decide) rfl (Nat.le_of_ble_eq_true rfl) rfl (fun p e s m args below meth c A H locs ls Q hQ hx hb hr hml hown hts hlocks hnm hJ hA hP hD hS hl => ?_)
  have hK := hJ.K
  have hl : lv_has ls 3 [(0, .ref h_t), (1, .ref h_p1)] := hl
  have L15 : ∀ (n15 : Nat) (l2 : Int32) (H : Heap) (locs : List Loc) (ls : Array Slot), jl_n (Tr_equalsButForPlaces_b15_b t_kinds t_values t_sizes t_count p1_kinds p1_values p1_sizes p1_count) n15 l2 = some o → va_P (dC, dI) vwCl [(h_t, .inr (5, [.ref h_t_kinds, .ref h_t_places, .ref h_t_values, .ref h_t_sizes, .ref h_t_partCounts, .ref h_t_wholes, .int t_count])), (h_t_kinds, .inl (cI, 8001, .inl t_kinds)), (h_t_places, .inl (cI, 8001, .inl t_places)), (h_t_values, .inl (cI, 8001, .inl t_values)), (h_t_sizes, .inl (cI, 8001, .inl t_sizes)), (h_t_partCounts, .inl (cI, 8001, .inl t_partCounts)), (h_t_wholes, .inl (cI, 8001, .inl t_wholes)), (h_p1, .inr (5, [.ref h_p1_kinds, .ref h_p1_places, .ref h_p1_values, .ref h_p1_sizes, .ref h_p1_partCounts, .ref h_p1_wholes, .int p1_count])), (h_p1_kinds, .inl (cI, 8001, .inl p1_kinds)), (h_p1_places, .inl (cI, 8001, .inl p1_places)), (h_p1_values, .inl (cI, 8001, .inl p1_values)), (h_p1_sizes, .inl (cI, 8001, .inl p1_sizes)), (h_p1_partCounts, .inl (cI, 8001, .inl p1_partCounts)), (h_p1_wholes, .inl (cI, 8001, .inl p1_wholes))] H → va_D A [(h_t, .inr (5, [.ref h_t_kinds, .ref h_t_places, .ref h_t_values, .ref h_t_sizes, .ref h_t_partCounts, .ref h_t_wholes, .int t_count])), (h_t_kinds, .inl (cI, 8001, .inl t_kinds)), (h_t_places, .inl (cI, 8001, .inl t_places)), (h_t_values, .inl (cI, 8001, .inl t_values)), (h_t_sizes, .inl (cI, 8001, .inl t_sizes)), (h_t_partCounts, .inl (cI, 8001, .inl t_partCounts)), (h_t_wholes, .inl (cI, 8001, .inl t_wholes)), (h_p1, .inr (5, [.ref h_p1_kinds, .ref h_p1_places, .ref h_p1_values, .ref h_p1_sizes, .ref h_p1_partCounts, .ref h_p1_wholes, .int p1_count])), (h_p1_kinds, .inl (cI, 8001, .inl p1_kinds)), (h_p1_places, .inl (cI, 8001, .inl p1_places)), (h_p1_values, .inl (cI, 8001, .inl p1_values)), (h_p1_sizes, .inl (cI, 8001, .inl p1_sizes)), (h_p1_partCounts, .inl (cI, 8001, .inl p1_partCounts)), (h_p1_wholes, .inl (cI, 8001, .inl p1_wholes))] → va_S A s.heap H locs → lv_has ls 3 [(0, .ref h_t), (1, .ref h_p1), (2, .int l2)] → W p l e { frames := 0, cells := 0, slots := 0, locals := 0 } s m args below meth c H locs 0 0 Q (F0 m 15 ls []) := by
    intro n15
    induction n15 with
    | zero => intro l2 H locs ls hf; simp only [jl_n_zero, jl_b_none, reduceCtorEq] at hf
    | succ n15 ih15 =>
      intro l2 H locs ls hf hP hD hS hl
      rw [jl_n_succ] at hf
      have hf : jl_b (jl_n (Tr_equalsButForPlaces_b15_b t_kinds t_values t_sizes t_count p1_kinds p1_values p1_sizes p1_count) n15) (Tr_equalsButForPlaces_b15_s t_kinds t_values t_sizes t_count p1_kinds p1_values p1_sizes p1_count l2) = some o := hf
      unfold Tr_equalsButForPlaces_b15_s at hf
      refine lv_iload_n hx hb d_Tr_equalsButForPlaces_15 rfl (lv_at hl 2 rfl) ?_
      refine lv_aload_n hx hb d_Tr_equalsButForPlaces_16 rfl (lv_at hl 0 rfl) ?_
      refine va_get (D := (dC, dI)) (ci := 5) (v := .int t_count) (C := R_Tr) (T := T_Tr) (N := 7) hx hb hts (fun w h => List.mem_cons_of_mem _ (in_Tr w h)) hown hK hP 0 rfl rfl 6 (by decide) (hts _ (List.mem_cons_of_mem _ jw146)) (fun _ h9 => h9) rfl d_Tr_equalsButForPlaces_17 ?_
      refine lv_icmp_ge (tgt := 76) hx hb d_Tr_equalsButForPlaces_20 (by decide) (fun c20 => ?_) (fun c20 => ?_)
      · rw [if_pos c20] at hf
        refine lv_iconst (v := (1 : Int32)) hx hb d_Tr_equalsButForPlaces_76 (by decide) ?_
        have hf : (some (vp_nar .boolean (1 : Int32)) : Option Int32) = some o := hf
        rw [hQ, ← Option.some.inj hf]
        exact jNret hx hb hr rfl hlocks d_Tr_equalsButForPlaces_77 (fun _ => 0) hS hP hD
      · rw [if_neg c20] at hf
        refine lv_aload_n hx hb d_Tr_equalsButForPlaces_23 rfl (lv_at hl 0 rfl) ?_
        refine va_get (D := (dC, dI)) (ci := 5) (v := .ref h_t_kinds) (C := R_Tr) (T := T_Tr) (N := 7) hx hb hts (fun w h => List.mem_cons_of_mem _ (in_Tr w h)) hown hK hP 0 rfl rfl 0 (by decide) (hts _ (List.mem_cons_of_mem _ jw140)) (fun _ h9 => h9) rfl d_Tr_equalsButForPlaces_24 ?_
        refine lv_iload_n hx hb d_Tr_equalsButForPlaces_27 rfl (lv_at hl 2 rfl) ?_
        have c28 : ¬ (l2 < 0 ∨ 8001 ≤ l2.toNatClampNeg) := by intro z; rw [if_pos z] at hf; simp only [jb_none, jl_b_none, jm_none, reduceCtorEq] at hf
        rw [if_neg c28] at hf
        refine va_iald hx hb hK hP 1 0 rfl rfl c28 d_Tr_equalsButForPlaces_28 ?_
        refine lv_aload_n hx hb d_Tr_equalsButForPlaces_29 rfl (lv_at hl 1 rfl) ?_
        refine va_get (D := (dC, dI)) (ci := 5) (v := .ref h_p1_kinds) (C := R_Tr) (T := T_Tr) (N := 7) hx hb hts (fun w h => List.mem_cons_of_mem _ (in_Tr w h)) hown hK hP 7 rfl rfl 0 (by decide) (hts _ (List.mem_cons_of_mem _ jw140)) (fun _ h9 => h9) rfl d_Tr_equalsButForPlaces_30 ?_
        refine lv_iload_n hx hb d_Tr_equalsButForPlaces_33 rfl (lv_at hl 2 rfl) ?_
        have c34 : ¬ (l2 < 0 ∨ 8001 ≤ l2.toNatClampNeg) := by intro z; rw [if_pos z] at hf; simp only [jb_none, jl_b_none, jm_none, reduceCtorEq] at hf
        rw [if_neg c34] at hf
        refine va_iald hx hb hK hP 8 0 rfl rfl c34 d_Tr_equalsButForPlaces_34 ?_
        refine lv_icmp_ne (tgt := 68) hx hb d_Tr_equalsButForPlaces_35 (by decide) (fun c35 => ?_) (fun c35 => ?_)
        · rw [if_neg c35] at hf
          refine lv_iconst (v := (0 : Int32)) hx hb d_Tr_equalsButForPlaces_68 (by decide) ?_
          have hf : (some (vp_nar .boolean (0 : Int32)) : Option Int32) = some o := hf
          rw [hQ, ← Option.some.inj hf]
          exact jNret hx hb hr rfl hlocks d_Tr_equalsButForPlaces_69 (fun _ => 0) hS hP hD
        · rw [if_pos c35] at hf
          refine lv_aload_n hx hb d_Tr_equalsButForPlaces_38 rfl (lv_at hl 0 rfl) ?_
          refine va_get (D := (dC, dI)) (ci := 5) (v := .ref h_t_values) (C := R_Tr) (T := T_Tr) (N := 7) hx hb hts (fun w h => List.mem_cons_of_mem _ (in_Tr w h)) hown hK hP 0 rfl rfl 2 (by decide) (hts _ (List.mem_cons_of_mem _ jw142)) (fun _ h9 => h9) rfl d_Tr_equalsButForPlaces_39 ?_
          refine lv_iload_n hx hb d_Tr_equalsButForPlaces_42 rfl (lv_at hl 2 rfl) ?_
          have c43 : ¬ (l2 < 0 ∨ 8001 ≤ l2.toNatClampNeg) := by intro z; rw [if_pos z] at hf; simp only [jb_none, jl_b_none, jm_none, reduceCtorEq] at hf
          rw [if_neg c43] at hf
          refine va_iald hx hb hK hP 3 0 rfl rfl c43 d_Tr_equalsButForPlaces_43 ?_
          refine lv_aload_n hx hb d_Tr_equalsButForPlaces_44 rfl (lv_at hl 1 rfl) ?_
          refine va_get (D := (dC, dI)) (ci := 5) (v := .ref h_p1_values) (C := R_Tr) (T := T_Tr) (N := 7) hx hb hts (fun w h => List.mem_cons_of_mem _ (in_Tr w h)) hown hK hP 7 rfl rfl 2 (by decide) (hts _ (List.mem_cons_of_mem _ jw142)) (fun _ h9 => h9) rfl d_Tr_equalsButForPlaces_45 ?_
          refine lv_iload_n hx hb d_Tr_equalsButForPlaces_48 rfl (lv_at hl 2 rfl) ?_
          have c49 : ¬ (l2 < 0 ∨ 8001 ≤ l2.toNatClampNeg) := by intro z; rw [if_pos z] at hf; simp only [jb_none, jl_b_none, jm_none, reduceCtorEq] at hf
          rw [if_neg c49] at hf
          refine va_iald hx hb hK hP 10 0 rfl rfl c49 d_Tr_equalsButForPlaces_49 ?_
          refine lv_icmp_ne (tgt := 68) hx hb d_Tr_equalsButForPlaces_50 (by decide) (fun c50 => ?_) (fun c50 => ?_)
          · rw [if_neg c50] at hf
            refine lv_iconst (v := (0 : Int32)) hx hb d_Tr_equalsButForPlaces_68 (by decide) ?_
            have hf : (some (vp_nar .boolean (0 : Int32)) : Option Int32) = some o := hf
            rw [hQ, ← Option.some.inj hf]
            exact jNret hx hb hr rfl hlocks d_Tr_equalsButForPlaces_69 (fun _ => 0) hS hP hD
          · rw [if_pos c50] at hf
            refine lv_aload_n hx hb d_Tr_equalsButForPlaces_53 rfl (lv_at hl 0 rfl) ?_
            refine va_get (D := (dC, dI)) (ci := 5) (v := .ref h_t_sizes) (C := R_Tr) (T := T_Tr) (N := 7) hx hb hts (fun w h => List.mem_cons_of_mem _ (in_Tr w h)) hown hK hP 0 rfl rfl 3 (by decide) (hts _ (List.mem_cons_of_mem _ jw143)) (fun _ h9 => h9) rfl d_Tr_equalsButForPlaces_54 ?_
            refine lv_iload_n hx hb d_Tr_equalsButForPlaces_57 rfl (lv_at hl 2 rfl) ?_
            have c58 : ¬ (l2 < 0 ∨ 8001 ≤ l2.toNatClampNeg) := by intro z; rw [if_pos z] at hf; simp only [jb_none, jl_b_none, jm_none, reduceCtorEq] at hf
            rw [if_neg c58] at hf
            refine va_iald hx hb hK hP 4 0 rfl rfl c58 d_Tr_equalsButForPlaces_58 ?_
            refine lv_aload_n hx hb d_Tr_equalsButForPlaces_59 rfl (lv_at hl 1 rfl) ?_
            refine va_get (D := (dC, dI)) (ci := 5) (v := .ref h_p1_sizes) (C := R_Tr) (T := T_Tr) (N := 7) hx hb hts (fun w h => List.mem_cons_of_mem _ (in_Tr w h)) hown hK hP 7 rfl rfl 3 (by decide) (hts _ (List.mem_cons_of_mem _ jw143)) (fun _ h9 => h9) rfl d_Tr_equalsButForPlaces_60 ?_
            refine lv_iload_n hx hb d_Tr_equalsButForPlaces_63 rfl (lv_at hl 2 rfl) ?_
            have c64 : ¬ (l2 < 0 ∨ 8001 ≤ l2.toNatClampNeg) := by intro z; rw [if_pos z] at hf; simp only [jb_none, jl_b_none, jm_none, reduceCtorEq] at hf
            rw [if_neg c64] at hf
            refine va_iald hx hb hK hP 11 0 rfl rfl c64 d_Tr_equalsButForPlaces_64 ?_
            refine lv_icmp_eq (tgt := 70) hx hb d_Tr_equalsButForPlaces_65 (by decide) (fun c65 => ?_) (fun c65 => ?_)
            · rw [if_pos c65] at hf
              refine lv_iinc (v := l2 + (1 : Int32)) (lv' := [(2, .int (l2 + (1 : Int32))), (0, .ref h_t), (1, .ref h_p1)]) hx hb d_Tr_equalsButForPlaces_70 hl (k := 2) rfl rfl (by decide) rfl (fun ls hl => ?_)
              refine lv_goto (tgt := 15) hx hb d_Tr_equalsButForPlaces_73 (by decide) ?_
              exact ih15 (l2 + (1 : Int32)) H locs ls hf hP hD hS (lv_sub hl [1, 2, 0] rfl)
            · rw [if_neg c65] at hf
              refine lv_iconst (v := (0 : Int32)) hx hb d_Tr_equalsButForPlaces_68 (by decide) ?_
              have hf : (some (vp_nar .boolean (0 : Int32)) : Option Int32) = some o := hf
              rw [hQ, ← Option.some.inj hf]
              exact jNret hx hb hr rfl hlocks d_Tr_equalsButForPlaces_69 (fun _ => 0) hS hP hD
  unfold f_Tr_equalsButForPlaces at hf
  refine lv_aload_n hx hb d_Tr_equalsButForPlaces_0 rfl (lv_at hl 0 rfl) ?_
  refine va_get (D := (dC, dI)) (ci := 5) (v := .int t_count) (C := R_Tr) (T := T_Tr) (N := 7) hx hb hts (fun w h => List.mem_cons_of_mem _ (in_Tr w h)) hown hK hP 0 rfl rfl 6 (by decide) (hts _ (List.mem_cons_of_mem _ jw146)) (fun _ h9 => h9) rfl d_Tr_equalsButForPlaces_1 ?_
  refine lv_aload_n hx hb d_Tr_equalsButForPlaces_4 rfl (lv_at hl 1 rfl) ?_
  refine va_get (D := (dC, dI)) (ci := 5) (v := .int p1_count) (C := R_Tr) (T := T_Tr) (N := 7) hx hb hts (fun w h => List.mem_cons_of_mem _ (in_Tr w h)) hown hK hP 7 rfl rfl 6 (by decide) (hts _ (List.mem_cons_of_mem _ jw146)) (fun _ h9 => h9) rfl d_Tr_equalsButForPlaces_5 ?_
  refine lv_icmp_eq (tgt := 13) hx hb d_Tr_equalsButForPlaces_8 (by decide) (fun c8 => ?_) (fun c8 => ?_)
  · rw [if_pos c8] at hf
    refine lv_iconst (v := (0 : Int32)) hx hb d_Tr_equalsButForPlaces_13 (by decide) ?_
    refine lv_istore_n (lv' := [(2, .int (0 : Int32)), (0, .ref h_t), (1, .ref h_p1)]) hx hb d_Tr_equalsButForPlaces_14 rfl hl (by decide) rfl (fun ls hl => ?_)
    unfold Tr_equalsButForPlaces_b15 at hf
    obtain ⟨nn, en⟩ := jl_ex (Tr_equalsButForPlaces_b15_b t_kinds t_values t_sizes t_count p1_kinds p1_values p1_sizes p1_count) (0 : Int32)
    rw [en] at hf
    exact L15 nn (0 : Int32) H locs ls hf hP hD hS (lv_sub hl [1, 2, 0] rfl)
  · rw [if_neg c8] at hf
    refine lv_iconst (v := (0 : Int32)) hx hb d_Tr_equalsButForPlaces_11 (by decide) ?_
    have hf : (some (vp_nar .boolean (0 : Int32)) : Option Int32) = some o := hf
    rw [hQ, ← Option.some.inj hf]
    exact jNret hx hb hr rfl hlocks d_Tr_equalsButForPlaces_12 (fun _ => 0) hS hP hD
theorem d_Gr_init_0 : decode b_Gr_init 0 = .ok (.aload_n 0, 1) := by decide +kernel
theorem d_Gr_init_1 : decode b_Gr_init 1 = .ok (.invokespecial 3, 3) := by decide +kernel
theorem d_Gr_init_4 : decode b_Gr_init 4 = .ok (.aload_n 0, 1) := by decide +kernel
theorem d_Gr_init_5 : decode b_Gr_init 5 = .ok (.sipush 8001, 3) := by decide +kernel
theorem d_Gr_init_8 : decode b_Gr_init 8 = .ok (.newarray .int, 2) := by decide +kernel
theorem d_Gr_init_10 : decode b_Gr_init 10 = .ok (.putfield 9, 3) := by decide +kernel
theorem d_Gr_init_13 : decode b_Gr_init 13 = .ok (.aload_n 0, 1) := by decide +kernel
theorem d_Gr_init_14 : decode b_Gr_init 14 = .ok (.sipush 8001, 3) := by decide +kernel
theorem d_Gr_init_17 : decode b_Gr_init 17 = .ok (.newarray .int, 2) := by decide +kernel
theorem d_Gr_init_19 : decode b_Gr_init 19 = .ok (.putfield 15, 3) := by decide +kernel
theorem d_Gr_init_22 : decode b_Gr_init 22 = .ok (.aload_n 0, 1) := by decide +kernel
theorem d_Gr_init_23 : decode b_Gr_init 23 = .ok (.sipush 8001, 3) := by decide +kernel
theorem d_Gr_init_26 : decode b_Gr_init 26 = .ok (.newarray .int, 2) := by decide +kernel
theorem d_Gr_init_28 : decode b_Gr_init 28 = .ok (.putfield 18, 3) := by decide +kernel
theorem d_Gr_init_31 : decode b_Gr_init 31 = .ok (.aload_n 0, 1) := by decide +kernel
theorem d_Gr_init_32 : decode b_Gr_init 32 = .ok (.sipush 8001, 3) := by decide +kernel
theorem d_Gr_init_35 : decode b_Gr_init 35 = .ok (.newarray .int, 2) := by decide +kernel
theorem d_Gr_init_37 : decode b_Gr_init 37 = .ok (.putfield 21, 3) := by decide +kernel
theorem d_Gr_init_40 : decode b_Gr_init 40 = .ok (.aload_n 0, 1) := by decide +kernel
theorem d_Gr_init_41 : decode b_Gr_init 41 = .ok (.sipush 8001, 3) := by decide +kernel
theorem d_Gr_init_44 : decode b_Gr_init 44 = .ok (.newarray .int, 2) := by decide +kernel
theorem d_Gr_init_46 : decode b_Gr_init 46 = .ok (.putfield 24, 3) := by decide +kernel
theorem d_Gr_init_49 : decode b_Gr_init 49 = .ok (.aload_n 0, 1) := by decide +kernel
theorem d_Gr_init_50 : decode b_Gr_init 50 = .ok (.sipush 8001, 3) := by decide +kernel
theorem d_Gr_init_53 : decode b_Gr_init 53 = .ok (.newarray .int, 2) := by decide +kernel
theorem d_Gr_init_55 : decode b_Gr_init 55 = .ok (.putfield 27, 3) := by decide +kernel
theorem d_Gr_init_58 : decode b_Gr_init 58 = .ok (.aload_n 0, 1) := by decide +kernel
theorem d_Gr_init_59 : decode b_Gr_init 59 = .ok (.iconst 0, 1) := by decide +kernel
theorem d_Gr_init_60 : decode b_Gr_init 60 = .ok (.putfield 30, 3) := by decide +kernel
theorem d_Gr_init_63 : decode b_Gr_init 63 = .ok (.return_, 1) := by decide +kernel
set_option maxHeartbeats 4000000 in
set_option maxRecDepth 100000 in
theorem c_Gr_init {l : Launch} {dC : Nat → ClassId} {dI : Nat → Nat → Nat} {cI cB cS : ClassId} {adK adV adR : Nat → Nat} (h_t : Nat) : jMet l dC dI cI cB cS adK adV adR y_Gr_init wd_Gr_init { frames := 1, cells := 6, slots := 48006, locals := 12 } [.ref h_t] [(h_t, .inr (1, [.null, .null, .null, .null, .null, .null, .int 0]))] (none) (fun q => [(h_t, .inr (1, [.ref (q 0), .ref (q 1), .ref (q 2), .ref (q 3), .ref (q 4), .ref (q 5), .int (0 : Int32)])), ((q 0), .inl (cI, 8001, .inl (fun _ => 0))), ((q 1), .inl (cI, 8001, .inl (fun _ => 0))), ((q 2), .inl (cI, 8001, .inl (fun _ => 0))), ((q 3), .inl (cI, 8001, .inl (fun _ => 0))), ((q 4), .inl (cI, 8001, .inl (fun _ => 0))), ((q 5), .inl (cI, 8001, .inl (fun _ => 0)))]) 6 48006 := by
  refine jEntry (cc := b_Gr_init) (maxL := 1) (ret := none) (by decide) rfl (Nat.le_of_ble_eq_true rfl) rfl (fun p e s m args below meth c A H locs ls Q hQ hx hb hr hml hown hts hlocks hnm hJ hA hP hD hS hl => ?_)
  have hK := hJ.K
  have hl : lv_has ls 1 [(0, .ref h_t)] := hl
  subst hQ
  refine lv_aload_n hx hb d_Gr_init_0 rfl (lv_at hl 0 rfl) ?_
  refine W.objInit hx hb hown (hts _ (List.mem_cons_of_mem _ jw164)) (hts _ (List.mem_cons_of_mem _ jw25)) (hts _ (List.mem_cons_of_mem _ jw26)) rfl (by rw [hml]; exact hl.1) rfl d_Gr_init_1 (Nat.le_of_ble_eq_true rfl) (Nat.le_of_ble_eq_true rfl) ?_
  refine W.eq (g2 := F0 m 4 ls []) rfl ?_
  refine lv_aload_n hx hb d_Gr_init_4 rfl (lv_at hl 0 rfl) ?_
  refine lv_sipush (v := (8001 : Int32)) hx hb d_Gr_init_5 (by decide) ?_
  refine va_newa (atype := .int) (ty := .int) (a0 := (8001, .inl (fun _ => 0))) hx hb (hts _ (List.mem_cons_of_mem _ jw42)) rfl hK hP hD hS hA (fun _ => rfl) (by decide) (by decide) (by decide) (Nat.le_of_ble_eq_true rfl) (Nat.le_of_ble_eq_true rfl) d_Gr_init_8 (fun q8 cA H hKn hP hD hS => ?_)
  rw [j_clsI hKn] at hP hD
  have hP : va_P (dC, dI) vwCl [(h_t, .inr (1, [.null, .null, .null, .null, .null, .null, .int 0])), (q8, .inl (cI, 8001, .inl (fun _ => 0)))] H := hP
  have hD : va_D A [(h_t, .inr (1, [.null, .null, .null, .null, .null, .null, .int 0])), (q8, .inl (cI, 8001, .inl (fun _ => 0)))] := hD
  refine W.widen (k := 1) (n := 8001) (by decide) (by decide) ?_
  refine va_putF (D := (dC, dI)) (ci := 1) (v := .ref q8) (ty := (.array .int)) (C := R_Gr) (T := T_Gr) (N := 7) hx hb hts (fun w h => List.mem_cons_of_mem _ (in_Gr w h)) ty_Gr tyok_Gr nm_Gr hown hK hP hD hS 0 rfl rfl 0 (by decide) (hts _ (List.mem_cons_of_mem _ jw165)) (fun _ h9 => h9) rfl hnm rfl (by decide +kernel) rfl rfl (Nat.le_of_ble_eq_true rfl) d_Gr_init_10 (fun H locs hP hD hS => ?_)
  have hP : va_P (dC, dI) vwCl [(h_t, .inr (1, [.ref q8, .null, .null, .null, .null, .null, .int 0])), (q8, .inl (cI, 8001, .inl (fun _ => 0)))] H := hP
  have hD : va_D A [(h_t, .inr (1, [.ref q8, .null, .null, .null, .null, .null, .int 0])), (q8, .inl (cI, 8001, .inl (fun _ => 0)))] := hD
  refine lv_aload_n hx hb d_Gr_init_13 rfl (lv_at hl 0 rfl) ?_
  refine lv_sipush (v := (8001 : Int32)) hx hb d_Gr_init_14 (by decide) ?_
  refine va_newa (atype := .int) (ty := .int) (a0 := (8001, .inl (fun _ => 0))) hx hb (hts _ (List.mem_cons_of_mem _ jw42)) rfl hK hP hD hS hA (fun _ => rfl) (by decide) (by decide) (by decide) (Nat.le_of_ble_eq_true rfl) (Nat.le_of_ble_eq_true rfl) d_Gr_init_17 (fun q17 cA H hKn hP hD hS => ?_)
  rw [j_clsI hKn] at hP hD
  have hP : va_P (dC, dI) vwCl [(h_t, .inr (1, [.ref q8, .null, .null, .null, .null, .null, .int 0])), (q8, .inl (cI, 8001, .inl (fun _ => 0))), (q17, .inl (cI, 8001, .inl (fun _ => 0)))] H := hP
  have hD : va_D A [(h_t, .inr (1, [.ref q8, .null, .null, .null, .null, .null, .int 0])), (q8, .inl (cI, 8001, .inl (fun _ => 0))), (q17, .inl (cI, 8001, .inl (fun _ => 0)))] := hD
  refine W.widen (k := 2) (n := 16002) (by decide) (by decide) ?_
  refine va_putF (D := (dC, dI)) (ci := 1) (v := .ref q17) (ty := (.array .int)) (C := R_Gr) (T := T_Gr) (N := 7) hx hb hts (fun w h => List.mem_cons_of_mem _ (in_Gr w h)) ty_Gr tyok_Gr nm_Gr hown hK hP hD hS 0 rfl rfl 1 (by decide) (hts _ (List.mem_cons_of_mem _ jw166)) (fun _ h9 => h9) rfl hnm rfl (by decide +kernel) rfl rfl (Nat.le_of_ble_eq_true rfl) d_Gr_init_19 (fun H locs hP hD hS => ?_)
  have hP : va_P (dC, dI) vwCl [(h_t, .inr (1, [.ref q8, .ref q17, .null, .null, .null, .null, .int 0])), (q8, .inl (cI, 8001, .inl (fun _ => 0))), (q17, .inl (cI, 8001, .inl (fun _ => 0)))] H := hP
  have hD : va_D A [(h_t, .inr (1, [.ref q8, .ref q17, .null, .null, .null, .null, .int 0])), (q8, .inl (cI, 8001, .inl (fun _ => 0))), (q17, .inl (cI, 8001, .inl (fun _ => 0)))] := hD
  refine lv_aload_n hx hb d_Gr_init_22 rfl (lv_at hl 0 rfl) ?_
  refine lv_sipush (v := (8001 : Int32)) hx hb d_Gr_init_23 (by decide) ?_
  refine va_newa (atype := .int) (ty := .int) (a0 := (8001, .inl (fun _ => 0))) hx hb (hts _ (List.mem_cons_of_mem _ jw42)) rfl hK hP hD hS hA (fun _ => rfl) (by decide) (by decide) (by decide) (Nat.le_of_ble_eq_true rfl) (Nat.le_of_ble_eq_true rfl) d_Gr_init_26 (fun q26 cA H hKn hP hD hS => ?_)
  rw [j_clsI hKn] at hP hD
  have hP : va_P (dC, dI) vwCl [(h_t, .inr (1, [.ref q8, .ref q17, .null, .null, .null, .null, .int 0])), (q8, .inl (cI, 8001, .inl (fun _ => 0))), (q17, .inl (cI, 8001, .inl (fun _ => 0))), (q26, .inl (cI, 8001, .inl (fun _ => 0)))] H := hP
  have hD : va_D A [(h_t, .inr (1, [.ref q8, .ref q17, .null, .null, .null, .null, .int 0])), (q8, .inl (cI, 8001, .inl (fun _ => 0))), (q17, .inl (cI, 8001, .inl (fun _ => 0))), (q26, .inl (cI, 8001, .inl (fun _ => 0)))] := hD
  refine W.widen (k := 3) (n := 24003) (by decide) (by decide) ?_
  refine va_putF (D := (dC, dI)) (ci := 1) (v := .ref q26) (ty := (.array .int)) (C := R_Gr) (T := T_Gr) (N := 7) hx hb hts (fun w h => List.mem_cons_of_mem _ (in_Gr w h)) ty_Gr tyok_Gr nm_Gr hown hK hP hD hS 0 rfl rfl 2 (by decide) (hts _ (List.mem_cons_of_mem _ jw167)) (fun _ h9 => h9) rfl hnm rfl (by decide +kernel) rfl rfl (Nat.le_of_ble_eq_true rfl) d_Gr_init_28 (fun H locs hP hD hS => ?_)
  have hP : va_P (dC, dI) vwCl [(h_t, .inr (1, [.ref q8, .ref q17, .ref q26, .null, .null, .null, .int 0])), (q8, .inl (cI, 8001, .inl (fun _ => 0))), (q17, .inl (cI, 8001, .inl (fun _ => 0))), (q26, .inl (cI, 8001, .inl (fun _ => 0)))] H := hP
  have hD : va_D A [(h_t, .inr (1, [.ref q8, .ref q17, .ref q26, .null, .null, .null, .int 0])), (q8, .inl (cI, 8001, .inl (fun _ => 0))), (q17, .inl (cI, 8001, .inl (fun _ => 0))), (q26, .inl (cI, 8001, .inl (fun _ => 0)))] := hD
  refine lv_aload_n hx hb d_Gr_init_31 rfl (lv_at hl 0 rfl) ?_
  refine lv_sipush (v := (8001 : Int32)) hx hb d_Gr_init_32 (by decide) ?_
  refine va_newa (atype := .int) (ty := .int) (a0 := (8001, .inl (fun _ => 0))) hx hb (hts _ (List.mem_cons_of_mem _ jw42)) rfl hK hP hD hS hA (fun _ => rfl) (by decide) (by decide) (by decide) (Nat.le_of_ble_eq_true rfl) (Nat.le_of_ble_eq_true rfl) d_Gr_init_35 (fun q35 cA H hKn hP hD hS => ?_)
  rw [j_clsI hKn] at hP hD
  have hP : va_P (dC, dI) vwCl [(h_t, .inr (1, [.ref q8, .ref q17, .ref q26, .null, .null, .null, .int 0])), (q8, .inl (cI, 8001, .inl (fun _ => 0))), (q17, .inl (cI, 8001, .inl (fun _ => 0))), (q26, .inl (cI, 8001, .inl (fun _ => 0))), (q35, .inl (cI, 8001, .inl (fun _ => 0)))] H := hP
  have hD : va_D A [(h_t, .inr (1, [.ref q8, .ref q17, .ref q26, .null, .null, .null, .int 0])), (q8, .inl (cI, 8001, .inl (fun _ => 0))), (q17, .inl (cI, 8001, .inl (fun _ => 0))), (q26, .inl (cI, 8001, .inl (fun _ => 0))), (q35, .inl (cI, 8001, .inl (fun _ => 0)))] := hD
  refine W.widen (k := 4) (n := 32004) (by decide) (by decide) ?_
  refine va_putF (D := (dC, dI)) (ci := 1) (v := .ref q35) (ty := (.array .int)) (C := R_Gr) (T := T_Gr) (N := 7) hx hb hts (fun w h => List.mem_cons_of_mem _ (in_Gr w h)) ty_Gr tyok_Gr nm_Gr hown hK hP hD hS 0 rfl rfl 3 (by decide) (hts _ (List.mem_cons_of_mem _ jw168)) (fun _ h9 => h9) rfl hnm rfl (by decide +kernel) rfl rfl (Nat.le_of_ble_eq_true rfl) d_Gr_init_37 (fun H locs hP hD hS => ?_)
  have hP : va_P (dC, dI) vwCl [(h_t, .inr (1, [.ref q8, .ref q17, .ref q26, .ref q35, .null, .null, .int 0])), (q8, .inl (cI, 8001, .inl (fun _ => 0))), (q17, .inl (cI, 8001, .inl (fun _ => 0))), (q26, .inl (cI, 8001, .inl (fun _ => 0))), (q35, .inl (cI, 8001, .inl (fun _ => 0)))] H := hP
  have hD : va_D A [(h_t, .inr (1, [.ref q8, .ref q17, .ref q26, .ref q35, .null, .null, .int 0])), (q8, .inl (cI, 8001, .inl (fun _ => 0))), (q17, .inl (cI, 8001, .inl (fun _ => 0))), (q26, .inl (cI, 8001, .inl (fun _ => 0))), (q35, .inl (cI, 8001, .inl (fun _ => 0)))] := hD
  refine lv_aload_n hx hb d_Gr_init_40 rfl (lv_at hl 0 rfl) ?_
  refine lv_sipush (v := (8001 : Int32)) hx hb d_Gr_init_41 (by decide) ?_
  refine va_newa (atype := .int) (ty := .int) (a0 := (8001, .inl (fun _ => 0))) hx hb (hts _ (List.mem_cons_of_mem _ jw42)) rfl hK hP hD hS hA (fun _ => rfl) (by decide) (by decide) (by decide) (Nat.le_of_ble_eq_true rfl) (Nat.le_of_ble_eq_true rfl) d_Gr_init_44 (fun q44 cA H hKn hP hD hS => ?_)
  rw [j_clsI hKn] at hP hD
  have hP : va_P (dC, dI) vwCl [(h_t, .inr (1, [.ref q8, .ref q17, .ref q26, .ref q35, .null, .null, .int 0])), (q8, .inl (cI, 8001, .inl (fun _ => 0))), (q17, .inl (cI, 8001, .inl (fun _ => 0))), (q26, .inl (cI, 8001, .inl (fun _ => 0))), (q35, .inl (cI, 8001, .inl (fun _ => 0))), (q44, .inl (cI, 8001, .inl (fun _ => 0)))] H := hP
  have hD : va_D A [(h_t, .inr (1, [.ref q8, .ref q17, .ref q26, .ref q35, .null, .null, .int 0])), (q8, .inl (cI, 8001, .inl (fun _ => 0))), (q17, .inl (cI, 8001, .inl (fun _ => 0))), (q26, .inl (cI, 8001, .inl (fun _ => 0))), (q35, .inl (cI, 8001, .inl (fun _ => 0))), (q44, .inl (cI, 8001, .inl (fun _ => 0)))] := hD
  refine W.widen (k := 5) (n := 40005) (by decide) (by decide) ?_
  refine va_putF (D := (dC, dI)) (ci := 1) (v := .ref q44) (ty := (.array .int)) (C := R_Gr) (T := T_Gr) (N := 7) hx hb hts (fun w h => List.mem_cons_of_mem _ (in_Gr w h)) ty_Gr tyok_Gr nm_Gr hown hK hP hD hS 0 rfl rfl 4 (by decide) (hts _ (List.mem_cons_of_mem _ jw169)) (fun _ h9 => h9) rfl hnm rfl (by decide +kernel) rfl rfl (Nat.le_of_ble_eq_true rfl) d_Gr_init_46 (fun H locs hP hD hS => ?_)
  have hP : va_P (dC, dI) vwCl [(h_t, .inr (1, [.ref q8, .ref q17, .ref q26, .ref q35, .ref q44, .null, .int 0])), (q8, .inl (cI, 8001, .inl (fun _ => 0))), (q17, .inl (cI, 8001, .inl (fun _ => 0))), (q26, .inl (cI, 8001, .inl (fun _ => 0))), (q35, .inl (cI, 8001, .inl (fun _ => 0))), (q44, .inl (cI, 8001, .inl (fun _ => 0)))] H := hP
  have hD : va_D A [(h_t, .inr (1, [.ref q8, .ref q17, .ref q26, .ref q35, .ref q44, .null, .int 0])), (q8, .inl (cI, 8001, .inl (fun _ => 0))), (q17, .inl (cI, 8001, .inl (fun _ => 0))), (q26, .inl (cI, 8001, .inl (fun _ => 0))), (q35, .inl (cI, 8001, .inl (fun _ => 0))), (q44, .inl (cI, 8001, .inl (fun _ => 0)))] := hD
  refine lv_aload_n hx hb d_Gr_init_49 rfl (lv_at hl 0 rfl) ?_
  refine lv_sipush (v := (8001 : Int32)) hx hb d_Gr_init_50 (by decide) ?_
  refine va_newa (atype := .int) (ty := .int) (a0 := (8001, .inl (fun _ => 0))) hx hb (hts _ (List.mem_cons_of_mem _ jw42)) rfl hK hP hD hS hA (fun _ => rfl) (by decide) (by decide) (by decide) (Nat.le_of_ble_eq_true rfl) (Nat.le_of_ble_eq_true rfl) d_Gr_init_53 (fun q53 cA H hKn hP hD hS => ?_)
  rw [j_clsI hKn] at hP hD
  have hP : va_P (dC, dI) vwCl [(h_t, .inr (1, [.ref q8, .ref q17, .ref q26, .ref q35, .ref q44, .null, .int 0])), (q8, .inl (cI, 8001, .inl (fun _ => 0))), (q17, .inl (cI, 8001, .inl (fun _ => 0))), (q26, .inl (cI, 8001, .inl (fun _ => 0))), (q35, .inl (cI, 8001, .inl (fun _ => 0))), (q44, .inl (cI, 8001, .inl (fun _ => 0))), (q53, .inl (cI, 8001, .inl (fun _ => 0)))] H := hP
  have hD : va_D A [(h_t, .inr (1, [.ref q8, .ref q17, .ref q26, .ref q35, .ref q44, .null, .int 0])), (q8, .inl (cI, 8001, .inl (fun _ => 0))), (q17, .inl (cI, 8001, .inl (fun _ => 0))), (q26, .inl (cI, 8001, .inl (fun _ => 0))), (q35, .inl (cI, 8001, .inl (fun _ => 0))), (q44, .inl (cI, 8001, .inl (fun _ => 0))), (q53, .inl (cI, 8001, .inl (fun _ => 0)))] := hD
  refine W.widen (k := 6) (n := 48006) (by decide) (by decide) ?_
  refine va_putF (D := (dC, dI)) (ci := 1) (v := .ref q53) (ty := (.array .int)) (C := R_Gr) (T := T_Gr) (N := 7) hx hb hts (fun w h => List.mem_cons_of_mem _ (in_Gr w h)) ty_Gr tyok_Gr nm_Gr hown hK hP hD hS 0 rfl rfl 5 (by decide) (hts _ (List.mem_cons_of_mem _ jw170)) (fun _ h9 => h9) rfl hnm rfl (by decide +kernel) rfl rfl (Nat.le_of_ble_eq_true rfl) d_Gr_init_55 (fun H locs hP hD hS => ?_)
  have hP : va_P (dC, dI) vwCl [(h_t, .inr (1, [.ref q8, .ref q17, .ref q26, .ref q35, .ref q44, .ref q53, .int 0])), (q8, .inl (cI, 8001, .inl (fun _ => 0))), (q17, .inl (cI, 8001, .inl (fun _ => 0))), (q26, .inl (cI, 8001, .inl (fun _ => 0))), (q35, .inl (cI, 8001, .inl (fun _ => 0))), (q44, .inl (cI, 8001, .inl (fun _ => 0))), (q53, .inl (cI, 8001, .inl (fun _ => 0)))] H := hP
  have hD : va_D A [(h_t, .inr (1, [.ref q8, .ref q17, .ref q26, .ref q35, .ref q44, .ref q53, .int 0])), (q8, .inl (cI, 8001, .inl (fun _ => 0))), (q17, .inl (cI, 8001, .inl (fun _ => 0))), (q26, .inl (cI, 8001, .inl (fun _ => 0))), (q35, .inl (cI, 8001, .inl (fun _ => 0))), (q44, .inl (cI, 8001, .inl (fun _ => 0))), (q53, .inl (cI, 8001, .inl (fun _ => 0)))] := hD
  refine lv_aload_n hx hb d_Gr_init_58 rfl (lv_at hl 0 rfl) ?_
  refine lv_iconst (v := (0 : Int32)) hx hb d_Gr_init_59 (by decide) ?_
  refine va_put (D := (dC, dI)) (ci := 1) (v := .int (0 : Int32)) (ty := .int) (C := R_Gr) (T := T_Gr) (N := 7) hx hb hts (fun w h => List.mem_cons_of_mem _ (in_Gr w h)) ty_Gr tyok_Gr nm_Gr hown hK hP hD hS 0 rfl rfl 6 (by decide) (hts _ (List.mem_cons_of_mem _ jw171)) (fun _ h9 => h9) rfl (by decide +kernel) rfl rfl (Nat.le_of_ble_eq_true rfl) d_Gr_init_60 (fun H locs hP hD hS => ?_)
  have hP : va_P (dC, dI) vwCl [(h_t, .inr (1, [.ref q8, .ref q17, .ref q26, .ref q35, .ref q44, .ref q53, .int (0 : Int32)])), (q8, .inl (cI, 8001, .inl (fun _ => 0))), (q17, .inl (cI, 8001, .inl (fun _ => 0))), (q26, .inl (cI, 8001, .inl (fun _ => 0))), (q35, .inl (cI, 8001, .inl (fun _ => 0))), (q44, .inl (cI, 8001, .inl (fun _ => 0))), (q53, .inl (cI, 8001, .inl (fun _ => 0)))] H := hP
  have hD : va_D A [(h_t, .inr (1, [.ref q8, .ref q17, .ref q26, .ref q35, .ref q44, .ref q53, .int (0 : Int32)])), (q8, .inl (cI, 8001, .inl (fun _ => 0))), (q17, .inl (cI, 8001, .inl (fun _ => 0))), (q26, .inl (cI, 8001, .inl (fun _ => 0))), (q35, .inl (cI, 8001, .inl (fun _ => 0))), (q44, .inl (cI, 8001, .inl (fun _ => 0))), (q53, .inl (cI, 8001, .inl (fun _ => 0)))] := hD
  refine W.widen (k := 6) (n := 48006) (by decide) (by decide) ?_
  exact jVret hx hb hr hlocks d_Gr_init_63 (fun n => [q8, q17, q26, q35, q44, q53].getD n 0) hS hP hD
theorem d_Gr_cutTo_0 : decode b_Gr_cutTo 0 = .ok (.iload_n 1, 1) := by decide +kernel
theorem d_Gr_cutTo_1 : decode b_Gr_cutTo 1 = .ok (.ifCond .lt 16, 3) := by decide +kernel
theorem d_Gr_cutTo_4 : decode b_Gr_cutTo 4 = .ok (.iload_n 1, 1) := by decide +kernel
theorem d_Gr_cutTo_5 : decode b_Gr_cutTo 5 = .ok (.aload_n 0, 1) := by decide +kernel
theorem d_Gr_cutTo_6 : decode b_Gr_cutTo 6 = .ok (.getfield 30, 3) := by decide +kernel
theorem d_Gr_cutTo_9 : decode b_Gr_cutTo 9 = .ok (.if_icmp .ge 8, 3) := by decide +kernel
theorem d_Gr_cutTo_12 : decode b_Gr_cutTo 12 = .ok (.aload_n 0, 1) := by decide +kernel
theorem d_Gr_cutTo_13 : decode b_Gr_cutTo 13 = .ok (.iload_n 1, 1) := by decide +kernel
theorem d_Gr_cutTo_14 : decode b_Gr_cutTo 14 = .ok (.putfield 30, 3) := by decide +kernel
theorem d_Gr_cutTo_17 : decode b_Gr_cutTo 17 = .ok (.return_, 1) := by decide +kernel
noncomputable def f_Gr_cutTo  (t_count : Int32) (a1 : Int32) : Option Int32 := if a1 < 0 then (some t_count) else (if t_count ≤ a1 then (some t_count) else (some a1))
set_option maxHeartbeats 4000000 in
set_option maxRecDepth 100000 in
theorem c_Gr_cutTo {l : Launch} {dC : Nat → ClassId} {dI : Nat → Nat → Nat} {cI cB cS : ClassId} {adK adV adR : Nat → Nat} (h_t h_t_kinds h_t_places h_t_values h_t_sizes h_t_partCounts h_t_numbers : Nat) (t_kinds : (Nat → Int32)) (t_places : (Nat → Int32)) (t_values : (Nat → Int32)) (t_sizes : (Nat → Int32)) (t_partCounts : (Nat → Int32)) (t_numbers : (Nat → Int32)) (t_count : Int32) (a1 : Int32) {o : Int32} (hf : f_Gr_cutTo t_count a1 = some o) : jMet l dC dI cI cB cS adK adV adR y_Gr_cutTo wd_Gr_cutTo { frames := 0, cells := 0, slots := 0, locals := 0 } [.ref h_t, .int a1] [(h_t, .inr (1, [.ref h_t_kinds, .ref h_t_places, .ref h_t_values, .ref h_t_sizes, .ref h_t_partCounts, .ref h_t_numbers, .int t_count])), (h_t_kinds, .inl (cI, 8001, .inl t_kinds)), (h_t_places, .inl (cI, 8001, .inl t_places)), (h_t_values, .inl (cI, 8001, .inl t_values)), (h_t_sizes, .inl (cI, 8001, .inl t_sizes)), (h_t_partCounts, .inl (cI, 8001, .inl t_partCounts)), (h_t_numbers, .inl (cI, 8001, .inl t_numbers))] (none) (fun q => [(h_t, .inr (1, [.ref h_t_kinds, .ref h_t_places, .ref h_t_values, .ref h_t_sizes, .ref h_t_partCounts, .ref h_t_numbers, .int o])), (h_t_kinds, .inl (cI, 8001, .inl t_kinds)), (h_t_places, .inl (cI, 8001, .inl t_places)), (h_t_values, .inl (cI, 8001, .inl t_values)), (h_t_sizes, .inl (cI, 8001, .inl t_sizes)), (h_t_partCounts, .inl (cI, 8001, .inl t_partCounts)), (h_t_numbers, .inl (cI, 8001, .inl t_numbers))]) 0 0 := by
  refine jEntry (cc := b_Gr_cutTo) (maxL := 2) (ret := none) (by decide) rfl (Nat.le_of_ble_eq_true rfl) rfl (fun p e s m args below meth c A H locs ls Q hQ hx hb hr hml hown hts hlocks hnm hJ hA hP hD hS hl => ?_)
  have hK := hJ.K
  have hl : lv_has ls 2 [(0, .ref h_t), (1, .int a1)] := hl
  unfold f_Gr_cutTo at hf
  refine lv_iload_n hx hb d_Gr_cutTo_0 rfl (lv_at hl 1 rfl) ?_
  refine lv_if_lt (tgt := 17) hx hb d_Gr_cutTo_1 (by decide) (fun c1 => ?_) (fun c1 => ?_)
  · rw [if_pos c1] at hf
    have hf : (some t_count : Option Int32) = some o := hf
    rw [hQ, ← Option.some.inj hf]
    exact jVret hx hb hr hlocks d_Gr_cutTo_17 (fun _ => 0) hS hP hD
  · rw [if_neg c1] at hf
    refine lv_iload_n hx hb d_Gr_cutTo_4 rfl (lv_at hl 1 rfl) ?_
    refine lv_aload_n hx hb d_Gr_cutTo_5 rfl (lv_at hl 0 rfl) ?_
    refine va_get (D := (dC, dI)) (ci := 1) (v := .int t_count) (C := R_Gr) (T := T_Gr) (N := 7) hx hb hts (fun w h => List.mem_cons_of_mem _ (in_Gr w h)) hown hK hP 0 rfl rfl 6 (by decide) (hts _ (List.mem_cons_of_mem _ jw171)) (fun _ h9 => h9) rfl d_Gr_cutTo_6 ?_
    refine lv_icmp_ge (tgt := 17) hx hb d_Gr_cutTo_9 (by decide) (fun c9 => ?_) (fun c9 => ?_)
    · rw [if_pos c9] at hf
      have hf : (some t_count : Option Int32) = some o := hf
      rw [hQ, ← Option.some.inj hf]
      exact jVret hx hb hr hlocks d_Gr_cutTo_17 (fun _ => 0) hS hP hD
    · rw [if_neg c9] at hf
      refine lv_aload_n hx hb d_Gr_cutTo_12 rfl (lv_at hl 0 rfl) ?_
      refine lv_iload_n hx hb d_Gr_cutTo_13 rfl (lv_at hl 1 rfl) ?_
      refine va_put (D := (dC, dI)) (ci := 1) (v := .int a1) (ty := .int) (C := R_Gr) (T := T_Gr) (N := 7) hx hb hts (fun w h => List.mem_cons_of_mem _ (in_Gr w h)) ty_Gr tyok_Gr nm_Gr hown hK hP hD hS 0 rfl rfl 6 (by decide) (hts _ (List.mem_cons_of_mem _ jw171)) (fun _ h9 => h9) rfl (by decide +kernel) rfl rfl (Nat.le_of_ble_eq_true rfl) d_Gr_cutTo_14 (fun H locs hP hD hS => ?_)
      have hP : va_P (dC, dI) vwCl [(h_t, .inr (1, [.ref h_t_kinds, .ref h_t_places, .ref h_t_values, .ref h_t_sizes, .ref h_t_partCounts, .ref h_t_numbers, .int a1])), (h_t_kinds, .inl (cI, 8001, .inl t_kinds)), (h_t_places, .inl (cI, 8001, .inl t_places)), (h_t_values, .inl (cI, 8001, .inl t_values)), (h_t_sizes, .inl (cI, 8001, .inl t_sizes)), (h_t_partCounts, .inl (cI, 8001, .inl t_partCounts)), (h_t_numbers, .inl (cI, 8001, .inl t_numbers))] H := hP
      have hD : va_D A [(h_t, .inr (1, [.ref h_t_kinds, .ref h_t_places, .ref h_t_values, .ref h_t_sizes, .ref h_t_partCounts, .ref h_t_numbers, .int a1])), (h_t_kinds, .inl (cI, 8001, .inl t_kinds)), (h_t_places, .inl (cI, 8001, .inl t_places)), (h_t_values, .inl (cI, 8001, .inl t_values)), (h_t_sizes, .inl (cI, 8001, .inl t_sizes)), (h_t_partCounts, .inl (cI, 8001, .inl t_partCounts)), (h_t_numbers, .inl (cI, 8001, .inl t_numbers))] := hD
      have hf : (some a1 : Option Int32) = some o := hf
      rw [hQ, ← Option.some.inj hf]
      exact jVret hx hb hr hlocks d_Gr_cutTo_17 (fun _ => 0) hS hP hD
theorem d_Gr_add_0 : decode b_Gr_add 0 = .ok (.aload_n 0, 1) := by decide +kernel
theorem d_Gr_add_1 : decode b_Gr_add 1 = .ok (.getfield 30, 3) := by decide +kernel
theorem d_Gr_add_4 : decode b_Gr_add 4 = .ok (.sipush 8001, 3) := by decide +kernel
theorem d_Gr_add_7 : decode b_Gr_add 7 = .ok (.if_icmp .ge 17, 3) := by decide +kernel
theorem d_Gr_add_10 : decode b_Gr_add 10 = .ok (.iload 4, 2) := by decide +kernel
theorem d_Gr_add_12 : decode b_Gr_add 12 = .ok (.ifCond .lt 12, 3) := by decide +kernel
theorem d_Gr_add_15 : decode b_Gr_add 15 = .ok (.iload 4, 2) := by decide +kernel
theorem d_Gr_add_17 : decode b_Gr_add 17 = .ok (.aload_n 0, 1) := by decide +kernel
theorem d_Gr_add_18 : decode b_Gr_add 18 = .ok (.getfield 30, 3) := by decide +kernel
theorem d_Gr_add_21 : decode b_Gr_add 21 = .ok (.if_icmp .le 5, 3) := by decide +kernel
theorem d_Gr_add_24 : decode b_Gr_add 24 = .ok (.iconst 0, 1) := by decide +kernel
theorem d_Gr_add_25 : decode b_Gr_add 25 = .ok (.ireturn, 1) := by decide +kernel
theorem d_Gr_add_26 : decode b_Gr_add 26 = .ok (.iconst 0, 1) := by decide +kernel
theorem d_Gr_add_27 : decode b_Gr_add 27 = .ok (.istore 5, 2) := by decide +kernel
theorem d_Gr_add_29 : decode b_Gr_add 29 = .ok (.aload_n 0, 1) := by decide +kernel
theorem d_Gr_add_30 : decode b_Gr_add 30 = .ok (.getfield 30, 3) := by decide +kernel
theorem d_Gr_add_33 : decode b_Gr_add 33 = .ok (.iconst 1, 1) := by decide +kernel
theorem d_Gr_add_34 : decode b_Gr_add 34 = .ok (.isub, 1) := by decide +kernel
theorem d_Gr_add_35 : decode b_Gr_add 35 = .ok (.istore 6, 2) := by decide +kernel
theorem d_Gr_add_37 : decode b_Gr_add 37 = .ok (.iload 6, 2) := by decide +kernel
theorem d_Gr_add_39 : decode b_Gr_add 39 = .ok (.iload 4, 2) := by decide +kernel
theorem d_Gr_add_41 : decode b_Gr_add 41 = .ok (.if_icmp .lt 25, 3) := by decide +kernel
theorem d_Gr_add_44 : decode b_Gr_add 44 = .ok (.iinc 5 1, 3) := by decide +kernel
theorem d_Gr_add_47 : decode b_Gr_add 47 = .ok (.iload 6, 2) := by decide +kernel
theorem d_Gr_add_49 : decode b_Gr_add 49 = .ok (.iconst 1, 1) := by decide +kernel
theorem d_Gr_add_50 : decode b_Gr_add 50 = .ok (.aload_n 0, 1) := by decide +kernel
theorem d_Gr_add_51 : decode b_Gr_add 51 = .ok (.getfield 21, 3) := by decide +kernel
theorem d_Gr_add_54 : decode b_Gr_add 54 = .ok (.iload 6, 2) := by decide +kernel
theorem d_Gr_add_56 : decode b_Gr_add 56 = .ok (.iaload, 1) := by decide +kernel
theorem d_Gr_add_57 : decode b_Gr_add 57 = .ok (.invokestatic 34, 3) := by decide +kernel
theorem d_Gr_add_60 : decode b_Gr_add 60 = .ok (.isub, 1) := by decide +kernel
theorem d_Gr_add_61 : decode b_Gr_add 61 = .ok (.istore 6, 2) := by decide +kernel
theorem d_Gr_add_63 : decode b_Gr_add 63 = .ok (.goto (-26), 3) := by decide +kernel
theorem d_Gr_add_66 : decode b_Gr_add 66 = .ok (.aload_n 0, 1) := by decide +kernel
theorem d_Gr_add_67 : decode b_Gr_add 67 = .ok (.getfield 9, 3) := by decide +kernel
theorem d_Gr_add_70 : decode b_Gr_add 70 = .ok (.aload_n 0, 1) := by decide +kernel
theorem d_Gr_add_71 : decode b_Gr_add 71 = .ok (.getfield 30, 3) := by decide +kernel
theorem d_Gr_add_74 : decode b_Gr_add 74 = .ok (.iload_n 1, 1) := by decide +kernel
theorem d_Gr_add_75 : decode b_Gr_add 75 = .ok (.iastore, 1) := by decide +kernel
theorem d_Gr_add_76 : decode b_Gr_add 76 = .ok (.aload_n 0, 1) := by decide +kernel
theorem d_Gr_add_77 : decode b_Gr_add 77 = .ok (.getfield 15, 3) := by decide +kernel
theorem d_Gr_add_80 : decode b_Gr_add 80 = .ok (.aload_n 0, 1) := by decide +kernel
theorem d_Gr_add_81 : decode b_Gr_add 81 = .ok (.getfield 30, 3) := by decide +kernel
theorem d_Gr_add_84 : decode b_Gr_add 84 = .ok (.iload_n 2, 1) := by decide +kernel
theorem d_Gr_add_85 : decode b_Gr_add 85 = .ok (.iastore, 1) := by decide +kernel
theorem d_Gr_add_86 : decode b_Gr_add 86 = .ok (.aload_n 0, 1) := by decide +kernel
theorem d_Gr_add_87 : decode b_Gr_add 87 = .ok (.getfield 18, 3) := by decide +kernel
theorem d_Gr_add_90 : decode b_Gr_add 90 = .ok (.aload_n 0, 1) := by decide +kernel
theorem d_Gr_add_91 : decode b_Gr_add 91 = .ok (.getfield 30, 3) := by decide +kernel
theorem d_Gr_add_94 : decode b_Gr_add 94 = .ok (.iload_n 3, 1) := by decide +kernel
theorem d_Gr_add_95 : decode b_Gr_add 95 = .ok (.iastore, 1) := by decide +kernel
theorem d_Gr_add_96 : decode b_Gr_add 96 = .ok (.aload_n 0, 1) := by decide +kernel
theorem d_Gr_add_97 : decode b_Gr_add 97 = .ok (.getfield 21, 3) := by decide +kernel
theorem d_Gr_add_100 : decode b_Gr_add 100 = .ok (.aload_n 0, 1) := by decide +kernel
theorem d_Gr_add_101 : decode b_Gr_add 101 = .ok (.getfield 30, 3) := by decide +kernel
theorem d_Gr_add_104 : decode b_Gr_add 104 = .ok (.aload_n 0, 1) := by decide +kernel
theorem d_Gr_add_105 : decode b_Gr_add 105 = .ok (.getfield 30, 3) := by decide +kernel
theorem d_Gr_add_108 : decode b_Gr_add 108 = .ok (.iload 4, 2) := by decide +kernel
theorem d_Gr_add_110 : decode b_Gr_add 110 = .ok (.isub, 1) := by decide +kernel
theorem d_Gr_add_111 : decode b_Gr_add 111 = .ok (.iconst 1, 1) := by decide +kernel
theorem d_Gr_add_112 : decode b_Gr_add 112 = .ok (.iadd, 1) := by decide +kernel
theorem d_Gr_add_113 : decode b_Gr_add 113 = .ok (.iastore, 1) := by decide +kernel
theorem d_Gr_add_114 : decode b_Gr_add 114 = .ok (.aload_n 0, 1) := by decide +kernel
theorem d_Gr_add_115 : decode b_Gr_add 115 = .ok (.getfield 24, 3) := by decide +kernel
theorem d_Gr_add_118 : decode b_Gr_add 118 = .ok (.aload_n 0, 1) := by decide +kernel
theorem d_Gr_add_119 : decode b_Gr_add 119 = .ok (.getfield 30, 3) := by decide +kernel
theorem d_Gr_add_122 : decode b_Gr_add 122 = .ok (.iload 5, 2) := by decide +kernel
theorem d_Gr_add_124 : decode b_Gr_add 124 = .ok (.iastore, 1) := by decide +kernel
theorem d_Gr_add_125 : decode b_Gr_add 125 = .ok (.aload_n 0, 1) := by decide +kernel
theorem d_Gr_add_126 : decode b_Gr_add 126 = .ok (.dup, 1) := by decide +kernel
theorem d_Gr_add_127 : decode b_Gr_add 127 = .ok (.getfield 30, 3) := by decide +kernel
theorem d_Gr_add_130 : decode b_Gr_add 130 = .ok (.iconst 1, 1) := by decide +kernel
theorem d_Gr_add_131 : decode b_Gr_add 131 = .ok (.iadd, 1) := by decide +kernel
theorem d_Gr_add_132 : decode b_Gr_add 132 = .ok (.putfield 30, 3) := by decide +kernel
theorem d_Gr_add_135 : decode b_Gr_add 135 = .ok (.iconst 1, 1) := by decide +kernel
theorem d_Gr_add_136 : decode b_Gr_add 136 = .ok (.ireturn, 1) := by decide +kernel
noncomputable def Gr_add_b37_s  (t_kinds : (Nat → Int32)) (t_places : (Nat → Int32)) (t_values : (Nat → Int32)) (t_sizes : (Nat → Int32)) (t_partCounts : (Nat → Int32)) (t_count : Int32) (l1 : Int32) (l2 : Int32) (l3 : Int32) (l4 : Int32) (l5 : Int32) (l6 : Int32) : Option ((Int32 × Int32) ⊕ (Int32 × (Nat → Int32) × (Nat → Int32) × (Nat → Int32) × (Nat → Int32) × (Nat → Int32) × Int32)) := if l6 < l4 then (if t_count < 0 ∨ 8001 ≤ t_count.toNatClampNeg then none else (if t_count < 0 ∨ 8001 ≤ t_count.toNatClampNeg then none else (if t_count < 0 ∨ 8001 ≤ t_count.toNatClampNeg then none else (if t_count < 0 ∨ 8001 ≤ t_count.toNatClampNeg then none else (if t_count < 0 ∨ 8001 ≤ t_count.toNatClampNeg then none else (some (.inr (vp_nar .boolean (1 : Int32), (upd t_kinds t_count.toNatClampNeg l1), (upd t_places t_count.toNatClampNeg l2), (upd t_values t_count.toNatClampNeg l3), (upd t_sizes t_count.toNatClampNeg ((t_count - l4) + (1 : Int32))), (upd t_partCounts t_count.toNatClampNeg l5), (t_count + (1 : Int32)))))))))) else (if l6 < 0 ∨ 8001 ≤ l6.toNatClampNeg then none else (some (.inl ((l5 + (1 : Int32)), (l6 - (if (1 : Int32) < (t_sizes l6.toNatClampNeg) then (t_sizes l6.toNatClampNeg) else (1 : Int32)))))))
noncomputable def Gr_add_b37_b  (t_kinds : (Nat → Int32)) (t_places : (Nat → Int32)) (t_values : (Nat → Int32)) (t_sizes : (Nat → Int32)) (t_partCounts : (Nat → Int32)) (t_count : Int32) (l1 : Int32) (l2 : Int32) (l3 : Int32) (l4 : Int32) : (Int32 × Int32) → Option ((Int32 × Int32) ⊕ (Int32 × (Nat → Int32) × (Nat → Int32) × (Nat → Int32) × (Nat → Int32) × (Nat → Int32) × Int32)) := fun x => Gr_add_b37_s  t_kinds t_places t_values t_sizes t_partCounts t_count l1 l2 l3 l4 x.1 x.2
noncomputable def Gr_add_b37  (t_kinds : (Nat → Int32)) (t_places : (Nat → Int32)) (t_values : (Nat → Int32)) (t_sizes : (Nat → Int32)) (t_partCounts : (Nat → Int32)) (t_count : Int32) (l1 : Int32) (l2 : Int32) (l3 : Int32) (l4 : Int32) (l5 : Int32) (l6 : Int32) : Option (Int32 × (Nat → Int32) × (Nat → Int32) × (Nat → Int32) × (Nat → Int32) × (Nat → Int32) × Int32) := jl (Gr_add_b37_b  t_kinds t_places t_values t_sizes t_partCounts t_count l1 l2 l3 l4) (l5, l6)
noncomputable def f_Gr_add  (t_kinds : (Nat → Int32)) (t_places : (Nat → Int32)) (t_values : (Nat → Int32)) (t_sizes : (Nat → Int32)) (t_partCounts : (Nat → Int32)) (t_count : Int32) (a1 : Int32) (a2 : Int32) (a3 : Int32) (a4 : Int32) : Option (Int32 × (Nat → Int32) × (Nat → Int32) × (Nat → Int32) × (Nat → Int32) × (Nat → Int32) × Int32) := if (8001 : Int32) ≤ t_count then (some (vp_nar .boolean (0 : Int32), t_kinds, t_places, t_values, t_sizes, t_partCounts, t_count)) else (if a4 < 0 then (some (vp_nar .boolean (0 : Int32), t_kinds, t_places, t_values, t_sizes, t_partCounts, t_count)) else (if a4 ≤ t_count then (Gr_add_b37 t_kinds t_places t_values t_sizes t_partCounts t_count a1 a2 a3 a4 (0 : Int32) (t_count - (1 : Int32))) else (some (vp_nar .boolean (0 : Int32), t_kinds, t_places, t_values, t_sizes, t_partCounts, t_count))))
set_option maxHeartbeats 4000000 in
set_option maxRecDepth 100000 in
theorem c_Gr_add {l : Launch} {dC : Nat → ClassId} {dI : Nat → Nat → Nat} {cI cB cS : ClassId} {adK adV adR : Nat → Nat} (h_t h_t_kinds h_t_places h_t_values h_t_sizes h_t_partCounts h_t_numbers : Nat) (t_kinds : (Nat → Int32)) (t_places : (Nat → Int32)) (t_values : (Nat → Int32)) (t_sizes : (Nat → Int32)) (t_partCounts : (Nat → Int32)) (t_numbers : (Nat → Int32)) (t_count : Int32) (a1 : Int32) (a2 : Int32) (a3 : Int32) (a4 : Int32) {o : (Int32 × (Nat → Int32) × (Nat → Int32) × (Nat → Int32) × (Nat → Int32) × (Nat → Int32) × Int32)} (hf : f_Gr_add t_kinds t_places t_values t_sizes t_partCounts t_count a1 a2 a3 a4 = some o) : jMet l dC dI cI cB cS adK adV adR y_Gr_add wd_Gr_add { frames := 1, cells := 0, slots := 0, locals := 14 } [.ref h_t, .int a1, .int a2, .int a3, .int a4] [(h_t, .inr (1, [.ref h_t_kinds, .ref h_t_places, .ref h_t_values, .ref h_t_sizes, .ref h_t_partCounts, .ref h_t_numbers, .int t_count])), (h_t_kinds, .inl (cI, 8001, .inl t_kinds)), (h_t_places, .inl (cI, 8001, .inl t_places)), (h_t_values, .inl (cI, 8001, .inl t_values)), (h_t_sizes, .inl (cI, 8001, .inl t_sizes)), (h_t_partCounts, .inl (cI, 8001, .inl t_partCounts)), (h_t_numbers, .inl (cI, 8001, .inl t_numbers))] (some (.int o.1)) (fun q => [(h_t, .inr (1, [.ref h_t_kinds, .ref h_t_places, .ref h_t_values, .ref h_t_sizes, .ref h_t_partCounts, .ref h_t_numbers, .int o.2.2.2.2.2.2])), (h_t_kinds, .inl (cI, 8001, .inl o.2.1)), (h_t_places, .inl (cI, 8001, .inl o.2.2.1)), (h_t_values, .inl (cI, 8001, .inl o.2.2.2.1)), (h_t_sizes, .inl (cI, 8001, .inl o.2.2.2.2.1)), (h_t_partCounts, .inl (cI, 8001, .inl o.2.2.2.2.2.1)), (h_t_numbers, .inl (cI, 8001, .inl t_numbers))]) 0 0 := by
  refine jEntry (cc := b_Gr_add) (maxL := 7) (ret := (some .boolean)) (by decide) rfl (Nat.le_of_ble_eq_true rfl) rfl (fun p e s m args below meth c A H locs ls Q hQ hx hb hr hml hown hts hlocks hnm hJ hA hP hD hS hl => ?_)
  have hK := hJ.K
  have hl : lv_has ls 7 [(0, .ref h_t), (1, .int a1), (2, .int a2), (3, .int a3), (4, .int a4)] := hl
  have L37 : ∀ (n37 : Nat) (t_kinds : (Nat → Int32)) (t_places : (Nat → Int32)) (t_values : (Nat → Int32)) (t_sizes : (Nat → Int32)) (t_partCounts : (Nat → Int32)) (t_count : Int32) (l1 : Int32) (l2 : Int32) (l3 : Int32) (l4 : Int32) (l5 : Int32) (l6 : Int32) (H : Heap) (locs : List Loc) (ls : Array Slot), jl_n (Gr_add_b37_b t_kinds t_places t_values t_sizes t_partCounts t_count l1 l2 l3 l4) n37 (l5, l6) = some o → va_P (dC, dI) vwCl [(h_t, .inr (1, [.ref h_t_kinds, .ref h_t_places, .ref h_t_values, .ref h_t_sizes, .ref h_t_partCounts, .ref h_t_numbers, .int t_count])), (h_t_kinds, .inl (cI, 8001, .inl t_kinds)), (h_t_places, .inl (cI, 8001, .inl t_places)), (h_t_values, .inl (cI, 8001, .inl t_values)), (h_t_sizes, .inl (cI, 8001, .inl t_sizes)), (h_t_partCounts, .inl (cI, 8001, .inl t_partCounts)), (h_t_numbers, .inl (cI, 8001, .inl t_numbers))] H → va_D A [(h_t, .inr (1, [.ref h_t_kinds, .ref h_t_places, .ref h_t_values, .ref h_t_sizes, .ref h_t_partCounts, .ref h_t_numbers, .int t_count])), (h_t_kinds, .inl (cI, 8001, .inl t_kinds)), (h_t_places, .inl (cI, 8001, .inl t_places)), (h_t_values, .inl (cI, 8001, .inl t_values)), (h_t_sizes, .inl (cI, 8001, .inl t_sizes)), (h_t_partCounts, .inl (cI, 8001, .inl t_partCounts)), (h_t_numbers, .inl (cI, 8001, .inl t_numbers))] → va_S A s.heap H locs → lv_has ls 7 [(0, .ref h_t), (1, .int l1), (2, .int l2), (3, .int l3), (4, .int l4), (5, .int l5), (6, .int l6)] → W p l e { frames := 1, cells := 0, slots := 0, locals := 14 } s m args below meth c H locs 0 0 Q (F0 m 37 ls []) := by
    intro n37
    induction n37 with
    | zero => intro t_kinds t_places t_values t_sizes t_partCounts t_count l1 l2 l3 l4 l5 l6 H locs ls hf; simp only [jl_n_zero, jl_b_none, reduceCtorEq] at hf
    | succ n37 ih37 =>
      intro t_kinds t_places t_values t_sizes t_partCounts t_count l1 l2 l3 l4 l5 l6 H locs ls hf hP hD hS hl
      rw [jl_n_succ] at hf
      have hf : jl_b (jl_n (Gr_add_b37_b t_kinds t_places t_values t_sizes t_partCounts t_count l1 l2 l3 l4) n37) (Gr_add_b37_s t_kinds t_places t_values t_sizes t_partCounts t_count l1 l2 l3 l4 l5 l6) = some o := hf
      unfold Gr_add_b37_s at hf
      refine lv_iload hx hb d_Gr_add_37 (lv_at hl 6 rfl) ?_
      refine lv_iload hx hb d_Gr_add_39 (lv_at hl 4 rfl) ?_
      refine lv_icmp_lt (tgt := 66) hx hb d_Gr_add_41 (by decide) (fun c41 => ?_) (fun c41 => ?_)
      · rw [if_pos c41] at hf
        refine lv_aload_n hx hb d_Gr_add_66 rfl (lv_at hl 0 rfl) ?_
        refine va_get (D := (dC, dI)) (ci := 1) (v := .ref h_t_kinds) (C := R_Gr) (T := T_Gr) (N := 7) hx hb hts (fun w h => List.mem_cons_of_mem _ (in_Gr w h)) hown hK hP 0 rfl rfl 0 (by decide) (hts _ (List.mem_cons_of_mem _ jw165)) (fun _ h9 => h9) rfl d_Gr_add_67 ?_
        refine lv_aload_n hx hb d_Gr_add_70 rfl (lv_at hl 0 rfl) ?_
        refine va_get (D := (dC, dI)) (ci := 1) (v := .int t_count) (C := R_Gr) (T := T_Gr) (N := 7) hx hb hts (fun w h => List.mem_cons_of_mem _ (in_Gr w h)) hown hK hP 0 rfl rfl 6 (by decide) (hts _ (List.mem_cons_of_mem _ jw171)) (fun _ h9 => h9) rfl d_Gr_add_71 ?_
        refine lv_iload_n hx hb d_Gr_add_74 rfl (lv_at hl 1 rfl) ?_
        have c75 : ¬ (t_count < 0 ∨ 8001 ≤ t_count.toNatClampNeg) := by intro z; rw [if_pos z] at hf; simp only [jb_none, jl_b_none, jm_none, reduceCtorEq] at hf
        rw [if_neg c75] at hf
        refine va_iast hx hb hK hP hD hS 1 0 rfl rfl c75 d_Gr_add_75 (fun H locs hP hD hS => ?_)
        have hP : va_P (dC, dI) vwCl [(h_t, .inr (1, [.ref h_t_kinds, .ref h_t_places, .ref h_t_values, .ref h_t_sizes, .ref h_t_partCounts, .ref h_t_numbers, .int t_count])), (h_t_kinds, .inl (cI, 8001, .inl (upd t_kinds t_count.toNatClampNeg l1))), (h_t_places, .inl (cI, 8001, .inl t_places)), (h_t_values, .inl (cI, 8001, .inl t_values)), (h_t_sizes, .inl (cI, 8001, .inl t_sizes)), (h_t_partCounts, .inl (cI, 8001, .inl t_partCounts)), (h_t_numbers, .inl (cI, 8001, .inl t_numbers))] H := hP
        have hD : va_D A [(h_t, .inr (1, [.ref h_t_kinds, .ref h_t_places, .ref h_t_values, .ref h_t_sizes, .ref h_t_partCounts, .ref h_t_numbers, .int t_count])), (h_t_kinds, .inl (cI, 8001, .inl (upd t_kinds t_count.toNatClampNeg l1))), (h_t_places, .inl (cI, 8001, .inl t_places)), (h_t_values, .inl (cI, 8001, .inl t_values)), (h_t_sizes, .inl (cI, 8001, .inl t_sizes)), (h_t_partCounts, .inl (cI, 8001, .inl t_partCounts)), (h_t_numbers, .inl (cI, 8001, .inl t_numbers))] := hD
        refine lv_aload_n hx hb d_Gr_add_76 rfl (lv_at hl 0 rfl) ?_
        refine va_get (D := (dC, dI)) (ci := 1) (v := .ref h_t_places) (C := R_Gr) (T := T_Gr) (N := 7) hx hb hts (fun w h => List.mem_cons_of_mem _ (in_Gr w h)) hown hK hP 0 rfl rfl 1 (by decide) (hts _ (List.mem_cons_of_mem _ jw166)) (fun _ h9 => h9) rfl d_Gr_add_77 ?_
        refine lv_aload_n hx hb d_Gr_add_80 rfl (lv_at hl 0 rfl) ?_
        refine va_get (D := (dC, dI)) (ci := 1) (v := .int t_count) (C := R_Gr) (T := T_Gr) (N := 7) hx hb hts (fun w h => List.mem_cons_of_mem _ (in_Gr w h)) hown hK hP 0 rfl rfl 6 (by decide) (hts _ (List.mem_cons_of_mem _ jw171)) (fun _ h9 => h9) rfl d_Gr_add_81 ?_
        refine lv_iload_n hx hb d_Gr_add_84 rfl (lv_at hl 2 rfl) ?_
        have c85 : ¬ (t_count < 0 ∨ 8001 ≤ t_count.toNatClampNeg) := by intro z; rw [if_pos z] at hf; simp only [jb_none, jl_b_none, jm_none, reduceCtorEq] at hf
        rw [if_neg c85] at hf
        refine va_iast hx hb hK hP hD hS 2 0 rfl rfl c85 d_Gr_add_85 (fun H locs hP hD hS => ?_)
        have hP : va_P (dC, dI) vwCl [(h_t, .inr (1, [.ref h_t_kinds, .ref h_t_places, .ref h_t_values, .ref h_t_sizes, .ref h_t_partCounts, .ref h_t_numbers, .int t_count])), (h_t_kinds, .inl (cI, 8001, .inl (upd t_kinds t_count.toNatClampNeg l1))), (h_t_places, .inl (cI, 8001, .inl (upd t_places t_count.toNatClampNeg l2))), (h_t_values, .inl (cI, 8001, .inl t_values)), (h_t_sizes, .inl (cI, 8001, .inl t_sizes)), (h_t_partCounts, .inl (cI, 8001, .inl t_partCounts)), (h_t_numbers, .inl (cI, 8001, .inl t_numbers))] H := hP
        have hD : va_D A [(h_t, .inr (1, [.ref h_t_kinds, .ref h_t_places, .ref h_t_values, .ref h_t_sizes, .ref h_t_partCounts, .ref h_t_numbers, .int t_count])), (h_t_kinds, .inl (cI, 8001, .inl (upd t_kinds t_count.toNatClampNeg l1))), (h_t_places, .inl (cI, 8001, .inl (upd t_places t_count.toNatClampNeg l2))), (h_t_values, .inl (cI, 8001, .inl t_values)), (h_t_sizes, .inl (cI, 8001, .inl t_sizes)), (h_t_partCounts, .inl (cI, 8001, .inl t_partCounts)), (h_t_numbers, .inl (cI, 8001, .inl t_numbers))] := hD
        refine lv_aload_n hx hb d_Gr_add_86 rfl (lv_at hl 0 rfl) ?_
        refine va_get (D := (dC, dI)) (ci := 1) (v := .ref h_t_values) (C := R_Gr) (T := T_Gr) (N := 7) hx hb hts (fun w h => List.mem_cons_of_mem _ (in_Gr w h)) hown hK hP 0 rfl rfl 2 (by decide) (hts _ (List.mem_cons_of_mem _ jw167)) (fun _ h9 => h9) rfl d_Gr_add_87 ?_
        refine lv_aload_n hx hb d_Gr_add_90 rfl (lv_at hl 0 rfl) ?_
        refine va_get (D := (dC, dI)) (ci := 1) (v := .int t_count) (C := R_Gr) (T := T_Gr) (N := 7) hx hb hts (fun w h => List.mem_cons_of_mem _ (in_Gr w h)) hown hK hP 0 rfl rfl 6 (by decide) (hts _ (List.mem_cons_of_mem _ jw171)) (fun _ h9 => h9) rfl d_Gr_add_91 ?_
        refine lv_iload_n hx hb d_Gr_add_94 rfl (lv_at hl 3 rfl) ?_
        have c95 : ¬ (t_count < 0 ∨ 8001 ≤ t_count.toNatClampNeg) := by intro z; rw [if_pos z] at hf; simp only [jb_none, jl_b_none, jm_none, reduceCtorEq] at hf
        rw [if_neg c95] at hf
        refine va_iast hx hb hK hP hD hS 3 0 rfl rfl c95 d_Gr_add_95 (fun H locs hP hD hS => ?_)
        have hP : va_P (dC, dI) vwCl [(h_t, .inr (1, [.ref h_t_kinds, .ref h_t_places, .ref h_t_values, .ref h_t_sizes, .ref h_t_partCounts, .ref h_t_numbers, .int t_count])), (h_t_kinds, .inl (cI, 8001, .inl (upd t_kinds t_count.toNatClampNeg l1))), (h_t_places, .inl (cI, 8001, .inl (upd t_places t_count.toNatClampNeg l2))), (h_t_values, .inl (cI, 8001, .inl (upd t_values t_count.toNatClampNeg l3))), (h_t_sizes, .inl (cI, 8001, .inl t_sizes)), (h_t_partCounts, .inl (cI, 8001, .inl t_partCounts)), (h_t_numbers, .inl (cI, 8001, .inl t_numbers))] H := hP
        have hD : va_D A [(h_t, .inr (1, [.ref h_t_kinds, .ref h_t_places, .ref h_t_values, .ref h_t_sizes, .ref h_t_partCounts, .ref h_t_numbers, .int t_count])), (h_t_kinds, .inl (cI, 8001, .inl (upd t_kinds t_count.toNatClampNeg l1))), (h_t_places, .inl (cI, 8001, .inl (upd t_places t_count.toNatClampNeg l2))), (h_t_values, .inl (cI, 8001, .inl (upd t_values t_count.toNatClampNeg l3))), (h_t_sizes, .inl (cI, 8001, .inl t_sizes)), (h_t_partCounts, .inl (cI, 8001, .inl t_partCounts)), (h_t_numbers, .inl (cI, 8001, .inl t_numbers))] := hD
        refine lv_aload_n hx hb d_Gr_add_96 rfl (lv_at hl 0 rfl) ?_
        refine va_get (D := (dC, dI)) (ci := 1) (v := .ref h_t_sizes) (C := R_Gr) (T := T_Gr) (N := 7) hx hb hts (fun w h => List.mem_cons_of_mem _ (in_Gr w h)) hown hK hP 0 rfl rfl 3 (by decide) (hts _ (List.mem_cons_of_mem _ jw168)) (fun _ h9 => h9) rfl d_Gr_add_97 ?_
        refine lv_aload_n hx hb d_Gr_add_100 rfl (lv_at hl 0 rfl) ?_
        refine va_get (D := (dC, dI)) (ci := 1) (v := .int t_count) (C := R_Gr) (T := T_Gr) (N := 7) hx hb hts (fun w h => List.mem_cons_of_mem _ (in_Gr w h)) hown hK hP 0 rfl rfl 6 (by decide) (hts _ (List.mem_cons_of_mem _ jw171)) (fun _ h9 => h9) rfl d_Gr_add_101 ?_
        refine lv_aload_n hx hb d_Gr_add_104 rfl (lv_at hl 0 rfl) ?_
        refine va_get (D := (dC, dI)) (ci := 1) (v := .int t_count) (C := R_Gr) (T := T_Gr) (N := 7) hx hb hts (fun w h => List.mem_cons_of_mem _ (in_Gr w h)) hown hK hP 0 rfl rfl 6 (by decide) (hts _ (List.mem_cons_of_mem _ jw171)) (fun _ h9 => h9) rfl d_Gr_add_105 ?_
        refine lv_iload hx hb d_Gr_add_108 (lv_at hl 4 rfl) ?_
        refine lv_isub hx hb d_Gr_add_110 ?_
        refine lv_iconst (v := (1 : Int32)) hx hb d_Gr_add_111 (by decide) ?_
        refine lv_iadd hx hb d_Gr_add_112 ?_
        have c113 : ¬ (t_count < 0 ∨ 8001 ≤ t_count.toNatClampNeg) := by intro z; rw [if_pos z] at hf; simp only [jb_none, jl_b_none, jm_none, reduceCtorEq] at hf
        rw [if_neg c113] at hf
        refine va_iast hx hb hK hP hD hS 4 0 rfl rfl c113 d_Gr_add_113 (fun H locs hP hD hS => ?_)
        have hP : va_P (dC, dI) vwCl [(h_t, .inr (1, [.ref h_t_kinds, .ref h_t_places, .ref h_t_values, .ref h_t_sizes, .ref h_t_partCounts, .ref h_t_numbers, .int t_count])), (h_t_kinds, .inl (cI, 8001, .inl (upd t_kinds t_count.toNatClampNeg l1))), (h_t_places, .inl (cI, 8001, .inl (upd t_places t_count.toNatClampNeg l2))), (h_t_values, .inl (cI, 8001, .inl (upd t_values t_count.toNatClampNeg l3))), (h_t_sizes, .inl (cI, 8001, .inl (upd t_sizes t_count.toNatClampNeg ((t_count - l4) + (1 : Int32))))), (h_t_partCounts, .inl (cI, 8001, .inl t_partCounts)), (h_t_numbers, .inl (cI, 8001, .inl t_numbers))] H := hP
        have hD : va_D A [(h_t, .inr (1, [.ref h_t_kinds, .ref h_t_places, .ref h_t_values, .ref h_t_sizes, .ref h_t_partCounts, .ref h_t_numbers, .int t_count])), (h_t_kinds, .inl (cI, 8001, .inl (upd t_kinds t_count.toNatClampNeg l1))), (h_t_places, .inl (cI, 8001, .inl (upd t_places t_count.toNatClampNeg l2))), (h_t_values, .inl (cI, 8001, .inl (upd t_values t_count.toNatClampNeg l3))), (h_t_sizes, .inl (cI, 8001, .inl (upd t_sizes t_count.toNatClampNeg ((t_count - l4) + (1 : Int32))))), (h_t_partCounts, .inl (cI, 8001, .inl t_partCounts)), (h_t_numbers, .inl (cI, 8001, .inl t_numbers))] := hD
        refine lv_aload_n hx hb d_Gr_add_114 rfl (lv_at hl 0 rfl) ?_
        refine va_get (D := (dC, dI)) (ci := 1) (v := .ref h_t_partCounts) (C := R_Gr) (T := T_Gr) (N := 7) hx hb hts (fun w h => List.mem_cons_of_mem _ (in_Gr w h)) hown hK hP 0 rfl rfl 4 (by decide) (hts _ (List.mem_cons_of_mem _ jw169)) (fun _ h9 => h9) rfl d_Gr_add_115 ?_
        refine lv_aload_n hx hb d_Gr_add_118 rfl (lv_at hl 0 rfl) ?_
        refine va_get (D := (dC, dI)) (ci := 1) (v := .int t_count) (C := R_Gr) (T := T_Gr) (N := 7) hx hb hts (fun w h => List.mem_cons_of_mem _ (in_Gr w h)) hown hK hP 0 rfl rfl 6 (by decide) (hts _ (List.mem_cons_of_mem _ jw171)) (fun _ h9 => h9) rfl d_Gr_add_119 ?_
        refine lv_iload hx hb d_Gr_add_122 (lv_at hl 5 rfl) ?_
        have c124 : ¬ (t_count < 0 ∨ 8001 ≤ t_count.toNatClampNeg) := by intro z; rw [if_pos z] at hf; simp only [jb_none, jl_b_none, jm_none, reduceCtorEq] at hf
        rw [if_neg c124] at hf
        refine va_iast hx hb hK hP hD hS 5 0 rfl rfl c124 d_Gr_add_124 (fun H locs hP hD hS => ?_)
        have hP : va_P (dC, dI) vwCl [(h_t, .inr (1, [.ref h_t_kinds, .ref h_t_places, .ref h_t_values, .ref h_t_sizes, .ref h_t_partCounts, .ref h_t_numbers, .int t_count])), (h_t_kinds, .inl (cI, 8001, .inl (upd t_kinds t_count.toNatClampNeg l1))), (h_t_places, .inl (cI, 8001, .inl (upd t_places t_count.toNatClampNeg l2))), (h_t_values, .inl (cI, 8001, .inl (upd t_values t_count.toNatClampNeg l3))), (h_t_sizes, .inl (cI, 8001, .inl (upd t_sizes t_count.toNatClampNeg ((t_count - l4) + (1 : Int32))))), (h_t_partCounts, .inl (cI, 8001, .inl (upd t_partCounts t_count.toNatClampNeg l5))), (h_t_numbers, .inl (cI, 8001, .inl t_numbers))] H := hP
        have hD : va_D A [(h_t, .inr (1, [.ref h_t_kinds, .ref h_t_places, .ref h_t_values, .ref h_t_sizes, .ref h_t_partCounts, .ref h_t_numbers, .int t_count])), (h_t_kinds, .inl (cI, 8001, .inl (upd t_kinds t_count.toNatClampNeg l1))), (h_t_places, .inl (cI, 8001, .inl (upd t_places t_count.toNatClampNeg l2))), (h_t_values, .inl (cI, 8001, .inl (upd t_values t_count.toNatClampNeg l3))), (h_t_sizes, .inl (cI, 8001, .inl (upd t_sizes t_count.toNatClampNeg ((t_count - l4) + (1 : Int32))))), (h_t_partCounts, .inl (cI, 8001, .inl (upd t_partCounts t_count.toNatClampNeg l5))), (h_t_numbers, .inl (cI, 8001, .inl t_numbers))] := hD
        refine lv_aload_n hx hb d_Gr_add_125 rfl (lv_at hl 0 rfl) ?_
        refine lv_dup hx hb d_Gr_add_126 rfl ?_
        refine va_get (D := (dC, dI)) (ci := 1) (v := .int t_count) (C := R_Gr) (T := T_Gr) (N := 7) hx hb hts (fun w h => List.mem_cons_of_mem _ (in_Gr w h)) hown hK hP 0 rfl rfl 6 (by decide) (hts _ (List.mem_cons_of_mem _ jw171)) (fun _ h9 => h9) rfl d_Gr_add_127 ?_
        refine lv_iconst (v := (1 : Int32)) hx hb d_Gr_add_130 (by decide) ?_
        refine lv_iadd hx hb d_Gr_add_131 ?_
        refine va_put (D := (dC, dI)) (ci := 1) (v := .int (t_count + (1 : Int32))) (ty := .int) (C := R_Gr) (T := T_Gr) (N := 7) hx hb hts (fun w h => List.mem_cons_of_mem _ (in_Gr w h)) ty_Gr tyok_Gr nm_Gr hown hK hP hD hS 0 rfl rfl 6 (by decide) (hts _ (List.mem_cons_of_mem _ jw171)) (fun _ h9 => h9) rfl (by decide +kernel) rfl rfl (Nat.le_of_ble_eq_true rfl) d_Gr_add_132 (fun H locs hP hD hS => ?_)
        have hP : va_P (dC, dI) vwCl [(h_t, .inr (1, [.ref h_t_kinds, .ref h_t_places, .ref h_t_values, .ref h_t_sizes, .ref h_t_partCounts, .ref h_t_numbers, .int (t_count + (1 : Int32))])), (h_t_kinds, .inl (cI, 8001, .inl (upd t_kinds t_count.toNatClampNeg l1))), (h_t_places, .inl (cI, 8001, .inl (upd t_places t_count.toNatClampNeg l2))), (h_t_values, .inl (cI, 8001, .inl (upd t_values t_count.toNatClampNeg l3))), (h_t_sizes, .inl (cI, 8001, .inl (upd t_sizes t_count.toNatClampNeg ((t_count - l4) + (1 : Int32))))), (h_t_partCounts, .inl (cI, 8001, .inl (upd t_partCounts t_count.toNatClampNeg l5))), (h_t_numbers, .inl (cI, 8001, .inl t_numbers))] H := hP
        have hD : va_D A [(h_t, .inr (1, [.ref h_t_kinds, .ref h_t_places, .ref h_t_values, .ref h_t_sizes, .ref h_t_partCounts, .ref h_t_numbers, .int (t_count + (1 : Int32))])), (h_t_kinds, .inl (cI, 8001, .inl (upd t_kinds t_count.toNatClampNeg l1))), (h_t_places, .inl (cI, 8001, .inl (upd t_places t_count.toNatClampNeg l2))), (h_t_values, .inl (cI, 8001, .inl (upd t_values t_count.toNatClampNeg l3))), (h_t_sizes, .inl (cI, 8001, .inl (upd t_sizes t_count.toNatClampNeg ((t_count - l4) + (1 : Int32))))), (h_t_partCounts, .inl (cI, 8001, .inl (upd t_partCounts t_count.toNatClampNeg l5))), (h_t_numbers, .inl (cI, 8001, .inl t_numbers))] := hD
        refine lv_iconst (v := (1 : Int32)) hx hb d_Gr_add_135 (by decide) ?_
        have hf : (some (vp_nar .boolean (1 : Int32), (upd t_kinds t_count.toNatClampNeg l1), (upd t_places t_count.toNatClampNeg l2), (upd t_values t_count.toNatClampNeg l3), (upd t_sizes t_count.toNatClampNeg ((t_count - l4) + (1 : Int32))), (upd t_partCounts t_count.toNatClampNeg l5), (t_count + (1 : Int32))) : Option (Int32 × (Nat → Int32) × (Nat → Int32) × (Nat → Int32) × (Nat → Int32) × (Nat → Int32) × Int32)) = some o := hf
        rw [hQ, ← Option.some.inj hf]
        exact jNret hx hb hr rfl hlocks d_Gr_add_136 (fun _ => 0) hS hP hD
      · rw [if_neg c41] at hf
        refine lv_iinc (v := l5 + (1 : Int32)) (lv' := [(5, .int (l5 + (1 : Int32))), (0, .ref h_t), (1, .int l1), (2, .int l2), (3, .int l3), (4, .int l4), (6, .int l6)]) hx hb d_Gr_add_44 hl (k := 5) rfl rfl (by decide) rfl (fun ls hl => ?_)
        refine lv_iload hx hb d_Gr_add_47 (lv_at hl 6 rfl) ?_
        refine lv_iconst (v := (1 : Int32)) hx hb d_Gr_add_49 (by decide) ?_
        refine lv_aload_n hx hb d_Gr_add_50 rfl (lv_at hl 1 rfl) ?_
        refine va_get (D := (dC, dI)) (ci := 1) (v := .ref h_t_sizes) (C := R_Gr) (T := T_Gr) (N := 7) hx hb hts (fun w h => List.mem_cons_of_mem _ (in_Gr w h)) hown hK hP 0 rfl rfl 3 (by decide) (hts _ (List.mem_cons_of_mem _ jw168)) (fun _ h9 => h9) rfl d_Gr_add_51 ?_
        refine lv_iload hx hb d_Gr_add_54 (lv_at hl 6 rfl) ?_
        have c56 : ¬ (l6 < 0 ∨ 8001 ≤ l6.toNatClampNeg) := by intro z; rw [if_pos z] at hf; simp only [jb_none, jl_b_none, jm_none, reduceCtorEq] at hf
        rw [if_neg c56] at hf
        refine va_iald hx hb hK hP 4 0 rfl rfl c56 d_Gr_add_56 ?_
        refine va_mmax hx hb (by rw [hml]; exact hl.1.symm) hown (hts _ (List.mem_cons_of_mem _ jw172)) (hts _ (List.mem_cons_of_mem _ jw173)) (hts _ (List.mem_cons_of_mem _ jw149)) (hts _ (List.mem_cons_of_mem _ jw174)) (Nat.le_of_ble_eq_true rfl) (Nat.le_of_ble_eq_true rfl) (Nat.zero_le _) (Nat.zero_le _) d_Gr_add_57 ?_
        refine lv_isub hx hb d_Gr_add_60 ?_
        refine lv_istore (lv' := [(6, .int (l6 - (if (1 : Int32) < (t_sizes l6.toNatClampNeg) then (t_sizes l6.toNatClampNeg) else (1 : Int32)))), (5, .int (l5 + (1 : Int32))), (0, .ref h_t), (1, .int l1), (2, .int l2), (3, .int l3), (4, .int l4)]) hx hb d_Gr_add_61 hl (by decide) rfl (fun ls hl => ?_)
        refine lv_goto (tgt := 37) hx hb d_Gr_add_63 (by decide) ?_
        exact ih37 t_kinds t_places t_values t_sizes t_partCounts t_count l1 l2 l3 l4 (l5 + (1 : Int32)) (l6 - (if (1 : Int32) < (t_sizes l6.toNatClampNeg) then (t_sizes l6.toNatClampNeg) else (1 : Int32))) H locs ls hf hP hD hS (lv_sub hl [2, 3, 4, 5, 6, 1, 0] rfl)
  unfold f_Gr_add at hf
  refine lv_aload_n hx hb d_Gr_add_0 rfl (lv_at hl 0 rfl) ?_
  refine va_get (D := (dC, dI)) (ci := 1) (v := .int t_count) (C := R_Gr) (T := T_Gr) (N := 7) hx hb hts (fun w h => List.mem_cons_of_mem _ (in_Gr w h)) hown hK hP 0 rfl rfl 6 (by decide) (hts _ (List.mem_cons_of_mem _ jw171)) (fun _ h9 => h9) rfl d_Gr_add_1 ?_
  refine lv_sipush (v := (8001 : Int32)) hx hb d_Gr_add_4 (by decide) ?_
  refine lv_icmp_ge (tgt := 24) hx hb d_Gr_add_7 (by decide) (fun c7 => ?_) (fun c7 => ?_)
  · rw [if_pos c7] at hf
    refine lv_iconst (v := (0 : Int32)) hx hb d_Gr_add_24 (by decide) ?_
    have hf : (some (vp_nar .boolean (0 : Int32), t_kinds, t_places, t_values, t_sizes, t_partCounts, t_count) : Option (Int32 × (Nat → Int32) × (Nat → Int32) × (Nat → Int32) × (Nat → Int32) × (Nat → Int32) × Int32)) = some o := hf
    rw [hQ, ← Option.some.inj hf]
    exact jNret hx hb hr rfl hlocks d_Gr_add_25 (fun _ => 0) hS hP hD
  · rw [if_neg c7] at hf
    refine lv_iload hx hb d_Gr_add_10 (lv_at hl 4 rfl) ?_
    refine lv_if_lt (tgt := 24) hx hb d_Gr_add_12 (by decide) (fun c12 => ?_) (fun c12 => ?_)
    · rw [if_pos c12] at hf
      refine lv_iconst (v := (0 : Int32)) hx hb d_Gr_add_24 (by decide) ?_
      have hf : (some (vp_nar .boolean (0 : Int32), t_kinds, t_places, t_values, t_sizes, t_partCounts, t_count) : Option (Int32 × (Nat → Int32) × (Nat → Int32) × (Nat → Int32) × (Nat → Int32) × (Nat → Int32) × Int32)) = some o := hf
      rw [hQ, ← Option.some.inj hf]
      exact jNret hx hb hr rfl hlocks d_Gr_add_25 (fun _ => 0) hS hP hD
    · rw [if_neg c12] at hf
      refine lv_iload hx hb d_Gr_add_15 (lv_at hl 4 rfl) ?_
      refine lv_aload_n hx hb d_Gr_add_17 rfl (lv_at hl 0 rfl) ?_
      refine va_get (D := (dC, dI)) (ci := 1) (v := .int t_count) (C := R_Gr) (T := T_Gr) (N := 7) hx hb hts (fun w h => List.mem_cons_of_mem _ (in_Gr w h)) hown hK hP 0 rfl rfl 6 (by decide) (hts _ (List.mem_cons_of_mem _ jw171)) (fun _ h9 => h9) rfl d_Gr_add_18 ?_
      refine lv_icmp_le (tgt := 26) hx hb d_Gr_add_21 (by decide) (fun c21 => ?_) (fun c21 => ?_)
      · rw [if_pos c21] at hf
        refine lv_iconst (v := (0 : Int32)) hx hb d_Gr_add_26 (by decide) ?_
        refine lv_istore (lv' := [(5, .int (0 : Int32)), (0, .ref h_t), (1, .int a1), (2, .int a2), (3, .int a3), (4, .int a4)]) hx hb d_Gr_add_27 hl (by decide) rfl (fun ls hl => ?_)
        refine lv_aload_n hx hb d_Gr_add_29 rfl (lv_at hl 1 rfl) ?_
        refine va_get (D := (dC, dI)) (ci := 1) (v := .int t_count) (C := R_Gr) (T := T_Gr) (N := 7) hx hb hts (fun w h => List.mem_cons_of_mem _ (in_Gr w h)) hown hK hP 0 rfl rfl 6 (by decide) (hts _ (List.mem_cons_of_mem _ jw171)) (fun _ h9 => h9) rfl d_Gr_add_30 ?_
        refine lv_iconst (v := (1 : Int32)) hx hb d_Gr_add_33 (by decide) ?_
        refine lv_isub hx hb d_Gr_add_34 ?_
        refine lv_istore (lv' := [(6, .int (t_count - (1 : Int32))), (5, .int (0 : Int32)), (0, .ref h_t), (1, .int a1), (2, .int a2), (3, .int a3), (4, .int a4)]) hx hb d_Gr_add_35 hl (by decide) rfl (fun ls hl => ?_)
        unfold Gr_add_b37 at hf
        obtain ⟨nn, en⟩ := jl_ex (Gr_add_b37_b t_kinds t_places t_values t_sizes t_partCounts t_count a1 a2 a3 a4) ((0 : Int32), (t_count - (1 : Int32)))
        rw [en] at hf
        exact L37 nn t_kinds t_places t_values t_sizes t_partCounts t_count a1 a2 a3 a4 (0 : Int32) (t_count - (1 : Int32)) H locs ls hf hP hD hS (lv_sub hl [2, 3, 4, 5, 6, 1, 0] rfl)
      · rw [if_neg c21] at hf
        refine lv_iconst (v := (0 : Int32)) hx hb d_Gr_add_24 (by decide) ?_
        have hf : (some (vp_nar .boolean (0 : Int32), t_kinds, t_places, t_values, t_sizes, t_partCounts, t_count) : Option (Int32 × (Nat → Int32) × (Nat → Int32) × (Nat → Int32) × (Nat → Int32) × (Nat → Int32) × Int32)) = some o := hf
        rw [hQ, ← Option.some.inj hf]
        exact jNret hx hb hr rfl hlocks d_Gr_add_25 (fun _ => 0) hS hP hD
theorem d_Gr_join_0 : decode b_Gr_join 0 = .ok (.aload_n 0, 1) := by decide +kernel
theorem d_Gr_join_1 : decode b_Gr_join 1 = .ok (.getfield 30, 3) := by decide +kernel
theorem d_Gr_join_4 : decode b_Gr_join 4 = .ok (.iconst 1, 1) := by decide +kernel
theorem d_Gr_join_5 : decode b_Gr_join 5 = .ok (.isub, 1) := by decide +kernel
theorem d_Gr_join_6 : decode b_Gr_join 6 = .ok (.istore_n 2, 1) := by decide +kernel
theorem d_Gr_join_7 : decode b_Gr_join 7 = .ok (.iload_n 2, 1) := by decide +kernel
theorem d_Gr_join_8 : decode b_Gr_join 8 = .ok (.ifCond .ge 7, 3) := by decide +kernel
theorem d_Gr_join_11 : decode b_Gr_join 11 = .ok (.iconst (-1), 1) := by decide +kernel
theorem d_Gr_join_12 : decode b_Gr_join 12 = .ok (.goto 11, 3) := by decide +kernel
theorem d_Gr_join_15 : decode b_Gr_join 15 = .ok (.iload_n 2, 1) := by decide +kernel
theorem d_Gr_join_16 : decode b_Gr_join 16 = .ok (.aload_n 0, 1) := by decide +kernel
theorem d_Gr_join_17 : decode b_Gr_join 17 = .ok (.getfield 21, 3) := by decide +kernel
theorem d_Gr_join_20 : decode b_Gr_join 20 = .ok (.iload_n 2, 1) := by decide +kernel
theorem d_Gr_join_21 : decode b_Gr_join 21 = .ok (.iaload, 1) := by decide +kernel
theorem d_Gr_join_22 : decode b_Gr_join 22 = .ok (.isub, 1) := by decide +kernel
theorem d_Gr_join_23 : decode b_Gr_join 23 = .ok (.istore_n 3, 1) := by decide +kernel
theorem d_Gr_join_24 : decode b_Gr_join 24 = .ok (.iload_n 3, 1) := by decide +kernel
theorem d_Gr_join_25 : decode b_Gr_join 25 = .ok (.ifCond .lt 32, 3) := by decide +kernel
theorem d_Gr_join_28 : decode b_Gr_join 28 = .ok (.aload_n 0, 1) := by decide +kernel
theorem d_Gr_join_29 : decode b_Gr_join 29 = .ok (.iload_n 1, 1) := by decide +kernel
theorem d_Gr_join_30 : decode b_Gr_join 30 = .ok (.aload_n 0, 1) := by decide +kernel
theorem d_Gr_join_31 : decode b_Gr_join 31 = .ok (.getfield 15, 3) := by decide +kernel
theorem d_Gr_join_34 : decode b_Gr_join 34 = .ok (.iload_n 3, 1) := by decide +kernel
theorem d_Gr_join_35 : decode b_Gr_join 35 = .ok (.iaload, 1) := by decide +kernel
theorem d_Gr_join_36 : decode b_Gr_join 36 = .ok (.iconst 0, 1) := by decide +kernel
theorem d_Gr_join_37 : decode b_Gr_join 37 = .ok (.iload_n 3, 1) := by decide +kernel
theorem d_Gr_join_38 : decode b_Gr_join 38 = .ok (.aload_n 0, 1) := by decide +kernel
theorem d_Gr_join_39 : decode b_Gr_join 39 = .ok (.getfield 21, 3) := by decide +kernel
theorem d_Gr_join_42 : decode b_Gr_join 42 = .ok (.iload_n 3, 1) := by decide +kernel
theorem d_Gr_join_43 : decode b_Gr_join 43 = .ok (.iaload, 1) := by decide +kernel
theorem d_Gr_join_44 : decode b_Gr_join 44 = .ok (.isub, 1) := by decide +kernel
theorem d_Gr_join_45 : decode b_Gr_join 45 = .ok (.iconst 1, 1) := by decide +kernel
theorem d_Gr_join_46 : decode b_Gr_join 46 = .ok (.iadd, 1) := by decide +kernel
theorem d_Gr_join_47 : decode b_Gr_join 47 = .ok (.invokevirtual 40, 3) := by decide +kernel
theorem d_Gr_join_50 : decode b_Gr_join 50 = .ok (.ifCond .eq 7, 3) := by decide +kernel
theorem d_Gr_join_53 : decode b_Gr_join 53 = .ok (.iconst 1, 1) := by decide +kernel
theorem d_Gr_join_54 : decode b_Gr_join 54 = .ok (.goto 4, 3) := by decide +kernel
theorem d_Gr_join_57 : decode b_Gr_join 57 = .ok (.iconst 0, 1) := by decide +kernel
theorem d_Gr_join_58 : decode b_Gr_join 58 = .ok (.ireturn, 1) := by decide +kernel
noncomputable def Gr_join_b57  (t_kinds : (Nat → Int32)) (t_places : (Nat → Int32)) (t_values : (Nat → Int32)) (t_sizes : (Nat → Int32)) (t_partCounts : (Nat → Int32)) (t_count : Int32) : Option (Int32 × (Nat → Int32) × (Nat → Int32) × (Nat → Int32) × (Nat → Int32) × (Nat → Int32) × Int32) := some (vp_nar .boolean (0 : Int32), t_kinds, t_places, t_values, t_sizes, t_partCounts, t_count)
noncomputable def Gr_join_b23  (t_kinds : (Nat → Int32)) (t_places : (Nat → Int32)) (t_values : (Nat → Int32)) (t_sizes : (Nat → Int32)) (t_partCounts : (Nat → Int32)) (t_count : Int32) (l1 : Int32) (s0 : Int32) : Option (Int32 × (Nat → Int32) × (Nat → Int32) × (Nat → Int32) × (Nat → Int32) × (Nat → Int32) × Int32) := if s0 < 0 then (Gr_join_b57 t_kinds t_places t_values t_sizes t_partCounts t_count) else (if s0 < 0 ∨ 8001 ≤ s0.toNatClampNeg then none else (if s0 < 0 ∨ 8001 ≤ s0.toNatClampNeg then none else (jb (f_Gr_add t_kinds t_places t_values t_sizes t_partCounts t_count l1 (t_places s0.toNatClampNeg) (0 : Int32) ((s0 - (t_sizes s0.toNatClampNeg)) + (1 : Int32))) (fun o3 => if o3.1 = 0 then (Gr_join_b57 o3.2.1 o3.2.2.1 o3.2.2.2.1 o3.2.2.2.2.1 o3.2.2.2.2.2.1 o3.2.2.2.2.2.2) else (some (vp_nar .boolean (1 : Int32), o3.2.1, o3.2.2.1, o3.2.2.2.1, o3.2.2.2.2.1, o3.2.2.2.2.2.1, o3.2.2.2.2.2.2))))))
noncomputable def f_Gr_join  (t_kinds : (Nat → Int32)) (t_places : (Nat → Int32)) (t_values : (Nat → Int32)) (t_sizes : (Nat → Int32)) (t_partCounts : (Nat → Int32)) (t_count : Int32) (a1 : Int32) : Option (Int32 × (Nat → Int32) × (Nat → Int32) × (Nat → Int32) × (Nat → Int32) × (Nat → Int32) × Int32) := if 0 ≤ (t_count - (1 : Int32)) then (if (t_count - (1 : Int32)) < 0 ∨ 8001 ≤ (t_count - (1 : Int32)).toNatClampNeg then none else (Gr_join_b23 t_kinds t_places t_values t_sizes t_partCounts t_count a1 ((t_count - (1 : Int32)) - (t_sizes (t_count - (1 : Int32)).toNatClampNeg)))) else (Gr_join_b23 t_kinds t_places t_values t_sizes t_partCounts t_count a1 (-1 : Int32))
set_option maxHeartbeats 4000000 in
set_option maxRecDepth 100000 in
theorem c_Gr_join {l : Launch} {dC : Nat → ClassId} {dI : Nat → Nat → Nat} {cI cB cS : ClassId} {adK adV adR : Nat → Nat} (h_t h_t_kinds h_t_places h_t_values h_t_sizes h_t_partCounts h_t_numbers : Nat) (t_kinds : (Nat → Int32)) (t_places : (Nat → Int32)) (t_values : (Nat → Int32)) (t_sizes : (Nat → Int32)) (t_partCounts : (Nat → Int32)) (t_numbers : (Nat → Int32)) (t_count : Int32) (a1 : Int32) {o : (Int32 × (Nat → Int32) × (Nat → Int32) × (Nat → Int32) × (Nat → Int32) × (Nat → Int32) × Int32)} (hf : f_Gr_join t_kinds t_places t_values t_sizes t_partCounts t_count a1 = some o) : jMet l dC dI cI cB cS adK adV adR y_Gr_join wd_Gr_join { frames := 2, cells := 0, slots := 0, locals := 40 } [.ref h_t, .int a1] [(h_t, .inr (1, [.ref h_t_kinds, .ref h_t_places, .ref h_t_values, .ref h_t_sizes, .ref h_t_partCounts, .ref h_t_numbers, .int t_count])), (h_t_kinds, .inl (cI, 8001, .inl t_kinds)), (h_t_places, .inl (cI, 8001, .inl t_places)), (h_t_values, .inl (cI, 8001, .inl t_values)), (h_t_sizes, .inl (cI, 8001, .inl t_sizes)), (h_t_partCounts, .inl (cI, 8001, .inl t_partCounts)), (h_t_numbers, .inl (cI, 8001, .inl t_numbers))] (some (.int o.1)) (fun q => [(h_t, .inr (1, [.ref h_t_kinds, .ref h_t_places, .ref h_t_values, .ref h_t_sizes, .ref h_t_partCounts, .ref h_t_numbers, .int o.2.2.2.2.2.2])), (h_t_kinds, .inl (cI, 8001, .inl o.2.1)), (h_t_places, .inl (cI, 8001, .inl o.2.2.1)), (h_t_values, .inl (cI, 8001, .inl o.2.2.2.1)), (h_t_sizes, .inl (cI, 8001, .inl o.2.2.2.2.1)), (h_t_partCounts, .inl (cI, 8001, .inl o.2.2.2.2.2.1)), (h_t_numbers, .inl (cI, 8001, .inl t_numbers))]) 0 0 := by
  refine jEntry (cc := b_Gr_join) (maxL := 4) (ret := (some .boolean)) (by decide) rfl (Nat.le_of_ble_eq_true rfl) rfl (fun p e s m args below meth c A H locs ls Q hQ hx hb hr hml hown hts hlocks hnm hJ hA hP hD hS hl => ?_)
  have hK := hJ.K
  have hl : lv_has ls 4 [(0, .ref h_t), (1, .int a1)] := hl
  have B57 : ∀ (t_kinds : (Nat → Int32)) (t_places : (Nat → Int32)) (t_values : (Nat → Int32)) (t_sizes : (Nat → Int32)) (t_partCounts : (Nat → Int32)) (t_count : Int32) (H : Heap) (locs : List Loc) (ls : Array Slot), Gr_join_b57 t_kinds t_places t_values t_sizes t_partCounts t_count = some o → va_P (dC, dI) vwCl [(h_t, .inr (1, [.ref h_t_kinds, .ref h_t_places, .ref h_t_values, .ref h_t_sizes, .ref h_t_partCounts, .ref h_t_numbers, .int t_count])), (h_t_kinds, .inl (cI, 8001, .inl t_kinds)), (h_t_places, .inl (cI, 8001, .inl t_places)), (h_t_values, .inl (cI, 8001, .inl t_values)), (h_t_sizes, .inl (cI, 8001, .inl t_sizes)), (h_t_partCounts, .inl (cI, 8001, .inl t_partCounts)), (h_t_numbers, .inl (cI, 8001, .inl t_numbers))] H → va_D A [(h_t, .inr (1, [.ref h_t_kinds, .ref h_t_places, .ref h_t_values, .ref h_t_sizes, .ref h_t_partCounts, .ref h_t_numbers, .int t_count])), (h_t_kinds, .inl (cI, 8001, .inl t_kinds)), (h_t_places, .inl (cI, 8001, .inl t_places)), (h_t_values, .inl (cI, 8001, .inl t_values)), (h_t_sizes, .inl (cI, 8001, .inl t_sizes)), (h_t_partCounts, .inl (cI, 8001, .inl t_partCounts)), (h_t_numbers, .inl (cI, 8001, .inl t_numbers))] → va_S A s.heap H locs → lv_has ls 4 [] → W p l e { frames := 2, cells := 0, slots := 0, locals := 40 } s m args below meth c H locs 0 0 Q (F0 m 57 ls []) := by
    intro t_kinds t_places t_values t_sizes t_partCounts t_count H locs ls hf hP hD hS hl
    unfold Gr_join_b57 at hf
    refine lv_iconst (v := (0 : Int32)) hx hb d_Gr_join_57 (by decide) ?_
    have hf : (some (vp_nar .boolean (0 : Int32), t_kinds, t_places, t_values, t_sizes, t_partCounts, t_count) : Option (Int32 × (Nat → Int32) × (Nat → Int32) × (Nat → Int32) × (Nat → Int32) × (Nat → Int32) × Int32)) = some o := hf
    rw [hQ, ← Option.some.inj hf]
    exact jNret hx hb hr rfl hlocks d_Gr_join_58 (fun _ => 0) hS hP hD
  have B23 : ∀ (t_kinds : (Nat → Int32)) (t_places : (Nat → Int32)) (t_values : (Nat → Int32)) (t_sizes : (Nat → Int32)) (t_partCounts : (Nat → Int32)) (t_count : Int32) (l1 : Int32) (s0 : Int32) (H : Heap) (locs : List Loc) (ls : Array Slot), Gr_join_b23 t_kinds t_places t_values t_sizes t_partCounts t_count l1 s0 = some o → va_P (dC, dI) vwCl [(h_t, .inr (1, [.ref h_t_kinds, .ref h_t_places, .ref h_t_values, .ref h_t_sizes, .ref h_t_partCounts, .ref h_t_numbers, .int t_count])), (h_t_kinds, .inl (cI, 8001, .inl t_kinds)), (h_t_places, .inl (cI, 8001, .inl t_places)), (h_t_values, .inl (cI, 8001, .inl t_values)), (h_t_sizes, .inl (cI, 8001, .inl t_sizes)), (h_t_partCounts, .inl (cI, 8001, .inl t_partCounts)), (h_t_numbers, .inl (cI, 8001, .inl t_numbers))] H → va_D A [(h_t, .inr (1, [.ref h_t_kinds, .ref h_t_places, .ref h_t_values, .ref h_t_sizes, .ref h_t_partCounts, .ref h_t_numbers, .int t_count])), (h_t_kinds, .inl (cI, 8001, .inl t_kinds)), (h_t_places, .inl (cI, 8001, .inl t_places)), (h_t_values, .inl (cI, 8001, .inl t_values)), (h_t_sizes, .inl (cI, 8001, .inl t_sizes)), (h_t_partCounts, .inl (cI, 8001, .inl t_partCounts)), (h_t_numbers, .inl (cI, 8001, .inl t_numbers))] → va_S A s.heap H locs → lv_has ls 4 [(0, .ref h_t), (1, .int l1)] → W p l e { frames := 2, cells := 0, slots := 0, locals := 40 } s m args below meth c H locs 0 0 Q (F0 m 23 ls [.int s0]) := by
    intro t_kinds t_places t_values t_sizes t_partCounts t_count l1 s0 H locs ls hf hP hD hS hl
    unfold Gr_join_b23 at hf
    refine lv_istore_n (lv' := [(3, .int s0), (0, .ref h_t), (1, .int l1)]) hx hb d_Gr_join_23 rfl hl (by decide) rfl (fun ls hl => ?_)
    refine lv_iload_n hx hb d_Gr_join_24 rfl (lv_at hl 0 rfl) ?_
    refine lv_if_lt (tgt := 57) hx hb d_Gr_join_25 (by decide) (fun c25 => ?_) (fun c25 => ?_)
    · rw [if_pos c25] at hf
      exact B57 t_kinds t_places t_values t_sizes t_partCounts t_count H locs ls hf hP hD hS (lv_sub hl [] rfl)
    · rw [if_neg c25] at hf
      refine lv_aload_n hx hb d_Gr_join_28 rfl (lv_at hl 1 rfl) ?_
      refine lv_iload_n hx hb d_Gr_join_29 rfl (lv_at hl 2 rfl) ?_
      refine lv_aload_n hx hb d_Gr_join_30 rfl (lv_at hl 1 rfl) ?_
      refine va_get (D := (dC, dI)) (ci := 1) (v := .ref h_t_places) (C := R_Gr) (T := T_Gr) (N := 7) hx hb hts (fun w h => List.mem_cons_of_mem _ (in_Gr w h)) hown hK hP 0 rfl rfl 1 (by decide) (hts _ (List.mem_cons_of_mem _ jw166)) (fun _ h9 => h9) rfl d_Gr_join_31 ?_
      refine lv_iload_n hx hb d_Gr_join_34 rfl (lv_at hl 0 rfl) ?_
      have c35 : ¬ (s0 < 0 ∨ 8001 ≤ s0.toNatClampNeg) := by intro z; rw [if_pos z] at hf; simp only [jb_none, jl_b_none, jm_none, reduceCtorEq] at hf
      rw [if_neg c35] at hf
      refine va_iald hx hb hK hP 2 0 rfl rfl c35 d_Gr_join_35 ?_
      refine lv_iconst (v := (0 : Int32)) hx hb d_Gr_join_36 (by decide) ?_
      refine lv_iload_n hx hb d_Gr_join_37 rfl (lv_at hl 0 rfl) ?_
      refine lv_aload_n hx hb d_Gr_join_38 rfl (lv_at hl 1 rfl) ?_
      refine va_get (D := (dC, dI)) (ci := 1) (v := .ref h_t_sizes) (C := R_Gr) (T := T_Gr) (N := 7) hx hb hts (fun w h => List.mem_cons_of_mem _ (in_Gr w h)) hown hK hP 0 rfl rfl 3 (by decide) (hts _ (List.mem_cons_of_mem _ jw168)) (fun _ h9 => h9) rfl d_Gr_join_39 ?_
      refine lv_iload_n hx hb d_Gr_join_42 rfl (lv_at hl 0 rfl) ?_
      have c43 : ¬ (s0 < 0 ∨ 8001 ≤ s0.toNatClampNeg) := by intro z; rw [if_pos z] at hf; simp only [jb_none, jl_b_none, jm_none, reduceCtorEq] at hf
      rw [if_neg c43] at hf
      refine va_iald hx hb hK hP 4 0 rfl rfl c43 d_Gr_join_43 ?_
      refine lv_isub hx hb d_Gr_join_44 ?_
      refine lv_iconst (v := (1 : Int32)) hx hb d_Gr_join_45 (by decide) ?_
      refine lv_iadd hx hb d_Gr_join_46 ?_
      obtain ⟨o5, ho5⟩ : ∃ z, f_Gr_add t_kinds t_places t_values t_sizes t_partCounts t_count l1 (t_places s0.toNatClampNeg) (0 : Int32) ((s0 - (t_sizes s0.toNatClampNeg)) + (1 : Int32)) = some z := by
        cases hz : f_Gr_add t_kinds t_places t_values t_sizes t_partCounts t_count l1 (t_places s0.toNatClampNeg) (0 : Int32) ((s0 - (t_sizes s0.toNatClampNeg)) + (1 : Int32)) with
        | none => rw [hz] at hf; simp only [jb_none, jl_b_none, jm_none, reduceCtorEq] at hf
        | some z => exact ⟨z, rfl⟩
      rw [ho5, jb_some] at hf
      refine jCallV (As := [.int l1, .int (t_places s0.toNatClampNeg), .int (0 : Int32), .int ((s0 - (t_sizes s0.toNatClampNeg)) + (1 : Int32))]) (rest := []) (wr := []) ⟨hx, hb, hml, hown, hts⟩ hJ (c_Gr_add h_t h_t_kinds h_t_places h_t_values h_t_sizes h_t_partCounts h_t_numbers t_kinds t_places t_values t_sizes t_partCounts t_numbers t_count l1 (t_places s0.toNatClampNeg) (0 : Int32) ((s0 - (t_sizes s0.toNatClampNeg)) + (1 : Int32)) ho5) (cwV 4 hts (jgV jw175 jw178 jw179 jw177 jw176) rfl rfl rfl dd_Gr_add ⟨Nat.le_of_ble_eq_true rfl, Nat.le_of_ble_eq_true rfl⟩) hP hD hS hA (va_recv hK hP (ci := 1) (q0 := 0) rfl rfl) [0, 1, 2, 3, 4, 5, 6] [] rfl rfl (by decide) (by decide) (by decide) rfl hl.1 rfl (Nat.le_of_ble_eq_true rfl) d_Gr_join_47 ⟨Nat.le_of_ble_eq_true rfl, Nat.le_of_ble_eq_true rfl⟩ (fun qz6 H locs hP hD hS => ?_)
      have hP : va_P (dC, dI) vwCl [(h_t, .inr (1, [.ref h_t_kinds, .ref h_t_places, .ref h_t_values, .ref h_t_sizes, .ref h_t_partCounts, .ref h_t_numbers, .int o5.2.2.2.2.2.2])), (h_t_kinds, .inl (cI, 8001, .inl o5.2.1)), (h_t_places, .inl (cI, 8001, .inl o5.2.2.1)), (h_t_values, .inl (cI, 8001, .inl o5.2.2.2.1)), (h_t_sizes, .inl (cI, 8001, .inl o5.2.2.2.2.1)), (h_t_partCounts, .inl (cI, 8001, .inl o5.2.2.2.2.2.1)), (h_t_numbers, .inl (cI, 8001, .inl t_numbers))] H := hP
      have hD : va_D A [(h_t, .inr (1, [.ref h_t_kinds, .ref h_t_places, .ref h_t_values, .ref h_t_sizes, .ref h_t_partCounts, .ref h_t_numbers, .int o5.2.2.2.2.2.2])), (h_t_kinds, .inl (cI, 8001, .inl o5.2.1)), (h_t_places, .inl (cI, 8001, .inl o5.2.2.1)), (h_t_values, .inl (cI, 8001, .inl o5.2.2.2.1)), (h_t_sizes, .inl (cI, 8001, .inl o5.2.2.2.2.1)), (h_t_partCounts, .inl (cI, 8001, .inl o5.2.2.2.2.2.1)), (h_t_numbers, .inl (cI, 8001, .inl t_numbers))] := hD
      refine lv_if_eq (tgt := 57) hx hb d_Gr_join_50 (by decide) (fun c50 => ?_) (fun c50 => ?_)
      · rw [if_pos c50] at hf
        exact B57 o5.2.1 o5.2.2.1 o5.2.2.2.1 o5.2.2.2.2.1 o5.2.2.2.2.2.1 o5.2.2.2.2.2.2 H locs ls hf hP hD hS (lv_sub hl [] rfl)
      · rw [if_neg c50] at hf
        refine lv_iconst (v := (1 : Int32)) hx hb d_Gr_join_53 (by decide) ?_
        refine lv_goto (tgt := 58) hx hb d_Gr_join_54 (by decide) ?_
        have hf : (some (vp_nar .boolean (1 : Int32), o5.2.1, o5.2.2.1, o5.2.2.2.1, o5.2.2.2.2.1, o5.2.2.2.2.2.1, o5.2.2.2.2.2.2) : Option (Int32 × (Nat → Int32) × (Nat → Int32) × (Nat → Int32) × (Nat → Int32) × (Nat → Int32) × Int32)) = some o := hf
        rw [hQ, ← Option.some.inj hf]
        exact jNret hx hb hr rfl hlocks d_Gr_join_58 (fun _ => 0) hS hP hD
  unfold f_Gr_join at hf
  refine lv_aload_n hx hb d_Gr_join_0 rfl (lv_at hl 0 rfl) ?_
  refine va_get (D := (dC, dI)) (ci := 1) (v := .int t_count) (C := R_Gr) (T := T_Gr) (N := 7) hx hb hts (fun w h => List.mem_cons_of_mem _ (in_Gr w h)) hown hK hP 0 rfl rfl 6 (by decide) (hts _ (List.mem_cons_of_mem _ jw171)) (fun _ h9 => h9) rfl d_Gr_join_1 ?_
  refine lv_iconst (v := (1 : Int32)) hx hb d_Gr_join_4 (by decide) ?_
  refine lv_isub hx hb d_Gr_join_5 ?_
  refine lv_istore_n (lv' := [(2, .int (t_count - (1 : Int32))), (0, .ref h_t), (1, .int a1)]) hx hb d_Gr_join_6 rfl hl (by decide) rfl (fun ls hl => ?_)
  refine lv_iload_n hx hb d_Gr_join_7 rfl (lv_at hl 0 rfl) ?_
  refine lv_if_ge (tgt := 15) hx hb d_Gr_join_8 (by decide) (fun c8 => ?_) (fun c8 => ?_)
  · rw [if_pos c8] at hf
    refine lv_iload_n hx hb d_Gr_join_15 rfl (lv_at hl 0 rfl) ?_
    refine lv_aload_n hx hb d_Gr_join_16 rfl (lv_at hl 1 rfl) ?_
    refine va_get (D := (dC, dI)) (ci := 1) (v := .ref h_t_sizes) (C := R_Gr) (T := T_Gr) (N := 7) hx hb hts (fun w h => List.mem_cons_of_mem _ (in_Gr w h)) hown hK hP 0 rfl rfl 3 (by decide) (hts _ (List.mem_cons_of_mem _ jw168)) (fun _ h9 => h9) rfl d_Gr_join_17 ?_
    refine lv_iload_n hx hb d_Gr_join_20 rfl (lv_at hl 0 rfl) ?_
    have c21 : ¬ ((t_count - (1 : Int32)) < 0 ∨ 8001 ≤ (t_count - (1 : Int32)).toNatClampNeg) := by intro z; rw [if_pos z] at hf; simp only [jb_none, jl_b_none, jm_none, reduceCtorEq] at hf
    rw [if_neg c21] at hf
    refine va_iald hx hb hK hP 4 0 rfl rfl c21 d_Gr_join_21 ?_
    refine lv_isub hx hb d_Gr_join_22 ?_
    exact B23 t_kinds t_places t_values t_sizes t_partCounts t_count a1 ((t_count - (1 : Int32)) - (t_sizes (t_count - (1 : Int32)).toNatClampNeg)) H locs ls hf hP hD hS (lv_sub hl [1, 2] rfl)
  · rw [if_neg c8] at hf
    refine lv_iconst (v := (-1 : Int32)) hx hb d_Gr_join_11 (by decide) ?_
    refine lv_goto (tgt := 23) hx hb d_Gr_join_12 (by decide) ?_
    exact B23 t_kinds t_places t_values t_sizes t_partCounts t_count a1 (-1 : Int32) H locs ls hf hP hD hS (lv_sub hl [1, 2] rfl)
theorem d_Gr_numberParts_0 : decode b_Gr_numberParts 0 = .ok (.iload_n 1, 1) := by decide +kernel
theorem d_Gr_numberParts_1 : decode b_Gr_numberParts 1 = .ok (.iconst 1, 1) := by decide +kernel
theorem d_Gr_numberParts_2 : decode b_Gr_numberParts 2 = .ok (.isub, 1) := by decide +kernel
theorem d_Gr_numberParts_3 : decode b_Gr_numberParts 3 = .ok (.istore_n 3, 1) := by decide +kernel
theorem d_Gr_numberParts_4 : decode b_Gr_numberParts 4 = .ok (.aload_n 0, 1) := by decide +kernel
theorem d_Gr_numberParts_5 : decode b_Gr_numberParts 5 = .ok (.getfield 27, 3) := by decide +kernel
theorem d_Gr_numberParts_8 : decode b_Gr_numberParts 8 = .ok (.iload_n 1, 1) := by decide +kernel
theorem d_Gr_numberParts_9 : decode b_Gr_numberParts 9 = .ok (.iaload, 1) := by decide +kernel
theorem d_Gr_numberParts_10 : decode b_Gr_numberParts 10 = .ok (.aload_n 0, 1) := by decide +kernel
theorem d_Gr_numberParts_11 : decode b_Gr_numberParts 11 = .ok (.getfield 21, 3) := by decide +kernel
theorem d_Gr_numberParts_14 : decode b_Gr_numberParts 14 = .ok (.iload_n 1, 1) := by decide +kernel
theorem d_Gr_numberParts_15 : decode b_Gr_numberParts 15 = .ok (.iaload, 1) := by decide +kernel
theorem d_Gr_numberParts_16 : decode b_Gr_numberParts 16 = .ok (.iadd, 1) := by decide +kernel
theorem d_Gr_numberParts_17 : decode b_Gr_numberParts 17 = .ok (.istore 4, 2) := by decide +kernel
theorem d_Gr_numberParts_19 : decode b_Gr_numberParts 19 = .ok (.aload_n 0, 1) := by decide +kernel
theorem d_Gr_numberParts_20 : decode b_Gr_numberParts 20 = .ok (.getfield 24, 3) := by decide +kernel
theorem d_Gr_numberParts_23 : decode b_Gr_numberParts 23 = .ok (.iload_n 1, 1) := by decide +kernel
theorem d_Gr_numberParts_24 : decode b_Gr_numberParts 24 = .ok (.iaload, 1) := by decide +kernel
theorem d_Gr_numberParts_25 : decode b_Gr_numberParts 25 = .ok (.istore 5, 2) := by decide +kernel
theorem d_Gr_numberParts_27 : decode b_Gr_numberParts 27 = .ok (.iload 5, 2) := by decide +kernel
theorem d_Gr_numberParts_29 : decode b_Gr_numberParts 29 = .ok (.ifCond .le 53, 3) := by decide +kernel
theorem d_Gr_numberParts_32 : decode b_Gr_numberParts 32 = .ok (.iload_n 3, 1) := by decide +kernel
theorem d_Gr_numberParts_33 : decode b_Gr_numberParts 33 = .ok (.ifCond .lt 49, 3) := by decide +kernel
theorem d_Gr_numberParts_36 : decode b_Gr_numberParts 36 = .ok (.iload 4, 2) := by decide +kernel
theorem d_Gr_numberParts_38 : decode b_Gr_numberParts 38 = .ok (.aload_n 0, 1) := by decide +kernel
theorem d_Gr_numberParts_39 : decode b_Gr_numberParts 39 = .ok (.getfield 21, 3) := by decide +kernel
theorem d_Gr_numberParts_42 : decode b_Gr_numberParts 42 = .ok (.iload_n 3, 1) := by decide +kernel
theorem d_Gr_numberParts_43 : decode b_Gr_numberParts 43 = .ok (.iaload, 1) := by decide +kernel
theorem d_Gr_numberParts_44 : decode b_Gr_numberParts 44 = .ok (.isub, 1) := by decide +kernel
theorem d_Gr_numberParts_45 : decode b_Gr_numberParts 45 = .ok (.istore 4, 2) := by decide +kernel
theorem d_Gr_numberParts_47 : decode b_Gr_numberParts 47 = .ok (.aload_n 0, 1) := by decide +kernel
theorem d_Gr_numberParts_48 : decode b_Gr_numberParts 48 = .ok (.getfield 27, 3) := by decide +kernel
theorem d_Gr_numberParts_51 : decode b_Gr_numberParts 51 = .ok (.iload_n 3, 1) := by decide +kernel
theorem d_Gr_numberParts_52 : decode b_Gr_numberParts 52 = .ok (.iload 4, 2) := by decide +kernel
theorem d_Gr_numberParts_54 : decode b_Gr_numberParts 54 = .ok (.iastore, 1) := by decide +kernel
theorem d_Gr_numberParts_55 : decode b_Gr_numberParts 55 = .ok (.aload_n 2, 1) := by decide +kernel
theorem d_Gr_numberParts_56 : decode b_Gr_numberParts 56 = .ok (.iload 4, 2) := by decide +kernel
theorem d_Gr_numberParts_58 : decode b_Gr_numberParts 58 = .ok (.aload_n 0, 1) := by decide +kernel
theorem d_Gr_numberParts_59 : decode b_Gr_numberParts 59 = .ok (.getfield 27, 3) := by decide +kernel
theorem d_Gr_numberParts_62 : decode b_Gr_numberParts 62 = .ok (.iload_n 1, 1) := by decide +kernel
theorem d_Gr_numberParts_63 : decode b_Gr_numberParts 63 = .ok (.iaload, 1) := by decide +kernel
theorem d_Gr_numberParts_64 : decode b_Gr_numberParts 64 = .ok (.invokevirtual 58, 3) := by decide +kernel
theorem d_Gr_numberParts_67 : decode b_Gr_numberParts 67 = .ok (.iload_n 3, 1) := by decide +kernel
theorem d_Gr_numberParts_68 : decode b_Gr_numberParts 68 = .ok (.aload_n 0, 1) := by decide +kernel
theorem d_Gr_numberParts_69 : decode b_Gr_numberParts 69 = .ok (.getfield 21, 3) := by decide +kernel
theorem d_Gr_numberParts_72 : decode b_Gr_numberParts 72 = .ok (.iload_n 3, 1) := by decide +kernel
theorem d_Gr_numberParts_73 : decode b_Gr_numberParts 73 = .ok (.iaload, 1) := by decide +kernel
theorem d_Gr_numberParts_74 : decode b_Gr_numberParts 74 = .ok (.isub, 1) := by decide +kernel
theorem d_Gr_numberParts_75 : decode b_Gr_numberParts 75 = .ok (.istore_n 3, 1) := by decide +kernel
theorem d_Gr_numberParts_76 : decode b_Gr_numberParts 76 = .ok (.iinc 5 (-1), 3) := by decide +kernel
theorem d_Gr_numberParts_79 : decode b_Gr_numberParts 79 = .ok (.goto (-52), 3) := by decide +kernel
theorem d_Gr_numberParts_82 : decode b_Gr_numberParts 82 = .ok (.return_, 1) := by decide +kernel
noncomputable def Gr_numberParts_b27_s (t_sizes : (Nat → Int32)) (t_partCounts : (Nat → Int32)) (p2_count : Int32) (l1 : Int32) (t_numbers : (Nat → Int32)) (p2_wholes : (Nat → Int32)) (l3 : Int32) (l4 : Int32) (l5 : Int32) : Option (((Nat → Int32) × (Nat → Int32) × Int32 × Int32 × Int32) ⊕ ((Nat → Int32) × (Nat → Int32))) := if l5 ≤ 0 then (some (.inr (t_numbers, p2_wholes))) else (if l3 < 0 then (some (.inr (t_numbers, p2_wholes))) else (if l3 < 0 ∨ 8001 ≤ l3.toNatClampNeg then none else (if l3 < 0 ∨ 8001 ≤ l3.toNatClampNeg then none else (if l1 < 0 ∨ 8001 ≤ l1.toNatClampNeg then none else (jb (f_Tr_putWhole p2_count p2_wholes (l4 - (t_sizes l3.toNatClampNeg)) ((upd t_numbers l3.toNatClampNeg (l4 - (t_sizes l3.toNatClampNeg))) l1.toNatClampNeg)) (fun o3 => if l3 < 0 ∨ 8001 ≤ l3.toNatClampNeg then none else (some (.inl ((upd t_numbers l3.toNatClampNeg (l4 - (t_sizes l3.toNatClampNeg))), o3, (l3 - (t_sizes l3.toNatClampNeg)), (l4 - (t_sizes l3.toNatClampNeg)), (l5 + (-1 : Int32)))))))))))
noncomputable def Gr_numberParts_b27_b (t_sizes : (Nat → Int32)) (t_partCounts : (Nat → Int32)) (p2_count : Int32) (l1 : Int32) : ((Nat → Int32) × (Nat → Int32) × Int32 × Int32 × Int32) → Option (((Nat → Int32) × (Nat → Int32) × Int32 × Int32 × Int32) ⊕ ((Nat → Int32) × (Nat → Int32))) := fun x => Gr_numberParts_b27_s t_sizes t_partCounts p2_count l1 x.1 x.2.1 x.2.2.1 x.2.2.2.1 x.2.2.2.2
noncomputable def Gr_numberParts_b27 (t_sizes : (Nat → Int32)) (t_partCounts : (Nat → Int32)) (p2_count : Int32) (t_numbers : (Nat → Int32)) (p2_wholes : (Nat → Int32)) (l1 : Int32) (l3 : Int32) (l4 : Int32) (l5 : Int32) : Option ((Nat → Int32) × (Nat → Int32)) := jl (Gr_numberParts_b27_b t_sizes t_partCounts p2_count l1) (t_numbers, p2_wholes, l3, l4, l5)
noncomputable def f_Gr_numberParts (t_sizes : (Nat → Int32)) (t_partCounts : (Nat → Int32)) (p2_count : Int32) (t_numbers : (Nat → Int32)) (p2_wholes : (Nat → Int32)) (a1 : Int32) : Option ((Nat → Int32) × (Nat → Int32)) := if a1 < 0 ∨ 8001 ≤ a1.toNatClampNeg then none else (if a1 < 0 ∨ 8001 ≤ a1.toNatClampNeg then none else (if a1 < 0 ∨ 8001 ≤ a1.toNatClampNeg then none else (Gr_numberParts_b27 t_sizes t_partCounts p2_count t_numbers p2_wholes a1 (a1 - (1 : Int32)) ((t_numbers a1.toNatClampNeg) + (t_sizes a1.toNatClampNeg)) (t_partCounts a1.toNatClampNeg))))
set_option maxHeartbeats 4000000 in
set_option maxRecDepth 100000 in
theorem c_Gr_numberParts {l : Launch} {dC : Nat → ClassId} {dI : Nat → Nat → Nat} {cI cB cS : ClassId} {adK adV adR : Nat → Nat} (h_t h_t_kinds h_t_places h_t_values h_t_sizes h_t_partCounts h_t_numbers h_p2 h_p2_kinds h_p2_places h_p2_values h_p2_sizes h_p2_partCounts h_p2_wholes : Nat) (t_kinds : (Nat → Int32)) (t_places : (Nat → Int32)) (t_values : (Nat → Int32)) (t_sizes : (Nat → Int32)) (t_partCounts : (Nat → Int32)) (t_numbers : (Nat → Int32)) (t_count : Int32) (p2_kinds : (Nat → Int32)) (p2_places : (Nat → Int32)) (p2_values : (Nat → Int32)) (p2_sizes : (Nat → Int32)) (p2_partCounts : (Nat → Int32)) (p2_wholes : (Nat → Int32)) (p2_count : Int32) (a1 : Int32) {o : ((Nat → Int32) × (Nat → Int32))} (hf : f_Gr_numberParts t_sizes t_partCounts p2_count t_numbers p2_wholes a1 = some o) : jMet l dC dI cI cB cS adK adV adR y_Gr_numberParts wd_Gr_numberParts { frames := 2, cells := 0, slots := 0, locals := 43 } [.ref h_t, .int a1, .ref h_p2] [(h_t, .inr (1, [.ref h_t_kinds, .ref h_t_places, .ref h_t_values, .ref h_t_sizes, .ref h_t_partCounts, .ref h_t_numbers, .int t_count])), (h_t_kinds, .inl (cI, 8001, .inl t_kinds)), (h_t_places, .inl (cI, 8001, .inl t_places)), (h_t_values, .inl (cI, 8001, .inl t_values)), (h_t_sizes, .inl (cI, 8001, .inl t_sizes)), (h_t_partCounts, .inl (cI, 8001, .inl t_partCounts)), (h_t_numbers, .inl (cI, 8001, .inl t_numbers)), (h_p2, .inr (5, [.ref h_p2_kinds, .ref h_p2_places, .ref h_p2_values, .ref h_p2_sizes, .ref h_p2_partCounts, .ref h_p2_wholes, .int p2_count])), (h_p2_kinds, .inl (cI, 8001, .inl p2_kinds)), (h_p2_places, .inl (cI, 8001, .inl p2_places)), (h_p2_values, .inl (cI, 8001, .inl p2_values)), (h_p2_sizes, .inl (cI, 8001, .inl p2_sizes)), (h_p2_partCounts, .inl (cI, 8001, .inl p2_partCounts)), (h_p2_wholes, .inl (cI, 8001, .inl p2_wholes))] (none) (fun q => [(h_t, .inr (1, [.ref h_t_kinds, .ref h_t_places, .ref h_t_values, .ref h_t_sizes, .ref h_t_partCounts, .ref h_t_numbers, .int t_count])), (h_t_kinds, .inl (cI, 8001, .inl t_kinds)), (h_t_places, .inl (cI, 8001, .inl t_places)), (h_t_values, .inl (cI, 8001, .inl t_values)), (h_t_sizes, .inl (cI, 8001, .inl t_sizes)), (h_t_partCounts, .inl (cI, 8001, .inl t_partCounts)), (h_t_numbers, .inl (cI, 8001, .inl o.1)), (h_p2, .inr (5, [.ref h_p2_kinds, .ref h_p2_places, .ref h_p2_values, .ref h_p2_sizes, .ref h_p2_partCounts, .ref h_p2_wholes, .int p2_count])), (h_p2_kinds, .inl (cI, 8001, .inl p2_kinds)), (h_p2_places, .inl (cI, 8001, .inl p2_places)), (h_p2_values, .inl (cI, 8001, .inl p2_values)), (h_p2_sizes, .inl (cI, 8001, .inl p2_sizes)), (h_p2_partCounts, .inl (cI, 8001, .inl p2_partCounts)), (h_p2_wholes, .inl (cI, 8001, .inl o.2))]) 0 0 := by
  refine jEntry (cc := b_Gr_numberParts) (maxL := 6) (ret := none) (by decide) rfl (Nat.le_of_ble_eq_true rfl) rfl (fun p e s m args below meth c A H locs ls Q hQ hx hb hr hml hown hts hlocks hnm hJ hA hP hD hS hl => ?_)
  have hK := hJ.K
  have hl : lv_has ls 6 [(0, .ref h_t), (1, .int a1), (2, .ref h_p2)] := hl
  have L27 : ∀ (n27 : Nat) (t_numbers : (Nat → Int32)) (p2_wholes : (Nat → Int32)) (l1 : Int32) (l3 : Int32) (l4 : Int32) (l5 : Int32) (H : Heap) (locs : List Loc) (ls : Array Slot), jl_n (Gr_numberParts_b27_b t_sizes t_partCounts p2_count l1) n27 (t_numbers, p2_wholes, l3, l4, l5) = some o → va_P (dC, dI) vwCl [(h_t, .inr (1, [.ref h_t_kinds, .ref h_t_places, .ref h_t_values, .ref h_t_sizes, .ref h_t_partCounts, .ref h_t_numbers, .int t_count])), (h_t_kinds, .inl (cI, 8001, .inl t_kinds)), (h_t_places, .inl (cI, 8001, .inl t_places)), (h_t_values, .inl (cI, 8001, .inl t_values)), (h_t_sizes, .inl (cI, 8001, .inl t_sizes)), (h_t_partCounts, .inl (cI, 8001, .inl t_partCounts)), (h_t_numbers, .inl (cI, 8001, .inl t_numbers)), (h_p2, .inr (5, [.ref h_p2_kinds, .ref h_p2_places, .ref h_p2_values, .ref h_p2_sizes, .ref h_p2_partCounts, .ref h_p2_wholes, .int p2_count])), (h_p2_kinds, .inl (cI, 8001, .inl p2_kinds)), (h_p2_places, .inl (cI, 8001, .inl p2_places)), (h_p2_values, .inl (cI, 8001, .inl p2_values)), (h_p2_sizes, .inl (cI, 8001, .inl p2_sizes)), (h_p2_partCounts, .inl (cI, 8001, .inl p2_partCounts)), (h_p2_wholes, .inl (cI, 8001, .inl p2_wholes))] H → va_D A [(h_t, .inr (1, [.ref h_t_kinds, .ref h_t_places, .ref h_t_values, .ref h_t_sizes, .ref h_t_partCounts, .ref h_t_numbers, .int t_count])), (h_t_kinds, .inl (cI, 8001, .inl t_kinds)), (h_t_places, .inl (cI, 8001, .inl t_places)), (h_t_values, .inl (cI, 8001, .inl t_values)), (h_t_sizes, .inl (cI, 8001, .inl t_sizes)), (h_t_partCounts, .inl (cI, 8001, .inl t_partCounts)), (h_t_numbers, .inl (cI, 8001, .inl t_numbers)), (h_p2, .inr (5, [.ref h_p2_kinds, .ref h_p2_places, .ref h_p2_values, .ref h_p2_sizes, .ref h_p2_partCounts, .ref h_p2_wholes, .int p2_count])), (h_p2_kinds, .inl (cI, 8001, .inl p2_kinds)), (h_p2_places, .inl (cI, 8001, .inl p2_places)), (h_p2_values, .inl (cI, 8001, .inl p2_values)), (h_p2_sizes, .inl (cI, 8001, .inl p2_sizes)), (h_p2_partCounts, .inl (cI, 8001, .inl p2_partCounts)), (h_p2_wholes, .inl (cI, 8001, .inl p2_wholes))] → va_S A s.heap H locs → lv_has ls 6 [(0, .ref h_t), (1, .int l1), (2, .ref h_p2), (3, .int l3), (4, .int l4), (5, .int l5)] → W p l e { frames := 2, cells := 0, slots := 0, locals := 43 } s m args below meth c H locs 0 0 Q (F0 m 27 ls []) := by
    intro n27
    induction n27 with
    | zero => intro t_numbers p2_wholes l1 l3 l4 l5 H locs ls hf; simp only [jl_n_zero, jl_b_none, reduceCtorEq] at hf
    | succ n27 ih27 =>
      intro t_numbers p2_wholes l1 l3 l4 l5 H locs ls hf hP hD hS hl
      rw [jl_n_succ] at hf
      have hf : jl_b (jl_n (Gr_numberParts_b27_b t_sizes t_partCounts p2_count l1) n27) (Gr_numberParts_b27_s t_sizes t_partCounts p2_count l1 t_numbers p2_wholes l3 l4 l5) = some o := hf
      unfold Gr_numberParts_b27_s at hf
      refine lv_iload hx hb d_Gr_numberParts_27 (lv_at hl 5 rfl) ?_
      refine lv_if_le (tgt := 82) hx hb d_Gr_numberParts_29 (by decide) (fun c29 => ?_) (fun c29 => ?_)
      · rw [if_pos c29] at hf
        have hf : (some (t_numbers, p2_wholes) : Option ((Nat → Int32) × (Nat → Int32))) = some o := hf
        rw [hQ, ← Option.some.inj hf]
        exact jVret hx hb hr hlocks d_Gr_numberParts_82 (fun _ => 0) hS hP hD
      · rw [if_neg c29] at hf
        refine lv_iload_n hx hb d_Gr_numberParts_32 rfl (lv_at hl 3 rfl) ?_
        refine lv_if_lt (tgt := 82) hx hb d_Gr_numberParts_33 (by decide) (fun c33 => ?_) (fun c33 => ?_)
        · rw [if_pos c33] at hf
          have hf : (some (t_numbers, p2_wholes) : Option ((Nat → Int32) × (Nat → Int32))) = some o := hf
          rw [hQ, ← Option.some.inj hf]
          exact jVret hx hb hr hlocks d_Gr_numberParts_82 (fun _ => 0) hS hP hD
        · rw [if_neg c33] at hf
          refine lv_iload hx hb d_Gr_numberParts_36 (lv_at hl 4 rfl) ?_
          refine lv_aload_n hx hb d_Gr_numberParts_38 rfl (lv_at hl 0 rfl) ?_
          refine va_get (D := (dC, dI)) (ci := 1) (v := .ref h_t_sizes) (C := R_Gr) (T := T_Gr) (N := 7) hx hb hts (fun w h => List.mem_cons_of_mem _ (in_Gr w h)) hown hK hP 0 rfl rfl 3 (by decide) (hts _ (List.mem_cons_of_mem _ jw168)) (fun _ h9 => h9) rfl d_Gr_numberParts_39 ?_
          refine lv_iload_n hx hb d_Gr_numberParts_42 rfl (lv_at hl 3 rfl) ?_
          have c43 : ¬ (l3 < 0 ∨ 8001 ≤ l3.toNatClampNeg) := by intro z; rw [if_pos z] at hf; simp only [jb_none, jl_b_none, jm_none, reduceCtorEq] at hf
          rw [if_neg c43] at hf
          refine va_iald hx hb hK hP 4 0 rfl rfl c43 d_Gr_numberParts_43 ?_
          refine lv_isub hx hb d_Gr_numberParts_44 ?_
          refine lv_istore (lv' := [(4, .int (l4 - (t_sizes l3.toNatClampNeg))), (0, .ref h_t), (1, .int l1), (2, .ref h_p2), (3, .int l3), (5, .int l5)]) hx hb d_Gr_numberParts_45 hl (by decide) rfl (fun ls hl => ?_)
          refine lv_aload_n hx hb d_Gr_numberParts_47 rfl (lv_at hl 1 rfl) ?_
          refine va_get (D := (dC, dI)) (ci := 1) (v := .ref h_t_numbers) (C := R_Gr) (T := T_Gr) (N := 7) hx hb hts (fun w h => List.mem_cons_of_mem _ (in_Gr w h)) hown hK hP 0 rfl rfl 5 (by decide) (hts _ (List.mem_cons_of_mem _ jw170)) (fun _ h9 => h9) rfl d_Gr_numberParts_48 ?_
          refine lv_iload_n hx hb d_Gr_numberParts_51 rfl (lv_at hl 4 rfl) ?_
          refine lv_iload hx hb d_Gr_numberParts_52 (lv_at hl 0 rfl) ?_
          have c54 : ¬ (l3 < 0 ∨ 8001 ≤ l3.toNatClampNeg) := by intro z; rw [if_pos z] at hf; simp only [jb_none, jl_b_none, jm_none, reduceCtorEq] at hf
          rw [if_neg c54] at hf
          refine va_iast hx hb hK hP hD hS 6 0 rfl rfl c54 d_Gr_numberParts_54 (fun H locs hP hD hS => ?_)
          have hP : va_P (dC, dI) vwCl [(h_t, .inr (1, [.ref h_t_kinds, .ref h_t_places, .ref h_t_values, .ref h_t_sizes, .ref h_t_partCounts, .ref h_t_numbers, .int t_count])), (h_t_kinds, .inl (cI, 8001, .inl t_kinds)), (h_t_places, .inl (cI, 8001, .inl t_places)), (h_t_values, .inl (cI, 8001, .inl t_values)), (h_t_sizes, .inl (cI, 8001, .inl t_sizes)), (h_t_partCounts, .inl (cI, 8001, .inl t_partCounts)), (h_t_numbers, .inl (cI, 8001, .inl (upd t_numbers l3.toNatClampNeg (l4 - (t_sizes l3.toNatClampNeg))))), (h_p2, .inr (5, [.ref h_p2_kinds, .ref h_p2_places, .ref h_p2_values, .ref h_p2_sizes, .ref h_p2_partCounts, .ref h_p2_wholes, .int p2_count])), (h_p2_kinds, .inl (cI, 8001, .inl p2_kinds)), (h_p2_places, .inl (cI, 8001, .inl p2_places)), (h_p2_values, .inl (cI, 8001, .inl p2_values)), (h_p2_sizes, .inl (cI, 8001, .inl p2_sizes)), (h_p2_partCounts, .inl (cI, 8001, .inl p2_partCounts)), (h_p2_wholes, .inl (cI, 8001, .inl p2_wholes))] H := hP
          have hD : va_D A [(h_t, .inr (1, [.ref h_t_kinds, .ref h_t_places, .ref h_t_values, .ref h_t_sizes, .ref h_t_partCounts, .ref h_t_numbers, .int t_count])), (h_t_kinds, .inl (cI, 8001, .inl t_kinds)), (h_t_places, .inl (cI, 8001, .inl t_places)), (h_t_values, .inl (cI, 8001, .inl t_values)), (h_t_sizes, .inl (cI, 8001, .inl t_sizes)), (h_t_partCounts, .inl (cI, 8001, .inl t_partCounts)), (h_t_numbers, .inl (cI, 8001, .inl (upd t_numbers l3.toNatClampNeg (l4 - (t_sizes l3.toNatClampNeg))))), (h_p2, .inr (5, [.ref h_p2_kinds, .ref h_p2_places, .ref h_p2_values, .ref h_p2_sizes, .ref h_p2_partCounts, .ref h_p2_wholes, .int p2_count])), (h_p2_kinds, .inl (cI, 8001, .inl p2_kinds)), (h_p2_places, .inl (cI, 8001, .inl p2_places)), (h_p2_values, .inl (cI, 8001, .inl p2_values)), (h_p2_sizes, .inl (cI, 8001, .inl p2_sizes)), (h_p2_partCounts, .inl (cI, 8001, .inl p2_partCounts)), (h_p2_wholes, .inl (cI, 8001, .inl p2_wholes))] := hD
          refine lv_aload_n hx hb d_Gr_numberParts_55 rfl (lv_at hl 3 rfl) ?_
          refine lv_iload hx hb d_Gr_numberParts_56 (lv_at hl 0 rfl) ?_
          refine lv_aload_n hx hb d_Gr_numberParts_58 rfl (lv_at hl 1 rfl) ?_
          refine va_get (D := (dC, dI)) (ci := 1) (v := .ref h_t_numbers) (C := R_Gr) (T := T_Gr) (N := 7) hx hb hts (fun w h => List.mem_cons_of_mem _ (in_Gr w h)) hown hK hP 0 rfl rfl 5 (by decide) (hts _ (List.mem_cons_of_mem _ jw170)) (fun _ h9 => h9) rfl d_Gr_numberParts_59 ?_
          refine lv_iload_n hx hb d_Gr_numberParts_62 rfl (lv_at hl 2 rfl) ?_
          have c63 : ¬ (l1 < 0 ∨ 8001 ≤ l1.toNatClampNeg) := by intro z; rw [if_pos z] at hf; simp only [jb_none, jl_b_none, jm_none, reduceCtorEq] at hf
          rw [if_neg c63] at hf
          refine va_iald hx hb hK hP 6 0 rfl rfl c63 d_Gr_numberParts_63 ?_
          obtain ⟨o5, ho5⟩ : ∃ z, f_Tr_putWhole p2_count p2_wholes (l4 - (t_sizes l3.toNatClampNeg)) ((upd t_numbers l3.toNatClampNeg (l4 - (t_sizes l3.toNatClampNeg))) l1.toNatClampNeg) = some z := by
            cases hz : f_Tr_putWhole p2_count p2_wholes (l4 - (t_sizes l3.toNatClampNeg)) ((upd t_numbers l3.toNatClampNeg (l4 - (t_sizes l3.toNatClampNeg))) l1.toNatClampNeg) with
            | none => rw [hz] at hf; simp only [jb_none, jl_b_none, jm_none, reduceCtorEq] at hf
            | some z => exact ⟨z, rfl⟩
          rw [ho5, jb_some] at hf
          refine jCallV (As := [.int (l4 - (t_sizes l3.toNatClampNeg)), .int ((upd t_numbers l3.toNatClampNeg (l4 - (t_sizes l3.toNatClampNeg))) l1.toNatClampNeg)]) (rest := []) (wr := [(h_t, .inr (1, [.ref h_t_kinds, .ref h_t_places, .ref h_t_values, .ref h_t_sizes, .ref h_t_partCounts, .ref h_t_numbers, .int t_count])), (h_t_kinds, .inl (cI, 8001, .inl t_kinds)), (h_t_places, .inl (cI, 8001, .inl t_places)), (h_t_values, .inl (cI, 8001, .inl t_values)), (h_t_sizes, .inl (cI, 8001, .inl t_sizes)), (h_t_partCounts, .inl (cI, 8001, .inl t_partCounts)), (h_t_numbers, .inl (cI, 8001, .inl (upd t_numbers l3.toNatClampNeg (l4 - (t_sizes l3.toNatClampNeg)))))]) ⟨hx, hb, hml, hown, hts⟩ hJ (c_Tr_putWhole h_p2 h_p2_kinds h_p2_places h_p2_values h_p2_sizes h_p2_partCounts h_p2_wholes p2_kinds p2_places p2_values p2_sizes p2_partCounts p2_wholes p2_count (l4 - (t_sizes l3.toNatClampNeg)) ((upd t_numbers l3.toNatClampNeg (l4 - (t_sizes l3.toNatClampNeg))) l1.toNatClampNeg) ho5) (cwV 2 hts (jgV jw180 jw182 jw183 jw153 jw181) rfl rfl rfl dd_Tr_putWhole ⟨Nat.le_of_ble_eq_true rfl, Nat.le_of_ble_eq_true rfl⟩) hP hD hS hA (va_recv hK hP (ci := 5) (q0 := 7) rfl rfl) [7, 8, 9, 10, 11, 12, 13] [0, 1, 2, 3, 4, 5, 6] rfl rfl (by decide) (by decide) (by decide) rfl hl.1 rfl (Nat.le_of_ble_eq_true rfl) d_Gr_numberParts_64 ⟨Nat.le_of_ble_eq_true rfl, Nat.le_of_ble_eq_true rfl⟩ (fun qz6 H locs hP hD hS => ?_)
          have hP : va_P (dC, dI) vwCl [(h_t, .inr (1, [.ref h_t_kinds, .ref h_t_places, .ref h_t_values, .ref h_t_sizes, .ref h_t_partCounts, .ref h_t_numbers, .int t_count])), (h_t_kinds, .inl (cI, 8001, .inl t_kinds)), (h_t_places, .inl (cI, 8001, .inl t_places)), (h_t_values, .inl (cI, 8001, .inl t_values)), (h_t_sizes, .inl (cI, 8001, .inl t_sizes)), (h_t_partCounts, .inl (cI, 8001, .inl t_partCounts)), (h_t_numbers, .inl (cI, 8001, .inl (upd t_numbers l3.toNatClampNeg (l4 - (t_sizes l3.toNatClampNeg))))), (h_p2, .inr (5, [.ref h_p2_kinds, .ref h_p2_places, .ref h_p2_values, .ref h_p2_sizes, .ref h_p2_partCounts, .ref h_p2_wholes, .int p2_count])), (h_p2_kinds, .inl (cI, 8001, .inl p2_kinds)), (h_p2_places, .inl (cI, 8001, .inl p2_places)), (h_p2_values, .inl (cI, 8001, .inl p2_values)), (h_p2_sizes, .inl (cI, 8001, .inl p2_sizes)), (h_p2_partCounts, .inl (cI, 8001, .inl p2_partCounts)), (h_p2_wholes, .inl (cI, 8001, .inl o5))] H := hP
          have hD : va_D A [(h_t, .inr (1, [.ref h_t_kinds, .ref h_t_places, .ref h_t_values, .ref h_t_sizes, .ref h_t_partCounts, .ref h_t_numbers, .int t_count])), (h_t_kinds, .inl (cI, 8001, .inl t_kinds)), (h_t_places, .inl (cI, 8001, .inl t_places)), (h_t_values, .inl (cI, 8001, .inl t_values)), (h_t_sizes, .inl (cI, 8001, .inl t_sizes)), (h_t_partCounts, .inl (cI, 8001, .inl t_partCounts)), (h_t_numbers, .inl (cI, 8001, .inl (upd t_numbers l3.toNatClampNeg (l4 - (t_sizes l3.toNatClampNeg))))), (h_p2, .inr (5, [.ref h_p2_kinds, .ref h_p2_places, .ref h_p2_values, .ref h_p2_sizes, .ref h_p2_partCounts, .ref h_p2_wholes, .int p2_count])), (h_p2_kinds, .inl (cI, 8001, .inl p2_kinds)), (h_p2_places, .inl (cI, 8001, .inl p2_places)), (h_p2_values, .inl (cI, 8001, .inl p2_values)), (h_p2_sizes, .inl (cI, 8001, .inl p2_sizes)), (h_p2_partCounts, .inl (cI, 8001, .inl p2_partCounts)), (h_p2_wholes, .inl (cI, 8001, .inl o5))] := hD
          refine lv_iload_n hx hb d_Gr_numberParts_67 rfl (lv_at hl 4 rfl) ?_
          refine lv_aload_n hx hb d_Gr_numberParts_68 rfl (lv_at hl 1 rfl) ?_
          refine va_get (D := (dC, dI)) (ci := 1) (v := .ref h_t_sizes) (C := R_Gr) (T := T_Gr) (N := 7) hx hb hts (fun w h => List.mem_cons_of_mem _ (in_Gr w h)) hown hK hP 0 rfl rfl 3 (by decide) (hts _ (List.mem_cons_of_mem _ jw168)) (fun _ h9 => h9) rfl d_Gr_numberParts_69 ?_
          refine lv_iload_n hx hb d_Gr_numberParts_72 rfl (lv_at hl 4 rfl) ?_
          have c73 : ¬ (l3 < 0 ∨ 8001 ≤ l3.toNatClampNeg) := by intro z; rw [if_pos z] at hf; simp only [jb_none, jl_b_none, jm_none, reduceCtorEq] at hf
          rw [if_neg c73] at hf
          refine va_iald hx hb hK hP 4 0 rfl rfl c73 d_Gr_numberParts_73 ?_
          refine lv_isub hx hb d_Gr_numberParts_74 ?_
          refine lv_istore_n (lv' := [(3, .int (l3 - (t_sizes l3.toNatClampNeg))), (4, .int (l4 - (t_sizes l3.toNatClampNeg))), (0, .ref h_t), (1, .int l1), (2, .ref h_p2), (5, .int l5)]) hx hb d_Gr_numberParts_75 rfl hl (by decide) rfl (fun ls hl => ?_)
          refine lv_iinc (v := l5 + (-1 : Int32)) (lv' := [(5, .int (l5 + (-1 : Int32))), (3, .int (l3 - (t_sizes l3.toNatClampNeg))), (4, .int (l4 - (t_sizes l3.toNatClampNeg))), (0, .ref h_t), (1, .int l1), (2, .ref h_p2)]) hx hb d_Gr_numberParts_76 hl (k := 5) rfl rfl (by decide) rfl (fun ls hl => ?_)
          refine lv_goto (tgt := 27) hx hb d_Gr_numberParts_79 (by decide) ?_
          exact ih27 (upd t_numbers l3.toNatClampNeg (l4 - (t_sizes l3.toNatClampNeg))) o5 l1 (l3 - (t_sizes l3.toNatClampNeg)) (l4 - (t_sizes l3.toNatClampNeg)) (l5 + (-1 : Int32)) H locs ls hf hP hD hS (lv_sub hl [3, 4, 5, 1, 2, 0] rfl)
  unfold f_Gr_numberParts at hf
  refine lv_iload_n hx hb d_Gr_numberParts_0 rfl (lv_at hl 1 rfl) ?_
  refine lv_iconst (v := (1 : Int32)) hx hb d_Gr_numberParts_1 (by decide) ?_
  refine lv_isub hx hb d_Gr_numberParts_2 ?_
  refine lv_istore_n (lv' := [(3, .int (a1 - (1 : Int32))), (0, .ref h_t), (1, .int a1), (2, .ref h_p2)]) hx hb d_Gr_numberParts_3 rfl hl (by decide) rfl (fun ls hl => ?_)
  refine lv_aload_n hx hb d_Gr_numberParts_4 rfl (lv_at hl 1 rfl) ?_
  refine va_get (D := (dC, dI)) (ci := 1) (v := .ref h_t_numbers) (C := R_Gr) (T := T_Gr) (N := 7) hx hb hts (fun w h => List.mem_cons_of_mem _ (in_Gr w h)) hown hK hP 0 rfl rfl 5 (by decide) (hts _ (List.mem_cons_of_mem _ jw170)) (fun _ h9 => h9) rfl d_Gr_numberParts_5 ?_
  refine lv_iload_n hx hb d_Gr_numberParts_8 rfl (lv_at hl 2 rfl) ?_
  have c9 : ¬ (a1 < 0 ∨ 8001 ≤ a1.toNatClampNeg) := by intro z; rw [if_pos z] at hf; simp only [jb_none, jl_b_none, jm_none, reduceCtorEq] at hf
  rw [if_neg c9] at hf
  refine va_iald hx hb hK hP 6 0 rfl rfl c9 d_Gr_numberParts_9 ?_
  refine lv_aload_n hx hb d_Gr_numberParts_10 rfl (lv_at hl 1 rfl) ?_
  refine va_get (D := (dC, dI)) (ci := 1) (v := .ref h_t_sizes) (C := R_Gr) (T := T_Gr) (N := 7) hx hb hts (fun w h => List.mem_cons_of_mem _ (in_Gr w h)) hown hK hP 0 rfl rfl 3 (by decide) (hts _ (List.mem_cons_of_mem _ jw168)) (fun _ h9 => h9) rfl d_Gr_numberParts_11 ?_
  refine lv_iload_n hx hb d_Gr_numberParts_14 rfl (lv_at hl 2 rfl) ?_
  have c15 : ¬ (a1 < 0 ∨ 8001 ≤ a1.toNatClampNeg) := by intro z; rw [if_pos z] at hf; simp only [jb_none, jl_b_none, jm_none, reduceCtorEq] at hf
  rw [if_neg c15] at hf
  refine va_iald hx hb hK hP 4 0 rfl rfl c15 d_Gr_numberParts_15 ?_
  refine lv_iadd hx hb d_Gr_numberParts_16 ?_
  refine lv_istore (lv' := [(4, .int ((t_numbers a1.toNatClampNeg) + (t_sizes a1.toNatClampNeg))), (3, .int (a1 - (1 : Int32))), (0, .ref h_t), (1, .int a1), (2, .ref h_p2)]) hx hb d_Gr_numberParts_17 hl (by decide) rfl (fun ls hl => ?_)
  refine lv_aload_n hx hb d_Gr_numberParts_19 rfl (lv_at hl 2 rfl) ?_
  refine va_get (D := (dC, dI)) (ci := 1) (v := .ref h_t_partCounts) (C := R_Gr) (T := T_Gr) (N := 7) hx hb hts (fun w h => List.mem_cons_of_mem _ (in_Gr w h)) hown hK hP 0 rfl rfl 4 (by decide) (hts _ (List.mem_cons_of_mem _ jw169)) (fun _ h9 => h9) rfl d_Gr_numberParts_20 ?_
  refine lv_iload_n hx hb d_Gr_numberParts_23 rfl (lv_at hl 3 rfl) ?_
  have c24 : ¬ (a1 < 0 ∨ 8001 ≤ a1.toNatClampNeg) := by intro z; rw [if_pos z] at hf; simp only [jb_none, jl_b_none, jm_none, reduceCtorEq] at hf
  rw [if_neg c24] at hf
  refine va_iald hx hb hK hP 5 0 rfl rfl c24 d_Gr_numberParts_24 ?_
  refine lv_istore (lv' := [(5, .int (t_partCounts a1.toNatClampNeg)), (4, .int ((t_numbers a1.toNatClampNeg) + (t_sizes a1.toNatClampNeg))), (3, .int (a1 - (1 : Int32))), (0, .ref h_t), (1, .int a1), (2, .ref h_p2)]) hx hb d_Gr_numberParts_25 hl (by decide) rfl (fun ls hl => ?_)
  unfold Gr_numberParts_b27 at hf
  obtain ⟨nn, en⟩ := jl_ex (Gr_numberParts_b27_b t_sizes t_partCounts p2_count a1) (t_numbers, p2_wholes, (a1 - (1 : Int32)), ((t_numbers a1.toNatClampNeg) + (t_sizes a1.toNatClampNeg)), (t_partCounts a1.toNatClampNeg))
  rw [en] at hf
  exact L27 nn t_numbers p2_wholes a1 (a1 - (1 : Int32)) ((t_numbers a1.toNatClampNeg) + (t_sizes a1.toNatClampNeg)) (t_partCounts a1.toNatClampNeg) H locs ls hf hP hD hS (lv_sub hl [3, 4, 5, 2, 1, 0] rfl)
theorem d_Gr_layOut_0 : decode b_Gr_layOut 0 = .ok (.aload_n 0, 1) := by decide +kernel
theorem d_Gr_layOut_1 : decode b_Gr_layOut 1 = .ok (.getfield 30, 3) := by decide +kernel
theorem d_Gr_layOut_4 : decode b_Gr_layOut 4 = .ok (.ifCond .ne 4, 3) := by decide +kernel
theorem d_Gr_layOut_7 : decode b_Gr_layOut 7 = .ok (.return_, 1) := by decide +kernel
theorem d_Gr_layOut_8 : decode b_Gr_layOut 8 = .ok (.aload_n 1, 1) := by decide +kernel
theorem d_Gr_layOut_9 : decode b_Gr_layOut 9 = .ok (.aload_n 0, 1) := by decide +kernel
theorem d_Gr_layOut_10 : decode b_Gr_layOut 10 = .ok (.getfield 30, 3) := by decide +kernel
theorem d_Gr_layOut_13 : decode b_Gr_layOut 13 = .ok (.invokevirtual 44, 3) := by decide +kernel
theorem d_Gr_layOut_16 : decode b_Gr_layOut 16 = .ok (.aload_n 0, 1) := by decide +kernel
theorem d_Gr_layOut_17 : decode b_Gr_layOut 17 = .ok (.getfield 27, 3) := by decide +kernel
theorem d_Gr_layOut_20 : decode b_Gr_layOut 20 = .ok (.aload_n 0, 1) := by decide +kernel
theorem d_Gr_layOut_21 : decode b_Gr_layOut 21 = .ok (.getfield 30, 3) := by decide +kernel
theorem d_Gr_layOut_24 : decode b_Gr_layOut 24 = .ok (.iconst 1, 1) := by decide +kernel
theorem d_Gr_layOut_25 : decode b_Gr_layOut 25 = .ok (.isub, 1) := by decide +kernel
theorem d_Gr_layOut_26 : decode b_Gr_layOut 26 = .ok (.iconst 0, 1) := by decide +kernel
theorem d_Gr_layOut_27 : decode b_Gr_layOut 27 = .ok (.iastore, 1) := by decide +kernel
theorem d_Gr_layOut_28 : decode b_Gr_layOut 28 = .ok (.aload_n 0, 1) := by decide +kernel
theorem d_Gr_layOut_29 : decode b_Gr_layOut 29 = .ok (.getfield 30, 3) := by decide +kernel
theorem d_Gr_layOut_32 : decode b_Gr_layOut 32 = .ok (.iconst 1, 1) := by decide +kernel
theorem d_Gr_layOut_33 : decode b_Gr_layOut 33 = .ok (.isub, 1) := by decide +kernel
theorem d_Gr_layOut_34 : decode b_Gr_layOut 34 = .ok (.istore_n 2, 1) := by decide +kernel
theorem d_Gr_layOut_35 : decode b_Gr_layOut 35 = .ok (.iload_n 2, 1) := by decide +kernel
theorem d_Gr_layOut_36 : decode b_Gr_layOut 36 = .ok (.ifCond .lt 55, 3) := by decide +kernel
theorem d_Gr_layOut_39 : decode b_Gr_layOut 39 = .ok (.aload_n 1, 1) := by decide +kernel
theorem d_Gr_layOut_40 : decode b_Gr_layOut 40 = .ok (.aload_n 0, 1) := by decide +kernel
theorem d_Gr_layOut_41 : decode b_Gr_layOut 41 = .ok (.getfield 27, 3) := by decide +kernel
theorem d_Gr_layOut_44 : decode b_Gr_layOut 44 = .ok (.iload_n 2, 1) := by decide +kernel
theorem d_Gr_layOut_45 : decode b_Gr_layOut 45 = .ok (.iaload, 1) := by decide +kernel
theorem d_Gr_layOut_46 : decode b_Gr_layOut 46 = .ok (.aload_n 0, 1) := by decide +kernel
theorem d_Gr_layOut_47 : decode b_Gr_layOut 47 = .ok (.getfield 9, 3) := by decide +kernel
theorem d_Gr_layOut_50 : decode b_Gr_layOut 50 = .ok (.iload_n 2, 1) := by decide +kernel
theorem d_Gr_layOut_51 : decode b_Gr_layOut 51 = .ok (.iaload, 1) := by decide +kernel
theorem d_Gr_layOut_52 : decode b_Gr_layOut 52 = .ok (.aload_n 0, 1) := by decide +kernel
theorem d_Gr_layOut_53 : decode b_Gr_layOut 53 = .ok (.getfield 15, 3) := by decide +kernel
theorem d_Gr_layOut_56 : decode b_Gr_layOut 56 = .ok (.iload_n 2, 1) := by decide +kernel
theorem d_Gr_layOut_57 : decode b_Gr_layOut 57 = .ok (.iaload, 1) := by decide +kernel
theorem d_Gr_layOut_58 : decode b_Gr_layOut 58 = .ok (.aload_n 0, 1) := by decide +kernel
theorem d_Gr_layOut_59 : decode b_Gr_layOut 59 = .ok (.getfield 18, 3) := by decide +kernel
theorem d_Gr_layOut_62 : decode b_Gr_layOut 62 = .ok (.iload_n 2, 1) := by decide +kernel
theorem d_Gr_layOut_63 : decode b_Gr_layOut 63 = .ok (.iaload, 1) := by decide +kernel
theorem d_Gr_layOut_64 : decode b_Gr_layOut 64 = .ok (.aload_n 0, 1) := by decide +kernel
theorem d_Gr_layOut_65 : decode b_Gr_layOut 65 = .ok (.getfield 21, 3) := by decide +kernel
theorem d_Gr_layOut_68 : decode b_Gr_layOut 68 = .ok (.iload_n 2, 1) := by decide +kernel
theorem d_Gr_layOut_69 : decode b_Gr_layOut 69 = .ok (.iaload, 1) := by decide +kernel
theorem d_Gr_layOut_70 : decode b_Gr_layOut 70 = .ok (.aload_n 0, 1) := by decide +kernel
theorem d_Gr_layOut_71 : decode b_Gr_layOut 71 = .ok (.getfield 24, 3) := by decide +kernel
theorem d_Gr_layOut_74 : decode b_Gr_layOut 74 = .ok (.iload_n 2, 1) := by decide +kernel
theorem d_Gr_layOut_75 : decode b_Gr_layOut 75 = .ok (.iaload, 1) := by decide +kernel
theorem d_Gr_layOut_76 : decode b_Gr_layOut 76 = .ok (.invokevirtual 50, 3) := by decide +kernel
theorem d_Gr_layOut_79 : decode b_Gr_layOut 79 = .ok (.aload_n 0, 1) := by decide +kernel
theorem d_Gr_layOut_80 : decode b_Gr_layOut 80 = .ok (.iload_n 2, 1) := by decide +kernel
theorem d_Gr_layOut_81 : decode b_Gr_layOut 81 = .ok (.aload_n 1, 1) := by decide +kernel
theorem d_Gr_layOut_82 : decode b_Gr_layOut 82 = .ok (.invokevirtual 54, 3) := by decide +kernel
theorem d_Gr_layOut_85 : decode b_Gr_layOut 85 = .ok (.iinc 2 (-1), 3) := by decide +kernel
theorem d_Gr_layOut_88 : decode b_Gr_layOut 88 = .ok (.goto (-53), 3) := by decide +kernel
theorem d_Gr_layOut_91 : decode b_Gr_layOut 91 = .ok (.return_, 1) := by decide +kernel
noncomputable def Gr_layOut_b35_s (t_kinds : (Nat → Int32)) (t_places : (Nat → Int32)) (t_values : (Nat → Int32)) (t_sizes : (Nat → Int32)) (t_partCounts : (Nat → Int32)) (t_count : Int32) (p1_count : Int32) (t_numbers : (Nat → Int32)) (p1_kinds : (Nat → Int32)) (p1_places : (Nat → Int32)) (p1_values : (Nat → Int32)) (p1_sizes : (Nat → Int32)) (p1_partCounts : (Nat → Int32)) (p1_wholes : (Nat → Int32)) (l2 : Int32) : Option (((Nat → Int32) × (Nat → Int32) × (Nat → Int32) × (Nat → Int32) × (Nat → Int32) × (Nat → Int32) × (Nat → Int32) × Int32) ⊕ ((Nat → Int32) × (Nat → Int32) × (Nat → Int32) × (Nat → Int32) × (Nat → Int32) × (Nat → Int32) × (Nat → Int32) × Int32)) := if l2 < 0 then (some (.inr (t_numbers, p1_kinds, p1_places, p1_values, p1_sizes, p1_partCounts, p1_wholes, p1_count))) else (if l2 < 0 ∨ 8001 ≤ l2.toNatClampNeg then none else (if l2 < 0 ∨ 8001 ≤ l2.toNatClampNeg then none else (if l2 < 0 ∨ 8001 ≤ l2.toNatClampNeg then none else (if l2 < 0 ∨ 8001 ≤ l2.toNatClampNeg then none else (if l2 < 0 ∨ 8001 ≤ l2.toNatClampNeg then none else (if l2 < 0 ∨ 8001 ≤ l2.toNatClampNeg then none else (jb (f_Tr_put p1_count p1_kinds p1_places p1_values p1_sizes p1_partCounts (t_numbers l2.toNatClampNeg) (t_kinds l2.toNatClampNeg) (t_places l2.toNatClampNeg) (t_values l2.toNatClampNeg) (t_sizes l2.toNatClampNeg) (t_partCounts l2.toNatClampNeg)) (fun o7 => jb (f_Gr_numberParts t_sizes t_partCounts p1_count t_numbers p1_wholes l2) (fun o9 => some (.inl (o9.1, o7.1, o7.2.1, o7.2.2.1, o7.2.2.2.1, o7.2.2.2.2, o9.2, (l2 + (-1 : Int32)))))))))))))
noncomputable def Gr_layOut_b35_b (t_kinds : (Nat → Int32)) (t_places : (Nat → Int32)) (t_values : (Nat → Int32)) (t_sizes : (Nat → Int32)) (t_partCounts : (Nat → Int32)) (t_count : Int32) (p1_count : Int32) : ((Nat → Int32) × (Nat → Int32) × (Nat → Int32) × (Nat → Int32) × (Nat → Int32) × (Nat → Int32) × (Nat → Int32) × Int32) → Option (((Nat → Int32) × (Nat → Int32) × (Nat → Int32) × (Nat → Int32) × (Nat → Int32) × (Nat → Int32) × (Nat → Int32) × Int32) ⊕ ((Nat → Int32) × (Nat → Int32) × (Nat → Int32) × (Nat → Int32) × (Nat → Int32) × (Nat → Int32) × (Nat → Int32) × Int32)) := fun x => Gr_layOut_b35_s t_kinds t_places t_values t_sizes t_partCounts t_count p1_count x.1 x.2.1 x.2.2.1 x.2.2.2.1 x.2.2.2.2.1 x.2.2.2.2.2.1 x.2.2.2.2.2.2.1 x.2.2.2.2.2.2.2
noncomputable def Gr_layOut_b35 (t_kinds : (Nat → Int32)) (t_places : (Nat → Int32)) (t_values : (Nat → Int32)) (t_sizes : (Nat → Int32)) (t_partCounts : (Nat → Int32)) (t_count : Int32) (t_numbers : (Nat → Int32)) (p1_kinds : (Nat → Int32)) (p1_places : (Nat → Int32)) (p1_values : (Nat → Int32)) (p1_sizes : (Nat → Int32)) (p1_partCounts : (Nat → Int32)) (p1_wholes : (Nat → Int32)) (p1_count : Int32) (l2 : Int32) : Option ((Nat → Int32) × (Nat → Int32) × (Nat → Int32) × (Nat → Int32) × (Nat → Int32) × (Nat → Int32) × (Nat → Int32) × Int32) := jl (Gr_layOut_b35_b t_kinds t_places t_values t_sizes t_partCounts t_count p1_count) (t_numbers, p1_kinds, p1_places, p1_values, p1_sizes, p1_partCounts, p1_wholes, l2)
noncomputable def f_Gr_layOut (t_kinds : (Nat → Int32)) (t_places : (Nat → Int32)) (t_values : (Nat → Int32)) (t_sizes : (Nat → Int32)) (t_partCounts : (Nat → Int32)) (t_count : Int32) (t_numbers : (Nat → Int32)) (p1_kinds : (Nat → Int32)) (p1_places : (Nat → Int32)) (p1_values : (Nat → Int32)) (p1_sizes : (Nat → Int32)) (p1_partCounts : (Nat → Int32)) (p1_wholes : (Nat → Int32)) (p1_count : Int32)  : Option ((Nat → Int32) × (Nat → Int32) × (Nat → Int32) × (Nat → Int32) × (Nat → Int32) × (Nat → Int32) × (Nat → Int32) × Int32) := if t_count = 0 then (some (t_numbers, p1_kinds, p1_places, p1_values, p1_sizes, p1_partCounts, p1_wholes, p1_count)) else (jb (f_Tr_makeRoom p1_count t_count) (fun o11 => if (t_count - (1 : Int32)) < 0 ∨ 8001 ≤ (t_count - (1 : Int32)).toNatClampNeg then none else (Gr_layOut_b35 t_kinds t_places t_values t_sizes t_partCounts t_count (upd t_numbers (t_count - (1 : Int32)).toNatClampNeg (0 : Int32)) p1_kinds p1_places p1_values p1_sizes p1_partCounts p1_wholes o11 (t_count - (1 : Int32)))))
set_option maxHeartbeats 4000000 in
set_option maxRecDepth 100000 in
theorem c_Gr_layOut {l : Launch} {dC : Nat → ClassId} {dI : Nat → Nat → Nat} {cI cB cS : ClassId} {adK adV adR : Nat → Nat} (h_t h_t_kinds h_t_places h_t_values h_t_sizes h_t_partCounts h_t_numbers h_p1 h_p1_kinds h_p1_places h_p1_values h_p1_sizes h_p1_partCounts h_p1_wholes : Nat) (t_kinds : (Nat → Int32)) (t_places : (Nat → Int32)) (t_values : (Nat → Int32)) (t_sizes : (Nat → Int32)) (t_partCounts : (Nat → Int32)) (t_numbers : (Nat → Int32)) (t_count : Int32) (p1_kinds : (Nat → Int32)) (p1_places : (Nat → Int32)) (p1_values : (Nat → Int32)) (p1_sizes : (Nat → Int32)) (p1_partCounts : (Nat → Int32)) (p1_wholes : (Nat → Int32)) (p1_count : Int32)  {o : ((Nat → Int32) × (Nat → Int32) × (Nat → Int32) × (Nat → Int32) × (Nat → Int32) × (Nat → Int32) × (Nat → Int32) × Int32)} (hf : f_Gr_layOut t_kinds t_places t_values t_sizes t_partCounts t_count t_numbers p1_kinds p1_places p1_values p1_sizes p1_partCounts p1_wholes p1_count = some o) : jMet l dC dI cI cB cS adK adV adR y_Gr_layOut wd_Gr_layOut { frames := 3, cells := 0, slots := 0, locals := 68 } [.ref h_t, .ref h_p1] [(h_t, .inr (1, [.ref h_t_kinds, .ref h_t_places, .ref h_t_values, .ref h_t_sizes, .ref h_t_partCounts, .ref h_t_numbers, .int t_count])), (h_t_kinds, .inl (cI, 8001, .inl t_kinds)), (h_t_places, .inl (cI, 8001, .inl t_places)), (h_t_values, .inl (cI, 8001, .inl t_values)), (h_t_sizes, .inl (cI, 8001, .inl t_sizes)), (h_t_partCounts, .inl (cI, 8001, .inl t_partCounts)), (h_t_numbers, .inl (cI, 8001, .inl t_numbers)), (h_p1, .inr (5, [.ref h_p1_kinds, .ref h_p1_places, .ref h_p1_values, .ref h_p1_sizes, .ref h_p1_partCounts, .ref h_p1_wholes, .int p1_count])), (h_p1_kinds, .inl (cI, 8001, .inl p1_kinds)), (h_p1_places, .inl (cI, 8001, .inl p1_places)), (h_p1_values, .inl (cI, 8001, .inl p1_values)), (h_p1_sizes, .inl (cI, 8001, .inl p1_sizes)), (h_p1_partCounts, .inl (cI, 8001, .inl p1_partCounts)), (h_p1_wholes, .inl (cI, 8001, .inl p1_wholes))] (none) (fun q => [(h_t, .inr (1, [.ref h_t_kinds, .ref h_t_places, .ref h_t_values, .ref h_t_sizes, .ref h_t_partCounts, .ref h_t_numbers, .int t_count])), (h_t_kinds, .inl (cI, 8001, .inl t_kinds)), (h_t_places, .inl (cI, 8001, .inl t_places)), (h_t_values, .inl (cI, 8001, .inl t_values)), (h_t_sizes, .inl (cI, 8001, .inl t_sizes)), (h_t_partCounts, .inl (cI, 8001, .inl t_partCounts)), (h_t_numbers, .inl (cI, 8001, .inl o.1)), (h_p1, .inr (5, [.ref h_p1_kinds, .ref h_p1_places, .ref h_p1_values, .ref h_p1_sizes, .ref h_p1_partCounts, .ref h_p1_wholes, .int o.2.2.2.2.2.2.2])), (h_p1_kinds, .inl (cI, 8001, .inl o.2.1)), (h_p1_places, .inl (cI, 8001, .inl o.2.2.1)), (h_p1_values, .inl (cI, 8001, .inl o.2.2.2.1)), (h_p1_sizes, .inl (cI, 8001, .inl o.2.2.2.2.1)), (h_p1_partCounts, .inl (cI, 8001, .inl o.2.2.2.2.2.1)), (h_p1_wholes, .inl (cI, 8001, .inl o.2.2.2.2.2.2.1))]) 0 0 := by
  refine jEntry (cc := b_Gr_layOut) (maxL := 3) (ret := none) (by decide) rfl (Nat.le_of_ble_eq_true rfl) rfl (fun p e s m args below meth c A H locs ls Q hQ hx hb hr hml hown hts hlocks hnm hJ hA hP hD hS hl => ?_)
  have hK := hJ.K
  have hl : lv_has ls 3 [(0, .ref h_t), (1, .ref h_p1)] := hl
  have L35 : ∀ (n35 : Nat) (t_numbers : (Nat → Int32)) (p1_kinds : (Nat → Int32)) (p1_places : (Nat → Int32)) (p1_values : (Nat → Int32)) (p1_sizes : (Nat → Int32)) (p1_partCounts : (Nat → Int32)) (p1_wholes : (Nat → Int32)) (p1_count : Int32) (l2 : Int32) (H : Heap) (locs : List Loc) (ls : Array Slot), jl_n (Gr_layOut_b35_b t_kinds t_places t_values t_sizes t_partCounts t_count p1_count) n35 (t_numbers, p1_kinds, p1_places, p1_values, p1_sizes, p1_partCounts, p1_wholes, l2) = some o → va_P (dC, dI) vwCl [(h_t, .inr (1, [.ref h_t_kinds, .ref h_t_places, .ref h_t_values, .ref h_t_sizes, .ref h_t_partCounts, .ref h_t_numbers, .int t_count])), (h_t_kinds, .inl (cI, 8001, .inl t_kinds)), (h_t_places, .inl (cI, 8001, .inl t_places)), (h_t_values, .inl (cI, 8001, .inl t_values)), (h_t_sizes, .inl (cI, 8001, .inl t_sizes)), (h_t_partCounts, .inl (cI, 8001, .inl t_partCounts)), (h_t_numbers, .inl (cI, 8001, .inl t_numbers)), (h_p1, .inr (5, [.ref h_p1_kinds, .ref h_p1_places, .ref h_p1_values, .ref h_p1_sizes, .ref h_p1_partCounts, .ref h_p1_wholes, .int p1_count])), (h_p1_kinds, .inl (cI, 8001, .inl p1_kinds)), (h_p1_places, .inl (cI, 8001, .inl p1_places)), (h_p1_values, .inl (cI, 8001, .inl p1_values)), (h_p1_sizes, .inl (cI, 8001, .inl p1_sizes)), (h_p1_partCounts, .inl (cI, 8001, .inl p1_partCounts)), (h_p1_wholes, .inl (cI, 8001, .inl p1_wholes))] H → va_D A [(h_t, .inr (1, [.ref h_t_kinds, .ref h_t_places, .ref h_t_values, .ref h_t_sizes, .ref h_t_partCounts, .ref h_t_numbers, .int t_count])), (h_t_kinds, .inl (cI, 8001, .inl t_kinds)), (h_t_places, .inl (cI, 8001, .inl t_places)), (h_t_values, .inl (cI, 8001, .inl t_values)), (h_t_sizes, .inl (cI, 8001, .inl t_sizes)), (h_t_partCounts, .inl (cI, 8001, .inl t_partCounts)), (h_t_numbers, .inl (cI, 8001, .inl t_numbers)), (h_p1, .inr (5, [.ref h_p1_kinds, .ref h_p1_places, .ref h_p1_values, .ref h_p1_sizes, .ref h_p1_partCounts, .ref h_p1_wholes, .int p1_count])), (h_p1_kinds, .inl (cI, 8001, .inl p1_kinds)), (h_p1_places, .inl (cI, 8001, .inl p1_places)), (h_p1_values, .inl (cI, 8001, .inl p1_values)), (h_p1_sizes, .inl (cI, 8001, .inl p1_sizes)), (h_p1_partCounts, .inl (cI, 8001, .inl p1_partCounts)), (h_p1_wholes, .inl (cI, 8001, .inl p1_wholes))] → va_S A s.heap H locs → lv_has ls 3 [(0, .ref h_t), (1, .ref h_p1), (2, .int l2)] → W p l e { frames := 3, cells := 0, slots := 0, locals := 68 } s m args below meth c H locs 0 0 Q (F0 m 35 ls []) := by
    intro n35
    induction n35 with
    | zero => intro t_numbers p1_kinds p1_places p1_values p1_sizes p1_partCounts p1_wholes p1_count l2 H locs ls hf; simp only [jl_n_zero, jl_b_none, reduceCtorEq] at hf
    | succ n35 ih35 =>
      intro t_numbers p1_kinds p1_places p1_values p1_sizes p1_partCounts p1_wholes p1_count l2 H locs ls hf hP hD hS hl
      rw [jl_n_succ] at hf
      have hf : jl_b (jl_n (Gr_layOut_b35_b t_kinds t_places t_values t_sizes t_partCounts t_count p1_count) n35) (Gr_layOut_b35_s t_kinds t_places t_values t_sizes t_partCounts t_count p1_count t_numbers p1_kinds p1_places p1_values p1_sizes p1_partCounts p1_wholes l2) = some o := hf
      unfold Gr_layOut_b35_s at hf
      refine lv_iload_n hx hb d_Gr_layOut_35 rfl (lv_at hl 2 rfl) ?_
      refine lv_if_lt (tgt := 91) hx hb d_Gr_layOut_36 (by decide) (fun c36 => ?_) (fun c36 => ?_)
      · rw [if_pos c36] at hf
        have hf : (some (t_numbers, p1_kinds, p1_places, p1_values, p1_sizes, p1_partCounts, p1_wholes, p1_count) : Option ((Nat → Int32) × (Nat → Int32) × (Nat → Int32) × (Nat → Int32) × (Nat → Int32) × (Nat → Int32) × (Nat → Int32) × Int32)) = some o := hf
        rw [hQ, ← Option.some.inj hf]
        exact jVret hx hb hr hlocks d_Gr_layOut_91 (fun _ => 0) hS hP hD
      · rw [if_neg c36] at hf
        refine lv_aload_n hx hb d_Gr_layOut_39 rfl (lv_at hl 1 rfl) ?_
        refine lv_aload_n hx hb d_Gr_layOut_40 rfl (lv_at hl 0 rfl) ?_
        refine va_get (D := (dC, dI)) (ci := 1) (v := .ref h_t_numbers) (C := R_Gr) (T := T_Gr) (N := 7) hx hb hts (fun w h => List.mem_cons_of_mem _ (in_Gr w h)) hown hK hP 0 rfl rfl 5 (by decide) (hts _ (List.mem_cons_of_mem _ jw170)) (fun _ h9 => h9) rfl d_Gr_layOut_41 ?_
        refine lv_iload_n hx hb d_Gr_layOut_44 rfl (lv_at hl 2 rfl) ?_
        have c45 : ¬ (l2 < 0 ∨ 8001 ≤ l2.toNatClampNeg) := by intro z; rw [if_pos z] at hf; simp only [jb_none, jl_b_none, jm_none, reduceCtorEq] at hf
        rw [if_neg c45] at hf
        refine va_iald hx hb hK hP 6 0 rfl rfl c45 d_Gr_layOut_45 ?_
        refine lv_aload_n hx hb d_Gr_layOut_46 rfl (lv_at hl 0 rfl) ?_
        refine va_get (D := (dC, dI)) (ci := 1) (v := .ref h_t_kinds) (C := R_Gr) (T := T_Gr) (N := 7) hx hb hts (fun w h => List.mem_cons_of_mem _ (in_Gr w h)) hown hK hP 0 rfl rfl 0 (by decide) (hts _ (List.mem_cons_of_mem _ jw165)) (fun _ h9 => h9) rfl d_Gr_layOut_47 ?_
        refine lv_iload_n hx hb d_Gr_layOut_50 rfl (lv_at hl 2 rfl) ?_
        have c51 : ¬ (l2 < 0 ∨ 8001 ≤ l2.toNatClampNeg) := by intro z; rw [if_pos z] at hf; simp only [jb_none, jl_b_none, jm_none, reduceCtorEq] at hf
        rw [if_neg c51] at hf
        refine va_iald hx hb hK hP 1 0 rfl rfl c51 d_Gr_layOut_51 ?_
        refine lv_aload_n hx hb d_Gr_layOut_52 rfl (lv_at hl 0 rfl) ?_
        refine va_get (D := (dC, dI)) (ci := 1) (v := .ref h_t_places) (C := R_Gr) (T := T_Gr) (N := 7) hx hb hts (fun w h => List.mem_cons_of_mem _ (in_Gr w h)) hown hK hP 0 rfl rfl 1 (by decide) (hts _ (List.mem_cons_of_mem _ jw166)) (fun _ h9 => h9) rfl d_Gr_layOut_53 ?_
        refine lv_iload_n hx hb d_Gr_layOut_56 rfl (lv_at hl 2 rfl) ?_
        have c57 : ¬ (l2 < 0 ∨ 8001 ≤ l2.toNatClampNeg) := by intro z; rw [if_pos z] at hf; simp only [jb_none, jl_b_none, jm_none, reduceCtorEq] at hf
        rw [if_neg c57] at hf
        refine va_iald hx hb hK hP 2 0 rfl rfl c57 d_Gr_layOut_57 ?_
        refine lv_aload_n hx hb d_Gr_layOut_58 rfl (lv_at hl 0 rfl) ?_
        refine va_get (D := (dC, dI)) (ci := 1) (v := .ref h_t_values) (C := R_Gr) (T := T_Gr) (N := 7) hx hb hts (fun w h => List.mem_cons_of_mem _ (in_Gr w h)) hown hK hP 0 rfl rfl 2 (by decide) (hts _ (List.mem_cons_of_mem _ jw167)) (fun _ h9 => h9) rfl d_Gr_layOut_59 ?_
        refine lv_iload_n hx hb d_Gr_layOut_62 rfl (lv_at hl 2 rfl) ?_
        have c63 : ¬ (l2 < 0 ∨ 8001 ≤ l2.toNatClampNeg) := by intro z; rw [if_pos z] at hf; simp only [jb_none, jl_b_none, jm_none, reduceCtorEq] at hf
        rw [if_neg c63] at hf
        refine va_iald hx hb hK hP 3 0 rfl rfl c63 d_Gr_layOut_63 ?_
        refine lv_aload_n hx hb d_Gr_layOut_64 rfl (lv_at hl 0 rfl) ?_
        refine va_get (D := (dC, dI)) (ci := 1) (v := .ref h_t_sizes) (C := R_Gr) (T := T_Gr) (N := 7) hx hb hts (fun w h => List.mem_cons_of_mem _ (in_Gr w h)) hown hK hP 0 rfl rfl 3 (by decide) (hts _ (List.mem_cons_of_mem _ jw168)) (fun _ h9 => h9) rfl d_Gr_layOut_65 ?_
        refine lv_iload_n hx hb d_Gr_layOut_68 rfl (lv_at hl 2 rfl) ?_
        have c69 : ¬ (l2 < 0 ∨ 8001 ≤ l2.toNatClampNeg) := by intro z; rw [if_pos z] at hf; simp only [jb_none, jl_b_none, jm_none, reduceCtorEq] at hf
        rw [if_neg c69] at hf
        refine va_iald hx hb hK hP 4 0 rfl rfl c69 d_Gr_layOut_69 ?_
        refine lv_aload_n hx hb d_Gr_layOut_70 rfl (lv_at hl 0 rfl) ?_
        refine va_get (D := (dC, dI)) (ci := 1) (v := .ref h_t_partCounts) (C := R_Gr) (T := T_Gr) (N := 7) hx hb hts (fun w h => List.mem_cons_of_mem _ (in_Gr w h)) hown hK hP 0 rfl rfl 4 (by decide) (hts _ (List.mem_cons_of_mem _ jw169)) (fun _ h9 => h9) rfl d_Gr_layOut_71 ?_
        refine lv_iload_n hx hb d_Gr_layOut_74 rfl (lv_at hl 2 rfl) ?_
        have c75 : ¬ (l2 < 0 ∨ 8001 ≤ l2.toNatClampNeg) := by intro z; rw [if_pos z] at hf; simp only [jb_none, jl_b_none, jm_none, reduceCtorEq] at hf
        rw [if_neg c75] at hf
        refine va_iald hx hb hK hP 5 0 rfl rfl c75 d_Gr_layOut_75 ?_
        obtain ⟨o13, ho13⟩ : ∃ z, f_Tr_put p1_count p1_kinds p1_places p1_values p1_sizes p1_partCounts (t_numbers l2.toNatClampNeg) (t_kinds l2.toNatClampNeg) (t_places l2.toNatClampNeg) (t_values l2.toNatClampNeg) (t_sizes l2.toNatClampNeg) (t_partCounts l2.toNatClampNeg) = some z := by
          cases hz : f_Tr_put p1_count p1_kinds p1_places p1_values p1_sizes p1_partCounts (t_numbers l2.toNatClampNeg) (t_kinds l2.toNatClampNeg) (t_places l2.toNatClampNeg) (t_values l2.toNatClampNeg) (t_sizes l2.toNatClampNeg) (t_partCounts l2.toNatClampNeg) with
          | none => rw [hz] at hf; simp only [jb_none, jl_b_none, jm_none, reduceCtorEq] at hf
          | some z => exact ⟨z, rfl⟩
        rw [ho13, jb_some] at hf
        refine jCallV (As := [.int (t_numbers l2.toNatClampNeg), .int (t_kinds l2.toNatClampNeg), .int (t_places l2.toNatClampNeg), .int (t_values l2.toNatClampNeg), .int (t_sizes l2.toNatClampNeg), .int (t_partCounts l2.toNatClampNeg)]) (rest := []) (wr := [(h_t, .inr (1, [.ref h_t_kinds, .ref h_t_places, .ref h_t_values, .ref h_t_sizes, .ref h_t_partCounts, .ref h_t_numbers, .int t_count])), (h_t_kinds, .inl (cI, 8001, .inl t_kinds)), (h_t_places, .inl (cI, 8001, .inl t_places)), (h_t_values, .inl (cI, 8001, .inl t_values)), (h_t_sizes, .inl (cI, 8001, .inl t_sizes)), (h_t_partCounts, .inl (cI, 8001, .inl t_partCounts)), (h_t_numbers, .inl (cI, 8001, .inl t_numbers))]) ⟨hx, hb, hml, hown, hts⟩ hJ (c_Tr_put h_p1 h_p1_kinds h_p1_places h_p1_values h_p1_sizes h_p1_partCounts h_p1_wholes p1_kinds p1_places p1_values p1_sizes p1_partCounts p1_wholes p1_count (t_numbers l2.toNatClampNeg) (t_kinds l2.toNatClampNeg) (t_places l2.toNatClampNeg) (t_values l2.toNatClampNeg) (t_sizes l2.toNatClampNeg) (t_partCounts l2.toNatClampNeg) ho13) (cwV 6 hts (jgV jw188 jw190 jw191 jw153 jw189) rfl rfl rfl dd_Tr_put ⟨Nat.le_of_ble_eq_true rfl, Nat.le_of_ble_eq_true rfl⟩) hP hD hS hA (va_recv hK hP (ci := 5) (q0 := 7) rfl rfl) [7, 8, 9, 10, 11, 12, 13] [0, 1, 2, 3, 4, 5, 6] rfl rfl (by decide) (by decide) (by decide) rfl hl.1 rfl (Nat.le_of_ble_eq_true rfl) d_Gr_layOut_76 ⟨Nat.le_of_ble_eq_true rfl, Nat.le_of_ble_eq_true rfl⟩ (fun qz14 H locs hP hD hS => ?_)
        have hP : va_P (dC, dI) vwCl [(h_t, .inr (1, [.ref h_t_kinds, .ref h_t_places, .ref h_t_values, .ref h_t_sizes, .ref h_t_partCounts, .ref h_t_numbers, .int t_count])), (h_t_kinds, .inl (cI, 8001, .inl t_kinds)), (h_t_places, .inl (cI, 8001, .inl t_places)), (h_t_values, .inl (cI, 8001, .inl t_values)), (h_t_sizes, .inl (cI, 8001, .inl t_sizes)), (h_t_partCounts, .inl (cI, 8001, .inl t_partCounts)), (h_t_numbers, .inl (cI, 8001, .inl t_numbers)), (h_p1, .inr (5, [.ref h_p1_kinds, .ref h_p1_places, .ref h_p1_values, .ref h_p1_sizes, .ref h_p1_partCounts, .ref h_p1_wholes, .int p1_count])), (h_p1_kinds, .inl (cI, 8001, .inl o13.1)), (h_p1_places, .inl (cI, 8001, .inl o13.2.1)), (h_p1_values, .inl (cI, 8001, .inl o13.2.2.1)), (h_p1_sizes, .inl (cI, 8001, .inl o13.2.2.2.1)), (h_p1_partCounts, .inl (cI, 8001, .inl o13.2.2.2.2)), (h_p1_wholes, .inl (cI, 8001, .inl p1_wholes))] H := hP
        have hD : va_D A [(h_t, .inr (1, [.ref h_t_kinds, .ref h_t_places, .ref h_t_values, .ref h_t_sizes, .ref h_t_partCounts, .ref h_t_numbers, .int t_count])), (h_t_kinds, .inl (cI, 8001, .inl t_kinds)), (h_t_places, .inl (cI, 8001, .inl t_places)), (h_t_values, .inl (cI, 8001, .inl t_values)), (h_t_sizes, .inl (cI, 8001, .inl t_sizes)), (h_t_partCounts, .inl (cI, 8001, .inl t_partCounts)), (h_t_numbers, .inl (cI, 8001, .inl t_numbers)), (h_p1, .inr (5, [.ref h_p1_kinds, .ref h_p1_places, .ref h_p1_values, .ref h_p1_sizes, .ref h_p1_partCounts, .ref h_p1_wholes, .int p1_count])), (h_p1_kinds, .inl (cI, 8001, .inl o13.1)), (h_p1_places, .inl (cI, 8001, .inl o13.2.1)), (h_p1_values, .inl (cI, 8001, .inl o13.2.2.1)), (h_p1_sizes, .inl (cI, 8001, .inl o13.2.2.2.1)), (h_p1_partCounts, .inl (cI, 8001, .inl o13.2.2.2.2)), (h_p1_wholes, .inl (cI, 8001, .inl p1_wholes))] := hD
        refine lv_aload_n hx hb d_Gr_layOut_79 rfl (lv_at hl 0 rfl) ?_
        refine lv_iload_n hx hb d_Gr_layOut_80 rfl (lv_at hl 2 rfl) ?_
        refine lv_aload_n hx hb d_Gr_layOut_81 rfl (lv_at hl 1 rfl) ?_
        obtain ⟨o15, ho15⟩ : ∃ z, f_Gr_numberParts t_sizes t_partCounts p1_count t_numbers p1_wholes l2 = some z := by
          cases hz : f_Gr_numberParts t_sizes t_partCounts p1_count t_numbers p1_wholes l2 with
          | none => rw [hz] at hf; simp only [jb_none, jl_b_none, jm_none, reduceCtorEq] at hf
          | some z => exact ⟨z, rfl⟩
        rw [ho15, jb_some] at hf
        refine jCallV (As := [.int l2, .ref h_p1]) (rest := []) (wr := []) ⟨hx, hb, hml, hown, hts⟩ hJ (c_Gr_numberParts h_t h_t_kinds h_t_places h_t_values h_t_sizes h_t_partCounts h_t_numbers h_p1 h_p1_kinds h_p1_places h_p1_values h_p1_sizes h_p1_partCounts h_p1_wholes t_kinds t_places t_values t_sizes t_partCounts t_numbers t_count o13.1 o13.2.1 o13.2.2.1 o13.2.2.2.1 o13.2.2.2.2 p1_wholes p1_count l2 ho15) (cwV 2 hts (jgV jw192 jw194 jw195 jw177 jw193) rfl rfl rfl dd_Gr_numberParts ⟨Nat.le_of_ble_eq_true rfl, Nat.le_of_ble_eq_true rfl⟩) hP hD hS hA (va_recv hK hP (ci := 1) (q0 := 0) rfl rfl) [0, 1, 2, 3, 4, 5, 6, 7, 8, 9, 10, 11, 12, 13] [] rfl rfl (by decide) (by decide) (by decide) rfl hl.1 rfl (Nat.le_of_ble_eq_true rfl) d_Gr_layOut_82 ⟨Nat.le_of_ble_eq_true rfl, Nat.le_of_ble_eq_true rfl⟩ (fun qz16 H locs hP hD hS => ?_)
        have hP : va_P (dC, dI) vwCl [(h_t, .inr (1, [.ref h_t_kinds, .ref h_t_places, .ref h_t_values, .ref h_t_sizes, .ref h_t_partCounts, .ref h_t_numbers, .int t_count])), (h_t_kinds, .inl (cI, 8001, .inl t_kinds)), (h_t_places, .inl (cI, 8001, .inl t_places)), (h_t_values, .inl (cI, 8001, .inl t_values)), (h_t_sizes, .inl (cI, 8001, .inl t_sizes)), (h_t_partCounts, .inl (cI, 8001, .inl t_partCounts)), (h_t_numbers, .inl (cI, 8001, .inl o15.1)), (h_p1, .inr (5, [.ref h_p1_kinds, .ref h_p1_places, .ref h_p1_values, .ref h_p1_sizes, .ref h_p1_partCounts, .ref h_p1_wholes, .int p1_count])), (h_p1_kinds, .inl (cI, 8001, .inl o13.1)), (h_p1_places, .inl (cI, 8001, .inl o13.2.1)), (h_p1_values, .inl (cI, 8001, .inl o13.2.2.1)), (h_p1_sizes, .inl (cI, 8001, .inl o13.2.2.2.1)), (h_p1_partCounts, .inl (cI, 8001, .inl o13.2.2.2.2)), (h_p1_wholes, .inl (cI, 8001, .inl o15.2))] H := hP
        have hD : va_D A [(h_t, .inr (1, [.ref h_t_kinds, .ref h_t_places, .ref h_t_values, .ref h_t_sizes, .ref h_t_partCounts, .ref h_t_numbers, .int t_count])), (h_t_kinds, .inl (cI, 8001, .inl t_kinds)), (h_t_places, .inl (cI, 8001, .inl t_places)), (h_t_values, .inl (cI, 8001, .inl t_values)), (h_t_sizes, .inl (cI, 8001, .inl t_sizes)), (h_t_partCounts, .inl (cI, 8001, .inl t_partCounts)), (h_t_numbers, .inl (cI, 8001, .inl o15.1)), (h_p1, .inr (5, [.ref h_p1_kinds, .ref h_p1_places, .ref h_p1_values, .ref h_p1_sizes, .ref h_p1_partCounts, .ref h_p1_wholes, .int p1_count])), (h_p1_kinds, .inl (cI, 8001, .inl o13.1)), (h_p1_places, .inl (cI, 8001, .inl o13.2.1)), (h_p1_values, .inl (cI, 8001, .inl o13.2.2.1)), (h_p1_sizes, .inl (cI, 8001, .inl o13.2.2.2.1)), (h_p1_partCounts, .inl (cI, 8001, .inl o13.2.2.2.2)), (h_p1_wholes, .inl (cI, 8001, .inl o15.2))] := hD
        refine lv_iinc (v := l2 + (-1 : Int32)) (lv' := [(2, .int (l2 + (-1 : Int32))), (0, .ref h_t), (1, .ref h_p1)]) hx hb d_Gr_layOut_85 hl (k := 2) rfl rfl (by decide) rfl (fun ls hl => ?_)
        refine lv_goto (tgt := 35) hx hb d_Gr_layOut_88 (by decide) ?_
        exact ih35 o15.1 o13.1 o13.2.1 o13.2.2.1 o13.2.2.2.1 o13.2.2.2.2 o15.2 p1_count (l2 + (-1 : Int32)) H locs ls hf hP hD hS (lv_sub hl [1, 2, 0] rfl)
  unfold f_Gr_layOut at hf
  refine lv_aload_n hx hb d_Gr_layOut_0 rfl (lv_at hl 0 rfl) ?_
  refine va_get (D := (dC, dI)) (ci := 1) (v := .int t_count) (C := R_Gr) (T := T_Gr) (N := 7) hx hb hts (fun w h => List.mem_cons_of_mem _ (in_Gr w h)) hown hK hP 0 rfl rfl 6 (by decide) (hts _ (List.mem_cons_of_mem _ jw171)) (fun _ h9 => h9) rfl d_Gr_layOut_1 ?_
  refine lv_if_ne (tgt := 8) hx hb d_Gr_layOut_4 (by decide) (fun c4 => ?_) (fun c4 => ?_)
  · rw [if_neg c4] at hf
    refine lv_aload_n hx hb d_Gr_layOut_8 rfl (lv_at hl 1 rfl) ?_
    refine lv_aload_n hx hb d_Gr_layOut_9 rfl (lv_at hl 0 rfl) ?_
    refine va_get (D := (dC, dI)) (ci := 1) (v := .int t_count) (C := R_Gr) (T := T_Gr) (N := 7) hx hb hts (fun w h => List.mem_cons_of_mem _ (in_Gr w h)) hown hK hP 0 rfl rfl 6 (by decide) (hts _ (List.mem_cons_of_mem _ jw171)) (fun _ h9 => h9) rfl d_Gr_layOut_10 ?_
    obtain ⟨o17, ho17⟩ : ∃ z, f_Tr_makeRoom p1_count t_count = some z := by
      cases hz : f_Tr_makeRoom p1_count t_count with
      | none => rw [hz] at hf; simp only [jb_none, jl_b_none, jm_none, reduceCtorEq] at hf
      | some z => exact ⟨z, rfl⟩
    rw [ho17, jb_some] at hf
    refine jCallV (As := [.int t_count]) (rest := []) (wr := [(h_t, .inr (1, [.ref h_t_kinds, .ref h_t_places, .ref h_t_values, .ref h_t_sizes, .ref h_t_partCounts, .ref h_t_numbers, .int t_count])), (h_t_kinds, .inl (cI, 8001, .inl t_kinds)), (h_t_places, .inl (cI, 8001, .inl t_places)), (h_t_values, .inl (cI, 8001, .inl t_values)), (h_t_sizes, .inl (cI, 8001, .inl t_sizes)), (h_t_partCounts, .inl (cI, 8001, .inl t_partCounts)), (h_t_numbers, .inl (cI, 8001, .inl t_numbers))]) ⟨hx, hb, hml, hown, hts⟩ hJ (c_Tr_makeRoom h_p1 h_p1_kinds h_p1_places h_p1_values h_p1_sizes h_p1_partCounts h_p1_wholes p1_kinds p1_places p1_values p1_sizes p1_partCounts p1_wholes p1_count t_count ho17) (cwV 1 hts (jgV jw184 jw186 jw187 jw153 jw185) rfl rfl rfl dd_Tr_makeRoom ⟨Nat.le_of_ble_eq_true rfl, Nat.le_of_ble_eq_true rfl⟩) hP hD hS hA (va_recv hK hP (ci := 5) (q0 := 7) rfl rfl) [7, 8, 9, 10, 11, 12, 13] [0, 1, 2, 3, 4, 5, 6] rfl rfl (by decide) (by decide) (by decide) rfl hl.1 rfl (Nat.le_of_ble_eq_true rfl) d_Gr_layOut_13 ⟨Nat.le_of_ble_eq_true rfl, Nat.le_of_ble_eq_true rfl⟩ (fun qz18 H locs hP hD hS => ?_)
    have hP : va_P (dC, dI) vwCl [(h_t, .inr (1, [.ref h_t_kinds, .ref h_t_places, .ref h_t_values, .ref h_t_sizes, .ref h_t_partCounts, .ref h_t_numbers, .int t_count])), (h_t_kinds, .inl (cI, 8001, .inl t_kinds)), (h_t_places, .inl (cI, 8001, .inl t_places)), (h_t_values, .inl (cI, 8001, .inl t_values)), (h_t_sizes, .inl (cI, 8001, .inl t_sizes)), (h_t_partCounts, .inl (cI, 8001, .inl t_partCounts)), (h_t_numbers, .inl (cI, 8001, .inl t_numbers)), (h_p1, .inr (5, [.ref h_p1_kinds, .ref h_p1_places, .ref h_p1_values, .ref h_p1_sizes, .ref h_p1_partCounts, .ref h_p1_wholes, .int o17])), (h_p1_kinds, .inl (cI, 8001, .inl p1_kinds)), (h_p1_places, .inl (cI, 8001, .inl p1_places)), (h_p1_values, .inl (cI, 8001, .inl p1_values)), (h_p1_sizes, .inl (cI, 8001, .inl p1_sizes)), (h_p1_partCounts, .inl (cI, 8001, .inl p1_partCounts)), (h_p1_wholes, .inl (cI, 8001, .inl p1_wholes))] H := hP
    have hD : va_D A [(h_t, .inr (1, [.ref h_t_kinds, .ref h_t_places, .ref h_t_values, .ref h_t_sizes, .ref h_t_partCounts, .ref h_t_numbers, .int t_count])), (h_t_kinds, .inl (cI, 8001, .inl t_kinds)), (h_t_places, .inl (cI, 8001, .inl t_places)), (h_t_values, .inl (cI, 8001, .inl t_values)), (h_t_sizes, .inl (cI, 8001, .inl t_sizes)), (h_t_partCounts, .inl (cI, 8001, .inl t_partCounts)), (h_t_numbers, .inl (cI, 8001, .inl t_numbers)), (h_p1, .inr (5, [.ref h_p1_kinds, .ref h_p1_places, .ref h_p1_values, .ref h_p1_sizes, .ref h_p1_partCounts, .ref h_p1_wholes, .int o17])), (h_p1_kinds, .inl (cI, 8001, .inl p1_kinds)), (h_p1_places, .inl (cI, 8001, .inl p1_places)), (h_p1_values, .inl (cI, 8001, .inl p1_values)), (h_p1_sizes, .inl (cI, 8001, .inl p1_sizes)), (h_p1_partCounts, .inl (cI, 8001, .inl p1_partCounts)), (h_p1_wholes, .inl (cI, 8001, .inl p1_wholes))] := hD
    refine lv_aload_n hx hb d_Gr_layOut_16 rfl (lv_at hl 0 rfl) ?_
    refine va_get (D := (dC, dI)) (ci := 1) (v := .ref h_t_numbers) (C := R_Gr) (T := T_Gr) (N := 7) hx hb hts (fun w h => List.mem_cons_of_mem _ (in_Gr w h)) hown hK hP 0 rfl rfl 5 (by decide) (hts _ (List.mem_cons_of_mem _ jw170)) (fun _ h9 => h9) rfl d_Gr_layOut_17 ?_
    refine lv_aload_n hx hb d_Gr_layOut_20 rfl (lv_at hl 0 rfl) ?_
    refine va_get (D := (dC, dI)) (ci := 1) (v := .int t_count) (C := R_Gr) (T := T_Gr) (N := 7) hx hb hts (fun w h => List.mem_cons_of_mem _ (in_Gr w h)) hown hK hP 0 rfl rfl 6 (by decide) (hts _ (List.mem_cons_of_mem _ jw171)) (fun _ h9 => h9) rfl d_Gr_layOut_21 ?_
    refine lv_iconst (v := (1 : Int32)) hx hb d_Gr_layOut_24 (by decide) ?_
    refine lv_isub hx hb d_Gr_layOut_25 ?_
    refine lv_iconst (v := (0 : Int32)) hx hb d_Gr_layOut_26 (by decide) ?_
    have c27 : ¬ ((t_count - (1 : Int32)) < 0 ∨ 8001 ≤ (t_count - (1 : Int32)).toNatClampNeg) := by intro z; rw [if_pos z] at hf; simp only [jb_none, jl_b_none, jm_none, reduceCtorEq] at hf
    rw [if_neg c27] at hf
    refine va_iast hx hb hK hP hD hS 6 0 rfl rfl c27 d_Gr_layOut_27 (fun H locs hP hD hS => ?_)
    have hP : va_P (dC, dI) vwCl [(h_t, .inr (1, [.ref h_t_kinds, .ref h_t_places, .ref h_t_values, .ref h_t_sizes, .ref h_t_partCounts, .ref h_t_numbers, .int t_count])), (h_t_kinds, .inl (cI, 8001, .inl t_kinds)), (h_t_places, .inl (cI, 8001, .inl t_places)), (h_t_values, .inl (cI, 8001, .inl t_values)), (h_t_sizes, .inl (cI, 8001, .inl t_sizes)), (h_t_partCounts, .inl (cI, 8001, .inl t_partCounts)), (h_t_numbers, .inl (cI, 8001, .inl (upd t_numbers (t_count - (1 : Int32)).toNatClampNeg (0 : Int32)))), (h_p1, .inr (5, [.ref h_p1_kinds, .ref h_p1_places, .ref h_p1_values, .ref h_p1_sizes, .ref h_p1_partCounts, .ref h_p1_wholes, .int o17])), (h_p1_kinds, .inl (cI, 8001, .inl p1_kinds)), (h_p1_places, .inl (cI, 8001, .inl p1_places)), (h_p1_values, .inl (cI, 8001, .inl p1_values)), (h_p1_sizes, .inl (cI, 8001, .inl p1_sizes)), (h_p1_partCounts, .inl (cI, 8001, .inl p1_partCounts)), (h_p1_wholes, .inl (cI, 8001, .inl p1_wholes))] H := hP
    have hD : va_D A [(h_t, .inr (1, [.ref h_t_kinds, .ref h_t_places, .ref h_t_values, .ref h_t_sizes, .ref h_t_partCounts, .ref h_t_numbers, .int t_count])), (h_t_kinds, .inl (cI, 8001, .inl t_kinds)), (h_t_places, .inl (cI, 8001, .inl t_places)), (h_t_values, .inl (cI, 8001, .inl t_values)), (h_t_sizes, .inl (cI, 8001, .inl t_sizes)), (h_t_partCounts, .inl (cI, 8001, .inl t_partCounts)), (h_t_numbers, .inl (cI, 8001, .inl (upd t_numbers (t_count - (1 : Int32)).toNatClampNeg (0 : Int32)))), (h_p1, .inr (5, [.ref h_p1_kinds, .ref h_p1_places, .ref h_p1_values, .ref h_p1_sizes, .ref h_p1_partCounts, .ref h_p1_wholes, .int o17])), (h_p1_kinds, .inl (cI, 8001, .inl p1_kinds)), (h_p1_places, .inl (cI, 8001, .inl p1_places)), (h_p1_values, .inl (cI, 8001, .inl p1_values)), (h_p1_sizes, .inl (cI, 8001, .inl p1_sizes)), (h_p1_partCounts, .inl (cI, 8001, .inl p1_partCounts)), (h_p1_wholes, .inl (cI, 8001, .inl p1_wholes))] := hD
    refine lv_aload_n hx hb d_Gr_layOut_28 rfl (lv_at hl 0 rfl) ?_
    refine va_get (D := (dC, dI)) (ci := 1) (v := .int t_count) (C := R_Gr) (T := T_Gr) (N := 7) hx hb hts (fun w h => List.mem_cons_of_mem _ (in_Gr w h)) hown hK hP 0 rfl rfl 6 (by decide) (hts _ (List.mem_cons_of_mem _ jw171)) (fun _ h9 => h9) rfl d_Gr_layOut_29 ?_
    refine lv_iconst (v := (1 : Int32)) hx hb d_Gr_layOut_32 (by decide) ?_
    refine lv_isub hx hb d_Gr_layOut_33 ?_
    refine lv_istore_n (lv' := [(2, .int (t_count - (1 : Int32))), (0, .ref h_t), (1, .ref h_p1)]) hx hb d_Gr_layOut_34 rfl hl (by decide) rfl (fun ls hl => ?_)
    unfold Gr_layOut_b35 at hf
    obtain ⟨nn, en⟩ := jl_ex (Gr_layOut_b35_b t_kinds t_places t_values t_sizes t_partCounts t_count o17) ((upd t_numbers (t_count - (1 : Int32)).toNatClampNeg (0 : Int32)), p1_kinds, p1_places, p1_values, p1_sizes, p1_partCounts, p1_wholes, (t_count - (1 : Int32)))
    rw [en] at hf
    exact L35 nn (upd t_numbers (t_count - (1 : Int32)).toNatClampNeg (0 : Int32)) p1_kinds p1_places p1_values p1_sizes p1_partCounts p1_wholes o17 (t_count - (1 : Int32)) H locs ls hf hP hD hS (lv_sub hl [1, 2, 0] rfl)
  · rw [if_pos c4] at hf
    have hf : (some (t_numbers, p1_kinds, p1_places, p1_values, p1_sizes, p1_partCounts, p1_wholes, p1_count) : Option ((Nat → Int32) × (Nat → Int32) × (Nat → Int32) × (Nat → Int32) × (Nat → Int32) × (Nat → Int32) × (Nat → Int32) × Int32)) = some o := hf
    rw [hQ, ← Option.some.inj hf]
    exact jVret hx hb hr hlocks d_Gr_layOut_7 (fun _ => 0) hS hP hD
