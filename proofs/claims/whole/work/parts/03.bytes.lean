theorem d_Js_coder_0 : decode b_Js_coder 0 = .ok (.getstatic 38, 3) := by decide +kernel
theorem d_Js_coder_3 : decode b_Js_coder 3 = .ok (.ifCond .eq 10, 3) := by decide +kernel
theorem d_Js_coder_6 : decode b_Js_coder 6 = .ok (.aload_n 0, 1) := by decide +kernel
theorem d_Js_coder_7 : decode b_Js_coder 7 = .ok (.getfield 15, 3) := by decide +kernel
theorem d_Js_coder_10 : decode b_Js_coder 10 = .ok (.goto 4, 3) := by decide +kernel
theorem d_Js_coder_13 : decode b_Js_coder 13 = .ok (.iconst 1, 1) := by decide +kernel
theorem d_Js_coder_14 : decode b_Js_coder 14 = .ok (.ireturn, 1) := by decide +kernel
noncomputable def f_Js_coder   (k : Nat) : Option Int32 := if (1 : Int32) = 0 then (some (vp_nar .byte (1 : Int32))) else (if 49 ≤ k then none else (some (vp_nar .byte (0 : Int32))))
set_option maxHeartbeats 4000000 in
set_option maxRecDepth 100000 in
theorem c_Js_coder {l : Launch} {dC : Nat → ClassId} {dI : Nat → Nat → Nat} {cI cB cS : ClassId} {adK adV adR : Nat → Nat}   (k : Nat) {o : Int32} (hf : f_Js_coder k = some o) : jMet l dC dI cI cB cS adK adV adR y_Js_coder wd_Js_coder { frames := 0, cells := 0, slots := 0, locals := 0 } [.ref (adK k)] [] (some (.int o)) (fun q => []) 0 0 := by
  refine jEntry (cc := b_Js_coder) (maxL := 1) (ret := (some .byte)) (by decide) rfl (Nat.le_of_ble_eq_true rfl) rfl (fun p e s m args below meth c A H locs ls Q hQ hx hb hr hml hown hts hlocks hnm hJ hA hP hD hS hl => ?_)
  have hK := hJ.K
  have hl : lv_has ls 1 [(0, .ref (adK k))] := hl
  unfold f_Js_coder at hf
  refine va_gets (C := R_Js) hx hb hJ.Z hS hown (hts _ (List.mem_cons_of_mem _ jw0)) (fun _ h9 => h9) d_Js_coder_0 ?_
  refine lv_if_eq (tgt := 13) hx hb d_Js_coder_3 (by decide) (fun c3 => ?_) (fun c3 => ?_)
  · rw [if_pos c3] at hf
    refine lv_iconst (v := (1 : Int32)) hx hb d_Js_coder_13 (by decide) ?_
    have hf : (some (vp_nar .byte (1 : Int32)) : Option Int32) = some o := hf
    rw [hQ, ← Option.some.inj hf]
    exact jNret hx hb hr rfl hlocks d_Js_coder_14 (fun _ => 0) hS hP hD
  · rw [if_neg c3] at hf
    refine lv_aload_n hx hb d_Js_coder_6 rfl (lv_at hl 0 rfl) ?_
    have b3 : ¬ (49 ≤ k) := by intro z; rw [if_pos z] at hf; simp only [jb_none, jl_b_none, jm_none, reduceCtorEq] at hf
    rw [if_neg b3] at hf
    refine vk_getf hx hb (hJ.S k (Nat.lt_of_not_le b3)).2.1 hS hown (hts _ (List.mem_cons_of_mem _ jw1)) (fun _ h9 => h9) d_Js_coder_7 ?_
    refine lv_goto (tgt := 14) hx hb d_Js_coder_10 (by decide) ?_
    have hf : (some (vp_nar .byte (0 : Int32)) : Option Int32) = some o := hf
    rw [hQ, ← Option.some.inj hf]
    exact jNret hx hb hr rfl hlocks d_Js_coder_14 (fun _ => 0) hS hP hD
theorem d_Js_isLatin1_0 : decode b_Js_isLatin1 0 = .ok (.getstatic 38, 3) := by decide +kernel
theorem d_Js_isLatin1_3 : decode b_Js_isLatin1 3 = .ok (.ifCond .eq 14, 3) := by decide +kernel
theorem d_Js_isLatin1_6 : decode b_Js_isLatin1 6 = .ok (.aload_n 0, 1) := by decide +kernel
theorem d_Js_isLatin1_7 : decode b_Js_isLatin1 7 = .ok (.getfield 15, 3) := by decide +kernel
theorem d_Js_isLatin1_10 : decode b_Js_isLatin1 10 = .ok (.ifCond .ne 7, 3) := by decide +kernel
theorem d_Js_isLatin1_13 : decode b_Js_isLatin1 13 = .ok (.iconst 1, 1) := by decide +kernel
theorem d_Js_isLatin1_14 : decode b_Js_isLatin1 14 = .ok (.goto 4, 3) := by decide +kernel
theorem d_Js_isLatin1_17 : decode b_Js_isLatin1 17 = .ok (.iconst 0, 1) := by decide +kernel
theorem d_Js_isLatin1_18 : decode b_Js_isLatin1 18 = .ok (.ireturn, 1) := by decide +kernel
noncomputable def Js_isLatin1_b17   : Option Int32 := some (vp_nar .boolean (0 : Int32))
noncomputable def f_Js_isLatin1   (k : Nat) : Option Int32 := if (1 : Int32) = 0 then (Js_isLatin1_b17) else (if 49 ≤ k then none else (if (0 : Int32) = 0 then (some (vp_nar .boolean (1 : Int32))) else (Js_isLatin1_b17)))
set_option maxHeartbeats 4000000 in
set_option maxRecDepth 100000 in
theorem c_Js_isLatin1 {l : Launch} {dC : Nat → ClassId} {dI : Nat → Nat → Nat} {cI cB cS : ClassId} {adK adV adR : Nat → Nat}   (k : Nat) {o : Int32} (hf : f_Js_isLatin1 k = some o) : jMet l dC dI cI cB cS adK adV adR y_Js_isLatin1 wd_Js_isLatin1 { frames := 0, cells := 0, slots := 0, locals := 0 } [.ref (adK k)] [] (some (.int o)) (fun q => []) 0 0 := by
  refine jEntry (cc := b_Js_isLatin1) (maxL := 1) (ret := (some .boolean)) (by decide) rfl (Nat.le_of_ble_eq_true rfl) rfl (fun p e s m args below meth c A H locs ls Q hQ hx hb hr hml hown hts hlocks hnm hJ hA hP hD hS hl => ?_)
  have hK := hJ.K
  have hl : lv_has ls 1 [(0, .ref (adK k))] := hl
  have B17 : ∀  (H : Heap) (locs : List Loc) (ls : Array Slot), Js_isLatin1_b17 = some o → va_P (dC, dI) vwCl [] H → va_D A [] → va_S A s.heap H locs → lv_has ls 1 [] → W p l e { frames := 0, cells := 0, slots := 0, locals := 0 } s m args below meth c H locs 0 0 Q (F0 m 17 ls []) := by
    intro  H locs ls hf hP hD hS hl
    unfold Js_isLatin1_b17 at hf
    refine lv_iconst (v := (0 : Int32)) hx hb d_Js_isLatin1_17 (by decide) ?_
    have hf : (some (vp_nar .boolean (0 : Int32)) : Option Int32) = some o := hf
    rw [hQ, ← Option.some.inj hf]
    exact jNret hx hb hr rfl hlocks d_Js_isLatin1_18 (fun _ => 0) hS hP hD
  unfold f_Js_isLatin1 at hf
  refine va_gets (C := R_Js) hx hb hJ.Z hS hown (hts _ (List.mem_cons_of_mem _ jw0)) (fun _ h9 => h9) d_Js_isLatin1_0 ?_
  refine lv_if_eq (tgt := 17) hx hb d_Js_isLatin1_3 (by decide) (fun c3 => ?_) (fun c3 => ?_)
  · rw [if_pos c3] at hf
    exact B17  H locs ls hf hP hD hS (lv_sub hl [] rfl)
  · rw [if_neg c3] at hf
    refine lv_aload_n hx hb d_Js_isLatin1_6 rfl (lv_at hl 0 rfl) ?_
    have b3 : ¬ (49 ≤ k) := by intro z; rw [if_pos z] at hf; simp only [jb_none, jl_b_none, jm_none, reduceCtorEq] at hf
    rw [if_neg b3] at hf
    refine vk_getf hx hb (hJ.S k (Nat.lt_of_not_le b3)).2.1 hS hown (hts _ (List.mem_cons_of_mem _ jw1)) (fun _ h9 => h9) d_Js_isLatin1_7 ?_
    refine lv_if_ne (tgt := 17) hx hb d_Js_isLatin1_10 (by decide) (fun c10 => ?_) (fun c10 => ?_)
    · rw [if_neg c10] at hf
      exact B17  H locs ls hf hP hD hS (lv_sub hl [] rfl)
    · rw [if_pos c10] at hf
      refine lv_iconst (v := (1 : Int32)) hx hb d_Js_isLatin1_13 (by decide) ?_
      refine lv_goto (tgt := 18) hx hb d_Js_isLatin1_14 (by decide) ?_
      have hf : (some (vp_nar .boolean (1 : Int32)) : Option Int32) = some o := hf
      rw [hQ, ← Option.some.inj hf]
      exact jNret hx hb hr rfl hlocks d_Js_isLatin1_18 (fun _ => 0) hS hP hD
theorem d_Js_length_0 : decode b_Js_length 0 = .ok (.aload_n 0, 1) := by decide +kernel
theorem d_Js_length_1 : decode b_Js_length 1 = .ok (.getfield 9, 3) := by decide +kernel
theorem d_Js_length_4 : decode b_Js_length 4 = .ok (.arraylength, 1) := by decide +kernel
theorem d_Js_length_5 : decode b_Js_length 5 = .ok (.aload_n 0, 1) := by decide +kernel
theorem d_Js_length_6 : decode b_Js_length 6 = .ok (.invokevirtual 335, 3) := by decide +kernel
theorem d_Js_length_9 : decode b_Js_length 9 = .ok (.ishr, 1) := by decide +kernel
theorem d_Js_length_10 : decode b_Js_length 10 = .ok (.ireturn, 1) := by decide +kernel
noncomputable def f_Js_length   (k : Nat) : Option Int32 := if 49 ≤ k then none else (if 49 ≤ k then none else (if 49 ≤ k then none else (jb (f_Js_coder k) (fun o9 => some ((Int32.ofNat (jstrN k)) >>> (o9 &&& 31))))))
set_option maxHeartbeats 4000000 in
set_option maxRecDepth 100000 in
theorem c_Js_length {l : Launch} {dC : Nat → ClassId} {dI : Nat → Nat → Nat} {cI cB cS : ClassId} {adK adV adR : Nat → Nat}   (k : Nat) {o : Int32} (hf : f_Js_length k = some o) : jMet l dC dI cI cB cS adK adV adR y_Js_length wd_Js_length { frames := 1, cells := 0, slots := 0, locals := 20 } [.ref (adK k)] [] (some (.int o)) (fun q => []) 0 0 := by
  refine jEntry (cc := b_Js_length) (maxL := 1) (ret := (some .int)) (by decide) rfl (Nat.le_of_ble_eq_true rfl) rfl (fun p e s m args below meth c A H locs ls Q hQ hx hb hr hml hown hts hlocks hnm hJ hA hP hD hS hl => ?_)
  have hK := hJ.K
  have hl : lv_has ls 1 [(0, .ref (adK k))] := hl
  unfold f_Js_length at hf
  refine lv_aload_n hx hb d_Js_length_0 rfl (lv_at hl 0 rfl) ?_
  have b11 : ¬ (49 ≤ k) := by intro z; rw [if_pos z] at hf; simp only [jb_none, jl_b_none, jm_none, reduceCtorEq] at hf
  rw [if_neg b11] at hf
  refine vk_getf hx hb (hJ.S k (Nat.lt_of_not_le b11)).2.2.1 hS hown (hts _ (List.mem_cons_of_mem _ jw2)) (fun _ h9 => h9) d_Js_length_1 ?_
  have b12 : ¬ (49 ≤ k) := by intro z; rw [if_pos z] at hf; simp only [jb_none, jl_b_none, jm_none, reduceCtorEq] at hf
  rw [if_neg b12] at hf
  refine va_tlen hx hb (hJ.S k (Nat.lt_of_not_le b12)).2.2.2 hS rfl d_Js_length_4 ?_
  refine lv_aload_n hx hb d_Js_length_5 rfl (lv_at hl 0 rfl) ?_
  have b13 : ¬ (49 ≤ k) := by intro z; rw [if_pos z] at hf; simp only [jb_none, jl_b_none, jm_none, reduceCtorEq] at hf
  rw [if_neg b13] at hf
  obtain ⟨o14, ho14⟩ : ∃ z, f_Js_coder k = some z := by
    cases hz : f_Js_coder k with
    | none => rw [hz] at hf; simp only [jb_none, jl_b_none, jm_none, reduceCtorEq] at hf
    | some z => exact ⟨z, rfl⟩
  rw [ho14, jb_some] at hf
  refine jCallV (As := []) (rest := [.int (Int32.ofNat (jstrN k))]) (wr := []) ⟨hx, hb, hml, hown, hts⟩ hJ (c_Js_coder k ho14) (cwV 0 hts (jgV jw3 jw6 jw7 jw5 jw4) rfl rfl rfl dd_Js_coder ⟨Nat.le_of_ble_eq_true rfl, Nat.le_of_ble_eq_true rfl⟩) hP hD hS hA (jS_recv hJ (Nat.lt_of_not_le b13) hS) [] [] rfl rfl (by decide) (by decide) (by decide) rfl hl.1 rfl (Nat.le_of_ble_eq_true rfl) d_Js_length_6 ⟨Nat.le_of_ble_eq_true rfl, Nat.le_of_ble_eq_true rfl⟩ (fun qz15 H locs hP hD hS => ?_)
  have hP : va_P (dC, dI) vwCl [] H := hP
  have hD : va_D A [] := hD
  refine lv_ishr hx hb d_Js_length_9 ?_
  have hf : (some ((Int32.ofNat (jstrN k)) >>> (o14 &&& 31)) : Option Int32) = some o := hf
  rw [hQ, ← Option.some.inj hf]
  exact jIret hx hb hr hlocks d_Js_length_10 (fun _ => 0) hS hP hD
theorem d_Jp_checkIndex_0 : decode b_Jp_checkIndex 0 = .ok (.iload_n 0, 1) := by decide +kernel
theorem d_Jp_checkIndex_1 : decode b_Jp_checkIndex 1 = .ok (.ifCond .lt 8, 3) := by decide +kernel
theorem d_Jp_checkIndex_4 : decode b_Jp_checkIndex 4 = .ok (.iload_n 0, 1) := by decide +kernel
theorem d_Jp_checkIndex_5 : decode b_Jp_checkIndex 5 = .ok (.iload_n 1, 1) := by decide +kernel
theorem d_Jp_checkIndex_6 : decode b_Jp_checkIndex 6 = .ok (.if_icmp .lt 10, 3) := by decide +kernel
theorem d_Jp_checkIndex_9 : decode b_Jp_checkIndex 9 = .ok (.aload_n 2, 1) := by decide +kernel
theorem d_Jp_checkIndex_10 : decode b_Jp_checkIndex 10 = .ok (.iload_n 0, 1) := by decide +kernel
theorem d_Jp_checkIndex_11 : decode b_Jp_checkIndex 11 = .ok (.iload_n 1, 1) := by decide +kernel
theorem d_Jp_checkIndex_12 : decode b_Jp_checkIndex 12 = .ok (.invokestatic 95, 3) := by decide +kernel
theorem d_Jp_checkIndex_16 : decode b_Jp_checkIndex 16 = .ok (.iload_n 0, 1) := by decide +kernel
theorem d_Jp_checkIndex_17 : decode b_Jp_checkIndex 17 = .ok (.ireturn, 1) := by decide +kernel
noncomputable def Jp_checkIndex_b9  (l0 : Int32) (l1 : Int32) : Option Int32 := none
noncomputable def f_Jp_checkIndex   (a1 : Int32) (a2 : Int32) : Option Int32 := if a1 < 0 then (Jp_checkIndex_b9 a1 a2) else (if a1 < a2 then (some a1) else (Jp_checkIndex_b9 a1 a2))
set_option maxHeartbeats 4000000 in
set_option maxRecDepth 100000 in
theorem c_Jp_checkIndexR {l : Launch} {dC : Nat → ClassId} {dI : Nat → Nat → Nat} {cI cB cS : ClassId} {adK adV adR : Nat → Nat} {tX : Nat}   (a1 : Int32) (a2 : Int32) {o : Int32} (hf : f_Jp_checkIndex a1 a2 = some o) : jMet l dC dI cI cB cS adK adV adR y_Jp_checkIndex wd_Jp_checkIndex { frames := 0, cells := 0, slots := 0, locals := 0 } [.int a1, .int a2, .ref tX] [] (some (.int o)) (fun q => []) 0 0 := by
  refine jEntry (cc := b_Jp_checkIndex) (maxL := 3) (ret := (some .int)) (by decide) rfl (Nat.le_of_ble_eq_true rfl) rfl (fun p e s m args below meth c A H locs ls Q hQ hx hb hr hml hown hts hlocks hnm hJ hA hP hD hS hl => ?_)
  have hK := hJ.K
  have hl : lv_has ls 3 [(0, .int a1), (1, .int a2), (2, .ref tX)] := hl
  have B9 : ∀ (l0 : Int32) (l1 : Int32) (H : Heap) (locs : List Loc) (ls : Array Slot), Jp_checkIndex_b9 l0 l1 = some o → va_P (dC, dI) vwCl [] H → va_D A [] → va_S A s.heap H locs → lv_has ls 3 [(0, .int l0), (1, .int l1), (2, .ref tX)] → W p l e { frames := 0, cells := 0, slots := 0, locals := 0 } s m args below meth c H locs 0 0 Q (F0 m 9 ls []) := by
    intro l0 l1 H locs ls hf hP hD hS hl
    unfold Jp_checkIndex_b9 at hf
    refine lv_aload_n hx hb d_Jp_checkIndex_9 rfl (lv_at hl 2 rfl) ?_
    refine lv_iload_n hx hb d_Jp_checkIndex_10 rfl (lv_at hl 0 rfl) ?_
    refine lv_iload_n hx hb d_Jp_checkIndex_11 rfl (lv_at hl 1 rfl) ?_
    simp only [jb_none, jl_b_none, jm_none, reduceCtorEq] at hf
  unfold f_Jp_checkIndex at hf
  refine lv_iload_n hx hb d_Jp_checkIndex_0 rfl (lv_at hl 0 rfl) ?_
  refine lv_if_lt (tgt := 9) hx hb d_Jp_checkIndex_1 (by decide) (fun c1 => ?_) (fun c1 => ?_)
  · rw [if_pos c1] at hf
    exact B9 a1 a2 H locs ls hf hP hD hS (lv_sub hl [0, 1, 2] rfl)
  · rw [if_neg c1] at hf
    refine lv_iload_n hx hb d_Jp_checkIndex_4 rfl (lv_at hl 0 rfl) ?_
    refine lv_iload_n hx hb d_Jp_checkIndex_5 rfl (lv_at hl 1 rfl) ?_
    refine lv_icmp_lt (tgt := 16) hx hb d_Jp_checkIndex_6 (by decide) (fun c6 => ?_) (fun c6 => ?_)
    · rw [if_pos c6] at hf
      refine lv_iload_n hx hb d_Jp_checkIndex_16 rfl (lv_at hl 0 rfl) ?_
      have hf : (some a1 : Option Int32) = some o := hf
      rw [hQ, ← Option.some.inj hf]
      exact jIret hx hb hr hlocks d_Jp_checkIndex_17 (fun _ => 0) hS hP hD
    · rw [if_neg c6] at hf
      exact B9 a1 a2 H locs ls hf hP hD hS (lv_sub hl [0, 1, 2] rfl)
set_option maxHeartbeats 4000000 in
set_option maxRecDepth 100000 in
theorem c_Jp_checkIndex {l : Launch} {dC : Nat → ClassId} {dI : Nat → Nat → Nat} {cI cB cS : ClassId} {adK adV adR : Nat → Nat}   (a1 : Int32) (a2 : Int32) {o : Int32} (hf : f_Jp_checkIndex a1 a2 = some o) : jMet l dC dI cI cB cS adK adV adR y_Jp_checkIndex wd_Jp_checkIndex { frames := 0, cells := 0, slots := 0, locals := 0 } [.int a1, .int a2, .null] [] (some (.int o)) (fun q => []) 0 0 := by
  refine jEntry (cc := b_Jp_checkIndex) (maxL := 3) (ret := (some .int)) (by decide) rfl (Nat.le_of_ble_eq_true rfl) rfl (fun p e s m args below meth c A H locs ls Q hQ hx hb hr hml hown hts hlocks hnm hJ hA hP hD hS hl => ?_)
  have hK := hJ.K
  have hl : lv_has ls 3 [(0, .int a1), (1, .int a2), (2, .null)] := hl
  have B9 : ∀ (l0 : Int32) (l1 : Int32) (H : Heap) (locs : List Loc) (ls : Array Slot), Jp_checkIndex_b9 l0 l1 = some o → va_P (dC, dI) vwCl [] H → va_D A [] → va_S A s.heap H locs → lv_has ls 3 [(0, .int l0), (1, .int l1), (2, .null)] → W p l e { frames := 0, cells := 0, slots := 0, locals := 0 } s m args below meth c H locs 0 0 Q (F0 m 9 ls []) := by
    intro l0 l1 H locs ls hf hP hD hS hl
    unfold Jp_checkIndex_b9 at hf
    refine lv_aload_nN hx hb d_Jp_checkIndex_9 rfl (lv_at hl 2 rfl) ?_
    refine lv_iload_n hx hb d_Jp_checkIndex_10 rfl (lv_at hl 0 rfl) ?_
    refine lv_iload_n hx hb d_Jp_checkIndex_11 rfl (lv_at hl 1 rfl) ?_
    simp only [jb_none, jl_b_none, jm_none, reduceCtorEq] at hf
  unfold f_Jp_checkIndex at hf
  refine lv_iload_n hx hb d_Jp_checkIndex_0 rfl (lv_at hl 0 rfl) ?_
  refine lv_if_lt (tgt := 9) hx hb d_Jp_checkIndex_1 (by decide) (fun c1 => ?_) (fun c1 => ?_)
  · rw [if_pos c1] at hf
    exact B9 a1 a2 H locs ls hf hP hD hS (lv_sub hl [0, 1, 2] rfl)
  · rw [if_neg c1] at hf
    refine lv_iload_n hx hb d_Jp_checkIndex_4 rfl (lv_at hl 0 rfl) ?_
    refine lv_iload_n hx hb d_Jp_checkIndex_5 rfl (lv_at hl 1 rfl) ?_
    refine lv_icmp_lt (tgt := 16) hx hb d_Jp_checkIndex_6 (by decide) (fun c6 => ?_) (fun c6 => ?_)
    · rw [if_pos c6] at hf
      refine lv_iload_n hx hb d_Jp_checkIndex_16 rfl (lv_at hl 0 rfl) ?_
      have hf : (some a1 : Option Int32) = some o := hf
      rw [hQ, ← Option.some.inj hf]
      exact jIret hx hb hr hlocks d_Jp_checkIndex_17 (fun _ => 0) hS hP hD
    · rw [if_neg c6] at hf
      exact B9 a1 a2 H locs ls hf hP hD hS (lv_sub hl [0, 1, 2] rfl)
theorem d_Js_checkIndex_0 : decode b_Js_checkIndex 0 = .ok (.iload_n 0, 1) := by decide +kernel
theorem d_Js_checkIndex_1 : decode b_Js_checkIndex 1 = .ok (.iload_n 1, 1) := by decide +kernel
theorem d_Js_checkIndex_2 : decode b_Js_checkIndex 2 = .ok (.getstatic 1053, 3) := by decide +kernel
theorem d_Js_checkIndex_5 : decode b_Js_checkIndex 5 = .ok (.invokestatic 1059, 3) := by decide +kernel
theorem d_Js_checkIndex_8 : decode b_Js_checkIndex 8 = .ok (.pop, 1) := by decide +kernel
theorem d_Js_checkIndex_9 : decode b_Js_checkIndex 9 = .ok (.return_, 1) := by decide +kernel
noncomputable def f_Js_checkIndex   (a1 : Int32) (a2 : Int32) : Option Unit := jb (f_Jp_checkIndex a1 a2) (fun o3 => some ())
set_option maxHeartbeats 4000000 in
set_option maxRecDepth 100000 in
theorem c_Js_checkIndex {l : Launch} {dC : Nat → ClassId} {dI : Nat → Nat → Nat} {cI cB cS : ClassId} {adK adV adR : Nat → Nat}   (a1 : Int32) (a2 : Int32) {o : Unit} (hf : f_Js_checkIndex a1 a2 = some o) : jMet l dC dI cI cB cS adK adV adR y_Js_checkIndex wd_Js_checkIndex { frames := 1, cells := 0, slots := 0, locals := 22 } [.int a1, .int a2] [] (none) (fun q => []) 0 0 := by
  refine jEntry (cc := b_Js_checkIndex) (maxL := 2) (ret := none) (by decide) rfl (Nat.le_of_ble_eq_true rfl) rfl (fun p e s m args below meth c A H locs ls Q hQ hx hb hr hml hown hts hlocks hnm hJ hA hP hD hS hl => ?_)
  have hK := hJ.K
  have hl : lv_has ls 2 [(0, .int a1), (1, .int a2)] := hl
  unfold f_Js_checkIndex at hf
  refine lv_iload_n hx hb d_Js_checkIndex_0 rfl (lv_at hl 0 rfl) ?_
  refine lv_iload_n hx hb d_Js_checkIndex_1 rfl (lv_at hl 1 rfl) ?_
  rcases hJ.F with hF | ⟨tF, hF⟩
  · refine va_gets (C := "jdk/internal/util/Preconditions") hx hb hF hS hown (hts _ (List.mem_cons_of_mem _ jw8)) (fun _ h9 => h9) d_Js_checkIndex_2 ?_
    obtain ⟨o5, ho5⟩ : ∃ z, f_Jp_checkIndex a1 a2 = some z := by
      cases hz : f_Jp_checkIndex a1 a2 with
      | none => rw [hz] at hf; simp only [jb_none, jl_b_none, jm_none, reduceCtorEq] at hf
      | some z => exact ⟨z, rfl⟩
    rw [ho5, jb_some] at hf
    refine jCallS (As := [.int a1, .int a2, .null]) (rest := []) (wr := []) ⟨hx, hb, hml, hown, hts⟩ hJ (c_Jp_checkIndex a1 a2 ho5) (va_cwS 3 hts (jgS jw9 jw12 jw11 jw10) rfl rfl rfl dd_Jp_checkIndex.2 ⟨Nat.le_of_ble_eq_true rfl, Nat.le_of_ble_eq_true rfl⟩) hP hD hS hA [] [] rfl rfl (by decide) (by decide) (by decide) rfl hl.1 rfl (Nat.le_of_ble_eq_true rfl) d_Js_checkIndex_5 ⟨Nat.le_of_ble_eq_true rfl, Nat.le_of_ble_eq_true rfl⟩ (fun qz6 H locs hP hD hS => ?_)
    have hP : va_P (dC, dI) vwCl [] H := hP
    have hD : va_D A [] := hD
    refine lv_pop hx hb d_Js_checkIndex_8 rfl ?_
    have hf : (some () : Option Unit) = some o := hf
    rw [hQ]
    exact jVret hx hb hr hlocks d_Js_checkIndex_9 (fun _ => 0) hS hP hD
  · refine va_gets (C := "jdk/internal/util/Preconditions") hx hb hF hS hown (hts _ (List.mem_cons_of_mem _ jw8)) (fun _ h9 => h9) d_Js_checkIndex_2 ?_
    obtain ⟨o5, ho5⟩ : ∃ z, f_Jp_checkIndex a1 a2 = some z := by
      cases hz : f_Jp_checkIndex a1 a2 with
      | none => rw [hz] at hf; simp only [jb_none, jl_b_none, jm_none, reduceCtorEq] at hf
      | some z => exact ⟨z, rfl⟩
    rw [ho5, jb_some] at hf
    refine jCallS (As := [.int a1, .int a2, .ref tF]) (rest := []) (wr := []) ⟨hx, hb, hml, hown, hts⟩ hJ (c_Jp_checkIndexR a1 a2 ho5) (va_cwS 3 hts (jgS jw9 jw12 jw11 jw10) rfl rfl rfl dd_Jp_checkIndex.2 ⟨Nat.le_of_ble_eq_true rfl, Nat.le_of_ble_eq_true rfl⟩) hP hD hS hA [] [] rfl rfl (by decide) (by decide) (by decide) rfl hl.1 rfl (Nat.le_of_ble_eq_true rfl) d_Js_checkIndex_5 ⟨Nat.le_of_ble_eq_true rfl, Nat.le_of_ble_eq_true rfl⟩ (fun qz6 H locs hP hD hS => ?_)
    have hP : va_P (dC, dI) vwCl [] H := hP
    have hD : va_D A [] := hD
    refine lv_pop hx hb d_Js_checkIndex_8 rfl ?_
    have hf : (some () : Option Unit) = some o := hf
    rw [hQ]
    exact jVret hx hb hr hlocks d_Js_checkIndex_9 (fun _ => 0) hS hP hD
theorem d_Jl_charAt_0 : decode b_Jl_charAt 0 = .ok (.iload_n 1, 1) := by decide +kernel
theorem d_Jl_charAt_1 : decode b_Jl_charAt 1 = .ok (.aload_n 0, 1) := by decide +kernel
theorem d_Jl_charAt_2 : decode b_Jl_charAt 2 = .ok (.arraylength, 1) := by decide +kernel
theorem d_Jl_charAt_3 : decode b_Jl_charAt 3 = .ok (.invokestatic 9, 3) := by decide +kernel
theorem d_Jl_charAt_6 : decode b_Jl_charAt 6 = .ok (.aload_n 0, 1) := by decide +kernel
theorem d_Jl_charAt_7 : decode b_Jl_charAt 7 = .ok (.iload_n 1, 1) := by decide +kernel
theorem d_Jl_charAt_8 : decode b_Jl_charAt 8 = .ok (.baload, 1) := by decide +kernel
theorem d_Jl_charAt_9 : decode b_Jl_charAt 9 = .ok (.sipush 255, 3) := by decide +kernel
theorem d_Jl_charAt_12 : decode b_Jl_charAt 12 = .ok (.iand, 1) := by decide +kernel
theorem d_Jl_charAt_13 : decode b_Jl_charAt 13 = .ok (.i2c, 1) := by decide +kernel
theorem d_Jl_charAt_14 : decode b_Jl_charAt 14 = .ok (.ireturn, 1) := by decide +kernel
noncomputable def f_Jl_charAt   (k1 : Nat) (a2 : Int32) : Option Int32 := if 49 ≤ k1 then none else (jb (f_Js_checkIndex a2 (Int32.ofNat (jstrN k1))) (fun o6 => if 49 ≤ k1 then none else (if a2 < 0 ∨ jstrN k1 ≤ a2.toNatClampNeg then none else (some (vp_nar .char ((((jstr k1 a2.toNatClampNeg) &&& (255 : Int32)).toUInt32 % 65536).toInt32))))))
set_option maxHeartbeats 4000000 in
set_option maxRecDepth 100000 in
theorem c_Jl_charAt {l : Launch} {dC : Nat → ClassId} {dI : Nat → Nat → Nat} {cI cB cS : ClassId} {adK adV adR : Nat → Nat}   (k1 : Nat) (a2 : Int32) {o : Int32} (hf : f_Jl_charAt k1 a2 = some o) : jMet l dC dI cI cB cS adK adV adR y_Jl_charAt wd_Jl_charAt { frames := 2, cells := 0, slots := 0, locals := 43 } [.ref (adV k1), .int a2] [] (some (.int o)) (fun q => []) 0 0 := by
  refine jEntry (cc := b_Jl_charAt) (maxL := 2) (ret := (some .char)) (by decide) rfl (Nat.le_of_ble_eq_true rfl) rfl (fun p e s m args below meth c A H locs ls Q hQ hx hb hr hml hown hts hlocks hnm hJ hA hP hD hS hl => ?_)
  have hK := hJ.K
  have hl : lv_has ls 2 [(0, .ref (adV k1)), (1, .int a2)] := hl
  unfold f_Jl_charAt at hf
  refine lv_iload_n hx hb d_Jl_charAt_0 rfl (lv_at hl 1 rfl) ?_
  refine lv_aload_n hx hb d_Jl_charAt_1 rfl (lv_at hl 0 rfl) ?_
  have b9 : ¬ (49 ≤ k1) := by intro z; rw [if_pos z] at hf; simp only [jb_none, jl_b_none, jm_none, reduceCtorEq] at hf
  rw [if_neg b9] at hf
  refine va_tlen hx hb (hJ.S k1 (Nat.lt_of_not_le b9)).2.2.2 hS rfl d_Jl_charAt_2 ?_
  obtain ⟨o10, ho10⟩ : ∃ z, f_Js_checkIndex a2 (Int32.ofNat (jstrN k1)) = some z := by
    cases hz : f_Js_checkIndex a2 (Int32.ofNat (jstrN k1)) with
    | none => rw [hz] at hf; simp only [jb_none, jl_b_none, jm_none, reduceCtorEq] at hf
    | some z => exact ⟨z, rfl⟩
  rw [ho10, jb_some] at hf
  refine jCallS (As := [.int a2, .int (Int32.ofNat (jstrN k1))]) (rest := []) (wr := []) ⟨hx, hb, hml, hown, hts⟩ hJ (c_Js_checkIndex a2 (Int32.ofNat (jstrN k1)) ho10) (va_cwS 2 hts (jgS jw13 jw15 jw5 jw14) rfl rfl rfl dd_Js_checkIndex.2 ⟨Nat.le_of_ble_eq_true rfl, Nat.le_of_ble_eq_true rfl⟩) hP hD hS hA [] [] rfl rfl (by decide) (by decide) (by decide) rfl hl.1 rfl (Nat.le_of_ble_eq_true rfl) d_Jl_charAt_3 ⟨Nat.le_of_ble_eq_true rfl, Nat.le_of_ble_eq_true rfl⟩ (fun qz11 H locs hP hD hS => ?_)
  have hP : va_P (dC, dI) vwCl [] H := hP
  have hD : va_D A [] := hD
  refine lv_aload_n hx hb d_Jl_charAt_6 rfl (lv_at hl 0 rfl) ?_
  refine lv_iload_n hx hb d_Jl_charAt_7 rfl (lv_at hl 1 rfl) ?_
  have b12 : ¬ (49 ≤ k1) := by intro z; rw [if_pos z] at hf; simp only [jb_none, jl_b_none, jm_none, reduceCtorEq] at hf
  rw [if_neg b12] at hf
  have c8 : ¬ (a2 < 0 ∨ jstrN k1 ≤ a2.toNatClampNeg) := by intro z; rw [if_pos z] at hf; simp only [jb_none, jl_b_none, jm_none, reduceCtorEq] at hf
  rw [if_neg c8] at hf
  refine va_tb hx hb (hJ.S k1 (Nat.lt_of_not_le b12)).2.2.2 hS c8 rfl d_Jl_charAt_8 ?_
  refine lv_sipush (v := (255 : Int32)) hx hb d_Jl_charAt_9 (by decide) ?_
  refine lv_iand hx hb d_Jl_charAt_12 ?_
  refine lv_i2c (v := (((jstr k1 a2.toNatClampNeg) &&& (255 : Int32)).toUInt32 % 65536).toInt32) hx hb d_Jl_charAt_13 rfl ?_
  have hf : (some (vp_nar .char ((((jstr k1 a2.toNatClampNeg) &&& (255 : Int32)).toUInt32 % 65536).toInt32)) : Option Int32) = some o := hf
  rw [hQ, ← Option.some.inj hf]
  exact jNret hx hb hr rfl hlocks d_Jl_charAt_14 (fun _ => 0) hS hP hD
theorem d_Js_charAt_0 : decode b_Js_charAt 0 = .ok (.aload_n 0, 1) := by decide +kernel
theorem d_Js_charAt_1 : decode b_Js_charAt 1 = .ok (.invokevirtual 492, 3) := by decide +kernel
theorem d_Js_charAt_4 : decode b_Js_charAt 4 = .ok (.ifCond .eq 12, 3) := by decide +kernel
theorem d_Js_charAt_7 : decode b_Js_charAt 7 = .ok (.aload_n 0, 1) := by decide +kernel
theorem d_Js_charAt_8 : decode b_Js_charAt 8 = .ok (.getfield 9, 3) := by decide +kernel
theorem d_Js_charAt_11 : decode b_Js_charAt 11 = .ok (.iload_n 1, 1) := by decide +kernel
theorem d_Js_charAt_12 : decode b_Js_charAt 12 = .ok (.invokestatic 495, 3) := by decide +kernel
theorem d_Js_charAt_15 : decode b_Js_charAt 15 = .ok (.ireturn, 1) := by decide +kernel
theorem d_Js_charAt_16 : decode b_Js_charAt 16 = .ok (.aload_n 0, 1) := by decide +kernel
theorem d_Js_charAt_17 : decode b_Js_charAt 17 = .ok (.getfield 9, 3) := by decide +kernel
theorem d_Js_charAt_20 : decode b_Js_charAt 20 = .ok (.iload_n 1, 1) := by decide +kernel
theorem d_Js_charAt_21 : decode b_Js_charAt 21 = .ok (.invokestatic 498, 3) := by decide +kernel
noncomputable def f_Js_charAt   (k : Nat) (a1 : Int32) : Option Int32 := if 49 ≤ k then none else (jb (f_Js_isLatin1 k) (fun o9 => if o9 = 0 then (if 49 ≤ k then none else (none)) else (if 49 ≤ k then none else (jb (f_Jl_charAt k a1) (fun o13 => some (vp_nar .char o13))))))
set_option maxHeartbeats 4000000 in
set_option maxRecDepth 100000 in
theorem c_Js_charAt {l : Launch} {dC : Nat → ClassId} {dI : Nat → Nat → Nat} {cI cB cS : ClassId} {adK adV adR : Nat → Nat}   (k : Nat) (a1 : Int32) {o : Int32} (hf : f_Js_charAt k a1 = some o) : jMet l dC dI cI cB cS adK adV adR y_Js_charAt wd_Js_charAt { frames := 3, cells := 0, slots := 0, locals := 64 } [.ref (adK k), .int a1] [] (some (.int o)) (fun q => []) 0 0 := by
  refine jEntry (cc := b_Js_charAt) (maxL := 2) (ret := (some .char)) (by decide) rfl (Nat.le_of_ble_eq_true rfl) rfl (fun p e s m args below meth c A H locs ls Q hQ hx hb hr hml hown hts hlocks hnm hJ hA hP hD hS hl => ?_)
  have hK := hJ.K
  have hl : lv_has ls 2 [(0, .ref (adK k)), (1, .int a1)] := hl
  unfold f_Js_charAt at hf
  refine lv_aload_n hx hb d_Js_charAt_0 rfl (lv_at hl 0 rfl) ?_
  have b15 : ¬ (49 ≤ k) := by intro z; rw [if_pos z] at hf; simp only [jb_none, jl_b_none, jm_none, reduceCtorEq] at hf
  rw [if_neg b15] at hf
  obtain ⟨o16, ho16⟩ : ∃ z, f_Js_isLatin1 k = some z := by
    cases hz : f_Js_isLatin1 k with
    | none => rw [hz] at hf; simp only [jb_none, jl_b_none, jm_none, reduceCtorEq] at hf
    | some z => exact ⟨z, rfl⟩
  rw [ho16, jb_some] at hf
  refine jCallV (As := []) (rest := []) (wr := []) ⟨hx, hb, hml, hown, hts⟩ hJ (c_Js_isLatin1 k ho16) (cwV 0 hts (jgV jw16 jw18 jw19 jw5 jw17) rfl rfl rfl dd_Js_isLatin1 ⟨Nat.le_of_ble_eq_true rfl, Nat.le_of_ble_eq_true rfl⟩) hP hD hS hA (jS_recv hJ (Nat.lt_of_not_le b15) hS) [] [] rfl rfl (by decide) (by decide) (by decide) rfl hl.1 rfl (Nat.le_of_ble_eq_true rfl) d_Js_charAt_1 ⟨Nat.le_of_ble_eq_true rfl, Nat.le_of_ble_eq_true rfl⟩ (fun qz17 H locs hP hD hS => ?_)
  have hP : va_P (dC, dI) vwCl [] H := hP
  have hD : va_D A [] := hD
  refine lv_if_eq (tgt := 16) hx hb d_Js_charAt_4 (by decide) (fun c4 => ?_) (fun c4 => ?_)
  · rw [if_pos c4] at hf
    refine lv_aload_n hx hb d_Js_charAt_16 rfl (lv_at hl 0 rfl) ?_
    have b18 : ¬ (49 ≤ k) := by intro z; rw [if_pos z] at hf; simp only [jb_none, jl_b_none, jm_none, reduceCtorEq] at hf
    rw [if_neg b18] at hf
    refine vk_getf hx hb (hJ.S k (Nat.lt_of_not_le b18)).2.2.1 hS hown (hts _ (List.mem_cons_of_mem _ jw2)) (fun _ h9 => h9) d_Js_charAt_17 ?_
    refine lv_iload_n hx hb d_Js_charAt_20 rfl (lv_at hl 1 rfl) ?_
    simp only [jb_none, jl_b_none, jm_none, reduceCtorEq] at hf
  · rw [if_neg c4] at hf
    refine lv_aload_n hx hb d_Js_charAt_7 rfl (lv_at hl 0 rfl) ?_
    have b19 : ¬ (49 ≤ k) := by intro z; rw [if_pos z] at hf; simp only [jb_none, jl_b_none, jm_none, reduceCtorEq] at hf
    rw [if_neg b19] at hf
    refine vk_getf hx hb (hJ.S k (Nat.lt_of_not_le b19)).2.2.1 hS hown (hts _ (List.mem_cons_of_mem _ jw2)) (fun _ h9 => h9) d_Js_charAt_8 ?_
    refine lv_iload_n hx hb d_Js_charAt_11 rfl (lv_at hl 1 rfl) ?_
    obtain ⟨o20, ho20⟩ : ∃ z, f_Jl_charAt k a1 = some z := by
      cases hz : f_Jl_charAt k a1 with
      | none => rw [hz] at hf; simp only [jb_none, jl_b_none, jm_none, reduceCtorEq] at hf
      | some z => exact ⟨z, rfl⟩
    rw [ho20, jb_some] at hf
    refine jCallS (As := [.ref (adV k), .int a1]) (rest := []) (wr := []) ⟨hx, hb, hml, hown, hts⟩ hJ (c_Jl_charAt k a1 ho20) (va_cwS 2 hts (jgS jw20 jw23 jw22 jw21) rfl rfl rfl dd_Jl_charAt.2 ⟨Nat.le_of_ble_eq_true rfl, Nat.le_of_ble_eq_true rfl⟩) hP hD hS hA [] [] rfl rfl (by decide) (by decide) (by decide) rfl hl.1 rfl (Nat.le_of_ble_eq_true rfl) d_Js_charAt_12 ⟨Nat.le_of_ble_eq_true rfl, Nat.le_of_ble_eq_true rfl⟩ (fun qz21 H locs hP hD hS => ?_)
    have hP : va_P (dC, dI) vwCl [] H := hP
    have hD : va_D A [] := hD
    have hf : (some (vp_nar .char o20) : Option Int32) = some o := hf
    rw [hQ, ← Option.some.inj hf]
    exact jNret hx hb hr rfl hlocks d_Js_charAt_15 (fun _ => 0) hS hP hD
theorem d_By_init_0 : decode b_By_init 0 = .ok (.aload_n 0, 1) := by decide +kernel
theorem d_By_init_1 : decode b_By_init 1 = .ok (.invokespecial 3, 3) := by decide +kernel
theorem d_By_init_4 : decode b_By_init 4 = .ok (.aload_n 0, 1) := by decide +kernel
theorem d_By_init_5 : decode b_By_init 5 = .ok (.sipush 8000, 3) := by decide +kernel
theorem d_By_init_8 : decode b_By_init 8 = .ok (.newarray .byte, 2) := by decide +kernel
theorem d_By_init_10 : decode b_By_init 10 = .ok (.putfield 9, 3) := by decide +kernel
theorem d_By_init_13 : decode b_By_init 13 = .ok (.aload_n 0, 1) := by decide +kernel
theorem d_By_init_14 : decode b_By_init 14 = .ok (.iconst 0, 1) := by decide +kernel
theorem d_By_init_15 : decode b_By_init 15 = .ok (.putfield 15, 3) := by decide +kernel
theorem d_By_init_18 : decode b_By_init 18 = .ok (.aload_n 0, 1) := by decide +kernel
theorem d_By_init_19 : decode b_By_init 19 = .ok (.iconst 0, 1) := by decide +kernel
theorem d_By_init_20 : decode b_By_init 20 = .ok (.putfield 19, 3) := by decide +kernel
theorem d_By_init_23 : decode b_By_init 23 = .ok (.return_, 1) := by decide +kernel
set_option maxHeartbeats 4000000 in
set_option maxRecDepth 100000 in
theorem c_By_init {l : Launch} {dC : Nat → ClassId} {dI : Nat → Nat → Nat} {cI cB cS : ClassId} {adK adV adR : Nat → Nat} (h_t : Nat) : jMet l dC dI cI cB cS adK adV adR y_By_init wd_By_init { frames := 1, cells := 1, slots := 8000, locals := 12 } [.ref h_t] [(h_t, .inr (0, [.null, .int 0, .int 0]))] (none) (fun q => [(h_t, .inr (0, [.ref (q 0), .int (0 : Int32), .int (0 : Int32)])), ((q 0), .inl (cB, 8000, .inl (fun _ => 0)))]) 1 8000 := by
  refine jEntry (cc := b_By_init) (maxL := 1) (ret := none) (by decide) rfl (Nat.le_of_ble_eq_true rfl) rfl (fun p e s m args below meth c A H locs ls Q hQ hx hb hr hml hown hts hlocks hnm hJ hA hP hD hS hl => ?_)
  have hK := hJ.K
  have hl : lv_has ls 1 [(0, .ref h_t)] := hl
  subst hQ
  refine lv_aload_n hx hb d_By_init_0 rfl (lv_at hl 0 rfl) ?_
  refine W.objInit hx hb hown (hts _ (List.mem_cons_of_mem _ jw24)) (hts _ (List.mem_cons_of_mem _ jw25)) (hts _ (List.mem_cons_of_mem _ jw26)) rfl (by rw [hml]; exact hl.1) rfl d_By_init_1 (Nat.le_of_ble_eq_true rfl) (Nat.le_of_ble_eq_true rfl) ?_
  refine W.eq (g2 := F0 m 4 ls []) rfl ?_
  refine lv_aload_n hx hb d_By_init_4 rfl (lv_at hl 0 rfl) ?_
  refine lv_sipush (v := (8000 : Int32)) hx hb d_By_init_5 (by decide) ?_
  refine va_newa (atype := .byte) (ty := .byte) (a0 := (8000, .inl (fun _ => 0))) hx hb (hts _ (List.mem_cons_of_mem _ jw27)) rfl hK hP hD hS hA (fun _ => rfl) (by decide) (by decide) (by decide) (Nat.le_of_ble_eq_true rfl) (Nat.le_of_ble_eq_true rfl) d_By_init_8 (fun q8 cA H hKn hP hD hS => ?_)
  rw [j_clsB hKn] at hP hD
  have hP : va_P (dC, dI) vwCl [(h_t, .inr (0, [.null, .int 0, .int 0])), (q8, .inl (cB, 8000, .inl (fun _ => 0)))] H := hP
  have hD : va_D A [(h_t, .inr (0, [.null, .int 0, .int 0])), (q8, .inl (cB, 8000, .inl (fun _ => 0)))] := hD
  refine W.widen (k := 1) (n := 8000) (by decide) (by decide) ?_
  refine va_putF (D := (dC, dI)) (ci := 0) (v := .ref q8) (ty := (.array .byte)) (C := R_By) (T := T_By) (N := 3) hx hb hts (fun w h => List.mem_cons_of_mem _ (in_By w h)) ty_By tyok_By nm_By hown hK hP hD hS 0 rfl rfl 0 (by decide) (hts _ (List.mem_cons_of_mem _ jw28)) (fun _ h9 => h9) rfl hnm rfl (by decide +kernel) rfl rfl (Nat.le_of_ble_eq_true rfl) d_By_init_10 (fun H locs hP hD hS => ?_)
  have hP : va_P (dC, dI) vwCl [(h_t, .inr (0, [.ref q8, .int 0, .int 0])), (q8, .inl (cB, 8000, .inl (fun _ => 0)))] H := hP
  have hD : va_D A [(h_t, .inr (0, [.ref q8, .int 0, .int 0])), (q8, .inl (cB, 8000, .inl (fun _ => 0)))] := hD
  refine lv_aload_n hx hb d_By_init_13 rfl (lv_at hl 0 rfl) ?_
  refine lv_iconst (v := (0 : Int32)) hx hb d_By_init_14 (by decide) ?_
  refine va_put (D := (dC, dI)) (ci := 0) (v := .int (0 : Int32)) (ty := .int) (C := R_By) (T := T_By) (N := 3) hx hb hts (fun w h => List.mem_cons_of_mem _ (in_By w h)) ty_By tyok_By nm_By hown hK hP hD hS 0 rfl rfl 1 (by decide) (hts _ (List.mem_cons_of_mem _ jw29)) (fun _ h9 => h9) rfl (by decide +kernel) rfl rfl (Nat.le_of_ble_eq_true rfl) d_By_init_15 (fun H locs hP hD hS => ?_)
  have hP : va_P (dC, dI) vwCl [(h_t, .inr (0, [.ref q8, .int (0 : Int32), .int 0])), (q8, .inl (cB, 8000, .inl (fun _ => 0)))] H := hP
  have hD : va_D A [(h_t, .inr (0, [.ref q8, .int (0 : Int32), .int 0])), (q8, .inl (cB, 8000, .inl (fun _ => 0)))] := hD
  refine lv_aload_n hx hb d_By_init_18 rfl (lv_at hl 0 rfl) ?_
  refine lv_iconst (v := (0 : Int32)) hx hb d_By_init_19 (by decide) ?_
  refine va_put (D := (dC, dI)) (ci := 0) (v := .int (0 : Int32)) (ty := .boolean) (C := R_By) (T := T_By) (N := 3) hx hb hts (fun w h => List.mem_cons_of_mem _ (in_By w h)) ty_By tyok_By nm_By hown hK hP hD hS 0 rfl rfl 2 (by decide) (hts _ (List.mem_cons_of_mem _ jw30)) (fun _ h9 => h9) rfl (by decide +kernel) (by decide +kernel) (by decide +kernel) (Nat.le_of_ble_eq_true rfl) d_By_init_20 (fun H locs hP hD hS => ?_)
  have hP : va_P (dC, dI) vwCl [(h_t, .inr (0, [.ref q8, .int (0 : Int32), .int (0 : Int32)])), (q8, .inl (cB, 8000, .inl (fun _ => 0)))] H := hP
  have hD : va_D A [(h_t, .inr (0, [.ref q8, .int (0 : Int32), .int (0 : Int32)])), (q8, .inl (cB, 8000, .inl (fun _ => 0)))] := hD
  refine W.widen (k := 1) (n := 8000) (by decide) (by decide) ?_
  exact jVret hx hb hr hlocks d_By_init_23 (fun n => [q8].getD n 0) hS hP hD
theorem d_By_clear_0 : decode b_By_clear 0 = .ok (.aload_n 0, 1) := by decide +kernel
theorem d_By_clear_1 : decode b_By_clear 1 = .ok (.iconst 0, 1) := by decide +kernel
theorem d_By_clear_2 : decode b_By_clear 2 = .ok (.putfield 15, 3) := by decide +kernel
theorem d_By_clear_5 : decode b_By_clear 5 = .ok (.aload_n 0, 1) := by decide +kernel
theorem d_By_clear_6 : decode b_By_clear 6 = .ok (.iconst 0, 1) := by decide +kernel
theorem d_By_clear_7 : decode b_By_clear 7 = .ok (.putfield 19, 3) := by decide +kernel
theorem d_By_clear_10 : decode b_By_clear 10 = .ok (.return_, 1) := by decide +kernel
noncomputable def f_By_clear  (t_length : Int32) (t_overrun : Int32)  : Option (Int32 × Int32) := some ((0 : Int32), (0 : Int32))
set_option maxHeartbeats 4000000 in
set_option maxRecDepth 100000 in
theorem c_By_clear {l : Launch} {dC : Nat → ClassId} {dI : Nat → Nat → Nat} {cI cB cS : ClassId} {adK adV adR : Nat → Nat} (h_t h_t_row : Nat) (t_row : (Nat → Int32)) (t_length : Int32) (t_overrun : Int32)  {o : (Int32 × Int32)} (hf : f_By_clear t_length t_overrun = some o) : jMet l dC dI cI cB cS adK adV adR y_By_clear wd_By_clear { frames := 0, cells := 0, slots := 0, locals := 0 } [.ref h_t] [(h_t, .inr (0, [.ref h_t_row, .int t_length, .int t_overrun])), (h_t_row, .inl (cB, 8000, .inl t_row))] (none) (fun q => [(h_t, .inr (0, [.ref h_t_row, .int o.1, .int o.2])), (h_t_row, .inl (cB, 8000, .inl t_row))]) 0 0 := by
  refine jEntry (cc := b_By_clear) (maxL := 1) (ret := none) (by decide) rfl (Nat.le_of_ble_eq_true rfl) rfl (fun p e s m args below meth c A H locs ls Q hQ hx hb hr hml hown hts hlocks hnm hJ hA hP hD hS hl => ?_)
  have hK := hJ.K
  have hl : lv_has ls 1 [(0, .ref h_t)] := hl
  unfold f_By_clear at hf
  refine lv_aload_n hx hb d_By_clear_0 rfl (lv_at hl 0 rfl) ?_
  refine lv_iconst (v := (0 : Int32)) hx hb d_By_clear_1 (by decide) ?_
  refine va_put (D := (dC, dI)) (ci := 0) (v := .int (0 : Int32)) (ty := .int) (C := R_By) (T := T_By) (N := 3) hx hb hts (fun w h => List.mem_cons_of_mem _ (in_By w h)) ty_By tyok_By nm_By hown hK hP hD hS 0 rfl rfl 1 (by decide) (hts _ (List.mem_cons_of_mem _ jw29)) (fun _ h9 => h9) rfl (by decide +kernel) rfl rfl (Nat.le_of_ble_eq_true rfl) d_By_clear_2 (fun H locs hP hD hS => ?_)
  have hP : va_P (dC, dI) vwCl [(h_t, .inr (0, [.ref h_t_row, .int (0 : Int32), .int t_overrun])), (h_t_row, .inl (cB, 8000, .inl t_row))] H := hP
  have hD : va_D A [(h_t, .inr (0, [.ref h_t_row, .int (0 : Int32), .int t_overrun])), (h_t_row, .inl (cB, 8000, .inl t_row))] := hD
  refine lv_aload_n hx hb d_By_clear_5 rfl (lv_at hl 0 rfl) ?_
  refine lv_iconst (v := (0 : Int32)) hx hb d_By_clear_6 (by decide) ?_
  refine va_put (D := (dC, dI)) (ci := 0) (v := .int (0 : Int32)) (ty := .boolean) (C := R_By) (T := T_By) (N := 3) hx hb hts (fun w h => List.mem_cons_of_mem _ (in_By w h)) ty_By tyok_By nm_By hown hK hP hD hS 0 rfl rfl 2 (by decide) (hts _ (List.mem_cons_of_mem _ jw30)) (fun _ h9 => h9) rfl (by decide +kernel) (by decide +kernel) (by decide +kernel) (Nat.le_of_ble_eq_true rfl) d_By_clear_7 (fun H locs hP hD hS => ?_)
  have hP : va_P (dC, dI) vwCl [(h_t, .inr (0, [.ref h_t_row, .int (0 : Int32), .int (0 : Int32)])), (h_t_row, .inl (cB, 8000, .inl t_row))] H := hP
  have hD : va_D A [(h_t, .inr (0, [.ref h_t_row, .int (0 : Int32), .int (0 : Int32)])), (h_t_row, .inl (cB, 8000, .inl t_row))] := hD
  have hf : (some ((0 : Int32), (0 : Int32)) : Option (Int32 × Int32)) = some o := hf
  rw [hQ, ← Option.some.inj hf]
  exact jVret hx hb hr hlocks d_By_clear_10 (fun _ => 0) hS hP hD
theorem d_By_put_0 : decode b_By_put 0 = .ok (.aload_n 0, 1) := by decide +kernel
theorem d_By_put_1 : decode b_By_put 1 = .ok (.getfield 15, 3) := by decide +kernel
theorem d_By_put_4 : decode b_By_put 4 = .ok (.sipush 8000, 3) := by decide +kernel
theorem d_By_put_7 : decode b_By_put 7 = .ok (.if_icmp .lt 9, 3) := by decide +kernel
theorem d_By_put_10 : decode b_By_put 10 = .ok (.aload_n 0, 1) := by decide +kernel
theorem d_By_put_11 : decode b_By_put 11 = .ok (.iconst 1, 1) := by decide +kernel
theorem d_By_put_12 : decode b_By_put 12 = .ok (.putfield 19, 3) := by decide +kernel
theorem d_By_put_15 : decode b_By_put 15 = .ok (.return_, 1) := by decide +kernel
theorem d_By_put_16 : decode b_By_put 16 = .ok (.aload_n 0, 1) := by decide +kernel
theorem d_By_put_17 : decode b_By_put 17 = .ok (.getfield 9, 3) := by decide +kernel
theorem d_By_put_20 : decode b_By_put 20 = .ok (.aload_n 0, 1) := by decide +kernel
theorem d_By_put_21 : decode b_By_put 21 = .ok (.getfield 15, 3) := by decide +kernel
theorem d_By_put_24 : decode b_By_put 24 = .ok (.iload_n 1, 1) := by decide +kernel
theorem d_By_put_25 : decode b_By_put 25 = .ok (.i2b, 1) := by decide +kernel
theorem d_By_put_26 : decode b_By_put 26 = .ok (.bastore, 1) := by decide +kernel
theorem d_By_put_27 : decode b_By_put 27 = .ok (.aload_n 0, 1) := by decide +kernel
theorem d_By_put_28 : decode b_By_put 28 = .ok (.dup, 1) := by decide +kernel
theorem d_By_put_29 : decode b_By_put 29 = .ok (.getfield 15, 3) := by decide +kernel
theorem d_By_put_32 : decode b_By_put 32 = .ok (.iconst 1, 1) := by decide +kernel
theorem d_By_put_33 : decode b_By_put 33 = .ok (.iadd, 1) := by decide +kernel
theorem d_By_put_34 : decode b_By_put 34 = .ok (.putfield 15, 3) := by decide +kernel
theorem d_By_put_37 : decode b_By_put 37 = .ok (.return_, 1) := by decide +kernel
noncomputable def f_By_put  (t_row : (Nat → Int32)) (t_length : Int32) (t_overrun : Int32) (a1 : Int32) : Option ((Nat → Int32) × Int32 × Int32) := if t_length < (8000 : Int32) then (if t_length < 0 ∨ 8000 ≤ t_length.toNatClampNeg then none else (some ((upd t_row t_length.toNatClampNeg (vp_nar .byte (a1.toInt8.toInt32))), (t_length + (1 : Int32)), t_overrun))) else (some (t_row, t_length, (1 : Int32)))
set_option maxHeartbeats 4000000 in
set_option maxRecDepth 100000 in
theorem c_By_put {l : Launch} {dC : Nat → ClassId} {dI : Nat → Nat → Nat} {cI cB cS : ClassId} {adK adV adR : Nat → Nat} (h_t h_t_row : Nat) (t_row : (Nat → Int32)) (t_length : Int32) (t_overrun : Int32) (a1 : Int32) {o : ((Nat → Int32) × Int32 × Int32)} (hf : f_By_put t_row t_length t_overrun a1 = some o) : jMet l dC dI cI cB cS adK adV adR y_By_put wd_By_put { frames := 0, cells := 0, slots := 0, locals := 0 } [.ref h_t, .int a1] [(h_t, .inr (0, [.ref h_t_row, .int t_length, .int t_overrun])), (h_t_row, .inl (cB, 8000, .inl t_row))] (none) (fun q => [(h_t, .inr (0, [.ref h_t_row, .int o.2.1, .int o.2.2])), (h_t_row, .inl (cB, 8000, .inl o.1))]) 0 0 := by
  refine jEntry (cc := b_By_put) (maxL := 2) (ret := none) (by decide) rfl (Nat.le_of_ble_eq_true rfl) rfl (fun p e s m args below meth c A H locs ls Q hQ hx hb hr hml hown hts hlocks hnm hJ hA hP hD hS hl => ?_)
  have hK := hJ.K
  have hl : lv_has ls 2 [(0, .ref h_t), (1, .int a1)] := hl
  unfold f_By_put at hf
  refine lv_aload_n hx hb d_By_put_0 rfl (lv_at hl 0 rfl) ?_
  refine va_get (D := (dC, dI)) (ci := 0) (v := .int t_length) (C := R_By) (T := T_By) (N := 3) hx hb hts (fun w h => List.mem_cons_of_mem _ (in_By w h)) hown hK hP 0 rfl rfl 1 (by decide) (hts _ (List.mem_cons_of_mem _ jw29)) (fun _ h9 => h9) rfl d_By_put_1 ?_
  refine lv_sipush (v := (8000 : Int32)) hx hb d_By_put_4 (by decide) ?_
  refine lv_icmp_lt (tgt := 16) hx hb d_By_put_7 (by decide) (fun c7 => ?_) (fun c7 => ?_)
  · rw [if_pos c7] at hf
    refine lv_aload_n hx hb d_By_put_16 rfl (lv_at hl 0 rfl) ?_
    refine va_get (D := (dC, dI)) (ci := 0) (v := .ref h_t_row) (C := R_By) (T := T_By) (N := 3) hx hb hts (fun w h => List.mem_cons_of_mem _ (in_By w h)) hown hK hP 0 rfl rfl 0 (by decide) (hts _ (List.mem_cons_of_mem _ jw28)) (fun _ h9 => h9) rfl d_By_put_17 ?_
    refine lv_aload_n hx hb d_By_put_20 rfl (lv_at hl 0 rfl) ?_
    refine va_get (D := (dC, dI)) (ci := 0) (v := .int t_length) (C := R_By) (T := T_By) (N := 3) hx hb hts (fun w h => List.mem_cons_of_mem _ (in_By w h)) hown hK hP 0 rfl rfl 1 (by decide) (hts _ (List.mem_cons_of_mem _ jw29)) (fun _ h9 => h9) rfl d_By_put_21 ?_
    refine lv_iload_n hx hb d_By_put_24 rfl (lv_at hl 1 rfl) ?_
    refine lv_i2b (v := a1.toInt8.toInt32) hx hb d_By_put_25 rfl ?_
    have c26 : ¬ (t_length < 0 ∨ 8000 ≤ t_length.toNatClampNeg) := by intro z; rw [if_pos z] at hf; simp only [jb_none, jl_b_none, jm_none, reduceCtorEq] at hf
    rw [if_neg c26] at hf
    refine va_bast hx hb hK hP hD hS 1 1 rfl rfl c26 d_By_put_26 (fun H locs hP hD hS => ?_)
    have hP : va_P (dC, dI) vwCl [(h_t, .inr (0, [.ref h_t_row, .int t_length, .int t_overrun])), (h_t_row, .inl (cB, 8000, .inl (upd t_row t_length.toNatClampNeg (vp_nar .byte (a1.toInt8.toInt32)))))] H := hP
    have hD : va_D A [(h_t, .inr (0, [.ref h_t_row, .int t_length, .int t_overrun])), (h_t_row, .inl (cB, 8000, .inl (upd t_row t_length.toNatClampNeg (vp_nar .byte (a1.toInt8.toInt32)))))] := hD
    refine lv_aload_n hx hb d_By_put_27 rfl (lv_at hl 0 rfl) ?_
    refine lv_dup hx hb d_By_put_28 rfl ?_
    refine va_get (D := (dC, dI)) (ci := 0) (v := .int t_length) (C := R_By) (T := T_By) (N := 3) hx hb hts (fun w h => List.mem_cons_of_mem _ (in_By w h)) hown hK hP 0 rfl rfl 1 (by decide) (hts _ (List.mem_cons_of_mem _ jw29)) (fun _ h9 => h9) rfl d_By_put_29 ?_
    refine lv_iconst (v := (1 : Int32)) hx hb d_By_put_32 (by decide) ?_
    refine lv_iadd hx hb d_By_put_33 ?_
    refine va_put (D := (dC, dI)) (ci := 0) (v := .int (t_length + (1 : Int32))) (ty := .int) (C := R_By) (T := T_By) (N := 3) hx hb hts (fun w h => List.mem_cons_of_mem _ (in_By w h)) ty_By tyok_By nm_By hown hK hP hD hS 0 rfl rfl 1 (by decide) (hts _ (List.mem_cons_of_mem _ jw29)) (fun _ h9 => h9) rfl (by decide +kernel) rfl rfl (Nat.le_of_ble_eq_true rfl) d_By_put_34 (fun H locs hP hD hS => ?_)
    have hP : va_P (dC, dI) vwCl [(h_t, .inr (0, [.ref h_t_row, .int (t_length + (1 : Int32)), .int t_overrun])), (h_t_row, .inl (cB, 8000, .inl (upd t_row t_length.toNatClampNeg (vp_nar .byte (a1.toInt8.toInt32)))))] H := hP
    have hD : va_D A [(h_t, .inr (0, [.ref h_t_row, .int (t_length + (1 : Int32)), .int t_overrun])), (h_t_row, .inl (cB, 8000, .inl (upd t_row t_length.toNatClampNeg (vp_nar .byte (a1.toInt8.toInt32)))))] := hD
    have hf : (some ((upd t_row t_length.toNatClampNeg (vp_nar .byte (a1.toInt8.toInt32))), (t_length + (1 : Int32)), t_overrun) : Option ((Nat → Int32) × Int32 × Int32)) = some o := hf
    rw [hQ, ← Option.some.inj hf]
    exact jVret hx hb hr hlocks d_By_put_37 (fun _ => 0) hS hP hD
  · rw [if_neg c7] at hf
    refine lv_aload_n hx hb d_By_put_10 rfl (lv_at hl 0 rfl) ?_
    refine lv_iconst (v := (1 : Int32)) hx hb d_By_put_11 (by decide) ?_
    refine va_put (D := (dC, dI)) (ci := 0) (v := .int (1 : Int32)) (ty := .boolean) (C := R_By) (T := T_By) (N := 3) hx hb hts (fun w h => List.mem_cons_of_mem _ (in_By w h)) ty_By tyok_By nm_By hown hK hP hD hS 0 rfl rfl 2 (by decide) (hts _ (List.mem_cons_of_mem _ jw30)) (fun _ h9 => h9) rfl (by decide +kernel) (by decide +kernel) (by decide +kernel) (Nat.le_of_ble_eq_true rfl) d_By_put_12 (fun H locs hP hD hS => ?_)
    have hP : va_P (dC, dI) vwCl [(h_t, .inr (0, [.ref h_t_row, .int t_length, .int (1 : Int32)])), (h_t_row, .inl (cB, 8000, .inl t_row))] H := hP
    have hD : va_D A [(h_t, .inr (0, [.ref h_t_row, .int t_length, .int (1 : Int32)])), (h_t_row, .inl (cB, 8000, .inl t_row))] := hD
    have hf : (some (t_row, t_length, (1 : Int32)) : Option ((Nat → Int32) × Int32 × Int32)) = some o := hf
    rw [hQ, ← Option.some.inj hf]
    exact jVret hx hb hr hlocks d_By_put_15 (fun _ => 0) hS hP hD
theorem d_By_putFour_0 : decode b_By_putFour 0 = .ok (.aload_n 0, 1) := by decide +kernel
theorem d_By_putFour_1 : decode b_By_putFour 1 = .ok (.iload_n 1, 1) := by decide +kernel
theorem d_By_putFour_2 : decode b_By_putFour 2 = .ok (.bipush 24, 2) := by decide +kernel
theorem d_By_putFour_4 : decode b_By_putFour 4 = .ok (.iushr, 1) := by decide +kernel
theorem d_By_putFour_5 : decode b_By_putFour 5 = .ok (.invokevirtual 23, 3) := by decide +kernel
theorem d_By_putFour_8 : decode b_By_putFour 8 = .ok (.aload_n 0, 1) := by decide +kernel
theorem d_By_putFour_9 : decode b_By_putFour 9 = .ok (.iload_n 1, 1) := by decide +kernel
theorem d_By_putFour_10 : decode b_By_putFour 10 = .ok (.bipush 16, 2) := by decide +kernel
theorem d_By_putFour_12 : decode b_By_putFour 12 = .ok (.iushr, 1) := by decide +kernel
theorem d_By_putFour_13 : decode b_By_putFour 13 = .ok (.invokevirtual 23, 3) := by decide +kernel
theorem d_By_putFour_16 : decode b_By_putFour 16 = .ok (.aload_n 0, 1) := by decide +kernel
theorem d_By_putFour_17 : decode b_By_putFour 17 = .ok (.iload_n 1, 1) := by decide +kernel
theorem d_By_putFour_18 : decode b_By_putFour 18 = .ok (.bipush 8, 2) := by decide +kernel
theorem d_By_putFour_20 : decode b_By_putFour 20 = .ok (.iushr, 1) := by decide +kernel
theorem d_By_putFour_21 : decode b_By_putFour 21 = .ok (.invokevirtual 23, 3) := by decide +kernel
theorem d_By_putFour_24 : decode b_By_putFour 24 = .ok (.aload_n 0, 1) := by decide +kernel
theorem d_By_putFour_25 : decode b_By_putFour 25 = .ok (.iload_n 1, 1) := by decide +kernel
theorem d_By_putFour_26 : decode b_By_putFour 26 = .ok (.invokevirtual 23, 3) := by decide +kernel
theorem d_By_putFour_29 : decode b_By_putFour 29 = .ok (.return_, 1) := by decide +kernel
noncomputable def f_By_putFour  (t_row : (Nat → Int32)) (t_length : Int32) (t_overrun : Int32) (a1 : Int32) : Option ((Nat → Int32) × Int32 × Int32) := jb (f_By_put t_row t_length t_overrun (jush a1 (24 : Int32))) (fun o9 => jb (f_By_put o9.1 o9.2.1 o9.2.2 (jush a1 (16 : Int32))) (fun o11 => jb (f_By_put o11.1 o11.2.1 o11.2.2 (jush a1 (8 : Int32))) (fun o13 => jb (f_By_put o13.1 o13.2.1 o13.2.2 a1) (fun o15 => some (o15.1, o15.2.1, o15.2.2)))))
set_option maxHeartbeats 4000000 in
set_option maxRecDepth 100000 in
theorem c_By_putFour {l : Launch} {dC : Nat → ClassId} {dI : Nat → Nat → Nat} {cI cB cS : ClassId} {adK adV adR : Nat → Nat} (h_t h_t_row : Nat) (t_row : (Nat → Int32)) (t_length : Int32) (t_overrun : Int32) (a1 : Int32) {o : ((Nat → Int32) × Int32 × Int32)} (hf : f_By_putFour t_row t_length t_overrun a1 = some o) : jMet l dC dI cI cB cS adK adV adR y_By_putFour wd_By_putFour { frames := 1, cells := 0, slots := 0, locals := 21 } [.ref h_t, .int a1] [(h_t, .inr (0, [.ref h_t_row, .int t_length, .int t_overrun])), (h_t_row, .inl (cB, 8000, .inl t_row))] (none) (fun q => [(h_t, .inr (0, [.ref h_t_row, .int o.2.1, .int o.2.2])), (h_t_row, .inl (cB, 8000, .inl o.1))]) 0 0 := by
  refine jEntry (cc := b_By_putFour) (maxL := 2) (ret := none) (by decide) rfl (Nat.le_of_ble_eq_true rfl) rfl (fun p e s m args below meth c A H locs ls Q hQ hx hb hr hml hown hts hlocks hnm hJ hA hP hD hS hl => ?_)
  have hK := hJ.K
  have hl : lv_has ls 2 [(0, .ref h_t), (1, .int a1)] := hl
  unfold f_By_putFour at hf
  refine lv_aload_n hx hb d_By_putFour_0 rfl (lv_at hl 0 rfl) ?_
  refine lv_iload_n hx hb d_By_putFour_1 rfl (lv_at hl 1 rfl) ?_
  refine lv_bipush (v := (24 : Int32)) hx hb d_By_putFour_2 (by decide) ?_
  refine lv_iushr (v := jush a1 (24 : Int32)) hx hb d_By_putFour_4 rfl ?_
  obtain ⟨o17, ho17⟩ : ∃ z, f_By_put t_row t_length t_overrun (jush a1 (24 : Int32)) = some z := by
    cases hz : f_By_put t_row t_length t_overrun (jush a1 (24 : Int32)) with
    | none => rw [hz] at hf; simp only [jb_none, jl_b_none, jm_none, reduceCtorEq] at hf
    | some z => exact ⟨z, rfl⟩
  rw [ho17, jb_some] at hf
  refine jCallV (As := [.int (jush a1 (24 : Int32))]) (rest := []) (wr := []) ⟨hx, hb, hml, hown, hts⟩ hJ (c_By_put h_t h_t_row t_row t_length t_overrun (jush a1 (24 : Int32)) ho17) (cwV 1 hts (jgV jw31 jw34 jw35 jw33 jw32) rfl rfl rfl dd_By_put ⟨Nat.le_of_ble_eq_true rfl, Nat.le_of_ble_eq_true rfl⟩) hP hD hS hA (va_recv hK hP (ci := 0) (q0 := 0) rfl rfl) [0, 1] [] rfl rfl (by decide) (by decide) (by decide) rfl hl.1 rfl (Nat.le_of_ble_eq_true rfl) d_By_putFour_5 ⟨Nat.le_of_ble_eq_true rfl, Nat.le_of_ble_eq_true rfl⟩ (fun qz18 H locs hP hD hS => ?_)
  have hP : va_P (dC, dI) vwCl [(h_t, .inr (0, [.ref h_t_row, .int o17.2.1, .int o17.2.2])), (h_t_row, .inl (cB, 8000, .inl o17.1))] H := hP
  have hD : va_D A [(h_t, .inr (0, [.ref h_t_row, .int o17.2.1, .int o17.2.2])), (h_t_row, .inl (cB, 8000, .inl o17.1))] := hD
  refine lv_aload_n hx hb d_By_putFour_8 rfl (lv_at hl 0 rfl) ?_
  refine lv_iload_n hx hb d_By_putFour_9 rfl (lv_at hl 1 rfl) ?_
  refine lv_bipush (v := (16 : Int32)) hx hb d_By_putFour_10 (by decide) ?_
  refine lv_iushr (v := jush a1 (16 : Int32)) hx hb d_By_putFour_12 rfl ?_
  obtain ⟨o19, ho19⟩ : ∃ z, f_By_put o17.1 o17.2.1 o17.2.2 (jush a1 (16 : Int32)) = some z := by
    cases hz : f_By_put o17.1 o17.2.1 o17.2.2 (jush a1 (16 : Int32)) with
    | none => rw [hz] at hf; simp only [jb_none, jl_b_none, jm_none, reduceCtorEq] at hf
    | some z => exact ⟨z, rfl⟩
  rw [ho19, jb_some] at hf
  refine jCallV (As := [.int (jush a1 (16 : Int32))]) (rest := []) (wr := []) ⟨hx, hb, hml, hown, hts⟩ hJ (c_By_put h_t h_t_row o17.1 o17.2.1 o17.2.2 (jush a1 (16 : Int32)) ho19) (cwV 1 hts (jgV jw31 jw34 jw35 jw33 jw32) rfl rfl rfl dd_By_put ⟨Nat.le_of_ble_eq_true rfl, Nat.le_of_ble_eq_true rfl⟩) hP hD hS hA (va_recv hK hP (ci := 0) (q0 := 0) rfl rfl) [0, 1] [] rfl rfl (by decide) (by decide) (by decide) rfl hl.1 rfl (Nat.le_of_ble_eq_true rfl) d_By_putFour_13 ⟨Nat.le_of_ble_eq_true rfl, Nat.le_of_ble_eq_true rfl⟩ (fun qz20 H locs hP hD hS => ?_)
  have hP : va_P (dC, dI) vwCl [(h_t, .inr (0, [.ref h_t_row, .int o19.2.1, .int o19.2.2])), (h_t_row, .inl (cB, 8000, .inl o19.1))] H := hP
  have hD : va_D A [(h_t, .inr (0, [.ref h_t_row, .int o19.2.1, .int o19.2.2])), (h_t_row, .inl (cB, 8000, .inl o19.1))] := hD
  refine lv_aload_n hx hb d_By_putFour_16 rfl (lv_at hl 0 rfl) ?_
  refine lv_iload_n hx hb d_By_putFour_17 rfl (lv_at hl 1 rfl) ?_
  refine lv_bipush (v := (8 : Int32)) hx hb d_By_putFour_18 (by decide) ?_
  refine lv_iushr (v := jush a1 (8 : Int32)) hx hb d_By_putFour_20 rfl ?_
  obtain ⟨o21, ho21⟩ : ∃ z, f_By_put o19.1 o19.2.1 o19.2.2 (jush a1 (8 : Int32)) = some z := by
    cases hz : f_By_put o19.1 o19.2.1 o19.2.2 (jush a1 (8 : Int32)) with
    | none => rw [hz] at hf; simp only [jb_none, jl_b_none, jm_none, reduceCtorEq] at hf
    | some z => exact ⟨z, rfl⟩
  rw [ho21, jb_some] at hf
  refine jCallV (As := [.int (jush a1 (8 : Int32))]) (rest := []) (wr := []) ⟨hx, hb, hml, hown, hts⟩ hJ (c_By_put h_t h_t_row o19.1 o19.2.1 o19.2.2 (jush a1 (8 : Int32)) ho21) (cwV 1 hts (jgV jw31 jw34 jw35 jw33 jw32) rfl rfl rfl dd_By_put ⟨Nat.le_of_ble_eq_true rfl, Nat.le_of_ble_eq_true rfl⟩) hP hD hS hA (va_recv hK hP (ci := 0) (q0 := 0) rfl rfl) [0, 1] [] rfl rfl (by decide) (by decide) (by decide) rfl hl.1 rfl (Nat.le_of_ble_eq_true rfl) d_By_putFour_21 ⟨Nat.le_of_ble_eq_true rfl, Nat.le_of_ble_eq_true rfl⟩ (fun qz22 H locs hP hD hS => ?_)
  have hP : va_P (dC, dI) vwCl [(h_t, .inr (0, [.ref h_t_row, .int o21.2.1, .int o21.2.2])), (h_t_row, .inl (cB, 8000, .inl o21.1))] H := hP
  have hD : va_D A [(h_t, .inr (0, [.ref h_t_row, .int o21.2.1, .int o21.2.2])), (h_t_row, .inl (cB, 8000, .inl o21.1))] := hD
  refine lv_aload_n hx hb d_By_putFour_24 rfl (lv_at hl 0 rfl) ?_
  refine lv_iload_n hx hb d_By_putFour_25 rfl (lv_at hl 1 rfl) ?_
  obtain ⟨o23, ho23⟩ : ∃ z, f_By_put o21.1 o21.2.1 o21.2.2 a1 = some z := by
    cases hz : f_By_put o21.1 o21.2.1 o21.2.2 a1 with
    | none => rw [hz] at hf; simp only [jb_none, jl_b_none, jm_none, reduceCtorEq] at hf
    | some z => exact ⟨z, rfl⟩
  rw [ho23, jb_some] at hf
  refine jCallV (As := [.int a1]) (rest := []) (wr := []) ⟨hx, hb, hml, hown, hts⟩ hJ (c_By_put h_t h_t_row o21.1 o21.2.1 o21.2.2 a1 ho23) (cwV 1 hts (jgV jw31 jw34 jw35 jw33 jw32) rfl rfl rfl dd_By_put ⟨Nat.le_of_ble_eq_true rfl, Nat.le_of_ble_eq_true rfl⟩) hP hD hS hA (va_recv hK hP (ci := 0) (q0 := 0) rfl rfl) [0, 1] [] rfl rfl (by decide) (by decide) (by decide) rfl hl.1 rfl (Nat.le_of_ble_eq_true rfl) d_By_putFour_26 ⟨Nat.le_of_ble_eq_true rfl, Nat.le_of_ble_eq_true rfl⟩ (fun qz24 H locs hP hD hS => ?_)
  have hP : va_P (dC, dI) vwCl [(h_t, .inr (0, [.ref h_t_row, .int o23.2.1, .int o23.2.2])), (h_t_row, .inl (cB, 8000, .inl o23.1))] H := hP
  have hD : va_D A [(h_t, .inr (0, [.ref h_t_row, .int o23.2.1, .int o23.2.2])), (h_t_row, .inl (cB, 8000, .inl o23.1))] := hD
  have hf : (some (o23.1, o23.2.1, o23.2.2) : Option ((Nat → Int32) × Int32 × Int32)) = some o := hf
  rw [hQ, ← Option.some.inj hf]
  exact jVret hx hb hr hlocks d_By_putFour_29 (fun _ => 0) hS hP hD
theorem d_By_at_0 : decode b_By_at 0 = .ok (.iload_n 1, 1) := by decide +kernel
theorem d_By_at_1 : decode b_By_at 1 = .ok (.ifCond .lt 24, 3) := by decide +kernel
theorem d_By_at_4 : decode b_By_at 4 = .ok (.iload_n 1, 1) := by decide +kernel
theorem d_By_at_5 : decode b_By_at 5 = .ok (.aload_n 0, 1) := by decide +kernel
theorem d_By_at_6 : decode b_By_at 6 = .ok (.getfield 15, 3) := by decide +kernel
theorem d_By_at_9 : decode b_By_at 9 = .ok (.if_icmp .ge 16, 3) := by decide +kernel
theorem d_By_at_12 : decode b_By_at 12 = .ok (.aload_n 0, 1) := by decide +kernel
theorem d_By_at_13 : decode b_By_at 13 = .ok (.getfield 9, 3) := by decide +kernel
theorem d_By_at_16 : decode b_By_at 16 = .ok (.iload_n 1, 1) := by decide +kernel
theorem d_By_at_17 : decode b_By_at 17 = .ok (.baload, 1) := by decide +kernel
theorem d_By_at_18 : decode b_By_at 18 = .ok (.sipush 255, 3) := by decide +kernel
theorem d_By_at_21 : decode b_By_at 21 = .ok (.iand, 1) := by decide +kernel
theorem d_By_at_22 : decode b_By_at 22 = .ok (.goto 4, 3) := by decide +kernel
theorem d_By_at_25 : decode b_By_at 25 = .ok (.iconst (-1), 1) := by decide +kernel
theorem d_By_at_26 : decode b_By_at 26 = .ok (.ireturn, 1) := by decide +kernel
noncomputable def By_at_b25 (t_row : (Nat → Int32)) (t_length : Int32)  : Option Int32 := some (-1 : Int32)
noncomputable def f_By_at (t_row : (Nat → Int32)) (t_length : Int32)  (a1 : Int32) : Option Int32 := if a1 < 0 then (By_at_b25 t_row t_length) else (if t_length ≤ a1 then (By_at_b25 t_row t_length) else (if a1 < 0 ∨ 8000 ≤ a1.toNatClampNeg then none else (some ((t_row a1.toNatClampNeg) &&& (255 : Int32)))))
set_option maxHeartbeats 4000000 in
set_option maxRecDepth 100000 in
theorem c_By_at {l : Launch} {dC : Nat → ClassId} {dI : Nat → Nat → Nat} {cI cB cS : ClassId} {adK adV adR : Nat → Nat} (h_t h_t_row : Nat) (t_row : (Nat → Int32)) (t_length : Int32) (t_overrun : Int32) (a1 : Int32) {o : Int32} (hf : f_By_at t_row t_length a1 = some o) : jMet l dC dI cI cB cS adK adV adR y_By_at wd_By_at { frames := 0, cells := 0, slots := 0, locals := 0 } [.ref h_t, .int a1] [(h_t, .inr (0, [.ref h_t_row, .int t_length, .int t_overrun])), (h_t_row, .inl (cB, 8000, .inl t_row))] (some (.int o)) (fun q => [(h_t, .inr (0, [.ref h_t_row, .int t_length, .int t_overrun])), (h_t_row, .inl (cB, 8000, .inl t_row))]) 0 0 := by
  refine jEntry (cc := b_By_at) (maxL := 2) (ret := (some .int)) (by decide) rfl (Nat.le_of_ble_eq_true rfl) rfl (fun p e s m args below meth c A H locs ls Q hQ hx hb hr hml hown hts hlocks hnm hJ hA hP hD hS hl => ?_)
  have hK := hJ.K
  have hl : lv_has ls 2 [(0, .ref h_t), (1, .int a1)] := hl
  have B25 : ∀  (H : Heap) (locs : List Loc) (ls : Array Slot), By_at_b25 t_row t_length = some o → va_P (dC, dI) vwCl [(h_t, .inr (0, [.ref h_t_row, .int t_length, .int t_overrun])), (h_t_row, .inl (cB, 8000, .inl t_row))] H → va_D A [(h_t, .inr (0, [.ref h_t_row, .int t_length, .int t_overrun])), (h_t_row, .inl (cB, 8000, .inl t_row))] → va_S A s.heap H locs → lv_has ls 2 [] → W p l e { frames := 0, cells := 0, slots := 0, locals := 0 } s m args below meth c H locs 0 0 Q (F0 m 25 ls []) := by
    intro  H locs ls hf hP hD hS hl
    unfold By_at_b25 at hf
    refine lv_iconst (v := (-1 : Int32)) hx hb d_By_at_25 (by decide) ?_
    have hf : (some (-1 : Int32) : Option Int32) = some o := hf
    rw [hQ, ← Option.some.inj hf]
    exact jIret hx hb hr hlocks d_By_at_26 (fun _ => 0) hS hP hD
  unfold f_By_at at hf
  refine lv_iload_n hx hb d_By_at_0 rfl (lv_at hl 1 rfl) ?_
  refine lv_if_lt (tgt := 25) hx hb d_By_at_1 (by decide) (fun c1 => ?_) (fun c1 => ?_)
  · rw [if_pos c1] at hf
    exact B25  H locs ls hf hP hD hS (lv_sub hl [] rfl)
  · rw [if_neg c1] at hf
    refine lv_iload_n hx hb d_By_at_4 rfl (lv_at hl 1 rfl) ?_
    refine lv_aload_n hx hb d_By_at_5 rfl (lv_at hl 0 rfl) ?_
    refine va_get (D := (dC, dI)) (ci := 0) (v := .int t_length) (C := R_By) (T := T_By) (N := 3) hx hb hts (fun w h => List.mem_cons_of_mem _ (in_By w h)) hown hK hP 0 rfl rfl 1 (by decide) (hts _ (List.mem_cons_of_mem _ jw29)) (fun _ h9 => h9) rfl d_By_at_6 ?_
    refine lv_icmp_ge (tgt := 25) hx hb d_By_at_9 (by decide) (fun c9 => ?_) (fun c9 => ?_)
    · rw [if_pos c9] at hf
      exact B25  H locs ls hf hP hD hS (lv_sub hl [] rfl)
    · rw [if_neg c9] at hf
      refine lv_aload_n hx hb d_By_at_12 rfl (lv_at hl 0 rfl) ?_
      refine va_get (D := (dC, dI)) (ci := 0) (v := .ref h_t_row) (C := R_By) (T := T_By) (N := 3) hx hb hts (fun w h => List.mem_cons_of_mem _ (in_By w h)) hown hK hP 0 rfl rfl 0 (by decide) (hts _ (List.mem_cons_of_mem _ jw28)) (fun _ h9 => h9) rfl d_By_at_13 ?_
      refine lv_iload_n hx hb d_By_at_16 rfl (lv_at hl 1 rfl) ?_
      have c17 : ¬ (a1 < 0 ∨ 8000 ≤ a1.toNatClampNeg) := by intro z; rw [if_pos z] at hf; simp only [jb_none, jl_b_none, jm_none, reduceCtorEq] at hf
      rw [if_neg c17] at hf
      refine va_bald hx hb hK hP 1 1 rfl rfl c17 d_By_at_17 ?_
      refine lv_sipush (v := (255 : Int32)) hx hb d_By_at_18 (by decide) ?_
      refine lv_iand hx hb d_By_at_21 ?_
      refine lv_goto (tgt := 26) hx hb d_By_at_22 (by decide) ?_
      have hf : (some ((t_row a1.toNatClampNeg) &&& (255 : Int32)) : Option Int32) = some o := hf
      rw [hQ, ← Option.some.inj hf]
      exact jIret hx hb hr hlocks d_By_at_26 (fun _ => 0) hS hP hD
theorem d_By_copy_0 : decode b_By_copy 0 = .ok (.aload_n 1, 1) := by decide +kernel
theorem d_By_copy_1 : decode b_By_copy 1 = .ok (.getfield 9, 3) := by decide +kernel
theorem d_By_copy_4 : decode b_By_copy 4 = .ok (.iconst 0, 1) := by decide +kernel
theorem d_By_copy_5 : decode b_By_copy 5 = .ok (.aload_n 0, 1) := by decide +kernel
theorem d_By_copy_6 : decode b_By_copy 6 = .ok (.getfield 9, 3) := by decide +kernel
theorem d_By_copy_9 : decode b_By_copy 9 = .ok (.iconst 0, 1) := by decide +kernel
theorem d_By_copy_10 : decode b_By_copy 10 = .ok (.aload_n 1, 1) := by decide +kernel
theorem d_By_copy_11 : decode b_By_copy 11 = .ok (.getfield 15, 3) := by decide +kernel
theorem d_By_copy_14 : decode b_By_copy 14 = .ok (.invokestatic 27, 3) := by decide +kernel
theorem d_By_copy_17 : decode b_By_copy 17 = .ok (.aload_n 0, 1) := by decide +kernel
theorem d_By_copy_18 : decode b_By_copy 18 = .ok (.aload_n 1, 1) := by decide +kernel
theorem d_By_copy_19 : decode b_By_copy 19 = .ok (.getfield 15, 3) := by decide +kernel
theorem d_By_copy_22 : decode b_By_copy 22 = .ok (.putfield 15, 3) := by decide +kernel
theorem d_By_copy_25 : decode b_By_copy 25 = .ok (.aload_n 0, 1) := by decide +kernel
theorem d_By_copy_26 : decode b_By_copy 26 = .ok (.iconst 0, 1) := by decide +kernel
theorem d_By_copy_27 : decode b_By_copy 27 = .ok (.putfield 19, 3) := by decide +kernel
theorem d_By_copy_30 : decode b_By_copy 30 = .ok (.return_, 1) := by decide +kernel
noncomputable def f_By_copy (p1_row : (Nat → Int32)) (p1_length : Int32) (t_row : (Nat → Int32)) (t_length : Int32) (t_overrun : Int32)  : Option ((Nat → Int32) × Int32 × Int32) := if (0 : Int32) < 0 ∨ (0 : Int32) < 0 ∨ p1_length < 0 ∨ 8000 < (0 : Int32).toNatClampNeg + p1_length.toNatClampNeg ∨ 8000 < (0 : Int32).toNatClampNeg + p1_length.toNatClampNeg then none else (@ite _ (∀ i, i < p1_length.toNatClampNeg → fits .byte (.int (p1_row ((0 : Int32).toNatClampNeg + i))) = true) (Classical.propDecidable _) (some ((va_cpy p1_row t_row (0 : Int32).toNatClampNeg (0 : Int32).toNatClampNeg p1_length.toNatClampNeg), p1_length, (0 : Int32))) none)
set_option maxHeartbeats 4000000 in
set_option maxRecDepth 100000 in
theorem c_By_copy {l : Launch} {dC : Nat → ClassId} {dI : Nat → Nat → Nat} {cI cB cS : ClassId} {adK adV adR : Nat → Nat} (h_t h_t_row h_p1 h_p1_row : Nat) (t_row : (Nat → Int32)) (t_length : Int32) (t_overrun : Int32) (p1_row : (Nat → Int32)) (p1_length : Int32) (p1_overrun : Int32)  {o : ((Nat → Int32) × Int32 × Int32)} (hf : f_By_copy p1_row p1_length t_row t_length t_overrun = some o) : jMet l dC dI cI cB cS adK adV adR y_By_copy wd_By_copy { frames := 1, cells := 0, slots := 0, locals := 30 } [.ref h_t, .ref h_p1] [(h_t, .inr (0, [.ref h_t_row, .int t_length, .int t_overrun])), (h_t_row, .inl (cB, 8000, .inl t_row)), (h_p1, .inr (0, [.ref h_p1_row, .int p1_length, .int p1_overrun])), (h_p1_row, .inl (cB, 8000, .inl p1_row))] (none) (fun q => [(h_t, .inr (0, [.ref h_t_row, .int o.2.1, .int o.2.2])), (h_t_row, .inl (cB, 8000, .inl o.1)), (h_p1, .inr (0, [.ref h_p1_row, .int p1_length, .int p1_overrun])), (h_p1_row, .inl (cB, 8000, .inl p1_row))]) 0 0 := by
  refine jEntry (cc := b_By_copy) (maxL := 2) (ret := none) (by decide) rfl (Nat.le_of_ble_eq_true rfl) rfl (fun p e s m args below meth c A H locs ls Q hQ hx hb hr hml hown hts hlocks hnm hJ hA hP hD hS hl => ?_)
  have hK := hJ.K
  have hl : lv_has ls 2 [(0, .ref h_t), (1, .ref h_p1)] := hl
  unfold f_By_copy at hf
  refine lv_aload_n hx hb d_By_copy_0 rfl (lv_at hl 1 rfl) ?_
  refine va_get (D := (dC, dI)) (ci := 0) (v := .ref h_p1_row) (C := R_By) (T := T_By) (N := 3) hx hb hts (fun w h => List.mem_cons_of_mem _ (in_By w h)) hown hK hP 2 rfl rfl 0 (by decide) (hts _ (List.mem_cons_of_mem _ jw28)) (fun _ h9 => h9) rfl d_By_copy_1 ?_
  refine lv_iconst (v := (0 : Int32)) hx hb d_By_copy_4 (by decide) ?_
  refine lv_aload_n hx hb d_By_copy_5 rfl (lv_at hl 0 rfl) ?_
  refine va_get (D := (dC, dI)) (ci := 0) (v := .ref h_t_row) (C := R_By) (T := T_By) (N := 3) hx hb hts (fun w h => List.mem_cons_of_mem _ (in_By w h)) hown hK hP 0 rfl rfl 0 (by decide) (hts _ (List.mem_cons_of_mem _ jw28)) (fun _ h9 => h9) rfl d_By_copy_6 ?_
  refine lv_iconst (v := (0 : Int32)) hx hb d_By_copy_9 (by decide) ?_
  refine lv_aload_n hx hb d_By_copy_10 rfl (lv_at hl 1 rfl) ?_
  refine va_get (D := (dC, dI)) (ci := 0) (v := .int p1_length) (C := R_By) (T := T_By) (N := 3) hx hb hts (fun w h => List.mem_cons_of_mem _ (in_By w h)) hown hK hP 2 rfl rfl 1 (by decide) (hts _ (List.mem_cons_of_mem _ jw29)) (fun _ h9 => h9) rfl d_By_copy_11 ?_
  have c14 : ¬ ((0 : Int32) < 0 ∨ (0 : Int32) < 0 ∨ p1_length < 0 ∨ 8000 < (0 : Int32).toNatClampNeg + p1_length.toNatClampNeg ∨ 8000 < (0 : Int32).toNatClampNeg + p1_length.toNatClampNeg) := by intro z; rw [if_pos z] at hf; simp only [jb_none, jl_b_none, jm_none, reduceCtorEq] at hf
  rw [if_neg c14] at hf
  have c14f : ∀ i, i < p1_length.toNatClampNeg → fits .byte (.int (p1_row ((0 : Int32).toNatClampNeg + i))) = true := by apply Classical.byContradiction; intro z; rw [if_neg z] at hf; simp only [jb_none, jl_b_none, jm_none, reduceCtorEq] at hf
  rw [if_pos c14f] at hf
  refine va_copyi (ty := .byte) hx hb (by rw [hml]; exact hl.1.symm) hown (hts _ (List.mem_cons_of_mem _ jw36)) (hts _ (List.mem_cons_of_mem _ jw37)) (hts _ (List.mem_cons_of_mem _ jw38)) (hts _ (List.mem_cons_of_mem _ jw39)) hK hP hD hS 3 1 1 1 rfl rfl rfl rfl rfl (fun z => c14 (Or.inl z)) (fun z => c14 (Or.inr (Or.inl z))) (fun z => c14 (Or.inr (Or.inr (Or.inl z)))) (Nat.not_lt.mp fun z => c14 (Or.inr (Or.inr (Or.inr (Or.inl z))))) (Nat.not_lt.mp fun z => c14 (Or.inr (Or.inr (Or.inr (Or.inr z))))) c14f (Nat.le_of_ble_eq_true rfl) (Nat.le_of_ble_eq_true rfl) d_By_copy_14 (fun H locs hP hD hS => ?_)
  have hP : va_P (dC, dI) vwCl [(h_t, .inr (0, [.ref h_t_row, .int t_length, .int t_overrun])), (h_t_row, .inl (cB, 8000, .inl (va_cpy p1_row t_row (0 : Int32).toNatClampNeg (0 : Int32).toNatClampNeg p1_length.toNatClampNeg))), (h_p1, .inr (0, [.ref h_p1_row, .int p1_length, .int p1_overrun])), (h_p1_row, .inl (cB, 8000, .inl p1_row))] H := hP
  have hD : va_D A [(h_t, .inr (0, [.ref h_t_row, .int t_length, .int t_overrun])), (h_t_row, .inl (cB, 8000, .inl (va_cpy p1_row t_row (0 : Int32).toNatClampNeg (0 : Int32).toNatClampNeg p1_length.toNatClampNeg))), (h_p1, .inr (0, [.ref h_p1_row, .int p1_length, .int p1_overrun])), (h_p1_row, .inl (cB, 8000, .inl p1_row))] := hD
  refine lv_aload_n hx hb d_By_copy_17 rfl (lv_at hl 0 rfl) ?_
  refine lv_aload_n hx hb d_By_copy_18 rfl (lv_at hl 1 rfl) ?_
  refine va_get (D := (dC, dI)) (ci := 0) (v := .int p1_length) (C := R_By) (T := T_By) (N := 3) hx hb hts (fun w h => List.mem_cons_of_mem _ (in_By w h)) hown hK hP 2 rfl rfl 1 (by decide) (hts _ (List.mem_cons_of_mem _ jw29)) (fun _ h9 => h9) rfl d_By_copy_19 ?_
  refine va_put (D := (dC, dI)) (ci := 0) (v := .int p1_length) (ty := .int) (C := R_By) (T := T_By) (N := 3) hx hb hts (fun w h => List.mem_cons_of_mem _ (in_By w h)) ty_By tyok_By nm_By hown hK hP hD hS 0 rfl rfl 1 (by decide) (hts _ (List.mem_cons_of_mem _ jw29)) (fun _ h9 => h9) rfl (by decide +kernel) rfl rfl (Nat.le_of_ble_eq_true rfl) d_By_copy_22 (fun H locs hP hD hS => ?_)
  have hP : va_P (dC, dI) vwCl [(h_t, .inr (0, [.ref h_t_row, .int p1_length, .int t_overrun])), (h_t_row, .inl (cB, 8000, .inl (va_cpy p1_row t_row (0 : Int32).toNatClampNeg (0 : Int32).toNatClampNeg p1_length.toNatClampNeg))), (h_p1, .inr (0, [.ref h_p1_row, .int p1_length, .int p1_overrun])), (h_p1_row, .inl (cB, 8000, .inl p1_row))] H := hP
  have hD : va_D A [(h_t, .inr (0, [.ref h_t_row, .int p1_length, .int t_overrun])), (h_t_row, .inl (cB, 8000, .inl (va_cpy p1_row t_row (0 : Int32).toNatClampNeg (0 : Int32).toNatClampNeg p1_length.toNatClampNeg))), (h_p1, .inr (0, [.ref h_p1_row, .int p1_length, .int p1_overrun])), (h_p1_row, .inl (cB, 8000, .inl p1_row))] := hD
  refine lv_aload_n hx hb d_By_copy_25 rfl (lv_at hl 0 rfl) ?_
  refine lv_iconst (v := (0 : Int32)) hx hb d_By_copy_26 (by decide) ?_
  refine va_put (D := (dC, dI)) (ci := 0) (v := .int (0 : Int32)) (ty := .boolean) (C := R_By) (T := T_By) (N := 3) hx hb hts (fun w h => List.mem_cons_of_mem _ (in_By w h)) ty_By tyok_By nm_By hown hK hP hD hS 0 rfl rfl 2 (by decide) (hts _ (List.mem_cons_of_mem _ jw30)) (fun _ h9 => h9) rfl (by decide +kernel) (by decide +kernel) (by decide +kernel) (Nat.le_of_ble_eq_true rfl) d_By_copy_27 (fun H locs hP hD hS => ?_)
  have hP : va_P (dC, dI) vwCl [(h_t, .inr (0, [.ref h_t_row, .int p1_length, .int (0 : Int32)])), (h_t_row, .inl (cB, 8000, .inl (va_cpy p1_row t_row (0 : Int32).toNatClampNeg (0 : Int32).toNatClampNeg p1_length.toNatClampNeg))), (h_p1, .inr (0, [.ref h_p1_row, .int p1_length, .int p1_overrun])), (h_p1_row, .inl (cB, 8000, .inl p1_row))] H := hP
  have hD : va_D A [(h_t, .inr (0, [.ref h_t_row, .int p1_length, .int (0 : Int32)])), (h_t_row, .inl (cB, 8000, .inl (va_cpy p1_row t_row (0 : Int32).toNatClampNeg (0 : Int32).toNatClampNeg p1_length.toNatClampNeg))), (h_p1, .inr (0, [.ref h_p1_row, .int p1_length, .int p1_overrun])), (h_p1_row, .inl (cB, 8000, .inl p1_row))] := hD
  have hf : (some ((va_cpy p1_row t_row (0 : Int32).toNatClampNeg (0 : Int32).toNatClampNeg p1_length.toNatClampNeg), p1_length, (0 : Int32)) : Option ((Nat → Int32) × Int32 × Int32)) = some o := hf
  rw [hQ, ← Option.some.inj hf]
  exact jVret hx hb hr hlocks d_By_copy_30 (fun _ => 0) hS hP hD
