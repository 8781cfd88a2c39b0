theorem d_Ki_isOpenToTheRight_0 : decode b_Ki_isOpenToTheRight 0 = .ok (.iload_n 0, 1) := by decide +kernel
theorem d_Ki_isOpenToTheRight_1 : decode b_Ki_isOpenToTheRight 1 = .ok (.bipush 10, 2) := by decide +kernel
theorem d_Ki_isOpenToTheRight_3 : decode b_Ki_isOpenToTheRight 3 = .ok (.if_icmp .eq 21, 3) := by decide +kernel
theorem d_Ki_isOpenToTheRight_6 : decode b_Ki_isOpenToTheRight 6 = .ok (.iload_n 0, 1) := by decide +kernel
theorem d_Ki_isOpenToTheRight_7 : decode b_Ki_isOpenToTheRight 7 = .ok (.bipush 11, 2) := by decide +kernel
theorem d_Ki_isOpenToTheRight_9 : decode b_Ki_isOpenToTheRight 9 = .ok (.if_icmp .eq 15, 3) := by decide +kernel
theorem d_Ki_isOpenToTheRight_12 : decode b_Ki_isOpenToTheRight 12 = .ok (.iload_n 0, 1) := by decide +kernel
theorem d_Ki_isOpenToTheRight_13 : decode b_Ki_isOpenToTheRight 13 = .ok (.bipush 12, 2) := by decide +kernel
theorem d_Ki_isOpenToTheRight_15 : decode b_Ki_isOpenToTheRight 15 = .ok (.if_icmp .eq 9, 3) := by decide +kernel
theorem d_Ki_isOpenToTheRight_18 : decode b_Ki_isOpenToTheRight 18 = .ok (.iload_n 0, 1) := by decide +kernel
theorem d_Ki_isOpenToTheRight_19 : decode b_Ki_isOpenToTheRight 19 = .ok (.bipush 13, 2) := by decide +kernel
theorem d_Ki_isOpenToTheRight_21 : decode b_Ki_isOpenToTheRight 21 = .ok (.if_icmp .ne 7, 3) := by decide +kernel
theorem d_Ki_isOpenToTheRight_24 : decode b_Ki_isOpenToTheRight 24 = .ok (.iconst 1, 1) := by decide +kernel
theorem d_Ki_isOpenToTheRight_25 : decode b_Ki_isOpenToTheRight 25 = .ok (.goto 4, 3) := by decide +kernel
theorem d_Ki_isOpenToTheRight_28 : decode b_Ki_isOpenToTheRight 28 = .ok (.iconst 0, 1) := by decide +kernel
theorem d_Ki_isOpenToTheRight_29 : decode b_Ki_isOpenToTheRight 29 = .ok (.ireturn, 1) := by decide +kernel
noncomputable def Ki_isOpenToTheRight_b24   : Option Int32 := some (vp_nar .boolean (1 : Int32))
noncomputable def f_Ki_isOpenToTheRight   (a1 : Int32) : Option Int32 := if a1 = (10 : Int32) then (Ki_isOpenToTheRight_b24) else (if a1 = (11 : Int32) then (Ki_isOpenToTheRight_b24) else (if a1 = (12 : Int32) then (Ki_isOpenToTheRight_b24) else (if a1 = (13 : Int32) then (Ki_isOpenToTheRight_b24) else (some (vp_nar .boolean (0 : Int32))))))
set_option maxHeartbeats 4000000 in
set_option maxRecDepth 100000 in
theorem c_Ki_isOpenToTheRight {l : Launch} {dC : Nat → ClassId} {dI : Nat → Nat → Nat} {cI cB cS : ClassId} {adK adV adR : Nat → Nat}   (a1 : Int32) {o : Int32} (hf : f_Ki_isOpenToTheRight a1 = some o) : jMet l dC dI cI cB cS adK adV adR y_Ki_isOpenToTheRight wd_Ki_isOpenToTheRight { frames := 0, cells := 0, slots := 0, locals := 0 } [.int a1] [] (some (.int o)) (fun q => []) 0 0 := by
  refine jEntry (cc := b_Ki_isOpenToTheRight) (maxL := 1) (ret := (some .boolean)) (by decide) rfl (Nat.le_of_ble_eq_true rfl) rfl (fun p e s m args below meth c A H locs ls Q hQ hx hb hr hml hown hts hlocks hnm hJ hA hP hD hS hl => ?_)
  have hK := hJ.K
  have hl : lv_has ls 1 [(0, .int a1)] := hl
  have B24 : ∀  (H : Heap) (locs : List Loc) (ls : Array Slot), Ki_isOpenToTheRight_b24 = some o → va_P (dC, dI) vwCl [] H → va_D A [] → va_S A s.heap H locs → lv_has ls 1 [] → W p l e { frames := 0, cells := 0, slots := 0, locals := 0 } s m args below meth c H locs 0 0 Q (F0 m 24 ls []) := by
    intro  H locs ls hf hP hD hS hl
    unfold Ki_isOpenToTheRight_b24 at hf
    refine lv_iconst (v := (1 : Int32)) hx hb d_Ki_isOpenToTheRight_24 (by decide) ?_
    refine lv_goto (tgt := 29) hx hb d_Ki_isOpenToTheRight_25 (by decide) ?_
    have hf : (some (vp_nar .boolean (1 : Int32)) : Option Int32) = some o := hf
    rw [hQ, ← Option.some.inj hf]
    exact jNret hx hb hr rfl hlocks d_Ki_isOpenToTheRight_29 (fun _ => 0) hS hP hD
  unfold f_Ki_isOpenToTheRight at hf
  refine lv_iload_n hx hb d_Ki_isOpenToTheRight_0 rfl (lv_at hl 0 rfl) ?_
  refine lv_bipush (v := (10 : Int32)) hx hb d_Ki_isOpenToTheRight_1 (by decide) ?_
  refine lv_icmp_eq (tgt := 24) hx hb d_Ki_isOpenToTheRight_3 (by decide) (fun c3 => ?_) (fun c3 => ?_)
  · rw [if_pos c3] at hf
    exact B24  H locs ls hf hP hD hS (lv_sub hl [] rfl)
  · rw [if_neg c3] at hf
    refine lv_iload_n hx hb d_Ki_isOpenToTheRight_6 rfl (lv_at hl 0 rfl) ?_
    refine lv_bipush (v := (11 : Int32)) hx hb d_Ki_isOpenToTheRight_7 (by decide) ?_
    refine lv_icmp_eq (tgt := 24) hx hb d_Ki_isOpenToTheRight_9 (by decide) (fun c9 => ?_) (fun c9 => ?_)
    · rw [if_pos c9] at hf
      exact B24  H locs ls hf hP hD hS (lv_sub hl [] rfl)
    · rw [if_neg c9] at hf
      refine lv_iload_n hx hb d_Ki_isOpenToTheRight_12 rfl (lv_at hl 0 rfl) ?_
      refine lv_bipush (v := (12 : Int32)) hx hb d_Ki_isOpenToTheRight_13 (by decide) ?_
      refine lv_icmp_eq (tgt := 24) hx hb d_Ki_isOpenToTheRight_15 (by decide) (fun c15 => ?_) (fun c15 => ?_)
      · rw [if_pos c15] at hf
        exact B24  H locs ls hf hP hD hS (lv_sub hl [] rfl)
      · rw [if_neg c15] at hf
        refine lv_iload_n hx hb d_Ki_isOpenToTheRight_18 rfl (lv_at hl 0 rfl) ?_
        refine lv_bipush (v := (13 : Int32)) hx hb d_Ki_isOpenToTheRight_19 (by decide) ?_
        refine lv_icmp_ne (tgt := 28) hx hb d_Ki_isOpenToTheRight_21 (by decide) (fun c21 => ?_) (fun c21 => ?_)
        · rw [if_neg c21] at hf
          refine lv_iconst (v := (0 : Int32)) hx hb d_Ki_isOpenToTheRight_28 (by decide) ?_
          have hf : (some (vp_nar .boolean (0 : Int32)) : Option Int32) = some o := hf
          rw [hQ, ← Option.some.inj hf]
          exact jNret hx hb hr rfl hlocks d_Ki_isOpenToTheRight_29 (fun _ => 0) hS hP hD
        · rw [if_pos c21] at hf
          exact B24  H locs ls hf hP hD hS (lv_sub hl [] rfl)
theorem d_To_spelling_0 : decode b_To_spelling 0 = .ok (.iload_n 0, 1) := by decide +kernel
theorem d_To_spelling_1 : decode b_To_spelling 1 = .ok (.tableswitch 155 4 23 #[95, 98, 101, 104, 107, 110, 113, 116, 119, 122, 125, 128, 131, 134, 137, 140, 143, 146, 149, 152], 95) := by decide +kernel
theorem d_To_spelling_96 : decode b_To_spelling 96 = .ok (.ldc 9, 2) := by decide +kernel
theorem d_To_spelling_98 : decode b_To_spelling 98 = .ok (.areturn, 1) := by decide +kernel
theorem d_To_spelling_99 : decode b_To_spelling 99 = .ok (.ldc 11, 2) := by decide +kernel
theorem d_To_spelling_101 : decode b_To_spelling 101 = .ok (.areturn, 1) := by decide +kernel
theorem d_To_spelling_102 : decode b_To_spelling 102 = .ok (.ldc 13, 2) := by decide +kernel
theorem d_To_spelling_104 : decode b_To_spelling 104 = .ok (.areturn, 1) := by decide +kernel
theorem d_To_spelling_105 : decode b_To_spelling 105 = .ok (.ldc 15, 2) := by decide +kernel
theorem d_To_spelling_107 : decode b_To_spelling 107 = .ok (.areturn, 1) := by decide +kernel
theorem d_To_spelling_108 : decode b_To_spelling 108 = .ok (.ldc 17, 2) := by decide +kernel
theorem d_To_spelling_110 : decode b_To_spelling 110 = .ok (.areturn, 1) := by decide +kernel
theorem d_To_spelling_111 : decode b_To_spelling 111 = .ok (.ldc 19, 2) := by decide +kernel
theorem d_To_spelling_113 : decode b_To_spelling 113 = .ok (.areturn, 1) := by decide +kernel
theorem d_To_spelling_114 : decode b_To_spelling 114 = .ok (.ldc 21, 2) := by decide +kernel
theorem d_To_spelling_116 : decode b_To_spelling 116 = .ok (.areturn, 1) := by decide +kernel
theorem d_To_spelling_117 : decode b_To_spelling 117 = .ok (.ldc 23, 2) := by decide +kernel
theorem d_To_spelling_119 : decode b_To_spelling 119 = .ok (.areturn, 1) := by decide +kernel
theorem d_To_spelling_120 : decode b_To_spelling 120 = .ok (.ldc 25, 2) := by decide +kernel
theorem d_To_spelling_122 : decode b_To_spelling 122 = .ok (.areturn, 1) := by decide +kernel
theorem d_To_spelling_123 : decode b_To_spelling 123 = .ok (.ldc 27, 2) := by decide +kernel
theorem d_To_spelling_125 : decode b_To_spelling 125 = .ok (.areturn, 1) := by decide +kernel
theorem d_To_spelling_126 : decode b_To_spelling 126 = .ok (.ldc 29, 2) := by decide +kernel
theorem d_To_spelling_128 : decode b_To_spelling 128 = .ok (.areturn, 1) := by decide +kernel
theorem d_To_spelling_129 : decode b_To_spelling 129 = .ok (.ldc 31, 2) := by decide +kernel
theorem d_To_spelling_131 : decode b_To_spelling 131 = .ok (.areturn, 1) := by decide +kernel
theorem d_To_spelling_132 : decode b_To_spelling 132 = .ok (.ldc 33, 2) := by decide +kernel
theorem d_To_spelling_134 : decode b_To_spelling 134 = .ok (.areturn, 1) := by decide +kernel
theorem d_To_spelling_135 : decode b_To_spelling 135 = .ok (.ldc 35, 2) := by decide +kernel
theorem d_To_spelling_137 : decode b_To_spelling 137 = .ok (.areturn, 1) := by decide +kernel
theorem d_To_spelling_138 : decode b_To_spelling 138 = .ok (.ldc 37, 2) := by decide +kernel
theorem d_To_spelling_140 : decode b_To_spelling 140 = .ok (.areturn, 1) := by decide +kernel
theorem d_To_spelling_141 : decode b_To_spelling 141 = .ok (.ldc 39, 2) := by decide +kernel
theorem d_To_spelling_143 : decode b_To_spelling 143 = .ok (.areturn, 1) := by decide +kernel
theorem d_To_spelling_144 : decode b_To_spelling 144 = .ok (.ldc 41, 2) := by decide +kernel
theorem d_To_spelling_146 : decode b_To_spelling 146 = .ok (.areturn, 1) := by decide +kernel
theorem d_To_spelling_147 : decode b_To_spelling 147 = .ok (.ldc 43, 2) := by decide +kernel
theorem d_To_spelling_149 : decode b_To_spelling 149 = .ok (.areturn, 1) := by decide +kernel
theorem d_To_spelling_150 : decode b_To_spelling 150 = .ok (.ldc 45, 2) := by decide +kernel
theorem d_To_spelling_152 : decode b_To_spelling 152 = .ok (.areturn, 1) := by decide +kernel
theorem d_To_spelling_153 : decode b_To_spelling 153 = .ok (.ldc 47, 2) := by decide +kernel
theorem d_To_spelling_155 : decode b_To_spelling 155 = .ok (.areturn, 1) := by decide +kernel
theorem d_To_spelling_156 : decode b_To_spelling 156 = .ok (.ldc 49, 2) := by decide +kernel
theorem d_To_spelling_158 : decode b_To_spelling 158 = .ok (.areturn, 1) := by decide +kernel
noncomputable def f_To_spelling   (a1 : Int32) : Option Nat := if a1 = (4 : Int32) then (some 2) else if a1 = (5 : Int32) then (some 3) else if a1 = (6 : Int32) then (some 4) else if a1 = (7 : Int32) then (some 5) else if a1 = (8 : Int32) then (some 6) else if a1 = (9 : Int32) then (some 7) else if a1 = (10 : Int32) then (some 8) else if a1 = (11 : Int32) then (some 9) else if a1 = (12 : Int32) then (some 10) else if a1 = (13 : Int32) then (some 11) else if a1 = (14 : Int32) then (some 12) else if a1 = (15 : Int32) then (some 13) else if a1 = (16 : Int32) then (some 14) else if a1 = (17 : Int32) then (some 15) else if a1 = (18 : Int32) then (some 16) else if a1 = (19 : Int32) then (some 17) else if a1 = (20 : Int32) then (some 18) else if a1 = (21 : Int32) then (some 19) else if a1 = (22 : Int32) then (some 20) else if a1 = (23 : Int32) then (some 21) else (some 22)
set_option maxHeartbeats 4000000 in
set_option maxRecDepth 100000 in
theorem c_To_spelling {l : Launch} {dC : Nat → ClassId} {dI : Nat → Nat → Nat} {cI cB cS : ClassId} {adK adV adR : Nat → Nat}   (a1 : Int32) {o : Nat} (hf : f_To_spelling a1 = some o) : jMet l dC dI cI cB cS adK adV adR y_To_spelling wd_To_spelling { frames := 0, cells := 0, slots := 0, locals := 0 } [.int a1] [] (some (.ref (adK o))) (fun q => []) 0 0 := by
  refine jEntry (cc := b_To_spelling) (maxL := 1) (ret := (some (.object "java/lang/String"))) (by decide) rfl (Nat.le_of_ble_eq_true rfl) rfl (fun p e s m args below meth c A H locs ls Q hQ hx hb hr hml hown hts hlocks hnm hJ hA hP hD hS hl => ?_)
  have hK := hJ.K
  have hl : lv_has ls 1 [(0, .int a1)] := hl
  unfold f_To_spelling at hf
  refine lv_iload_n hx hb d_To_spelling_0 rfl (lv_at hl 0 rfl) ?_
  by_cases c1_0 : a1 = (4 : Int32)
  · rw [if_pos c1_0] at hf
    refine lv_tableIn (off := 95) (tgt := 96) hx hb d_To_spelling_1 (by rw [c1_0]; decide) (by rw [c1_0]; decide) (by rw [c1_0]; decide) (by decide) ?_
    refine va_ldcS hx hb hown (hJ.T 2 (by decide)) d_To_spelling_96 ?_
    have hf : (some 2 : Option Nat) = some o := hf
    rw [hQ, ← Option.some.inj hf]
    exact jAret hx hb hr (Or.inl ⟨_, rfl⟩) (Or.inr ⟨_, rfl⟩) hlocks d_To_spelling_98 (fun _ => 0) hS hP hD
  · rw [if_neg c1_0] at hf
    by_cases c1_1 : a1 = (5 : Int32)
    · rw [if_pos c1_1] at hf
      refine lv_tableIn (off := 98) (tgt := 99) hx hb d_To_spelling_1 (by rw [c1_1]; decide) (by rw [c1_1]; decide) (by rw [c1_1]; decide) (by decide) ?_
      refine va_ldcS hx hb hown (hJ.T 3 (by decide)) d_To_spelling_99 ?_
      have hf : (some 3 : Option Nat) = some o := hf
      rw [hQ, ← Option.some.inj hf]
      exact jAret hx hb hr (Or.inl ⟨_, rfl⟩) (Or.inr ⟨_, rfl⟩) hlocks d_To_spelling_101 (fun _ => 0) hS hP hD
    · rw [if_neg c1_1] at hf
      by_cases c1_2 : a1 = (6 : Int32)
      · rw [if_pos c1_2] at hf
        refine lv_tableIn (off := 101) (tgt := 102) hx hb d_To_spelling_1 (by rw [c1_2]; decide) (by rw [c1_2]; decide) (by rw [c1_2]; decide) (by decide) ?_
        refine va_ldcS hx hb hown (hJ.T 4 (by decide)) d_To_spelling_102 ?_
        have hf : (some 4 : Option Nat) = some o := hf
        rw [hQ, ← Option.some.inj hf]
        exact jAret hx hb hr (Or.inl ⟨_, rfl⟩) (Or.inr ⟨_, rfl⟩) hlocks d_To_spelling_104 (fun _ => 0) hS hP hD
      · rw [if_neg c1_2] at hf
        by_cases c1_3 : a1 = (7 : Int32)
        · rw [if_pos c1_3] at hf
          refine lv_tableIn (off := 104) (tgt := 105) hx hb d_To_spelling_1 (by rw [c1_3]; decide) (by rw [c1_3]; decide) (by rw [c1_3]; decide) (by decide) ?_
          refine va_ldcS hx hb hown (hJ.T 5 (by decide)) d_To_spelling_105 ?_
          have hf : (some 5 : Option Nat) = some o := hf
          rw [hQ, ← Option.some.inj hf]
          exact jAret hx hb hr (Or.inl ⟨_, rfl⟩) (Or.inr ⟨_, rfl⟩) hlocks d_To_spelling_107 (fun _ => 0) hS hP hD
        · rw [if_neg c1_3] at hf
          by_cases c1_4 : a1 = (8 : Int32)
          · rw [if_pos c1_4] at hf
            refine lv_tableIn (off := 107) (tgt := 108) hx hb d_To_spelling_1 (by rw [c1_4]; decide) (by rw [c1_4]; decide) (by rw [c1_4]; decide) (by decide) ?_
            refine va_ldcS hx hb hown (hJ.T 6 (by decide)) d_To_spelling_108 ?_
            have hf : (some 6 : Option Nat) = some o := hf
            rw [hQ, ← Option.some.inj hf]
            exact jAret hx hb hr (Or.inl ⟨_, rfl⟩) (Or.inr ⟨_, rfl⟩) hlocks d_To_spelling_110 (fun _ => 0) hS hP hD
          · rw [if_neg c1_4] at hf
            by_cases c1_5 : a1 = (9 : Int32)
            · rw [if_pos c1_5] at hf
              refine lv_tableIn (off := 110) (tgt := 111) hx hb d_To_spelling_1 (by rw [c1_5]; decide) (by rw [c1_5]; decide) (by rw [c1_5]; decide) (by decide) ?_
              refine va_ldcS hx hb hown (hJ.T 7 (by decide)) d_To_spelling_111 ?_
              have hf : (some 7 : Option Nat) = some o := hf
              rw [hQ, ← Option.some.inj hf]
              exact jAret hx hb hr (Or.inl ⟨_, rfl⟩) (Or.inr ⟨_, rfl⟩) hlocks d_To_spelling_113 (fun _ => 0) hS hP hD
            · rw [if_neg c1_5] at hf
              by_cases c1_6 : a1 = (10 : Int32)
              · rw [if_pos c1_6] at hf
                refine lv_tableIn (off := 113) (tgt := 114) hx hb d_To_spelling_1 (by rw [c1_6]; decide) (by rw [c1_6]; decide) (by rw [c1_6]; decide) (by decide) ?_
                refine va_ldcS hx hb hown (hJ.T 8 (by decide)) d_To_spelling_114 ?_
                have hf : (some 8 : Option Nat) = some o := hf
                rw [hQ, ← Option.some.inj hf]
                exact jAret hx hb hr (Or.inl ⟨_, rfl⟩) (Or.inr ⟨_, rfl⟩) hlocks d_To_spelling_116 (fun _ => 0) hS hP hD
              · rw [if_neg c1_6] at hf
                by_cases c1_7 : a1 = (11 : Int32)
                · rw [if_pos c1_7] at hf
                  refine lv_tableIn (off := 116) (tgt := 117) hx hb d_To_spelling_1 (by rw [c1_7]; decide) (by rw [c1_7]; decide) (by rw [c1_7]; decide) (by decide) ?_
                  refine va_ldcS hx hb hown (hJ.T 9 (by decide)) d_To_spelling_117 ?_
                  have hf : (some 9 : Option Nat) = some o := hf
                  rw [hQ, ← Option.some.inj hf]
                  exact jAret hx hb hr (Or.inl ⟨_, rfl⟩) (Or.inr ⟨_, rfl⟩) hlocks d_To_spelling_119 (fun _ => 0) hS hP hD
                · rw [if_neg c1_7] at hf
                  by_cases c1_8 : a1 = (12 : Int32)
                  · rw [if_pos c1_8] at hf
                    refine lv_tableIn (off := 119) (tgt := 120) hx hb d_To_spelling_1 (by rw [c1_8]; decide) (by rw [c1_8]; decide) (by rw [c1_8]; decide) (by decide) ?_
                    refine va_ldcS hx hb hown (hJ.T 10 (by decide)) d_To_spelling_120 ?_
                    have hf : (some 10 : Option Nat) = some o := hf
                    rw [hQ, ← Option.some.inj hf]
                    exact jAret hx hb hr (Or.inl ⟨_, rfl⟩) (Or.inr ⟨_, rfl⟩) hlocks d_To_spelling_122 (fun _ => 0) hS hP hD
                  · rw [if_neg c1_8] at hf
                    by_cases c1_9 : a1 = (13 : Int32)
                    · rw [if_pos c1_9] at hf
                      refine lv_tableIn (off := 122) (tgt := 123) hx hb d_To_spelling_1 (by rw [c1_9]; decide) (by rw [c1_9]; decide) (by rw [c1_9]; decide) (by decide) ?_
                      refine va_ldcS hx hb hown (hJ.T 11 (by decide)) d_To_spelling_123 ?_
                      have hf : (some 11 : Option Nat) = some o := hf
                      rw [hQ, ← Option.some.inj hf]
                      exact jAret hx hb hr (Or.inl ⟨_, rfl⟩) (Or.inr ⟨_, rfl⟩) hlocks d_To_spelling_125 (fun _ => 0) hS hP hD
                    · rw [if_neg c1_9] at hf
                      by_cases c1_10 : a1 = (14 : Int32)
                      · rw [if_pos c1_10] at hf
                        refine lv_tableIn (off := 125) (tgt := 126) hx hb d_To_spelling_1 (by rw [c1_10]; decide) (by rw [c1_10]; decide) (by rw [c1_10]; decide) (by decide) ?_
                        refine va_ldcS hx hb hown (hJ.T 12 (by decide)) d_To_spelling_126 ?_
                        have hf : (some 12 : Option Nat) = some o := hf
                        rw [hQ, ← Option.some.inj hf]
                        exact jAret hx hb hr (Or.inl ⟨_, rfl⟩) (Or.inr ⟨_, rfl⟩) hlocks d_To_spelling_128 (fun _ => 0) hS hP hD
                      · rw [if_neg c1_10] at hf
                        by_cases c1_11 : a1 = (15 : Int32)
                        · rw [if_pos c1_11] at hf
                          refine lv_tableIn (off := 128) (tgt := 129) hx hb d_To_spelling_1 (by rw [c1_11]; decide) (by rw [c1_11]; decide) (by rw [c1_11]; decide) (by decide) ?_
                          refine va_ldcS hx hb hown (hJ.T 13 (by decide)) d_To_spelling_129 ?_
                          have hf : (some 13 : Option Nat) = some o := hf
                          rw [hQ, ← Option.some.inj hf]
                          exact jAret hx hb hr (Or.inl ⟨_, rfl⟩) (Or.inr ⟨_, rfl⟩) hlocks d_To_spelling_131 (fun _ => 0) hS hP hD
                        · rw [if_neg c1_11] at hf
                          by_cases c1_12 : a1 = (16 : Int32)
                          · rw [if_pos c1_12] at hf
                            refine lv_tableIn (off := 131) (tgt := 132) hx hb d_To_spelling_1 (by rw [c1_12]; decide) (by rw [c1_12]; decide) (by rw [c1_12]; decide) (by decide) ?_
                            refine va_ldcS hx hb hown (hJ.T 14 (by decide)) d_To_spelling_132 ?_
                            have hf : (some 14 : Option Nat) = some o := hf
                            rw [hQ, ← Option.some.inj hf]
                            exact jAret hx hb hr (Or.inl ⟨_, rfl⟩) (Or.inr ⟨_, rfl⟩) hlocks d_To_spelling_134 (fun _ => 0) hS hP hD
                          · rw [if_neg c1_12] at hf
                            by_cases c1_13 : a1 = (17 : Int32)
                            · rw [if_pos c1_13] at hf
                              refine lv_tableIn (off := 134) (tgt := 135) hx hb d_To_spelling_1 (by rw [c1_13]; decide) (by rw [c1_13]; decide) (by rw [c1_13]; decide) (by decide) ?_
                              refine va_ldcS hx hb hown (hJ.T 15 (by decide)) d_To_spelling_135 ?_
                              have hf : (some 15 : Option Nat) = some o := hf
                              rw [hQ, ← Option.some.inj hf]
                              exact jAret hx hb hr (Or.inl ⟨_, rfl⟩) (Or.inr ⟨_, rfl⟩) hlocks d_To_spelling_137 (fun _ => 0) hS hP hD
                            · rw [if_neg c1_13] at hf
                              by_cases c1_14 : a1 = (18 : Int32)
                              · rw [if_pos c1_14] at hf
                                refine lv_tableIn (off := 137) (tgt := 138) hx hb d_To_spelling_1 (by rw [c1_14]; decide) (by rw [c1_14]; decide) (by rw [c1_14]; decide) (by decide) ?_
                                refine va_ldcS hx hb hown (hJ.T 16 (by decide)) d_To_spelling_138 ?_
                                have hf : (some 16 : Option Nat) = some o := hf
                                rw [hQ, ← Option.some.inj hf]
                                exact jAret hx hb hr (Or.inl ⟨_, rfl⟩) (Or.inr ⟨_, rfl⟩) hlocks d_To_spelling_140 (fun _ => 0) hS hP hD
                              · rw [if_neg c1_14] at hf
                                by_cases c1_15 : a1 = (19 : Int32)
                                · rw [if_pos c1_15] at hf
                                  refine lv_tableIn (off := 140) (tgt := 141) hx hb d_To_spelling_1 (by rw [c1_15]; decide) (by rw [c1_15]; decide) (by rw [c1_15]; decide) (by decide) ?_
                                  refine va_ldcS hx hb hown (hJ.T 17 (by decide)) d_To_spelling_141 ?_
                                  have hf : (some 17 : Option Nat) = some o := hf
                                  rw [hQ, ← Option.some.inj hf]
                                  exact jAret hx hb hr (Or.inl ⟨_, rfl⟩) (Or.inr ⟨_, rfl⟩) hlocks d_To_spelling_143 (fun _ => 0) hS hP hD
                                · rw [if_neg c1_15] at hf
                                  by_cases c1_16 : a1 = (20 : Int32)
                                  · rw [if_pos c1_16] at hf
                                    refine lv_tableIn (off := 143) (tgt := 144) hx hb d_To_spelling_1 (by rw [c1_16]; decide) (by rw [c1_16]; decide) (by rw [c1_16]; decide) (by decide) ?_
                                    refine va_ldcS hx hb hown (hJ.T 18 (by decide)) d_To_spelling_144 ?_
                                    have hf : (some 18 : Option Nat) = some o := hf
                                    rw [hQ, ← Option.some.inj hf]
                                    exact jAret hx hb hr (Or.inl ⟨_, rfl⟩) (Or.inr ⟨_, rfl⟩) hlocks d_To_spelling_146 (fun _ => 0) hS hP hD
                                  · rw [if_neg c1_16] at hf
                                    by_cases c1_17 : a1 = (21 : Int32)
                                    · rw [if_pos c1_17] at hf
                                      refine lv_tableIn (off := 146) (tgt := 147) hx hb d_To_spelling_1 (by rw [c1_17]; decide) (by rw [c1_17]; decide) (by rw [c1_17]; decide) (by decide) ?_
                                      refine va_ldcS hx hb hown (hJ.T 19 (by decide)) d_To_spelling_147 ?_
                                      have hf : (some 19 : Option Nat) = some o := hf
                                      rw [hQ, ← Option.some.inj hf]
                                      exact jAret hx hb hr (Or.inl ⟨_, rfl⟩) (Or.inr ⟨_, rfl⟩) hlocks d_To_spelling_149 (fun _ => 0) hS hP hD
                                    · rw [if_neg c1_17] at hf
                                      by_cases c1_18 : a1 = (22 : Int32)
                                      · rw [if_pos c1_18] at hf
                                        refine lv_tableIn (off := 149) (tgt := 150) hx hb d_To_spelling_1 (by rw [c1_18]; decide) (by rw [c1_18]; decide) (by rw [c1_18]; decide) (by decide) ?_
                                        refine va_ldcS hx hb hown (hJ.T 20 (by decide)) d_To_spelling_150 ?_
                                        have hf : (some 20 : Option Nat) = some o := hf
                                        rw [hQ, ← Option.some.inj hf]
                                        exact jAret hx hb hr (Or.inl ⟨_, rfl⟩) (Or.inr ⟨_, rfl⟩) hlocks d_To_spelling_152 (fun _ => 0) hS hP hD
                                      · rw [if_neg c1_18] at hf
                                        by_cases c1_19 : a1 = (23 : Int32)
                                        · rw [if_pos c1_19] at hf
                                          refine lv_tableIn (off := 152) (tgt := 153) hx hb d_To_spelling_1 (by rw [c1_19]; decide) (by rw [c1_19]; decide) (by rw [c1_19]; decide) (by decide) ?_
                                          refine va_ldcS hx hb hown (hJ.T 21 (by decide)) d_To_spelling_153 ?_
                                          have hf : (some 21 : Option Nat) = some o := hf
                                          rw [hQ, ← Option.some.inj hf]
                                          exact jAret hx hb hr (Or.inl ⟨_, rfl⟩) (Or.inr ⟨_, rfl⟩) hlocks d_To_spelling_155 (fun _ => 0) hS hP hD
                                        · rw [if_neg c1_19] at hf
                                          refine lv_tableOut (tgt := 156) hx hb d_To_spelling_1 (by have z0 := lv_neT c1_0 (k := (4 : Int32)) (a := 4) (by decide); have z1 := lv_neT c1_1 (k := (5 : Int32)) (a := 5) (by decide); have z2 := lv_neT c1_2 (k := (6 : Int32)) (a := 6) (by decide); have z3 := lv_neT c1_3 (k := (7 : Int32)) (a := 7) (by decide); have z4 := lv_neT c1_4 (k := (8 : Int32)) (a := 8) (by decide); have z5 := lv_neT c1_5 (k := (9 : Int32)) (a := 9) (by decide); have z6 := lv_neT c1_6 (k := (10 : Int32)) (a := 10) (by decide); have z7 := lv_neT c1_7 (k := (11 : Int32)) (a := 11) (by decide); have z8 := lv_neT c1_8 (k := (12 : Int32)) (a := 12) (by decide); have z9 := lv_neT c1_9 (k := (13 : Int32)) (a := 13) (by decide); have z10 := lv_neT c1_10 (k := (14 : Int32)) (a := 14) (by decide); have z11 := lv_neT c1_11 (k := (15 : Int32)) (a := 15) (by decide); have z12 := lv_neT c1_12 (k := (16 : Int32)) (a := 16) (by decide); have z13 := lv_neT c1_13 (k := (17 : Int32)) (a := 17) (by decide); have z14 := lv_neT c1_14 (k := (18 : Int32)) (a := 18) (by decide); have z15 := lv_neT c1_15 (k := (19 : Int32)) (a := 19) (by decide); have z16 := lv_neT c1_16 (k := (20 : Int32)) (a := 20) (by decide); have z17 := lv_neT c1_17 (k := (21 : Int32)) (a := 21) (by decide); have z18 := lv_neT c1_18 (k := (22 : Int32)) (a := 22) (by decide); have z19 := lv_neT c1_19 (k := (23 : Int32)) (a := 23) (by decide); omega) (by decide) ?_
                                          refine va_ldcS hx hb hown (hJ.T 22 (by decide)) d_To_spelling_156 ?_
                                          have hf : (some 22 : Option Nat) = some o := hf
                                          rw [hQ, ← Option.some.inj hf]
                                          exact jAret hx hb hr (Or.inl ⟨_, rfl⟩) (Or.inr ⟨_, rfl⟩) hlocks d_To_spelling_158 (fun _ => 0) hS hP hD
theorem d_To_signOf_0 : decode b_To_signOf 0 = .ok (.iload_n 0, 1) := by decide +kernel
theorem d_To_signOf_1 : decode b_To_signOf 1 = .ok (.lookupswitch 130 #[(40, 75), (41, 78), (44, 81), (45, 117), (46, 84), (58, 90), (61, 104), (124, 87)], 75) := by decide +kernel
theorem d_To_signOf_76 : decode b_To_signOf 76 = .ok (.bipush 15, 2) := by decide +kernel
theorem d_To_signOf_78 : decode b_To_signOf 78 = .ok (.ireturn, 1) := by decide +kernel
theorem d_To_signOf_79 : decode b_To_signOf 79 = .ok (.bipush 16, 2) := by decide +kernel
theorem d_To_signOf_81 : decode b_To_signOf 81 = .ok (.ireturn, 1) := by decide +kernel
theorem d_To_signOf_82 : decode b_To_signOf 82 = .ok (.bipush 21, 2) := by decide +kernel
theorem d_To_signOf_84 : decode b_To_signOf 84 = .ok (.ireturn, 1) := by decide +kernel
theorem d_To_signOf_85 : decode b_To_signOf 85 = .ok (.bipush 22, 2) := by decide +kernel
theorem d_To_signOf_87 : decode b_To_signOf 87 = .ok (.ireturn, 1) := by decide +kernel
theorem d_To_signOf_88 : decode b_To_signOf 88 = .ok (.bipush 23, 2) := by decide +kernel
theorem d_To_signOf_90 : decode b_To_signOf 90 = .ok (.ireturn, 1) := by decide +kernel
theorem d_To_signOf_91 : decode b_To_signOf 91 = .ok (.iload_n 1, 1) := by decide +kernel
theorem d_To_signOf_92 : decode b_To_signOf 92 = .ok (.bipush 61, 2) := by decide +kernel
theorem d_To_signOf_94 : decode b_To_signOf 94 = .ok (.if_icmp .ne 8, 3) := by decide +kernel
theorem d_To_signOf_97 : decode b_To_signOf 97 = .ok (.bipush 18, 2) := by decide +kernel
theorem d_To_signOf_99 : decode b_To_signOf 99 = .ok (.goto 5, 3) := by decide +kernel
theorem d_To_signOf_102 : decode b_To_signOf 102 = .ok (.bipush 17, 2) := by decide +kernel
theorem d_To_signOf_104 : decode b_To_signOf 104 = .ok (.ireturn, 1) := by decide +kernel
theorem d_To_signOf_105 : decode b_To_signOf 105 = .ok (.iload_n 1, 1) := by decide +kernel
theorem d_To_signOf_106 : decode b_To_signOf 106 = .ok (.bipush 62, 2) := by decide +kernel
theorem d_To_signOf_108 : decode b_To_signOf 108 = .ok (.if_icmp .ne 8, 3) := by decide +kernel
theorem d_To_signOf_111 : decode b_To_signOf 111 = .ok (.bipush 19, 2) := by decide +kernel
theorem d_To_signOf_113 : decode b_To_signOf 113 = .ok (.goto 4, 3) := by decide +kernel
theorem d_To_signOf_116 : decode b_To_signOf 116 = .ok (.iconst 1, 1) := by decide +kernel
theorem d_To_signOf_117 : decode b_To_signOf 117 = .ok (.ireturn, 1) := by decide +kernel
theorem d_To_signOf_118 : decode b_To_signOf 118 = .ok (.iload_n 1, 1) := by decide +kernel
theorem d_To_signOf_119 : decode b_To_signOf 119 = .ok (.bipush 62, 2) := by decide +kernel
theorem d_To_signOf_121 : decode b_To_signOf 121 = .ok (.if_icmp .ne 8, 3) := by decide +kernel
theorem d_To_signOf_124 : decode b_To_signOf 124 = .ok (.bipush 20, 2) := by decide +kernel
theorem d_To_signOf_126 : decode b_To_signOf 126 = .ok (.goto 4, 3) := by decide +kernel
theorem d_To_signOf_129 : decode b_To_signOf 129 = .ok (.iconst 1, 1) := by decide +kernel
theorem d_To_signOf_130 : decode b_To_signOf 130 = .ok (.ireturn, 1) := by decide +kernel
theorem d_To_signOf_131 : decode b_To_signOf 131 = .ok (.iconst 1, 1) := by decide +kernel
theorem d_To_signOf_132 : decode b_To_signOf 132 = .ok (.ireturn, 1) := by decide +kernel
noncomputable def f_To_signOf   (a1 : Int32) (a2 : Int32) : Option Int32 := if a1 = (40 : Int32) then (some (15 : Int32)) else if a1 = (41 : Int32) then (some (16 : Int32)) else if a1 = (44 : Int32) then (some (21 : Int32)) else if a1 = (45 : Int32) then (if a2 = (62 : Int32) then (some (20 : Int32)) else (some (1 : Int32))) else if a1 = (46 : Int32) then (some (22 : Int32)) else if a1 = (58 : Int32) then (if a2 = (61 : Int32) then (some (18 : Int32)) else (some (17 : Int32))) else if a1 = (61 : Int32) then (if a2 = (62 : Int32) then (some (19 : Int32)) else (some (1 : Int32))) else if a1 = (124 : Int32) then (some (23 : Int32)) else (some (1 : Int32))
set_option maxHeartbeats 4000000 in
set_option maxRecDepth 100000 in
theorem c_To_signOf {l : Launch} {dC : Nat → ClassId} {dI : Nat → Nat → Nat} {cI cB cS : ClassId} {adK adV adR : Nat → Nat}   (a1 : Int32) (a2 : Int32) {o : Int32} (hf : f_To_signOf a1 a2 = some o) : jMet l dC dI cI cB cS adK adV adR y_To_signOf wd_To_signOf { frames := 0, cells := 0, slots := 0, locals := 0 } [.int a1, .int a2] [] (some (.int o)) (fun q => []) 0 0 := by
  refine jEntry (cc := b_To_signOf) (maxL := 2) (ret := (some .int)) (by decide) rfl (Nat.le_of_ble_eq_true rfl) rfl (fun p e s m args below meth c A H locs ls Q hQ hx hb hr hml hown hts hlocks hnm hJ hA hP hD hS hl => ?_)
  have hK := hJ.K
  have hl : lv_has ls 2 [(0, .int a1), (1, .int a2)] := hl
  unfold f_To_signOf at hf
  refine lv_iload_n hx hb d_To_signOf_0 rfl (lv_at hl 0 rfl) ?_
  by_cases c1_0 : a1 = (40 : Int32)
  · rw [if_pos c1_0] at hf
    refine lv_lookup (off := 75) (tgt := 76) hx hb d_To_signOf_1 (by decide) (by rw [c1_0]; decide) (by decide) ?_
    refine lv_bipush (v := (15 : Int32)) hx hb d_To_signOf_76 (by decide) ?_
    have hf : (some (15 : Int32) : Option Int32) = some o := hf
    rw [hQ, ← Option.some.inj hf]
    exact jIret hx hb hr hlocks d_To_signOf_78 (fun _ => 0) hS hP hD
  · rw [if_neg c1_0] at hf
    by_cases c1_1 : a1 = (41 : Int32)
    · rw [if_pos c1_1] at hf
      refine lv_lookup (off := 78) (tgt := 79) hx hb d_To_signOf_1 (by decide) (by rw [c1_1]; decide) (by decide) ?_
      refine lv_bipush (v := (16 : Int32)) hx hb d_To_signOf_79 (by decide) ?_
      have hf : (some (16 : Int32) : Option Int32) = some o := hf
      rw [hQ, ← Option.some.inj hf]
      exact jIret hx hb hr hlocks d_To_signOf_81 (fun _ => 0) hS hP hD
    · rw [if_neg c1_1] at hf
      by_cases c1_2 : a1 = (44 : Int32)
      · rw [if_pos c1_2] at hf
        refine lv_lookup (off := 81) (tgt := 82) hx hb d_To_signOf_1 (by decide) (by rw [c1_2]; decide) (by decide) ?_
        refine lv_bipush (v := (21 : Int32)) hx hb d_To_signOf_82 (by decide) ?_
        have hf : (some (21 : Int32) : Option Int32) = some o := hf
        rw [hQ, ← Option.some.inj hf]
        exact jIret hx hb hr hlocks d_To_signOf_84 (fun _ => 0) hS hP hD
      · rw [if_neg c1_2] at hf
        by_cases c1_3 : a1 = (45 : Int32)
        · rw [if_pos c1_3] at hf
          refine lv_lookup (off := 117) (tgt := 118) hx hb d_To_signOf_1 (by decide) (by rw [c1_3]; decide) (by decide) ?_
          refine lv_iload_n hx hb d_To_signOf_118 rfl (lv_at hl 1 rfl) ?_
          refine lv_bipush (v := (62 : Int32)) hx hb d_To_signOf_119 (by decide) ?_
          refine lv_icmp_ne (tgt := 129) hx hb d_To_signOf_121 (by decide) (fun c121 => ?_) (fun c121 => ?_)
          · rw [if_neg c121] at hf
            refine lv_iconst (v := (1 : Int32)) hx hb d_To_signOf_129 (by decide) ?_
            have hf : (some (1 : Int32) : Option Int32) = some o := hf
            rw [hQ, ← Option.some.inj hf]
            exact jIret hx hb hr hlocks d_To_signOf_130 (fun _ => 0) hS hP hD
          · rw [if_pos c121] at hf
            refine lv_bipush (v := (20 : Int32)) hx hb d_To_signOf_124 (by decide) ?_
            refine lv_goto (tgt := 130) hx hb d_To_signOf_126 (by decide) ?_
            have hf : (some (20 : Int32) : Option Int32) = some o := hf
            rw [hQ, ← Option.some.inj hf]
            exact jIret hx hb hr hlocks d_To_signOf_130 (fun _ => 0) hS hP hD
        · rw [if_neg c1_3] at hf
          by_cases c1_4 : a1 = (46 : Int32)
          · rw [if_pos c1_4] at hf
            refine lv_lookup (off := 84) (tgt := 85) hx hb d_To_signOf_1 (by decide) (by rw [c1_4]; decide) (by decide) ?_
            refine lv_bipush (v := (22 : Int32)) hx hb d_To_signOf_85 (by decide) ?_
            have hf : (some (22 : Int32) : Option Int32) = some o := hf
            rw [hQ, ← Option.some.inj hf]
            exact jIret hx hb hr hlocks d_To_signOf_87 (fun _ => 0) hS hP hD
          · rw [if_neg c1_4] at hf
            by_cases c1_5 : a1 = (58 : Int32)
            · rw [if_pos c1_5] at hf
              refine lv_lookup (off := 90) (tgt := 91) hx hb d_To_signOf_1 (by decide) (by rw [c1_5]; decide) (by decide) ?_
              refine lv_iload_n hx hb d_To_signOf_91 rfl (lv_at hl 1 rfl) ?_
              refine lv_bipush (v := (61 : Int32)) hx hb d_To_signOf_92 (by decide) ?_
              refine lv_icmp_ne (tgt := 102) hx hb d_To_signOf_94 (by decide) (fun c94 => ?_) (fun c94 => ?_)
              · rw [if_neg c94] at hf
                refine lv_bipush (v := (17 : Int32)) hx hb d_To_signOf_102 (by decide) ?_
                have hf : (some (17 : Int32) : Option Int32) = some o := hf
                rw [hQ, ← Option.some.inj hf]
                exact jIret hx hb hr hlocks d_To_signOf_104 (fun _ => 0) hS hP hD
              · rw [if_pos c94] at hf
                refine lv_bipush (v := (18 : Int32)) hx hb d_To_signOf_97 (by decide) ?_
                refine lv_goto (tgt := 104) hx hb d_To_signOf_99 (by decide) ?_
                have hf : (some (18 : Int32) : Option Int32) = some o := hf
                rw [hQ, ← Option.some.inj hf]
                exact jIret hx hb hr hlocks d_To_signOf_104 (fun _ => 0) hS hP hD
            · rw [if_neg c1_5] at hf
              by_cases c1_6 : a1 = (61 : Int32)
              · rw [if_pos c1_6] at hf
                refine lv_lookup (off := 104) (tgt := 105) hx hb d_To_signOf_1 (by decide) (by rw [c1_6]; decide) (by decide) ?_
                refine lv_iload_n hx hb d_To_signOf_105 rfl (lv_at hl 1 rfl) ?_
                refine lv_bipush (v := (62 : Int32)) hx hb d_To_signOf_106 (by decide) ?_
                refine lv_icmp_ne (tgt := 116) hx hb d_To_signOf_108 (by decide) (fun c108 => ?_) (fun c108 => ?_)
                · rw [if_neg c108] at hf
                  refine lv_iconst (v := (1 : Int32)) hx hb d_To_signOf_116 (by decide) ?_
                  have hf : (some (1 : Int32) : Option Int32) = some o := hf
                  rw [hQ, ← Option.some.inj hf]
                  exact jIret hx hb hr hlocks d_To_signOf_117 (fun _ => 0) hS hP hD
                · rw [if_pos c108] at hf
                  refine lv_bipush (v := (19 : Int32)) hx hb d_To_signOf_111 (by decide) ?_
                  refine lv_goto (tgt := 117) hx hb d_To_signOf_113 (by decide) ?_
                  have hf : (some (19 : Int32) : Option Int32) = some o := hf
                  rw [hQ, ← Option.some.inj hf]
                  exact jIret hx hb hr hlocks d_To_signOf_117 (fun _ => 0) hS hP hD
              · rw [if_neg c1_6] at hf
                by_cases c1_7 : a1 = (124 : Int32)
                · rw [if_pos c1_7] at hf
                  refine lv_lookup (off := 87) (tgt := 88) hx hb d_To_signOf_1 (by decide) (by rw [c1_7]; decide) (by decide) ?_
                  refine lv_bipush (v := (23 : Int32)) hx hb d_To_signOf_88 (by decide) ?_
                  have hf : (some (23 : Int32) : Option Int32) = some o := hf
                  rw [hQ, ← Option.some.inj hf]
                  exact jIret hx hb hr hlocks d_To_signOf_90 (fun _ => 0) hS hP hD
                · rw [if_neg c1_7] at hf
                  refine lv_lookup (off := 130) (tgt := 131) hx hb d_To_signOf_1 (by decide) (by rw [lv_osw c1_0 (by decide), lv_osw c1_1 (by decide), lv_osw c1_2 (by decide), lv_osw c1_3 (by decide), lv_osw c1_4 (by decide), lv_osw c1_5 (by decide), lv_osw c1_6 (by decide), lv_osw c1_7 (by decide)]; rfl) (by decide) ?_
                  refine lv_iconst (v := (1 : Int32)) hx hb d_To_signOf_131 (by decide) ?_
                  have hf : (some (1 : Int32) : Option Int32) = some o := hf
                  rw [hQ, ← Option.some.inj hf]
                  exact jIret hx hb hr hlocks d_To_signOf_132 (fun _ => 0) hS hP hD
theorem d_To_beginsAtom_0 : decode b_To_beginsAtom 0 = .ok (.iload_n 0, 1) := by decide +kernel
theorem d_To_beginsAtom_1 : decode b_To_beginsAtom 1 = .ok (.iconst 2, 1) := by decide +kernel
theorem d_To_beginsAtom_2 : decode b_To_beginsAtom 2 = .ok (.if_icmp .eq 20, 3) := by decide +kernel
theorem d_To_beginsAtom_5 : decode b_To_beginsAtom 5 = .ok (.iload_n 0, 1) := by decide +kernel
theorem d_To_beginsAtom_6 : decode b_To_beginsAtom 6 = .ok (.iconst 3, 1) := by decide +kernel
theorem d_To_beginsAtom_7 : decode b_To_beginsAtom 7 = .ok (.if_icmp .eq 15, 3) := by decide +kernel
theorem d_To_beginsAtom_10 : decode b_To_beginsAtom 10 = .ok (.iload_n 0, 1) := by decide +kernel
theorem d_To_beginsAtom_11 : decode b_To_beginsAtom 11 = .ok (.bipush 14, 2) := by decide +kernel
theorem d_To_beginsAtom_13 : decode b_To_beginsAtom 13 = .ok (.if_icmp .eq 9, 3) := by decide +kernel
theorem d_To_beginsAtom_16 : decode b_To_beginsAtom 16 = .ok (.iload_n 0, 1) := by decide +kernel
theorem d_To_beginsAtom_17 : decode b_To_beginsAtom 17 = .ok (.bipush 15, 2) := by decide +kernel
theorem d_To_beginsAtom_19 : decode b_To_beginsAtom 19 = .ok (.if_icmp .ne 7, 3) := by decide +kernel
theorem d_To_beginsAtom_22 : decode b_To_beginsAtom 22 = .ok (.iconst 1, 1) := by decide +kernel
theorem d_To_beginsAtom_23 : decode b_To_beginsAtom 23 = .ok (.goto 4, 3) := by decide +kernel
theorem d_To_beginsAtom_26 : decode b_To_beginsAtom 26 = .ok (.iconst 0, 1) := by decide +kernel
theorem d_To_beginsAtom_27 : decode b_To_beginsAtom 27 = .ok (.ireturn, 1) := by decide +kernel
noncomputable def To_beginsAtom_b22   : Option Int32 := some (vp_nar .boolean (1 : Int32))
noncomputable def f_To_beginsAtom   (a1 : Int32) : Option Int32 := if a1 = (2 : Int32) then (To_beginsAtom_b22) else (if a1 = (3 : Int32) then (To_beginsAtom_b22) else (if a1 = (14 : Int32) then (To_beginsAtom_b22) else (if a1 = (15 : Int32) then (To_beginsAtom_b22) else (some (vp_nar .boolean (0 : Int32))))))
set_option maxHeartbeats 4000000 in
set_option maxRecDepth 100000 in
theorem c_To_beginsAtom {l : Launch} {dC : Nat → ClassId} {dI : Nat → Nat → Nat} {cI cB cS : ClassId} {adK adV adR : Nat → Nat}   (a1 : Int32) {o : Int32} (hf : f_To_beginsAtom a1 = some o) : jMet l dC dI cI cB cS adK adV adR y_To_beginsAtom wd_To_beginsAtom { frames := 0, cells := 0, slots := 0, locals := 0 } [.int a1] [] (some (.int o)) (fun q => []) 0 0 := by
  refine jEntry (cc := b_To_beginsAtom) (maxL := 1) (ret := (some .boolean)) (by decide) rfl (Nat.le_of_ble_eq_true rfl) rfl (fun p e s m args below meth c A H locs ls Q hQ hx hb hr hml hown hts hlocks hnm hJ hA hP hD hS hl => ?_)
  have hK := hJ.K
  have hl : lv_has ls 1 [(0, .int a1)] := hl
  have B22 : ∀  (H : Heap) (locs : List Loc) (ls : Array Slot), To_beginsAtom_b22 = some o → va_P (dC, dI) vwCl [] H → va_D A [] → va_S A s.heap H locs → lv_has ls 1 [] → W p l e { frames := 0, cells := 0, slots := 0, locals := 0 } s m args below meth c H locs 0 0 Q (F0 m 22 ls []) := by
    intro  H locs ls hf hP hD hS hl
    unfold To_beginsAtom_b22 at hf
    refine lv_iconst (v := (1 : Int32)) hx hb d_To_beginsAtom_22 (by decide) ?_
    refine lv_goto (tgt := 27) hx hb d_To_beginsAtom_23 (by decide) ?_
    have hf : (some (vp_nar .boolean (1 : Int32)) : Option Int32) = some o := hf
    rw [hQ, ← Option.some.inj hf]
    exact jNret hx hb hr rfl hlocks d_To_beginsAtom_27 (fun _ => 0) hS hP hD
  unfold f_To_beginsAtom at hf
  refine lv_iload_n hx hb d_To_beginsAtom_0 rfl (lv_at hl 0 rfl) ?_
  refine lv_iconst (v := (2 : Int32)) hx hb d_To_beginsAtom_1 (by decide) ?_
  refine lv_icmp_eq (tgt := 22) hx hb d_To_beginsAtom_2 (by decide) (fun c2 => ?_) (fun c2 => ?_)
  · rw [if_pos c2] at hf
    exact B22  H locs ls hf hP hD hS (lv_sub hl [] rfl)
  · rw [if_neg c2] at hf
    refine lv_iload_n hx hb d_To_beginsAtom_5 rfl (lv_at hl 0 rfl) ?_
    refine lv_iconst (v := (3 : Int32)) hx hb d_To_beginsAtom_6 (by decide) ?_
    refine lv_icmp_eq (tgt := 22) hx hb d_To_beginsAtom_7 (by decide) (fun c7 => ?_) (fun c7 => ?_)
    · rw [if_pos c7] at hf
      exact B22  H locs ls hf hP hD hS (lv_sub hl [] rfl)
    · rw [if_neg c7] at hf
      refine lv_iload_n hx hb d_To_beginsAtom_10 rfl (lv_at hl 0 rfl) ?_
      refine lv_bipush (v := (14 : Int32)) hx hb d_To_beginsAtom_11 (by decide) ?_
      refine lv_icmp_eq (tgt := 22) hx hb d_To_beginsAtom_13 (by decide) (fun c13 => ?_) (fun c13 => ?_)
      · rw [if_pos c13] at hf
        exact B22  H locs ls hf hP hD hS (lv_sub hl [] rfl)
      · rw [if_neg c13] at hf
        refine lv_iload_n hx hb d_To_beginsAtom_16 rfl (lv_at hl 0 rfl) ?_
        refine lv_bipush (v := (15 : Int32)) hx hb d_To_beginsAtom_17 (by decide) ?_
        refine lv_icmp_ne (tgt := 26) hx hb d_To_beginsAtom_19 (by decide) (fun c19 => ?_) (fun c19 => ?_)
        · rw [if_neg c19] at hf
          refine lv_iconst (v := (0 : Int32)) hx hb d_To_beginsAtom_26 (by decide) ?_
          have hf : (some (vp_nar .boolean (0 : Int32)) : Option Int32) = some o := hf
          rw [hQ, ← Option.some.inj hf]
          exact jNret hx hb hr rfl hlocks d_To_beginsAtom_27 (fun _ => 0) hS hP hD
        · rw [if_pos c19] at hf
          exact B22  H locs ls hf hP hD hS (lv_sub hl [] rfl)
theorem d_Tk_init_0 : decode b_Tk_init 0 = .ok (.aload_n 0, 1) := by decide +kernel
theorem d_Tk_init_1 : decode b_Tk_init 1 = .ok (.invokespecial 3, 3) := by decide +kernel
theorem d_Tk_init_4 : decode b_Tk_init 4 = .ok (.aload_n 0, 1) := by decide +kernel
theorem d_Tk_init_5 : decode b_Tk_init 5 = .ok (.sipush 8001, 3) := by decide +kernel
theorem d_Tk_init_8 : decode b_Tk_init 8 = .ok (.newarray .int, 2) := by decide +kernel
theorem d_Tk_init_10 : decode b_Tk_init 10 = .ok (.putfield 9, 3) := by decide +kernel
theorem d_Tk_init_13 : decode b_Tk_init 13 = .ok (.aload_n 0, 1) := by decide +kernel
theorem d_Tk_init_14 : decode b_Tk_init 14 = .ok (.sipush 8001, 3) := by decide +kernel
theorem d_Tk_init_17 : decode b_Tk_init 17 = .ok (.newarray .int, 2) := by decide +kernel
theorem d_Tk_init_19 : decode b_Tk_init 19 = .ok (.putfield 15, 3) := by decide +kernel
theorem d_Tk_init_22 : decode b_Tk_init 22 = .ok (.aload_n 0, 1) := by decide +kernel
theorem d_Tk_init_23 : decode b_Tk_init 23 = .ok (.sipush 8001, 3) := by decide +kernel
theorem d_Tk_init_26 : decode b_Tk_init 26 = .ok (.newarray .int, 2) := by decide +kernel
theorem d_Tk_init_28 : decode b_Tk_init 28 = .ok (.putfield 18, 3) := by decide +kernel
theorem d_Tk_init_31 : decode b_Tk_init 31 = .ok (.aload_n 0, 1) := by decide +kernel
theorem d_Tk_init_32 : decode b_Tk_init 32 = .ok (.iconst 0, 1) := by decide +kernel
theorem d_Tk_init_33 : decode b_Tk_init 33 = .ok (.putfield 21, 3) := by decide +kernel
theorem d_Tk_init_36 : decode b_Tk_init 36 = .ok (.aload_n 0, 1) := by decide +kernel
theorem d_Tk_init_37 : decode b_Tk_init 37 = .ok (.iconst 0, 1) := by decide +kernel
theorem d_Tk_init_38 : decode b_Tk_init 38 = .ok (.putfield 25, 3) := by decide +kernel
theorem d_Tk_init_41 : decode b_Tk_init 41 = .ok (.return_, 1) := by decide +kernel
set_option maxHeartbeats 4000000 in
set_option maxRecDepth 100000 in
theorem c_Tk_init {l : Launch} {dC : Nat → ClassId} {dI : Nat → Nat → Nat} {cI cB cS : ClassId} {adK adV adR : Nat → Nat} (h_t : Nat) : jMet l dC dI cI cB cS adK adV adR y_Tk_init wd_Tk_init { frames := 1, cells := 3, slots := 24003, locals := 12 } [.ref h_t] [(h_t, .inr (4, [.null, .null, .null, .int 0, .int 0]))] (none) (fun q => [(h_t, .inr (4, [.ref (q 0), .ref (q 1), .ref (q 2), .int (0 : Int32), .int (0 : Int32)])), ((q 0), .inl (cI, 8001, .inl (fun _ => 0))), ((q 1), .inl (cI, 8001, .inl (fun _ => 0))), ((q 2), .inl (cI, 8001, .inl (fun _ => 0)))]) 3 24003 := by
  refine jEntry (cc := b_Tk_init) (maxL := 1) (ret := none) (by decide) rfl (Nat.le_of_ble_eq_true rfl) rfl (fun p e s m args below meth c A H locs ls Q hQ hx hb hr hml hown hts hlocks hnm hJ hA hP hD hS hl => ?_)
  have hK := hJ.K
  have hl : lv_has ls 1 [(0, .ref h_t)] := hl
  subst hQ
  refine lv_aload_n hx hb d_Tk_init_0 rfl (lv_at hl 0 rfl) ?_
  refine W.objInit hx hb hown (hts _ (List.mem_cons_of_mem _ jw71)) (hts _ (List.mem_cons_of_mem _ jw25)) (hts _ (List.mem_cons_of_mem _ jw26)) rfl (by rw [hml]; exact hl.1) rfl d_Tk_init_1 (Nat.le_of_ble_eq_true rfl) (Nat.le_of_ble_eq_true rfl) ?_
  refine W.eq (g2 := F0 m 4 ls []) rfl ?_
  refine lv_aload_n hx hb d_Tk_init_4 rfl (lv_at hl 0 rfl) ?_
  refine lv_sipush (v := (8001 : Int32)) hx hb d_Tk_init_5 (by decide) ?_
  refine va_newa (atype := .int) (ty := .int) (a0 := (8001, .inl (fun _ => 0))) hx hb (hts _ (List.mem_cons_of_mem _ jw42)) rfl hK hP hD hS hA (fun _ => rfl) (by decide) (by decide) (by decide) (Nat.le_of_ble_eq_true rfl) (Nat.le_of_ble_eq_true rfl) d_Tk_init_8 (fun q8 cA H hKn hP hD hS => ?_)
  rw [j_clsI hKn] at hP hD
  have hP : va_P (dC, dI) vwCl [(h_t, .inr (4, [.null, .null, .null, .int 0, .int 0])), (q8, .inl (cI, 8001, .inl (fun _ => 0)))] H := hP
  have hD : va_D A [(h_t, .inr (4, [.null, .null, .null, .int 0, .int 0])), (q8, .inl (cI, 8001, .inl (fun _ => 0)))] := hD
  refine W.widen (k := 1) (n := 8001) (by decide) (by decide) ?_
  refine va_putF (D := (dC, dI)) (ci := 4) (v := .ref q8) (ty := (.array .int)) (C := R_Tk) (T := T_Tk) (N := 5) hx hb hts (fun w h => List.mem_cons_of_mem _ (in_Tk w h)) ty_Tk tyok_Tk nm_Tk hown hK hP hD hS 0 rfl rfl 0 (by decide) (hts _ (List.mem_cons_of_mem _ jw72)) (fun _ h9 => h9) rfl hnm rfl (by decide +kernel) rfl rfl (Nat.le_of_ble_eq_true rfl) d_Tk_init_10 (fun H locs hP hD hS => ?_)
  have hP : va_P (dC, dI) vwCl [(h_t, .inr (4, [.ref q8, .null, .null, .int 0, .int 0])), (q8, .inl (cI, 8001, .inl (fun _ => 0)))] H := hP
  have hD : va_D A [(h_t, .inr (4, [.ref q8, .null, .null, .int 0, .int 0])), (q8, .inl (cI, 8001, .inl (fun _ => 0)))] := hD
  refine lv_aload_n hx hb d_Tk_init_13 rfl (lv_at hl 0 rfl) ?_
  refine lv_sipush (v := (8001 : Int32)) hx hb d_Tk_init_14 (by decide) ?_
  refine va_newa (atype := .int) (ty := .int) (a0 := (8001, .inl (fun _ => 0))) hx hb (hts _ (List.mem_cons_of_mem _ jw42)) rfl hK hP hD hS hA (fun _ => rfl) (by decide) (by decide) (by decide) (Nat.le_of_ble_eq_true rfl) (Nat.le_of_ble_eq_true rfl) d_Tk_init_17 (fun q17 cA H hKn hP hD hS => ?_)
  rw [j_clsI hKn] at hP hD
  have hP : va_P (dC, dI) vwCl [(h_t, .inr (4, [.ref q8, .null, .null, .int 0, .int 0])), (q8, .inl (cI, 8001, .inl (fun _ => 0))), (q17, .inl (cI, 8001, .inl (fun _ => 0)))] H := hP
  have hD : va_D A [(h_t, .inr (4, [.ref q8, .null, .null, .int 0, .int 0])), (q8, .inl (cI, 8001, .inl (fun _ => 0))), (q17, .inl (cI, 8001, .inl (fun _ => 0)))] := hD
  refine W.widen (k := 2) (n := 16002) (by decide) (by decide) ?_
  refine va_putF (D := (dC, dI)) (ci := 4) (v := .ref q17) (ty := (.array .int)) (C := R_Tk) (T := T_Tk) (N := 5) hx hb hts (fun w h => List.mem_cons_of_mem _ (in_Tk w h)) ty_Tk tyok_Tk nm_Tk hown hK hP hD hS 0 rfl rfl 1 (by decide) (hts _ (List.mem_cons_of_mem _ jw73)) (fun _ h9 => h9) rfl hnm rfl (by decide +kernel) rfl rfl (Nat.le_of_ble_eq_true rfl) d_Tk_init_19 (fun H locs hP hD hS => ?_)
  have hP : va_P (dC, dI) vwCl [(h_t, .inr (4, [.ref q8, .ref q17, .null, .int 0, .int 0])), (q8, .inl (cI, 8001, .inl (fun _ => 0))), (q17, .inl (cI, 8001, .inl (fun _ => 0)))] H := hP
  have hD : va_D A [(h_t, .inr (4, [.ref q8, .ref q17, .null, .int 0, .int 0])), (q8, .inl (cI, 8001, .inl (fun _ => 0))), (q17, .inl (cI, 8001, .inl (fun _ => 0)))] := hD
  refine lv_aload_n hx hb d_Tk_init_22 rfl (lv_at hl 0 rfl) ?_
  refine lv_sipush (v := (8001 : Int32)) hx hb d_Tk_init_23 (by decide) ?_
  refine va_newa (atype := .int) (ty := .int) (a0 := (8001, .inl (fun _ => 0))) hx hb (hts _ (List.mem_cons_of_mem _ jw42)) rfl hK hP hD hS hA (fun _ => rfl) (by decide) (by decide) (by decide) (Nat.le_of_ble_eq_true rfl) (Nat.le_of_ble_eq_true rfl) d_Tk_init_26 (fun q26 cA H hKn hP hD hS => ?_)
  rw [j_clsI hKn] at hP hD
  have hP : va_P (dC, dI) vwCl [(h_t, .inr (4, [.ref q8, .ref q17, .null, .int 0, .int 0])), (q8, .inl (cI, 8001, .inl (fun _ => 0))), (q17, .inl (cI, 8001, .inl (fun _ => 0))), (q26, .inl (cI, 8001, .inl (fun _ => 0)))] H := hP
  have hD : va_D A [(h_t, .inr (4, [.ref q8, .ref q17, .null, .int 0, .int 0])), (q8, .inl (cI, 8001, .inl (fun _ => 0))), (q17, .inl (cI, 8001, .inl (fun _ => 0))), (q26, .inl (cI, 8001, .inl (fun _ => 0)))] := hD
  refine W.widen (k := 3) (n := 24003) (by decide) (by decide) ?_
  refine va_putF (D := (dC, dI)) (ci := 4) (v := .ref q26) (ty := (.array .int)) (C := R_Tk) (T := T_Tk) (N := 5) hx hb hts (fun w h => List.mem_cons_of_mem _ (in_Tk w h)) ty_Tk tyok_Tk nm_Tk hown hK hP hD hS 0 rfl rfl 2 (by decide) (hts _ (List.mem_cons_of_mem _ jw74)) (fun _ h9 => h9) rfl hnm rfl (by decide +kernel) rfl rfl (Nat.le_of_ble_eq_true rfl) d_Tk_init_28 (fun H locs hP hD hS => ?_)
  have hP : va_P (dC, dI) vwCl [(h_t, .inr (4, [.ref q8, .ref q17, .ref q26, .int 0, .int 0])), (q8, .inl (cI, 8001, .inl (fun _ => 0))), (q17, .inl (cI, 8001, .inl (fun _ => 0))), (q26, .inl (cI, 8001, .inl (fun _ => 0)))] H := hP
  have hD : va_D A [(h_t, .inr (4, [.ref q8, .ref q17, .ref q26, .int 0, .int 0])), (q8, .inl (cI, 8001, .inl (fun _ => 0))), (q17, .inl (cI, 8001, .inl (fun _ => 0))), (q26, .inl (cI, 8001, .inl (fun _ => 0)))] := hD
  refine lv_aload_n hx hb d_Tk_init_31 rfl (lv_at hl 0 rfl) ?_
  refine lv_iconst (v := (0 : Int32)) hx hb d_Tk_init_32 (by decide) ?_
  refine va_put (D := (dC, dI)) (ci := 4) (v := .int (0 : Int32)) (ty := .int) (C := R_Tk) (T := T_Tk) (N := 5) hx hb hts (fun w h => List.mem_cons_of_mem _ (in_Tk w h)) ty_Tk tyok_Tk nm_Tk hown hK hP hD hS 0 rfl rfl 3 (by decide) (hts _ (List.mem_cons_of_mem _ jw75)) (fun _ h9 => h9) rfl (by decide +kernel) rfl rfl (Nat.le_of_ble_eq_true rfl) d_Tk_init_33 (fun H locs hP hD hS => ?_)
  have hP : va_P (dC, dI) vwCl [(h_t, .inr (4, [.ref q8, .ref q17, .ref q26, .int (0 : Int32), .int 0])), (q8, .inl (cI, 8001, .inl (fun _ => 0))), (q17, .inl (cI, 8001, .inl (fun _ => 0))), (q26, .inl (cI, 8001, .inl (fun _ => 0)))] H := hP
  have hD : va_D A [(h_t, .inr (4, [.ref q8, .ref q17, .ref q26, .int (0 : Int32), .int 0])), (q8, .inl (cI, 8001, .inl (fun _ => 0))), (q17, .inl (cI, 8001, .inl (fun _ => 0))), (q26, .inl (cI, 8001, .inl (fun _ => 0)))] := hD
  refine lv_aload_n hx hb d_Tk_init_36 rfl (lv_at hl 0 rfl) ?_
  refine lv_iconst (v := (0 : Int32)) hx hb d_Tk_init_37 (by decide) ?_
  refine va_put (D := (dC, dI)) (ci := 4) (v := .int (0 : Int32)) (ty := .int) (C := R_Tk) (T := T_Tk) (N := 5) hx hb hts (fun w h => List.mem_cons_of_mem _ (in_Tk w h)) ty_Tk tyok_Tk nm_Tk hown hK hP hD hS 0 rfl rfl 4 (by decide) (hts _ (List.mem_cons_of_mem _ jw76)) (fun _ h9 => h9) rfl (by decide +kernel) rfl rfl (Nat.le_of_ble_eq_true rfl) d_Tk_init_38 (fun H locs hP hD hS => ?_)
  have hP : va_P (dC, dI) vwCl [(h_t, .inr (4, [.ref q8, .ref q17, .ref q26, .int (0 : Int32), .int (0 : Int32)])), (q8, .inl (cI, 8001, .inl (fun _ => 0))), (q17, .inl (cI, 8001, .inl (fun _ => 0))), (q26, .inl (cI, 8001, .inl (fun _ => 0)))] H := hP
  have hD : va_D A [(h_t, .inr (4, [.ref q8, .ref q17, .ref q26, .int (0 : Int32), .int (0 : Int32)])), (q8, .inl (cI, 8001, .inl (fun _ => 0))), (q17, .inl (cI, 8001, .inl (fun _ => 0))), (q26, .inl (cI, 8001, .inl (fun _ => 0)))] := hD
  refine W.widen (k := 3) (n := 24003) (by decide) (by decide) ?_
  exact jVret hx hb hr hlocks d_Tk_init_41 (fun n => [q8, q17, q26].getD n 0) hS hP hD
theorem d_Tk_nextKind_0 : decode b_Tk_nextKind 0 = .ok (.aload_n 0, 1) := by decide +kernel
theorem d_Tk_nextKind_1 : decode b_Tk_nextKind 1 = .ok (.getfield 25, 3) := by decide +kernel
theorem d_Tk_nextKind_4 : decode b_Tk_nextKind 4 = .ok (.aload_n 0, 1) := by decide +kernel
theorem d_Tk_nextKind_5 : decode b_Tk_nextKind 5 = .ok (.getfield 21, 3) := by decide +kernel
theorem d_Tk_nextKind_8 : decode b_Tk_nextKind 8 = .ok (.if_icmp .ge 15, 3) := by decide +kernel
theorem d_Tk_nextKind_11 : decode b_Tk_nextKind 11 = .ok (.aload_n 0, 1) := by decide +kernel
theorem d_Tk_nextKind_12 : decode b_Tk_nextKind 12 = .ok (.getfield 9, 3) := by decide +kernel
theorem d_Tk_nextKind_15 : decode b_Tk_nextKind 15 = .ok (.aload_n 0, 1) := by decide +kernel
theorem d_Tk_nextKind_16 : decode b_Tk_nextKind 16 = .ok (.getfield 25, 3) := by decide +kernel
theorem d_Tk_nextKind_19 : decode b_Tk_nextKind 19 = .ok (.iaload, 1) := by decide +kernel
theorem d_Tk_nextKind_20 : decode b_Tk_nextKind 20 = .ok (.goto 4, 3) := by decide +kernel
theorem d_Tk_nextKind_23 : decode b_Tk_nextKind 23 = .ok (.iconst 1, 1) := by decide +kernel
theorem d_Tk_nextKind_24 : decode b_Tk_nextKind 24 = .ok (.ireturn, 1) := by decide +kernel
noncomputable def f_Tk_nextKind (t_kinds : (Nat → Int32)) (t_count : Int32) (t_next : Int32)   : Option Int32 := if t_count ≤ t_next then (some (1 : Int32)) else (if t_next < 0 ∨ 8001 ≤ t_next.toNatClampNeg then none else (some (t_kinds t_next.toNatClampNeg)))
set_option maxHeartbeats 4000000 in
set_option maxRecDepth 100000 in
theorem c_Tk_nextKind {l : Launch} {dC : Nat → ClassId} {dI : Nat → Nat → Nat} {cI cB cS : ClassId} {adK adV adR : Nat → Nat} (h_t h_t_kinds h_t_places h_t_values : Nat) (t_kinds : (Nat → Int32)) (t_places : (Nat → Int32)) (t_values : (Nat → Int32)) (t_count : Int32) (t_next : Int32)  {o : Int32} (hf : f_Tk_nextKind t_kinds t_count t_next = some o) : jMet l dC dI cI cB cS adK adV adR y_Tk_nextKind wd_Tk_nextKind { frames := 0, cells := 0, slots := 0, locals := 0 } [.ref h_t] [(h_t, .inr (4, [.ref h_t_kinds, .ref h_t_places, .ref h_t_values, .int t_count, .int t_next])), (h_t_kinds, .inl (cI, 8001, .inl t_kinds)), (h_t_places, .inl (cI, 8001, .inl t_places)), (h_t_values, .inl (cI, 8001, .inl t_values))] (some (.int o)) (fun q => [(h_t, .inr (4, [.ref h_t_kinds, .ref h_t_places, .ref h_t_values, .int t_count, .int t_next])), (h_t_kinds, .inl (cI, 8001, .inl t_kinds)), (h_t_places, .inl (cI, 8001, .inl t_places)), (h_t_values, .inl (cI, 8001, .inl t_values))]) 0 0 := by
  refine jEntry (cc := b_Tk_nextKind) (maxL := 1) (ret := (some .int)) (by decide) rfl (Nat.le_of_ble_eq_true rfl) rfl (fun p e s m args below meth c A H locs ls Q hQ hx hb hr hml hown hts hlocks hnm hJ hA hP hD hS hl => ?_)
  have hK := hJ.K
  have hl : lv_has ls 1 [(0, .ref h_t)] := hl
  unfold f_Tk_nextKind at hf
  refine lv_aload_n hx hb d_Tk_nextKind_0 rfl (lv_at hl 0 rfl) ?_
  refine va_get (D := (dC, dI)) (ci := 4) (v := .int t_next) (C := R_Tk) (T := T_Tk) (N := 5) hx hb hts (fun w h => List.mem_cons_of_mem _ (in_Tk w h)) hown hK hP 0 rfl rfl 4 (by decide) (hts _ (List.mem_cons_of_mem _ jw76)) (fun _ h9 => h9) rfl d_Tk_nextKind_1 ?_
  refine lv_aload_n hx hb d_Tk_nextKind_4 rfl (lv_at hl 0 rfl) ?_
  refine va_get (D := (dC, dI)) (ci := 4) (v := .int t_count) (C := R_Tk) (T := T_Tk) (N := 5) hx hb hts (fun w h => List.mem_cons_of_mem _ (in_Tk w h)) hown hK hP 0 rfl rfl 3 (by decide) (hts _ (List.mem_cons_of_mem _ jw75)) (fun _ h9 => h9) rfl d_Tk_nextKind_5 ?_
  refine lv_icmp_ge (tgt := 23) hx hb d_Tk_nextKind_8 (by decide) (fun c8 => ?_) (fun c8 => ?_)
  · rw [if_pos c8] at hf
    refine lv_iconst (v := (1 : Int32)) hx hb d_Tk_nextKind_23 (by decide) ?_
    have hf : (some (1 : Int32) : Option Int32) = some o := hf
    rw [hQ, ← Option.some.inj hf]
    exact jIret hx hb hr hlocks d_Tk_nextKind_24 (fun _ => 0) hS hP hD
  · rw [if_neg c8] at hf
    refine lv_aload_n hx hb d_Tk_nextKind_11 rfl (lv_at hl 0 rfl) ?_
    refine va_get (D := (dC, dI)) (ci := 4) (v := .ref h_t_kinds) (C := R_Tk) (T := T_Tk) (N := 5) hx hb hts (fun w h => List.mem_cons_of_mem _ (in_Tk w h)) hown hK hP 0 rfl rfl 0 (by decide) (hts _ (List.mem_cons_of_mem _ jw72)) (fun _ h9 => h9) rfl d_Tk_nextKind_12 ?_
    refine lv_aload_n hx hb d_Tk_nextKind_15 rfl (lv_at hl 0 rfl) ?_
    refine va_get (D := (dC, dI)) (ci := 4) (v := .int t_next) (C := R_Tk) (T := T_Tk) (N := 5) hx hb hts (fun w h => List.mem_cons_of_mem _ (in_Tk w h)) hown hK hP 0 rfl rfl 4 (by decide) (hts _ (List.mem_cons_of_mem _ jw76)) (fun _ h9 => h9) rfl d_Tk_nextKind_16 ?_
    have c19 : ¬ (t_next < 0 ∨ 8001 ≤ t_next.toNatClampNeg) := by intro z; rw [if_pos z] at hf; simp only [jb_none, jl_b_none, jm_none, reduceCtorEq] at hf
    rw [if_neg c19] at hf
    refine va_iald hx hb hK hP 1 0 rfl rfl c19 d_Tk_nextKind_19 ?_
    refine lv_goto (tgt := 24) hx hb d_Tk_nextKind_20 (by decide) ?_
    have hf : (some (t_kinds t_next.toNatClampNeg) : Option Int32) = some o := hf
    rw [hQ, ← Option.some.inj hf]
    exact jIret hx hb hr hlocks d_Tk_nextKind_24 (fun _ => 0) hS hP hD
theorem d_Tk_nextPlace_0 : decode b_Tk_nextPlace 0 = .ok (.aload_n 0, 1) := by decide +kernel
theorem d_Tk_nextPlace_1 : decode b_Tk_nextPlace 1 = .ok (.getfield 25, 3) := by decide +kernel
theorem d_Tk_nextPlace_4 : decode b_Tk_nextPlace 4 = .ok (.aload_n 0, 1) := by decide +kernel
theorem d_Tk_nextPlace_5 : decode b_Tk_nextPlace 5 = .ok (.getfield 21, 3) := by decide +kernel
theorem d_Tk_nextPlace_8 : decode b_Tk_nextPlace 8 = .ok (.if_icmp .ge 15, 3) := by decide +kernel
theorem d_Tk_nextPlace_11 : decode b_Tk_nextPlace 11 = .ok (.aload_n 0, 1) := by decide +kernel
theorem d_Tk_nextPlace_12 : decode b_Tk_nextPlace 12 = .ok (.getfield 15, 3) := by decide +kernel
theorem d_Tk_nextPlace_15 : decode b_Tk_nextPlace 15 = .ok (.aload_n 0, 1) := by decide +kernel
theorem d_Tk_nextPlace_16 : decode b_Tk_nextPlace 16 = .ok (.getfield 25, 3) := by decide +kernel
theorem d_Tk_nextPlace_19 : decode b_Tk_nextPlace 19 = .ok (.iaload, 1) := by decide +kernel
theorem d_Tk_nextPlace_20 : decode b_Tk_nextPlace 20 = .ok (.goto 4, 3) := by decide +kernel
theorem d_Tk_nextPlace_23 : decode b_Tk_nextPlace 23 = .ok (.iconst (-1), 1) := by decide +kernel
theorem d_Tk_nextPlace_24 : decode b_Tk_nextPlace 24 = .ok (.ireturn, 1) := by decide +kernel
noncomputable def f_Tk_nextPlace (t_places : (Nat → Int32)) (t_count : Int32) (t_next : Int32)   : Option Int32 := if t_count ≤ t_next then (some (-1 : Int32)) else (if t_next < 0 ∨ 8001 ≤ t_next.toNatClampNeg then none else (some (t_places t_next.toNatClampNeg)))
set_option maxHeartbeats 4000000 in
set_option maxRecDepth 100000 in
theorem c_Tk_nextPlace {l : Launch} {dC : Nat → ClassId} {dI : Nat → Nat → Nat} {cI cB cS : ClassId} {adK adV adR : Nat → Nat} (h_t h_t_kinds h_t_places h_t_values : Nat) (t_kinds : (Nat → Int32)) (t_places : (Nat → Int32)) (t_values : (Nat → Int32)) (t_count : Int32) (t_next : Int32)  {o : Int32} (hf : f_Tk_nextPlace t_places t_count t_next = some o) : jMet l dC dI cI cB cS adK adV adR y_Tk_nextPlace wd_Tk_nextPlace { frames := 0, cells := 0, slots := 0, locals := 0 } [.ref h_t] [(h_t, .inr (4, [.ref h_t_kinds, .ref h_t_places, .ref h_t_values, .int t_count, .int t_next])), (h_t_kinds, .inl (cI, 8001, .inl t_kinds)), (h_t_places, .inl (cI, 8001, .inl t_places)), (h_t_values, .inl (cI, 8001, .inl t_values))] (some (.int o)) (fun q => [(h_t, .inr (4, [.ref h_t_kinds, .ref h_t_places, .ref h_t_values, .int t_count, .int t_next])), (h_t_kinds, .inl (cI, 8001, .inl t_kinds)), (h_t_places, .inl (cI, 8001, .inl t_places)), (h_t_values, .inl (cI, 8001, .inl t_values))]) 0 0 := by
  refine jEntry (cc := b_Tk_nextPlace) (maxL := 1) (ret := (some .int)) (by decide) rfl (Nat.le_of_ble_eq_true rfl) rfl (fun p e s m args below meth c A H locs ls Q hQ hx hb hr hml hown hts hlocks hnm hJ hA hP hD hS hl => ?_)
  have hK := hJ.K
  have hl : lv_has ls 1 [(0, .ref h_t)] := hl
  unfold f_Tk_nextPlace at hf
  refine lv_aload_n hx hb d_Tk_nextPlace_0 rfl (lv_at hl 0 rfl) ?_
  refine va_get (D := (dC, dI)) (ci := 4) (v := .int t_next) (C := R_Tk) (T := T_Tk) (N := 5) hx hb hts (fun w h => List.mem_cons_of_mem _ (in_Tk w h)) hown hK hP 0 rfl rfl 4 (by decide) (hts _ (List.mem_cons_of_mem _ jw76)) (fun _ h9 => h9) rfl d_Tk_nextPlace_1 ?_
  refine lv_aload_n hx hb d_Tk_nextPlace_4 rfl (lv_at hl 0 rfl) ?_
  refine va_get (D := (dC, dI)) (ci := 4) (v := .int t_count) (C := R_Tk) (T := T_Tk) (N := 5) hx hb hts (fun w h => List.mem_cons_of_mem _ (in_Tk w h)) hown hK hP 0 rfl rfl 3 (by decide) (hts _ (List.mem_cons_of_mem _ jw75)) (fun _ h9 => h9) rfl d_Tk_nextPlace_5 ?_
  refine lv_icmp_ge (tgt := 23) hx hb d_Tk_nextPlace_8 (by decide) (fun c8 => ?_) (fun c8 => ?_)
  · rw [if_pos c8] at hf
    refine lv_iconst (v := (-1 : Int32)) hx hb d_Tk_nextPlace_23 (by decide) ?_
    have hf : (some (-1 : Int32) : Option Int32) = some o := hf
    rw [hQ, ← Option.some.inj hf]
    exact jIret hx hb hr hlocks d_Tk_nextPlace_24 (fun _ => 0) hS hP hD
  · rw [if_neg c8] at hf
    refine lv_aload_n hx hb d_Tk_nextPlace_11 rfl (lv_at hl 0 rfl) ?_
    refine va_get (D := (dC, dI)) (ci := 4) (v := .ref h_t_places) (C := R_Tk) (T := T_Tk) (N := 5) hx hb hts (fun w h => List.mem_cons_of_mem _ (in_Tk w h)) hown hK hP 0 rfl rfl 1 (by decide) (hts _ (List.mem_cons_of_mem _ jw73)) (fun _ h9 => h9) rfl d_Tk_nextPlace_12 ?_
    refine lv_aload_n hx hb d_Tk_nextPlace_15 rfl (lv_at hl 0 rfl) ?_
    refine va_get (D := (dC, dI)) (ci := 4) (v := .int t_next) (C := R_Tk) (T := T_Tk) (N := 5) hx hb hts (fun w h => List.mem_cons_of_mem _ (in_Tk w h)) hown hK hP 0 rfl rfl 4 (by decide) (hts _ (List.mem_cons_of_mem _ jw76)) (fun _ h9 => h9) rfl d_Tk_nextPlace_16 ?_
    have c19 : ¬ (t_next < 0 ∨ 8001 ≤ t_next.toNatClampNeg) := by intro z; rw [if_pos z] at hf; simp only [jb_none, jl_b_none, jm_none, reduceCtorEq] at hf
    rw [if_neg c19] at hf
    refine va_iald hx hb hK hP 2 0 rfl rfl c19 d_Tk_nextPlace_19 ?_
    refine lv_goto (tgt := 24) hx hb d_Tk_nextPlace_20 (by decide) ?_
    have hf : (some (t_places t_next.toNatClampNeg) : Option Int32) = some o := hf
    rw [hQ, ← Option.some.inj hf]
    exact jIret hx hb hr hlocks d_Tk_nextPlace_24 (fun _ => 0) hS hP hD
theorem d_Tk_nextValue_0 : decode b_Tk_nextValue 0 = .ok (.aload_n 0, 1) := by decide +kernel
theorem d_Tk_nextValue_1 : decode b_Tk_nextValue 1 = .ok (.getfield 25, 3) := by decide +kernel
theorem d_Tk_nextValue_4 : decode b_Tk_nextValue 4 = .ok (.aload_n 0, 1) := by decide +kernel
theorem d_Tk_nextValue_5 : decode b_Tk_nextValue 5 = .ok (.getfield 21, 3) := by decide +kernel
theorem d_Tk_nextValue_8 : decode b_Tk_nextValue 8 = .ok (.if_icmp .ge 15, 3) := by decide +kernel
theorem d_Tk_nextValue_11 : decode b_Tk_nextValue 11 = .ok (.aload_n 0, 1) := by decide +kernel
theorem d_Tk_nextValue_12 : decode b_Tk_nextValue 12 = .ok (.getfield 18, 3) := by decide +kernel
theorem d_Tk_nextValue_15 : decode b_Tk_nextValue 15 = .ok (.aload_n 0, 1) := by decide +kernel
theorem d_Tk_nextValue_16 : decode b_Tk_nextValue 16 = .ok (.getfield 25, 3) := by decide +kernel
theorem d_Tk_nextValue_19 : decode b_Tk_nextValue 19 = .ok (.iaload, 1) := by decide +kernel
theorem d_Tk_nextValue_20 : decode b_Tk_nextValue 20 = .ok (.goto 4, 3) := by decide +kernel
theorem d_Tk_nextValue_23 : decode b_Tk_nextValue 23 = .ok (.iconst 0, 1) := by decide +kernel
theorem d_Tk_nextValue_24 : decode b_Tk_nextValue 24 = .ok (.ireturn, 1) := by decide +kernel
noncomputable def f_Tk_nextValue (t_values : (Nat → Int32)) (t_count : Int32) (t_next : Int32)   : Option Int32 := if t_count ≤ t_next then (some (0 : Int32)) else (if t_next < 0 ∨ 8001 ≤ t_next.toNatClampNeg then none else (some (t_values t_next.toNatClampNeg)))
set_option maxHeartbeats 4000000 in
set_option maxRecDepth 100000 in
theorem c_Tk_nextValue {l : Launch} {dC : Nat → ClassId} {dI : Nat → Nat → Nat} {cI cB cS : ClassId} {adK adV adR : Nat → Nat} (h_t h_t_kinds h_t_places h_t_values : Nat) (t_kinds : (Nat → Int32)) (t_places : (Nat → Int32)) (t_values : (Nat → Int32)) (t_count : Int32) (t_next : Int32)  {o : Int32} (hf : f_Tk_nextValue t_values t_count t_next = some o) : jMet l dC dI cI cB cS adK adV adR y_Tk_nextValue wd_Tk_nextValue { frames := 0, cells := 0, slots := 0, locals := 0 } [.ref h_t] [(h_t, .inr (4, [.ref h_t_kinds, .ref h_t_places, .ref h_t_values, .int t_count, .int t_next])), (h_t_kinds, .inl (cI, 8001, .inl t_kinds)), (h_t_places, .inl (cI, 8001, .inl t_places)), (h_t_values, .inl (cI, 8001, .inl t_values))] (some (.int o)) (fun q => [(h_t, .inr (4, [.ref h_t_kinds, .ref h_t_places, .ref h_t_values, .int t_count, .int t_next])), (h_t_kinds, .inl (cI, 8001, .inl t_kinds)), (h_t_places, .inl (cI, 8001, .inl t_places)), (h_t_values, .inl (cI, 8001, .inl t_values))]) 0 0 := by
  refine jEntry (cc := b_Tk_nextValue) (maxL := 1) (ret := (some .int)) (by decide) rfl (Nat.le_of_ble_eq_true rfl) rfl (fun p e s m args below meth c A H locs ls Q hQ hx hb hr hml hown hts hlocks hnm hJ hA hP hD hS hl => ?_)
  have hK := hJ.K
  have hl : lv_has ls 1 [(0, .ref h_t)] := hl
  unfold f_Tk_nextValue at hf
  refine lv_aload_n hx hb d_Tk_nextValue_0 rfl (lv_at hl 0 rfl) ?_
  refine va_get (D := (dC, dI)) (ci := 4) (v := .int t_next) (C := R_Tk) (T := T_Tk) (N := 5) hx hb hts (fun w h => List.mem_cons_of_mem _ (in_Tk w h)) hown hK hP 0 rfl rfl 4 (by decide) (hts _ (List.mem_cons_of_mem _ jw76)) (fun _ h9 => h9) rfl d_Tk_nextValue_1 ?_
  refine lv_aload_n hx hb d_Tk_nextValue_4 rfl (lv_at hl 0 rfl) ?_
  refine va_get (D := (dC, dI)) (ci := 4) (v := .int t_count) (C := R_Tk) (T := T_Tk) (N := 5) hx hb hts (fun w h => List.mem_cons_of_mem _ (in_Tk w h)) hown hK hP 0 rfl rfl 3 (by decide) (hts _ (List.mem_cons_of_mem _ jw75)) (fun _ h9 => h9) rfl d_Tk_nextValue_5 ?_
  refine lv_icmp_ge (tgt := 23) hx hb d_Tk_nextValue_8 (by decide) (fun c8 => ?_) (fun c8 => ?_)
  · rw [if_pos c8] at hf
    refine lv_iconst (v := (0 : Int32)) hx hb d_Tk_nextValue_23 (by decide) ?_
    have hf : (some (0 : Int32) : Option Int32) = some o := hf
    rw [hQ, ← Option.some.inj hf]
    exact jIret hx hb hr hlocks d_Tk_nextValue_24 (fun _ => 0) hS hP hD
  · rw [if_neg c8] at hf
    refine lv_aload_n hx hb d_Tk_nextValue_11 rfl (lv_at hl 0 rfl) ?_
    refine va_get (D := (dC, dI)) (ci := 4) (v := .ref h_t_values) (C := R_Tk) (T := T_Tk) (N := 5) hx hb hts (fun w h => List.mem_cons_of_mem _ (in_Tk w h)) hown hK hP 0 rfl rfl 2 (by decide) (hts _ (List.mem_cons_of_mem _ jw74)) (fun _ h9 => h9) rfl d_Tk_nextValue_12 ?_
    refine lv_aload_n hx hb d_Tk_nextValue_15 rfl (lv_at hl 0 rfl) ?_
    refine va_get (D := (dC, dI)) (ci := 4) (v := .int t_next) (C := R_Tk) (T := T_Tk) (N := 5) hx hb hts (fun w h => List.mem_cons_of_mem _ (in_Tk w h)) hown hK hP 0 rfl rfl 4 (by decide) (hts _ (List.mem_cons_of_mem _ jw76)) (fun _ h9 => h9) rfl d_Tk_nextValue_16 ?_
    have c19 : ¬ (t_next < 0 ∨ 8001 ≤ t_next.toNatClampNeg) := by intro z; rw [if_pos z] at hf; simp only [jb_none, jl_b_none, jm_none, reduceCtorEq] at hf
    rw [if_neg c19] at hf
    refine va_iald hx hb hK hP 3 0 rfl rfl c19 d_Tk_nextValue_19 ?_
    refine lv_goto (tgt := 24) hx hb d_Tk_nextValue_20 (by decide) ?_
    have hf : (some (t_values t_next.toNatClampNeg) : Option Int32) = some o := hf
    rw [hQ, ← Option.some.inj hf]
    exact jIret hx hb hr hlocks d_Tk_nextValue_24 (fun _ => 0) hS hP hD
theorem d_Tk_advance_0 : decode b_Tk_advance 0 = .ok (.aload_n 0, 1) := by decide +kernel
theorem d_Tk_advance_1 : decode b_Tk_advance 1 = .ok (.getfield 25, 3) := by decide +kernel
theorem d_Tk_advance_4 : decode b_Tk_advance 4 = .ok (.aload_n 0, 1) := by decide +kernel
theorem d_Tk_advance_5 : decode b_Tk_advance 5 = .ok (.getfield 21, 3) := by decide +kernel
theorem d_Tk_advance_8 : decode b_Tk_advance 8 = .ok (.if_icmp .ge 13, 3) := by decide +kernel
theorem d_Tk_advance_11 : decode b_Tk_advance 11 = .ok (.aload_n 0, 1) := by decide +kernel
theorem d_Tk_advance_12 : decode b_Tk_advance 12 = .ok (.dup, 1) := by decide +kernel
theorem d_Tk_advance_13 : decode b_Tk_advance 13 = .ok (.getfield 25, 3) := by decide +kernel
theorem d_Tk_advance_16 : decode b_Tk_advance 16 = .ok (.iconst 1, 1) := by decide +kernel
theorem d_Tk_advance_17 : decode b_Tk_advance 17 = .ok (.iadd, 1) := by decide +kernel
theorem d_Tk_advance_18 : decode b_Tk_advance 18 = .ok (.putfield 25, 3) := by decide +kernel
theorem d_Tk_advance_21 : decode b_Tk_advance 21 = .ok (.return_, 1) := by decide +kernel
noncomputable def f_Tk_advance (t_count : Int32) (t_next : Int32)  : Option Int32 := if t_count ≤ t_next then (some t_next) else (some (t_next + (1 : Int32)))
set_option maxHeartbeats 4000000 in
set_option maxRecDepth 100000 in
theorem c_Tk_advance {l : Launch} {dC : Nat → ClassId} {dI : Nat → Nat → Nat} {cI cB cS : ClassId} {adK adV adR : Nat → Nat} (h_t h_t_kinds h_t_places h_t_values : Nat) (t_kinds : (Nat → Int32)) (t_places : (Nat → Int32)) (t_values : (Nat → Int32)) (t_count : Int32) (t_next : Int32)  {o : Int32} (hf : f_Tk_advance t_count t_next = some o) : jMet l dC dI cI cB cS adK adV adR y_Tk_advance wd_Tk_advance { frames := 0, cells := 0, slots := 0, locals := 0 } [.ref h_t] [(h_t, .inr (4, [.ref h_t_kinds, .ref h_t_places, .ref h_t_values, .int t_count, .int t_next])), (h_t_kinds, .inl (cI, 8001, .inl t_kinds)), (h_t_places, .inl (cI, 8001, .inl t_places)), (h_t_values, .inl (cI, 8001, .inl t_values))] (none) (fun q => [(h_t, .inr (4, [.ref h_t_kinds, .ref h_t_places, .ref h_t_values, .int t_count, .int o])), (h_t_kinds, .inl (cI, 8001, .inl t_kinds)), (h_t_places, .inl (cI, 8001, .inl t_places)), (h_t_values, .inl (cI, 8001, .inl t_values))]) 0 0 := by
  refine jEntry (cc := b_Tk_advance) (maxL := 1) (ret := none) (by decide) rfl (Nat.le_of_ble_eq_true rfl) rfl (fun p e s m args below meth c A H locs ls Q hQ hx hb hr hml hown hts hlocks hnm hJ hA hP hD hS hl => ?_)
  have hK := hJ.K
  have hl : lv_has ls 1 [(0, .ref h_t)] := hl
  unfold f_Tk_advance at hf
  refine lv_aload_n hx hb d_Tk_advance_0 rfl (lv_at hl 0 rfl) ?_
  refine va_get (D := (dC, dI)) (ci := 4) (v := .int t_next) (C := R_Tk) (T := T_Tk) (N := 5) hx hb hts (fun w h => List.mem_cons_of_mem _ (in_Tk w h)) hown hK hP 0 rfl rfl 4 (by decide) (hts _ (List.mem_cons_of_mem _ jw76)) (fun _ h9 => h9) rfl d_Tk_advance_1 ?_
  refine lv_aload_n hx hb d_Tk_advance_4 rfl (lv_at hl 0 rfl) ?_
  refine va_get (D := (dC, dI)) (ci := 4) (v := .int t_count) (C := R_Tk) (T := T_Tk) (N := 5) hx hb hts (fun w h => List.mem_cons_of_mem _ (in_Tk w h)) hown hK hP 0 rfl rfl 3 (by decide) (hts _ (List.mem_cons_of_mem _ jw75)) (fun _ h9 => h9) rfl d_Tk_advance_5 ?_
  refine lv_icmp_ge (tgt := 21) hx hb d_Tk_advance_8 (by decide) (fun c8 => ?_) (fun c8 => ?_)
  · rw [if_pos c8] at hf
    have hf : (some t_next : Option Int32) = some o := hf
    rw [hQ, ← Option.some.inj hf]
    exact jVret hx hb hr hlocks d_Tk_advance_21 (fun _ => 0) hS hP hD
  · rw [if_neg c8] at hf
    refine lv_aload_n hx hb d_Tk_advance_11 rfl (lv_at hl 0 rfl) ?_
    refine lv_dup hx hb d_Tk_advance_12 rfl ?_
    refine va_get (D := (dC, dI)) (ci := 4) (v := .int t_next) (C := R_Tk) (T := T_Tk) (N := 5) hx hb hts (fun w h => List.mem_cons_of_mem _ (in_Tk w h)) hown hK hP 0 rfl rfl 4 (by decide) (hts _ (List.mem_cons_of_mem _ jw76)) (fun _ h9 => h9) rfl d_Tk_advance_13 ?_
    refine lv_iconst (v := (1 : Int32)) hx hb d_Tk_advance_16 (by decide) ?_
    refine lv_iadd hx hb d_Tk_advance_17 ?_
    refine va_put (D := (dC, dI)) (ci := 4) (v := .int (t_next + (1 : Int32))) (ty := .int) (C := R_Tk) (T := T_Tk) (N := 5) hx hb hts (fun w h => List.mem_cons_of_mem _ (in_Tk w h)) ty_Tk tyok_Tk nm_Tk hown hK hP hD hS 0 rfl rfl 4 (by decide) (hts _ (List.mem_cons_of_mem _ jw76)) (fun _ h9 => h9) rfl (by decide +kernel) rfl rfl (Nat.le_of_ble_eq_true rfl) d_Tk_advance_18 (fun H locs hP hD hS => ?_)
    have hP : va_P (dC, dI) vwCl [(h_t, .inr (4, [.ref h_t_kinds, .ref h_t_places, .ref h_t_values, .int t_count, .int (t_next + (1 : Int32))])), (h_t_kinds, .inl (cI, 8001, .inl t_kinds)), (h_t_places, .inl (cI, 8001, .inl t_places)), (h_t_values, .inl (cI, 8001, .inl t_values))] H := hP
    have hD : va_D A [(h_t, .inr (4, [.ref h_t_kinds, .ref h_t_places, .ref h_t_values, .int t_count, .int (t_next + (1 : Int32))])), (h_t_kinds, .inl (cI, 8001, .inl t_kinds)), (h_t_places, .inl (cI, 8001, .inl t_places)), (h_t_values, .inl (cI, 8001, .inl t_values))] := hD
    have hf : (some (t_next + (1 : Int32)) : Option Int32) = some o := hf
    rw [hQ, ← Option.some.inj hf]
    exact jVret hx hb hr hlocks d_Tk_advance_21 (fun _ => 0) hS hP hD
theorem d_Tk_isDigit_0 : decode b_Tk_isDigit 0 = .ok (.iload_n 0, 1) := by decide +kernel
theorem d_Tk_isDigit_1 : decode b_Tk_isDigit 1 = .ok (.bipush 48, 2) := by decide +kernel
theorem d_Tk_isDigit_3 : decode b_Tk_isDigit 3 = .ok (.if_icmp .lt 13, 3) := by decide +kernel
theorem d_Tk_isDigit_6 : decode b_Tk_isDigit 6 = .ok (.iload_n 0, 1) := by decide +kernel
theorem d_Tk_isDigit_7 : decode b_Tk_isDigit 7 = .ok (.bipush 57, 2) := by decide +kernel
theorem d_Tk_isDigit_9 : decode b_Tk_isDigit 9 = .ok (.if_icmp .gt 7, 3) := by decide +kernel
theorem d_Tk_isDigit_12 : decode b_Tk_isDigit 12 = .ok (.iconst 1, 1) := by decide +kernel
theorem d_Tk_isDigit_13 : decode b_Tk_isDigit 13 = .ok (.goto 4, 3) := by decide +kernel
theorem d_Tk_isDigit_16 : decode b_Tk_isDigit 16 = .ok (.iconst 0, 1) := by decide +kernel
theorem d_Tk_isDigit_17 : decode b_Tk_isDigit 17 = .ok (.ireturn, 1) := by decide +kernel
noncomputable def Tk_isDigit_b16   : Option Int32 := some (vp_nar .boolean (0 : Int32))
noncomputable def f_Tk_isDigit   (a1 : Int32) : Option Int32 := if a1 < (48 : Int32) then (Tk_isDigit_b16) else (if (57 : Int32) < a1 then (Tk_isDigit_b16) else (some (vp_nar .boolean (1 : Int32))))
set_option maxHeartbeats 4000000 in
set_option maxRecDepth 100000 in
theorem c_Tk_isDigit {l : Launch} {dC : Nat → ClassId} {dI : Nat → Nat → Nat} {cI cB cS : ClassId} {adK adV adR : Nat → Nat}   (a1 : Int32) {o : Int32} (hf : f_Tk_isDigit a1 = some o) : jMet l dC dI cI cB cS adK adV adR y_Tk_isDigit wd_Tk_isDigit { frames := 0, cells := 0, slots := 0, locals := 0 } [.int a1] [] (some (.int o)) (fun q => []) 0 0 := by
  refine jEntry (cc := b_Tk_isDigit) (maxL := 1) (ret := (some .boolean)) (by decide) rfl (Nat.le_of_ble_eq_true rfl) rfl (fun p e s m args below meth c A H locs ls Q hQ hx hb hr hml hown hts hlocks hnm hJ hA hP hD hS hl => ?_)
  have hK := hJ.K
  have hl : lv_has ls 1 [(0, .int a1)] := hl
  have B16 : ∀  (H : Heap) (locs : List Loc) (ls : Array Slot), Tk_isDigit_b16 = some o → va_P (dC, dI) vwCl [] H → va_D A [] → va_S A s.heap H locs → lv_has ls 1 [] → W p l e { frames := 0, cells := 0, slots := 0, locals := 0 } s m args below meth c H locs 0 0 Q (F0 m 16 ls []) := by
    intro  H locs ls hf hP hD hS hl
    unfold Tk_isDigit_b16 at hf
    refine lv_iconst (v := (0 : Int32)) hx hb d_Tk_isDigit_16 (by decide) ?_
    have hf : (some (vp_nar .boolean (0 : Int32)) : Option Int32) = some o := hf
    rw [hQ, ← Option.some.inj hf]
    exact jNret hx hb hr rfl hlocks d_Tk_isDigit_17 (fun _ => 0) hS hP hD
  unfold f_Tk_isDigit at hf
  refine lv_iload_n hx hb d_Tk_isDigit_0 rfl (lv_at hl 0 rfl) ?_
  refine lv_bipush (v := (48 : Int32)) hx hb d_Tk_isDigit_1 (by decide) ?_
  refine lv_icmp_lt (tgt := 16) hx hb d_Tk_isDigit_3 (by decide) (fun c3 => ?_) (fun c3 => ?_)
  · rw [if_pos c3] at hf
    exact B16  H locs ls hf hP hD hS (lv_sub hl [] rfl)
  · rw [if_neg c3] at hf
    refine lv_iload_n hx hb d_Tk_isDigit_6 rfl (lv_at hl 0 rfl) ?_
    refine lv_bipush (v := (57 : Int32)) hx hb d_Tk_isDigit_7 (by decide) ?_
    refine lv_icmp_gt (tgt := 16) hx hb d_Tk_isDigit_9 (by decide) (fun c9 => ?_) (fun c9 => ?_)
    · rw [if_pos c9] at hf
      exact B16  H locs ls hf hP hD hS (lv_sub hl [] rfl)
    · rw [if_neg c9] at hf
      refine lv_iconst (v := (1 : Int32)) hx hb d_Tk_isDigit_12 (by decide) ?_
      refine lv_goto (tgt := 17) hx hb d_Tk_isDigit_13 (by decide) ?_
      have hf : (some (vp_nar .boolean (1 : Int32)) : Option Int32) = some o := hf
      rw [hQ, ← Option.some.inj hf]
      exact jNret hx hb hr rfl hlocks d_Tk_isDigit_17 (fun _ => 0) hS hP hD
theorem d_Tk_isLetter_0 : decode b_Tk_isLetter 0 = .ok (.iload_n 0, 1) := by decide +kernel
theorem d_Tk_isLetter_1 : decode b_Tk_isLetter 1 = .ok (.bipush 97, 2) := by decide +kernel
theorem d_Tk_isLetter_3 : decode b_Tk_isLetter 3 = .ok (.if_icmp .lt 9, 3) := by decide +kernel
theorem d_Tk_isLetter_6 : decode b_Tk_isLetter 6 = .ok (.iload_n 0, 1) := by decide +kernel
theorem d_Tk_isLetter_7 : decode b_Tk_isLetter 7 = .ok (.bipush 122, 2) := by decide +kernel
theorem d_Tk_isLetter_9 : decode b_Tk_isLetter 9 = .ok (.if_icmp .le 21, 3) := by decide +kernel
theorem d_Tk_isLetter_12 : decode b_Tk_isLetter 12 = .ok (.iload_n 0, 1) := by decide +kernel
theorem d_Tk_isLetter_13 : decode b_Tk_isLetter 13 = .ok (.bipush 65, 2) := by decide +kernel
theorem d_Tk_isLetter_15 : decode b_Tk_isLetter 15 = .ok (.if_icmp .lt 9, 3) := by decide +kernel
theorem d_Tk_isLetter_18 : decode b_Tk_isLetter 18 = .ok (.iload_n 0, 1) := by decide +kernel
theorem d_Tk_isLetter_19 : decode b_Tk_isLetter 19 = .ok (.bipush 90, 2) := by decide +kernel
theorem d_Tk_isLetter_21 : decode b_Tk_isLetter 21 = .ok (.if_icmp .le 9, 3) := by decide +kernel
theorem d_Tk_isLetter_24 : decode b_Tk_isLetter 24 = .ok (.iload_n 0, 1) := by decide +kernel
theorem d_Tk_isLetter_25 : decode b_Tk_isLetter 25 = .ok (.bipush 95, 2) := by decide +kernel
theorem d_Tk_isLetter_27 : decode b_Tk_isLetter 27 = .ok (.if_icmp .ne 7, 3) := by decide +kernel
theorem d_Tk_isLetter_30 : decode b_Tk_isLetter 30 = .ok (.iconst 1, 1) := by decide +kernel
theorem d_Tk_isLetter_31 : decode b_Tk_isLetter 31 = .ok (.goto 4, 3) := by decide +kernel
theorem d_Tk_isLetter_34 : decode b_Tk_isLetter 34 = .ok (.iconst 0, 1) := by decide +kernel
theorem d_Tk_isLetter_35 : decode b_Tk_isLetter 35 = .ok (.ireturn, 1) := by decide +kernel
noncomputable def Tk_isLetter_b30   : Option Int32 := some (vp_nar .boolean (1 : Int32))
noncomputable def Tk_isLetter_b24  (l0 : Int32) : Option Int32 := if l0 = (95 : Int32) then (Tk_isLetter_b30) else (some (vp_nar .boolean (0 : Int32)))
noncomputable def Tk_isLetter_b12  (l0 : Int32) : Option Int32 := if l0 < (65 : Int32) then (Tk_isLetter_b24 l0) else (if l0 ≤ (90 : Int32) then (Tk_isLetter_b30) else (Tk_isLetter_b24 l0))
noncomputable def f_Tk_isLetter   (a1 : Int32) : Option Int32 := if a1 < (97 : Int32) then (Tk_isLetter_b12 a1) else (if a1 ≤ (122 : Int32) then (Tk_isLetter_b30) else (Tk_isLetter_b12 a1))
set_option maxHeartbeats 4000000 in
set_option maxRecDepth 100000 in
theorem c_Tk_isLetter {l : Launch} {dC : Nat → ClassId} {dI : Nat → Nat → Nat} {cI cB cS : ClassId} {adK adV adR : Nat → Nat}   (a1 : Int32) {o : Int32} (hf : f_Tk_isLetter a1 = some o) : jMet l dC dI cI cB cS adK adV adR y_Tk_isLetter wd_Tk_isLetter { frames := 0, cells := 0, slots := 0, locals := 0 } [.int a1] [] (some (.int o)) (fun q => []) 0 0 := by
  refine jEntry (cc := b_Tk_isLetter) (maxL := 1) (ret := (some .boolean)) (by decide) rfl (Nat.le_of_ble_eq_true rfl) rfl (fun p e s m args below meth c A H locs ls Q hQ hx hb hr hml hown hts hlocks hnm hJ hA hP hD hS hl => ?_)
  have hK := hJ.K
  have hl : lv_has ls 1 [(0, .int a1)] := hl
  have B30 : ∀  (H : Heap) (locs : List Loc) (ls : Array Slot), Tk_isLetter_b30 = some o → va_P (dC, dI) vwCl [] H → va_D A [] → va_S A s.heap H locs → lv_has ls 1 [] → W p l e { frames := 0, cells := 0, slots := 0, locals := 0 } s m args below meth c H locs 0 0 Q (F0 m 30 ls []) := by
    intro  H locs ls hf hP hD hS hl
    unfold Tk_isLetter_b30 at hf
    refine lv_iconst (v := (1 : Int32)) hx hb d_Tk_isLetter_30 (by decide) ?_
    refine lv_goto (tgt := 35) hx hb d_Tk_isLetter_31 (by decide) ?_
    have hf : (some (vp_nar .boolean (1 : Int32)) : Option Int32) = some o := hf
    rw [hQ, ← Option.some.inj hf]
    exact jNret hx hb hr rfl hlocks d_Tk_isLetter_35 (fun _ => 0) hS hP hD
  have B24 : ∀ (l0 : Int32) (H : Heap) (locs : List Loc) (ls : Array Slot), Tk_isLetter_b24 l0 = some o → va_P (dC, dI) vwCl [] H → va_D A [] → va_S A s.heap H locs → lv_has ls 1 [(0, .int l0)] → W p l e { frames := 0, cells := 0, slots := 0, locals := 0 } s m args below meth c H locs 0 0 Q (F0 m 24 ls []) := by
    intro l0 H locs ls hf hP hD hS hl
    unfold Tk_isLetter_b24 at hf
    refine lv_iload_n hx hb d_Tk_isLetter_24 rfl (lv_at hl 0 rfl) ?_
    refine lv_bipush (v := (95 : Int32)) hx hb d_Tk_isLetter_25 (by decide) ?_
    refine lv_icmp_ne (tgt := 34) hx hb d_Tk_isLetter_27 (by decide) (fun c27 => ?_) (fun c27 => ?_)
    · rw [if_neg c27] at hf
      refine lv_iconst (v := (0 : Int32)) hx hb d_Tk_isLetter_34 (by decide) ?_
      have hf : (some (vp_nar .boolean (0 : Int32)) : Option Int32) = some o := hf
      rw [hQ, ← Option.some.inj hf]
      exact jNret hx hb hr rfl hlocks d_Tk_isLetter_35 (fun _ => 0) hS hP hD
    · rw [if_pos c27] at hf
      exact B30  H locs ls hf hP hD hS (lv_sub hl [] rfl)
  have B12 : ∀ (l0 : Int32) (H : Heap) (locs : List Loc) (ls : Array Slot), Tk_isLetter_b12 l0 = some o → va_P (dC, dI) vwCl [] H → va_D A [] → va_S A s.heap H locs → lv_has ls 1 [(0, .int l0)] → W p l e { frames := 0, cells := 0, slots := 0, locals := 0 } s m args below meth c H locs 0 0 Q (F0 m 12 ls []) := by
    intro l0 H locs ls hf hP hD hS hl
    unfold Tk_isLetter_b12 at hf
    refine lv_iload_n hx hb d_Tk_isLetter_12 rfl (lv_at hl 0 rfl) ?_
    refine lv_bipush (v := (65 : Int32)) hx hb d_Tk_isLetter_13 (by decide) ?_
    refine lv_icmp_lt (tgt := 24) hx hb d_Tk_isLetter_15 (by decide) (fun c15 => ?_) (fun c15 => ?_)
    · rw [if_pos c15] at hf
      exact B24 l0 H locs ls hf hP hD hS (lv_sub hl [0] rfl)
    · rw [if_neg c15] at hf
      refine lv_iload_n hx hb d_Tk_isLetter_18 rfl (lv_at hl 0 rfl) ?_
      refine lv_bipush (v := (90 : Int32)) hx hb d_Tk_isLetter_19 (by decide) ?_
      refine lv_icmp_le (tgt := 30) hx hb d_Tk_isLetter_21 (by decide) (fun c21 => ?_) (fun c21 => ?_)
      · rw [if_pos c21] at hf
        exact B30  H locs ls hf hP hD hS (lv_sub hl [] rfl)
      · rw [if_neg c21] at hf
        exact B24 l0 H locs ls hf hP hD hS (lv_sub hl [0] rfl)
  unfold f_Tk_isLetter at hf
  refine lv_iload_n hx hb d_Tk_isLetter_0 rfl (lv_at hl 0 rfl) ?_
  refine lv_bipush (v := (97 : Int32)) hx hb d_Tk_isLetter_1 (by decide) ?_
  refine lv_icmp_lt (tgt := 12) hx hb d_Tk_isLetter_3 (by decide) (fun c3 => ?_) (fun c3 => ?_)
  · rw [if_pos c3] at hf
    exact B12 a1 H locs ls hf hP hD hS (lv_sub hl [0] rfl)
  · rw [if_neg c3] at hf
    refine lv_iload_n hx hb d_Tk_isLetter_6 rfl (lv_at hl 0 rfl) ?_
    refine lv_bipush (v := (122 : Int32)) hx hb d_Tk_isLetter_7 (by decide) ?_
    refine lv_icmp_le (tgt := 30) hx hb d_Tk_isLetter_9 (by decide) (fun c9 => ?_) (fun c9 => ?_)
    · rw [if_pos c9] at hf
      exact B30  H locs ls hf hP hD hS (lv_sub hl [] rfl)
    · rw [if_neg c9] at hf
      exact B12 a1 H locs ls hf hP hD hS (lv_sub hl [0] rfl)
theorem d_Tk_isInName_0 : decode b_Tk_isInName 0 = .ok (.iload_n 0, 1) := by decide +kernel
theorem d_Tk_isInName_1 : decode b_Tk_isInName 1 = .ok (.invokestatic 40, 3) := by decide +kernel
theorem d_Tk_isInName_4 : decode b_Tk_isInName 4 = .ok (.ifCond .ne 16, 3) := by decide +kernel
theorem d_Tk_isInName_7 : decode b_Tk_isInName 7 = .ok (.iload_n 0, 1) := by decide +kernel
theorem d_Tk_isInName_8 : decode b_Tk_isInName 8 = .ok (.invokestatic 102, 3) := by decide +kernel
theorem d_Tk_isInName_11 : decode b_Tk_isInName 11 = .ok (.ifCond .ne 9, 3) := by decide +kernel
theorem d_Tk_isInName_14 : decode b_Tk_isInName 14 = .ok (.iload_n 0, 1) := by decide +kernel
theorem d_Tk_isInName_15 : decode b_Tk_isInName 15 = .ok (.bipush 39, 2) := by decide +kernel
theorem d_Tk_isInName_17 : decode b_Tk_isInName 17 = .ok (.if_icmp .ne 7, 3) := by decide +kernel
theorem d_Tk_isInName_20 : decode b_Tk_isInName 20 = .ok (.iconst 1, 1) := by decide +kernel
theorem d_Tk_isInName_21 : decode b_Tk_isInName 21 = .ok (.goto 4, 3) := by decide +kernel
theorem d_Tk_isInName_24 : decode b_Tk_isInName 24 = .ok (.iconst 0, 1) := by decide +kernel
theorem d_Tk_isInName_25 : decode b_Tk_isInName 25 = .ok (.ireturn, 1) := by decide +kernel
noncomputable def Tk_isInName_b20   : Option Int32 := some (vp_nar .boolean (1 : Int32))
noncomputable def f_Tk_isInName   (a1 : Int32) : Option Int32 := jb (f_Tk_isLetter a1) (fun o5 => if o5 = 0 then (jb (f_Tk_isDigit a1) (fun o7 => if o7 = 0 then (if a1 = (39 : Int32) then (Tk_isInName_b20) else (some (vp_nar .boolean (0 : Int32)))) else (Tk_isInName_b20))) else (Tk_isInName_b20))
set_option maxHeartbeats 4000000 in
set_option maxRecDepth 100000 in
theorem c_Tk_isInName {l : Launch} {dC : Nat → ClassId} {dI : Nat → Nat → Nat} {cI cB cS : ClassId} {adK adV adR : Nat → Nat}   (a1 : Int32) {o : Int32} (hf : f_Tk_isInName a1 = some o) : jMet l dC dI cI cB cS adK adV adR y_Tk_isInName wd_Tk_isInName { frames := 1, cells := 0, slots := 0, locals := 20 } [.int a1] [] (some (.int o)) (fun q => []) 0 0 := by
  refine jEntry (cc := b_Tk_isInName) (maxL := 1) (ret := (some .boolean)) (by decide) rfl (Nat.le_of_ble_eq_true rfl) rfl (fun p e s m args below meth c A H locs ls Q hQ hx hb hr hml hown hts hlocks hnm hJ hA hP hD hS hl => ?_)
  have hK := hJ.K
  have hl : lv_has ls 1 [(0, .int a1)] := hl
  have B20 : ∀  (H : Heap) (locs : List Loc) (ls : Array Slot), Tk_isInName_b20 = some o → va_P (dC, dI) vwCl [] H → va_D A [] → va_S A s.heap H locs → lv_has ls 1 [] → W p l e { frames := 1, cells := 0, slots := 0, locals := 20 } s m args below meth c H locs 0 0 Q (F0 m 20 ls []) := by
    intro  H locs ls hf hP hD hS hl
    unfold Tk_isInName_b20 at hf
    refine lv_iconst (v := (1 : Int32)) hx hb d_Tk_isInName_20 (by decide) ?_
    refine lv_goto (tgt := 25) hx hb d_Tk_isInName_21 (by decide) ?_
    have hf : (some (vp_nar .boolean (1 : Int32)) : Option Int32) = some o := hf
    rw [hQ, ← Option.some.inj hf]
    exact jNret hx hb hr rfl hlocks d_Tk_isInName_25 (fun _ => 0) hS hP hD
  unfold f_Tk_isInName at hf
  refine lv_iload_n hx hb d_Tk_isInName_0 rfl (lv_at hl 0 rfl) ?_
  obtain ⟨o9, ho9⟩ : ∃ z, f_Tk_isLetter a1 = some z := by
    cases hz : f_Tk_isLetter a1 with
    | none => rw [hz] at hf; simp only [jb_none, jl_b_none, jm_none, reduceCtorEq] at hf
    | some z => exact ⟨z, rfl⟩
  rw [ho9, jb_some] at hf
  refine jCallS (As := [.int a1]) (rest := []) (wr := []) ⟨hx, hb, hml, hown, hts⟩ hJ (c_Tk_isLetter a1 ho9) (va_cwS 1 hts (jgS jw77 jw80 jw79 jw78) rfl rfl rfl dd_Tk_isLetter.2 ⟨Nat.le_of_ble_eq_true rfl, Nat.le_of_ble_eq_true rfl⟩) hP hD hS hA [] [] rfl rfl (by decide) (by decide) (by decide) rfl hl.1 rfl (Nat.le_of_ble_eq_true rfl) d_Tk_isInName_1 ⟨Nat.le_of_ble_eq_true rfl, Nat.le_of_ble_eq_true rfl⟩ (fun qz10 H locs hP hD hS => ?_)
  have hP : va_P (dC, dI) vwCl [] H := hP
  have hD : va_D A [] := hD
  refine lv_if_ne (tgt := 20) hx hb d_Tk_isInName_4 (by decide) (fun c4 => ?_) (fun c4 => ?_)
  · rw [if_neg c4] at hf
    exact B20  H locs ls hf hP hD hS (lv_sub hl [] rfl)
  · rw [if_pos c4] at hf
    refine lv_iload_n hx hb d_Tk_isInName_7 rfl (lv_at hl 0 rfl) ?_
    obtain ⟨o11, ho11⟩ : ∃ z, f_Tk_isDigit a1 = some z := by
      cases hz : f_Tk_isDigit a1 with
      | none => rw [hz] at hf; simp only [jb_none, jl_b_none, jm_none, reduceCtorEq] at hf
      | some z => exact ⟨z, rfl⟩
    rw [ho11, jb_some] at hf
    refine jCallS (As := [.int a1]) (rest := []) (wr := []) ⟨hx, hb, hml, hown, hts⟩ hJ (c_Tk_isDigit a1 ho11) (va_cwS 1 hts (jgS jw81 jw83 jw79 jw82) rfl rfl rfl dd_Tk_isDigit.2 ⟨Nat.le_of_ble_eq_true rfl, Nat.le_of_ble_eq_true rfl⟩) hP hD hS hA [] [] rfl rfl (by decide) (by decide) (by decide) rfl hl.1 rfl (Nat.le_of_ble_eq_true rfl) d_Tk_isInName_8 ⟨Nat.le_of_ble_eq_true rfl, Nat.le_of_ble_eq_true rfl⟩ (fun qz12 H locs hP hD hS => ?_)
    have hP : va_P (dC, dI) vwCl [] H := hP
    have hD : va_D A [] := hD
    refine lv_if_ne (tgt := 20) hx hb d_Tk_isInName_11 (by decide) (fun c11 => ?_) (fun c11 => ?_)
    · rw [if_neg c11] at hf
      exact B20  H locs ls hf hP hD hS (lv_sub hl [] rfl)
    · rw [if_pos c11] at hf
      refine lv_iload_n hx hb d_Tk_isInName_14 rfl (lv_at hl 0 rfl) ?_
      refine lv_bipush (v := (39 : Int32)) hx hb d_Tk_isInName_15 (by decide) ?_
      refine lv_icmp_ne (tgt := 24) hx hb d_Tk_isInName_17 (by decide) (fun c17 => ?_) (fun c17 => ?_)
      · rw [if_neg c17] at hf
        refine lv_iconst (v := (0 : Int32)) hx hb d_Tk_isInName_24 (by decide) ?_
        have hf : (some (vp_nar .boolean (0 : Int32)) : Option Int32) = some o := hf
        rw [hQ, ← Option.some.inj hf]
        exact jNret hx hb hr rfl hlocks d_Tk_isInName_25 (fun _ => 0) hS hP hD
      · rw [if_pos c17] at hf
        exact B20  H locs ls hf hP hD hS (lv_sub hl [] rfl)
theorem d_Tk_digitAt_0 : decode b_Tk_digitAt 0 = .ok (.aload_n 0, 1) := by decide +kernel
theorem d_Tk_digitAt_1 : decode b_Tk_digitAt 1 = .ok (.iload_n 1, 1) := by decide +kernel
theorem d_Tk_digitAt_2 : decode b_Tk_digitAt 2 = .ok (.invokevirtual 34, 3) := by decide +kernel
theorem d_Tk_digitAt_5 : decode b_Tk_digitAt 5 = .ok (.istore_n 2, 1) := by decide +kernel
theorem d_Tk_digitAt_6 : decode b_Tk_digitAt 6 = .ok (.iload_n 2, 1) := by decide +kernel
theorem d_Tk_digitAt_7 : decode b_Tk_digitAt 7 = .ok (.invokestatic 102, 3) := by decide +kernel
theorem d_Tk_digitAt_10 : decode b_Tk_digitAt 10 = .ok (.ifCond .eq 10, 3) := by decide +kernel
theorem d_Tk_digitAt_13 : decode b_Tk_digitAt 13 = .ok (.iload_n 2, 1) := by decide +kernel
theorem d_Tk_digitAt_14 : decode b_Tk_digitAt 14 = .ok (.bipush 48, 2) := by decide +kernel
theorem d_Tk_digitAt_16 : decode b_Tk_digitAt 16 = .ok (.isub, 1) := by decide +kernel
theorem d_Tk_digitAt_17 : decode b_Tk_digitAt 17 = .ok (.goto 4, 3) := by decide +kernel
theorem d_Tk_digitAt_20 : decode b_Tk_digitAt 20 = .ok (.iconst (-1), 1) := by decide +kernel
theorem d_Tk_digitAt_21 : decode b_Tk_digitAt 21 = .ok (.ireturn, 1) := by decide +kernel
noncomputable def f_Tk_digitAt (p1_row : (Nat → Int32)) (p1_length : Int32)  (a2 : Int32) : Option Int32 := jb (f_By_at p1_row p1_length a2) (fun o5 => jb (f_Tk_isDigit o5) (fun o7 => if o7 = 0 then (some (-1 : Int32)) else (some (o5 - (48 : Int32)))))
set_option maxHeartbeats 4000000 in
set_option maxRecDepth 100000 in
theorem c_Tk_digitAt {l : Launch} {dC : Nat → ClassId} {dI : Nat → Nat → Nat} {cI cB cS : ClassId} {adK adV adR : Nat → Nat} (h_p1 h_p1_row : Nat) (p1_row : (Nat → Int32)) (p1_length : Int32) (p1_overrun : Int32) (a2 : Int32) {o : Int32} (hf : f_Tk_digitAt p1_row p1_length a2 = some o) : jMet l dC dI cI cB cS adK adV adR y_Tk_digitAt wd_Tk_digitAt { frames := 1, cells := 0, slots := 0, locals := 21 } [.ref h_p1, .int a2] [(h_p1, .inr (0, [.ref h_p1_row, .int p1_length, .int p1_overrun])), (h_p1_row, .inl (cB, 8000, .inl p1_row))] (some (.int o)) (fun q => [(h_p1, .inr (0, [.ref h_p1_row, .int p1_length, .int p1_overrun])), (h_p1_row, .inl (cB, 8000, .inl p1_row))]) 0 0 := by
  refine jEntry (cc := b_Tk_digitAt) (maxL := 3) (ret := (some .int)) (by decide) rfl (Nat.le_of_ble_eq_true rfl) rfl (fun p e s m args below meth c A H locs ls Q hQ hx hb hr hml hown hts hlocks hnm hJ hA hP hD hS hl => ?_)
  have hK := hJ.K
  have hl : lv_has ls 3 [(0, .ref h_p1), (1, .int a2)] := hl
  unfold f_Tk_digitAt at hf
  refine lv_aload_n hx hb d_Tk_digitAt_0 rfl (lv_at hl 0 rfl) ?_
  refine lv_iload_n hx hb d_Tk_digitAt_1 rfl (lv_at hl 1 rfl) ?_
  obtain ⟨o9, ho9⟩ : ∃ z, f_By_at p1_row p1_length a2 = some z := by
    cases hz : f_By_at p1_row p1_length a2 with
    | none => rw [hz] at hf; simp only [jb_none, jl_b_none, jm_none, reduceCtorEq] at hf
    | some z => exact ⟨z, rfl⟩
  rw [ho9, jb_some] at hf
  refine jCallV (As := [.int a2]) (rest := []) (wr := []) ⟨hx, hb, hml, hown, hts⟩ hJ (c_By_at h_p1 h_p1_row p1_row p1_length p1_overrun a2 ho9) (cwV 1 hts (jgV jw84 jw54 jw55 jw33 jw53) rfl rfl rfl dd_By_at ⟨Nat.le_of_ble_eq_true rfl, Nat.le_of_ble_eq_true rfl⟩) hP hD hS hA (va_recv hK hP (ci := 0) (q0 := 0) rfl rfl) [0, 1] [] rfl rfl (by decide) (by decide) (by decide) rfl hl.1 rfl (Nat.le_of_ble_eq_true rfl) d_Tk_digitAt_2 ⟨Nat.le_of_ble_eq_true rfl, Nat.le_of_ble_eq_true rfl⟩ (fun qz10 H locs hP hD hS => ?_)
  have hP : va_P (dC, dI) vwCl [(h_p1, .inr (0, [.ref h_p1_row, .int p1_length, .int p1_overrun])), (h_p1_row, .inl (cB, 8000, .inl p1_row))] H := hP
  have hD : va_D A [(h_p1, .inr (0, [.ref h_p1_row, .int p1_length, .int p1_overrun])), (h_p1_row, .inl (cB, 8000, .inl p1_row))] := hD
  refine lv_istore_n (lv' := [(2, .int o9), (0, .ref h_p1), (1, .int a2)]) hx hb d_Tk_digitAt_5 rfl hl (by decide) rfl (fun ls hl => ?_)
  refine lv_iload_n hx hb d_Tk_digitAt_6 rfl (lv_at hl 0 rfl) ?_
  obtain ⟨o11, ho11⟩ : ∃ z, f_Tk_isDigit o9 = some z := by
    cases hz : f_Tk_isDigit o9 with
    | none => rw [hz] at hf; simp only [jb_none, jl_b_none, jm_none, reduceCtorEq] at hf
    | some z => exact ⟨z, rfl⟩
  rw [ho11, jb_some] at hf
  refine jCallS (As := [.int o9]) (rest := []) (wr := [(h_p1, .inr (0, [.ref h_p1_row, .int p1_length, .int p1_overrun])), (h_p1_row, .inl (cB, 8000, .inl p1_row))]) ⟨hx, hb, hml, hown, hts⟩ hJ (c_Tk_isDigit o9 ho11) (va_cwS 1 hts (jgS jw81 jw83 jw79 jw82) rfl rfl rfl dd_Tk_isDigit.2 ⟨Nat.le_of_ble_eq_true rfl, Nat.le_of_ble_eq_true rfl⟩) hP hD hS hA [] [0, 1] rfl rfl (by decide) (by decide) (by decide) rfl hl.1 rfl (Nat.le_of_ble_eq_true rfl) d_Tk_digitAt_7 ⟨Nat.le_of_ble_eq_true rfl, Nat.le_of_ble_eq_true rfl⟩ (fun qz12 H locs hP hD hS => ?_)
  have hP : va_P (dC, dI) vwCl [(h_p1, .inr (0, [.ref h_p1_row, .int p1_length, .int p1_overrun])), (h_p1_row, .inl (cB, 8000, .inl p1_row))] H := hP
  have hD : va_D A [(h_p1, .inr (0, [.ref h_p1_row, .int p1_length, .int p1_overrun])), (h_p1_row, .inl (cB, 8000, .inl p1_row))] := hD
  refine lv_if_eq (tgt := 20) hx hb d_Tk_digitAt_10 (by decide) (fun c10 => ?_) (fun c10 => ?_)
  · rw [if_pos c10] at hf
    refine lv_iconst (v := (-1 : Int32)) hx hb d_Tk_digitAt_20 (by decide) ?_
    have hf : (some (-1 : Int32) : Option Int32) = some o := hf
    rw [hQ, ← Option.some.inj hf]
    exact jIret hx hb hr hlocks d_Tk_digitAt_21 (fun _ => 0) hS hP hD
  · rw [if_neg c10] at hf
    refine lv_iload_n hx hb d_Tk_digitAt_13 rfl (lv_at hl 0 rfl) ?_
    refine lv_bipush (v := (48 : Int32)) hx hb d_Tk_digitAt_14 (by decide) ?_
    refine lv_isub hx hb d_Tk_digitAt_16 ?_
    refine lv_goto (tgt := 21) hx hb d_Tk_digitAt_17 (by decide) ?_
    have hf : (some (o9 - (48 : Int32)) : Option Int32) = some o := hf
    rw [hQ, ← Option.some.inj hf]
    exact jIret hx hb hr hlocks d_Tk_digitAt_21 (fun _ => 0) hS hP hD
theorem d_Tk_isWord_0 : decode b_Tk_isWord 0 = .ok (.aload_n 3, 1) := by decide +kernel
theorem d_Tk_isWord_1 : decode b_Tk_isWord 1 = .ok (.invokevirtual 71, 3) := by decide +kernel
theorem d_Tk_isWord_4 : decode b_Tk_isWord 4 = .ok (.iload_n 2, 1) := by decide +kernel
theorem d_Tk_isWord_5 : decode b_Tk_isWord 5 = .ok (.if_icmp .eq 5, 3) := by decide +kernel
theorem d_Tk_isWord_8 : decode b_Tk_isWord 8 = .ok (.iconst 0, 1) := by decide +kernel
theorem d_Tk_isWord_9 : decode b_Tk_isWord 9 = .ok (.ireturn, 1) := by decide +kernel
theorem d_Tk_isWord_10 : decode b_Tk_isWord 10 = .ok (.iconst 0, 1) := by decide +kernel
theorem d_Tk_isWord_11 : decode b_Tk_isWord 11 = .ok (.istore 4, 2) := by decide +kernel
theorem d_Tk_isWord_13 : decode b_Tk_isWord 13 = .ok (.iload 4, 2) := by decide +kernel
theorem d_Tk_isWord_15 : decode b_Tk_isWord 15 = .ok (.iload_n 2, 1) := by decide +kernel
theorem d_Tk_isWord_16 : decode b_Tk_isWord 16 = .ok (.if_icmp .ge 28, 3) := by decide +kernel
theorem d_Tk_isWord_19 : decode b_Tk_isWord 19 = .ok (.aload_n 0, 1) := by decide +kernel
theorem d_Tk_isWord_20 : decode b_Tk_isWord 20 = .ok (.iload_n 1, 1) := by decide +kernel
theorem d_Tk_isWord_21 : decode b_Tk_isWord 21 = .ok (.iload 4, 2) := by decide +kernel
theorem d_Tk_isWord_23 : decode b_Tk_isWord 23 = .ok (.iadd, 1) := by decide +kernel
theorem d_Tk_isWord_24 : decode b_Tk_isWord 24 = .ok (.invokevirtual 34, 3) := by decide +kernel
theorem d_Tk_isWord_27 : decode b_Tk_isWord 27 = .ok (.aload_n 3, 1) := by decide +kernel
theorem d_Tk_isWord_28 : decode b_Tk_isWord 28 = .ok (.iload 4, 2) := by decide +kernel
theorem d_Tk_isWord_30 : decode b_Tk_isWord 30 = .ok (.invokevirtual 98, 3) := by decide +kernel
theorem d_Tk_isWord_33 : decode b_Tk_isWord 33 = .ok (.if_icmp .eq 5, 3) := by decide +kernel
theorem d_Tk_isWord_36 : decode b_Tk_isWord 36 = .ok (.iconst 0, 1) := by decide +kernel
theorem d_Tk_isWord_37 : decode b_Tk_isWord 37 = .ok (.ireturn, 1) := by decide +kernel
theorem d_Tk_isWord_38 : decode b_Tk_isWord 38 = .ok (.iinc 4 1, 3) := by decide +kernel
theorem d_Tk_isWord_41 : decode b_Tk_isWord 41 = .ok (.goto (-28), 3) := by decide +kernel
theorem d_Tk_isWord_44 : decode b_Tk_isWord 44 = .ok (.iconst 1, 1) := by decide +kernel
theorem d_Tk_isWord_45 : decode b_Tk_isWord 45 = .ok (.ireturn, 1) := by decide +kernel
noncomputable def Tk_isWord_b13_s (p1_row : (Nat → Int32)) (p1_length : Int32) (l1 : Int32) (l2 : Int32) (l3 : Nat) (l4 : Int32) : Option (Int32 ⊕ Int32) := if l2 ≤ l4 then (some (.inr (vp_nar .boolean (1 : Int32)))) else (jb (f_By_at p1_row p1_length (l1 + l4)) (fun o9 => if 49 ≤ l3 then none else (jb (f_Js_charAt l3 l4) (fun o12 => if o9 = o12 then (some (.inl (l4 + (1 : Int32)))) else (some (.inr (vp_nar .boolean (0 : Int32))))))))
noncomputable def Tk_isWord_b13_b (p1_row : (Nat → Int32)) (p1_length : Int32) (l1 : Int32) (l2 : Int32) (l3 : Nat) : Int32 → Option (Int32 ⊕ Int32) := fun x => Tk_isWord_b13_s p1_row p1_length l1 l2 l3 x
noncomputable def Tk_isWord_b13 (p1_row : (Nat → Int32)) (p1_length : Int32) (l1 : Int32) (l2 : Int32) (l3 : Nat) (l4 : Int32) : Option Int32 := jl (Tk_isWord_b13_b p1_row p1_length l1 l2 l3) l4
noncomputable def f_Tk_isWord (p1_row : (Nat → Int32)) (p1_length : Int32)  (a2 : Int32) (a3 : Int32) (k4 : Nat) : Option Int32 := if 49 ≤ k4 then none else (jb (f_Js_length k4) (fun o15 => if o15 = a3 then (Tk_isWord_b13 p1_row p1_length a2 a3 k4 (0 : Int32)) else (some (vp_nar .boolean (0 : Int32)))))
set_option maxHeartbeats 4000000 in
set_option maxRecDepth 100000 in
theorem c_Tk_isWord {l : Launch} {dC : Nat → ClassId} {dI : Nat → Nat → Nat} {cI cB cS : ClassId} {adK adV adR : Nat → Nat} (h_p1 h_p1_row : Nat) (p1_row : (Nat → Int32)) (p1_length : Int32) (p1_overrun : Int32) (a2 : Int32) (a3 : Int32) (k4 : Nat) {o : Int32} (hf : f_Tk_isWord p1_row p1_length a2 a3 k4 = some o) : jMet l dC dI cI cB cS adK adV adR y_Tk_isWord wd_Tk_isWord { frames := 4, cells := 0, slots := 0, locals := 85 } [.ref h_p1, .int a2, .int a3, .ref (adK k4)] [(h_p1, .inr (0, [.ref h_p1_row, .int p1_length, .int p1_overrun])), (h_p1_row, .inl (cB, 8000, .inl p1_row))] (some (.int o)) (fun q => [(h_p1, .inr (0, [.ref h_p1_row, .int p1_length, .int p1_overrun])), (h_p1_row, .inl (cB, 8000, .inl p1_row))]) 0 0 := by
  refine jEntry (cc := b_Tk_isWord) (maxL := 5) (ret := (some .boolean)) (by decide) rfl (Nat.le_of_ble_eq_true rfl) rfl (fun p e s m args below meth c A H locs ls Q hQ hx hb hr hml hown hts hlocks hnm hJ hA hP hD hS hl => ?_)
  have hK := hJ.K
  have hl : lv_has ls 5 [(0, .ref h_p1), (1, .int a2), (2, .int a3), (3, .ref (adK k4))] := hl
  have L13 : ∀ (n13 : Nat) (l1 : Int32) (l2 : Int32) (l3 : Nat) (l4 : Int32) (H : Heap) (locs : List Loc) (ls : Array Slot), jl_n (Tk_isWord_b13_b p1_row p1_length l1 l2 l3) n13 l4 = some o → va_P (dC, dI) vwCl [(h_p1, .inr (0, [.ref h_p1_row, .int p1_length, .int p1_overrun])), (h_p1_row, .inl (cB, 8000, .inl p1_row))] H → va_D A [(h_p1, .inr (0, [.ref h_p1_row, .int p1_length, .int p1_overrun])), (h_p1_row, .inl (cB, 8000, .inl p1_row))] → va_S A s.heap H locs → lv_has ls 5 [(0, .ref h_p1), (1, .int l1), (2, .int l2), (3, .ref (adK l3)), (4, .int l4)] → W p l e { frames := 4, cells := 0, slots := 0, locals := 85 } s m args below meth c H locs 0 0 Q (F0 m 13 ls []) := by
    intro n13
    induction n13 with
    | zero => intro l1 l2 l3 l4 H locs ls hf; simp only [jl_n_zero, jl_b_none, reduceCtorEq] at hf
    | succ n13 ih13 =>
      intro l1 l2 l3 l4 H locs ls hf hP hD hS hl
      rw [jl_n_succ] at hf
      have hf : jl_b (jl_n (Tk_isWord_b13_b p1_row p1_length l1 l2 l3) n13) (Tk_isWord_b13_s p1_row p1_length l1 l2 l3 l4) = some o := hf
      unfold Tk_isWord_b13_s at hf
      refine lv_iload hx hb d_Tk_isWord_13 (lv_at hl 4 rfl) ?_
      refine lv_iload_n hx hb d_Tk_isWord_15 rfl (lv_at hl 2 rfl) ?_
      refine lv_icmp_ge (tgt := 44) hx hb d_Tk_isWord_16 (by decide) (fun c16 => ?_) (fun c16 => ?_)
      · rw [if_pos c16] at hf
        refine lv_iconst (v := (1 : Int32)) hx hb d_Tk_isWord_44 (by decide) ?_
        have hf : (some (vp_nar .boolean (1 : Int32)) : Option Int32) = some o := hf
        rw [hQ, ← Option.some.inj hf]
        exact jNret hx hb hr rfl hlocks d_Tk_isWord_45 (fun _ => 0) hS hP hD
      · rw [if_neg c16] at hf
        refine lv_aload_n hx hb d_Tk_isWord_19 rfl (lv_at hl 0 rfl) ?_
        refine lv_iload_n hx hb d_Tk_isWord_20 rfl (lv_at hl 1 rfl) ?_
        refine lv_iload hx hb d_Tk_isWord_21 (lv_at hl 4 rfl) ?_
        refine lv_iadd hx hb d_Tk_isWord_23 ?_
        obtain ⟨o17, ho17⟩ : ∃ z, f_By_at p1_row p1_length (l1 + l4) = some z := by
          cases hz : f_By_at p1_row p1_length (l1 + l4) with
          | none => rw [hz] at hf; simp only [jb_none, jl_b_none, jm_none, reduceCtorEq] at hf
          | some z => exact ⟨z, rfl⟩
        rw [ho17, jb_some] at hf
        refine jCallV (As := [.int (l1 + l4)]) (rest := []) (wr := []) ⟨hx, hb, hml, hown, hts⟩ hJ (c_By_at h_p1 h_p1_row p1_row p1_length p1_overrun (l1 + l4) ho17) (cwV 1 hts (jgV jw84 jw54 jw55 jw33 jw53) rfl rfl rfl dd_By_at ⟨Nat.le_of_ble_eq_true rfl, Nat.le_of_ble_eq_true rfl⟩) hP hD hS hA (va_recv hK hP (ci := 0) (q0 := 0) rfl rfl) [0, 1] [] rfl rfl (by decide) (by decide) (by decide) rfl hl.1 rfl (Nat.le_of_ble_eq_true rfl) d_Tk_isWord_24 ⟨Nat.le_of_ble_eq_true rfl, Nat.le_of_ble_eq_true rfl⟩ (fun qz18 H locs hP hD hS => ?_)
        have hP : va_P (dC, dI) vwCl [(h_p1, .inr (0, [.ref h_p1_row, .int p1_length, .int p1_overrun])), (h_p1_row, .inl (cB, 8000, .inl p1_row))] H := hP
        have hD : va_D A [(h_p1, .inr (0, [.ref h_p1_row, .int p1_length, .int p1_overrun])), (h_p1_row, .inl (cB, 8000, .inl p1_row))] := hD
        refine lv_aload_n hx hb d_Tk_isWord_27 rfl (lv_at hl 3 rfl) ?_
        refine lv_iload hx hb d_Tk_isWord_28 (lv_at hl 4 rfl) ?_
        have b19 : ¬ (49 ≤ l3) := by intro z; rw [if_pos z] at hf; simp only [jb_none, jl_b_none, jm_none, reduceCtorEq] at hf
        rw [if_neg b19] at hf
        obtain ⟨o20, ho20⟩ : ∃ z, f_Js_charAt l3 l4 = some z := by
          cases hz : f_Js_charAt l3 l4 with
          | none => rw [hz] at hf; simp only [jb_none, jl_b_none, jm_none, reduceCtorEq] at hf
          | some z => exact ⟨z, rfl⟩
        rw [ho20, jb_some] at hf
        refine jCallV (As := [.int l4]) (rest := [.int o17]) (wr := [(h_p1, .inr (0, [.ref h_p1_row, .int p1_length, .int p1_overrun])), (h_p1_row, .inl (cB, 8000, .inl p1_row))]) ⟨hx, hb, hml, hown, hts⟩ hJ (c_Js_charAt l3 l4 ho20) (cwV 1 hts (jgV jw89 jw91 jw92 jw5 jw90) rfl rfl rfl dd_Js_charAt ⟨Nat.le_of_ble_eq_true rfl, Nat.le_of_ble_eq_true rfl⟩) hP hD hS hA (jS_recv hJ (Nat.lt_of_not_le b19) hS) [] [0, 1] rfl rfl (by decide) (by decide) (by decide) rfl hl.1 rfl (Nat.le_of_ble_eq_true rfl) d_Tk_isWord_30 ⟨Nat.le_of_ble_eq_true rfl, Nat.le_of_ble_eq_true rfl⟩ (fun qz21 H locs hP hD hS => ?_)
        have hP : va_P (dC, dI) vwCl [(h_p1, .inr (0, [.ref h_p1_row, .int p1_length, .int p1_overrun])), (h_p1_row, .inl (cB, 8000, .inl p1_row))] H := hP
        have hD : va_D A [(h_p1, .inr (0, [.ref h_p1_row, .int p1_length, .int p1_overrun])), (h_p1_row, .inl (cB, 8000, .inl p1_row))] := hD
        refine lv_icmp_eq (tgt := 38) hx hb d_Tk_isWord_33 (by decide) (fun c33 => ?_) (fun c33 => ?_)
        · rw [if_pos c33] at hf
          refine lv_iinc (v := l4 + (1 : Int32)) (lv' := [(4, .int (l4 + (1 : Int32))), (0, .ref h_p1), (1, .int l1), (2, .int l2), (3, .ref (adK l3))]) hx hb d_Tk_isWord_38 hl (k := 4) rfl rfl (by decide) rfl (fun ls hl => ?_)
          refine lv_goto (tgt := 13) hx hb d_Tk_isWord_41 (by decide) ?_
          exact ih13 l1 l2 l3 (l4 + (1 : Int32)) H locs ls hf hP hD hS (lv_sub hl [1, 2, 3, 4, 0] rfl)
        · rw [if_neg c33] at hf
          refine lv_iconst (v := (0 : Int32)) hx hb d_Tk_isWord_36 (by decide) ?_
          have hf : (some (vp_nar .boolean (0 : Int32)) : Option Int32) = some o := hf
          rw [hQ, ← Option.some.inj hf]
          exact jNret hx hb hr rfl hlocks d_Tk_isWord_37 (fun _ => 0) hS hP hD
  unfold f_Tk_isWord at hf
  refine lv_aload_n hx hb d_Tk_isWord_0 rfl (lv_at hl 3 rfl) ?_
  have b22 : ¬ (49 ≤ k4) := by intro z; rw [if_pos z] at hf; simp only [jb_none, jl_b_none, jm_none, reduceCtorEq] at hf
  rw [if_neg b22] at hf
  obtain ⟨o23, ho23⟩ : ∃ z, f_Js_length k4 = some z := by
    cases hz : f_Js_length k4 with
    | none => rw [hz] at hf; simp only [jb_none, jl_b_none, jm_none, reduceCtorEq] at hf
    | some z => exact ⟨z, rfl⟩
  rw [ho23, jb_some] at hf
  refine jCallV (As := []) (rest := []) (wr := [(h_p1, .inr (0, [.ref h_p1_row, .int p1_length, .int p1_overrun])), (h_p1_row, .inl (cB, 8000, .inl p1_row))]) ⟨hx, hb, hml, hown, hts⟩ hJ (c_Js_length k4 ho23) (cwV 0 hts (jgV jw85 jw87 jw88 jw5 jw86) rfl rfl rfl dd_Js_length ⟨Nat.le_of_ble_eq_true rfl, Nat.le_of_ble_eq_true rfl⟩) hP hD hS hA (jS_recv hJ (Nat.lt_of_not_le b22) hS) [] [0, 1] rfl rfl (by decide) (by decide) (by decide) rfl hl.1 rfl (Nat.le_of_ble_eq_true rfl) d_Tk_isWord_1 ⟨Nat.le_of_ble_eq_true rfl, Nat.le_of_ble_eq_true rfl⟩ (fun qz24 H locs hP hD hS => ?_)
  have hP : va_P (dC, dI) vwCl [(h_p1, .inr (0, [.ref h_p1_row, .int p1_length, .int p1_overrun])), (h_p1_row, .inl (cB, 8000, .inl p1_row))] H := hP
  have hD : va_D A [(h_p1, .inr (0, [.ref h_p1_row, .int p1_length, .int p1_overrun])), (h_p1_row, .inl (cB, 8000, .inl p1_row))] := hD
  refine lv_iload_n hx hb d_Tk_isWord_4 rfl (lv_at hl 2 rfl) ?_
  refine lv_icmp_eq (tgt := 10) hx hb d_Tk_isWord_5 (by decide) (fun c5 => ?_) (fun c5 => ?_)
  · rw [if_pos c5] at hf
    refine lv_iconst (v := (0 : Int32)) hx hb d_Tk_isWord_10 (by decide) ?_
    refine lv_istore (lv' := [(4, .int (0 : Int32)), (0, .ref h_p1), (1, .int a2), (2, .int a3), (3, .ref (adK k4))]) hx hb d_Tk_isWord_11 hl (by decide) rfl (fun ls hl => ?_)
    unfold Tk_isWord_b13 at hf
    obtain ⟨nn, en⟩ := jl_ex (Tk_isWord_b13_b p1_row p1_length a2 a3 k4) (0 : Int32)
    rw [en] at hf
    exact L13 nn a2 a3 k4 (0 : Int32) H locs ls hf hP hD hS (lv_sub hl [1, 2, 3, 4, 0] rfl)
  · rw [if_neg c5] at hf
    refine lv_iconst (v := (0 : Int32)) hx hb d_Tk_isWord_8 (by decide) ?_
    have hf : (some (vp_nar .boolean (0 : Int32)) : Option Int32) = some o := hf
    rw [hQ, ← Option.some.inj hf]
    exact jNret hx hb hr rfl hlocks d_Tk_isWord_9 (fun _ => 0) hS hP hD
theorem d_Tk_sortAt_0 : decode b_Tk_sortAt 0 = .ok (.aload_n 0, 1) := by decide +kernel
theorem d_Tk_sortAt_1 : decode b_Tk_sortAt 1 = .ok (.iload_n 1, 1) := by decide +kernel
theorem d_Tk_sortAt_2 : decode b_Tk_sortAt 2 = .ok (.iload_n 2, 1) := by decide +kernel
theorem d_Tk_sortAt_3 : decode b_Tk_sortAt 3 = .ok (.ldc 90, 2) := by decide +kernel
theorem d_Tk_sortAt_5 : decode b_Tk_sortAt 5 = .ok (.invokestatic 86, 3) := by decide +kernel
theorem d_Tk_sortAt_8 : decode b_Tk_sortAt 8 = .ok (.ifCond .eq 5, 3) := by decide +kernel
theorem d_Tk_sortAt_11 : decode b_Tk_sortAt 11 = .ok (.iconst 0, 1) := by decide +kernel
theorem d_Tk_sortAt_12 : decode b_Tk_sortAt 12 = .ok (.ireturn, 1) := by decide +kernel
theorem d_Tk_sortAt_13 : decode b_Tk_sortAt 13 = .ok (.iload_n 2, 1) := by decide +kernel
theorem d_Tk_sortAt_14 : decode b_Tk_sortAt 14 = .ok (.iconst 4, 1) := by decide +kernel
theorem d_Tk_sortAt_15 : decode b_Tk_sortAt 15 = .ok (.if_icmp .lt 20, 3) := by decide +kernel
theorem d_Tk_sortAt_18 : decode b_Tk_sortAt 18 = .ok (.iload_n 2, 1) := by decide +kernel
theorem d_Tk_sortAt_19 : decode b_Tk_sortAt 19 = .ok (.bipush 6, 2) := by decide +kernel
theorem d_Tk_sortAt_21 : decode b_Tk_sortAt 21 = .ok (.if_icmp .gt 14, 3) := by decide +kernel
theorem d_Tk_sortAt_24 : decode b_Tk_sortAt 24 = .ok (.aload_n 0, 1) := by decide +kernel
theorem d_Tk_sortAt_25 : decode b_Tk_sortAt 25 = .ok (.iload_n 1, 1) := by decide +kernel
theorem d_Tk_sortAt_26 : decode b_Tk_sortAt 26 = .ok (.iconst 4, 1) := by decide +kernel
theorem d_Tk_sortAt_27 : decode b_Tk_sortAt 27 = .ok (.ldc 92, 2) := by decide +kernel
theorem d_Tk_sortAt_29 : decode b_Tk_sortAt 29 = .ok (.invokestatic 86, 3) := by decide +kernel
theorem d_Tk_sortAt_32 : decode b_Tk_sortAt 32 = .ok (.ifCond .ne 5, 3) := by decide +kernel
theorem d_Tk_sortAt_35 : decode b_Tk_sortAt 35 = .ok (.iconst (-1), 1) := by decide +kernel
theorem d_Tk_sortAt_36 : decode b_Tk_sortAt 36 = .ok (.ireturn, 1) := by decide +kernel
theorem d_Tk_sortAt_37 : decode b_Tk_sortAt 37 = .ok (.iload_n 2, 1) := by decide +kernel
theorem d_Tk_sortAt_38 : decode b_Tk_sortAt 38 = .ok (.iconst 4, 1) := by decide +kernel
theorem d_Tk_sortAt_39 : decode b_Tk_sortAt 39 = .ok (.if_icmp .ne 5, 3) := by decide +kernel
theorem d_Tk_sortAt_42 : decode b_Tk_sortAt 42 = .ok (.iconst 1, 1) := by decide +kernel
theorem d_Tk_sortAt_43 : decode b_Tk_sortAt 43 = .ok (.ireturn, 1) := by decide +kernel
theorem d_Tk_sortAt_44 : decode b_Tk_sortAt 44 = .ok (.aload_n 0, 1) := by decide +kernel
theorem d_Tk_sortAt_45 : decode b_Tk_sortAt 45 = .ok (.iload_n 1, 1) := by decide +kernel
theorem d_Tk_sortAt_46 : decode b_Tk_sortAt 46 = .ok (.iconst 4, 1) := by decide +kernel
theorem d_Tk_sortAt_47 : decode b_Tk_sortAt 47 = .ok (.iadd, 1) := by decide +kernel
theorem d_Tk_sortAt_48 : decode b_Tk_sortAt 48 = .ok (.invokestatic 94, 3) := by decide +kernel
theorem d_Tk_sortAt_51 : decode b_Tk_sortAt 51 = .ok (.istore_n 3, 1) := by decide +kernel
theorem d_Tk_sortAt_52 : decode b_Tk_sortAt 52 = .ok (.iload_n 2, 1) := by decide +kernel
theorem d_Tk_sortAt_53 : decode b_Tk_sortAt 53 = .ok (.iconst 5, 1) := by decide +kernel
theorem d_Tk_sortAt_54 : decode b_Tk_sortAt 54 = .ok (.if_icmp .ne 16, 3) := by decide +kernel
theorem d_Tk_sortAt_57 : decode b_Tk_sortAt 57 = .ok (.iload_n 3, 1) := by decide +kernel
theorem d_Tk_sortAt_58 : decode b_Tk_sortAt 58 = .ok (.iconst (-1), 1) := by decide +kernel
theorem d_Tk_sortAt_59 : decode b_Tk_sortAt 59 = .ok (.if_icmp .ne 7, 3) := by decide +kernel
theorem d_Tk_sortAt_62 : decode b_Tk_sortAt 62 = .ok (.iconst (-1), 1) := by decide +kernel
theorem d_Tk_sortAt_63 : decode b_Tk_sortAt 63 = .ok (.goto 6, 3) := by decide +kernel
theorem d_Tk_sortAt_66 : decode b_Tk_sortAt 66 = .ok (.iconst 1, 1) := by decide +kernel
theorem d_Tk_sortAt_67 : decode b_Tk_sortAt 67 = .ok (.iload_n 3, 1) := by decide +kernel
theorem d_Tk_sortAt_68 : decode b_Tk_sortAt 68 = .ok (.iadd, 1) := by decide +kernel
theorem d_Tk_sortAt_69 : decode b_Tk_sortAt 69 = .ok (.ireturn, 1) := by decide +kernel
theorem d_Tk_sortAt_70 : decode b_Tk_sortAt 70 = .ok (.aload_n 0, 1) := by decide +kernel
theorem d_Tk_sortAt_71 : decode b_Tk_sortAt 71 = .ok (.iload_n 1, 1) := by decide +kernel
theorem d_Tk_sortAt_72 : decode b_Tk_sortAt 72 = .ok (.iconst 5, 1) := by decide +kernel
theorem d_Tk_sortAt_73 : decode b_Tk_sortAt 73 = .ok (.iadd, 1) := by decide +kernel
theorem d_Tk_sortAt_74 : decode b_Tk_sortAt 74 = .ok (.invokestatic 94, 3) := by decide +kernel
theorem d_Tk_sortAt_77 : decode b_Tk_sortAt 77 = .ok (.istore 4, 2) := by decide +kernel
theorem d_Tk_sortAt_79 : decode b_Tk_sortAt 79 = .ok (.iload_n 3, 1) := by decide +kernel
theorem d_Tk_sortAt_80 : decode b_Tk_sortAt 80 = .ok (.ifCond .le 9, 3) := by decide +kernel
theorem d_Tk_sortAt_83 : decode b_Tk_sortAt 83 = .ok (.iload 4, 2) := by decide +kernel
theorem d_Tk_sortAt_85 : decode b_Tk_sortAt 85 = .ok (.iconst (-1), 1) := by decide +kernel
theorem d_Tk_sortAt_86 : decode b_Tk_sortAt 86 = .ok (.if_icmp .ne 7, 3) := by decide +kernel
theorem d_Tk_sortAt_89 : decode b_Tk_sortAt 89 = .ok (.iconst (-1), 1) := by decide +kernel
theorem d_Tk_sortAt_90 : decode b_Tk_sortAt 90 = .ok (.goto 12, 3) := by decide +kernel
theorem d_Tk_sortAt_93 : decode b_Tk_sortAt 93 = .ok (.iconst 1, 1) := by decide +kernel
theorem d_Tk_sortAt_94 : decode b_Tk_sortAt 94 = .ok (.bipush 10, 2) := by decide +kernel
theorem d_Tk_sortAt_96 : decode b_Tk_sortAt 96 = .ok (.iload_n 3, 1) := by decide +kernel
theorem d_Tk_sortAt_97 : decode b_Tk_sortAt 97 = .ok (.imul, 1) := by decide +kernel
theorem d_Tk_sortAt_98 : decode b_Tk_sortAt 98 = .ok (.iadd, 1) := by decide +kernel
theorem d_Tk_sortAt_99 : decode b_Tk_sortAt 99 = .ok (.iload 4, 2) := by decide +kernel
theorem d_Tk_sortAt_101 : decode b_Tk_sortAt 101 = .ok (.iadd, 1) := by decide +kernel
theorem d_Tk_sortAt_102 : decode b_Tk_sortAt 102 = .ok (.ireturn, 1) := by decide +kernel
noncomputable def Tk_sortAt_b89 (p1_row : (Nat → Int32)) (p1_length : Int32)  : Option Int32 := some (-1 : Int32)
noncomputable def f_Tk_sortAt (p1_row : (Nat → Int32)) (p1_length : Int32)  (a2 : Int32) (a3 : Int32) : Option Int32 := jb (f_Tk_isWord p1_row p1_length a2 a3 0) (fun o9 => if o9 = 0 then (if a3 < (4 : Int32) then (some (-1 : Int32)) else (if (6 : Int32) < a3 then (some (-1 : Int32)) else (jb (f_Tk_isWord p1_row p1_length a2 (4 : Int32) 1) (fun o11 => if o11 = 0 then (some (-1 : Int32)) else (if a3 = (4 : Int32) then (some (1 : Int32)) else (jb (f_Tk_digitAt p1_row p1_length (a2 + (4 : Int32))) (fun o13 => if a3 = (5 : Int32) then (if o13 = (-1 : Int32) then (some (-1 : Int32)) else (some ((1 : Int32) + o13))) else (jb (f_Tk_digitAt p1_row p1_length (a2 + (5 : Int32))) (fun o15 => if o13 ≤ 0 then (Tk_sortAt_b89 p1_row p1_length) else (if o15 = (-1 : Int32) then (Tk_sortAt_b89 p1_row p1_length) else (some (((1 : Int32) + ((10 : Int32) * o13)) + o15)))))))))))) else (some (0 : Int32)))
set_option maxHeartbeats 4000000 in
set_option maxRecDepth 100000 in
theorem c_Tk_sortAt {l : Launch} {dC : Nat → ClassId} {dI : Nat → Nat → Nat} {cI cB cS : ClassId} {adK adV adR : Nat → Nat} (h_p1 h_p1_row : Nat) (p1_row : (Nat → Int32)) (p1_length : Int32) (p1_overrun : Int32) (a2 : Int32) (a3 : Int32) {o : Int32} (hf : f_Tk_sortAt p1_row p1_length a2 a3 = some o) : jMet l dC dI cI cB cS adK adV adR y_Tk_sortAt wd_Tk_sortAt { frames := 5, cells := 0, slots := 0, locals := 109 } [.ref h_p1, .int a2, .int a3] [(h_p1, .inr (0, [.ref h_p1_row, .int p1_length, .int p1_overrun])), (h_p1_row, .inl (cB, 8000, .inl p1_row))] (some (.int o)) (fun q => [(h_p1, .inr (0, [.ref h_p1_row, .int p1_length, .int p1_overrun])), (h_p1_row, .inl (cB, 8000, .inl p1_row))]) 0 0 := by
  refine jEntry (cc := b_Tk_sortAt) (maxL := 5) (ret := (some .int)) (by decide) rfl (Nat.le_of_ble_eq_true rfl) rfl (fun p e s m args below meth c A H locs ls Q hQ hx hb hr hml hown hts hlocks hnm hJ hA hP hD hS hl => ?_)
  have hK := hJ.K
  have hl : lv_has ls 5 [(0, .ref h_p1), (1, .int a2), (2, .int a3)] := hl
  have B89 : ∀  (H : Heap) (locs : List Loc) (ls : Array Slot), Tk_sortAt_b89 p1_row p1_length = some o → va_P (dC, dI) vwCl [(h_p1, .inr (0, [.ref h_p1_row, .int p1_length, .int p1_overrun])), (h_p1_row, .inl (cB, 8000, .inl p1_row))] H → va_D A [(h_p1, .inr (0, [.ref h_p1_row, .int p1_length, .int p1_overrun])), (h_p1_row, .inl (cB, 8000, .inl p1_row))] → va_S A s.heap H locs → lv_has ls 5 [] → W p l e { frames := 5, cells := 0, slots := 0, locals := 109 } s m args below meth c H locs 0 0 Q (F0 m 89 ls []) := by
    intro  H locs ls hf hP hD hS hl
    unfold Tk_sortAt_b89 at hf
    refine lv_iconst (v := (-1 : Int32)) hx hb d_Tk_sortAt_89 (by decide) ?_
    refine lv_goto (tgt := 102) hx hb d_Tk_sortAt_90 (by decide) ?_
    have hf : (some (-1 : Int32) : Option Int32) = some o := hf
    rw [hQ, ← Option.some.inj hf]
    exact jIret hx hb hr hlocks d_Tk_sortAt_102 (fun _ => 0) hS hP hD
  unfold f_Tk_sortAt at hf
  refine lv_aload_n hx hb d_Tk_sortAt_0 rfl (lv_at hl 0 rfl) ?_
  refine lv_iload_n hx hb d_Tk_sortAt_1 rfl (lv_at hl 1 rfl) ?_
  refine lv_iload_n hx hb d_Tk_sortAt_2 rfl (lv_at hl 2 rfl) ?_
  refine va_ldcS hx hb hown (hJ.T 0 (by decide)) d_Tk_sortAt_3 ?_
  obtain ⟨o17, ho17⟩ : ∃ z, f_Tk_isWord p1_row p1_length a2 a3 0 = some z := by
    cases hz : f_Tk_isWord p1_row p1_length a2 a3 0 with
    | none => rw [hz] at hf; simp only [jb_none, jl_b_none, jm_none, reduceCtorEq] at hf
    | some z => exact ⟨z, rfl⟩
  rw [ho17, jb_some] at hf
  refine jCallS (As := [.ref h_p1, .int a2, .int a3, .ref (adK 0)]) (rest := []) (wr := []) ⟨hx, hb, hml, hown, hts⟩ hJ (c_Tk_isWord h_p1 h_p1_row p1_row p1_length p1_overrun a2 a3 0 ho17) (va_cwS 4 hts (jgS jw93 jw95 jw79 jw94) rfl rfl rfl dd_Tk_isWord.2 ⟨Nat.le_of_ble_eq_true rfl, Nat.le_of_ble_eq_true rfl⟩) hP hD hS hA [0, 1] [] rfl rfl (by decide) (by decide) (by decide) rfl hl.1 rfl (Nat.le_of_ble_eq_true rfl) d_Tk_sortAt_5 ⟨Nat.le_of_ble_eq_true rfl, Nat.le_of_ble_eq_true rfl⟩ (fun qz18 H locs hP hD hS => ?_)
  have hP : va_P (dC, dI) vwCl [(h_p1, .inr (0, [.ref h_p1_row, .int p1_length, .int p1_overrun])), (h_p1_row, .inl (cB, 8000, .inl p1_row))] H := hP
  have hD : va_D A [(h_p1, .inr (0, [.ref h_p1_row, .int p1_length, .int p1_overrun])), (h_p1_row, .inl (cB, 8000, .inl p1_row))] := hD
  refine lv_if_eq (tgt := 13) hx hb d_Tk_sortAt_8 (by decide) (fun c8 => ?_) (fun c8 => ?_)
  · rw [if_pos c8] at hf
    refine lv_iload_n hx hb d_Tk_sortAt_13 rfl (lv_at hl 2 rfl) ?_
    refine lv_iconst (v := (4 : Int32)) hx hb d_Tk_sortAt_14 (by decide) ?_
    refine lv_icmp_lt (tgt := 35) hx hb d_Tk_sortAt_15 (by decide) (fun c15 => ?_) (fun c15 => ?_)
    · rw [if_pos c15] at hf
      refine lv_iconst (v := (-1 : Int32)) hx hb d_Tk_sortAt_35 (by decide) ?_
      have hf : (some (-1 : Int32) : Option Int32) = some o := hf
      rw [hQ, ← Option.some.inj hf]
      exact jIret hx hb hr hlocks d_Tk_sortAt_36 (fun _ => 0) hS hP hD
    · rw [if_neg c15] at hf
      refine lv_iload_n hx hb d_Tk_sortAt_18 rfl (lv_at hl 2 rfl) ?_
      refine lv_bipush (v := (6 : Int32)) hx hb d_Tk_sortAt_19 (by decide) ?_
      refine lv_icmp_gt (tgt := 35) hx hb d_Tk_sortAt_21 (by decide) (fun c21 => ?_) (fun c21 => ?_)
      · rw [if_pos c21] at hf
        refine lv_iconst (v := (-1 : Int32)) hx hb d_Tk_sortAt_35 (by decide) ?_
        have hf : (some (-1 : Int32) : Option Int32) = some o := hf
        rw [hQ, ← Option.some.inj hf]
        exact jIret hx hb hr hlocks d_Tk_sortAt_36 (fun _ => 0) hS hP hD
      · rw [if_neg c21] at hf
        refine lv_aload_n hx hb d_Tk_sortAt_24 rfl (lv_at hl 0 rfl) ?_
        refine lv_iload_n hx hb d_Tk_sortAt_25 rfl (lv_at hl 1 rfl) ?_
        refine lv_iconst (v := (4 : Int32)) hx hb d_Tk_sortAt_26 (by decide) ?_
        refine va_ldcS hx hb hown (hJ.T 1 (by decide)) d_Tk_sortAt_27 ?_
        obtain ⟨o19, ho19⟩ : ∃ z, f_Tk_isWord p1_row p1_length a2 (4 : Int32) 1 = some z := by
          cases hz : f_Tk_isWord p1_row p1_length a2 (4 : Int32) 1 with
          | none => rw [hz] at hf; simp only [jb_none, jl_b_none, jm_none, reduceCtorEq] at hf
          | some z => exact ⟨z, rfl⟩
        rw [ho19, jb_some] at hf
        refine jCallS (As := [.ref h_p1, .int a2, .int (4 : Int32), .ref (adK 1)]) (rest := []) (wr := []) ⟨hx, hb, hml, hown, hts⟩ hJ (c_Tk_isWord h_p1 h_p1_row p1_row p1_length p1_overrun a2 (4 : Int32) 1 ho19) (va_cwS 4 hts (jgS jw93 jw95 jw79 jw94) rfl rfl rfl dd_Tk_isWord.2 ⟨Nat.le_of_ble_eq_true rfl, Nat.le_of_ble_eq_true rfl⟩) hP hD hS hA [0, 1] [] rfl rfl (by decide) (by decide) (by decide) rfl hl.1 rfl (Nat.le_of_ble_eq_true rfl) d_Tk_sortAt_29 ⟨Nat.le_of_ble_eq_true rfl, Nat.le_of_ble_eq_true rfl⟩ (fun qz20 H locs hP hD hS => ?_)
        have hP : va_P (dC, dI) vwCl [(h_p1, .inr (0, [.ref h_p1_row, .int p1_length, .int p1_overrun])), (h_p1_row, .inl (cB, 8000, .inl p1_row))] H := hP
        have hD : va_D A [(h_p1, .inr (0, [.ref h_p1_row, .int p1_length, .int p1_overrun])), (h_p1_row, .inl (cB, 8000, .inl p1_row))] := hD
        refine lv_if_ne (tgt := 37) hx hb d_Tk_sortAt_32 (by decide) (fun c32 => ?_) (fun c32 => ?_)
        · rw [if_neg c32] at hf
          refine lv_iload_n hx hb d_Tk_sortAt_37 rfl (lv_at hl 2 rfl) ?_
          refine lv_iconst (v := (4 : Int32)) hx hb d_Tk_sortAt_38 (by decide) ?_
          refine lv_icmp_ne (tgt := 44) hx hb d_Tk_sortAt_39 (by decide) (fun c39 => ?_) (fun c39 => ?_)
          · rw [if_neg c39] at hf
            refine lv_aload_n hx hb d_Tk_sortAt_44 rfl (lv_at hl 0 rfl) ?_
            refine lv_iload_n hx hb d_Tk_sortAt_45 rfl (lv_at hl 1 rfl) ?_
            refine lv_iconst (v := (4 : Int32)) hx hb d_Tk_sortAt_46 (by decide) ?_
            refine lv_iadd hx hb d_Tk_sortAt_47 ?_
            obtain ⟨o21, ho21⟩ : ∃ z, f_Tk_digitAt p1_row p1_length (a2 + (4 : Int32)) = some z := by
              cases hz : f_Tk_digitAt p1_row p1_length (a2 + (4 : Int32)) with
              | none => rw [hz] at hf; simp only [jb_none, jl_b_none, jm_none, reduceCtorEq] at hf
              | some z => exact ⟨z, rfl⟩
            rw [ho21, jb_some] at hf
            refine jCallS (As := [.ref h_p1, .int (a2 + (4 : Int32))]) (rest := []) (wr := []) ⟨hx, hb, hml, hown, hts⟩ hJ (c_Tk_digitAt h_p1 h_p1_row p1_row p1_length p1_overrun (a2 + (4 : Int32)) ho21) (va_cwS 2 hts (jgS jw96 jw98 jw79 jw97) rfl rfl rfl dd_Tk_digitAt.2 ⟨Nat.le_of_ble_eq_true rfl, Nat.le_of_ble_eq_true rfl⟩) hP hD hS hA [0, 1] [] rfl rfl (by decide) (by decide) (by decide) rfl hl.1 rfl (Nat.le_of_ble_eq_true rfl) d_Tk_sortAt_48 ⟨Nat.le_of_ble_eq_true rfl, Nat.le_of_ble_eq_true rfl⟩ (fun qz22 H locs hP hD hS => ?_)
            have hP : va_P (dC, dI) vwCl [(h_p1, .inr (0, [.ref h_p1_row, .int p1_length, .int p1_overrun])), (h_p1_row, .inl (cB, 8000, .inl p1_row))] H := hP
            have hD : va_D A [(h_p1, .inr (0, [.ref h_p1_row, .int p1_length, .int p1_overrun])), (h_p1_row, .inl (cB, 8000, .inl p1_row))] := hD
            refine lv_istore_n (lv' := [(3, .int o21), (0, .ref h_p1), (1, .int a2), (2, .int a3)]) hx hb d_Tk_sortAt_51 rfl hl (by decide) rfl (fun ls hl => ?_)
            refine lv_iload_n hx hb d_Tk_sortAt_52 rfl (lv_at hl 3 rfl) ?_
            refine lv_iconst (v := (5 : Int32)) hx hb d_Tk_sortAt_53 (by decide) ?_
            refine lv_icmp_ne (tgt := 70) hx hb d_Tk_sortAt_54 (by decide) (fun c54 => ?_) (fun c54 => ?_)
            · rw [if_neg c54] at hf
              refine lv_aload_n hx hb d_Tk_sortAt_70 rfl (lv_at hl 1 rfl) ?_
              refine lv_iload_n hx hb d_Tk_sortAt_71 rfl (lv_at hl 2 rfl) ?_
              refine lv_iconst (v := (5 : Int32)) hx hb d_Tk_sortAt_72 (by decide) ?_
              refine lv_iadd hx hb d_Tk_sortAt_73 ?_
              obtain ⟨o23, ho23⟩ : ∃ z, f_Tk_digitAt p1_row p1_length (a2 + (5 : Int32)) = some z := by
                cases hz : f_Tk_digitAt p1_row p1_length (a2 + (5 : Int32)) with
                | none => rw [hz] at hf; simp only [jb_none, jl_b_none, jm_none, reduceCtorEq] at hf
                | some z => exact ⟨z, rfl⟩
              rw [ho23, jb_some] at hf
              refine jCallS (As := [.ref h_p1, .int (a2 + (5 : Int32))]) (rest := []) (wr := []) ⟨hx, hb, hml, hown, hts⟩ hJ (c_Tk_digitAt h_p1 h_p1_row p1_row p1_length p1_overrun (a2 + (5 : Int32)) ho23) (va_cwS 2 hts (jgS jw96 jw98 jw79 jw97) rfl rfl rfl dd_Tk_digitAt.2 ⟨Nat.le_of_ble_eq_true rfl, Nat.le_of_ble_eq_true rfl⟩) hP hD hS hA [0, 1] [] rfl rfl (by decide) (by decide) (by decide) rfl hl.1 rfl (Nat.le_of_ble_eq_true rfl) d_Tk_sortAt_74 ⟨Nat.le_of_ble_eq_true rfl, Nat.le_of_ble_eq_true rfl⟩ (fun qz24 H locs hP hD hS => ?_)
              have hP : va_P (dC, dI) vwCl [(h_p1, .inr (0, [.ref h_p1_row, .int p1_length, .int p1_overrun])), (h_p1_row, .inl (cB, 8000, .inl p1_row))] H := hP
              have hD : va_D A [(h_p1, .inr (0, [.ref h_p1_row, .int p1_length, .int p1_overrun])), (h_p1_row, .inl (cB, 8000, .inl p1_row))] := hD
              refine lv_istore (lv' := [(4, .int o23), (3, .int o21), (0, .ref h_p1), (1, .int a2), (2, .int a3)]) hx hb d_Tk_sortAt_77 hl (by decide) rfl (fun ls hl => ?_)
              refine lv_iload_n hx hb d_Tk_sortAt_79 rfl (lv_at hl 1 rfl) ?_
              refine lv_if_le (tgt := 89) hx hb d_Tk_sortAt_80 (by decide) (fun c80 => ?_) (fun c80 => ?_)
              · rw [if_pos c80] at hf
                exact B89  H locs ls hf hP hD hS (lv_sub hl [] rfl)
              · rw [if_neg c80] at hf
                refine lv_iload hx hb d_Tk_sortAt_83 (lv_at hl 0 rfl) ?_
                refine lv_iconst (v := (-1 : Int32)) hx hb d_Tk_sortAt_85 (by decide) ?_
                refine lv_icmp_ne (tgt := 93) hx hb d_Tk_sortAt_86 (by decide) (fun c86 => ?_) (fun c86 => ?_)
                · rw [if_neg c86] at hf
                  refine lv_iconst (v := (1 : Int32)) hx hb d_Tk_sortAt_93 (by decide) ?_
                  refine lv_bipush (v := (10 : Int32)) hx hb d_Tk_sortAt_94 (by decide) ?_
                  refine lv_iload_n hx hb d_Tk_sortAt_96 rfl (lv_at hl 1 rfl) ?_
                  refine lv_imul hx hb d_Tk_sortAt_97 ?_
                  refine lv_iadd hx hb d_Tk_sortAt_98 ?_
                  refine lv_iload hx hb d_Tk_sortAt_99 (lv_at hl 0 rfl) ?_
                  refine lv_iadd hx hb d_Tk_sortAt_101 ?_
                  have hf : (some (((1 : Int32) + ((10 : Int32) * o21)) + o23) : Option Int32) = some o := hf
                  rw [hQ, ← Option.some.inj hf]
                  exact jIret hx hb hr hlocks d_Tk_sortAt_102 (fun _ => 0) hS hP hD
                · rw [if_pos c86] at hf
                  exact B89  H locs ls hf hP hD hS (lv_sub hl [] rfl)
            · rw [if_pos c54] at hf
              refine lv_iload_n hx hb d_Tk_sortAt_57 rfl (lv_at hl 0 rfl) ?_
              refine lv_iconst (v := (-1 : Int32)) hx hb d_Tk_sortAt_58 (by decide) ?_
              refine lv_icmp_ne (tgt := 66) hx hb d_Tk_sortAt_59 (by decide) (fun c59 => ?_) (fun c59 => ?_)
              · rw [if_neg c59] at hf
                refine lv_iconst (v := (1 : Int32)) hx hb d_Tk_sortAt_66 (by decide) ?_
                refine lv_iload_n hx hb d_Tk_sortAt_67 rfl (lv_at hl 0 rfl) ?_
                refine lv_iadd hx hb d_Tk_sortAt_68 ?_
                have hf : (some ((1 : Int32) + o21) : Option Int32) = some o := hf
                rw [hQ, ← Option.some.inj hf]
                exact jIret hx hb hr hlocks d_Tk_sortAt_69 (fun _ => 0) hS hP hD
              · rw [if_pos c59] at hf
                refine lv_iconst (v := (-1 : Int32)) hx hb d_Tk_sortAt_62 (by decide) ?_
                refine lv_goto (tgt := 69) hx hb d_Tk_sortAt_63 (by decide) ?_
                have hf : (some (-1 : Int32) : Option Int32) = some o := hf
                rw [hQ, ← Option.some.inj hf]
                exact jIret hx hb hr hlocks d_Tk_sortAt_69 (fun _ => 0) hS hP hD
          · rw [if_pos c39] at hf
            refine lv_iconst (v := (1 : Int32)) hx hb d_Tk_sortAt_42 (by decide) ?_
            have hf : (some (1 : Int32) : Option Int32) = some o := hf
            rw [hQ, ← Option.some.inj hf]
            exact jIret hx hb hr hlocks d_Tk_sortAt_43 (fun _ => 0) hS hP hD
        · rw [if_pos c32] at hf
          refine lv_iconst (v := (-1 : Int32)) hx hb d_Tk_sortAt_35 (by decide) ?_
          have hf : (some (-1 : Int32) : Option Int32) = some o := hf
          rw [hQ, ← Option.some.inj hf]
          exact jIret hx hb hr hlocks d_Tk_sortAt_36 (fun _ => 0) hS hP hD
  · rw [if_neg c8] at hf
    refine lv_iconst (v := (0 : Int32)) hx hb d_Tk_sortAt_11 (by decide) ?_
    have hf : (some (0 : Int32) : Option Int32) = some o := hf
    rw [hQ, ← Option.some.inj hf]
    exact jIret hx hb hr hlocks d_Tk_sortAt_12 (fun _ => 0) hS hP hD
theorem d_Tk_wordAt_0 : decode b_Tk_wordAt 0 = .ok (.iload_n 2, 1) := by decide +kernel
theorem d_Tk_wordAt_1 : decode b_Tk_wordAt 1 = .ok (.iconst 2, 1) := by decide +kernel
theorem d_Tk_wordAt_2 : decode b_Tk_wordAt 2 = .ok (.if_icmp .lt 8, 3) := by decide +kernel
theorem d_Tk_wordAt_5 : decode b_Tk_wordAt 5 = .ok (.iload_n 2, 1) := by decide +kernel
theorem d_Tk_wordAt_6 : decode b_Tk_wordAt 6 = .ok (.iconst 5, 1) := by decide +kernel
theorem d_Tk_wordAt_7 : decode b_Tk_wordAt 7 = .ok (.if_icmp .le 5, 3) := by decide +kernel
theorem d_Tk_wordAt_10 : decode b_Tk_wordAt 10 = .ok (.iconst 2, 1) := by decide +kernel
theorem d_Tk_wordAt_11 : decode b_Tk_wordAt 11 = .ok (.ireturn, 1) := by decide +kernel
theorem d_Tk_wordAt_12 : decode b_Tk_wordAt 12 = .ok (.iconst 4, 1) := by decide +kernel
theorem d_Tk_wordAt_13 : decode b_Tk_wordAt 13 = .ok (.istore_n 3, 1) := by decide +kernel
theorem d_Tk_wordAt_14 : decode b_Tk_wordAt 14 = .ok (.iload_n 3, 1) := by decide +kernel
theorem d_Tk_wordAt_15 : decode b_Tk_wordAt 15 = .ok (.bipush 14, 2) := by decide +kernel
theorem d_Tk_wordAt_17 : decode b_Tk_wordAt 17 = .ok (.if_icmp .gt 24, 3) := by decide +kernel
theorem d_Tk_wordAt_20 : decode b_Tk_wordAt 20 = .ok (.aload_n 0, 1) := by decide +kernel
theorem d_Tk_wordAt_21 : decode b_Tk_wordAt 21 = .ok (.iload_n 1, 1) := by decide +kernel
theorem d_Tk_wordAt_22 : decode b_Tk_wordAt 22 = .ok (.iload_n 2, 1) := by decide +kernel
theorem d_Tk_wordAt_23 : decode b_Tk_wordAt 23 = .ok (.iload_n 3, 1) := by decide +kernel
theorem d_Tk_wordAt_24 : decode b_Tk_wordAt 24 = .ok (.invokestatic 67, 3) := by decide +kernel
theorem d_Tk_wordAt_27 : decode b_Tk_wordAt 27 = .ok (.invokestatic 86, 3) := by decide +kernel
theorem d_Tk_wordAt_30 : decode b_Tk_wordAt 30 = .ok (.ifCond .eq 5, 3) := by decide +kernel
theorem d_Tk_wordAt_33 : decode b_Tk_wordAt 33 = .ok (.iload_n 3, 1) := by decide +kernel
theorem d_Tk_wordAt_34 : decode b_Tk_wordAt 34 = .ok (.ireturn, 1) := by decide +kernel
theorem d_Tk_wordAt_35 : decode b_Tk_wordAt 35 = .ok (.iinc 3 1, 3) := by decide +kernel
theorem d_Tk_wordAt_38 : decode b_Tk_wordAt 38 = .ok (.goto (-24), 3) := by decide +kernel
theorem d_Tk_wordAt_41 : decode b_Tk_wordAt 41 = .ok (.iconst 2, 1) := by decide +kernel
theorem d_Tk_wordAt_42 : decode b_Tk_wordAt 42 = .ok (.ireturn, 1) := by decide +kernel
noncomputable def Tk_wordAt_b14_s (p1_row : (Nat → Int32)) (p1_length : Int32) (l1 : Int32) (l2 : Int32) (l3 : Int32) : Option (Int32 ⊕ Int32) := if (14 : Int32) < l3 then (some (.inr (2 : Int32))) else (jb (f_To_spelling l3) (fun o5 => jb (f_Tk_isWord p1_row p1_length l1 l2 o5) (fun o7 => if o7 = 0 then (some (.inl (l3 + (1 : Int32)))) else (some (.inr l3)))))
noncomputable def Tk_wordAt_b14_b (p1_row : (Nat → Int32)) (p1_length : Int32) (l1 : Int32) (l2 : Int32) : Int32 → Option (Int32 ⊕ Int32) := fun x => Tk_wordAt_b14_s p1_row p1_length l1 l2 x
noncomputable def Tk_wordAt_b14 (p1_row : (Nat → Int32)) (p1_length : Int32) (l1 : Int32) (l2 : Int32) (l3 : Int32) : Option Int32 := jl (Tk_wordAt_b14_b p1_row p1_length l1 l2) l3
noncomputable def f_Tk_wordAt (p1_row : (Nat → Int32)) (p1_length : Int32)  (a2 : Int32) (a3 : Int32) : Option Int32 := if a3 < (2 : Int32) then (some (2 : Int32)) else (if a3 ≤ (5 : Int32) then (Tk_wordAt_b14 p1_row p1_length a2 a3 (4 : Int32)) else (some (2 : Int32)))
set_option maxHeartbeats 4000000 in
set_option maxRecDepth 100000 in
theorem c_Tk_wordAt {l : Launch} {dC : Nat → ClassId} {dI : Nat → Nat → Nat} {cI cB cS : ClassId} {adK adV adR : Nat → Nat} (h_p1 h_p1_row : Nat) (p1_row : (Nat → Int32)) (p1_length : Int32) (p1_overrun : Int32) (a2 : Int32) (a3 : Int32) {o : Int32} (hf : f_Tk_wordAt p1_row p1_length a2 a3 = some o) : jMet l dC dI cI cB cS adK adV adR y_Tk_wordAt wd_Tk_wordAt { frames := 5, cells := 0, slots := 0, locals := 109 } [.ref h_p1, .int a2, .int a3] [(h_p1, .inr (0, [.ref h_p1_row, .int p1_length, .int p1_overrun])), (h_p1_row, .inl (cB, 8000, .inl p1_row))] (some (.int o)) (fun q => [(h_p1, .inr (0, [.ref h_p1_row, .int p1_length, .int p1_overrun])), (h_p1_row, .inl (cB, 8000, .inl p1_row))]) 0 0 := by
  refine jEntry (cc := b_Tk_wordAt) (maxL := 4) (ret := (some .int)) (by decide) rfl (Nat.le_of_ble_eq_true rfl) rfl (fun p e s m args below meth c A H locs ls Q hQ hx hb hr hml hown hts hlocks hnm hJ hA hP hD hS hl => ?_)
  have hK := hJ.K
  have hl : lv_has ls 4 [(0, .ref h_p1), (1, .int a2), (2, .int a3)] := hl
  have L14 : ∀ (n14 : Nat) (l1 : Int32) (l2 : Int32) (l3 : Int32) (H : Heap) (locs : List Loc) (ls : Array Slot), jl_n (Tk_wordAt_b14_b p1_row p1_length l1 l2) n14 l3 = some o → va_P (dC, dI) vwCl [(h_p1, .inr (0, [.ref h_p1_row, .int p1_length, .int p1_overrun])), (h_p1_row, .inl (cB, 8000, .inl p1_row))] H → va_D A [(h_p1, .inr (0, [.ref h_p1_row, .int p1_length, .int p1_overrun])), (h_p1_row, .inl (cB, 8000, .inl p1_row))] → va_S A s.heap H locs → lv_has ls 4 [(0, .ref h_p1), (1, .int l1), (2, .int l2), (3, .int l3)] → W p l e { frames := 5, cells := 0, slots := 0, locals := 109 } s m args below meth c H locs 0 0 Q (F0 m 14 ls []) := by
    intro n14
    induction n14 with
    | zero => intro l1 l2 l3 H locs ls hf; simp only [jl_n_zero, jl_b_none, reduceCtorEq] at hf
    | succ n14 ih14 =>
      intro l1 l2 l3 H locs ls hf hP hD hS hl
      rw [jl_n_succ] at hf
      have hf : jl_b (jl_n (Tk_wordAt_b14_b p1_row p1_length l1 l2) n14) (Tk_wordAt_b14_s p1_row p1_length l1 l2 l3) = some o := hf
      unfold Tk_wordAt_b14_s at hf
      refine lv_iload_n hx hb d_Tk_wordAt_14 rfl (lv_at hl 3 rfl) ?_
      refine lv_bipush (v := (14 : Int32)) hx hb d_Tk_wordAt_15 (by decide) ?_
      refine lv_icmp_gt (tgt := 41) hx hb d_Tk_wordAt_17 (by decide) (fun c17 => ?_) (fun c17 => ?_)
      · rw [if_pos c17] at hf
        refine lv_iconst (v := (2 : Int32)) hx hb d_Tk_wordAt_41 (by decide) ?_
        have hf : (some (2 : Int32) : Option Int32) = some o := hf
        rw [hQ, ← Option.some.inj hf]
        exact jIret hx hb hr hlocks d_Tk_wordAt_42 (fun _ => 0) hS hP hD
      · rw [if_neg c17] at hf
        refine lv_aload_n hx hb d_Tk_wordAt_20 rfl (lv_at hl 0 rfl) ?_
        refine lv_iload_n hx hb d_Tk_wordAt_21 rfl (lv_at hl 1 rfl) ?_
        refine lv_iload_n hx hb d_Tk_wordAt_22 rfl (lv_at hl 2 rfl) ?_
        refine lv_iload_n hx hb d_Tk_wordAt_23 rfl (lv_at hl 3 rfl) ?_
        obtain ⟨o9, ho9⟩ : ∃ z, f_To_spelling l3 = some z := by
          cases hz : f_To_spelling l3 with
          | none => rw [hz] at hf; simp only [jb_none, jl_b_none, jm_none, reduceCtorEq] at hf
          | some z => exact ⟨z, rfl⟩
        rw [ho9, jb_some] at hf
        refine jCallS (As := [.int l3]) (rest := [.int l2, .int l1, .ref h_p1]) (wr := [(h_p1, .inr (0, [.ref h_p1_row, .int p1_length, .int p1_overrun])), (h_p1_row, .inl (cB, 8000, .inl p1_row))]) ⟨hx, hb, hml, hown, hts⟩ hJ (c_To_spelling l3 ho9) (va_cwS 1 hts (jgS jw99 jw102 jw101 jw100) rfl rfl rfl dd_To_spelling.2 ⟨Nat.le_of_ble_eq_true rfl, Nat.le_of_ble_eq_true rfl⟩) hP hD hS hA [] [0, 1] rfl rfl (by decide) (by decide) (by decide) rfl hl.1 rfl (Nat.le_of_ble_eq_true rfl) d_Tk_wordAt_24 ⟨Nat.le_of_ble_eq_true rfl, Nat.le_of_ble_eq_true rfl⟩ (fun qz10 H locs hP hD hS => ?_)
        have hP : va_P (dC, dI) vwCl [(h_p1, .inr (0, [.ref h_p1_row, .int p1_length, .int p1_overrun])), (h_p1_row, .inl (cB, 8000, .inl p1_row))] H := hP
        have hD : va_D A [(h_p1, .inr (0, [.ref h_p1_row, .int p1_length, .int p1_overrun])), (h_p1_row, .inl (cB, 8000, .inl p1_row))] := hD
        obtain ⟨o11, ho11⟩ : ∃ z, f_Tk_isWord p1_row p1_length l1 l2 o9 = some z := by
          cases hz : f_Tk_isWord p1_row p1_length l1 l2 o9 with
          | none => rw [hz] at hf; simp only [jb_none, jl_b_none, jm_none, reduceCtorEq] at hf
          | some z => exact ⟨z, rfl⟩
        rw [ho11, jb_some] at hf
        refine jCallS (As := [.ref h_p1, .int l1, .int l2, .ref (adK o9)]) (rest := []) (wr := []) ⟨hx, hb, hml, hown, hts⟩ hJ (c_Tk_isWord h_p1 h_p1_row p1_row p1_length p1_overrun l1 l2 o9 ho11) (va_cwS 4 hts (jgS jw93 jw95 jw79 jw94) rfl rfl rfl dd_Tk_isWord.2 ⟨Nat.le_of_ble_eq_true rfl, Nat.le_of_ble_eq_true rfl⟩) hP hD hS hA [0, 1] [] rfl rfl (by decide) (by decide) (by decide) rfl hl.1 rfl (Nat.le_of_ble_eq_true rfl) d_Tk_wordAt_27 ⟨Nat.le_of_ble_eq_true rfl, Nat.le_of_ble_eq_true rfl⟩ (fun qz12 H locs hP hD hS => ?_)
        have hP : va_P (dC, dI) vwCl [(h_p1, .inr (0, [.ref h_p1_row, .int p1_length, .int p1_overrun])), (h_p1_row, .inl (cB, 8000, .inl p1_row))] H := hP
        have hD : va_D A [(h_p1, .inr (0, [.ref h_p1_row, .int p1_length, .int p1_overrun])), (h_p1_row, .inl (cB, 8000, .inl p1_row))] := hD
        refine lv_if_eq (tgt := 35) hx hb d_Tk_wordAt_30 (by decide) (fun c30 => ?_) (fun c30 => ?_)
        · rw [if_pos c30] at hf
          refine lv_iinc (v := l3 + (1 : Int32)) (lv' := [(3, .int (l3 + (1 : Int32))), (0, .ref h_p1), (1, .int l1), (2, .int l2)]) hx hb d_Tk_wordAt_35 hl (k := 3) rfl rfl (by decide) rfl (fun ls hl => ?_)
          refine lv_goto (tgt := 14) hx hb d_Tk_wordAt_38 (by decide) ?_
          exact ih14 l1 l2 (l3 + (1 : Int32)) H locs ls hf hP hD hS (lv_sub hl [1, 2, 3, 0] rfl)
        · rw [if_neg c30] at hf
          refine lv_iload_n hx hb d_Tk_wordAt_33 rfl (lv_at hl 3 rfl) ?_
          have hf : (some l3 : Option Int32) = some o := hf
          rw [hQ, ← Option.some.inj hf]
          exact jIret hx hb hr hlocks d_Tk_wordAt_34 (fun _ => 0) hS hP hD
  unfold f_Tk_wordAt at hf
  refine lv_iload_n hx hb d_Tk_wordAt_0 rfl (lv_at hl 2 rfl) ?_
  refine lv_iconst (v := (2 : Int32)) hx hb d_Tk_wordAt_1 (by decide) ?_
  refine lv_icmp_lt (tgt := 10) hx hb d_Tk_wordAt_2 (by decide) (fun c2 => ?_) (fun c2 => ?_)
  · rw [if_pos c2] at hf
    refine lv_iconst (v := (2 : Int32)) hx hb d_Tk_wordAt_10 (by decide) ?_
    have hf : (some (2 : Int32) : Option Int32) = some o := hf
    rw [hQ, ← Option.some.inj hf]
    exact jIret hx hb hr hlocks d_Tk_wordAt_11 (fun _ => 0) hS hP hD
  · rw [if_neg c2] at hf
    refine lv_iload_n hx hb d_Tk_wordAt_5 rfl (lv_at hl 2 rfl) ?_
    refine lv_iconst (v := (5 : Int32)) hx hb d_Tk_wordAt_6 (by decide) ?_
    refine lv_icmp_le (tgt := 12) hx hb d_Tk_wordAt_7 (by decide) (fun c7 => ?_) (fun c7 => ?_)
    · rw [if_pos c7] at hf
      refine lv_iconst (v := (4 : Int32)) hx hb d_Tk_wordAt_12 (by decide) ?_
      refine lv_istore_n (lv' := [(3, .int (4 : Int32)), (0, .ref h_p1), (1, .int a2), (2, .int a3)]) hx hb d_Tk_wordAt_13 rfl hl (by decide) rfl (fun ls hl => ?_)
      unfold Tk_wordAt_b14 at hf
      obtain ⟨nn, en⟩ := jl_ex (Tk_wordAt_b14_b p1_row p1_length a2 a3) (4 : Int32)
      rw [en] at hf
      exact L14 nn a2 a3 (4 : Int32) H locs ls hf hP hD hS (lv_sub hl [1, 2, 3, 0] rfl)
    · rw [if_neg c7] at hf
      refine lv_iconst (v := (2 : Int32)) hx hb d_Tk_wordAt_10 (by decide) ?_
      have hf : (some (2 : Int32) : Option Int32) = some o := hf
      rw [hQ, ← Option.some.inj hf]
      exact jIret hx hb hr hlocks d_Tk_wordAt_11 (fun _ => 0) hS hP hD
theorem d_Tk_addToken_0 : decode b_Tk_addToken 0 = .ok (.aload_n 0, 1) := by decide +kernel
theorem d_Tk_addToken_1 : decode b_Tk_addToken 1 = .ok (.getfield 21, 3) := by decide +kernel
theorem d_Tk_addToken_4 : decode b_Tk_addToken 4 = .ok (.sipush 8001, 3) := by decide +kernel
theorem d_Tk_addToken_7 : decode b_Tk_addToken 7 = .ok (.if_icmp .ge 43, 3) := by decide +kernel
theorem d_Tk_addToken_10 : decode b_Tk_addToken 10 = .ok (.aload_n 0, 1) := by decide +kernel
theorem d_Tk_addToken_11 : decode b_Tk_addToken 11 = .ok (.getfield 9, 3) := by decide +kernel
theorem d_Tk_addToken_14 : decode b_Tk_addToken 14 = .ok (.aload_n 0, 1) := by decide +kernel
theorem d_Tk_addToken_15 : decode b_Tk_addToken 15 = .ok (.getfield 21, 3) := by decide +kernel
theorem d_Tk_addToken_18 : decode b_Tk_addToken 18 = .ok (.iload_n 1, 1) := by decide +kernel
theorem d_Tk_addToken_19 : decode b_Tk_addToken 19 = .ok (.iastore, 1) := by decide +kernel
theorem d_Tk_addToken_20 : decode b_Tk_addToken 20 = .ok (.aload_n 0, 1) := by decide +kernel
theorem d_Tk_addToken_21 : decode b_Tk_addToken 21 = .ok (.getfield 15, 3) := by decide +kernel
theorem d_Tk_addToken_24 : decode b_Tk_addToken 24 = .ok (.aload_n 0, 1) := by decide +kernel
theorem d_Tk_addToken_25 : decode b_Tk_addToken 25 = .ok (.getfield 21, 3) := by decide +kernel
theorem d_Tk_addToken_28 : decode b_Tk_addToken 28 = .ok (.iload_n 2, 1) := by decide +kernel
theorem d_Tk_addToken_29 : decode b_Tk_addToken 29 = .ok (.iastore, 1) := by decide +kernel
theorem d_Tk_addToken_30 : decode b_Tk_addToken 30 = .ok (.aload_n 0, 1) := by decide +kernel
theorem d_Tk_addToken_31 : decode b_Tk_addToken 31 = .ok (.getfield 18, 3) := by decide +kernel
theorem d_Tk_addToken_34 : decode b_Tk_addToken 34 = .ok (.aload_n 0, 1) := by decide +kernel
theorem d_Tk_addToken_35 : decode b_Tk_addToken 35 = .ok (.getfield 21, 3) := by decide +kernel
theorem d_Tk_addToken_38 : decode b_Tk_addToken 38 = .ok (.iload_n 3, 1) := by decide +kernel
theorem d_Tk_addToken_39 : decode b_Tk_addToken 39 = .ok (.iastore, 1) := by decide +kernel
theorem d_Tk_addToken_40 : decode b_Tk_addToken 40 = .ok (.aload_n 0, 1) := by decide +kernel
theorem d_Tk_addToken_41 : decode b_Tk_addToken 41 = .ok (.dup, 1) := by decide +kernel
theorem d_Tk_addToken_42 : decode b_Tk_addToken 42 = .ok (.getfield 21, 3) := by decide +kernel
theorem d_Tk_addToken_45 : decode b_Tk_addToken 45 = .ok (.iconst 1, 1) := by decide +kernel
theorem d_Tk_addToken_46 : decode b_Tk_addToken 46 = .ok (.iadd, 1) := by decide +kernel
theorem d_Tk_addToken_47 : decode b_Tk_addToken 47 = .ok (.putfield 21, 3) := by decide +kernel
theorem d_Tk_addToken_50 : decode b_Tk_addToken 50 = .ok (.iload_n 2, 1) := by decide +kernel
theorem d_Tk_addToken_51 : decode b_Tk_addToken 51 = .ok (.iload 4, 2) := by decide +kernel
theorem d_Tk_addToken_53 : decode b_Tk_addToken 53 = .ok (.iadd, 1) := by decide +kernel
theorem d_Tk_addToken_54 : decode b_Tk_addToken 54 = .ok (.ireturn, 1) := by decide +kernel
noncomputable def Tk_addToken_b50  (t_kinds : (Nat → Int32)) (t_places : (Nat → Int32)) (t_values : (Nat → Int32)) (t_count : Int32) (l2 : Int32) (l4 : Int32) : Option (Int32 × (Nat → Int32) × (Nat → Int32) × (Nat → Int32) × Int32) := some ((l2 + l4), t_kinds, t_places, t_values, t_count)
noncomputable def f_Tk_addToken  (t_kinds : (Nat → Int32)) (t_places : (Nat → Int32)) (t_values : (Nat → Int32)) (t_count : Int32) (a1 : Int32) (a2 : Int32) (a3 : Int32) (a4 : Int32) : Option (Int32 × (Nat → Int32) × (Nat → Int32) × (Nat → Int32) × Int32) := if (8001 : Int32) ≤ t_count then (Tk_addToken_b50 t_kinds t_places t_values t_count a2 a4) else (if t_count < 0 ∨ 8001 ≤ t_count.toNatClampNeg then none else (if t_count < 0 ∨ 8001 ≤ t_count.toNatClampNeg then none else (if t_count < 0 ∨ 8001 ≤ t_count.toNatClampNeg then none else (Tk_addToken_b50 (upd t_kinds t_count.toNatClampNeg a1) (upd t_places t_count.toNatClampNeg a2) (upd t_values t_count.toNatClampNeg a3) (t_count + (1 : Int32)) a2 a4))))
set_option maxHeartbeats 4000000 in
set_option maxRecDepth 100000 in
theorem c_Tk_addToken {l : Launch} {dC : Nat → ClassId} {dI : Nat → Nat → Nat} {cI cB cS : ClassId} {adK adV adR : Nat → Nat} (h_t h_t_kinds h_t_places h_t_values : Nat) (t_kinds : (Nat → Int32)) (t_places : (Nat → Int32)) (t_values : (Nat → Int32)) (t_count : Int32) (t_next : Int32) (a1 : Int32) (a2 : Int32) (a3 : Int32) (a4 : Int32) {o : (Int32 × (Nat → Int32) × (Nat → Int32) × (Nat → Int32) × Int32)} (hf : f_Tk_addToken t_kinds t_places t_values t_count a1 a2 a3 a4 = some o) : jMet l dC dI cI cB cS adK adV adR y_Tk_addToken wd_Tk_addToken { frames := 0, cells := 0, slots := 0, locals := 0 } [.ref h_t, .int a1, .int a2, .int a3, .int a4] [(h_t, .inr (4, [.ref h_t_kinds, .ref h_t_places, .ref h_t_values, .int t_count, .int t_next])), (h_t_kinds, .inl (cI, 8001, .inl t_kinds)), (h_t_places, .inl (cI, 8001, .inl t_places)), (h_t_values, .inl (cI, 8001, .inl t_values))] (some (.int o.1)) (fun q => [(h_t, .inr (4, [.ref h_t_kinds, .ref h_t_places, .ref h_t_values, .int o.2.2.2.2, .int t_next])), (h_t_kinds, .inl (cI, 8001, .inl o.2.1)), (h_t_places, .inl (cI, 8001, .inl o.2.2.1)), (h_t_values, .inl (cI, 8001, .inl o.2.2.2.1))]) 0 0 := by
  refine jEntry (cc := b_Tk_addToken) (maxL := 5) (ret := (some .int)) (by decide) rfl (Nat.le_of_ble_eq_true rfl) rfl (fun p e s m args below meth c A H locs ls Q hQ hx hb hr hml hown hts hlocks hnm hJ hA hP hD hS hl => ?_)
  have hK := hJ.K
  have hl : lv_has ls 5 [(0, .ref h_t), (1, .int a1), (2, .int a2), (3, .int a3), (4, .int a4)] := hl
  have B50 : ∀ (t_kinds : (Nat → Int32)) (t_places : (Nat → Int32)) (t_values : (Nat → Int32)) (t_count : Int32) (l2 : Int32) (l4 : Int32) (H : Heap) (locs : List Loc) (ls : Array Slot), Tk_addToken_b50 t_kinds t_places t_values t_count l2 l4 = some o → va_P (dC, dI) vwCl [(h_t, .inr (4, [.ref h_t_kinds, .ref h_t_places, .ref h_t_values, .int t_count, .int t_next])), (h_t_kinds, .inl (cI, 8001, .inl t_kinds)), (h_t_places, .inl (cI, 8001, .inl t_places)), (h_t_values, .inl (cI, 8001, .inl t_values))] H → va_D A [(h_t, .inr (4, [.ref h_t_kinds, .ref h_t_places, .ref h_t_values, .int t_count, .int t_next])), (h_t_kinds, .inl (cI, 8001, .inl t_kinds)), (h_t_places, .inl (cI, 8001, .inl t_places)), (h_t_values, .inl (cI, 8001, .inl t_values))] → va_S A s.heap H locs → lv_has ls 5 [(2, .int l2), (4, .int l4)] → W p l e { frames := 0, cells := 0, slots := 0, locals := 0 } s m args below meth c H locs 0 0 Q (F0 m 50 ls []) := by
    intro t_kinds t_places t_values t_count l2 l4 H locs ls hf hP hD hS hl
    unfold Tk_addToken_b50 at hf
    refine lv_iload_n hx hb d_Tk_addToken_50 rfl (lv_at hl 0 rfl) ?_
    refine lv_iload hx hb d_Tk_addToken_51 (lv_at hl 1 rfl) ?_
    refine lv_iadd hx hb d_Tk_addToken_53 ?_
    have hf : (some ((l2 + l4), t_kinds, t_places, t_values, t_count) : Option (Int32 × (Nat → Int32) × (Nat → Int32) × (Nat → Int32) × Int32)) = some o := hf
    rw [hQ, ← Option.some.inj hf]
    exact jIret hx hb hr hlocks d_Tk_addToken_54 (fun _ => 0) hS hP hD
  unfold f_Tk_addToken at hf
  refine lv_aload_n hx hb d_Tk_addToken_0 rfl (lv_at hl 0 rfl) ?_
  refine va_get (D := (dC, dI)) (ci := 4) (v := .int t_count) (C := R_Tk) (T := T_Tk) (N := 5) hx hb hts (fun w h => List.mem_cons_of_mem _ (in_Tk w h)) hown hK hP 0 rfl rfl 3 (by decide) (hts _ (List.mem_cons_of_mem _ jw75)) (fun _ h9 => h9) rfl d_Tk_addToken_1 ?_
  refine lv_sipush (v := (8001 : Int32)) hx hb d_Tk_addToken_4 (by decide) ?_
  refine lv_icmp_ge (tgt := 50) hx hb d_Tk_addToken_7 (by decide) (fun c7 => ?_) (fun c7 => ?_)
  · rw [if_pos c7] at hf
    exact B50 t_kinds t_places t_values t_count a2 a4 H locs ls hf hP hD hS (lv_sub hl [2, 4] rfl)
  · rw [if_neg c7] at hf
    refine lv_aload_n hx hb d_Tk_addToken_10 rfl (lv_at hl 0 rfl) ?_
    refine va_get (D := (dC, dI)) (ci := 4) (v := .ref h_t_kinds) (C := R_Tk) (T := T_Tk) (N := 5) hx hb hts (fun w h => List.mem_cons_of_mem _ (in_Tk w h)) hown hK hP 0 rfl rfl 0 (by decide) (hts _ (List.mem_cons_of_mem _ jw72)) (fun _ h9 => h9) rfl d_Tk_addToken_11 ?_
    refine lv_aload_n hx hb d_Tk_addToken_14 rfl (lv_at hl 0 rfl) ?_
    refine va_get (D := (dC, dI)) (ci := 4) (v := .int t_count) (C := R_Tk) (T := T_Tk) (N := 5) hx hb hts (fun w h => List.mem_cons_of_mem _ (in_Tk w h)) hown hK hP 0 rfl rfl 3 (by decide) (hts _ (List.mem_cons_of_mem _ jw75)) (fun _ h9 => h9) rfl d_Tk_addToken_15 ?_
    refine lv_iload_n hx hb d_Tk_addToken_18 rfl (lv_at hl 1 rfl) ?_
    have c19 : ¬ (t_count < 0 ∨ 8001 ≤ t_count.toNatClampNeg) := by intro z; rw [if_pos z] at hf; simp only [jb_none, jl_b_none, jm_none, reduceCtorEq] at hf
    rw [if_neg c19] at hf
    refine va_iast hx hb hK hP hD hS 1 0 rfl rfl c19 d_Tk_addToken_19 (fun H locs hP hD hS => ?_)
    have hP : va_P (dC, dI) vwCl [(h_t, .inr (4, [.ref h_t_kinds, .ref h_t_places, .ref h_t_values, .int t_count, .int t_next])), (h_t_kinds, .inl (cI, 8001, .inl (upd t_kinds t_count.toNatClampNeg a1))), (h_t_places, .inl (cI, 8001, .inl t_places)), (h_t_values, .inl (cI, 8001, .inl t_values))] H := hP
    have hD : va_D A [(h_t, .inr (4, [.ref h_t_kinds, .ref h_t_places, .ref h_t_values, .int t_count, .int t_next])), (h_t_kinds, .inl (cI, 8001, .inl (upd t_kinds t_count.toNatClampNeg a1))), (h_t_places, .inl (cI, 8001, .inl t_places)), (h_t_values, .inl (cI, 8001, .inl t_values))] := hD
    refine lv_aload_n hx hb d_Tk_addToken_20 rfl (lv_at hl 0 rfl) ?_
    refine va_get (D := (dC, dI)) (ci := 4) (v := .ref h_t_places) (C := R_Tk) (T := T_Tk) (N := 5) hx hb hts (fun w h => List.mem_cons_of_mem _ (in_Tk w h)) hown hK hP 0 rfl rfl 1 (by decide) (hts _ (List.mem_cons_of_mem _ jw73)) (fun _ h9 => h9) rfl d_Tk_addToken_21 ?_
    refine lv_aload_n hx hb d_Tk_addToken_24 rfl (lv_at hl 0 rfl) ?_
    refine va_get (D := (dC, dI)) (ci := 4) (v := .int t_count) (C := R_Tk) (T := T_Tk) (N := 5) hx hb hts (fun w h => List.mem_cons_of_mem _ (in_Tk w h)) hown hK hP 0 rfl rfl 3 (by decide) (hts _ (List.mem_cons_of_mem _ jw75)) (fun _ h9 => h9) rfl d_Tk_addToken_25 ?_
    refine lv_iload_n hx hb d_Tk_addToken_28 rfl (lv_at hl 2 rfl) ?_
    have c29 : ¬ (t_count < 0 ∨ 8001 ≤ t_count.toNatClampNeg) := by intro z; rw [if_pos z] at hf; simp only [jb_none, jl_b_none, jm_none, reduceCtorEq] at hf
    rw [if_neg c29] at hf
    refine va_iast hx hb hK hP hD hS 2 0 rfl rfl c29 d_Tk_addToken_29 (fun H locs hP hD hS => ?_)
    have hP : va_P (dC, dI) vwCl [(h_t, .inr (4, [.ref h_t_kinds, .ref h_t_places, .ref h_t_values, .int t_count, .int t_next])), (h_t_kinds, .inl (cI, 8001, .inl (upd t_kinds t_count.toNatClampNeg a1))), (h_t_places, .inl (cI, 8001, .inl (upd t_places t_count.toNatClampNeg a2))), (h_t_values, .inl (cI, 8001, .inl t_values))] H := hP
    have hD : va_D A [(h_t, .inr (4, [.ref h_t_kinds, .ref h_t_places, .ref h_t_values, .int t_count, .int t_next])), (h_t_kinds, .inl (cI, 8001, .inl (upd t_kinds t_count.toNatClampNeg a1))), (h_t_places, .inl (cI, 8001, .inl (upd t_places t_count.toNatClampNeg a2))), (h_t_values, .inl (cI, 8001, .inl t_values))] := hD
    refine lv_aload_n hx hb d_Tk_addToken_30 rfl (lv_at hl 0 rfl) ?_
    refine va_get (D := (dC, dI)) (ci := 4) (v := .ref h_t_values) (C := R_Tk) (T := T_Tk) (N := 5) hx hb hts (fun w h => List.mem_cons_of_mem _ (in_Tk w h)) hown hK hP 0 rfl rfl 2 (by decide) (hts _ (List.mem_cons_of_mem _ jw74)) (fun _ h9 => h9) rfl d_Tk_addToken_31 ?_
    refine lv_aload_n hx hb d_Tk_addToken_34 rfl (lv_at hl 0 rfl) ?_
    refine va_get (D := (dC, dI)) (ci := 4) (v := .int t_count) (C := R_Tk) (T := T_Tk) (N := 5) hx hb hts (fun w h => List.mem_cons_of_mem _ (in_Tk w h)) hown hK hP 0 rfl rfl 3 (by decide) (hts _ (List.mem_cons_of_mem _ jw75)) (fun _ h9 => h9) rfl d_Tk_addToken_35 ?_
    refine lv_iload_n hx hb d_Tk_addToken_38 rfl (lv_at hl 3 rfl) ?_
    have c39 : ¬ (t_count < 0 ∨ 8001 ≤ t_count.toNatClampNeg) := by intro z; rw [if_pos z] at hf; simp only [jb_none, jl_b_none, jm_none, reduceCtorEq] at hf
    rw [if_neg c39] at hf
    refine va_iast hx hb hK hP hD hS 3 0 rfl rfl c39 d_Tk_addToken_39 (fun H locs hP hD hS => ?_)
    have hP : va_P (dC, dI) vwCl [(h_t, .inr (4, [.ref h_t_kinds, .ref h_t_places, .ref h_t_values, .int t_count, .int t_next])), (h_t_kinds, .inl (cI, 8001, .inl (upd t_kinds t_count.toNatClampNeg a1))), (h_t_places, .inl (cI, 8001, .inl (upd t_places t_count.toNatClampNeg a2))), (h_t_values, .inl (cI, 8001, .inl (upd t_values t_count.toNatClampNeg a3)))] H := hP
    have hD : va_D A [(h_t, .inr (4, [.ref h_t_kinds, .ref h_t_places, .ref h_t_values, .int t_count, .int t_next])), (h_t_kinds, .inl (cI, 8001, .inl (upd t_kinds t_count.toNatClampNeg a1))), (h_t_places, .inl (cI, 8001, .inl (upd t_places t_count.toNatClampNeg a2))), (h_t_values, .inl (cI, 8001, .inl (upd t_values t_count.toNatClampNeg a3)))] := hD
    refine lv_aload_n hx hb d_Tk_addToken_40 rfl (lv_at hl 0 rfl) ?_
    refine lv_dup hx hb d_Tk_addToken_41 rfl ?_
    refine va_get (D := (dC, dI)) (ci := 4) (v := .int t_count) (C := R_Tk) (T := T_Tk) (N := 5) hx hb hts (fun w h => List.mem_cons_of_mem _ (in_Tk w h)) hown hK hP 0 rfl rfl 3 (by decide) (hts _ (List.mem_cons_of_mem _ jw75)) (fun _ h9 => h9) rfl d_Tk_addToken_42 ?_
    refine lv_iconst (v := (1 : Int32)) hx hb d_Tk_addToken_45 (by decide) ?_
    refine lv_iadd hx hb d_Tk_addToken_46 ?_
    refine va_put (D := (dC, dI)) (ci := 4) (v := .int (t_count + (1 : Int32))) (ty := .int) (C := R_Tk) (T := T_Tk) (N := 5) hx hb hts (fun w h => List.mem_cons_of_mem _ (in_Tk w h)) ty_Tk tyok_Tk nm_Tk hown hK hP hD hS 0 rfl rfl 3 (by decide) (hts _ (List.mem_cons_of_mem _ jw75)) (fun _ h9 => h9) rfl (by decide +kernel) rfl rfl (Nat.le_of_ble_eq_true rfl) d_Tk_addToken_47 (fun H locs hP hD hS => ?_)
    have hP : va_P (dC, dI) vwCl [(h_t, .inr (4, [.ref h_t_kinds, .ref h_t_places, .ref h_t_values, .int (t_count + (1 : Int32)), .int t_next])), (h_t_kinds, .inl (cI, 8001, .inl (upd t_kinds t_count.toNatClampNeg a1))), (h_t_places, .inl (cI, 8001, .inl (upd t_places t_count.toNatClampNeg a2))), (h_t_values, .inl (cI, 8001, .inl (upd t_values t_count.toNatClampNeg a3)))] H := hP
    have hD : va_D A [(h_t, .inr (4, [.ref h_t_kinds, .ref h_t_places, .ref h_t_values, .int (t_count + (1 : Int32)), .int t_next])), (h_t_kinds, .inl (cI, 8001, .inl (upd t_kinds t_count.toNatClampNeg a1))), (h_t_places, .inl (cI, 8001, .inl (upd t_places t_count.toNatClampNeg a2))), (h_t_values, .inl (cI, 8001, .inl (upd t_values t_count.toNatClampNeg a3)))] := hD
    exact B50 (upd t_kinds t_count.toNatClampNeg a1) (upd t_places t_count.toNatClampNeg a2) (upd t_values t_count.toNatClampNeg a3) (t_count + (1 : Int32)) a2 a4 H locs ls hf hP hD hS (lv_sub hl [2, 4] rfl)
theorem d_Tk_scanWord_0 : decode b_Tk_scanWord 0 = .ok (.iload_n 2, 1) := by decide +kernel
theorem d_Tk_scanWord_1 : decode b_Tk_scanWord 1 = .ok (.iconst 1, 1) := by decide +kernel
theorem d_Tk_scanWord_2 : decode b_Tk_scanWord 2 = .ok (.iadd, 1) := by decide +kernel
theorem d_Tk_scanWord_3 : decode b_Tk_scanWord 3 = .ok (.istore 4, 2) := by decide +kernel
theorem d_Tk_scanWord_5 : decode b_Tk_scanWord 5 = .ok (.iload 4, 2) := by decide +kernel
theorem d_Tk_scanWord_7 : decode b_Tk_scanWord 7 = .ok (.iload_n 3, 1) := by decide +kernel
theorem d_Tk_scanWord_8 : decode b_Tk_scanWord 8 = .ok (.if_icmp .ge 21, 3) := by decide +kernel
theorem d_Tk_scanWord_11 : decode b_Tk_scanWord 11 = .ok (.aload_n 1, 1) := by decide +kernel
theorem d_Tk_scanWord_12 : decode b_Tk_scanWord 12 = .ok (.iload 4, 2) := by decide +kernel
theorem d_Tk_scanWord_14 : decode b_Tk_scanWord 14 = .ok (.invokevirtual 34, 3) := by decide +kernel
theorem d_Tk_scanWord_17 : decode b_Tk_scanWord 17 = .ok (.invokestatic 77, 3) := by decide +kernel
theorem d_Tk_scanWord_20 : decode b_Tk_scanWord 20 = .ok (.ifCond .eq 9, 3) := by decide +kernel
theorem d_Tk_scanWord_23 : decode b_Tk_scanWord 23 = .ok (.iinc 4 1, 3) := by decide +kernel
theorem d_Tk_scanWord_26 : decode b_Tk_scanWord 26 = .ok (.goto (-21), 3) := by decide +kernel
theorem d_Tk_scanWord_29 : decode b_Tk_scanWord 29 = .ok (.iload 4, 2) := by decide +kernel
theorem d_Tk_scanWord_31 : decode b_Tk_scanWord 31 = .ok (.iload_n 2, 1) := by decide +kernel
theorem d_Tk_scanWord_32 : decode b_Tk_scanWord 32 = .ok (.isub, 1) := by decide +kernel
theorem d_Tk_scanWord_33 : decode b_Tk_scanWord 33 = .ok (.istore 5, 2) := by decide +kernel
theorem d_Tk_scanWord_35 : decode b_Tk_scanWord 35 = .ok (.iload 5, 2) := by decide +kernel
theorem d_Tk_scanWord_37 : decode b_Tk_scanWord 37 = .ok (.bipush 40, 2) := by decide +kernel
theorem d_Tk_scanWord_39 : decode b_Tk_scanWord 39 = .ok (.if_icmp .le 13, 3) := by decide +kernel
theorem d_Tk_scanWord_42 : decode b_Tk_scanWord 42 = .ok (.aload_n 0, 1) := by decide +kernel
theorem d_Tk_scanWord_43 : decode b_Tk_scanWord 43 = .ok (.iconst 1, 1) := by decide +kernel
theorem d_Tk_scanWord_44 : decode b_Tk_scanWord 44 = .ok (.iload_n 2, 1) := by decide +kernel
theorem d_Tk_scanWord_45 : decode b_Tk_scanWord 45 = .ok (.iconst 0, 1) := by decide +kernel
theorem d_Tk_scanWord_46 : decode b_Tk_scanWord 46 = .ok (.iload 5, 2) := by decide +kernel
theorem d_Tk_scanWord_48 : decode b_Tk_scanWord 48 = .ok (.invokevirtual 59, 3) := by decide +kernel
theorem d_Tk_scanWord_51 : decode b_Tk_scanWord 51 = .ok (.ireturn, 1) := by decide +kernel
theorem d_Tk_scanWord_52 : decode b_Tk_scanWord 52 = .ok (.aload_n 1, 1) := by decide +kernel
theorem d_Tk_scanWord_53 : decode b_Tk_scanWord 53 = .ok (.iload_n 2, 1) := by decide +kernel
theorem d_Tk_scanWord_54 : decode b_Tk_scanWord 54 = .ok (.iload 5, 2) := by decide +kernel
theorem d_Tk_scanWord_56 : decode b_Tk_scanWord 56 = .ok (.invokestatic 80, 3) := by decide +kernel
theorem d_Tk_scanWord_59 : decode b_Tk_scanWord 59 = .ok (.istore 6, 2) := by decide +kernel
theorem d_Tk_scanWord_61 : decode b_Tk_scanWord 61 = .ok (.iload 6, 2) := by decide +kernel
theorem d_Tk_scanWord_63 : decode b_Tk_scanWord 63 = .ok (.iconst (-1), 1) := by decide +kernel
theorem d_Tk_scanWord_64 : decode b_Tk_scanWord 64 = .ok (.if_icmp .eq 14, 3) := by decide +kernel
theorem d_Tk_scanWord_67 : decode b_Tk_scanWord 67 = .ok (.aload_n 0, 1) := by decide +kernel
theorem d_Tk_scanWord_68 : decode b_Tk_scanWord 68 = .ok (.iconst 3, 1) := by decide +kernel
theorem d_Tk_scanWord_69 : decode b_Tk_scanWord 69 = .ok (.iload_n 2, 1) := by decide +kernel
theorem d_Tk_scanWord_70 : decode b_Tk_scanWord 70 = .ok (.iload 6, 2) := by decide +kernel
theorem d_Tk_scanWord_72 : decode b_Tk_scanWord 72 = .ok (.iload 5, 2) := by decide +kernel
theorem d_Tk_scanWord_74 : decode b_Tk_scanWord 74 = .ok (.invokevirtual 59, 3) := by decide +kernel
theorem d_Tk_scanWord_77 : decode b_Tk_scanWord 77 = .ok (.ireturn, 1) := by decide +kernel
theorem d_Tk_scanWord_78 : decode b_Tk_scanWord 78 = .ok (.aload_n 0, 1) := by decide +kernel
theorem d_Tk_scanWord_79 : decode b_Tk_scanWord 79 = .ok (.aload_n 1, 1) := by decide +kernel
theorem d_Tk_scanWord_80 : decode b_Tk_scanWord 80 = .ok (.iload_n 2, 1) := by decide +kernel
theorem d_Tk_scanWord_81 : decode b_Tk_scanWord 81 = .ok (.iload 5, 2) := by decide +kernel
theorem d_Tk_scanWord_83 : decode b_Tk_scanWord 83 = .ok (.invokestatic 83, 3) := by decide +kernel
theorem d_Tk_scanWord_86 : decode b_Tk_scanWord 86 = .ok (.iload_n 2, 1) := by decide +kernel
theorem d_Tk_scanWord_87 : decode b_Tk_scanWord 87 = .ok (.iload 5, 2) := by decide +kernel
theorem d_Tk_scanWord_89 : decode b_Tk_scanWord 89 = .ok (.iload 5, 2) := by decide +kernel
theorem d_Tk_scanWord_91 : decode b_Tk_scanWord 91 = .ok (.invokevirtual 59, 3) := by decide +kernel
theorem d_Tk_scanWord_94 : decode b_Tk_scanWord 94 = .ok (.ireturn, 1) := by decide +kernel
noncomputable def Tk_scanWord_b29 (p1_row : (Nat → Int32)) (p1_length : Int32) (t_kinds : (Nat → Int32)) (t_places : (Nat → Int32)) (t_values : (Nat → Int32)) (t_count : Int32) (l2 : Int32) (l4 : Int32) : Option (Int32 × (Nat → Int32) × (Nat → Int32) × (Nat → Int32) × Int32) := if (l4 - l2) ≤ (40 : Int32) then (jb (f_Tk_sortAt p1_row p1_length l2 (l4 - l2)) (fun o15 => if o15 = (-1 : Int32) then (jb (f_Tk_wordAt p1_row p1_length l2 (l4 - l2)) (fun o17 => jb (f_Tk_addToken t_kinds t_places t_values t_count o17 l2 (l4 - l2) (l4 - l2)) (fun o19 => some (o19.1, o19.2.1, o19.2.2.1, o19.2.2.2.1, o19.2.2.2.2)))) else (jb (f_Tk_addToken t_kinds t_places t_values t_count (3 : Int32) l2 o15 (l4 - l2)) (fun o21 => some (o21.1, o21.2.1, o21.2.2.1, o21.2.2.2.1, o21.2.2.2.2))))) else (jb (f_Tk_addToken t_kinds t_places t_values t_count (1 : Int32) l2 (0 : Int32) (l4 - l2)) (fun o23 => some (o23.1, o23.2.1, o23.2.2.1, o23.2.2.2.1, o23.2.2.2.2)))
noncomputable def Tk_scanWord_b5_s (p1_row : (Nat → Int32)) (p1_length : Int32) (t_kinds : (Nat → Int32)) (t_places : (Nat → Int32)) (t_values : (Nat → Int32)) (t_count : Int32) (l2 : Int32) (l3 : Int32) (l4 : Int32) : Option (Int32 ⊕ (Int32 × (Nat → Int32) × (Nat → Int32) × (Nat → Int32) × Int32)) := if l3 ≤ l4 then (jm (Tk_scanWord_b29 p1_row p1_length t_kinds t_places t_values t_count l2 l4)) else (jb (f_By_at p1_row p1_length l4) (fun o25 => jb (f_Tk_isInName o25) (fun o27 => if o27 = 0 then (jm (Tk_scanWord_b29 p1_row p1_length t_kinds t_places t_values t_count l2 l4)) else (some (.inl (l4 + (1 : Int32)))))))
noncomputable def Tk_scanWord_b5_b (p1_row : (Nat → Int32)) (p1_length : Int32) (t_kinds : (Nat → Int32)) (t_places : (Nat → Int32)) (t_values : (Nat → Int32)) (t_count : Int32) (l2 : Int32) (l3 : Int32) : Int32 → Option (Int32 ⊕ (Int32 × (Nat → Int32) × (Nat → Int32) × (Nat → Int32) × Int32)) := fun x => Tk_scanWord_b5_s p1_row p1_length t_kinds t_places t_values t_count l2 l3 x
noncomputable def Tk_scanWord_b5 (p1_row : (Nat → Int32)) (p1_length : Int32) (t_kinds : (Nat → Int32)) (t_places : (Nat → Int32)) (t_values : (Nat → Int32)) (t_count : Int32) (l2 : Int32) (l3 : Int32) (l4 : Int32) : Option (Int32 × (Nat → Int32) × (Nat → Int32) × (Nat → Int32) × Int32) := jl (Tk_scanWord_b5_b p1_row p1_length t_kinds t_places t_values t_count l2 l3) l4
noncomputable def f_Tk_scanWord (p1_row : (Nat → Int32)) (p1_length : Int32) (t_kinds : (Nat → Int32)) (t_places : (Nat → Int32)) (t_values : (Nat → Int32)) (t_count : Int32) (a2 : Int32) (a3 : Int32) : Option (Int32 × (Nat → Int32) × (Nat → Int32) × (Nat → Int32) × Int32) := Tk_scanWord_b5 p1_row p1_length t_kinds t_places t_values t_count a2 a3 (a2 + (1 : Int32))
set_option maxHeartbeats 4000000 in
set_option maxRecDepth 100000 in
theorem c_Tk_scanWord {l : Launch} {dC : Nat → ClassId} {dI : Nat → Nat → Nat} {cI cB cS : ClassId} {adK adV adR : Nat → Nat} (h_t h_t_kinds h_t_places h_t_values h_p1 h_p1_row : Nat) (t_kinds : (Nat → Int32)) (t_places : (Nat → Int32)) (t_values : (Nat → Int32)) (t_count : Int32) (t_next : Int32) (p1_row : (Nat → Int32)) (p1_length : Int32) (p1_overrun : Int32) (a2 : Int32) (a3 : Int32) {o : (Int32 × (Nat → Int32) × (Nat → Int32) × (Nat → Int32) × Int32)} (hf : f_Tk_scanWord p1_row p1_length t_kinds t_places t_values t_count a2 a3 = some o) : jMet l dC dI cI cB cS adK adV adR y_Tk_scanWord wd_Tk_scanWord { frames := 6, cells := 0, slots := 0, locals := 133 } [.ref h_t, .ref h_p1, .int a2, .int a3] [(h_t, .inr (4, [.ref h_t_kinds, .ref h_t_places, .ref h_t_values, .int t_count, .int t_next])), (h_t_kinds, .inl (cI, 8001, .inl t_kinds)), (h_t_places, .inl (cI, 8001, .inl t_places)), (h_t_values, .inl (cI, 8001, .inl t_values)), (h_p1, .inr (0, [.ref h_p1_row, .int p1_length, .int p1_overrun])), (h_p1_row, .inl (cB, 8000, .inl p1_row))] (some (.int o.1)) (fun q => [(h_t, .inr (4, [.ref h_t_kinds, .ref h_t_places, .ref h_t_values, .int o.2.2.2.2, .int t_next])), (h_t_kinds, .inl (cI, 8001, .inl o.2.1)), (h_t_places, .inl (cI, 8001, .inl o.2.2.1)), (h_t_values, .inl (cI, 8001, .inl o.2.2.2.1)), (h_p1, .inr (0, [.ref h_p1_row, .int p1_length, .int p1_overrun])), (h_p1_row, .inl (cB, 8000, .inl p1_row))]) 0 0 := by
  refine jEntry (cc := b_Tk_scanWord) (maxL := 7) (ret := (some .int)) (by decide) rfl (Nat.le_of_ble_eq_true rfl) rfl (fun p e s m args below meth c A H locs ls Q hQ hx hb hr hml hown hts hlocks hnm hJ hA hP hD hS hl => ?_)
  have hK := hJ.K
  have hl : lv_has ls 7 [(0, .ref h_t), (1, .ref h_p1), (2, .int a2), (3, .int a3)] := hl
  have B29 : ∀ (t_kinds : (Nat → Int32)) (t_places : (Nat → Int32)) (t_values : (Nat → Int32)) (t_count : Int32) (l2 : Int32) (l4 : Int32) (H : Heap) (locs : List Loc) (ls : Array Slot), Tk_scanWord_b29 p1_row p1_length t_kinds t_places t_values t_count l2 l4 = some o → va_P (dC, dI) vwCl [(h_t, .inr (4, [.ref h_t_kinds, .ref h_t_places, .ref h_t_values, .int t_count, .int t_next])), (h_t_kinds, .inl (cI, 8001, .inl t_kinds)), (h_t_places, .inl (cI, 8001, .inl t_places)), (h_t_values, .inl (cI, 8001, .inl t_values)), (h_p1, .inr (0, [.ref h_p1_row, .int p1_length, .int p1_overrun])), (h_p1_row, .inl (cB, 8000, .inl p1_row))] H → va_D A [(h_t, .inr (4, [.ref h_t_kinds, .ref h_t_places, .ref h_t_values, .int t_count, .int t_next])), (h_t_kinds, .inl (cI, 8001, .inl t_kinds)), (h_t_places, .inl (cI, 8001, .inl t_places)), (h_t_values, .inl (cI, 8001, .inl t_values)), (h_p1, .inr (0, [.ref h_p1_row, .int p1_length, .int p1_overrun])), (h_p1_row, .inl (cB, 8000, .inl p1_row))] → va_S A s.heap H locs → lv_has ls 7 [(0, .ref h_t), (1, .ref h_p1), (2, .int l2), (4, .int l4)] → W p l e { frames := 6, cells := 0, slots := 0, locals := 133 } s m args below meth c H locs 0 0 Q (F0 m 29 ls []) := by
    intro t_kinds t_places t_values t_count l2 l4 H locs ls hf hP hD hS hl
    unfold Tk_scanWord_b29 at hf
    refine lv_iload hx hb d_Tk_scanWord_29 (lv_at hl 3 rfl) ?_
    refine lv_iload_n hx hb d_Tk_scanWord_31 rfl (lv_at hl 2 rfl) ?_
    refine lv_isub hx hb d_Tk_scanWord_32 ?_
    refine lv_istore (lv' := [(5, .int (l4 - l2)), (0, .ref h_t), (1, .ref h_p1), (2, .int l2), (4, .int l4)]) hx hb d_Tk_scanWord_33 hl (by decide) rfl (fun ls hl => ?_)
    refine lv_iload hx hb d_Tk_scanWord_35 (lv_at hl 0 rfl) ?_
    refine lv_bipush (v := (40 : Int32)) hx hb d_Tk_scanWord_37 (by decide) ?_
    refine lv_icmp_le (tgt := 52) hx hb d_Tk_scanWord_39 (by decide) (fun c39 => ?_) (fun c39 => ?_)
    · rw [if_pos c39] at hf
      refine lv_aload_n hx hb d_Tk_scanWord_52 rfl (lv_at hl 2 rfl) ?_
      refine lv_iload_n hx hb d_Tk_scanWord_53 rfl (lv_at hl 3 rfl) ?_
      refine lv_iload hx hb d_Tk_scanWord_54 (lv_at hl 0 rfl) ?_
      obtain ⟨o29, ho29⟩ : ∃ z, f_Tk_sortAt p1_row p1_length l2 (l4 - l2) = some z := by
        cases hz : f_Tk_sortAt p1_row p1_length l2 (l4 - l2) with
        | none => rw [hz] at hf; simp only [jb_none, jl_b_none, jm_none, reduceCtorEq] at hf
        | some z => exact ⟨z, rfl⟩
      rw [ho29, jb_some] at hf
      refine jCallS (As := [.ref h_p1, .int l2, .int (l4 - l2)]) (rest := []) (wr := [(h_t, .inr (4, [.ref h_t_kinds, .ref h_t_places, .ref h_t_values, .int t_count, .int t_next])), (h_t_kinds, .inl (cI, 8001, .inl t_kinds)), (h_t_places, .inl (cI, 8001, .inl t_places)), (h_t_values, .inl (cI, 8001, .inl t_values))]) ⟨hx, hb, hml, hown, hts⟩ hJ (c_Tk_sortAt h_p1 h_p1_row p1_row p1_length p1_overrun l2 (l4 - l2) ho29) (va_cwS 3 hts (jgS jw106 jw108 jw79 jw107) rfl rfl rfl dd_Tk_sortAt.2 ⟨Nat.le_of_ble_eq_true rfl, Nat.le_of_ble_eq_true rfl⟩) hP hD hS hA [4, 5] [0, 1, 2, 3] rfl rfl (by decide) (by decide) (by decide) rfl hl.1 rfl (Nat.le_of_ble_eq_true rfl) d_Tk_scanWord_56 ⟨Nat.le_of_ble_eq_true rfl, Nat.le_of_ble_eq_true rfl⟩ (fun qz30 H locs hP hD hS => ?_)
      have hP : va_P (dC, dI) vwCl [(h_t, .inr (4, [.ref h_t_kinds, .ref h_t_places, .ref h_t_values, .int t_count, .int t_next])), (h_t_kinds, .inl (cI, 8001, .inl t_kinds)), (h_t_places, .inl (cI, 8001, .inl t_places)), (h_t_values, .inl (cI, 8001, .inl t_values)), (h_p1, .inr (0, [.ref h_p1_row, .int p1_length, .int p1_overrun])), (h_p1_row, .inl (cB, 8000, .inl p1_row))] H := hP
      have hD : va_D A [(h_t, .inr (4, [.ref h_t_kinds, .ref h_t_places, .ref h_t_values, .int t_count, .int t_next])), (h_t_kinds, .inl (cI, 8001, .inl t_kinds)), (h_t_places, .inl (cI, 8001, .inl t_places)), (h_t_values, .inl (cI, 8001, .inl t_values)), (h_p1, .inr (0, [.ref h_p1_row, .int p1_length, .int p1_overrun])), (h_p1_row, .inl (cB, 8000, .inl p1_row))] := hD
      refine lv_istore (lv' := [(6, .int o29), (5, .int (l4 - l2)), (0, .ref h_t), (1, .ref h_p1), (2, .int l2), (4, .int l4)]) hx hb d_Tk_scanWord_59 hl (by decide) rfl (fun ls hl => ?_)
      refine lv_iload hx hb d_Tk_scanWord_61 (lv_at hl 0 rfl) ?_
      refine lv_iconst (v := (-1 : Int32)) hx hb d_Tk_scanWord_63 (by decide) ?_
      refine lv_icmp_eq (tgt := 78) hx hb d_Tk_scanWord_64 (by decide) (fun c64 => ?_) (fun c64 => ?_)
      · rw [if_pos c64] at hf
        refine lv_aload_n hx hb d_Tk_scanWord_78 rfl (lv_at hl 2 rfl) ?_
        refine lv_aload_n hx hb d_Tk_scanWord_79 rfl (lv_at hl 3 rfl) ?_
        refine lv_iload_n hx hb d_Tk_scanWord_80 rfl (lv_at hl 4 rfl) ?_
        refine lv_iload hx hb d_Tk_scanWord_81 (lv_at hl 1 rfl) ?_
        obtain ⟨o31, ho31⟩ : ∃ z, f_Tk_wordAt p1_row p1_length l2 (l4 - l2) = some z := by
          cases hz : f_Tk_wordAt p1_row p1_length l2 (l4 - l2) with
          | none => rw [hz] at hf; simp only [jb_none, jl_b_none, jm_none, reduceCtorEq] at hf
          | some z => exact ⟨z, rfl⟩
        rw [ho31, jb_some] at hf
        refine jCallS (As := [.ref h_p1, .int l2, .int (l4 - l2)]) (rest := [.ref h_t]) (wr := [(h_t, .inr (4, [.ref h_t_kinds, .ref h_t_places, .ref h_t_values, .int t_count, .int t_next])), (h_t_kinds, .inl (cI, 8001, .inl t_kinds)), (h_t_places, .inl (cI, 8001, .inl t_places)), (h_t_values, .inl (cI, 8001, .inl t_values))]) ⟨hx, hb, hml, hown, hts⟩ hJ (c_Tk_wordAt h_p1 h_p1_row p1_row p1_length p1_overrun l2 (l4 - l2) ho31) (va_cwS 3 hts (jgS jw109 jw111 jw79 jw110) rfl rfl rfl dd_Tk_wordAt.2 ⟨Nat.le_of_ble_eq_true rfl, Nat.le_of_ble_eq_true rfl⟩) hP hD hS hA [4, 5] [0, 1, 2, 3] rfl rfl (by decide) (by decide) (by decide) rfl hl.1 rfl (Nat.le_of_ble_eq_true rfl) d_Tk_scanWord_83 ⟨Nat.le_of_ble_eq_true rfl, Nat.le_of_ble_eq_true rfl⟩ (fun qz32 H locs hP hD hS => ?_)
        have hP : va_P (dC, dI) vwCl [(h_t, .inr (4, [.ref h_t_kinds, .ref h_t_places, .ref h_t_values, .int t_count, .int t_next])), (h_t_kinds, .inl (cI, 8001, .inl t_kinds)), (h_t_places, .inl (cI, 8001, .inl t_places)), (h_t_values, .inl (cI, 8001, .inl t_values)), (h_p1, .inr (0, [.ref h_p1_row, .int p1_length, .int p1_overrun])), (h_p1_row, .inl (cB, 8000, .inl p1_row))] H := hP
        have hD : va_D A [(h_t, .inr (4, [.ref h_t_kinds, .ref h_t_places, .ref h_t_values, .int t_count, .int t_next])), (h_t_kinds, .inl (cI, 8001, .inl t_kinds)), (h_t_places, .inl (cI, 8001, .inl t_places)), (h_t_values, .inl (cI, 8001, .inl t_values)), (h_p1, .inr (0, [.ref h_p1_row, .int p1_length, .int p1_overrun])), (h_p1_row, .inl (cB, 8000, .inl p1_row))] := hD
        refine lv_iload_n hx hb d_Tk_scanWord_86 rfl (lv_at hl 4 rfl) ?_
        refine lv_iload hx hb d_Tk_scanWord_87 (lv_at hl 1 rfl) ?_
        refine lv_iload hx hb d_Tk_scanWord_89 (lv_at hl 1 rfl) ?_
        obtain ⟨o33, ho33⟩ : ∃ z, f_Tk_addToken t_kinds t_places t_values t_count o31 l2 (l4 - l2) (l4 - l2) = some z := by
          cases hz : f_Tk_addToken t_kinds t_places t_values t_count o31 l2 (l4 - l2) (l4 - l2) with
          | none => rw [hz] at hf; simp only [jb_none, jl_b_none, jm_none, reduceCtorEq] at hf
          | some z => exact ⟨z, rfl⟩
        rw [ho33, jb_some] at hf
        refine jCallV (As := [.int o31, .int l2, .int (l4 - l2), .int (l4 - l2)]) (rest := []) (wr := [(h_p1, .inr (0, [.ref h_p1_row, .int p1_length, .int p1_overrun])), (h_p1_row, .inl (cB, 8000, .inl p1_row))]) ⟨hx, hb, hml, hown, hts⟩ hJ (c_Tk_addToken h_t h_t_kinds h_t_places h_t_values t_kinds t_places t_values t_count t_next o31 l2 (l4 - l2) (l4 - l2) ho33) (cwV 4 hts (jgV jw112 jw114 jw115 jw79 jw113) rfl rfl rfl dd_Tk_addToken ⟨Nat.le_of_ble_eq_true rfl, Nat.le_of_ble_eq_true rfl⟩) hP hD hS hA (va_recv hK hP (ci := 4) (q0 := 0) rfl rfl) [0, 1, 2, 3] [4, 5] rfl rfl (by decide) (by decide) (by decide) rfl hl.1 rfl (Nat.le_of_ble_eq_true rfl) d_Tk_scanWord_91 ⟨Nat.le_of_ble_eq_true rfl, Nat.le_of_ble_eq_true rfl⟩ (fun qz34 H locs hP hD hS => ?_)
        have hP : va_P (dC, dI) vwCl [(h_p1, .inr (0, [.ref h_p1_row, .int p1_length, .int p1_overrun])), (h_p1_row, .inl (cB, 8000, .inl p1_row)), (h_t, .inr (4, [.ref h_t_kinds, .ref h_t_places, .ref h_t_values, .int o33.2.2.2.2, .int t_next])), (h_t_kinds, .inl (cI, 8001, .inl o33.2.1)), (h_t_places, .inl (cI, 8001, .inl o33.2.2.1)), (h_t_values, .inl (cI, 8001, .inl o33.2.2.2.1))] H := hP
        have hD : va_D A [(h_p1, .inr (0, [.ref h_p1_row, .int p1_length, .int p1_overrun])), (h_p1_row, .inl (cB, 8000, .inl p1_row)), (h_t, .inr (4, [.ref h_t_kinds, .ref h_t_places, .ref h_t_values, .int o33.2.2.2.2, .int t_next])), (h_t_kinds, .inl (cI, 8001, .inl o33.2.1)), (h_t_places, .inl (cI, 8001, .inl o33.2.2.1)), (h_t_values, .inl (cI, 8001, .inl o33.2.2.2.1))] := hD
        have hf : (some (o33.1, o33.2.1, o33.2.2.1, o33.2.2.2.1, o33.2.2.2.2) : Option (Int32 × (Nat → Int32) × (Nat → Int32) × (Nat → Int32) × Int32)) = some o := hf
        rw [hQ, ← Option.some.inj hf]
        exact jIret hx hb hr hlocks d_Tk_scanWord_94 (fun _ => 0) hS (hP.sub [2, 3, 4, 5, 0, 1] rfl) (hD.sub [2, 3, 4, 5, 0, 1] (by decide) rfl)
      · rw [if_neg c64] at hf
        refine lv_aload_n hx hb d_Tk_scanWord_67 rfl (lv_at hl 2 rfl) ?_
        refine lv_iconst (v := (3 : Int32)) hx hb d_Tk_scanWord_68 (by decide) ?_
        refine lv_iload_n hx hb d_Tk_scanWord_69 rfl (lv_at hl 4 rfl) ?_
        refine lv_iload hx hb d_Tk_scanWord_70 (lv_at hl 0 rfl) ?_
        refine lv_iload hx hb d_Tk_scanWord_72 (lv_at hl 1 rfl) ?_
        obtain ⟨o35, ho35⟩ : ∃ z, f_Tk_addToken t_kinds t_places t_values t_count (3 : Int32) l2 o29 (l4 - l2) = some z := by
          cases hz : f_Tk_addToken t_kinds t_places t_values t_count (3 : Int32) l2 o29 (l4 - l2) with
          | none => rw [hz] at hf; simp only [jb_none, jl_b_none, jm_none, reduceCtorEq] at hf
          | some z => exact ⟨z, rfl⟩
        rw [ho35, jb_some] at hf
        refine jCallV (As := [.int (3 : Int32), .int l2, .int o29, .int (l4 - l2)]) (rest := []) (wr := [(h_p1, .inr (0, [.ref h_p1_row, .int p1_length, .int p1_overrun])), (h_p1_row, .inl (cB, 8000, .inl p1_row))]) ⟨hx, hb, hml, hown, hts⟩ hJ (c_Tk_addToken h_t h_t_kinds h_t_places h_t_values t_kinds t_places t_values t_count t_next (3 : Int32) l2 o29 (l4 - l2) ho35) (cwV 4 hts (jgV jw112 jw114 jw115 jw79 jw113) rfl rfl rfl dd_Tk_addToken ⟨Nat.le_of_ble_eq_true rfl, Nat.le_of_ble_eq_true rfl⟩) hP hD hS hA (va_recv hK hP (ci := 4) (q0 := 0) rfl rfl) [0, 1, 2, 3] [4, 5] rfl rfl (by decide) (by decide) (by decide) rfl hl.1 rfl (Nat.le_of_ble_eq_true rfl) d_Tk_scanWord_74 ⟨Nat.le_of_ble_eq_true rfl, Nat.le_of_ble_eq_true rfl⟩ (fun qz36 H locs hP hD hS => ?_)
        have hP : va_P (dC, dI) vwCl [(h_p1, .inr (0, [.ref h_p1_row, .int p1_length, .int p1_overrun])), (h_p1_row, .inl (cB, 8000, .inl p1_row)), (h_t, .inr (4, [.ref h_t_kinds, .ref h_t_places, .ref h_t_values, .int o35.2.2.2.2, .int t_next])), (h_t_kinds, .inl (cI, 8001, .inl o35.2.1)), (h_t_places, .inl (cI, 8001, .inl o35.2.2.1)), (h_t_values, .inl (cI, 8001, .inl o35.2.2.2.1))] H := hP
        have hD : va_D A [(h_p1, .inr (0, [.ref h_p1_row, .int p1_length, .int p1_overrun])), (h_p1_row, .inl (cB, 8000, .inl p1_row)), (h_t, .inr (4, [.ref h_t_kinds, .ref h_t_places, .ref h_t_values, .int o35.2.2.2.2, .int t_next])), (h_t_kinds, .inl (cI, 8001, .inl o35.2.1)), (h_t_places, .inl (cI, 8001, .inl o35.2.2.1)), (h_t_values, .inl (cI, 8001, .inl o35.2.2.2.1))] := hD
        have hf : (some (o35.1, o35.2.1, o35.2.2.1, o35.2.2.2.1, o35.2.2.2.2) : Option (Int32 × (Nat → Int32) × (Nat → Int32) × (Nat → Int32) × Int32)) = some o := hf
        rw [hQ, ← Option.some.inj hf]
        exact jIret hx hb hr hlocks d_Tk_scanWord_77 (fun _ => 0) hS (hP.sub [2, 3, 4, 5, 0, 1] rfl) (hD.sub [2, 3, 4, 5, 0, 1] (by decide) rfl)
    · rw [if_neg c39] at hf
      refine lv_aload_n hx hb d_Tk_scanWord_42 rfl (lv_at hl 1 rfl) ?_
      refine lv_iconst (v := (1 : Int32)) hx hb d_Tk_scanWord_43 (by decide) ?_
      refine lv_iload_n hx hb d_Tk_scanWord_44 rfl (lv_at hl 3 rfl) ?_
      refine lv_iconst (v := (0 : Int32)) hx hb d_Tk_scanWord_45 (by decide) ?_
      refine lv_iload hx hb d_Tk_scanWord_46 (lv_at hl 0 rfl) ?_
      obtain ⟨o37, ho37⟩ : ∃ z, f_Tk_addToken t_kinds t_places t_values t_count (1 : Int32) l2 (0 : Int32) (l4 - l2) = some z := by
        cases hz : f_Tk_addToken t_kinds t_places t_values t_count (1 : Int32) l2 (0 : Int32) (l4 - l2) with
        | none => rw [hz] at hf; simp only [jb_none, jl_b_none, jm_none, reduceCtorEq] at hf
        | some z => exact ⟨z, rfl⟩
      rw [ho37, jb_some] at hf
      refine jCallV (As := [.int (1 : Int32), .int l2, .int (0 : Int32), .int (l4 - l2)]) (rest := []) (wr := [(h_p1, .inr (0, [.ref h_p1_row, .int p1_length, .int p1_overrun])), (h_p1_row, .inl (cB, 8000, .inl p1_row))]) ⟨hx, hb, hml, hown, hts⟩ hJ (c_Tk_addToken h_t h_t_kinds h_t_places h_t_values t_kinds t_places t_values t_count t_next (1 : Int32) l2 (0 : Int32) (l4 - l2) ho37) (cwV 4 hts (jgV jw112 jw114 jw115 jw79 jw113) rfl rfl rfl dd_Tk_addToken ⟨Nat.le_of_ble_eq_true rfl, Nat.le_of_ble_eq_true rfl⟩) hP hD hS hA (va_recv hK hP (ci := 4) (q0 := 0) rfl rfl) [0, 1, 2, 3] [4, 5] rfl rfl (by decide) (by decide) (by decide) rfl hl.1 rfl (Nat.le_of_ble_eq_true rfl) d_Tk_scanWord_48 ⟨Nat.le_of_ble_eq_true rfl, Nat.le_of_ble_eq_true rfl⟩ (fun qz38 H locs hP hD hS => ?_)
      have hP : va_P (dC, dI) vwCl [(h_p1, .inr (0, [.ref h_p1_row, .int p1_length, .int p1_overrun])), (h_p1_row, .inl (cB, 8000, .inl p1_row)), (h_t, .inr (4, [.ref h_t_kinds, .ref h_t_places, .ref h_t_values, .int o37.2.2.2.2, .int t_next])), (h_t_kinds, .inl (cI, 8001, .inl o37.2.1)), (h_t_places, .inl (cI, 8001, .inl o37.2.2.1)), (h_t_values, .inl (cI, 8001, .inl o37.2.2.2.1))] H := hP
      have hD : va_D A [(h_p1, .inr (0, [.ref h_p1_row, .int p1_length, .int p1_overrun])), (h_p1_row, .inl (cB, 8000, .inl p1_row)), (h_t, .inr (4, [.ref h_t_kinds, .ref h_t_places, .ref h_t_values, .int o37.2.2.2.2, .int t_next])), (h_t_kinds, .inl (cI, 8001, .inl o37.2.1)), (h_t_places, .inl (cI, 8001, .inl o37.2.2.1)), (h_t_values, .inl (cI, 8001, .inl o37.2.2.2.1))] := hD
      have hf : (some (o37.1, o37.2.1, o37.2.2.1, o37.2.2.2.1, o37.2.2.2.2) : Option (Int32 × (Nat → Int32) × (Nat → Int32) × (Nat → Int32) × Int32)) = some o := hf
      rw [hQ, ← Option.some.inj hf]
      exact jIret hx hb hr hlocks d_Tk_scanWord_51 (fun _ => 0) hS (hP.sub [2, 3, 4, 5, 0, 1] rfl) (hD.sub [2, 3, 4, 5, 0, 1] (by decide) rfl)
  have L5 : ∀ (n5 : Nat) (t_kinds : (Nat → Int32)) (t_places : (Nat → Int32)) (t_values : (Nat → Int32)) (t_count : Int32) (l2 : Int32) (l3 : Int32) (l4 : Int32) (H : Heap) (locs : List Loc) (ls : Array Slot), jl_n (Tk_scanWord_b5_b p1_row p1_length t_kinds t_places t_values t_count l2 l3) n5 l4 = some o → va_P (dC, dI) vwCl [(h_t, .inr (4, [.ref h_t_kinds, .ref h_t_places, .ref h_t_values, .int t_count, .int t_next])), (h_t_kinds, .inl (cI, 8001, .inl t_kinds)), (h_t_places, .inl (cI, 8001, .inl t_places)), (h_t_values, .inl (cI, 8001, .inl t_values)), (h_p1, .inr (0, [.ref h_p1_row, .int p1_length, .int p1_overrun])), (h_p1_row, .inl (cB, 8000, .inl p1_row))] H → va_D A [(h_t, .inr (4, [.ref h_t_kinds, .ref h_t_places, .ref h_t_values, .int t_count, .int t_next])), (h_t_kinds, .inl (cI, 8001, .inl t_kinds)), (h_t_places, .inl (cI, 8001, .inl t_places)), (h_t_values, .inl (cI, 8001, .inl t_values)), (h_p1, .inr (0, [.ref h_p1_row, .int p1_length, .int p1_overrun])), (h_p1_row, .inl (cB, 8000, .inl p1_row))] → va_S A s.heap H locs → lv_has ls 7 [(0, .ref h_t), (1, .ref h_p1), (2, .int l2), (3, .int l3), (4, .int l4)] → W p l e { frames := 6, cells := 0, slots := 0, locals := 133 } s m args below meth c H locs 0 0 Q (F0 m 5 ls []) := by
    intro n5
    induction n5 with
    | zero => intro t_kinds t_places t_values t_count l2 l3 l4 H locs ls hf; simp only [jl_n_zero, jl_b_none, reduceCtorEq] at hf
    | succ n5 ih5 =>
      intro t_kinds t_places t_values t_count l2 l3 l4 H locs ls hf hP hD hS hl
      rw [jl_n_succ] at hf
      have hf : jl_b (jl_n (Tk_scanWord_b5_b p1_row p1_length t_kinds t_places t_values t_count l2 l3) n5) (Tk_scanWord_b5_s p1_row p1_length t_kinds t_places t_values t_count l2 l3 l4) = some o := hf
      unfold Tk_scanWord_b5_s at hf
      refine lv_iload hx hb d_Tk_scanWord_5 (lv_at hl 4 rfl) ?_
      refine lv_iload_n hx hb d_Tk_scanWord_7 rfl (lv_at hl 3 rfl) ?_
      refine lv_icmp_ge (tgt := 29) hx hb d_Tk_scanWord_8 (by decide) (fun c8 => ?_) (fun c8 => ?_)
      · rw [if_pos c8] at hf
        rw [jl_b_jm] at hf
        exact B29 t_kinds t_places t_values t_count l2 l4 H locs ls hf hP hD hS (lv_sub hl [0, 1, 2, 4] rfl)
      · rw [if_neg c8] at hf
        refine lv_aload_n hx hb d_Tk_scanWord_11 rfl (lv_at hl 1 rfl) ?_
        refine lv_iload hx hb d_Tk_scanWord_12 (lv_at hl 4 rfl) ?_
        obtain ⟨o39, ho39⟩ : ∃ z, f_By_at p1_row p1_length l4 = some z := by
          cases hz : f_By_at p1_row p1_length l4 with
          | none => rw [hz] at hf; simp only [jb_none, jl_b_none, jm_none, reduceCtorEq] at hf
          | some z => exact ⟨z, rfl⟩
        rw [ho39, jb_some] at hf
        refine jCallV (As := [.int l4]) (rest := []) (wr := [(h_t, .inr (4, [.ref h_t_kinds, .ref h_t_places, .ref h_t_values, .int t_count, .int t_next])), (h_t_kinds, .inl (cI, 8001, .inl t_kinds)), (h_t_places, .inl (cI, 8001, .inl t_places)), (h_t_values, .inl (cI, 8001, .inl t_values))]) ⟨hx, hb, hml, hown, hts⟩ hJ (c_By_at h_p1 h_p1_row p1_row p1_length p1_overrun l4 ho39) (cwV 1 hts (jgV jw84 jw54 jw55 jw33 jw53) rfl rfl rfl dd_By_at ⟨Nat.le_of_ble_eq_true rfl, Nat.le_of_ble_eq_true rfl⟩) hP hD hS hA (va_recv hK hP (ci := 0) (q0 := 4) rfl rfl) [4, 5] [0, 1, 2, 3] rfl rfl (by decide) (by decide) (by decide) rfl hl.1 rfl (Nat.le_of_ble_eq_true rfl) d_Tk_scanWord_14 ⟨Nat.le_of_ble_eq_true rfl, Nat.le_of_ble_eq_true rfl⟩ (fun qz40 H locs hP hD hS => ?_)
        have hP : va_P (dC, dI) vwCl [(h_t, .inr (4, [.ref h_t_kinds, .ref h_t_places, .ref h_t_values, .int t_count, .int t_next])), (h_t_kinds, .inl (cI, 8001, .inl t_kinds)), (h_t_places, .inl (cI, 8001, .inl t_places)), (h_t_values, .inl (cI, 8001, .inl t_values)), (h_p1, .inr (0, [.ref h_p1_row, .int p1_length, .int p1_overrun])), (h_p1_row, .inl (cB, 8000, .inl p1_row))] H := hP
        have hD : va_D A [(h_t, .inr (4, [.ref h_t_kinds, .ref h_t_places, .ref h_t_values, .int t_count, .int t_next])), (h_t_kinds, .inl (cI, 8001, .inl t_kinds)), (h_t_places, .inl (cI, 8001, .inl t_places)), (h_t_values, .inl (cI, 8001, .inl t_values)), (h_p1, .inr (0, [.ref h_p1_row, .int p1_length, .int p1_overrun])), (h_p1_row, .inl (cB, 8000, .inl p1_row))] := hD
        obtain ⟨o41, ho41⟩ : ∃ z, f_Tk_isInName o39 = some z := by
          cases hz : f_Tk_isInName o39 with
          | none => rw [hz] at hf; simp only [jb_none, jl_b_none, jm_none, reduceCtorEq] at hf
          | some z => exact ⟨z, rfl⟩
        rw [ho41, jb_some] at hf
        refine jCallS (As := [.int o39]) (rest := []) (wr := [(h_t, .inr (4, [.ref h_t_kinds, .ref h_t_places, .ref h_t_values, .int t_count, .int t_next])), (h_t_kinds, .inl (cI, 8001, .inl t_kinds)), (h_t_places, .inl (cI, 8001, .inl t_places)), (h_t_values, .inl (cI, 8001, .inl t_values)), (h_p1, .inr (0, [.ref h_p1_row, .int p1_length, .int p1_overrun])), (h_p1_row, .inl (cB, 8000, .inl p1_row))]) ⟨hx, hb, hml, hown, hts⟩ hJ (c_Tk_isInName o39 ho41) (va_cwS 1 hts (jgS jw103 jw105 jw79 jw104) rfl rfl rfl dd_Tk_isInName.2 ⟨Nat.le_of_ble_eq_true rfl, Nat.le_of_ble_eq_true rfl⟩) hP hD hS hA [] [0, 1, 2, 3, 4, 5] rfl rfl (by decide) (by decide) (by decide) rfl hl.1 rfl (Nat.le_of_ble_eq_true rfl) d_Tk_scanWord_17 ⟨Nat.le_of_ble_eq_true rfl, Nat.le_of_ble_eq_true rfl⟩ (fun qz42 H locs hP hD hS => ?_)
        have hP : va_P (dC, dI) vwCl [(h_t, .inr (4, [.ref h_t_kinds, .ref h_t_places, .ref h_t_values, .int t_count, .int t_next])), (h_t_kinds, .inl (cI, 8001, .inl t_kinds)), (h_t_places, .inl (cI, 8001, .inl t_places)), (h_t_values, .inl (cI, 8001, .inl t_values)), (h_p1, .inr (0, [.ref h_p1_row, .int p1_length, .int p1_overrun])), (h_p1_row, .inl (cB, 8000, .inl p1_row))] H := hP
        have hD : va_D A [(h_t, .inr (4, [.ref h_t_kinds, .ref h_t_places, .ref h_t_values, .int t_count, .int t_next])), (h_t_kinds, .inl (cI, 8001, .inl t_kinds)), (h_t_places, .inl (cI, 8001, .inl t_places)), (h_t_values, .inl (cI, 8001, .inl t_values)), (h_p1, .inr (0, [.ref h_p1_row, .int p1_length, .int p1_overrun])), (h_p1_row, .inl (cB, 8000, .inl p1_row))] := hD
        refine lv_if_eq (tgt := 29) hx hb d_Tk_scanWord_20 (by decide) (fun c20 => ?_) (fun c20 => ?_)
        · rw [if_pos c20] at hf
          rw [jl_b_jm] at hf
          exact B29 t_kinds t_places t_values t_count l2 l4 H locs ls hf hP hD hS (lv_sub hl [0, 1, 2, 4] rfl)
        · rw [if_neg c20] at hf
          refine lv_iinc (v := l4 + (1 : Int32)) (lv' := [(4, .int (l4 + (1 : Int32))), (0, .ref h_t), (1, .ref h_p1), (2, .int l2), (3, .int l3)]) hx hb d_Tk_scanWord_23 hl (k := 4) rfl rfl (by decide) rfl (fun ls hl => ?_)
          refine lv_goto (tgt := 5) hx hb d_Tk_scanWord_26 (by decide) ?_
          exact ih5 t_kinds t_places t_values t_count l2 l3 (l4 + (1 : Int32)) H locs ls hf hP hD hS (lv_sub hl [1, 2, 3, 4, 0] rfl)
  unfold f_Tk_scanWord at hf
  refine lv_iload_n hx hb d_Tk_scanWord_0 rfl (lv_at hl 2 rfl) ?_
  refine lv_iconst (v := (1 : Int32)) hx hb d_Tk_scanWord_1 (by decide) ?_
  refine lv_iadd hx hb d_Tk_scanWord_2 ?_
  refine lv_istore (lv' := [(4, .int (a2 + (1 : Int32))), (0, .ref h_t), (1, .ref h_p1), (2, .int a2), (3, .int a3)]) hx hb d_Tk_scanWord_3 hl (by decide) rfl (fun ls hl => ?_)
  unfold Tk_scanWord_b5 at hf
  obtain ⟨nn, en⟩ := jl_ex (Tk_scanWord_b5_b p1_row p1_length t_kinds t_places t_values t_count a2 a3) (a2 + (1 : Int32))
  rw [en] at hf
  exact L5 nn t_kinds t_places t_values t_count a2 a3 (a2 + (1 : Int32)) H locs ls hf hP hD hS (lv_sub hl [1, 2, 3, 4, 0] rfl)
theorem d_Tk_scanSign_0 : decode b_Tk_scanSign 0 = .ok (.iload_n 2, 1) := by decide +kernel
theorem d_Tk_scanSign_1 : decode b_Tk_scanSign 1 = .ok (.iload_n 3, 1) := by decide +kernel
theorem d_Tk_scanSign_2 : decode b_Tk_scanSign 2 = .ok (.if_icmp .lt 12, 3) := by decide +kernel
theorem d_Tk_scanSign_5 : decode b_Tk_scanSign 5 = .ok (.aload_n 0, 1) := by decide +kernel
theorem d_Tk_scanSign_6 : decode b_Tk_scanSign 6 = .ok (.iconst 0, 1) := by decide +kernel
theorem d_Tk_scanSign_7 : decode b_Tk_scanSign 7 = .ok (.iload_n 3, 1) := by decide +kernel
theorem d_Tk_scanSign_8 : decode b_Tk_scanSign 8 = .ok (.iconst 0, 1) := by decide +kernel
theorem d_Tk_scanSign_9 : decode b_Tk_scanSign 9 = .ok (.iconst 0, 1) := by decide +kernel
theorem d_Tk_scanSign_10 : decode b_Tk_scanSign 10 = .ok (.invokevirtual 59, 3) := by decide +kernel
theorem d_Tk_scanSign_13 : decode b_Tk_scanSign 13 = .ok (.ireturn, 1) := by decide +kernel
theorem d_Tk_scanSign_14 : decode b_Tk_scanSign 14 = .ok (.aload_n 1, 1) := by decide +kernel
theorem d_Tk_scanSign_15 : decode b_Tk_scanSign 15 = .ok (.iload_n 2, 1) := by decide +kernel
theorem d_Tk_scanSign_16 : decode b_Tk_scanSign 16 = .ok (.invokevirtual 34, 3) := by decide +kernel
theorem d_Tk_scanSign_19 : decode b_Tk_scanSign 19 = .ok (.iload_n 2, 1) := by decide +kernel
theorem d_Tk_scanSign_20 : decode b_Tk_scanSign 20 = .ok (.iconst 1, 1) := by decide +kernel
theorem d_Tk_scanSign_21 : decode b_Tk_scanSign 21 = .ok (.iadd, 1) := by decide +kernel
theorem d_Tk_scanSign_22 : decode b_Tk_scanSign 22 = .ok (.iload_n 3, 1) := by decide +kernel
theorem d_Tk_scanSign_23 : decode b_Tk_scanSign 23 = .ok (.if_icmp .ge 13, 3) := by decide +kernel
theorem d_Tk_scanSign_26 : decode b_Tk_scanSign 26 = .ok (.aload_n 1, 1) := by decide +kernel
theorem d_Tk_scanSign_27 : decode b_Tk_scanSign 27 = .ok (.iload_n 2, 1) := by decide +kernel
theorem d_Tk_scanSign_28 : decode b_Tk_scanSign 28 = .ok (.iconst 1, 1) := by decide +kernel
theorem d_Tk_scanSign_29 : decode b_Tk_scanSign 29 = .ok (.iadd, 1) := by decide +kernel
theorem d_Tk_scanSign_30 : decode b_Tk_scanSign 30 = .ok (.invokevirtual 34, 3) := by decide +kernel
theorem d_Tk_scanSign_33 : decode b_Tk_scanSign 33 = .ok (.goto 4, 3) := by decide +kernel
theorem d_Tk_scanSign_36 : decode b_Tk_scanSign 36 = .ok (.iconst (-1), 1) := by decide +kernel
theorem d_Tk_scanSign_37 : decode b_Tk_scanSign 37 = .ok (.invokestatic 63, 3) := by decide +kernel
theorem d_Tk_scanSign_40 : decode b_Tk_scanSign 40 = .ok (.istore 4, 2) := by decide +kernel
theorem d_Tk_scanSign_42 : decode b_Tk_scanSign 42 = .ok (.aload_n 0, 1) := by decide +kernel
theorem d_Tk_scanSign_43 : decode b_Tk_scanSign 43 = .ok (.iload 4, 2) := by decide +kernel
theorem d_Tk_scanSign_45 : decode b_Tk_scanSign 45 = .ok (.iload_n 2, 1) := by decide +kernel
theorem d_Tk_scanSign_46 : decode b_Tk_scanSign 46 = .ok (.iconst 0, 1) := by decide +kernel
theorem d_Tk_scanSign_47 : decode b_Tk_scanSign 47 = .ok (.iload 4, 2) := by decide +kernel
theorem d_Tk_scanSign_49 : decode b_Tk_scanSign 49 = .ok (.invokestatic 67, 3) := by decide +kernel
theorem d_Tk_scanSign_52 : decode b_Tk_scanSign 52 = .ok (.invokevirtual 71, 3) := by decide +kernel
theorem d_Tk_scanSign_55 : decode b_Tk_scanSign 55 = .ok (.invokevirtual 59, 3) := by decide +kernel
theorem d_Tk_scanSign_58 : decode b_Tk_scanSign 58 = .ok (.ireturn, 1) := by decide +kernel
noncomputable def Tk_scanSign_b37 (p1_row : (Nat → Int32)) (p1_length : Int32) (t_kinds : (Nat → Int32)) (t_places : (Nat → Int32)) (t_values : (Nat → Int32)) (t_count : Int32) (l2 : Int32) (s1 : Int32) (s0 : Int32) : Option (Int32 × (Nat → Int32) × (Nat → Int32) × (Nat → Int32) × Int32) := jb (f_To_signOf s0 s1) (fun o16 => jb (f_To_spelling o16) (fun o18 => if 49 ≤ o18 then none else (jb (f_Js_length o18) (fun o21 => jb (f_Tk_addToken t_kinds t_places t_values t_count o16 l2 (0 : Int32) o21) (fun o23 => some (o23.1, o23.2.1, o23.2.2.1, o23.2.2.2.1, o23.2.2.2.2))))))
noncomputable def f_Tk_scanSign (p1_row : (Nat → Int32)) (p1_length : Int32) (t_kinds : (Nat → Int32)) (t_places : (Nat → Int32)) (t_values : (Nat → Int32)) (t_count : Int32) (a2 : Int32) (a3 : Int32) : Option (Int32 × (Nat → Int32) × (Nat → Int32) × (Nat → Int32) × Int32) := if a2 < a3 then (jb (f_By_at p1_row p1_length a2) (fun o25 => if a3 ≤ (a2 + (1 : Int32)) then (Tk_scanSign_b37 p1_row p1_length t_kinds t_places t_values t_count a2 (-1 : Int32) o25) else (jb (f_By_at p1_row p1_length (a2 + (1 : Int32))) (fun o27 => Tk_scanSign_b37 p1_row p1_length t_kinds t_places t_values t_count a2 o27 o25)))) else (jb (f_Tk_addToken t_kinds t_places t_values t_count (0 : Int32) a3 (0 : Int32) (0 : Int32)) (fun o29 => some (o29.1, o29.2.1, o29.2.2.1, o29.2.2.2.1, o29.2.2.2.2)))
set_option maxHeartbeats 4000000 in
set_option maxRecDepth 100000 in
theorem c_Tk_scanSign {l : Launch} {dC : Nat → ClassId} {dI : Nat → Nat → Nat} {cI cB cS : ClassId} {adK adV adR : Nat → Nat} (h_t h_t_kinds h_t_places h_t_values h_p1 h_p1_row : Nat) (t_kinds : (Nat → Int32)) (t_places : (Nat → Int32)) (t_values : (Nat → Int32)) (t_count : Int32) (t_next : Int32) (p1_row : (Nat → Int32)) (p1_length : Int32) (p1_overrun : Int32) (a2 : Int32) (a3 : Int32) {o : (Int32 × (Nat → Int32) × (Nat → Int32) × (Nat → Int32) × Int32)} (hf : f_Tk_scanSign p1_row p1_length t_kinds t_places t_values t_count a2 a3 = some o) : jMet l dC dI cI cB cS adK adV adR y_Tk_scanSign wd_Tk_scanSign { frames := 2, cells := 0, slots := 0, locals := 40 } [.ref h_t, .ref h_p1, .int a2, .int a3] [(h_t, .inr (4, [.ref h_t_kinds, .ref h_t_places, .ref h_t_values, .int t_count, .int t_next])), (h_t_kinds, .inl (cI, 8001, .inl t_kinds)), (h_t_places, .inl (cI, 8001, .inl t_places)), (h_t_values, .inl (cI, 8001, .inl t_values)), (h_p1, .inr (0, [.ref h_p1_row, .int p1_length, .int p1_overrun])), (h_p1_row, .inl (cB, 8000, .inl p1_row))] (some (.int o.1)) (fun q => [(h_t, .inr (4, [.ref h_t_kinds, .ref h_t_places, .ref h_t_values, .int o.2.2.2.2, .int t_next])), (h_t_kinds, .inl (cI, 8001, .inl o.2.1)), (h_t_places, .inl (cI, 8001, .inl o.2.2.1)), (h_t_values, .inl (cI, 8001, .inl o.2.2.2.1)), (h_p1, .inr (0, [.ref h_p1_row, .int p1_length, .int p1_overrun])), (h_p1_row, .inl (cB, 8000, .inl p1_row))]) 0 0 := by
  refine jEntry (cc := b_Tk_scanSign) (maxL := 5) (ret := (some .int)) (by decide) rfl (Nat.le_of_ble_eq_true rfl) rfl (fun p e s m args below meth c A H locs ls Q hQ hx hb hr hml hown hts hlocks hnm hJ hA hP hD hS hl => ?_)
  have hK := hJ.K
  have hl : lv_has ls 5 [(0, .ref h_t), (1, .ref h_p1), (2, .int a2), (3, .int a3)] := hl
  have B37 : ∀ (t_kinds : (Nat → Int32)) (t_places : (Nat → Int32)) (t_values : (Nat → Int32)) (t_count : Int32) (l2 : Int32) (s1 : Int32) (s0 : Int32) (H : Heap) (locs : List Loc) (ls : Array Slot), Tk_scanSign_b37 p1_row p1_length t_kinds t_places t_values t_count l2 s1 s0 = some o → va_P (dC, dI) vwCl [(h_t, .inr (4, [.ref h_t_kinds, .ref h_t_places, .ref h_t_values, .int t_count, .int t_next])), (h_t_kinds, .inl (cI, 8001, .inl t_kinds)), (h_t_places, .inl (cI, 8001, .inl t_places)), (h_t_values, .inl (cI, 8001, .inl t_values)), (h_p1, .inr (0, [.ref h_p1_row, .int p1_length, .int p1_overrun])), (h_p1_row, .inl (cB, 8000, .inl p1_row))] H → va_D A [(h_t, .inr (4, [.ref h_t_kinds, .ref h_t_places, .ref h_t_values, .int t_count, .int t_next])), (h_t_kinds, .inl (cI, 8001, .inl t_kinds)), (h_t_places, .inl (cI, 8001, .inl t_places)), (h_t_values, .inl (cI, 8001, .inl t_values)), (h_p1, .inr (0, [.ref h_p1_row, .int p1_length, .int p1_overrun])), (h_p1_row, .inl (cB, 8000, .inl p1_row))] → va_S A s.heap H locs → lv_has ls 5 [(0, .ref h_t), (2, .int l2)] → W p l e { frames := 2, cells := 0, slots := 0, locals := 40 } s m args below meth c H locs 0 0 Q (F0 m 37 ls [.int s1, .int s0]) := by
    intro t_kinds t_places t_values t_count l2 s1 s0 H locs ls hf hP hD hS hl
    unfold Tk_scanSign_b37 at hf
    obtain ⟨o31, ho31⟩ : ∃ z, f_To_signOf s0 s1 = some z := by
      cases hz : f_To_signOf s0 s1 with
      | none => rw [hz] at hf; simp only [jb_none, jl_b_none, jm_none, reduceCtorEq] at hf
      | some z => exact ⟨z, rfl⟩
    rw [ho31, jb_some] at hf
    refine jCallS (As := [.int s0, .int s1]) (rest := []) (wr := [(h_t, .inr (4, [.ref h_t_kinds, .ref h_t_places, .ref h_t_values, .int t_count, .int t_next])), (h_t_kinds, .inl (cI, 8001, .inl t_kinds)), (h_t_places, .inl (cI, 8001, .inl t_places)), (h_t_values, .inl (cI, 8001, .inl t_values)), (h_p1, .inr (0, [.ref h_p1_row, .int p1_length, .int p1_overrun])), (h_p1_row, .inl (cB, 8000, .inl p1_row))]) ⟨hx, hb, hml, hown, hts⟩ hJ (c_To_signOf s0 s1 ho31) (va_cwS 2 hts (jgS jw116 jw118 jw101 jw117) rfl rfl rfl dd_To_signOf.2 ⟨Nat.le_of_ble_eq_true rfl, Nat.le_of_ble_eq_true rfl⟩) hP hD hS hA [] [0, 1, 2, 3, 4, 5] rfl rfl (by decide) (by decide) (by decide) rfl hl.1 rfl (Nat.le_of_ble_eq_true rfl) d_Tk_scanSign_37 ⟨Nat.le_of_ble_eq_true rfl, Nat.le_of_ble_eq_true rfl⟩ (fun qz32 H locs hP hD hS => ?_)
    have hP : va_P (dC, dI) vwCl [(h_t, .inr (4, [.ref h_t_kinds, .ref h_t_places, .ref h_t_values, .int t_count, .int t_next])), (h_t_kinds, .inl (cI, 8001, .inl t_kinds)), (h_t_places, .inl (cI, 8001, .inl t_places)), (h_t_values, .inl (cI, 8001, .inl t_values)), (h_p1, .inr (0, [.ref h_p1_row, .int p1_length, .int p1_overrun])), (h_p1_row, .inl (cB, 8000, .inl p1_row))] H := hP
    have hD : va_D A [(h_t, .inr (4, [.ref h_t_kinds, .ref h_t_places, .ref h_t_values, .int t_count, .int t_next])), (h_t_kinds, .inl (cI, 8001, .inl t_kinds)), (h_t_places, .inl (cI, 8001, .inl t_places)), (h_t_values, .inl (cI, 8001, .inl t_values)), (h_p1, .inr (0, [.ref h_p1_row, .int p1_length, .int p1_overrun])), (h_p1_row, .inl (cB, 8000, .inl p1_row))] := hD
    refine lv_istore (lv' := [(4, .int o31), (0, .ref h_t), (2, .int l2)]) hx hb d_Tk_scanSign_40 hl (by decide) rfl (fun ls hl => ?_)
    refine lv_aload_n hx hb d_Tk_scanSign_42 rfl (lv_at hl 1 rfl) ?_
    refine lv_iload hx hb d_Tk_scanSign_43 (lv_at hl 0 rfl) ?_
    refine lv_iload_n hx hb d_Tk_scanSign_45 rfl (lv_at hl 2 rfl) ?_
    refine lv_iconst (v := (0 : Int32)) hx hb d_Tk_scanSign_46 (by decide) ?_
    refine lv_iload hx hb d_Tk_scanSign_47 (lv_at hl 0 rfl) ?_
    obtain ⟨o33, ho33⟩ : ∃ z, f_To_spelling o31 = some z := by
      cases hz : f_To_spelling o31 with
      | none => rw [hz] at hf; simp only [jb_none, jl_b_none, jm_none, reduceCtorEq] at hf
      | some z => exact ⟨z, rfl⟩
    rw [ho33, jb_some] at hf
    refine jCallS (As := [.int o31]) (rest := [.int (0 : Int32), .int l2, .int o31, .ref h_t]) (wr := [(h_t, .inr (4, [.ref h_t_kinds, .ref h_t_places, .ref h_t_values, .int t_count, .int t_next])), (h_t_kinds, .inl (cI, 8001, .inl t_kinds)), (h_t_places, .inl (cI, 8001, .inl t_places)), (h_t_values, .inl (cI, 8001, .inl t_values)), (h_p1, .inr (0, [.ref h_p1_row, .int p1_length, .int p1_overrun])), (h_p1_row, .inl (cB, 8000, .inl p1_row))]) ⟨hx, hb, hml, hown, hts⟩ hJ (c_To_spelling o31 ho33) (va_cwS 1 hts (jgS jw99 jw102 jw101 jw100) rfl rfl rfl dd_To_spelling.2 ⟨Nat.le_of_ble_eq_true rfl, Nat.le_of_ble_eq_true rfl⟩) hP hD hS hA [] [0, 1, 2, 3, 4, 5] rfl rfl (by decide) (by decide) (by decide) rfl hl.1 rfl (Nat.le_of_ble_eq_true rfl) d_Tk_scanSign_49 ⟨Nat.le_of_ble_eq_true rfl, Nat.le_of_ble_eq_true rfl⟩ (fun qz34 H locs hP hD hS => ?_)
    have hP : va_P (dC, dI) vwCl [(h_t, .inr (4, [.ref h_t_kinds, .ref h_t_places, .ref h_t_values, .int t_count, .int t_next])), (h_t_kinds, .inl (cI, 8001, .inl t_kinds)), (h_t_places, .inl (cI, 8001, .inl t_places)), (h_t_values, .inl (cI, 8001, .inl t_values)), (h_p1, .inr (0, [.ref h_p1_row, .int p1_length, .int p1_overrun])), (h_p1_row, .inl (cB, 8000, .inl p1_row))] H := hP
    have hD : va_D A [(h_t, .inr (4, [.ref h_t_kinds, .ref h_t_places, .ref h_t_values, .int t_count, .int t_next])), (h_t_kinds, .inl (cI, 8001, .inl t_kinds)), (h_t_places, .inl (cI, 8001, .inl t_places)), (h_t_values, .inl (cI, 8001, .inl t_values)), (h_p1, .inr (0, [.ref h_p1_row, .int p1_length, .int p1_overrun])), (h_p1_row, .inl (cB, 8000, .inl p1_row))] := hD
    have b35 : ¬ (49 ≤ o33) := by intro z; rw [if_pos z] at hf; simp only [jb_none, jl_b_none, jm_none, reduceCtorEq] at hf
    rw [if_neg b35] at hf
    obtain ⟨o36, ho36⟩ : ∃ z, f_Js_length o33 = some z := by
      cases hz : f_Js_length o33 with
      | none => rw [hz] at hf; simp only [jb_none, jl_b_none, jm_none, reduceCtorEq] at hf
      | some z => exact ⟨z, rfl⟩
    rw [ho36, jb_some] at hf
    refine jCallV (As := []) (rest := [.int (0 : Int32), .int l2, .int o31, .ref h_t]) (wr := [(h_t, .inr (4, [.ref h_t_kinds, .ref h_t_places, .ref h_t_values, .int t_count, .int t_next])), (h_t_kinds, .inl (cI, 8001, .inl t_kinds)), (h_t_places, .inl (cI, 8001, .inl t_places)), (h_t_values, .inl (cI, 8001, .inl t_values)), (h_p1, .inr (0, [.ref h_p1_row, .int p1_length, .int p1_overrun])), (h_p1_row, .inl (cB, 8000, .inl p1_row))]) ⟨hx, hb, hml, hown, hts⟩ hJ (c_Js_length o33 ho36) (cwV 0 hts (jgV jw85 jw87 jw88 jw5 jw86) rfl rfl rfl dd_Js_length ⟨Nat.le_of_ble_eq_true rfl, Nat.le_of_ble_eq_true rfl⟩) hP hD hS hA (jS_recv hJ (Nat.lt_of_not_le b35) hS) [] [0, 1, 2, 3, 4, 5] rfl rfl (by decide) (by decide) (by decide) rfl hl.1 rfl (Nat.le_of_ble_eq_true rfl) d_Tk_scanSign_52 ⟨Nat.le_of_ble_eq_true rfl, Nat.le_of_ble_eq_true rfl⟩ (fun qz37 H locs hP hD hS => ?_)
    have hP : va_P (dC, dI) vwCl [(h_t, .inr (4, [.ref h_t_kinds, .ref h_t_places, .ref h_t_values, .int t_count, .int t_next])), (h_t_kinds, .inl (cI, 8001, .inl t_kinds)), (h_t_places, .inl (cI, 8001, .inl t_places)), (h_t_values, .inl (cI, 8001, .inl t_values)), (h_p1, .inr (0, [.ref h_p1_row, .int p1_length, .int p1_overrun])), (h_p1_row, .inl (cB, 8000, .inl p1_row))] H := hP
    have hD : va_D A [(h_t, .inr (4, [.ref h_t_kinds, .ref h_t_places, .ref h_t_values, .int t_count, .int t_next])), (h_t_kinds, .inl (cI, 8001, .inl t_kinds)), (h_t_places, .inl (cI, 8001, .inl t_places)), (h_t_values, .inl (cI, 8001, .inl t_values)), (h_p1, .inr (0, [.ref h_p1_row, .int p1_length, .int p1_overrun])), (h_p1_row, .inl (cB, 8000, .inl p1_row))] := hD
    obtain ⟨o38, ho38⟩ : ∃ z, f_Tk_addToken t_kinds t_places t_values t_count o31 l2 (0 : Int32) o36 = some z := by
      cases hz : f_Tk_addToken t_kinds t_places t_values t_count o31 l2 (0 : Int32) o36 with
      | none => rw [hz] at hf; simp only [jb_none, jl_b_none, jm_none, reduceCtorEq] at hf
      | some z => exact ⟨z, rfl⟩
    rw [ho38, jb_some] at hf
    refine jCallV (As := [.int o31, .int l2, .int (0 : Int32), .int o36]) (rest := []) (wr := [(h_p1, .inr (0, [.ref h_p1_row, .int p1_length, .int p1_overrun])), (h_p1_row, .inl (cB, 8000, .inl p1_row))]) ⟨hx, hb, hml, hown, hts⟩ hJ (c_Tk_addToken h_t h_t_kinds h_t_places h_t_values t_kinds t_places t_values t_count t_next o31 l2 (0 : Int32) o36 ho38) (cwV 4 hts (jgV jw112 jw114 jw115 jw79 jw113) rfl rfl rfl dd_Tk_addToken ⟨Nat.le_of_ble_eq_true rfl, Nat.le_of_ble_eq_true rfl⟩) hP hD hS hA (va_recv hK hP (ci := 4) (q0 := 0) rfl rfl) [0, 1, 2, 3] [4, 5] rfl rfl (by decide) (by decide) (by decide) rfl hl.1 rfl (Nat.le_of_ble_eq_true rfl) d_Tk_scanSign_55 ⟨Nat.le_of_ble_eq_true rfl, Nat.le_of_ble_eq_true rfl⟩ (fun qz39 H locs hP hD hS => ?_)
    have hP : va_P (dC, dI) vwCl [(h_p1, .inr (0, [.ref h_p1_row, .int p1_length, .int p1_overrun])), (h_p1_row, .inl (cB, 8000, .inl p1_row)), (h_t, .inr (4, [.ref h_t_kinds, .ref h_t_places, .ref h_t_values, .int o38.2.2.2.2, .int t_next])), (h_t_kinds, .inl (cI, 8001, .inl o38.2.1)), (h_t_places, .inl (cI, 8001, .inl o38.2.2.1)), (h_t_values, .inl (cI, 8001, .inl o38.2.2.2.1))] H := hP
    have hD : va_D A [(h_p1, .inr (0, [.ref h_p1_row, .int p1_length, .int p1_overrun])), (h_p1_row, .inl (cB, 8000, .inl p1_row)), (h_t, .inr (4, [.ref h_t_kinds, .ref h_t_places, .ref h_t_values, .int o38.2.2.2.2, .int t_next])), (h_t_kinds, .inl (cI, 8001, .inl o38.2.1)), (h_t_places, .inl (cI, 8001, .inl o38.2.2.1)), (h_t_values, .inl (cI, 8001, .inl o38.2.2.2.1))] := hD
    have hf : (some (o38.1, o38.2.1, o38.2.2.1, o38.2.2.2.1, o38.2.2.2.2) : Option (Int32 × (Nat → Int32) × (Nat → Int32) × (Nat → Int32) × Int32)) = some o := hf
    rw [hQ, ← Option.some.inj hf]
    exact jIret hx hb hr hlocks d_Tk_scanSign_58 (fun _ => 0) hS (hP.sub [2, 3, 4, 5, 0, 1] rfl) (hD.sub [2, 3, 4, 5, 0, 1] (by decide) rfl)
  unfold f_Tk_scanSign at hf
  refine lv_iload_n hx hb d_Tk_scanSign_0 rfl (lv_at hl 2 rfl) ?_
  refine lv_iload_n hx hb d_Tk_scanSign_1 rfl (lv_at hl 3 rfl) ?_
  refine lv_icmp_lt (tgt := 14) hx hb d_Tk_scanSign_2 (by decide) (fun c2 => ?_) (fun c2 => ?_)
  · rw [if_pos c2] at hf
    refine lv_aload_n hx hb d_Tk_scanSign_14 rfl (lv_at hl 1 rfl) ?_
    refine lv_iload_n hx hb d_Tk_scanSign_15 rfl (lv_at hl 2 rfl) ?_
    obtain ⟨o40, ho40⟩ : ∃ z, f_By_at p1_row p1_length a2 = some z := by
      cases hz : f_By_at p1_row p1_length a2 with
      | none => rw [hz] at hf; simp only [jb_none, jl_b_none, jm_none, reduceCtorEq] at hf
      | some z => exact ⟨z, rfl⟩
    rw [ho40, jb_some] at hf
    refine jCallV (As := [.int a2]) (rest := []) (wr := [(h_t, .inr (4, [.ref h_t_kinds, .ref h_t_places, .ref h_t_values, .int t_count, .int t_next])), (h_t_kinds, .inl (cI, 8001, .inl t_kinds)), (h_t_places, .inl (cI, 8001, .inl t_places)), (h_t_values, .inl (cI, 8001, .inl t_values))]) ⟨hx, hb, hml, hown, hts⟩ hJ (c_By_at h_p1 h_p1_row p1_row p1_length p1_overrun a2 ho40) (cwV 1 hts (jgV jw84 jw54 jw55 jw33 jw53) rfl rfl rfl dd_By_at ⟨Nat.le_of_ble_eq_true rfl, Nat.le_of_ble_eq_true rfl⟩) hP hD hS hA (va_recv hK hP (ci := 0) (q0 := 4) rfl rfl) [4, 5] [0, 1, 2, 3] rfl rfl (by decide) (by decide) (by decide) rfl hl.1 rfl (Nat.le_of_ble_eq_true rfl) d_Tk_scanSign_16 ⟨Nat.le_of_ble_eq_true rfl, Nat.le_of_ble_eq_true rfl⟩ (fun qz41 H locs hP hD hS => ?_)
    have hP : va_P (dC, dI) vwCl [(h_t, .inr (4, [.ref h_t_kinds, .ref h_t_places, .ref h_t_values, .int t_count, .int t_next])), (h_t_kinds, .inl (cI, 8001, .inl t_kinds)), (h_t_places, .inl (cI, 8001, .inl t_places)), (h_t_values, .inl (cI, 8001, .inl t_values)), (h_p1, .inr (0, [.ref h_p1_row, .int p1_length, .int p1_overrun])), (h_p1_row, .inl (cB, 8000, .inl p1_row))] H := hP
    have hD : va_D A [(h_t, .inr (4, [.ref h_t_kinds, .ref h_t_places, .ref h_t_values, .int t_count, .int t_next])), (h_t_kinds, .inl (cI, 8001, .inl t_kinds)), (h_t_places, .inl (cI, 8001, .inl t_places)), (h_t_values, .inl (cI, 8001, .inl t_values)), (h_p1, .inr (0, [.ref h_p1_row, .int p1_length, .int p1_overrun])), (h_p1_row, .inl (cB, 8000, .inl p1_row))] := hD
    refine lv_iload_n hx hb d_Tk_scanSign_19 rfl (lv_at hl 2 rfl) ?_
    refine lv_iconst (v := (1 : Int32)) hx hb d_Tk_scanSign_20 (by decide) ?_
    refine lv_iadd hx hb d_Tk_scanSign_21 ?_
    refine lv_iload_n hx hb d_Tk_scanSign_22 rfl (lv_at hl 3 rfl) ?_
    refine lv_icmp_ge (tgt := 36) hx hb d_Tk_scanSign_23 (by decide) (fun c23 => ?_) (fun c23 => ?_)
    · rw [if_pos c23] at hf
      refine lv_iconst (v := (-1 : Int32)) hx hb d_Tk_scanSign_36 (by decide) ?_
      exact B37 t_kinds t_places t_values t_count a2 (-1 : Int32) o40 H locs ls hf hP hD hS (lv_sub hl [0, 2] rfl)
    · rw [if_neg c23] at hf
      refine lv_aload_n hx hb d_Tk_scanSign_26 rfl (lv_at hl 1 rfl) ?_
      refine lv_iload_n hx hb d_Tk_scanSign_27 rfl (lv_at hl 2 rfl) ?_
      refine lv_iconst (v := (1 : Int32)) hx hb d_Tk_scanSign_28 (by decide) ?_
      refine lv_iadd hx hb d_Tk_scanSign_29 ?_
      obtain ⟨o42, ho42⟩ : ∃ z, f_By_at p1_row p1_length (a2 + (1 : Int32)) = some z := by
        cases hz : f_By_at p1_row p1_length (a2 + (1 : Int32)) with
        | none => rw [hz] at hf; simp only [jb_none, jl_b_none, jm_none, reduceCtorEq] at hf
        | some z => exact ⟨z, rfl⟩
      rw [ho42, jb_some] at hf
      refine jCallV (As := [.int (a2 + (1 : Int32))]) (rest := [.int o40]) (wr := [(h_t, .inr (4, [.ref h_t_kinds, .ref h_t_places, .ref h_t_values, .int t_count, .int t_next])), (h_t_kinds, .inl (cI, 8001, .inl t_kinds)), (h_t_places, .inl (cI, 8001, .inl t_places)), (h_t_values, .inl (cI, 8001, .inl t_values))]) ⟨hx, hb, hml, hown, hts⟩ hJ (c_By_at h_p1 h_p1_row p1_row p1_length p1_overrun (a2 + (1 : Int32)) ho42) (cwV 1 hts (jgV jw84 jw54 jw55 jw33 jw53) rfl rfl rfl dd_By_at ⟨Nat.le_of_ble_eq_true rfl, Nat.le_of_ble_eq_true rfl⟩) hP hD hS hA (va_recv hK hP (ci := 0) (q0 := 4) rfl rfl) [4, 5] [0, 1, 2, 3] rfl rfl (by decide) (by decide) (by decide) rfl hl.1 rfl (Nat.le_of_ble_eq_true rfl) d_Tk_scanSign_30 ⟨Nat.le_of_ble_eq_true rfl, Nat.le_of_ble_eq_true rfl⟩ (fun qz43 H locs hP hD hS => ?_)
      have hP : va_P (dC, dI) vwCl [(h_t, .inr (4, [.ref h_t_kinds, .ref h_t_places, .ref h_t_values, .int t_count, .int t_next])), (h_t_kinds, .inl (cI, 8001, .inl t_kinds)), (h_t_places, .inl (cI, 8001, .inl t_places)), (h_t_values, .inl (cI, 8001, .inl t_values)), (h_p1, .inr (0, [.ref h_p1_row, .int p1_length, .int p1_overrun])), (h_p1_row, .inl (cB, 8000, .inl p1_row))] H := hP
      have hD : va_D A [(h_t, .inr (4, [.ref h_t_kinds, .ref h_t_places, .ref h_t_values, .int t_count, .int t_next])), (h_t_kinds, .inl (cI, 8001, .inl t_kinds)), (h_t_places, .inl (cI, 8001, .inl t_places)), (h_t_values, .inl (cI, 8001, .inl t_values)), (h_p1, .inr (0, [.ref h_p1_row, .int p1_length, .int p1_overrun])), (h_p1_row, .inl (cB, 8000, .inl p1_row))] := hD
      refine lv_goto (tgt := 37) hx hb d_Tk_scanSign_33 (by decide) ?_
      exact B37 t_kinds t_places t_values t_count a2 o42 o40 H locs ls hf hP hD hS (lv_sub hl [0, 2] rfl)
  · rw [if_neg c2] at hf
    refine lv_aload_n hx hb d_Tk_scanSign_5 rfl (lv_at hl 0 rfl) ?_
    refine lv_iconst (v := (0 : Int32)) hx hb d_Tk_scanSign_6 (by decide) ?_
    refine lv_iload_n hx hb d_Tk_scanSign_7 rfl (lv_at hl 3 rfl) ?_
    refine lv_iconst (v := (0 : Int32)) hx hb d_Tk_scanSign_8 (by decide) ?_
    refine lv_iconst (v := (0 : Int32)) hx hb d_Tk_scanSign_9 (by decide) ?_
    obtain ⟨o44, ho44⟩ : ∃ z, f_Tk_addToken t_kinds t_places t_values t_count (0 : Int32) a3 (0 : Int32) (0 : Int32) = some z := by
      cases hz : f_Tk_addToken t_kinds t_places t_values t_count (0 : Int32) a3 (0 : Int32) (0 : Int32) with
      | none => rw [hz] at hf; simp only [jb_none, jl_b_none, jm_none, reduceCtorEq] at hf
      | some z => exact ⟨z, rfl⟩
    rw [ho44, jb_some] at hf
    refine jCallV (As := [.int (0 : Int32), .int a3, .int (0 : Int32), .int (0 : Int32)]) (rest := []) (wr := [(h_p1, .inr (0, [.ref h_p1_row, .int p1_length, .int p1_overrun])), (h_p1_row, .inl (cB, 8000, .inl p1_row))]) ⟨hx, hb, hml, hown, hts⟩ hJ (c_Tk_addToken h_t h_t_kinds h_t_places h_t_values t_kinds t_places t_values t_count t_next (0 : Int32) a3 (0 : Int32) (0 : Int32) ho44) (cwV 4 hts (jgV jw112 jw114 jw115 jw79 jw113) rfl rfl rfl dd_Tk_addToken ⟨Nat.le_of_ble_eq_true rfl, Nat.le_of_ble_eq_true rfl⟩) hP hD hS hA (va_recv hK hP (ci := 4) (q0 := 0) rfl rfl) [0, 1, 2, 3] [4, 5] rfl rfl (by decide) (by decide) (by decide) rfl hl.1 rfl (Nat.le_of_ble_eq_true rfl) d_Tk_scanSign_10 ⟨Nat.le_of_ble_eq_true rfl, Nat.le_of_ble_eq_true rfl⟩ (fun qz45 H locs hP hD hS => ?_)
    have hP : va_P (dC, dI) vwCl [(h_p1, .inr (0, [.ref h_p1_row, .int p1_length, .int p1_overrun])), (h_p1_row, .inl (cB, 8000, .inl p1_row)), (h_t, .inr (4, [.ref h_t_kinds, .ref h_t_places, .ref h_t_values, .int o44.2.2.2.2, .int t_next])), (h_t_kinds, .inl (cI, 8001, .inl o44.2.1)), (h_t_places, .inl (cI, 8001, .inl o44.2.2.1)), (h_t_values, .inl (cI, 8001, .inl o44.2.2.2.1))] H := hP
    have hD : va_D A [(h_p1, .inr (0, [.ref h_p1_row, .int p1_length, .int p1_overrun])), (h_p1_row, .inl (cB, 8000, .inl p1_row)), (h_t, .inr (4, [.ref h_t_kinds, .ref h_t_places, .ref h_t_values, .int o44.2.2.2.2, .int t_next])), (h_t_kinds, .inl (cI, 8001, .inl o44.2.1)), (h_t_places, .inl (cI, 8001, .inl o44.2.2.1)), (h_t_values, .inl (cI, 8001, .inl o44.2.2.2.1))] := hD
    have hf : (some (o44.1, o44.2.1, o44.2.2.1, o44.2.2.2.1, o44.2.2.2.2) : Option (Int32 × (Nat → Int32) × (Nat → Int32) × (Nat → Int32) × Int32)) = some o := hf
    rw [hQ, ← Option.some.inj hf]
    exact jIret hx hb hr hlocks d_Tk_scanSign_13 (fun _ => 0) hS (hP.sub [2, 3, 4, 5, 0, 1] rfl) (hD.sub [2, 3, 4, 5, 0, 1] (by decide) rfl)
theorem d_Tk_behindRemark_0 : decode b_Tk_behindRemark 0 = .ok (.iconst 0, 1) := by decide +kernel
theorem d_Tk_behindRemark_1 : decode b_Tk_behindRemark 1 = .ok (.istore_n 3, 1) := by decide +kernel
theorem d_Tk_behindRemark_2 : decode b_Tk_behindRemark 2 = .ok (.iload_n 1, 1) := by decide +kernel
theorem d_Tk_behindRemark_3 : decode b_Tk_behindRemark 3 = .ok (.istore 4, 2) := by decide +kernel
theorem d_Tk_behindRemark_5 : decode b_Tk_behindRemark 5 = .ok (.iload 4, 2) := by decide +kernel
theorem d_Tk_behindRemark_7 : decode b_Tk_behindRemark 7 = .ok (.iconst 1, 1) := by decide +kernel
theorem d_Tk_behindRemark_8 : decode b_Tk_behindRemark 8 = .ok (.iadd, 1) := by decide +kernel
theorem d_Tk_behindRemark_9 : decode b_Tk_behindRemark 9 = .ok (.iload_n 2, 1) := by decide +kernel
theorem d_Tk_behindRemark_10 : decode b_Tk_behindRemark 10 = .ok (.if_icmp .ge 115, 3) := by decide +kernel
theorem d_Tk_behindRemark_13 : decode b_Tk_behindRemark 13 = .ok (.aload_n 0, 1) := by decide +kernel
theorem d_Tk_behindRemark_14 : decode b_Tk_behindRemark 14 = .ok (.iload 4, 2) := by decide +kernel
theorem d_Tk_behindRemark_16 : decode b_Tk_behindRemark 16 = .ok (.invokevirtual 34, 3) := by decide +kernel
theorem d_Tk_behindRemark_19 : decode b_Tk_behindRemark 19 = .ok (.istore 5, 2) := by decide +kernel
theorem d_Tk_behindRemark_21 : decode b_Tk_behindRemark 21 = .ok (.aload_n 0, 1) := by decide +kernel
theorem d_Tk_behindRemark_22 : decode b_Tk_behindRemark 22 = .ok (.iload 4, 2) := by decide +kernel
theorem d_Tk_behindRemark_24 : decode b_Tk_behindRemark 24 = .ok (.iconst 1, 1) := by decide +kernel
theorem d_Tk_behindRemark_25 : decode b_Tk_behindRemark 25 = .ok (.iadd, 1) := by decide +kernel
theorem d_Tk_behindRemark_26 : decode b_Tk_behindRemark 26 = .ok (.invokevirtual 34, 3) := by decide +kernel
theorem d_Tk_behindRemark_29 : decode b_Tk_behindRemark 29 = .ok (.istore 6, 2) := by decide +kernel
theorem d_Tk_behindRemark_31 : decode b_Tk_behindRemark 31 = .ok (.iload 5, 2) := by decide +kernel
theorem d_Tk_behindRemark_33 : decode b_Tk_behindRemark 33 = .ok (.bipush 123, 2) := by decide +kernel
theorem d_Tk_behindRemark_35 : decode b_Tk_behindRemark 35 = .ok (.if_icmp .ne 14, 3) := by decide +kernel
theorem d_Tk_behindRemark_38 : decode b_Tk_behindRemark 38 = .ok (.iload 6, 2) := by decide +kernel
theorem d_Tk_behindRemark_40 : decode b_Tk_behindRemark 40 = .ok (.bipush 45, 2) := by decide +kernel
theorem d_Tk_behindRemark_42 : decode b_Tk_behindRemark 42 = .ok (.if_icmp .ne 7, 3) := by decide +kernel
theorem d_Tk_behindRemark_45 : decode b_Tk_behindRemark 45 = .ok (.iconst 1, 1) := by decide +kernel
theorem d_Tk_behindRemark_46 : decode b_Tk_behindRemark 46 = .ok (.goto 4, 3) := by decide +kernel
theorem d_Tk_behindRemark_49 : decode b_Tk_behindRemark 49 = .ok (.iconst 0, 1) := by decide +kernel
theorem d_Tk_behindRemark_50 : decode b_Tk_behindRemark 50 = .ok (.istore 7, 2) := by decide +kernel
theorem d_Tk_behindRemark_52 : decode b_Tk_behindRemark 52 = .ok (.iload 5, 2) := by decide +kernel
theorem d_Tk_behindRemark_54 : decode b_Tk_behindRemark 54 = .ok (.bipush 45, 2) := by decide +kernel
theorem d_Tk_behindRemark_56 : decode b_Tk_behindRemark 56 = .ok (.if_icmp .ne 14, 3) := by decide +kernel
theorem d_Tk_behindRemark_59 : decode b_Tk_behindRemark 59 = .ok (.iload 6, 2) := by decide +kernel
theorem d_Tk_behindRemark_61 : decode b_Tk_behindRemark 61 = .ok (.bipush 125, 2) := by decide +kernel
theorem d_Tk_behindRemark_63 : decode b_Tk_behindRemark 63 = .ok (.if_icmp .ne 7, 3) := by decide +kernel
theorem d_Tk_behindRemark_66 : decode b_Tk_behindRemark 66 = .ok (.iconst 1, 1) := by decide +kernel
theorem d_Tk_behindRemark_67 : decode b_Tk_behindRemark 67 = .ok (.goto 4, 3) := by decide +kernel
theorem d_Tk_behindRemark_70 : decode b_Tk_behindRemark 70 = .ok (.iconst 0, 1) := by decide +kernel
theorem d_Tk_behindRemark_71 : decode b_Tk_behindRemark 71 = .ok (.istore 8, 2) := by decide +kernel
theorem d_Tk_behindRemark_73 : decode b_Tk_behindRemark 73 = .ok (.iload_n 3, 1) := by decide +kernel
theorem d_Tk_behindRemark_74 : decode b_Tk_behindRemark 74 = .ok (.iload 7, 2) := by decide +kernel
theorem d_Tk_behindRemark_76 : decode b_Tk_behindRemark 76 = .ok (.ifCond .eq 7, 3) := by decide +kernel
theorem d_Tk_behindRemark_79 : decode b_Tk_behindRemark 79 = .ok (.iconst 1, 1) := by decide +kernel
theorem d_Tk_behindRemark_80 : decode b_Tk_behindRemark 80 = .ok (.goto 13, 3) := by decide +kernel
theorem d_Tk_behindRemark_83 : decode b_Tk_behindRemark 83 = .ok (.iload 8, 2) := by decide +kernel
theorem d_Tk_behindRemark_85 : decode b_Tk_behindRemark 85 = .ok (.ifCond .eq 7, 3) := by decide +kernel
theorem d_Tk_behindRemark_88 : decode b_Tk_behindRemark 88 = .ok (.iconst (-1), 1) := by decide +kernel
theorem d_Tk_behindRemark_89 : decode b_Tk_behindRemark 89 = .ok (.goto 4, 3) := by decide +kernel
theorem d_Tk_behindRemark_92 : decode b_Tk_behindRemark 92 = .ok (.iconst 0, 1) := by decide +kernel
theorem d_Tk_behindRemark_93 : decode b_Tk_behindRemark 93 = .ok (.iadd, 1) := by decide +kernel
theorem d_Tk_behindRemark_94 : decode b_Tk_behindRemark 94 = .ok (.istore_n 3, 1) := by decide +kernel
theorem d_Tk_behindRemark_95 : decode b_Tk_behindRemark 95 = .ok (.iload 4, 2) := by decide +kernel
theorem d_Tk_behindRemark_97 : decode b_Tk_behindRemark 97 = .ok (.iload 7, 2) := by decide +kernel
theorem d_Tk_behindRemark_99 : decode b_Tk_behindRemark 99 = .ok (.ifCond .ne 8, 3) := by decide +kernel
theorem d_Tk_behindRemark_102 : decode b_Tk_behindRemark 102 = .ok (.iload 8, 2) := by decide +kernel
theorem d_Tk_behindRemark_104 : decode b_Tk_behindRemark 104 = .ok (.ifCond .eq 7, 3) := by decide +kernel
theorem d_Tk_behindRemark_107 : decode b_Tk_behindRemark 107 = .ok (.iconst 2, 1) := by decide +kernel
theorem d_Tk_behindRemark_108 : decode b_Tk_behindRemark 108 = .ok (.goto 4, 3) := by decide +kernel
theorem d_Tk_behindRemark_111 : decode b_Tk_behindRemark 111 = .ok (.iconst 1, 1) := by decide +kernel
theorem d_Tk_behindRemark_112 : decode b_Tk_behindRemark 112 = .ok (.iadd, 1) := by decide +kernel
theorem d_Tk_behindRemark_113 : decode b_Tk_behindRemark 113 = .ok (.istore 4, 2) := by decide +kernel
theorem d_Tk_behindRemark_115 : decode b_Tk_behindRemark 115 = .ok (.iload_n 3, 1) := by decide +kernel
theorem d_Tk_behindRemark_116 : decode b_Tk_behindRemark 116 = .ok (.ifCond .ne 6, 3) := by decide +kernel
theorem d_Tk_behindRemark_119 : decode b_Tk_behindRemark 119 = .ok (.iload 4, 2) := by decide +kernel
theorem d_Tk_behindRemark_121 : decode b_Tk_behindRemark 121 = .ok (.ireturn, 1) := by decide +kernel
theorem d_Tk_behindRemark_122 : decode b_Tk_behindRemark 122 = .ok (.goto (-117), 3) := by decide +kernel
theorem d_Tk_behindRemark_125 : decode b_Tk_behindRemark 125 = .ok (.iload_n 1, 1) := by decide +kernel
theorem d_Tk_behindRemark_126 : decode b_Tk_behindRemark 126 = .ok (.ireturn, 1) := by decide +kernel
noncomputable def Tk_behindRemark_b112 (p1_row : (Nat → Int32)) (p1_length : Int32) (l1 : Int32) (l2 : Int32) (l3 : Int32) (s1 : Int32) (s0 : Int32) : Option ((Int32 × Int32) ⊕ Int32) := if l3 = 0 then (some (.inr (s0 + s1))) else (some (.inl (l3, (s0 + s1))))
noncomputable def Tk_behindRemark_b107 (p1_row : (Nat → Int32)) (p1_length : Int32) (l1 : Int32) (l2 : Int32) (l3 : Int32) (s0 : Int32) : Option ((Int32 × Int32) ⊕ Int32) := Tk_behindRemark_b112 p1_row p1_length l1 l2 l3 (2 : Int32) s0
noncomputable def Tk_behindRemark_b93 (p1_row : (Nat → Int32)) (p1_length : Int32) (l1 : Int32) (l2 : Int32) (l4 : Int32) (l7 : Int32) (l8 : Int32) (s1 : Int32) (s0 : Int32) : Option ((Int32 × Int32) ⊕ Int32) := if l7 = 0 then (if l8 = 0 then (Tk_behindRemark_b112 p1_row p1_length l1 l2 (s0 + s1) (1 : Int32) l4) else (Tk_behindRemark_b107 p1_row p1_length l1 l2 (s0 + s1) l4)) else (Tk_behindRemark_b107 p1_row p1_length l1 l2 (s0 + s1) l4)
noncomputable def Tk_behindRemark_b71 (p1_row : (Nat → Int32)) (p1_length : Int32) (l1 : Int32) (l2 : Int32) (l3 : Int32) (l4 : Int32) (l7 : Int32) (s0 : Int32) : Option ((Int32 × Int32) ⊕ Int32) := if l7 = 0 then (if s0 = 0 then (Tk_behindRemark_b93 p1_row p1_length l1 l2 l4 l7 s0 (0 : Int32) l3) else (Tk_behindRemark_b93 p1_row p1_length l1 l2 l4 l7 s0 (-1 : Int32) l3)) else (Tk_behindRemark_b93 p1_row p1_length l1 l2 l4 l7 s0 (1 : Int32) l3)
noncomputable def Tk_behindRemark_b70 (p1_row : (Nat → Int32)) (p1_length : Int32) (l1 : Int32) (l2 : Int32) (l3 : Int32) (l4 : Int32) (l7 : Int32) : Option ((Int32 × Int32) ⊕ Int32) := Tk_behindRemark_b71 p1_row p1_length l1 l2 l3 l4 l7 (0 : Int32)
noncomputable def Tk_behindRemark_b50 (p1_row : (Nat → Int32)) (p1_length : Int32) (l1 : Int32) (l2 : Int32) (l3 : Int32) (l4 : Int32) (l5 : Int32) (l6 : Int32) (s0 : Int32) : Option ((Int32 × Int32) ⊕ Int32) := if l5 = (45 : Int32) then (if l6 = (125 : Int32) then (Tk_behindRemark_b71 p1_row p1_length l1 l2 l3 l4 s0 (1 : Int32)) else (Tk_behindRemark_b70 p1_row p1_length l1 l2 l3 l4 s0)) else (Tk_behindRemark_b70 p1_row p1_length l1 l2 l3 l4 s0)
noncomputable def Tk_behindRemark_b49 (p1_row : (Nat → Int32)) (p1_length : Int32) (l1 : Int32) (l2 : Int32) (l3 : Int32) (l4 : Int32) (l5 : Int32) (l6 : Int32) : Option ((Int32 × Int32) ⊕ Int32) := Tk_behindRemark_b50 p1_row p1_length l1 l2 l3 l4 l5 l6 (0 : Int32)
noncomputable def Tk_behindRemark_b5_s (p1_row : (Nat → Int32)) (p1_length : Int32) (l1 : Int32) (l2 : Int32) (l3 : Int32) (l4 : Int32) : Option ((Int32 × Int32) ⊕ Int32) := if l2 ≤ (l4 + (1 : Int32)) then (some (.inr l1)) else (jb (f_By_at p1_row p1_length l4) (fun o5 => jb (f_By_at p1_row p1_length (l4 + (1 : Int32))) (fun o7 => if o5 = (123 : Int32) then (if o7 = (45 : Int32) then (Tk_behindRemark_b50 p1_row p1_length l1 l2 l3 l4 o5 o7 (1 : Int32)) else (Tk_behindRemark_b49 p1_row p1_length l1 l2 l3 l4 o5 o7)) else (Tk_behindRemark_b49 p1_row p1_length l1 l2 l3 l4 o5 o7))))
noncomputable def Tk_behindRemark_b5_b (p1_row : (Nat → Int32)) (p1_length : Int32) (l1 : Int32) (l2 : Int32) : (Int32 × Int32) → Option ((Int32 × Int32) ⊕ Int32) := fun x => Tk_behindRemark_b5_s p1_row p1_length l1 l2 x.1 x.2
noncomputable def Tk_behindRemark_b5 (p1_row : (Nat → Int32)) (p1_length : Int32) (l1 : Int32) (l2 : Int32) (l3 : Int32) (l4 : Int32) : Option Int32 := jl (Tk_behindRemark_b5_b p1_row p1_length l1 l2) (l3, l4)
noncomputable def f_Tk_behindRemark (p1_row : (Nat → Int32)) (p1_length : Int32)  (a2 : Int32) (a3 : Int32) : Option Int32 := Tk_behindRemark_b5 p1_row p1_length a2 a3 (0 : Int32) a2
set_option maxHeartbeats 4000000 in
set_option maxRecDepth 100000 in
theorem c_Tk_behindRemark {l : Launch} {dC : Nat → ClassId} {dI : Nat → Nat → Nat} {cI cB cS : ClassId} {adK adV adR : Nat → Nat} (h_p1 h_p1_row : Nat) (p1_row : (Nat → Int32)) (p1_length : Int32) (p1_overrun : Int32) (a2 : Int32) (a3 : Int32) {o : Int32} (hf : f_Tk_behindRemark p1_row p1_length a2 a3 = some o) : jMet l dC dI cI cB cS adK adV adR y_Tk_behindRemark wd_Tk_behindRemark { frames := 1, cells := 0, slots := 0, locals := 21 } [.ref h_p1, .int a2, .int a3] [(h_p1, .inr (0, [.ref h_p1_row, .int p1_length, .int p1_overrun])), (h_p1_row, .inl (cB, 8000, .inl p1_row))] (some (.int o)) (fun q => [(h_p1, .inr (0, [.ref h_p1_row, .int p1_length, .int p1_overrun])), (h_p1_row, .inl (cB, 8000, .inl p1_row))]) 0 0 := by
  refine jEntry (cc := b_Tk_behindRemark) (maxL := 9) (ret := (some .int)) (by decide) rfl (Nat.le_of_ble_eq_true rfl) rfl (fun p e s m args below meth c A H locs ls Q hQ hx hb hr hml hown hts hlocks hnm hJ hA hP hD hS hl => ?_)
  have hK := hJ.K
  have hl : lv_has ls 9 [(0, .ref h_p1), (1, .int a2), (2, .int a3)] := hl
  have L5 : ∀ (n5 : Nat) (l1 : Int32) (l2 : Int32) (l3 : Int32) (l4 : Int32) (H : Heap) (locs : List Loc) (ls : Array Slot), jl_n (Tk_behindRemark_b5_b p1_row p1_length l1 l2) n5 (l3, l4) = some o → va_P (dC, dI) vwCl [(h_p1, .inr (0, [.ref h_p1_row, .int p1_length, .int p1_overrun])), (h_p1_row, .inl (cB, 8000, .inl p1_row))] H → va_D A [(h_p1, .inr (0, [.ref h_p1_row, .int p1_length, .int p1_overrun])), (h_p1_row, .inl (cB, 8000, .inl p1_row))] → va_S A s.heap H locs → lv_has ls 9 [(0, .ref h_p1), (1, .int l1), (2, .int l2), (3, .int l3), (4, .int l4)] → W p l e { frames := 1, cells := 0, slots := 0, locals := 21 } s m args below meth c H locs 0 0 Q (F0 m 5 ls []) := by
    intro n5
    induction n5 with
    | zero => intro l1 l2 l3 l4 H locs ls hf; simp only [jl_n_zero, jl_b_none, reduceCtorEq] at hf
    | succ n5 ih5 =>
      intro l1 l2 l3 l4 H locs ls hf hP hD hS hl
      rw [jl_n_succ] at hf
      have hf : jl_b (jl_n (Tk_behindRemark_b5_b p1_row p1_length l1 l2) n5) (Tk_behindRemark_b5_s p1_row p1_length l1 l2 l3 l4) = some o := hf
      have B112 : ∀ (l3 : Int32) (s1 : Int32) (s0 : Int32) (H : Heap) (locs : List Loc) (ls : Array Slot), jl_b (jl_n (Tk_behindRemark_b5_b p1_row p1_length l1 l2) n5) (Tk_behindRemark_b112 p1_row p1_length l1 l2 l3 s1 s0) = some o → va_P (dC, dI) vwCl [(h_p1, .inr (0, [.ref h_p1_row, .int p1_length, .int p1_overrun])), (h_p1_row, .inl (cB, 8000, .inl p1_row))] H → va_D A [(h_p1, .inr (0, [.ref h_p1_row, .int p1_length, .int p1_overrun])), (h_p1_row, .inl (cB, 8000, .inl p1_row))] → va_S A s.heap H locs → lv_has ls 9 [(0, .ref h_p1), (1, .int l1), (2, .int l2), (3, .int l3)] → W p l e { frames := 1, cells := 0, slots := 0, locals := 21 } s m args below meth c H locs 0 0 Q (F0 m 112 ls [.int s1, .int s0]) := by
        intro l3 s1 s0 H locs ls hf hP hD hS hl
        unfold Tk_behindRemark_b112 at hf
        refine lv_iadd hx hb d_Tk_behindRemark_112 ?_
        refine lv_istore (lv' := [(4, .int (s0 + s1)), (0, .ref h_p1), (1, .int l1), (2, .int l2), (3, .int l3)]) hx hb d_Tk_behindRemark_113 hl (by decide) rfl (fun ls hl => ?_)
        refine lv_iload_n hx hb d_Tk_behindRemark_115 rfl (lv_at hl 4 rfl) ?_
        refine lv_if_ne (tgt := 122) hx hb d_Tk_behindRemark_116 (by decide) (fun c116 => ?_) (fun c116 => ?_)
        · rw [if_neg c116] at hf
          refine lv_goto (tgt := 5) hx hb d_Tk_behindRemark_122 (by decide) ?_
          exact ih5 l1 l2 l3 (s0 + s1) H locs ls hf hP hD hS (lv_sub hl [1, 2, 3, 4, 0] rfl)
        · rw [if_pos c116] at hf
          refine lv_iload hx hb d_Tk_behindRemark_119 (lv_at hl 0 rfl) ?_
          have hf : (some (s0 + s1) : Option Int32) = some o := hf
          rw [hQ, ← Option.some.inj hf]
          exact jIret hx hb hr hlocks d_Tk_behindRemark_121 (fun _ => 0) hS hP hD
      have B107 : ∀ (l3 : Int32) (s0 : Int32) (H : Heap) (locs : List Loc) (ls : Array Slot), jl_b (jl_n (Tk_behindRemark_b5_b p1_row p1_length l1 l2) n5) (Tk_behindRemark_b107 p1_row p1_length l1 l2 l3 s0) = some o → va_P (dC, dI) vwCl [(h_p1, .inr (0, [.ref h_p1_row, .int p1_length, .int p1_overrun])), (h_p1_row, .inl (cB, 8000, .inl p1_row))] H → va_D A [(h_p1, .inr (0, [.ref h_p1_row, .int p1_length, .int p1_overrun])), (h_p1_row, .inl (cB, 8000, .inl p1_row))] → va_S A s.heap H locs → lv_has ls 9 [(0, .ref h_p1), (1, .int l1), (2, .int l2), (3, .int l3)] → W p l e { frames := 1, cells := 0, slots := 0, locals := 21 } s m args below meth c H locs 0 0 Q (F0 m 107 ls [.int s0]) := by
        intro l3 s0 H locs ls hf hP hD hS hl
        unfold Tk_behindRemark_b107 at hf
        refine lv_iconst (v := (2 : Int32)) hx hb d_Tk_behindRemark_107 (by decide) ?_
        refine lv_goto (tgt := 112) hx hb d_Tk_behindRemark_108 (by decide) ?_
        exact B112 l3 (2 : Int32) s0 H locs ls hf hP hD hS (lv_sub hl [0, 1, 2, 3] rfl)
      have B93 : ∀ (l4 : Int32) (l7 : Int32) (l8 : Int32) (s1 : Int32) (s0 : Int32) (H : Heap) (locs : List Loc) (ls : Array Slot), jl_b (jl_n (Tk_behindRemark_b5_b p1_row p1_length l1 l2) n5) (Tk_behindRemark_b93 p1_row p1_length l1 l2 l4 l7 l8 s1 s0) = some o → va_P (dC, dI) vwCl [(h_p1, .inr (0, [.ref h_p1_row, .int p1_length, .int p1_overrun])), (h_p1_row, .inl (cB, 8000, .inl p1_row))] H → va_D A [(h_p1, .inr (0, [.ref h_p1_row, .int p1_length, .int p1_overrun])), (h_p1_row, .inl (cB, 8000, .inl p1_row))] → va_S A s.heap H locs → lv_has ls 9 [(0, .ref h_p1), (1, .int l1), (2, .int l2), (4, .int l4), (7, .int l7), (8, .int l8)] → W p l e { frames := 1, cells := 0, slots := 0, locals := 21 } s m args below meth c H locs 0 0 Q (F0 m 93 ls [.int s1, .int s0]) := by
        intro l4 l7 l8 s1 s0 H locs ls hf hP hD hS hl
        unfold Tk_behindRemark_b93 at hf
        refine lv_iadd hx hb d_Tk_behindRemark_93 ?_
        refine lv_istore_n (lv' := [(3, .int (s0 + s1)), (0, .ref h_p1), (1, .int l1), (2, .int l2), (4, .int l4), (7, .int l7), (8, .int l8)]) hx hb d_Tk_behindRemark_94 rfl hl (by decide) rfl (fun ls hl => ?_)
        refine lv_iload hx hb d_Tk_behindRemark_95 (lv_at hl 4 rfl) ?_
        refine lv_iload hx hb d_Tk_behindRemark_97 (lv_at hl 5 rfl) ?_
        refine lv_if_ne (tgt := 107) hx hb d_Tk_behindRemark_99 (by decide) (fun c99 => ?_) (fun c99 => ?_)
        · rw [if_neg c99] at hf
          exact B107 (s0 + s1) l4 H locs ls hf hP hD hS (lv_sub hl [1, 2, 3, 0] rfl)
        · rw [if_pos c99] at hf
          refine lv_iload hx hb d_Tk_behindRemark_102 (lv_at hl 6 rfl) ?_
          refine lv_if_eq (tgt := 111) hx hb d_Tk_behindRemark_104 (by decide) (fun c104 => ?_) (fun c104 => ?_)
          · rw [if_pos c104] at hf
            refine lv_iconst (v := (1 : Int32)) hx hb d_Tk_behindRemark_111 (by decide) ?_
            exact B112 (s0 + s1) (1 : Int32) l4 H locs ls hf hP hD hS (lv_sub hl [1, 2, 3, 0] rfl)
          · rw [if_neg c104] at hf
            exact B107 (s0 + s1) l4 H locs ls hf hP hD hS (lv_sub hl [1, 2, 3, 0] rfl)
      have B71 : ∀ (l3 : Int32) (l4 : Int32) (l7 : Int32) (s0 : Int32) (H : Heap) (locs : List Loc) (ls : Array Slot), jl_b (jl_n (Tk_behindRemark_b5_b p1_row p1_length l1 l2) n5) (Tk_behindRemark_b71 p1_row p1_length l1 l2 l3 l4 l7 s0) = some o → va_P (dC, dI) vwCl [(h_p1, .inr (0, [.ref h_p1_row, .int p1_length, .int p1_overrun])), (h_p1_row, .inl (cB, 8000, .inl p1_row))] H → va_D A [(h_p1, .inr (0, [.ref h_p1_row, .int p1_length, .int p1_overrun])), (h_p1_row, .inl (cB, 8000, .inl p1_row))] → va_S A s.heap H locs → lv_has ls 9 [(0, .ref h_p1), (1, .int l1), (2, .int l2), (3, .int l3), (4, .int l4), (7, .int l7)] → W p l e { frames := 1, cells := 0, slots := 0, locals := 21 } s m args below meth c H locs 0 0 Q (F0 m 71 ls [.int s0]) := by
        intro l3 l4 l7 s0 H locs ls hf hP hD hS hl
        unfold Tk_behindRemark_b71 at hf
        refine lv_istore (lv' := [(8, .int s0), (0, .ref h_p1), (1, .int l1), (2, .int l2), (3, .int l3), (4, .int l4), (7, .int l7)]) hx hb d_Tk_behindRemark_71 hl (by decide) rfl (fun ls hl => ?_)
        refine lv_iload_n hx hb d_Tk_behindRemark_73 rfl (lv_at hl 4 rfl) ?_
        refine lv_iload hx hb d_Tk_behindRemark_74 (lv_at hl 6 rfl) ?_
        refine lv_if_eq (tgt := 83) hx hb d_Tk_behindRemark_76 (by decide) (fun c76 => ?_) (fun c76 => ?_)
        · rw [if_pos c76] at hf
          refine lv_iload hx hb d_Tk_behindRemark_83 (lv_at hl 0 rfl) ?_
          refine lv_if_eq (tgt := 92) hx hb d_Tk_behindRemark_85 (by decide) (fun c85 => ?_) (fun c85 => ?_)
          · rw [if_pos c85] at hf
            refine lv_iconst (v := (0 : Int32)) hx hb d_Tk_behindRemark_92 (by decide) ?_
            exact B93 l4 l7 s0 (0 : Int32) l3 H locs ls hf hP hD hS (lv_sub hl [1, 2, 3, 5, 6, 0] rfl)
          · rw [if_neg c85] at hf
            refine lv_iconst (v := (-1 : Int32)) hx hb d_Tk_behindRemark_88 (by decide) ?_
            refine lv_goto (tgt := 93) hx hb d_Tk_behindRemark_89 (by decide) ?_
            exact B93 l4 l7 s0 (-1 : Int32) l3 H locs ls hf hP hD hS (lv_sub hl [1, 2, 3, 5, 6, 0] rfl)
        · rw [if_neg c76] at hf
          refine lv_iconst (v := (1 : Int32)) hx hb d_Tk_behindRemark_79 (by decide) ?_
          refine lv_goto (tgt := 93) hx hb d_Tk_behindRemark_80 (by decide) ?_
          exact B93 l4 l7 s0 (1 : Int32) l3 H locs ls hf hP hD hS (lv_sub hl [1, 2, 3, 5, 6, 0] rfl)
      have B70 : ∀ (l3 : Int32) (l4 : Int32) (l7 : Int32) (H : Heap) (locs : List Loc) (ls : Array Slot), jl_b (jl_n (Tk_behindRemark_b5_b p1_row p1_length l1 l2) n5) (Tk_behindRemark_b70 p1_row p1_length l1 l2 l3 l4 l7) = some o → va_P (dC, dI) vwCl [(h_p1, .inr (0, [.ref h_p1_row, .int p1_length, .int p1_overrun])), (h_p1_row, .inl (cB, 8000, .inl p1_row))] H → va_D A [(h_p1, .inr (0, [.ref h_p1_row, .int p1_length, .int p1_overrun])), (h_p1_row, .inl (cB, 8000, .inl p1_row))] → va_S A s.heap H locs → lv_has ls 9 [(0, .ref h_p1), (1, .int l1), (2, .int l2), (3, .int l3), (4, .int l4), (7, .int l7)] → W p l e { frames := 1, cells := 0, slots := 0, locals := 21 } s m args below meth c H locs 0 0 Q (F0 m 70 ls []) := by
        intro l3 l4 l7 H locs ls hf hP hD hS hl
        unfold Tk_behindRemark_b70 at hf
        refine lv_iconst (v := (0 : Int32)) hx hb d_Tk_behindRemark_70 (by decide) ?_
        exact B71 l3 l4 l7 (0 : Int32) H locs ls hf hP hD hS (lv_sub hl [0, 1, 2, 3, 4, 5] rfl)
      have B50 : ∀ (l3 : Int32) (l4 : Int32) (l5 : Int32) (l6 : Int32) (s0 : Int32) (H : Heap) (locs : List Loc) (ls : Array Slot), jl_b (jl_n (Tk_behindRemark_b5_b p1_row p1_length l1 l2) n5) (Tk_behindRemark_b50 p1_row p1_length l1 l2 l3 l4 l5 l6 s0) = some o → va_P (dC, dI) vwCl [(h_p1, .inr (0, [.ref h_p1_row, .int p1_length, .int p1_overrun])), (h_p1_row, .inl (cB, 8000, .inl p1_row))] H → va_D A [(h_p1, .inr (0, [.ref h_p1_row, .int p1_length, .int p1_overrun])), (h_p1_row, .inl (cB, 8000, .inl p1_row))] → va_S A s.heap H locs → lv_has ls 9 [(0, .ref h_p1), (1, .int l1), (2, .int l2), (3, .int l3), (4, .int l4), (5, .int l5), (6, .int l6)] → W p l e { frames := 1, cells := 0, slots := 0, locals := 21 } s m args below meth c H locs 0 0 Q (F0 m 50 ls [.int s0]) := by
        intro l3 l4 l5 l6 s0 H locs ls hf hP hD hS hl
        unfold Tk_behindRemark_b50 at hf
        refine lv_istore (lv' := [(7, .int s0), (0, .ref h_p1), (1, .int l1), (2, .int l2), (3, .int l3), (4, .int l4), (5, .int l5), (6, .int l6)]) hx hb d_Tk_behindRemark_50 hl (by decide) rfl (fun ls hl => ?_)
        refine lv_iload hx hb d_Tk_behindRemark_52 (lv_at hl 6 rfl) ?_
        refine lv_bipush (v := (45 : Int32)) hx hb d_Tk_behindRemark_54 (by decide) ?_
        refine lv_icmp_ne (tgt := 70) hx hb d_Tk_behindRemark_56 (by decide) (fun c56 => ?_) (fun c56 => ?_)
        · rw [if_neg c56] at hf
          exact B70 l3 l4 s0 H locs ls hf hP hD hS (lv_sub hl [1, 2, 3, 4, 5, 0] rfl)
        · rw [if_pos c56] at hf
          refine lv_iload hx hb d_Tk_behindRemark_59 (lv_at hl 7 rfl) ?_
          refine lv_bipush (v := (125 : Int32)) hx hb d_Tk_behindRemark_61 (by decide) ?_
          refine lv_icmp_ne (tgt := 70) hx hb d_Tk_behindRemark_63 (by decide) (fun c63 => ?_) (fun c63 => ?_)
          · rw [if_neg c63] at hf
            exact B70 l3 l4 s0 H locs ls hf hP hD hS (lv_sub hl [1, 2, 3, 4, 5, 0] rfl)
          · rw [if_pos c63] at hf
            refine lv_iconst (v := (1 : Int32)) hx hb d_Tk_behindRemark_66 (by decide) ?_
            refine lv_goto (tgt := 71) hx hb d_Tk_behindRemark_67 (by decide) ?_
            exact B71 l3 l4 s0 (1 : Int32) H locs ls hf hP hD hS (lv_sub hl [1, 2, 3, 4, 5, 0] rfl)
      have B49 : ∀ (l3 : Int32) (l4 : Int32) (l5 : Int32) (l6 : Int32) (H : Heap) (locs : List Loc) (ls : Array Slot), jl_b (jl_n (Tk_behindRemark_b5_b p1_row p1_length l1 l2) n5) (Tk_behindRemark_b49 p1_row p1_length l1 l2 l3 l4 l5 l6) = some o → va_P (dC, dI) vwCl [(h_p1, .inr (0, [.ref h_p1_row, .int p1_length, .int p1_overrun])), (h_p1_row, .inl (cB, 8000, .inl p1_row))] H → va_D A [(h_p1, .inr (0, [.ref h_p1_row, .int p1_length, .int p1_overrun])), (h_p1_row, .inl (cB, 8000, .inl p1_row))] → va_S A s.heap H locs → lv_has ls 9 [(0, .ref h_p1), (1, .int l1), (2, .int l2), (3, .int l3), (4, .int l4), (5, .int l5), (6, .int l6)] → W p l e { frames := 1, cells := 0, slots := 0, locals := 21 } s m args below meth c H locs 0 0 Q (F0 m 49 ls []) := by
        intro l3 l4 l5 l6 H locs ls hf hP hD hS hl
        unfold Tk_behindRemark_b49 at hf
        refine lv_iconst (v := (0 : Int32)) hx hb d_Tk_behindRemark_49 (by decide) ?_
        exact B50 l3 l4 l5 l6 (0 : Int32) H locs ls hf hP hD hS (lv_sub hl [0, 1, 2, 3, 4, 5, 6] rfl)
      unfold Tk_behindRemark_b5_s at hf
      refine lv_iload hx hb d_Tk_behindRemark_5 (lv_at hl 4 rfl) ?_
      refine lv_iconst (v := (1 : Int32)) hx hb d_Tk_behindRemark_7 (by decide) ?_
      refine lv_iadd hx hb d_Tk_behindRemark_8 ?_
      refine lv_iload_n hx hb d_Tk_behindRemark_9 rfl (lv_at hl 2 rfl) ?_
      refine lv_icmp_ge (tgt := 125) hx hb d_Tk_behindRemark_10 (by decide) (fun c10 => ?_) (fun c10 => ?_)
      · rw [if_pos c10] at hf
        refine lv_iload_n hx hb d_Tk_behindRemark_125 rfl (lv_at hl 1 rfl) ?_
        have hf : (some l1 : Option Int32) = some o := hf
        rw [hQ, ← Option.some.inj hf]
        exact jIret hx hb hr hlocks d_Tk_behindRemark_126 (fun _ => 0) hS hP hD
      · rw [if_neg c10] at hf
        refine lv_aload_n hx hb d_Tk_behindRemark_13 rfl (lv_at hl 0 rfl) ?_
        refine lv_iload hx hb d_Tk_behindRemark_14 (lv_at hl 4 rfl) ?_
        obtain ⟨o9, ho9⟩ : ∃ z, f_By_at p1_row p1_length l4 = some z := by
          cases hz : f_By_at p1_row p1_length l4 with
          | none => rw [hz] at hf; simp only [jb_none, jl_b_none, jm_none, reduceCtorEq] at hf
          | some z => exact ⟨z, rfl⟩
        rw [ho9, jb_some] at hf
        refine jCallV (As := [.int l4]) (rest := []) (wr := []) ⟨hx, hb, hml, hown, hts⟩ hJ (c_By_at h_p1 h_p1_row p1_row p1_length p1_overrun l4 ho9) (cwV 1 hts (jgV jw84 jw54 jw55 jw33 jw53) rfl rfl rfl dd_By_at ⟨Nat.le_of_ble_eq_true rfl, Nat.le_of_ble_eq_true rfl⟩) hP hD hS hA (va_recv hK hP (ci := 0) (q0 := 0) rfl rfl) [0, 1] [] rfl rfl (by decide) (by decide) (by decide) rfl hl.1 rfl (Nat.le_of_ble_eq_true rfl) d_Tk_behindRemark_16 ⟨Nat.le_of_ble_eq_true rfl, Nat.le_of_ble_eq_true rfl⟩ (fun qz10 H locs hP hD hS => ?_)
        have hP : va_P (dC, dI) vwCl [(h_p1, .inr (0, [.ref h_p1_row, .int p1_length, .int p1_overrun])), (h_p1_row, .inl (cB, 8000, .inl p1_row))] H := hP
        have hD : va_D A [(h_p1, .inr (0, [.ref h_p1_row, .int p1_length, .int p1_overrun])), (h_p1_row, .inl (cB, 8000, .inl p1_row))] := hD
        refine lv_istore (lv' := [(5, .int o9), (0, .ref h_p1), (1, .int l1), (2, .int l2), (3, .int l3), (4, .int l4)]) hx hb d_Tk_behindRemark_19 hl (by decide) rfl (fun ls hl => ?_)
        refine lv_aload_n hx hb d_Tk_behindRemark_21 rfl (lv_at hl 1 rfl) ?_
        refine lv_iload hx hb d_Tk_behindRemark_22 (lv_at hl 5 rfl) ?_
        refine lv_iconst (v := (1 : Int32)) hx hb d_Tk_behindRemark_24 (by decide) ?_
        refine lv_iadd hx hb d_Tk_behindRemark_25 ?_
        obtain ⟨o11, ho11⟩ : ∃ z, f_By_at p1_row p1_length (l4 + (1 : Int32)) = some z := by
          cases hz : f_By_at p1_row p1_length (l4 + (1 : Int32)) with
          | none => rw [hz] at hf; simp only [jb_none, jl_b_none, jm_none, reduceCtorEq] at hf
          | some z => exact ⟨z, rfl⟩
        rw [ho11, jb_some] at hf
        refine jCallV (As := [.int (l4 + (1 : Int32))]) (rest := []) (wr := []) ⟨hx, hb, hml, hown, hts⟩ hJ (c_By_at h_p1 h_p1_row p1_row p1_length p1_overrun (l4 + (1 : Int32)) ho11) (cwV 1 hts (jgV jw84 jw54 jw55 jw33 jw53) rfl rfl rfl dd_By_at ⟨Nat.le_of_ble_eq_true rfl, Nat.le_of_ble_eq_true rfl⟩) hP hD hS hA (va_recv hK hP (ci := 0) (q0 := 0) rfl rfl) [0, 1] [] rfl rfl (by decide) (by decide) (by decide) rfl hl.1 rfl (Nat.le_of_ble_eq_true rfl) d_Tk_behindRemark_26 ⟨Nat.le_of_ble_eq_true rfl, Nat.le_of_ble_eq_true rfl⟩ (fun qz12 H locs hP hD hS => ?_)
        have hP : va_P (dC, dI) vwCl [(h_p1, .inr (0, [.ref h_p1_row, .int p1_length, .int p1_overrun])), (h_p1_row, .inl (cB, 8000, .inl p1_row))] H := hP
        have hD : va_D A [(h_p1, .inr (0, [.ref h_p1_row, .int p1_length, .int p1_overrun])), (h_p1_row, .inl (cB, 8000, .inl p1_row))] := hD
        refine lv_istore (lv' := [(6, .int o11), (5, .int o9), (0, .ref h_p1), (1, .int l1), (2, .int l2), (3, .int l3), (4, .int l4)]) hx hb d_Tk_behindRemark_29 hl (by decide) rfl (fun ls hl => ?_)
        refine lv_iload hx hb d_Tk_behindRemark_31 (lv_at hl 1 rfl) ?_
        refine lv_bipush (v := (123 : Int32)) hx hb d_Tk_behindRemark_33 (by decide) ?_
        refine lv_icmp_ne (tgt := 49) hx hb d_Tk_behindRemark_35 (by decide) (fun c35 => ?_) (fun c35 => ?_)
        · rw [if_neg c35] at hf
          exact B49 l3 l4 o9 o11 H locs ls hf hP hD hS (lv_sub hl [2, 3, 4, 5, 6, 1, 0] rfl)
        · rw [if_pos c35] at hf
          refine lv_iload hx hb d_Tk_behindRemark_38 (lv_at hl 0 rfl) ?_
          refine lv_bipush (v := (45 : Int32)) hx hb d_Tk_behindRemark_40 (by decide) ?_
          refine lv_icmp_ne (tgt := 49) hx hb d_Tk_behindRemark_42 (by decide) (fun c42 => ?_) (fun c42 => ?_)
          · rw [if_neg c42] at hf
            exact B49 l3 l4 o9 o11 H locs ls hf hP hD hS (lv_sub hl [2, 3, 4, 5, 6, 1, 0] rfl)
          · rw [if_pos c42] at hf
            refine lv_iconst (v := (1 : Int32)) hx hb d_Tk_behindRemark_45 (by decide) ?_
            refine lv_goto (tgt := 50) hx hb d_Tk_behindRemark_46 (by decide) ?_
            exact B50 l3 l4 o9 o11 (1 : Int32) H locs ls hf hP hD hS (lv_sub hl [2, 3, 4, 5, 6, 1, 0] rfl)
  unfold f_Tk_behindRemark at hf
  refine lv_iconst (v := (0 : Int32)) hx hb d_Tk_behindRemark_0 (by decide) ?_
  refine lv_istore_n (lv' := [(3, .int (0 : Int32)), (0, .ref h_p1), (1, .int a2), (2, .int a3)]) hx hb d_Tk_behindRemark_1 rfl hl (by decide) rfl (fun ls hl => ?_)
  refine lv_iload_n hx hb d_Tk_behindRemark_2 rfl (lv_at hl 2 rfl) ?_
  refine lv_istore (lv' := [(4, .int a2), (3, .int (0 : Int32)), (0, .ref h_p1), (1, .int a2), (2, .int a3)]) hx hb d_Tk_behindRemark_3 hl (by decide) rfl (fun ls hl => ?_)
  unfold Tk_behindRemark_b5 at hf
  obtain ⟨nn, en⟩ := jl_ex (Tk_behindRemark_b5_b p1_row p1_length a2 a3) ((0 : Int32), a2)
  rw [en] at hf
  exact L5 nn a2 a3 (0 : Int32) a2 H locs ls hf hP hD hS (lv_sub hl [2, 3, 4, 1, 0] rfl)
theorem d_Tk_behindLine_0 : decode b_Tk_behindLine 0 = .ok (.iload_n 1, 1) := by decide +kernel
theorem d_Tk_behindLine_1 : decode b_Tk_behindLine 1 = .ok (.istore_n 3, 1) := by decide +kernel
theorem d_Tk_behindLine_2 : decode b_Tk_behindLine 2 = .ok (.iload_n 3, 1) := by decide +kernel
theorem d_Tk_behindLine_3 : decode b_Tk_behindLine 3 = .ok (.iload_n 2, 1) := by decide +kernel
theorem d_Tk_behindLine_4 : decode b_Tk_behindLine 4 = .ok (.if_icmp .ge 19, 3) := by decide +kernel
theorem d_Tk_behindLine_7 : decode b_Tk_behindLine 7 = .ok (.aload_n 0, 1) := by decide +kernel
theorem d_Tk_behindLine_8 : decode b_Tk_behindLine 8 = .ok (.iload_n 3, 1) := by decide +kernel
theorem d_Tk_behindLine_9 : decode b_Tk_behindLine 9 = .ok (.invokevirtual 34, 3) := by decide +kernel
theorem d_Tk_behindLine_12 : decode b_Tk_behindLine 12 = .ok (.bipush 10, 2) := by decide +kernel
theorem d_Tk_behindLine_14 : decode b_Tk_behindLine 14 = .ok (.if_icmp .eq 9, 3) := by decide +kernel
theorem d_Tk_behindLine_17 : decode b_Tk_behindLine 17 = .ok (.iinc 3 1, 3) := by decide +kernel
theorem d_Tk_behindLine_20 : decode b_Tk_behindLine 20 = .ok (.goto (-18), 3) := by decide +kernel
theorem d_Tk_behindLine_23 : decode b_Tk_behindLine 23 = .ok (.iload_n 3, 1) := by decide +kernel
theorem d_Tk_behindLine_24 : decode b_Tk_behindLine 24 = .ok (.ireturn, 1) := by decide +kernel
noncomputable def Tk_behindLine_b2_s (p1_row : (Nat → Int32)) (p1_length : Int32) (l2 : Int32) (l3 : Int32) : Option (Int32 ⊕ Int32) := if l2 ≤ l3 then (some (.inr l3)) else (jb (f_By_at p1_row p1_length l3) (fun o3 => if o3 = (10 : Int32) then (some (.inr l3)) else (some (.inl (l3 + (1 : Int32))))))
noncomputable def Tk_behindLine_b2_b (p1_row : (Nat → Int32)) (p1_length : Int32) (l2 : Int32) : Int32 → Option (Int32 ⊕ Int32) := fun x => Tk_behindLine_b2_s p1_row p1_length l2 x
noncomputable def Tk_behindLine_b2 (p1_row : (Nat → Int32)) (p1_length : Int32) (l2 : Int32) (l3 : Int32) : Option Int32 := jl (Tk_behindLine_b2_b p1_row p1_length l2) l3
noncomputable def f_Tk_behindLine (p1_row : (Nat → Int32)) (p1_length : Int32)  (a2 : Int32) (a3 : Int32) : Option Int32 := Tk_behindLine_b2 p1_row p1_length a3 a2
set_option maxHeartbeats 4000000 in
set_option maxRecDepth 100000 in
theorem c_Tk_behindLine {l : Launch} {dC : Nat → ClassId} {dI : Nat → Nat → Nat} {cI cB cS : ClassId} {adK adV adR : Nat → Nat} (h_p1 h_p1_row : Nat) (p1_row : (Nat → Int32)) (p1_length : Int32) (p1_overrun : Int32) (a2 : Int32) (a3 : Int32) {o : Int32} (hf : f_Tk_behindLine p1_row p1_length a2 a3 = some o) : jMet l dC dI cI cB cS adK adV adR y_Tk_behindLine wd_Tk_behindLine { frames := 1, cells := 0, slots := 0, locals := 21 } [.ref h_p1, .int a2, .int a3] [(h_p1, .inr (0, [.ref h_p1_row, .int p1_length, .int p1_overrun])), (h_p1_row, .inl (cB, 8000, .inl p1_row))] (some (.int o)) (fun q => [(h_p1, .inr (0, [.ref h_p1_row, .int p1_length, .int p1_overrun])), (h_p1_row, .inl (cB, 8000, .inl p1_row))]) 0 0 := by
  refine jEntry (cc := b_Tk_behindLine) (maxL := 4) (ret := (some .int)) (by decide) rfl (Nat.le_of_ble_eq_true rfl) rfl (fun p e s m args below meth c A H locs ls Q hQ hx hb hr hml hown hts hlocks hnm hJ hA hP hD hS hl => ?_)
  have hK := hJ.K
  have hl : lv_has ls 4 [(0, .ref h_p1), (1, .int a2), (2, .int a3)] := hl
  have L2 : ∀ (n2 : Nat) (l2 : Int32) (l3 : Int32) (H : Heap) (locs : List Loc) (ls : Array Slot), jl_n (Tk_behindLine_b2_b p1_row p1_length l2) n2 l3 = some o → va_P (dC, dI) vwCl [(h_p1, .inr (0, [.ref h_p1_row, .int p1_length, .int p1_overrun])), (h_p1_row, .inl (cB, 8000, .inl p1_row))] H → va_D A [(h_p1, .inr (0, [.ref h_p1_row, .int p1_length, .int p1_overrun])), (h_p1_row, .inl (cB, 8000, .inl p1_row))] → va_S A s.heap H locs → lv_has ls 4 [(0, .ref h_p1), (2, .int l2), (3, .int l3)] → W p l e { frames := 1, cells := 0, slots := 0, locals := 21 } s m args below meth c H locs 0 0 Q (F0 m 2 ls []) := by
    intro n2
    induction n2 with
    | zero => intro l2 l3 H locs ls hf; simp only [jl_n_zero, jl_b_none, reduceCtorEq] at hf
    | succ n2 ih2 =>
      intro l2 l3 H locs ls hf hP hD hS hl
      rw [jl_n_succ] at hf
      have hf : jl_b (jl_n (Tk_behindLine_b2_b p1_row p1_length l2) n2) (Tk_behindLine_b2_s p1_row p1_length l2 l3) = some o := hf
      unfold Tk_behindLine_b2_s at hf
      refine lv_iload_n hx hb d_Tk_behindLine_2 rfl (lv_at hl 2 rfl) ?_
      refine lv_iload_n hx hb d_Tk_behindLine_3 rfl (lv_at hl 1 rfl) ?_
      refine lv_icmp_ge (tgt := 23) hx hb d_Tk_behindLine_4 (by decide) (fun c4 => ?_) (fun c4 => ?_)
      · rw [if_pos c4] at hf
        refine lv_iload_n hx hb d_Tk_behindLine_23 rfl (lv_at hl 2 rfl) ?_
        have hf : (some l3 : Option Int32) = some o := hf
        rw [hQ, ← Option.some.inj hf]
        exact jIret hx hb hr hlocks d_Tk_behindLine_24 (fun _ => 0) hS hP hD
      · rw [if_neg c4] at hf
        refine lv_aload_n hx hb d_Tk_behindLine_7 rfl (lv_at hl 0 rfl) ?_
        refine lv_iload_n hx hb d_Tk_behindLine_8 rfl (lv_at hl 2 rfl) ?_
        obtain ⟨o5, ho5⟩ : ∃ z, f_By_at p1_row p1_length l3 = some z := by
          cases hz : f_By_at p1_row p1_length l3 with
          | none => rw [hz] at hf; simp only [jb_none, jl_b_none, jm_none, reduceCtorEq] at hf
          | some z => exact ⟨z, rfl⟩
        rw [ho5, jb_some] at hf
        refine jCallV (As := [.int l3]) (rest := []) (wr := []) ⟨hx, hb, hml, hown, hts⟩ hJ (c_By_at h_p1 h_p1_row p1_row p1_length p1_overrun l3 ho5) (cwV 1 hts (jgV jw84 jw54 jw55 jw33 jw53) rfl rfl rfl dd_By_at ⟨Nat.le_of_ble_eq_true rfl, Nat.le_of_ble_eq_true rfl⟩) hP hD hS hA (va_recv hK hP (ci := 0) (q0 := 0) rfl rfl) [0, 1] [] rfl rfl (by decide) (by decide) (by decide) rfl hl.1 rfl (Nat.le_of_ble_eq_true rfl) d_Tk_behindLine_9 ⟨Nat.le_of_ble_eq_true rfl, Nat.le_of_ble_eq_true rfl⟩ (fun qz6 H locs hP hD hS => ?_)
        have hP : va_P (dC, dI) vwCl [(h_p1, .inr (0, [.ref h_p1_row, .int p1_length, .int p1_overrun])), (h_p1_row, .inl (cB, 8000, .inl p1_row))] H := hP
        have hD : va_D A [(h_p1, .inr (0, [.ref h_p1_row, .int p1_length, .int p1_overrun])), (h_p1_row, .inl (cB, 8000, .inl p1_row))] := hD
        refine lv_bipush (v := (10 : Int32)) hx hb d_Tk_behindLine_12 (by decide) ?_
        refine lv_icmp_eq (tgt := 23) hx hb d_Tk_behindLine_14 (by decide) (fun c14 => ?_) (fun c14 => ?_)
        · rw [if_pos c14] at hf
          refine lv_iload_n hx hb d_Tk_behindLine_23 rfl (lv_at hl 2 rfl) ?_
          have hf : (some l3 : Option Int32) = some o := hf
          rw [hQ, ← Option.some.inj hf]
          exact jIret hx hb hr hlocks d_Tk_behindLine_24 (fun _ => 0) hS hP hD
        · rw [if_neg c14] at hf
          refine lv_iinc (v := l3 + (1 : Int32)) (lv' := [(3, .int (l3 + (1 : Int32))), (0, .ref h_p1), (2, .int l2)]) hx hb d_Tk_behindLine_17 hl (k := 2) rfl rfl (by decide) rfl (fun ls hl => ?_)
          refine lv_goto (tgt := 2) hx hb d_Tk_behindLine_20 (by decide) ?_
          exact ih2 l2 (l3 + (1 : Int32)) H locs ls hf hP hD hS (lv_sub hl [1, 2, 0] rfl)
  unfold f_Tk_behindLine at hf
  refine lv_iload_n hx hb d_Tk_behindLine_0 rfl (lv_at hl 1 rfl) ?_
  refine lv_istore_n (lv' := [(3, .int a2), (0, .ref h_p1), (1, .int a2), (2, .int a3)]) hx hb d_Tk_behindLine_1 rfl hl (by decide) rfl (fun ls hl => ?_)
  unfold Tk_behindLine_b2 at hf
  obtain ⟨nn, en⟩ := jl_ex (Tk_behindLine_b2_b p1_row p1_length a3) a2
  rw [en] at hf
  exact L2 nn a3 a2 H locs ls hf hP hD hS (lv_sub hl [1, 3, 0] rfl)
theorem d_Tk_behindBlank_0 : decode b_Tk_behindBlank 0 = .ok (.aload_n 0, 1) := by decide +kernel
theorem d_Tk_behindBlank_1 : decode b_Tk_behindBlank 1 = .ok (.iload_n 1, 1) := by decide +kernel
theorem d_Tk_behindBlank_2 : decode b_Tk_behindBlank 2 = .ok (.invokevirtual 34, 3) := by decide +kernel
theorem d_Tk_behindBlank_5 : decode b_Tk_behindBlank 5 = .ok (.istore_n 3, 1) := by decide +kernel
theorem d_Tk_behindBlank_6 : decode b_Tk_behindBlank 6 = .ok (.iload_n 3, 1) := by decide +kernel
theorem d_Tk_behindBlank_7 : decode b_Tk_behindBlank 7 = .ok (.bipush 32, 2) := by decide +kernel
theorem d_Tk_behindBlank_9 : decode b_Tk_behindBlank 9 = .ok (.if_icmp .eq 21, 3) := by decide +kernel
theorem d_Tk_behindBlank_12 : decode b_Tk_behindBlank 12 = .ok (.iload_n 3, 1) := by decide +kernel
theorem d_Tk_behindBlank_13 : decode b_Tk_behindBlank 13 = .ok (.bipush 9, 2) := by decide +kernel
theorem d_Tk_behindBlank_15 : decode b_Tk_behindBlank 15 = .ok (.if_icmp .eq 15, 3) := by decide +kernel
theorem d_Tk_behindBlank_18 : decode b_Tk_behindBlank 18 = .ok (.iload_n 3, 1) := by decide +kernel
theorem d_Tk_behindBlank_19 : decode b_Tk_behindBlank 19 = .ok (.bipush 10, 2) := by decide +kernel
theorem d_Tk_behindBlank_21 : decode b_Tk_behindBlank 21 = .ok (.if_icmp .eq 9, 3) := by decide +kernel
theorem d_Tk_behindBlank_24 : decode b_Tk_behindBlank 24 = .ok (.iload_n 3, 1) := by decide +kernel
theorem d_Tk_behindBlank_25 : decode b_Tk_behindBlank 25 = .ok (.bipush 13, 2) := by decide +kernel
theorem d_Tk_behindBlank_27 : decode b_Tk_behindBlank 27 = .ok (.if_icmp .ne 7, 3) := by decide +kernel
theorem d_Tk_behindBlank_30 : decode b_Tk_behindBlank 30 = .ok (.iload_n 1, 1) := by decide +kernel
theorem d_Tk_behindBlank_31 : decode b_Tk_behindBlank 31 = .ok (.iconst 1, 1) := by decide +kernel
theorem d_Tk_behindBlank_32 : decode b_Tk_behindBlank 32 = .ok (.iadd, 1) := by decide +kernel
theorem d_Tk_behindBlank_33 : decode b_Tk_behindBlank 33 = .ok (.ireturn, 1) := by decide +kernel
theorem d_Tk_behindBlank_34 : decode b_Tk_behindBlank 34 = .ok (.iload_n 1, 1) := by decide +kernel
theorem d_Tk_behindBlank_35 : decode b_Tk_behindBlank 35 = .ok (.iconst 1, 1) := by decide +kernel
theorem d_Tk_behindBlank_36 : decode b_Tk_behindBlank 36 = .ok (.iadd, 1) := by decide +kernel
theorem d_Tk_behindBlank_37 : decode b_Tk_behindBlank 37 = .ok (.iload_n 2, 1) := by decide +kernel
theorem d_Tk_behindBlank_38 : decode b_Tk_behindBlank 38 = .ok (.if_icmp .ge 19, 3) := by decide +kernel
theorem d_Tk_behindBlank_41 : decode b_Tk_behindBlank 41 = .ok (.aload_n 0, 1) := by decide +kernel
theorem d_Tk_behindBlank_42 : decode b_Tk_behindBlank 42 = .ok (.iload_n 1, 1) := by decide +kernel
theorem d_Tk_behindBlank_43 : decode b_Tk_behindBlank 43 = .ok (.iconst 1, 1) := by decide +kernel
theorem d_Tk_behindBlank_44 : decode b_Tk_behindBlank 44 = .ok (.iadd, 1) := by decide +kernel
theorem d_Tk_behindBlank_45 : decode b_Tk_behindBlank 45 = .ok (.invokevirtual 34, 3) := by decide +kernel
theorem d_Tk_behindBlank_48 : decode b_Tk_behindBlank 48 = .ok (.bipush 45, 2) := by decide +kernel
theorem d_Tk_behindBlank_50 : decode b_Tk_behindBlank 50 = .ok (.if_icmp .ne 7, 3) := by decide +kernel
theorem d_Tk_behindBlank_53 : decode b_Tk_behindBlank 53 = .ok (.iconst 1, 1) := by decide +kernel
theorem d_Tk_behindBlank_54 : decode b_Tk_behindBlank 54 = .ok (.goto 4, 3) := by decide +kernel
theorem d_Tk_behindBlank_57 : decode b_Tk_behindBlank 57 = .ok (.iconst 0, 1) := by decide +kernel
theorem d_Tk_behindBlank_58 : decode b_Tk_behindBlank 58 = .ok (.istore 4, 2) := by decide +kernel
theorem d_Tk_behindBlank_60 : decode b_Tk_behindBlank 60 = .ok (.iload_n 3, 1) := by decide +kernel
theorem d_Tk_behindBlank_61 : decode b_Tk_behindBlank 61 = .ok (.bipush 45, 2) := by decide +kernel
theorem d_Tk_behindBlank_63 : decode b_Tk_behindBlank 63 = .ok (.if_icmp .ne 15, 3) := by decide +kernel
theorem d_Tk_behindBlank_66 : decode b_Tk_behindBlank 66 = .ok (.iload 4, 2) := by decide +kernel
theorem d_Tk_behindBlank_68 : decode b_Tk_behindBlank 68 = .ok (.ifCond .eq 10, 3) := by decide +kernel
theorem d_Tk_behindBlank_71 : decode b_Tk_behindBlank 71 = .ok (.aload_n 0, 1) := by decide +kernel
theorem d_Tk_behindBlank_72 : decode b_Tk_behindBlank 72 = .ok (.iload_n 1, 1) := by decide +kernel
theorem d_Tk_behindBlank_73 : decode b_Tk_behindBlank 73 = .ok (.iload_n 2, 1) := by decide +kernel
theorem d_Tk_behindBlank_74 : decode b_Tk_behindBlank 74 = .ok (.invokestatic 53, 3) := by decide +kernel
theorem d_Tk_behindBlank_77 : decode b_Tk_behindBlank 77 = .ok (.ireturn, 1) := by decide +kernel
theorem d_Tk_behindBlank_78 : decode b_Tk_behindBlank 78 = .ok (.iload_n 3, 1) := by decide +kernel
theorem d_Tk_behindBlank_79 : decode b_Tk_behindBlank 79 = .ok (.bipush 123, 2) := by decide +kernel
theorem d_Tk_behindBlank_81 : decode b_Tk_behindBlank 81 = .ok (.if_icmp .ne 17, 3) := by decide +kernel
theorem d_Tk_behindBlank_84 : decode b_Tk_behindBlank 84 = .ok (.iload 4, 2) := by decide +kernel
theorem d_Tk_behindBlank_86 : decode b_Tk_behindBlank 86 = .ok (.ifCond .eq 12, 3) := by decide +kernel
theorem d_Tk_behindBlank_89 : decode b_Tk_behindBlank 89 = .ok (.aload_n 0, 1) := by decide +kernel
theorem d_Tk_behindBlank_90 : decode b_Tk_behindBlank 90 = .ok (.iload_n 1, 1) := by decide +kernel
theorem d_Tk_behindBlank_91 : decode b_Tk_behindBlank 91 = .ok (.iload_n 2, 1) := by decide +kernel
theorem d_Tk_behindBlank_92 : decode b_Tk_behindBlank 92 = .ok (.invokestatic 56, 3) := by decide +kernel
theorem d_Tk_behindBlank_95 : decode b_Tk_behindBlank 95 = .ok (.goto 4, 3) := by decide +kernel
theorem d_Tk_behindBlank_98 : decode b_Tk_behindBlank 98 = .ok (.iload_n 1, 1) := by decide +kernel
theorem d_Tk_behindBlank_99 : decode b_Tk_behindBlank 99 = .ok (.ireturn, 1) := by decide +kernel
noncomputable def Tk_behindBlank_b98 (p1_row : (Nat → Int32)) (p1_length : Int32) (l1 : Int32) : Option Int32 := some l1
noncomputable def Tk_behindBlank_b78 (p1_row : (Nat → Int32)) (p1_length : Int32) (l1 : Int32) (l2 : Int32) (l3 : Int32) (l4 : Int32) : Option Int32 := if l3 = (123 : Int32) then (if l4 = 0 then (Tk_behindBlank_b98 p1_row p1_length l1) else (jb (f_Tk_behindRemark p1_row p1_length l1 l2) (fun o9 => some o9))) else (Tk_behindBlank_b98 p1_row p1_length l1)
noncomputable def Tk_behindBlank_b58 (p1_row : (Nat → Int32)) (p1_length : Int32) (l1 : Int32) (l2 : Int32) (l3 : Int32) (s0 : Int32) : Option Int32 := if l3 = (45 : Int32) then (if s0 = 0 then (Tk_behindBlank_b78 p1_row p1_length l1 l2 l3 s0) else (jb (f_Tk_behindLine p1_row p1_length l1 l2) (fun o11 => some o11))) else (Tk_behindBlank_b78 p1_row p1_length l1 l2 l3 s0)
noncomputable def Tk_behindBlank_b57 (p1_row : (Nat → Int32)) (p1_length : Int32) (l1 : Int32) (l2 : Int32) (l3 : Int32) : Option Int32 := Tk_behindBlank_b58 p1_row p1_length l1 l2 l3 (0 : Int32)
noncomputable def Tk_behindBlank_b30 (p1_row : (Nat → Int32)) (p1_length : Int32) (l1 : Int32) : Option Int32 := some (l1 + (1 : Int32))
noncomputable def f_Tk_behindBlank (p1_row : (Nat → Int32)) (p1_length : Int32)  (a2 : Int32) (a3 : Int32) : Option Int32 := jb (f_By_at p1_row p1_length a2) (fun o13 => if o13 = (32 : Int32) then (Tk_behindBlank_b30 p1_row p1_length a2) else (if o13 = (9 : Int32) then (Tk_behindBlank_b30 p1_row p1_length a2) else (if o13 = (10 : Int32) then (Tk_behindBlank_b30 p1_row p1_length a2) else (if o13 = (13 : Int32) then (Tk_behindBlank_b30 p1_row p1_length a2) else (if a3 ≤ (a2 + (1 : Int32)) then (Tk_behindBlank_b57 p1_row p1_length a2 a3 o13) else (jb (f_By_at p1_row p1_length (a2 + (1 : Int32))) (fun o15 => if o15 = (45 : Int32) then (Tk_behindBlank_b58 p1_row p1_length a2 a3 o13 (1 : Int32)) else (Tk_behindBlank_b57 p1_row p1_length a2 a3 o13))))))))
set_option maxHeartbeats 4000000 in
set_option maxRecDepth 100000 in
theorem c_Tk_behindBlank {l : Launch} {dC : Nat → ClassId} {dI : Nat → Nat → Nat} {cI cB cS : ClassId} {adK adV adR : Nat → Nat} (h_p1 h_p1_row : Nat) (p1_row : (Nat → Int32)) (p1_length : Int32) (p1_overrun : Int32) (a2 : Int32) (a3 : Int32) {o : Int32} (hf : f_Tk_behindBlank p1_row p1_length a2 a3 = some o) : jMet l dC dI cI cB cS adK adV adR y_Tk_behindBlank wd_Tk_behindBlank { frames := 2, cells := 0, slots := 0, locals := 49 } [.ref h_p1, .int a2, .int a3] [(h_p1, .inr (0, [.ref h_p1_row, .int p1_length, .int p1_overrun])), (h_p1_row, .inl (cB, 8000, .inl p1_row))] (some (.int o)) (fun q => [(h_p1, .inr (0, [.ref h_p1_row, .int p1_length, .int p1_overrun])), (h_p1_row, .inl (cB, 8000, .inl p1_row))]) 0 0 := by
  refine jEntry (cc := b_Tk_behindBlank) (maxL := 5) (ret := (some .int)) (by decide) rfl (Nat.le_of_ble_eq_true rfl) rfl (fun p e s m args below meth c A H locs ls Q hQ hx hb hr hml hown hts hlocks hnm hJ hA hP hD hS hl => ?_)
  have hK := hJ.K
  have hl : lv_has ls 5 [(0, .ref h_p1), (1, .int a2), (2, .int a3)] := hl
  have B98 : ∀ (l1 : Int32) (H : Heap) (locs : List Loc) (ls : Array Slot), Tk_behindBlank_b98 p1_row p1_length l1 = some o → va_P (dC, dI) vwCl [(h_p1, .inr (0, [.ref h_p1_row, .int p1_length, .int p1_overrun])), (h_p1_row, .inl (cB, 8000, .inl p1_row))] H → va_D A [(h_p1, .inr (0, [.ref h_p1_row, .int p1_length, .int p1_overrun])), (h_p1_row, .inl (cB, 8000, .inl p1_row))] → va_S A s.heap H locs → lv_has ls 5 [(1, .int l1)] → W p l e { frames := 2, cells := 0, slots := 0, locals := 49 } s m args below meth c H locs 0 0 Q (F0 m 98 ls []) := by
    intro l1 H locs ls hf hP hD hS hl
    unfold Tk_behindBlank_b98 at hf
    refine lv_iload_n hx hb d_Tk_behindBlank_98 rfl (lv_at hl 0 rfl) ?_
    have hf : (some l1 : Option Int32) = some o := hf
    rw [hQ, ← Option.some.inj hf]
    exact jIret hx hb hr hlocks d_Tk_behindBlank_99 (fun _ => 0) hS hP hD
  have B78 : ∀ (l1 : Int32) (l2 : Int32) (l3 : Int32) (l4 : Int32) (H : Heap) (locs : List Loc) (ls : Array Slot), Tk_behindBlank_b78 p1_row p1_length l1 l2 l3 l4 = some o → va_P (dC, dI) vwCl [(h_p1, .inr (0, [.ref h_p1_row, .int p1_length, .int p1_overrun])), (h_p1_row, .inl (cB, 8000, .inl p1_row))] H → va_D A [(h_p1, .inr (0, [.ref h_p1_row, .int p1_length, .int p1_overrun])), (h_p1_row, .inl (cB, 8000, .inl p1_row))] → va_S A s.heap H locs → lv_has ls 5 [(0, .ref h_p1), (1, .int l1), (2, .int l2), (3, .int l3), (4, .int l4)] → W p l e { frames := 2, cells := 0, slots := 0, locals := 49 } s m args below meth c H locs 0 0 Q (F0 m 78 ls []) := by
    intro l1 l2 l3 l4 H locs ls hf hP hD hS hl
    unfold Tk_behindBlank_b78 at hf
    refine lv_iload_n hx hb d_Tk_behindBlank_78 rfl (lv_at hl 3 rfl) ?_
    refine lv_bipush (v := (123 : Int32)) hx hb d_Tk_behindBlank_79 (by decide) ?_
    refine lv_icmp_ne (tgt := 98) hx hb d_Tk_behindBlank_81 (by decide) (fun c81 => ?_) (fun c81 => ?_)
    · rw [if_neg c81] at hf
      exact B98 l1 H locs ls hf hP hD hS (lv_sub hl [1] rfl)
    · rw [if_pos c81] at hf
      refine lv_iload hx hb d_Tk_behindBlank_84 (lv_at hl 4 rfl) ?_
      refine lv_if_eq (tgt := 98) hx hb d_Tk_behindBlank_86 (by decide) (fun c86 => ?_) (fun c86 => ?_)
      · rw [if_pos c86] at hf
        exact B98 l1 H locs ls hf hP hD hS (lv_sub hl [1] rfl)
      · rw [if_neg c86] at hf
        refine lv_aload_n hx hb d_Tk_behindBlank_89 rfl (lv_at hl 0 rfl) ?_
        refine lv_iload_n hx hb d_Tk_behindBlank_90 rfl (lv_at hl 1 rfl) ?_
        refine lv_iload_n hx hb d_Tk_behindBlank_91 rfl (lv_at hl 2 rfl) ?_
        obtain ⟨o17, ho17⟩ : ∃ z, f_Tk_behindRemark p1_row p1_length l1 l2 = some z := by
          cases hz : f_Tk_behindRemark p1_row p1_length l1 l2 with
          | none => rw [hz] at hf; simp only [jb_none, jl_b_none, jm_none, reduceCtorEq] at hf
          | some z => exact ⟨z, rfl⟩
        rw [ho17, jb_some] at hf
        refine jCallS (As := [.ref h_p1, .int l1, .int l2]) (rest := []) (wr := []) ⟨hx, hb, hml, hown, hts⟩ hJ (c_Tk_behindRemark h_p1 h_p1_row p1_row p1_length p1_overrun l1 l2 ho17) (va_cwS 3 hts (jgS jw122 jw124 jw79 jw123) rfl rfl rfl dd_Tk_behindRemark.2 ⟨Nat.le_of_ble_eq_true rfl, Nat.le_of_ble_eq_true rfl⟩) hP hD hS hA [0, 1] [] rfl rfl (by decide) (by decide) (by decide) rfl hl.1 rfl (Nat.le_of_ble_eq_true rfl) d_Tk_behindBlank_92 ⟨Nat.le_of_ble_eq_true rfl, Nat.le_of_ble_eq_true rfl⟩ (fun qz18 H locs hP hD hS => ?_)
        have hP : va_P (dC, dI) vwCl [(h_p1, .inr (0, [.ref h_p1_row, .int p1_length, .int p1_overrun])), (h_p1_row, .inl (cB, 8000, .inl p1_row))] H := hP
        have hD : va_D A [(h_p1, .inr (0, [.ref h_p1_row, .int p1_length, .int p1_overrun])), (h_p1_row, .inl (cB, 8000, .inl p1_row))] := hD
        refine lv_goto (tgt := 99) hx hb d_Tk_behindBlank_95 (by decide) ?_
        have hf : (some o17 : Option Int32) = some o := hf
        rw [hQ, ← Option.some.inj hf]
        exact jIret hx hb hr hlocks d_Tk_behindBlank_99 (fun _ => 0) hS hP hD
  have B58 : ∀ (l1 : Int32) (l2 : Int32) (l3 : Int32) (s0 : Int32) (H : Heap) (locs : List Loc) (ls : Array Slot), Tk_behindBlank_b58 p1_row p1_length l1 l2 l3 s0 = some o → va_P (dC, dI) vwCl [(h_p1, .inr (0, [.ref h_p1_row, .int p1_length, .int p1_overrun])), (h_p1_row, .inl (cB, 8000, .inl p1_row))] H → va_D A [(h_p1, .inr (0, [.ref h_p1_row, .int p1_length, .int p1_overrun])), (h_p1_row, .inl (cB, 8000, .inl p1_row))] → va_S A s.heap H locs → lv_has ls 5 [(0, .ref h_p1), (1, .int l1), (2, .int l2), (3, .int l3)] → W p l e { frames := 2, cells := 0, slots := 0, locals := 49 } s m args below meth c H locs 0 0 Q (F0 m 58 ls [.int s0]) := by
    intro l1 l2 l3 s0 H locs ls hf hP hD hS hl
    unfold Tk_behindBlank_b58 at hf
    refine lv_istore (lv' := [(4, .int s0), (0, .ref h_p1), (1, .int l1), (2, .int l2), (3, .int l3)]) hx hb d_Tk_behindBlank_58 hl (by decide) rfl (fun ls hl => ?_)
    refine lv_iload_n hx hb d_Tk_behindBlank_60 rfl (lv_at hl 4 rfl) ?_
    refine lv_bipush (v := (45 : Int32)) hx hb d_Tk_behindBlank_61 (by decide) ?_
    refine lv_icmp_ne (tgt := 78) hx hb d_Tk_behindBlank_63 (by decide) (fun c63 => ?_) (fun c63 => ?_)
    · rw [if_neg c63] at hf
      exact B78 l1 l2 l3 s0 H locs ls hf hP hD hS (lv_sub hl [1, 2, 3, 4, 0] rfl)
    · rw [if_pos c63] at hf
      refine lv_iload hx hb d_Tk_behindBlank_66 (lv_at hl 0 rfl) ?_
      refine lv_if_eq (tgt := 78) hx hb d_Tk_behindBlank_68 (by decide) (fun c68 => ?_) (fun c68 => ?_)
      · rw [if_pos c68] at hf
        exact B78 l1 l2 l3 s0 H locs ls hf hP hD hS (lv_sub hl [1, 2, 3, 4, 0] rfl)
      · rw [if_neg c68] at hf
        refine lv_aload_n hx hb d_Tk_behindBlank_71 rfl (lv_at hl 1 rfl) ?_
        refine lv_iload_n hx hb d_Tk_behindBlank_72 rfl (lv_at hl 2 rfl) ?_
        refine lv_iload_n hx hb d_Tk_behindBlank_73 rfl (lv_at hl 3 rfl) ?_
        obtain ⟨o19, ho19⟩ : ∃ z, f_Tk_behindLine p1_row p1_length l1 l2 = some z := by
          cases hz : f_Tk_behindLine p1_row p1_length l1 l2 with
          | none => rw [hz] at hf; simp only [jb_none, jl_b_none, jm_none, reduceCtorEq] at hf
          | some z => exact ⟨z, rfl⟩
        rw [ho19, jb_some] at hf
        refine jCallS (As := [.ref h_p1, .int l1, .int l2]) (rest := []) (wr := []) ⟨hx, hb, hml, hown, hts⟩ hJ (c_Tk_behindLine h_p1 h_p1_row p1_row p1_length p1_overrun l1 l2 ho19) (va_cwS 3 hts (jgS jw119 jw121 jw79 jw120) rfl rfl rfl dd_Tk_behindLine.2 ⟨Nat.le_of_ble_eq_true rfl, Nat.le_of_ble_eq_true rfl⟩) hP hD hS hA [0, 1] [] rfl rfl (by decide) (by decide) (by decide) rfl hl.1 rfl (Nat.le_of_ble_eq_true rfl) d_Tk_behindBlank_74 ⟨Nat.le_of_ble_eq_true rfl, Nat.le_of_ble_eq_true rfl⟩ (fun qz20 H locs hP hD hS => ?_)
        have hP : va_P (dC, dI) vwCl [(h_p1, .inr (0, [.ref h_p1_row, .int p1_length, .int p1_overrun])), (h_p1_row, .inl (cB, 8000, .inl p1_row))] H := hP
        have hD : va_D A [(h_p1, .inr (0, [.ref h_p1_row, .int p1_length, .int p1_overrun])), (h_p1_row, .inl (cB, 8000, .inl p1_row))] := hD
        have hf : (some o19 : Option Int32) = some o := hf
        rw [hQ, ← Option.some.inj hf]
        exact jIret hx hb hr hlocks d_Tk_behindBlank_77 (fun _ => 0) hS hP hD
  have B57 : ∀ (l1 : Int32) (l2 : Int32) (l3 : Int32) (H : Heap) (locs : List Loc) (ls : Array Slot), Tk_behindBlank_b57 p1_row p1_length l1 l2 l3 = some o → va_P (dC, dI) vwCl [(h_p1, .inr (0, [.ref h_p1_row, .int p1_length, .int p1_overrun])), (h_p1_row, .inl (cB, 8000, .inl p1_row))] H → va_D A [(h_p1, .inr (0, [.ref h_p1_row, .int p1_length, .int p1_overrun])), (h_p1_row, .inl (cB, 8000, .inl p1_row))] → va_S A s.heap H locs → lv_has ls 5 [(0, .ref h_p1), (1, .int l1), (2, .int l2), (3, .int l3)] → W p l e { frames := 2, cells := 0, slots := 0, locals := 49 } s m args below meth c H locs 0 0 Q (F0 m 57 ls []) := by
    intro l1 l2 l3 H locs ls hf hP hD hS hl
    unfold Tk_behindBlank_b57 at hf
    refine lv_iconst (v := (0 : Int32)) hx hb d_Tk_behindBlank_57 (by decide) ?_
    exact B58 l1 l2 l3 (0 : Int32) H locs ls hf hP hD hS (lv_sub hl [0, 1, 2, 3] rfl)
  have B30 : ∀ (l1 : Int32) (H : Heap) (locs : List Loc) (ls : Array Slot), Tk_behindBlank_b30 p1_row p1_length l1 = some o → va_P (dC, dI) vwCl [(h_p1, .inr (0, [.ref h_p1_row, .int p1_length, .int p1_overrun])), (h_p1_row, .inl (cB, 8000, .inl p1_row))] H → va_D A [(h_p1, .inr (0, [.ref h_p1_row, .int p1_length, .int p1_overrun])), (h_p1_row, .inl (cB, 8000, .inl p1_row))] → va_S A s.heap H locs → lv_has ls 5 [(1, .int l1)] → W p l e { frames := 2, cells := 0, slots := 0, locals := 49 } s m args below meth c H locs 0 0 Q (F0 m 30 ls []) := by
    intro l1 H locs ls hf hP hD hS hl
    unfold Tk_behindBlank_b30 at hf
    refine lv_iload_n hx hb d_Tk_behindBlank_30 rfl (lv_at hl 0 rfl) ?_
    refine lv_iconst (v := (1 : Int32)) hx hb d_Tk_behindBlank_31 (by decide) ?_
    refine lv_iadd hx hb d_Tk_behindBlank_32 ?_
    have hf : (some (l1 + (1 : Int32)) : Option Int32) = some o := hf
    rw [hQ, ← Option.some.inj hf]
    exact jIret hx hb hr hlocks d_Tk_behindBlank_33 (fun _ => 0) hS hP hD
  unfold f_Tk_behindBlank at hf
  refine lv_aload_n hx hb d_Tk_behindBlank_0 rfl (lv_at hl 0 rfl) ?_
  refine lv_iload_n hx hb d_Tk_behindBlank_1 rfl (lv_at hl 1 rfl) ?_
  obtain ⟨o21, ho21⟩ : ∃ z, f_By_at p1_row p1_length a2 = some z := by
    cases hz : f_By_at p1_row p1_length a2 with
    | none => rw [hz] at hf; simp only [jb_none, jl_b_none, jm_none, reduceCtorEq] at hf
    | some z => exact ⟨z, rfl⟩
  rw [ho21, jb_some] at hf
  refine jCallV (As := [.int a2]) (rest := []) (wr := []) ⟨hx, hb, hml, hown, hts⟩ hJ (c_By_at h_p1 h_p1_row p1_row p1_length p1_overrun a2 ho21) (cwV 1 hts (jgV jw84 jw54 jw55 jw33 jw53) rfl rfl rfl dd_By_at ⟨Nat.le_of_ble_eq_true rfl, Nat.le_of_ble_eq_true rfl⟩) hP hD hS hA (va_recv hK hP (ci := 0) (q0 := 0) rfl rfl) [0, 1] [] rfl rfl (by decide) (by decide) (by decide) rfl hl.1 rfl (Nat.le_of_ble_eq_true rfl) d_Tk_behindBlank_2 ⟨Nat.le_of_ble_eq_true rfl, Nat.le_of_ble_eq_true rfl⟩ (fun qz22 H locs hP hD hS => ?_)
  have hP : va_P (dC, dI) vwCl [(h_p1, .inr (0, [.ref h_p1_row, .int p1_length, .int p1_overrun])), (h_p1_row, .inl (cB, 8000, .inl p1_row))] H := hP
  have hD : va_D A [(h_p1, .inr (0, [.ref h_p1_row, .int p1_length, .int p1_overrun])), (h_p1_row, .inl (cB, 8000, .inl p1_row))] := hD
  refine lv_istore_n (lv' := [(3, .int o21), (0, .ref h_p1), (1, .int a2), (2, .int a3)]) hx hb d_Tk_behindBlank_5 rfl hl (by decide) rfl (fun ls hl => ?_)
  refine lv_iload_n hx hb d_Tk_behindBlank_6 rfl (lv_at hl 0 rfl) ?_
  refine lv_bipush (v := (32 : Int32)) hx hb d_Tk_behindBlank_7 (by decide) ?_
  refine lv_icmp_eq (tgt := 30) hx hb d_Tk_behindBlank_9 (by decide) (fun c9 => ?_) (fun c9 => ?_)
  · rw [if_pos c9] at hf
    exact B30 a2 H locs ls hf hP hD hS (lv_sub hl [2] rfl)
  · rw [if_neg c9] at hf
    refine lv_iload_n hx hb d_Tk_behindBlank_12 rfl (lv_at hl 0 rfl) ?_
    refine lv_bipush (v := (9 : Int32)) hx hb d_Tk_behindBlank_13 (by decide) ?_
    refine lv_icmp_eq (tgt := 30) hx hb d_Tk_behindBlank_15 (by decide) (fun c15 => ?_) (fun c15 => ?_)
    · rw [if_pos c15] at hf
      exact B30 a2 H locs ls hf hP hD hS (lv_sub hl [2] rfl)
    · rw [if_neg c15] at hf
      refine lv_iload_n hx hb d_Tk_behindBlank_18 rfl (lv_at hl 0 rfl) ?_
      refine lv_bipush (v := (10 : Int32)) hx hb d_Tk_behindBlank_19 (by decide) ?_
      refine lv_icmp_eq (tgt := 30) hx hb d_Tk_behindBlank_21 (by decide) (fun c21 => ?_) (fun c21 => ?_)
      · rw [if_pos c21] at hf
        exact B30 a2 H locs ls hf hP hD hS (lv_sub hl [2] rfl)
      · rw [if_neg c21] at hf
        refine lv_iload_n hx hb d_Tk_behindBlank_24 rfl (lv_at hl 0 rfl) ?_
        refine lv_bipush (v := (13 : Int32)) hx hb d_Tk_behindBlank_25 (by decide) ?_
        refine lv_icmp_ne (tgt := 34) hx hb d_Tk_behindBlank_27 (by decide) (fun c27 => ?_) (fun c27 => ?_)
        · rw [if_neg c27] at hf
          refine lv_iload_n hx hb d_Tk_behindBlank_34 rfl (lv_at hl 2 rfl) ?_
          refine lv_iconst (v := (1 : Int32)) hx hb d_Tk_behindBlank_35 (by decide) ?_
          refine lv_iadd hx hb d_Tk_behindBlank_36 ?_
          refine lv_iload_n hx hb d_Tk_behindBlank_37 rfl (lv_at hl 3 rfl) ?_
          refine lv_icmp_ge (tgt := 57) hx hb d_Tk_behindBlank_38 (by decide) (fun c38 => ?_) (fun c38 => ?_)
          · rw [if_pos c38] at hf
            exact B57 a2 a3 o21 H locs ls hf hP hD hS (lv_sub hl [1, 2, 3, 0] rfl)
          · rw [if_neg c38] at hf
            refine lv_aload_n hx hb d_Tk_behindBlank_41 rfl (lv_at hl 1 rfl) ?_
            refine lv_iload_n hx hb d_Tk_behindBlank_42 rfl (lv_at hl 2 rfl) ?_
            refine lv_iconst (v := (1 : Int32)) hx hb d_Tk_behindBlank_43 (by decide) ?_
            refine lv_iadd hx hb d_Tk_behindBlank_44 ?_
            obtain ⟨o23, ho23⟩ : ∃ z, f_By_at p1_row p1_length (a2 + (1 : Int32)) = some z := by
              cases hz : f_By_at p1_row p1_length (a2 + (1 : Int32)) with
              | none => rw [hz] at hf; simp only [jb_none, jl_b_none, jm_none, reduceCtorEq] at hf
              | some z => exact ⟨z, rfl⟩
            rw [ho23, jb_some] at hf
            refine jCallV (As := [.int (a2 + (1 : Int32))]) (rest := []) (wr := []) ⟨hx, hb, hml, hown, hts⟩ hJ (c_By_at h_p1 h_p1_row p1_row p1_length p1_overrun (a2 + (1 : Int32)) ho23) (cwV 1 hts (jgV jw84 jw54 jw55 jw33 jw53) rfl rfl rfl dd_By_at ⟨Nat.le_of_ble_eq_true rfl, Nat.le_of_ble_eq_true rfl⟩) hP hD hS hA (va_recv hK hP (ci := 0) (q0 := 0) rfl rfl) [0, 1] [] rfl rfl (by decide) (by decide) (by decide) rfl hl.1 rfl (Nat.le_of_ble_eq_true rfl) d_Tk_behindBlank_45 ⟨Nat.le_of_ble_eq_true rfl, Nat.le_of_ble_eq_true rfl⟩ (fun qz24 H locs hP hD hS => ?_)
            have hP : va_P (dC, dI) vwCl [(h_p1, .inr (0, [.ref h_p1_row, .int p1_length, .int p1_overrun])), (h_p1_row, .inl (cB, 8000, .inl p1_row))] H := hP
            have hD : va_D A [(h_p1, .inr (0, [.ref h_p1_row, .int p1_length, .int p1_overrun])), (h_p1_row, .inl (cB, 8000, .inl p1_row))] := hD
            refine lv_bipush (v := (45 : Int32)) hx hb d_Tk_behindBlank_48 (by decide) ?_
            refine lv_icmp_ne (tgt := 57) hx hb d_Tk_behindBlank_50 (by decide) (fun c50 => ?_) (fun c50 => ?_)
            · rw [if_neg c50] at hf
              exact B57 a2 a3 o21 H locs ls hf hP hD hS (lv_sub hl [1, 2, 3, 0] rfl)
            · rw [if_pos c50] at hf
              refine lv_iconst (v := (1 : Int32)) hx hb d_Tk_behindBlank_53 (by decide) ?_
              refine lv_goto (tgt := 58) hx hb d_Tk_behindBlank_54 (by decide) ?_
              exact B58 a2 a3 o21 (1 : Int32) H locs ls hf hP hD hS (lv_sub hl [1, 2, 3, 0] rfl)
        · rw [if_pos c27] at hf
          exact B30 a2 H locs ls hf hP hD hS (lv_sub hl [2] rfl)
theorem d_Tk_behindBlanks_0 : decode b_Tk_behindBlanks 0 = .ok (.iload_n 1, 1) := by decide +kernel
theorem d_Tk_behindBlanks_1 : decode b_Tk_behindBlanks 1 = .ok (.istore_n 3, 1) := by decide +kernel
theorem d_Tk_behindBlanks_2 : decode b_Tk_behindBlanks 2 = .ok (.iconst 0, 1) := by decide +kernel
theorem d_Tk_behindBlanks_3 : decode b_Tk_behindBlanks 3 = .ok (.istore 4, 2) := by decide +kernel
theorem d_Tk_behindBlanks_5 : decode b_Tk_behindBlanks 5 = .ok (.iload 4, 2) := by decide +kernel
theorem d_Tk_behindBlanks_7 : decode b_Tk_behindBlanks 7 = .ok (.sipush 8000, 3) := by decide +kernel
theorem d_Tk_behindBlanks_10 : decode b_Tk_behindBlanks 10 = .ok (.if_icmp .ge 33, 3) := by decide +kernel
theorem d_Tk_behindBlanks_13 : decode b_Tk_behindBlanks 13 = .ok (.iload_n 3, 1) := by decide +kernel
theorem d_Tk_behindBlanks_14 : decode b_Tk_behindBlanks 14 = .ok (.iload_n 2, 1) := by decide +kernel
theorem d_Tk_behindBlanks_15 : decode b_Tk_behindBlanks 15 = .ok (.if_icmp .ge 28, 3) := by decide +kernel
theorem d_Tk_behindBlanks_18 : decode b_Tk_behindBlanks 18 = .ok (.aload_n 0, 1) := by decide +kernel
theorem d_Tk_behindBlanks_19 : decode b_Tk_behindBlanks 19 = .ok (.iload_n 3, 1) := by decide +kernel
theorem d_Tk_behindBlanks_20 : decode b_Tk_behindBlanks 20 = .ok (.iload_n 2, 1) := by decide +kernel
theorem d_Tk_behindBlanks_21 : decode b_Tk_behindBlanks 21 = .ok (.invokestatic 50, 3) := by decide +kernel
theorem d_Tk_behindBlanks_24 : decode b_Tk_behindBlanks 24 = .ok (.istore 5, 2) := by decide +kernel
theorem d_Tk_behindBlanks_26 : decode b_Tk_behindBlanks 26 = .ok (.iload 5, 2) := by decide +kernel
theorem d_Tk_behindBlanks_28 : decode b_Tk_behindBlanks 28 = .ok (.iload_n 3, 1) := by decide +kernel
theorem d_Tk_behindBlanks_29 : decode b_Tk_behindBlanks 29 = .ok (.if_icmp .ne 5, 3) := by decide +kernel
theorem d_Tk_behindBlanks_32 : decode b_Tk_behindBlanks 32 = .ok (.iload_n 3, 1) := by decide +kernel
theorem d_Tk_behindBlanks_33 : decode b_Tk_behindBlanks 33 = .ok (.ireturn, 1) := by decide +kernel
theorem d_Tk_behindBlanks_34 : decode b_Tk_behindBlanks 34 = .ok (.iload 5, 2) := by decide +kernel
theorem d_Tk_behindBlanks_36 : decode b_Tk_behindBlanks 36 = .ok (.istore_n 3, 1) := by decide +kernel
theorem d_Tk_behindBlanks_37 : decode b_Tk_behindBlanks 37 = .ok (.iinc 4 1, 3) := by decide +kernel
theorem d_Tk_behindBlanks_40 : decode b_Tk_behindBlanks 40 = .ok (.goto (-35), 3) := by decide +kernel
theorem d_Tk_behindBlanks_43 : decode b_Tk_behindBlanks 43 = .ok (.iload_n 3, 1) := by decide +kernel
theorem d_Tk_behindBlanks_44 : decode b_Tk_behindBlanks 44 = .ok (.ireturn, 1) := by decide +kernel
noncomputable def Tk_behindBlanks_b5_s (p1_row : (Nat → Int32)) (p1_length : Int32) (l2 : Int32) (l3 : Int32) (l4 : Int32) : Option ((Int32 × Int32) ⊕ Int32) := if (8000 : Int32) ≤ l4 then (some (.inr l3)) else (if l2 ≤ l3 then (some (.inr l3)) else (jb (f_Tk_behindBlank p1_row p1_length l3 l2) (fun o3 => if o3 = l3 then (some (.inr l3)) else (some (.inl (o3, (l4 + (1 : Int32))))))))
noncomputable def Tk_behindBlanks_b5_b (p1_row : (Nat → Int32)) (p1_length : Int32) (l2 : Int32) : (Int32 × Int32) → Option ((Int32 × Int32) ⊕ Int32) := fun x => Tk_behindBlanks_b5_s p1_row p1_length l2 x.1 x.2
noncomputable def Tk_behindBlanks_b5 (p1_row : (Nat → Int32)) (p1_length : Int32) (l2 : Int32) (l3 : Int32) (l4 : Int32) : Option Int32 := jl (Tk_behindBlanks_b5_b p1_row p1_length l2) (l3, l4)
noncomputable def f_Tk_behindBlanks (p1_row : (Nat → Int32)) (p1_length : Int32)  (a2 : Int32) (a3 : Int32) : Option Int32 := Tk_behindBlanks_b5 p1_row p1_length a3 a2 (0 : Int32)
set_option maxHeartbeats 4000000 in
set_option maxRecDepth 100000 in
theorem c_Tk_behindBlanks {l : Launch} {dC : Nat → ClassId} {dI : Nat → Nat → Nat} {cI cB cS : ClassId} {adK adV adR : Nat → Nat} (h_p1 h_p1_row : Nat) (p1_row : (Nat → Int32)) (p1_length : Int32) (p1_overrun : Int32) (a2 : Int32) (a3 : Int32) {o : Int32} (hf : f_Tk_behindBlanks p1_row p1_length a2 a3 = some o) : jMet l dC dI cI cB cS adK adV adR y_Tk_behindBlanks wd_Tk_behindBlanks { frames := 3, cells := 0, slots := 0, locals := 73 } [.ref h_p1, .int a2, .int a3] [(h_p1, .inr (0, [.ref h_p1_row, .int p1_length, .int p1_overrun])), (h_p1_row, .inl (cB, 8000, .inl p1_row))] (some (.int o)) (fun q => [(h_p1, .inr (0, [.ref h_p1_row, .int p1_length, .int p1_overrun])), (h_p1_row, .inl (cB, 8000, .inl p1_row))]) 0 0 := by
  refine jEntry (cc := b_Tk_behindBlanks) (maxL := 6) (ret := (some .int)) (by decide) rfl (Nat.le_of_ble_eq_true rfl) rfl (fun p e s m args below meth c A H locs ls Q hQ hx hb hr hml hown hts hlocks hnm hJ hA hP hD hS hl => ?_)
  have hK := hJ.K
  have hl : lv_has ls 6 [(0, .ref h_p1), (1, .int a2), (2, .int a3)] := hl
  have L5 : ∀ (n5 : Nat) (l2 : Int32) (l3 : Int32) (l4 : Int32) (H : Heap) (locs : List Loc) (ls : Array Slot), jl_n (Tk_behindBlanks_b5_b p1_row p1_length l2) n5 (l3, l4) = some o → va_P (dC, dI) vwCl [(h_p1, .inr (0, [.ref h_p1_row, .int p1_length, .int p1_overrun])), (h_p1_row, .inl (cB, 8000, .inl p1_row))] H → va_D A [(h_p1, .inr (0, [.ref h_p1_row, .int p1_length, .int p1_overrun])), (h_p1_row, .inl (cB, 8000, .inl p1_row))] → va_S A s.heap H locs → lv_has ls 6 [(0, .ref h_p1), (2, .int l2), (3, .int l3), (4, .int l4)] → W p l e { frames := 3, cells := 0, slots := 0, locals := 73 } s m args below meth c H locs 0 0 Q (F0 m 5 ls []) := by
    intro n5
    induction n5 with
    | zero => intro l2 l3 l4 H locs ls hf; simp only [jl_n_zero, jl_b_none, reduceCtorEq] at hf
    | succ n5 ih5 =>
      intro l2 l3 l4 H locs ls hf hP hD hS hl
      rw [jl_n_succ] at hf
      have hf : jl_b (jl_n (Tk_behindBlanks_b5_b p1_row p1_length l2) n5) (Tk_behindBlanks_b5_s p1_row p1_length l2 l3 l4) = some o := hf
      unfold Tk_behindBlanks_b5_s at hf
      refine lv_iload hx hb d_Tk_behindBlanks_5 (lv_at hl 3 rfl) ?_
      refine lv_sipush (v := (8000 : Int32)) hx hb d_Tk_behindBlanks_7 (by decide) ?_
      refine lv_icmp_ge (tgt := 43) hx hb d_Tk_behindBlanks_10 (by decide) (fun c10 => ?_) (fun c10 => ?_)
      · rw [if_pos c10] at hf
        refine lv_iload_n hx hb d_Tk_behindBlanks_43 rfl (lv_at hl 2 rfl) ?_
        have hf : (some l3 : Option Int32) = some o := hf
        rw [hQ, ← Option.some.inj hf]
        exact jIret hx hb hr hlocks d_Tk_behindBlanks_44 (fun _ => 0) hS hP hD
      · rw [if_neg c10] at hf
        refine lv_iload_n hx hb d_Tk_behindBlanks_13 rfl (lv_at hl 2 rfl) ?_
        refine lv_iload_n hx hb d_Tk_behindBlanks_14 rfl (lv_at hl 1 rfl) ?_
        refine lv_icmp_ge (tgt := 43) hx hb d_Tk_behindBlanks_15 (by decide) (fun c15 => ?_) (fun c15 => ?_)
        · rw [if_pos c15] at hf
          refine lv_iload_n hx hb d_Tk_behindBlanks_43 rfl (lv_at hl 2 rfl) ?_
          have hf : (some l3 : Option Int32) = some o := hf
          rw [hQ, ← Option.some.inj hf]
          exact jIret hx hb hr hlocks d_Tk_behindBlanks_44 (fun _ => 0) hS hP hD
        · rw [if_neg c15] at hf
          refine lv_aload_n hx hb d_Tk_behindBlanks_18 rfl (lv_at hl 0 rfl) ?_
          refine lv_iload_n hx hb d_Tk_behindBlanks_19 rfl (lv_at hl 2 rfl) ?_
          refine lv_iload_n hx hb d_Tk_behindBlanks_20 rfl (lv_at hl 1 rfl) ?_
          obtain ⟨o5, ho5⟩ : ∃ z, f_Tk_behindBlank p1_row p1_length l3 l2 = some z := by
            cases hz : f_Tk_behindBlank p1_row p1_length l3 l2 with
            | none => rw [hz] at hf; simp only [jb_none, jl_b_none, jm_none, reduceCtorEq] at hf
            | some z => exact ⟨z, rfl⟩
          rw [ho5, jb_some] at hf
          refine jCallS (As := [.ref h_p1, .int l3, .int l2]) (rest := []) (wr := []) ⟨hx, hb, hml, hown, hts⟩ hJ (c_Tk_behindBlank h_p1 h_p1_row p1_row p1_length p1_overrun l3 l2 ho5) (va_cwS 3 hts (jgS jw125 jw127 jw79 jw126) rfl rfl rfl dd_Tk_behindBlank.2 ⟨Nat.le_of_ble_eq_true rfl, Nat.le_of_ble_eq_true rfl⟩) hP hD hS hA [0, 1] [] rfl rfl (by decide) (by decide) (by decide) rfl hl.1 rfl (Nat.le_of_ble_eq_true rfl) d_Tk_behindBlanks_21 ⟨Nat.le_of_ble_eq_true rfl, Nat.le_of_ble_eq_true rfl⟩ (fun qz6 H locs hP hD hS => ?_)
          have hP : va_P (dC, dI) vwCl [(h_p1, .inr (0, [.ref h_p1_row, .int p1_length, .int p1_overrun])), (h_p1_row, .inl (cB, 8000, .inl p1_row))] H := hP
          have hD : va_D A [(h_p1, .inr (0, [.ref h_p1_row, .int p1_length, .int p1_overrun])), (h_p1_row, .inl (cB, 8000, .inl p1_row))] := hD
          refine lv_istore (lv' := [(5, .int o5), (0, .ref h_p1), (2, .int l2), (3, .int l3), (4, .int l4)]) hx hb d_Tk_behindBlanks_24 hl (by decide) rfl (fun ls hl => ?_)
          refine lv_iload hx hb d_Tk_behindBlanks_26 (lv_at hl 0 rfl) ?_
          refine lv_iload_n hx hb d_Tk_behindBlanks_28 rfl (lv_at hl 3 rfl) ?_
          refine lv_icmp_ne (tgt := 34) hx hb d_Tk_behindBlanks_29 (by decide) (fun c29 => ?_) (fun c29 => ?_)
          · rw [if_neg c29] at hf
            refine lv_iload hx hb d_Tk_behindBlanks_34 (lv_at hl 0 rfl) ?_
            refine lv_istore_n (lv' := [(3, .int o5), (5, .int o5), (0, .ref h_p1), (2, .int l2), (4, .int l4)]) hx hb d_Tk_behindBlanks_36 rfl hl (by decide) rfl (fun ls hl => ?_)
            refine lv_iinc (v := l4 + (1 : Int32)) (lv' := [(4, .int (l4 + (1 : Int32))), (3, .int o5), (5, .int o5), (0, .ref h_p1), (2, .int l2)]) hx hb d_Tk_behindBlanks_37 hl (k := 4) rfl rfl (by decide) rfl (fun ls hl => ?_)
            refine lv_goto (tgt := 5) hx hb d_Tk_behindBlanks_40 (by decide) ?_
            exact ih5 l2 o5 (l4 + (1 : Int32)) H locs ls hf hP hD hS (lv_sub hl [3, 4, 1, 0] rfl)
          · rw [if_pos c29] at hf
            refine lv_iload_n hx hb d_Tk_behindBlanks_32 rfl (lv_at hl 3 rfl) ?_
            have hf : (some l3 : Option Int32) = some o := hf
            rw [hQ, ← Option.some.inj hf]
            exact jIret hx hb hr hlocks d_Tk_behindBlanks_33 (fun _ => 0) hS hP hD
  unfold f_Tk_behindBlanks at hf
  refine lv_iload_n hx hb d_Tk_behindBlanks_0 rfl (lv_at hl 1 rfl) ?_
  refine lv_istore_n (lv' := [(3, .int a2), (0, .ref h_p1), (1, .int a2), (2, .int a3)]) hx hb d_Tk_behindBlanks_1 rfl hl (by decide) rfl (fun ls hl => ?_)
  refine lv_iconst (v := (0 : Int32)) hx hb d_Tk_behindBlanks_2 (by decide) ?_
  refine lv_istore (lv' := [(4, .int (0 : Int32)), (3, .int a2), (0, .ref h_p1), (1, .int a2), (2, .int a3)]) hx hb d_Tk_behindBlanks_3 hl (by decide) rfl (fun ls hl => ?_)
  unfold Tk_behindBlanks_b5 at hf
  obtain ⟨nn, en⟩ := jl_ex (Tk_behindBlanks_b5_b p1_row p1_length a3) (a2, (0 : Int32))
  rw [en] at hf
  exact L5 nn a3 a2 (0 : Int32) H locs ls hf hP hD hS (lv_sub hl [2, 4, 1, 0] rfl)
theorem d_Tk_scan_0 : decode b_Tk_scan 0 = .ok (.aload_n 0, 1) := by decide +kernel
theorem d_Tk_scan_1 : decode b_Tk_scan 1 = .ok (.iconst 0, 1) := by decide +kernel
theorem d_Tk_scan_2 : decode b_Tk_scan 2 = .ok (.putfield 21, 3) := by decide +kernel
theorem d_Tk_scan_5 : decode b_Tk_scan 5 = .ok (.aload_n 0, 1) := by decide +kernel
theorem d_Tk_scan_6 : decode b_Tk_scan 6 = .ok (.iconst 0, 1) := by decide +kernel
theorem d_Tk_scan_7 : decode b_Tk_scan 7 = .ok (.putfield 25, 3) := by decide +kernel
theorem d_Tk_scan_10 : decode b_Tk_scan 10 = .ok (.iconst 0, 1) := by decide +kernel
theorem d_Tk_scan_11 : decode b_Tk_scan 11 = .ok (.istore_n 3, 1) := by decide +kernel
theorem d_Tk_scan_12 : decode b_Tk_scan 12 = .ok (.iconst 1, 1) := by decide +kernel
theorem d_Tk_scan_13 : decode b_Tk_scan 13 = .ok (.istore 4, 2) := by decide +kernel
theorem d_Tk_scan_15 : decode b_Tk_scan 15 = .ok (.iconst 0, 1) := by decide +kernel
theorem d_Tk_scan_16 : decode b_Tk_scan 16 = .ok (.istore 5, 2) := by decide +kernel
theorem d_Tk_scan_18 : decode b_Tk_scan 18 = .ok (.iload 5, 2) := by decide +kernel
theorem d_Tk_scan_20 : decode b_Tk_scan 20 = .ok (.sipush 8001, 3) := by decide +kernel
theorem d_Tk_scan_23 : decode b_Tk_scan 23 = .ok (.if_icmp .ge 91, 3) := by decide +kernel
theorem d_Tk_scan_26 : decode b_Tk_scan 26 = .ok (.iload 4, 2) := by decide +kernel
theorem d_Tk_scan_28 : decode b_Tk_scan 28 = .ok (.ifCond .eq 86, 3) := by decide +kernel
theorem d_Tk_scan_31 : decode b_Tk_scan 31 = .ok (.aload_n 1, 1) := by decide +kernel
theorem d_Tk_scan_32 : decode b_Tk_scan 32 = .ok (.iload_n 3, 1) := by decide +kernel
theorem d_Tk_scan_33 : decode b_Tk_scan 33 = .ok (.iload_n 2, 1) := by decide +kernel
theorem d_Tk_scan_34 : decode b_Tk_scan 34 = .ok (.invokestatic 30, 3) := by decide +kernel
theorem d_Tk_scan_37 : decode b_Tk_scan 37 = .ok (.istore_n 3, 1) := by decide +kernel
theorem d_Tk_scan_38 : decode b_Tk_scan 38 = .ok (.iload_n 3, 1) := by decide +kernel
theorem d_Tk_scan_39 : decode b_Tk_scan 39 = .ok (.iload_n 2, 1) := by decide +kernel
theorem d_Tk_scan_40 : decode b_Tk_scan 40 = .ok (.if_icmp .ge 11, 3) := by decide +kernel
theorem d_Tk_scan_43 : decode b_Tk_scan 43 = .ok (.aload_n 1, 1) := by decide +kernel
theorem d_Tk_scan_44 : decode b_Tk_scan 44 = .ok (.iload_n 3, 1) := by decide +kernel
theorem d_Tk_scan_45 : decode b_Tk_scan 45 = .ok (.invokevirtual 34, 3) := by decide +kernel
theorem d_Tk_scan_48 : decode b_Tk_scan 48 = .ok (.goto 4, 3) := by decide +kernel
theorem d_Tk_scan_51 : decode b_Tk_scan 51 = .ok (.iconst (-1), 1) := by decide +kernel
theorem d_Tk_scan_52 : decode b_Tk_scan 52 = .ok (.istore 6, 2) := by decide +kernel
theorem d_Tk_scan_54 : decode b_Tk_scan 54 = .ok (.iload 6, 2) := by decide +kernel
theorem d_Tk_scan_56 : decode b_Tk_scan 56 = .ok (.invokestatic 40, 3) := by decide +kernel
theorem d_Tk_scan_59 : decode b_Tk_scan 59 = .ok (.ifCond .eq 13, 3) := by decide +kernel
theorem d_Tk_scan_62 : decode b_Tk_scan 62 = .ok (.aload_n 0, 1) := by decide +kernel
theorem d_Tk_scan_63 : decode b_Tk_scan 63 = .ok (.aload_n 1, 1) := by decide +kernel
theorem d_Tk_scan_64 : decode b_Tk_scan 64 = .ok (.iload_n 3, 1) := by decide +kernel
theorem d_Tk_scan_65 : decode b_Tk_scan 65 = .ok (.iload_n 2, 1) := by decide +kernel
theorem d_Tk_scan_66 : decode b_Tk_scan 66 = .ok (.invokevirtual 44, 3) := by decide +kernel
theorem d_Tk_scan_69 : decode b_Tk_scan 69 = .ok (.goto 10, 3) := by decide +kernel
theorem d_Tk_scan_72 : decode b_Tk_scan 72 = .ok (.aload_n 0, 1) := by decide +kernel
theorem d_Tk_scan_73 : decode b_Tk_scan 73 = .ok (.aload_n 1, 1) := by decide +kernel
theorem d_Tk_scan_74 : decode b_Tk_scan 74 = .ok (.iload_n 3, 1) := by decide +kernel
theorem d_Tk_scan_75 : decode b_Tk_scan 75 = .ok (.iload_n 2, 1) := by decide +kernel
theorem d_Tk_scan_76 : decode b_Tk_scan 76 = .ok (.invokevirtual 47, 3) := by decide +kernel
theorem d_Tk_scan_79 : decode b_Tk_scan 79 = .ok (.istore_n 3, 1) := by decide +kernel
theorem d_Tk_scan_80 : decode b_Tk_scan 80 = .ok (.aload_n 0, 1) := by decide +kernel
theorem d_Tk_scan_81 : decode b_Tk_scan 81 = .ok (.getfield 9, 3) := by decide +kernel
theorem d_Tk_scan_84 : decode b_Tk_scan 84 = .ok (.iload 5, 2) := by decide +kernel
theorem d_Tk_scan_86 : decode b_Tk_scan 86 = .ok (.iaload, 1) := by decide +kernel
theorem d_Tk_scan_87 : decode b_Tk_scan 87 = .ok (.ifCond .eq 18, 3) := by decide +kernel
theorem d_Tk_scan_90 : decode b_Tk_scan 90 = .ok (.aload_n 0, 1) := by decide +kernel
theorem d_Tk_scan_91 : decode b_Tk_scan 91 = .ok (.getfield 9, 3) := by decide +kernel
theorem d_Tk_scan_94 : decode b_Tk_scan 94 = .ok (.iload 5, 2) := by decide +kernel
theorem d_Tk_scan_96 : decode b_Tk_scan 96 = .ok (.iaload, 1) := by decide +kernel
theorem d_Tk_scan_97 : decode b_Tk_scan 97 = .ok (.iconst 1, 1) := by decide +kernel
theorem d_Tk_scan_98 : decode b_Tk_scan 98 = .ok (.if_icmp .eq 7, 3) := by decide +kernel
theorem d_Tk_scan_101 : decode b_Tk_scan 101 = .ok (.iconst 1, 1) := by decide +kernel
theorem d_Tk_scan_102 : decode b_Tk_scan 102 = .ok (.goto 4, 3) := by decide +kernel
theorem d_Tk_scan_105 : decode b_Tk_scan 105 = .ok (.iconst 0, 1) := by decide +kernel
theorem d_Tk_scan_106 : decode b_Tk_scan 106 = .ok (.istore 4, 2) := by decide +kernel
theorem d_Tk_scan_108 : decode b_Tk_scan 108 = .ok (.iinc 5 1, 3) := by decide +kernel
theorem d_Tk_scan_111 : decode b_Tk_scan 111 = .ok (.goto (-93), 3) := by decide +kernel
theorem d_Tk_scan_114 : decode b_Tk_scan 114 = .ok (.return_, 1) := by decide +kernel
noncomputable def Tk_scan_b106 (p1_row : (Nat → Int32)) (p1_length : Int32) (t_kinds : (Nat → Int32)) (t_places : (Nat → Int32)) (t_values : (Nat → Int32)) (t_count : Int32) (t_next : Int32) (l2 : Int32) (l3 : Int32) (l5 : Int32) (s0 : Int32) : Option (((Nat → Int32) × (Nat → Int32) × (Nat → Int32) × Int32 × Int32 × Int32 × Int32) ⊕ ((Nat → Int32) × (Nat → Int32) × (Nat → Int32) × Int32 × Int32)) := some (.inl (t_kinds, t_places, t_values, t_count, l3, s0, (l5 + (1 : Int32))))
noncomputable def Tk_scan_b105 (p1_row : (Nat → Int32)) (p1_length : Int32) (t_kinds : (Nat → Int32)) (t_places : (Nat → Int32)) (t_values : (Nat → Int32)) (t_count : Int32) (t_next : Int32) (l2 : Int32) (l3 : Int32) (l5 : Int32) : Option (((Nat → Int32) × (Nat → Int32) × (Nat → Int32) × Int32 × Int32 × Int32 × Int32) ⊕ ((Nat → Int32) × (Nat → Int32) × (Nat → Int32) × Int32 × Int32)) := Tk_scan_b106 p1_row p1_length t_kinds t_places t_values t_count t_next l2 l3 l5 (0 : Int32)
noncomputable def Tk_scan_b79 (p1_row : (Nat → Int32)) (p1_length : Int32) (t_kinds : (Nat → Int32)) (t_places : (Nat → Int32)) (t_values : (Nat → Int32)) (t_count : Int32) (t_next : Int32) (l2 : Int32) (l5 : Int32) (s0 : Int32) : Option (((Nat → Int32) × (Nat → Int32) × (Nat → Int32) × Int32 × Int32 × Int32 × Int32) ⊕ ((Nat → Int32) × (Nat → Int32) × (Nat → Int32) × Int32 × Int32)) := if l5 < 0 ∨ 8001 ≤ l5.toNatClampNeg then none else (if (t_kinds l5.toNatClampNeg) = 0 then (Tk_scan_b105 p1_row p1_length t_kinds t_places t_values t_count t_next l2 s0 l5) else (if l5 < 0 ∨ 8001 ≤ l5.toNatClampNeg then none else (if (t_kinds l5.toNatClampNeg) = (1 : Int32) then (Tk_scan_b105 p1_row p1_length t_kinds t_places t_values t_count t_next l2 s0 l5) else (Tk_scan_b106 p1_row p1_length t_kinds t_places t_values t_count t_next l2 s0 l5 (1 : Int32)))))
noncomputable def Tk_scan_b52 (p1_row : (Nat → Int32)) (p1_length : Int32) (t_kinds : (Nat → Int32)) (t_places : (Nat → Int32)) (t_values : (Nat → Int32)) (t_count : Int32) (t_next : Int32) (l2 : Int32) (l3 : Int32) (l5 : Int32) (s0 : Int32) : Option (((Nat → Int32) × (Nat → Int32) × (Nat → Int32) × Int32 × Int32 × Int32 × Int32) ⊕ ((Nat → Int32) × (Nat → Int32) × (Nat → Int32) × Int32 × Int32)) := jb (f_Tk_isLetter s0) (fun o11 => if o11 = 0 then (jb (f_Tk_scanSign p1_row p1_length t_kinds t_places t_values t_count l3 l2) (fun o13 => Tk_scan_b79 p1_row p1_length o13.2.1 o13.2.2.1 o13.2.2.2.1 o13.2.2.2.2 t_next l2 l5 o13.1)) else (jb (f_Tk_scanWord p1_row p1_length t_kinds t_places t_values t_count l3 l2) (fun o15 => Tk_scan_b79 p1_row p1_length o15.2.1 o15.2.2.1 o15.2.2.2.1 o15.2.2.2.2 t_next l2 l5 o15.1)))
noncomputable def Tk_scan_b18_s (p1_row : (Nat → Int32)) (p1_length : Int32) (t_next : Int32) (l2 : Int32) (t_kinds : (Nat → Int32)) (t_places : (Nat → Int32)) (t_values : (Nat → Int32)) (t_count : Int32) (l3 : Int32) (l4 : Int32) (l5 : Int32) : Option (((Nat → Int32) × (Nat → Int32) × (Nat → Int32) × Int32 × Int32 × Int32 × Int32) ⊕ ((Nat → Int32) × (Nat → Int32) × (Nat → Int32) × Int32 × Int32)) := if (8001 : Int32) ≤ l5 then (some (.inr (t_kinds, t_places, t_values, t_count, t_next))) else (if l4 = 0 then (some (.inr (t_kinds, t_places, t_values, t_count, t_next))) else (jb (f_Tk_behindBlanks p1_row p1_length l3 l2) (fun o17 => if l2 ≤ o17 then (Tk_scan_b52 p1_row p1_length t_kinds t_places t_values t_count t_next l2 o17 l5 (-1 : Int32)) else (jb (f_By_at p1_row p1_length o17) (fun o19 => Tk_scan_b52 p1_row p1_length t_kinds t_places t_values t_count t_next l2 o17 l5 o19)))))
noncomputable def Tk_scan_b18_b (p1_row : (Nat → Int32)) (p1_length : Int32) (t_next : Int32) (l2 : Int32) : ((Nat → Int32) × (Nat → Int32) × (Nat → Int32) × Int32 × Int32 × Int32 × Int32) → Option (((Nat → Int32) × (Nat → Int32) × (Nat → Int32) × Int32 × Int32 × Int32 × Int32) ⊕ ((Nat → Int32) × (Nat → Int32) × (Nat → Int32) × Int32 × Int32)) := fun x => Tk_scan_b18_s p1_row p1_length t_next l2 x.1 x.2.1 x.2.2.1 x.2.2.2.1 x.2.2.2.2.1 x.2.2.2.2.2.1 x.2.2.2.2.2.2
noncomputable def Tk_scan_b18 (p1_row : (Nat → Int32)) (p1_length : Int32) (t_kinds : (Nat → Int32)) (t_places : (Nat → Int32)) (t_values : (Nat → Int32)) (t_count : Int32) (t_next : Int32) (l2 : Int32) (l3 : Int32) (l4 : Int32) (l5 : Int32) : Option ((Nat → Int32) × (Nat → Int32) × (Nat → Int32) × Int32 × Int32) := jl (Tk_scan_b18_b p1_row p1_length t_next l2) (t_kinds, t_places, t_values, t_count, l3, l4, l5)
noncomputable def f_Tk_scan (p1_row : (Nat → Int32)) (p1_length : Int32) (t_kinds : (Nat → Int32)) (t_places : (Nat → Int32)) (t_values : (Nat → Int32)) (t_count : Int32) (t_next : Int32) (a2 : Int32) : Option ((Nat → Int32) × (Nat → Int32) × (Nat → Int32) × Int32 × Int32) := Tk_scan_b18 p1_row p1_length t_kinds t_places t_values (0 : Int32) (0 : Int32) a2 (0 : Int32) (1 : Int32) (0 : Int32)
set_option maxHeartbeats 4000000 in
set_option maxRecDepth 100000 in
theorem c_Tk_scan {l : Launch} {dC : Nat → ClassId} {dI : Nat → Nat → Nat} {cI cB cS : ClassId} {adK adV adR : Nat → Nat} (h_t h_t_kinds h_t_places h_t_values h_p1 h_p1_row : Nat) (t_kinds : (Nat → Int32)) (t_places : (Nat → Int32)) (t_values : (Nat → Int32)) (t_count : Int32) (t_next : Int32) (p1_row : (Nat → Int32)) (p1_length : Int32) (p1_overrun : Int32) (a2 : Int32) {o : ((Nat → Int32) × (Nat → Int32) × (Nat → Int32) × Int32 × Int32)} (hf : f_Tk_scan p1_row p1_length t_kinds t_places t_values t_count t_next a2 = some o) : jMet l dC dI cI cB cS adK adV adR y_Tk_scan wd_Tk_scan { frames := 7, cells := 0, slots := 0, locals := 159 } [.ref h_t, .ref h_p1, .int a2] [(h_t, .inr (4, [.ref h_t_kinds, .ref h_t_places, .ref h_t_values, .int t_count, .int t_next])), (h_t_kinds, .inl (cI, 8001, .inl t_kinds)), (h_t_places, .inl (cI, 8001, .inl t_places)), (h_t_values, .inl (cI, 8001, .inl t_values)), (h_p1, .inr (0, [.ref h_p1_row, .int p1_length, .int p1_overrun])), (h_p1_row, .inl (cB, 8000, .inl p1_row))] (none) (fun q => [(h_t, .inr (4, [.ref h_t_kinds, .ref h_t_places, .ref h_t_values, .int o.2.2.2.1, .int o.2.2.2.2])), (h_t_kinds, .inl (cI, 8001, .inl o.1)), (h_t_places, .inl (cI, 8001, .inl o.2.1)), (h_t_values, .inl (cI, 8001, .inl o.2.2.1)), (h_p1, .inr (0, [.ref h_p1_row, .int p1_length, .int p1_overrun])), (h_p1_row, .inl (cB, 8000, .inl p1_row))]) 0 0 := by
  refine jEntry (cc := b_Tk_scan) (maxL := 7) (ret := none) (by decide) rfl (Nat.le_of_ble_eq_true rfl) rfl (fun p e s m args below meth c A H locs ls Q hQ hx hb hr hml hown hts hlocks hnm hJ hA hP hD hS hl => ?_)
  have hK := hJ.K
  have hl : lv_has ls 7 [(0, .ref h_t), (1, .ref h_p1), (2, .int a2)] := hl
  have L18 : ∀ (n18 : Nat) (t_kinds : (Nat → Int32)) (t_places : (Nat → Int32)) (t_values : (Nat → Int32)) (t_count : Int32) (t_next : Int32) (l2 : Int32) (l3 : Int32) (l4 : Int32) (l5 : Int32) (H : Heap) (locs : List Loc) (ls : Array Slot), jl_n (Tk_scan_b18_b p1_row p1_length t_next l2) n18 (t_kinds, t_places, t_values, t_count, l3, l4, l5) = some o → va_P (dC, dI) vwCl [(h_t, .inr (4, [.ref h_t_kinds, .ref h_t_places, .ref h_t_values, .int t_count, .int t_next])), (h_t_kinds, .inl (cI, 8001, .inl t_kinds)), (h_t_places, .inl (cI, 8001, .inl t_places)), (h_t_values, .inl (cI, 8001, .inl t_values)), (h_p1, .inr (0, [.ref h_p1_row, .int p1_length, .int p1_overrun])), (h_p1_row, .inl (cB, 8000, .inl p1_row))] H → va_D A [(h_t, .inr (4, [.ref h_t_kinds, .ref h_t_places, .ref h_t_values, .int t_count, .int t_next])), (h_t_kinds, .inl (cI, 8001, .inl t_kinds)), (h_t_places, .inl (cI, 8001, .inl t_places)), (h_t_values, .inl (cI, 8001, .inl t_values)), (h_p1, .inr (0, [.ref h_p1_row, .int p1_length, .int p1_overrun])), (h_p1_row, .inl (cB, 8000, .inl p1_row))] → va_S A s.heap H locs → lv_has ls 7 [(0, .ref h_t), (1, .ref h_p1), (2, .int l2), (3, .int l3), (4, .int l4), (5, .int l5)] → W p l e { frames := 7, cells := 0, slots := 0, locals := 159 } s m args below meth c H locs 0 0 Q (F0 m 18 ls []) := by
    intro n18
    induction n18 with
    | zero => intro t_kinds t_places t_values t_count t_next l2 l3 l4 l5 H locs ls hf; simp only [jl_n_zero, jl_b_none, reduceCtorEq] at hf
    | succ n18 ih18 =>
      intro t_kinds t_places t_values t_count t_next l2 l3 l4 l5 H locs ls hf hP hD hS hl
      rw [jl_n_succ] at hf
      have hf : jl_b (jl_n (Tk_scan_b18_b p1_row p1_length t_next l2) n18) (Tk_scan_b18_s p1_row p1_length t_next l2 t_kinds t_places t_values t_count l3 l4 l5) = some o := hf
      have B106 : ∀ (t_kinds : (Nat → Int32)) (t_places : (Nat → Int32)) (t_values : (Nat → Int32)) (t_count : Int32) (l3 : Int32) (l5 : Int32) (s0 : Int32) (H : Heap) (locs : List Loc) (ls : Array Slot), jl_b (jl_n (Tk_scan_b18_b p1_row p1_length t_next l2) n18) (Tk_scan_b106 p1_row p1_length t_kinds t_places t_values t_count t_next l2 l3 l5 s0) = some o → va_P (dC, dI) vwCl [(h_t, .inr (4, [.ref h_t_kinds, .ref h_t_places, .ref h_t_values, .int t_count, .int t_next])), (h_t_kinds, .inl (cI, 8001, .inl t_kinds)), (h_t_places, .inl (cI, 8001, .inl t_places)), (h_t_values, .inl (cI, 8001, .inl t_values)), (h_p1, .inr (0, [.ref h_p1_row, .int p1_length, .int p1_overrun])), (h_p1_row, .inl (cB, 8000, .inl p1_row))] H → va_D A [(h_t, .inr (4, [.ref h_t_kinds, .ref h_t_places, .ref h_t_values, .int t_count, .int t_next])), (h_t_kinds, .inl (cI, 8001, .inl t_kinds)), (h_t_places, .inl (cI, 8001, .inl t_places)), (h_t_values, .inl (cI, 8001, .inl t_values)), (h_p1, .inr (0, [.ref h_p1_row, .int p1_length, .int p1_overrun])), (h_p1_row, .inl (cB, 8000, .inl p1_row))] → va_S A s.heap H locs → lv_has ls 7 [(0, .ref h_t), (1, .ref h_p1), (2, .int l2), (3, .int l3), (5, .int l5)] → W p l e { frames := 7, cells := 0, slots := 0, locals := 159 } s m args below meth c H locs 0 0 Q (F0 m 106 ls [.int s0]) := by
        intro t_kinds t_places t_values t_count l3 l5 s0 H locs ls hf hP hD hS hl
        unfold Tk_scan_b106 at hf
        refine lv_istore (lv' := [(4, .int s0), (0, .ref h_t), (1, .ref h_p1), (2, .int l2), (3, .int l3), (5, .int l5)]) hx hb d_Tk_scan_106 hl (by decide) rfl (fun ls hl => ?_)
        refine lv_iinc (v := l5 + (1 : Int32)) (lv' := [(5, .int (l5 + (1 : Int32))), (4, .int s0), (0, .ref h_t), (1, .ref h_p1), (2, .int l2), (3, .int l3)]) hx hb d_Tk_scan_108 hl (k := 5) rfl rfl (by decide) rfl (fun ls hl => ?_)
        refine lv_goto (tgt := 18) hx hb d_Tk_scan_111 (by decide) ?_
        exact ih18 t_kinds t_places t_values t_count t_next l2 l3 s0 (l5 + (1 : Int32)) H locs ls hf hP hD hS (lv_sub hl [2, 3, 4, 5, 1, 0] rfl)
      have B105 : ∀ (t_kinds : (Nat → Int32)) (t_places : (Nat → Int32)) (t_values : (Nat → Int32)) (t_count : Int32) (l3 : Int32) (l5 : Int32) (H : Heap) (locs : List Loc) (ls : Array Slot), jl_b (jl_n (Tk_scan_b18_b p1_row p1_length t_next l2) n18) (Tk_scan_b105 p1_row p1_length t_kinds t_places t_values t_count t_next l2 l3 l5) = some o → va_P (dC, dI) vwCl [(h_t, .inr (4, [.ref h_t_kinds, .ref h_t_places, .ref h_t_values, .int t_count, .int t_next])), (h_t_kinds, .inl (cI, 8001, .inl t_kinds)), (h_t_places, .inl (cI, 8001, .inl t_places)), (h_t_values, .inl (cI, 8001, .inl t_values)), (h_p1, .inr (0, [.ref h_p1_row, .int p1_length, .int p1_overrun])), (h_p1_row, .inl (cB, 8000, .inl p1_row))] H → va_D A [(h_t, .inr (4, [.ref h_t_kinds, .ref h_t_places, .ref h_t_values, .int t_count, .int t_next])), (h_t_kinds, .inl (cI, 8001, .inl t_kinds)), (h_t_places, .inl (cI, 8001, .inl t_places)), (h_t_values, .inl (cI, 8001, .inl t_values)), (h_p1, .inr (0, [.ref h_p1_row, .int p1_length, .int p1_overrun])), (h_p1_row, .inl (cB, 8000, .inl p1_row))] → va_S A s.heap H locs → lv_has ls 7 [(0, .ref h_t), (1, .ref h_p1), (2, .int l2), (3, .int l3), (5, .int l5)] → W p l e { frames := 7, cells := 0, slots := 0, locals := 159 } s m args below meth c H locs 0 0 Q (F0 m 105 ls []) := by
        intro t_kinds t_places t_values t_count l3 l5 H locs ls hf hP hD hS hl
        unfold Tk_scan_b105 at hf
        refine lv_iconst (v := (0 : Int32)) hx hb d_Tk_scan_105 (by decide) ?_
        exact B106 t_kinds t_places t_values t_count l3 l5 (0 : Int32) H locs ls hf hP hD hS (lv_sub hl [0, 1, 2, 3, 4] rfl)
      have B79 : ∀ (t_kinds : (Nat → Int32)) (t_places : (Nat → Int32)) (t_values : (Nat → Int32)) (t_count : Int32) (l5 : Int32) (s0 : Int32) (H : Heap) (locs : List Loc) (ls : Array Slot), jl_b (jl_n (Tk_scan_b18_b p1_row p1_length t_next l2) n18) (Tk_scan_b79 p1_row p1_length t_kinds t_places t_values t_count t_next l2 l5 s0) = some o → va_P (dC, dI) vwCl [(h_t, .inr (4, [.ref h_t_kinds, .ref h_t_places, .ref h_t_values, .int t_count, .int t_next])), (h_t_kinds, .inl (cI, 8001, .inl t_kinds)), (h_t_places, .inl (cI, 8001, .inl t_places)), (h_t_values, .inl (cI, 8001, .inl t_values)), (h_p1, .inr (0, [.ref h_p1_row, .int p1_length, .int p1_overrun])), (h_p1_row, .inl (cB, 8000, .inl p1_row))] H → va_D A [(h_t, .inr (4, [.ref h_t_kinds, .ref h_t_places, .ref h_t_values, .int t_count, .int t_next])), (h_t_kinds, .inl (cI, 8001, .inl t_kinds)), (h_t_places, .inl (cI, 8001, .inl t_places)), (h_t_values, .inl (cI, 8001, .inl t_values)), (h_p1, .inr (0, [.ref h_p1_row, .int p1_length, .int p1_overrun])), (h_p1_row, .inl (cB, 8000, .inl p1_row))] → va_S A s.heap H locs → lv_has ls 7 [(0, .ref h_t), (1, .ref h_p1), (2, .int l2), (5, .int l5)] → W p l e { frames := 7, cells := 0, slots := 0, locals := 159 } s m args below meth c H locs 0 0 Q (F0 m 79 ls [.int s0]) := by
        intro t_kinds t_places t_values t_count l5 s0 H locs ls hf hP hD hS hl
        unfold Tk_scan_b79 at hf
        refine lv_istore_n (lv' := [(3, .int s0), (0, .ref h_t), (1, .ref h_p1), (2, .int l2), (5, .int l5)]) hx hb d_Tk_scan_79 rfl hl (by decide) rfl (fun ls hl => ?_)
        refine lv_aload_n hx hb d_Tk_scan_80 rfl (lv_at hl 1 rfl) ?_
        refine va_get (D := (dC, dI)) (ci := 4) (v := .ref h_t_kinds) (C := R_Tk) (T := T_Tk) (N := 5) hx hb hts (fun w h => List.mem_cons_of_mem _ (in_Tk w h)) hown hK hP 0 rfl rfl 0 (by decide) (hts _ (List.mem_cons_of_mem _ jw72)) (fun _ h9 => h9) rfl d_Tk_scan_81 ?_
        refine lv_iload hx hb d_Tk_scan_84 (lv_at hl 4 rfl) ?_
        have c86 : ¬ (l5 < 0 ∨ 8001 ≤ l5.toNatClampNeg) := by intro z; rw [if_pos z] at hf; simp only [jb_none, jl_b_none, jm_none, reduceCtorEq] at hf
        rw [if_neg c86] at hf
        refine va_iald hx hb hK hP 1 0 rfl rfl c86 d_Tk_scan_86 ?_
        refine lv_if_eq (tgt := 105) hx hb d_Tk_scan_87 (by decide) (fun c87 => ?_) (fun c87 => ?_)
        · rw [if_pos c87] at hf
          exact B105 t_kinds t_places t_values t_count s0 l5 H locs ls hf hP hD hS (lv_sub hl [1, 2, 3, 0, 4] rfl)
        · rw [if_neg c87] at hf
          refine lv_aload_n hx hb d_Tk_scan_90 rfl (lv_at hl 1 rfl) ?_
          refine va_get (D := (dC, dI)) (ci := 4) (v := .ref h_t_kinds) (C := R_Tk) (T := T_Tk) (N := 5) hx hb hts (fun w h => List.mem_cons_of_mem _ (in_Tk w h)) hown hK hP 0 rfl rfl 0 (by decide) (hts _ (List.mem_cons_of_mem _ jw72)) (fun _ h9 => h9) rfl d_Tk_scan_91 ?_
          refine lv_iload hx hb d_Tk_scan_94 (lv_at hl 4 rfl) ?_
          have c96 : ¬ (l5 < 0 ∨ 8001 ≤ l5.toNatClampNeg) := by intro z; rw [if_pos z] at hf; simp only [jb_none, jl_b_none, jm_none, reduceCtorEq] at hf
          rw [if_neg c96] at hf
          refine va_iald hx hb hK hP 1 0 rfl rfl c96 d_Tk_scan_96 ?_
          refine lv_iconst (v := (1 : Int32)) hx hb d_Tk_scan_97 (by decide) ?_
          refine lv_icmp_eq (tgt := 105) hx hb d_Tk_scan_98 (by decide) (fun c98 => ?_) (fun c98 => ?_)
          · rw [if_pos c98] at hf
            exact B105 t_kinds t_places t_values t_count s0 l5 H locs ls hf hP hD hS (lv_sub hl [1, 2, 3, 0, 4] rfl)
          · rw [if_neg c98] at hf
            refine lv_iconst (v := (1 : Int32)) hx hb d_Tk_scan_101 (by decide) ?_
            refine lv_goto (tgt := 106) hx hb d_Tk_scan_102 (by decide) ?_
            exact B106 t_kinds t_places t_values t_count s0 l5 (1 : Int32) H locs ls hf hP hD hS (lv_sub hl [1, 2, 3, 0, 4] rfl)
      have B52 : ∀ (t_kinds : (Nat → Int32)) (t_places : (Nat → Int32)) (t_values : (Nat → Int32)) (t_count : Int32) (l3 : Int32) (l5 : Int32) (s0 : Int32) (H : Heap) (locs : List Loc) (ls : Array Slot), jl_b (jl_n (Tk_scan_b18_b p1_row p1_length t_next l2) n18) (Tk_scan_b52 p1_row p1_length t_kinds t_places t_values t_count t_next l2 l3 l5 s0) = some o → va_P (dC, dI) vwCl [(h_t, .inr (4, [.ref h_t_kinds, .ref h_t_places, .ref h_t_values, .int t_count, .int t_next])), (h_t_kinds, .inl (cI, 8001, .inl t_kinds)), (h_t_places, .inl (cI, 8001, .inl t_places)), (h_t_values, .inl (cI, 8001, .inl t_values)), (h_p1, .inr (0, [.ref h_p1_row, .int p1_length, .int p1_overrun])), (h_p1_row, .inl (cB, 8000, .inl p1_row))] H → va_D A [(h_t, .inr (4, [.ref h_t_kinds, .ref h_t_places, .ref h_t_values, .int t_count, .int t_next])), (h_t_kinds, .inl (cI, 8001, .inl t_kinds)), (h_t_places, .inl (cI, 8001, .inl t_places)), (h_t_values, .inl (cI, 8001, .inl t_values)), (h_p1, .inr (0, [.ref h_p1_row, .int p1_length, .int p1_overrun])), (h_p1_row, .inl (cB, 8000, .inl p1_row))] → va_S A s.heap H locs → lv_has ls 7 [(0, .ref h_t), (1, .ref h_p1), (2, .int l2), (3, .int l3), (5, .int l5)] → W p l e { frames := 7, cells := 0, slots := 0, locals := 159 } s m args below meth c H locs 0 0 Q (F0 m 52 ls [.int s0]) := by
        intro t_kinds t_places t_values t_count l3 l5 s0 H locs ls hf hP hD hS hl
        unfold Tk_scan_b52 at hf
        refine lv_istore (lv' := [(6, .int s0), (0, .ref h_t), (1, .ref h_p1), (2, .int l2), (3, .int l3), (5, .int l5)]) hx hb d_Tk_scan_52 hl (by decide) rfl (fun ls hl => ?_)
        refine lv_iload hx hb d_Tk_scan_54 (lv_at hl 0 rfl) ?_
        obtain ⟨o21, ho21⟩ : ∃ z, f_Tk_isLetter s0 = some z := by
          cases hz : f_Tk_isLetter s0 with
          | none => rw [hz] at hf; simp only [jb_none, jl_b_none, jm_none, reduceCtorEq] at hf
          | some z => exact ⟨z, rfl⟩
        rw [ho21, jb_some] at hf
        refine jCallS (As := [.int s0]) (rest := []) (wr := [(h_t, .inr (4, [.ref h_t_kinds, .ref h_t_places, .ref h_t_values, .int t_count, .int t_next])), (h_t_kinds, .inl (cI, 8001, .inl t_kinds)), (h_t_places, .inl (cI, 8001, .inl t_places)), (h_t_values, .inl (cI, 8001, .inl t_values)), (h_p1, .inr (0, [.ref h_p1_row, .int p1_length, .int p1_overrun])), (h_p1_row, .inl (cB, 8000, .inl p1_row))]) ⟨hx, hb, hml, hown, hts⟩ hJ (c_Tk_isLetter s0 ho21) (va_cwS 1 hts (jgS jw77 jw80 jw79 jw78) rfl rfl rfl dd_Tk_isLetter.2 ⟨Nat.le_of_ble_eq_true rfl, Nat.le_of_ble_eq_true rfl⟩) hP hD hS hA [] [0, 1, 2, 3, 4, 5] rfl rfl (by decide) (by decide) (by decide) rfl hl.1 rfl (Nat.le_of_ble_eq_true rfl) d_Tk_scan_56 ⟨Nat.le_of_ble_eq_true rfl, Nat.le_of_ble_eq_true rfl⟩ (fun qz22 H locs hP hD hS => ?_)
        have hP : va_P (dC, dI) vwCl [(h_t, .inr (4, [.ref h_t_kinds, .ref h_t_places, .ref h_t_values, .int t_count, .int t_next])), (h_t_kinds, .inl (cI, 8001, .inl t_kinds)), (h_t_places, .inl (cI, 8001, .inl t_places)), (h_t_values, .inl (cI, 8001, .inl t_values)), (h_p1, .inr (0, [.ref h_p1_row, .int p1_length, .int p1_overrun])), (h_p1_row, .inl (cB, 8000, .inl p1_row))] H := hP
        have hD : va_D A [(h_t, .inr (4, [.ref h_t_kinds, .ref h_t_places, .ref h_t_values, .int t_count, .int t_next])), (h_t_kinds, .inl (cI, 8001, .inl t_kinds)), (h_t_places, .inl (cI, 8001, .inl t_places)), (h_t_values, .inl (cI, 8001, .inl t_values)), (h_p1, .inr (0, [.ref h_p1_row, .int p1_length, .int p1_overrun])), (h_p1_row, .inl (cB, 8000, .inl p1_row))] := hD
        refine lv_if_eq (tgt := 72) hx hb d_Tk_scan_59 (by decide) (fun c59 => ?_) (fun c59 => ?_)
        · rw [if_pos c59] at hf
          refine lv_aload_n hx hb d_Tk_scan_72 rfl (lv_at hl 1 rfl) ?_
          refine lv_aload_n hx hb d_Tk_scan_73 rfl (lv_at hl 2 rfl) ?_
          refine lv_iload_n hx hb d_Tk_scan_74 rfl (lv_at hl 4 rfl) ?_
          refine lv_iload_n hx hb d_Tk_scan_75 rfl (lv_at hl 3 rfl) ?_
          obtain ⟨o23, ho23⟩ : ∃ z, f_Tk_scanSign p1_row p1_length t_kinds t_places t_values t_count l3 l2 = some z := by
            cases hz : f_Tk_scanSign p1_row p1_length t_kinds t_places t_values t_count l3 l2 with
            | none => rw [hz] at hf; simp only [jb_none, jl_b_none, jm_none, reduceCtorEq] at hf
            | some z => exact ⟨z, rfl⟩
          rw [ho23, jb_some] at hf
          refine jCallV (As := [.ref h_p1, .int l3, .int l2]) (rest := []) (wr := []) ⟨hx, hb, hml, hown, hts⟩ hJ (c_Tk_scanSign h_t h_t_kinds h_t_places h_t_values h_p1 h_p1_row t_kinds t_places t_values t_count t_next p1_row p1_length p1_overrun l3 l2 ho23) (cwV 3 hts (jgV jw131 jw133 jw134 jw79 jw132) rfl rfl rfl dd_Tk_scanSign ⟨Nat.le_of_ble_eq_true rfl, Nat.le_of_ble_eq_true rfl⟩) hP hD hS hA (va_recv hK hP (ci := 4) (q0 := 0) rfl rfl) [0, 1, 2, 3, 4, 5] [] rfl rfl (by decide) (by decide) (by decide) rfl hl.1 rfl (Nat.le_of_ble_eq_true rfl) d_Tk_scan_76 ⟨Nat.le_of_ble_eq_true rfl, Nat.le_of_ble_eq_true rfl⟩ (fun qz24 H locs hP hD hS => ?_)
          have hP : va_P (dC, dI) vwCl [(h_t, .inr (4, [.ref h_t_kinds, .ref h_t_places, .ref h_t_values, .int o23.2.2.2.2, .int t_next])), (h_t_kinds, .inl (cI, 8001, .inl o23.2.1)), (h_t_places, .inl (cI, 8001, .inl o23.2.2.1)), (h_t_values, .inl (cI, 8001, .inl o23.2.2.2.1)), (h_p1, .inr (0, [.ref h_p1_row, .int p1_length, .int p1_overrun])), (h_p1_row, .inl (cB, 8000, .inl p1_row))] H := hP
          have hD : va_D A [(h_t, .inr (4, [.ref h_t_kinds, .ref h_t_places, .ref h_t_values, .int o23.2.2.2.2, .int t_next])), (h_t_kinds, .inl (cI, 8001, .inl o23.2.1)), (h_t_places, .inl (cI, 8001, .inl o23.2.2.1)), (h_t_values, .inl (cI, 8001, .inl o23.2.2.2.1)), (h_p1, .inr (0, [.ref h_p1_row, .int p1_length, .int p1_overrun])), (h_p1_row, .inl (cB, 8000, .inl p1_row))] := hD
          exact B79 o23.2.1 o23.2.2.1 o23.2.2.2.1 o23.2.2.2.2 l5 o23.1 H locs ls hf hP hD hS (lv_sub hl [1, 2, 3, 5] rfl)
        · rw [if_neg c59] at hf
          refine lv_aload_n hx hb d_Tk_scan_62 rfl (lv_at hl 1 rfl) ?_
          refine lv_aload_n hx hb d_Tk_scan_63 rfl (lv_at hl 2 rfl) ?_
          refine lv_iload_n hx hb d_Tk_scan_64 rfl (lv_at hl 4 rfl) ?_
          refine lv_iload_n hx hb d_Tk_scan_65 rfl (lv_at hl 3 rfl) ?_
          obtain ⟨o25, ho25⟩ : ∃ z, f_Tk_scanWord p1_row p1_length t_kinds t_places t_values t_count l3 l2 = some z := by
            cases hz : f_Tk_scanWord p1_row p1_length t_kinds t_places t_values t_count l3 l2 with
            | none => rw [hz] at hf; simp only [jb_none, jl_b_none, jm_none, reduceCtorEq] at hf
            | some z => exact ⟨z, rfl⟩
          rw [ho25, jb_some] at hf
          refine jCallV (As := [.ref h_p1, .int l3, .int l2]) (rest := []) (wr := []) ⟨hx, hb, hml, hown, hts⟩ hJ (c_Tk_scanWord h_t h_t_kinds h_t_places h_t_values h_p1 h_p1_row t_kinds t_places t_values t_count t_next p1_row p1_length p1_overrun l3 l2 ho25) (cwV 3 hts (jgV jw135 jw137 jw138 jw79 jw136) rfl rfl rfl dd_Tk_scanWord ⟨Nat.le_of_ble_eq_true rfl, Nat.le_of_ble_eq_true rfl⟩) hP hD hS hA (va_recv hK hP (ci := 4) (q0 := 0) rfl rfl) [0, 1, 2, 3, 4, 5] [] rfl rfl (by decide) (by decide) (by decide) rfl hl.1 rfl (Nat.le_of_ble_eq_true rfl) d_Tk_scan_66 ⟨Nat.le_of_ble_eq_true rfl, Nat.le_of_ble_eq_true rfl⟩ (fun qz26 H locs hP hD hS => ?_)
          have hP : va_P (dC, dI) vwCl [(h_t, .inr (4, [.ref h_t_kinds, .ref h_t_places, .ref h_t_values, .int o25.2.2.2.2, .int t_next])), (h_t_kinds, .inl (cI, 8001, .inl o25.2.1)), (h_t_places, .inl (cI, 8001, .inl o25.2.2.1)), (h_t_values, .inl (cI, 8001, .inl o25.2.2.2.1)), (h_p1, .inr (0, [.ref h_p1_row, .int p1_length, .int p1_overrun])), (h_p1_row, .inl (cB, 8000, .inl p1_row))] H := hP
          have hD : va_D A [(h_t, .inr (4, [.ref h_t_kinds, .ref h_t_places, .ref h_t_values, .int o25.2.2.2.2, .int t_next])), (h_t_kinds, .inl (cI, 8001, .inl o25.2.1)), (h_t_places, .inl (cI, 8001, .inl o25.2.2.1)), (h_t_values, .inl (cI, 8001, .inl o25.2.2.2.1)), (h_p1, .inr (0, [.ref h_p1_row, .int p1_length, .int p1_overrun])), (h_p1_row, .inl (cB, 8000, .inl p1_row))] := hD
          refine lv_goto (tgt := 79) hx hb d_Tk_scan_69 (by decide) ?_
          exact B79 o25.2.1 o25.2.2.1 o25.2.2.2.1 o25.2.2.2.2 l5 o25.1 H locs ls hf hP hD hS (lv_sub hl [1, 2, 3, 5] rfl)
      unfold Tk_scan_b18_s at hf
      refine lv_iload hx hb d_Tk_scan_18 (lv_at hl 5 rfl) ?_
      refine lv_sipush (v := (8001 : Int32)) hx hb d_Tk_scan_20 (by decide) ?_
      refine lv_icmp_ge (tgt := 114) hx hb d_Tk_scan_23 (by decide) (fun c23 => ?_) (fun c23 => ?_)
      · rw [if_pos c23] at hf
        have hf : (some (t_kinds, t_places, t_values, t_count, t_next) : Option ((Nat → Int32) × (Nat → Int32) × (Nat → Int32) × Int32 × Int32)) = some o := hf
        rw [hQ, ← Option.some.inj hf]
        exact jVret hx hb hr hlocks d_Tk_scan_114 (fun _ => 0) hS hP hD
      · rw [if_neg c23] at hf
        refine lv_iload hx hb d_Tk_scan_26 (lv_at hl 4 rfl) ?_
        refine lv_if_eq (tgt := 114) hx hb d_Tk_scan_28 (by decide) (fun c28 => ?_) (fun c28 => ?_)
        · rw [if_pos c28] at hf
          have hf : (some (t_kinds, t_places, t_values, t_count, t_next) : Option ((Nat → Int32) × (Nat → Int32) × (Nat → Int32) × Int32 × Int32)) = some o := hf
          rw [hQ, ← Option.some.inj hf]
          exact jVret hx hb hr hlocks d_Tk_scan_114 (fun _ => 0) hS hP hD
        · rw [if_neg c28] at hf
          refine lv_aload_n hx hb d_Tk_scan_31 rfl (lv_at hl 1 rfl) ?_
          refine lv_iload_n hx hb d_Tk_scan_32 rfl (lv_at hl 3 rfl) ?_
          refine lv_iload_n hx hb d_Tk_scan_33 rfl (lv_at hl 2 rfl) ?_
          obtain ⟨o27, ho27⟩ : ∃ z, f_Tk_behindBlanks p1_row p1_length l3 l2 = some z := by
            cases hz : f_Tk_behindBlanks p1_row p1_length l3 l2 with
            | none => rw [hz] at hf; simp only [jb_none, jl_b_none, jm_none, reduceCtorEq] at hf
            | some z => exact ⟨z, rfl⟩
          rw [ho27, jb_some] at hf
          refine jCallS (As := [.ref h_p1, .int l3, .int l2]) (rest := []) (wr := [(h_t, .inr (4, [.ref h_t_kinds, .ref h_t_places, .ref h_t_values, .int t_count, .int t_next])), (h_t_kinds, .inl (cI, 8001, .inl t_kinds)), (h_t_places, .inl (cI, 8001, .inl t_places)), (h_t_values, .inl (cI, 8001, .inl t_values))]) ⟨hx, hb, hml, hown, hts⟩ hJ (c_Tk_behindBlanks h_p1 h_p1_row p1_row p1_length p1_overrun l3 l2 ho27) (va_cwS 3 hts (jgS jw128 jw130 jw79 jw129) rfl rfl rfl dd_Tk_behindBlanks.2 ⟨Nat.le_of_ble_eq_true rfl, Nat.le_of_ble_eq_true rfl⟩) hP hD hS hA [4, 5] [0, 1, 2, 3] rfl rfl (by decide) (by decide) (by decide) rfl hl.1 rfl (Nat.le_of_ble_eq_true rfl) d_Tk_scan_34 ⟨Nat.le_of_ble_eq_true rfl, Nat.le_of_ble_eq_true rfl⟩ (fun qz28 H locs hP hD hS => ?_)
          have hP : va_P (dC, dI) vwCl [(h_t, .inr (4, [.ref h_t_kinds, .ref h_t_places, .ref h_t_values, .int t_count, .int t_next])), (h_t_kinds, .inl (cI, 8001, .inl t_kinds)), (h_t_places, .inl (cI, 8001, .inl t_places)), (h_t_values, .inl (cI, 8001, .inl t_values)), (h_p1, .inr (0, [.ref h_p1_row, .int p1_length, .int p1_overrun])), (h_p1_row, .inl (cB, 8000, .inl p1_row))] H := hP
          have hD : va_D A [(h_t, .inr (4, [.ref h_t_kinds, .ref h_t_places, .ref h_t_values, .int t_count, .int t_next])), (h_t_kinds, .inl (cI, 8001, .inl t_kinds)), (h_t_places, .inl (cI, 8001, .inl t_places)), (h_t_values, .inl (cI, 8001, .inl t_values)), (h_p1, .inr (0, [.ref h_p1_row, .int p1_length, .int p1_overrun])), (h_p1_row, .inl (cB, 8000, .inl p1_row))] := hD
          refine lv_istore_n (lv' := [(3, .int o27), (0, .ref h_t), (1, .ref h_p1), (2, .int l2), (4, .int l4), (5, .int l5)]) hx hb d_Tk_scan_37 rfl hl (by decide) rfl (fun ls hl => ?_)
          refine lv_iload_n hx hb d_Tk_scan_38 rfl (lv_at hl 0 rfl) ?_
          refine lv_iload_n hx hb d_Tk_scan_39 rfl (lv_at hl 3 rfl) ?_
          refine lv_icmp_ge (tgt := 51) hx hb d_Tk_scan_40 (by decide) (fun c40 => ?_) (fun c40 => ?_)
          · rw [if_pos c40] at hf
            refine lv_iconst (v := (-1 : Int32)) hx hb d_Tk_scan_51 (by decide) ?_
            exact B52 t_kinds t_places t_values t_count o27 l5 (-1 : Int32) H locs ls hf hP hD hS (lv_sub hl [1, 2, 3, 0, 5] rfl)
          · rw [if_neg c40] at hf
            refine lv_aload_n hx hb d_Tk_scan_43 rfl (lv_at hl 2 rfl) ?_
            refine lv_iload_n hx hb d_Tk_scan_44 rfl (lv_at hl 0 rfl) ?_
            obtain ⟨o29, ho29⟩ : ∃ z, f_By_at p1_row p1_length o27 = some z := by
              cases hz : f_By_at p1_row p1_length o27 with
              | none => rw [hz] at hf; simp only [jb_none, jl_b_none, jm_none, reduceCtorEq] at hf
              | some z => exact ⟨z, rfl⟩
            rw [ho29, jb_some] at hf
            refine jCallV (As := [.int o27]) (rest := []) (wr := [(h_t, .inr (4, [.ref h_t_kinds, .ref h_t_places, .ref h_t_values, .int t_count, .int t_next])), (h_t_kinds, .inl (cI, 8001, .inl t_kinds)), (h_t_places, .inl (cI, 8001, .inl t_places)), (h_t_values, .inl (cI, 8001, .inl t_values))]) ⟨hx, hb, hml, hown, hts⟩ hJ (c_By_at h_p1 h_p1_row p1_row p1_length p1_overrun o27 ho29) (cwV 1 hts (jgV jw84 jw54 jw55 jw33 jw53) rfl rfl rfl dd_By_at ⟨Nat.le_of_ble_eq_true rfl, Nat.le_of_ble_eq_true rfl⟩) hP hD hS hA (va_recv hK hP (ci := 0) (q0 := 4) rfl rfl) [4, 5] [0, 1, 2, 3] rfl rfl (by decide) (by decide) (by decide) rfl hl.1 rfl (Nat.le_of_ble_eq_true rfl) d_Tk_scan_45 ⟨Nat.le_of_ble_eq_true rfl, Nat.le_of_ble_eq_true rfl⟩ (fun qz30 H locs hP hD hS => ?_)
            have hP : va_P (dC, dI) vwCl [(h_t, .inr (4, [.ref h_t_kinds, .ref h_t_places, .ref h_t_values, .int t_count, .int t_next])), (h_t_kinds, .inl (cI, 8001, .inl t_kinds)), (h_t_places, .inl (cI, 8001, .inl t_places)), (h_t_values, .inl (cI, 8001, .inl t_values)), (h_p1, .inr (0, [.ref h_p1_row, .int p1_length, .int p1_overrun])), (h_p1_row, .inl (cB, 8000, .inl p1_row))] H := hP
            have hD : va_D A [(h_t, .inr (4, [.ref h_t_kinds, .ref h_t_places, .ref h_t_values, .int t_count, .int t_next])), (h_t_kinds, .inl (cI, 8001, .inl t_kinds)), (h_t_places, .inl (cI, 8001, .inl t_places)), (h_t_values, .inl (cI, 8001, .inl t_values)), (h_p1, .inr (0, [.ref h_p1_row, .int p1_length, .int p1_overrun])), (h_p1_row, .inl (cB, 8000, .inl p1_row))] := hD
            refine lv_goto (tgt := 52) hx hb d_Tk_scan_48 (by decide) ?_
            exact B52 t_kinds t_places t_values t_count o27 l5 o29 H locs ls hf hP hD hS (lv_sub hl [1, 2, 3, 0, 5] rfl)
  unfold f_Tk_scan at hf
  refine lv_aload_n hx hb d_Tk_scan_0 rfl (lv_at hl 0 rfl) ?_
  refine lv_iconst (v := (0 : Int32)) hx hb d_Tk_scan_1 (by decide) ?_
  refine va_put (D := (dC, dI)) (ci := 4) (v := .int (0 : Int32)) (ty := .int) (C := R_Tk) (T := T_Tk) (N := 5) hx hb hts (fun w h => List.mem_cons_of_mem _ (in_Tk w h)) ty_Tk tyok_Tk nm_Tk hown hK hP hD hS 0 rfl rfl 3 (by decide) (hts _ (List.mem_cons_of_mem _ jw75)) (fun _ h9 => h9) rfl (by decide +kernel) rfl rfl (Nat.le_of_ble_eq_true rfl) d_Tk_scan_2 (fun H locs hP hD hS => ?_)
  have hP : va_P (dC, dI) vwCl [(h_t, .inr (4, [.ref h_t_kinds, .ref h_t_places, .ref h_t_values, .int (0 : Int32), .int t_next])), (h_t_kinds, .inl (cI, 8001, .inl t_kinds)), (h_t_places, .inl (cI, 8001, .inl t_places)), (h_t_values, .inl (cI, 8001, .inl t_values)), (h_p1, .inr (0, [.ref h_p1_row, .int p1_length, .int p1_overrun])), (h_p1_row, .inl (cB, 8000, .inl p1_row))] H := hP
  have hD : va_D A [(h_t, .inr (4, [.ref h_t_kinds, .ref h_t_places, .ref h_t_values, .int (0 : Int32), .int t_next])), (h_t_kinds, .inl (cI, 8001, .inl t_kinds)), (h_t_places, .inl (cI, 8001, .inl t_places)), (h_t_values, .inl (cI, 8001, .inl t_values)), (h_p1, .inr (0, [.ref h_p1_row, .int p1_length, .int p1_overrun])), (h_p1_row, .inl (cB, 8000, .inl p1_row))] := hD
  refine lv_aload_n hx hb d_Tk_scan_5 rfl (lv_at hl 0 rfl) ?_
  refine lv_iconst (v := (0 : Int32)) hx hb d_Tk_scan_6 (by decide) ?_
  refine va_put (D := (dC, dI)) (ci := 4) (v := .int (0 : Int32)) (ty := .int) (C := R_Tk) (T := T_Tk) (N := 5) hx hb hts (fun w h => List.mem_cons_of_mem _ (in_Tk w h)) ty_Tk tyok_Tk nm_Tk hown hK hP hD hS 0 rfl rfl 4 (by decide) (hts _ (List.mem_cons_of_mem _ jw76)) (fun _ h9 => h9) rfl (by decide +kernel) rfl rfl (Nat.le_of_ble_eq_true rfl) d_Tk_scan_7 (fun H locs hP hD hS => ?_)
  have hP : va_P (dC, dI) vwCl [(h_t, .inr (4, [.ref h_t_kinds, .ref h_t_places, .ref h_t_values, .int (0 : Int32), .int (0 : Int32)])), (h_t_kinds, .inl (cI, 8001, .inl t_kinds)), (h_t_places, .inl (cI, 8001, .inl t_places)), (h_t_values, .inl (cI, 8001, .inl t_values)), (h_p1, .inr (0, [.ref h_p1_row, .int p1_length, .int p1_overrun])), (h_p1_row, .inl (cB, 8000, .inl p1_row))] H := hP
  have hD : va_D A [(h_t, .inr (4, [.ref h_t_kinds, .ref h_t_places, .ref h_t_values, .int (0 : Int32), .int (0 : Int32)])), (h_t_kinds, .inl (cI, 8001, .inl t_kinds)), (h_t_places, .inl (cI, 8001, .inl t_places)), (h_t_values, .inl (cI, 8001, .inl t_values)), (h_p1, .inr (0, [.ref h_p1_row, .int p1_length, .int p1_overrun])), (h_p1_row, .inl (cB, 8000, .inl p1_row))] := hD
  refine lv_iconst (v := (0 : Int32)) hx hb d_Tk_scan_10 (by decide) ?_
  refine lv_istore_n (lv' := [(3, .int (0 : Int32)), (0, .ref h_t), (1, .ref h_p1), (2, .int a2)]) hx hb d_Tk_scan_11 rfl hl (by decide) rfl (fun ls hl => ?_)
  refine lv_iconst (v := (1 : Int32)) hx hb d_Tk_scan_12 (by decide) ?_
  refine lv_istore (lv' := [(4, .int (1 : Int32)), (3, .int (0 : Int32)), (0, .ref h_t), (1, .ref h_p1), (2, .int a2)]) hx hb d_Tk_scan_13 hl (by decide) rfl (fun ls hl => ?_)
  refine lv_iconst (v := (0 : Int32)) hx hb d_Tk_scan_15 (by decide) ?_
  refine lv_istore (lv' := [(5, .int (0 : Int32)), (4, .int (1 : Int32)), (3, .int (0 : Int32)), (0, .ref h_t), (1, .ref h_p1), (2, .int a2)]) hx hb d_Tk_scan_16 hl (by decide) rfl (fun ls hl => ?_)
  unfold Tk_scan_b18 at hf
  obtain ⟨nn, en⟩ := jl_ex (Tk_scan_b18_b p1_row p1_length (0 : Int32) a2) (t_kinds, t_places, t_values, (0 : Int32), (0 : Int32), (1 : Int32), (0 : Int32))
  rw [en] at hf
  exact L18 nn t_kinds t_places t_values (0 : Int32) (0 : Int32) a2 (0 : Int32) (1 : Int32) (0 : Int32) H locs ls hf hP hD hS (lv_sub hl [3, 4, 5, 2, 1, 0] rfl)
