theorem js_vkR {args : Array Value} {s : State} {own tx : String} {k a : Nat} (h1 : (Cond.stringRef own k tx).before args s = true) (h2 : (Term.string own k).eval args s none [] s = some (.ref a)) : vk_R own k tx a s := vk_R.of h1 h2
theorem js_r1 : ∀ k, k < 23 → Cond.laysStatic R_Ru (jrowM.getD k "") "[I" ∈ lw_tbl := by decide +kernel
theorem js_r2 : ∀ k, k < 23 → Cond.arrayOf (.static R_Ru (jrowM.getD k "") "[I") .int ∈ flatC (Jvm.Cond.and given_1 narrow_1) := by decide +kernel
theorem js_r3 : ∀ k, k < 23 → Cond.eq (.length (.static R_Ru (jrowM.getD k "") "[I")) (.int (Int32.ofNat (jrowN k))) ∈ flatC (Jvm.Cond.and given_1 narrow_1) := by decide +kernel
theorem js_r4 : ∀ k, k < 23 → ∀ j, j < jrowN k → Cond.eq (.elem (.static R_Ru (jrowM.getD k "") "[I") (.int (Int32.ofNat j))) (.int (jrow k j)) ∈ flatC (Jvm.Cond.and given_1 narrow_1) := by decide +kernel
theorem js_r5 : ∀ k, k < 23 → jrowN k < 2 ^ 31 := by decide +kernel
theorem js_s1 : ∀ k, k < 49 → Cond.stringRef (jstrO.getD k "") (jstrX.getD k 0) (jstrT.getD k "") ∈ lw_tbl := by decide +kernel
theorem js_s2 : ∀ k, k < 49 → Cond.exactly (.string (jstrO.getD k "") (jstrX.getD k 0)) "java/lang/String" ∈ flatC (Jvm.Cond.and given_1 narrow_1) := by decide +kernel
theorem js_s3 : ∀ k, k < 49 → Cond.eq (.field (.string (jstrO.getD k "") (jstrX.getD k 0)) "java/lang/String" "coder" "B") (.int 0) ∈ flatC (Jvm.Cond.and given_1 narrow_1) := by decide +kernel
theorem js_s4 : ∀ k, k < 49 → Cond.arrayOf (.field (.string (jstrO.getD k "") (jstrX.getD k 0)) "java/lang/String" "value" "[B") .byte ∈ flatC (Jvm.Cond.and given_1 narrow_1) := by decide +kernel
theorem js_s5 : ∀ k, k < 49 → Cond.eq (.length (.field (.string (jstrO.getD k "") (jstrX.getD k 0)) "java/lang/String" "value" "[B")) (.int (Int32.ofNat (jstrN k))) ∈ flatC (Jvm.Cond.and given_1 narrow_1) := by decide +kernel
theorem js_e0_0 : Cond.eq (.elem (.field (.string "TermReader$Tokens" 90) "java/lang/String" "value" "[B") (.int 0)) (.int 80) ∈ flatC (Jvm.Cond.and given_1 narrow_1) := List.mem_of_getElem? (i := 187) (by decide +kernel)
theorem js_e0_1 : Cond.eq (.elem (.field (.string "TermReader$Tokens" 90) "java/lang/String" "value" "[B") (.int 1)) (.int 114) ∈ flatC (Jvm.Cond.and given_1 narrow_1) := List.mem_of_getElem? (i := 188) (by decide +kernel)
theorem js_e0_2 : Cond.eq (.elem (.field (.string "TermReader$Tokens" 90) "java/lang/String" "value" "[B") (.int 2)) (.int 111) ∈ flatC (Jvm.Cond.and given_1 narrow_1) := List.mem_of_getElem? (i := 189) (by decide +kernel)
theorem js_e0_3 : Cond.eq (.elem (.field (.string "TermReader$Tokens" 90) "java/lang/String" "value" "[B") (.int 3)) (.int 112) ∈ flatC (Jvm.Cond.and given_1 narrow_1) := List.mem_of_getElem? (i := 190) (by decide +kernel)
theorem js_e1_0 : Cond.eq (.elem (.field (.string "TermReader$Tokens" 92) "java/lang/String" "value" "[B") (.int 0)) (.int 84) ∈ flatC (Jvm.Cond.and given_1 narrow_1) := List.mem_of_getElem? (i := 195) (by decide +kernel)
theorem js_e1_1 : Cond.eq (.elem (.field (.string "TermReader$Tokens" 92) "java/lang/String" "value" "[B") (.int 1)) (.int 121) ∈ flatC (Jvm.Cond.and given_1 narrow_1) := List.mem_of_getElem? (i := 196) (by decide +kernel)
theorem js_e1_2 : Cond.eq (.elem (.field (.string "TermReader$Tokens" 92) "java/lang/String" "value" "[B") (.int 2)) (.int 112) ∈ flatC (Jvm.Cond.and given_1 narrow_1) := List.mem_of_getElem? (i := 197) (by decide +kernel)
theorem js_e1_3 : Cond.eq (.elem (.field (.string "TermReader$Tokens" 92) "java/lang/String" "value" "[B") (.int 3)) (.int 101) ∈ flatC (Jvm.Cond.and given_1 narrow_1) := List.mem_of_getElem? (i := 198) (by decide +kernel)
theorem js_e2_0 : Cond.eq (.elem (.field (.string "TermReader$Token" 9) "java/lang/String" "value" "[B") (.int 0)) (.int 97) ∈ flatC (Jvm.Cond.and given_1 narrow_1) := List.mem_of_getElem? (i := 203) (by decide +kernel)
theorem js_e2_1 : Cond.eq (.elem (.field (.string "TermReader$Token" 9) "java/lang/String" "value" "[B") (.int 1)) (.int 120) ∈ flatC (Jvm.Cond.and given_1 narrow_1) := List.mem_of_getElem? (i := 204) (by decide +kernel)
theorem js_e2_2 : Cond.eq (.elem (.field (.string "TermReader$Token" 9) "java/lang/String" "value" "[B") (.int 2)) (.int 105) ∈ flatC (Jvm.Cond.and given_1 narrow_1) := List.mem_of_getElem? (i := 205) (by decide +kernel)
theorem js_e2_3 : Cond.eq (.elem (.field (.string "TermReader$Token" 9) "java/lang/String" "value" "[B") (.int 3)) (.int 111) ∈ flatC (Jvm.Cond.and given_1 narrow_1) := List.mem_of_getElem? (i := 206) (by decide +kernel)
theorem js_e2_4 : Cond.eq (.elem (.field (.string "TermReader$Token" 9) "java/lang/String" "value" "[B") (.int 4)) (.int 109) ∈ flatC (Jvm.Cond.and given_1 narrow_1) := List.mem_of_getElem? (i := 207) (by decide +kernel)
theorem js_e3_0 : Cond.eq (.elem (.field (.string "TermReader$Token" 11) "java/lang/String" "value" "[B") (.int 0)) (.int 100) ∈ flatC (Jvm.Cond.and given_1 narrow_1) := List.mem_of_getElem? (i := 212) (by decide +kernel)
theorem js_e3_1 : Cond.eq (.elem (.field (.string "TermReader$Token" 11) "java/lang/String" "value" "[B") (.int 1)) (.int 101) ∈ flatC (Jvm.Cond.and given_1 narrow_1) := List.mem_of_getElem? (i := 213) (by decide +kernel)
theorem js_e3_2 : Cond.eq (.elem (.field (.string "TermReader$Token" 11) "java/lang/String" "value" "[B") (.int 2)) (.int 102) ∈ flatC (Jvm.Cond.and given_1 narrow_1) := List.mem_of_getElem? (i := 214) (by decide +kernel)
theorem js_e4_0 : Cond.eq (.elem (.field (.string "TermReader$Token" 13) "java/lang/String" "value" "[B") (.int 0)) (.int 108) ∈ flatC (Jvm.Cond.and given_1 narrow_1) := List.mem_of_getElem? (i := 219) (by decide +kernel)
theorem js_e4_1 : Cond.eq (.elem (.field (.string "TermReader$Token" 13) "java/lang/String" "value" "[B") (.int 1)) (.int 101) ∈ flatC (Jvm.Cond.and given_1 narrow_1) := List.mem_of_getElem? (i := 220) (by decide +kernel)
theorem js_e4_2 : Cond.eq (.elem (.field (.string "TermReader$Token" 13) "java/lang/String" "value" "[B") (.int 2)) (.int 109) ∈ flatC (Jvm.Cond.and given_1 narrow_1) := List.mem_of_getElem? (i := 221) (by decide +kernel)
theorem js_e4_3 : Cond.eq (.elem (.field (.string "TermReader$Token" 13) "java/lang/String" "value" "[B") (.int 3)) (.int 109) ∈ flatC (Jvm.Cond.and given_1 narrow_1) := List.mem_of_getElem? (i := 222) (by decide +kernel)
theorem js_e4_4 : Cond.eq (.elem (.field (.string "TermReader$Token" 13) "java/lang/String" "value" "[B") (.int 4)) (.int 97) ∈ flatC (Jvm.Cond.and given_1 narrow_1) := List.mem_of_getElem? (i := 223) (by decide +kernel)
theorem js_e5_0 : Cond.eq (.elem (.field (.string "TermReader$Token" 15) "java/lang/String" "value" "[B") (.int 0)) (.int 100) ∈ flatC (Jvm.Cond.and given_1 narrow_1) := List.mem_of_getElem? (i := 228) (by decide +kernel)
theorem js_e5_1 : Cond.eq (.elem (.field (.string "TermReader$Token" 15) "java/lang/String" "value" "[B") (.int 1)) (.int 97) ∈ flatC (Jvm.Cond.and given_1 narrow_1) := List.mem_of_getElem? (i := 229) (by decide +kernel)
theorem js_e5_2 : Cond.eq (.elem (.field (.string "TermReader$Token" 15) "java/lang/String" "value" "[B") (.int 2)) (.int 116) ∈ flatC (Jvm.Cond.and given_1 narrow_1) := List.mem_of_getElem? (i := 230) (by decide +kernel)
theorem js_e5_3 : Cond.eq (.elem (.field (.string "TermReader$Token" 15) "java/lang/String" "value" "[B") (.int 3)) (.int 97) ∈ flatC (Jvm.Cond.and given_1 narrow_1) := List.mem_of_getElem? (i := 231) (by decide +kernel)
theorem js_e6_0 : Cond.eq (.elem (.field (.string "TermReader$Token" 17) "java/lang/String" "value" "[B") (.int 0)) (.int 99) ∈ flatC (Jvm.Cond.and given_1 narrow_1) := List.mem_of_getElem? (i := 236) (by decide +kernel)
theorem js_e6_1 : Cond.eq (.elem (.field (.string "TermReader$Token" 17) "java/lang/String" "value" "[B") (.int 1)) (.int 104) ∈ flatC (Jvm.Cond.and given_1 narrow_1) := List.mem_of_getElem? (i := 237) (by decide +kernel)
theorem js_e6_2 : Cond.eq (.elem (.field (.string "TermReader$Token" 17) "java/lang/String" "value" "[B") (.int 2)) (.int 101) ∈ flatC (Jvm.Cond.and given_1 narrow_1) := List.mem_of_getElem? (i := 238) (by decide +kernel)
theorem js_e6_3 : Cond.eq (.elem (.field (.string "TermReader$Token" 17) "java/lang/String" "value" "[B") (.int 3)) (.int 99) ∈ flatC (Jvm.Cond.and given_1 narrow_1) := List.mem_of_getElem? (i := 239) (by decide +kernel)
theorem js_e6_4 : Cond.eq (.elem (.field (.string "TermReader$Token" 17) "java/lang/String" "value" "[B") (.int 4)) (.int 107) ∈ flatC (Jvm.Cond.and given_1 narrow_1) := List.mem_of_getElem? (i := 240) (by decide +kernel)
theorem js_e7_0 : Cond.eq (.elem (.field (.string "TermReader$Token" 19) "java/lang/String" "value" "[B") (.int 0)) (.int 110) ∈ flatC (Jvm.Cond.and given_1 narrow_1) := List.mem_of_getElem? (i := 245) (by decide +kernel)
theorem js_e7_1 : Cond.eq (.elem (.field (.string "TermReader$Token" 19) "java/lang/String" "value" "[B") (.int 1)) (.int 111) ∈ flatC (Jvm.Cond.and given_1 narrow_1) := List.mem_of_getElem? (i := 246) (by decide +kernel)
theorem js_e7_2 : Cond.eq (.elem (.field (.string "TermReader$Token" 19) "java/lang/String" "value" "[B") (.int 2)) (.int 114) ∈ flatC (Jvm.Cond.and given_1 narrow_1) := List.mem_of_getElem? (i := 247) (by decide +kernel)
theorem js_e7_3 : Cond.eq (.elem (.field (.string "TermReader$Token" 19) "java/lang/String" "value" "[B") (.int 3)) (.int 109) ∈ flatC (Jvm.Cond.and given_1 narrow_1) := List.mem_of_getElem? (i := 248) (by decide +kernel)
theorem js_e8_0 : Cond.eq (.elem (.field (.string "TermReader$Token" 21) "java/lang/String" "value" "[B") (.int 0)) (.int 102) ∈ flatC (Jvm.Cond.and given_1 narrow_1) := List.mem_of_getElem? (i := 253) (by decide +kernel)
theorem js_e8_1 : Cond.eq (.elem (.field (.string "TermReader$Token" 21) "java/lang/String" "value" "[B") (.int 1)) (.int 117) ∈ flatC (Jvm.Cond.and given_1 narrow_1) := List.mem_of_getElem? (i := 254) (by decide +kernel)
theorem js_e8_2 : Cond.eq (.elem (.field (.string "TermReader$Token" 21) "java/lang/String" "value" "[B") (.int 2)) (.int 110) ∈ flatC (Jvm.Cond.and given_1 narrow_1) := List.mem_of_getElem? (i := 255) (by decide +kernel)
theorem js_e9_0 : Cond.eq (.elem (.field (.string "TermReader$Token" 23) "java/lang/String" "value" "[B") (.int 0)) (.int 97) ∈ flatC (Jvm.Cond.and given_1 narrow_1) := List.mem_of_getElem? (i := 260) (by decide +kernel)
theorem js_e9_1 : Cond.eq (.elem (.field (.string "TermReader$Token" 23) "java/lang/String" "value" "[B") (.int 1)) (.int 108) ∈ flatC (Jvm.Cond.and given_1 narrow_1) := List.mem_of_getElem? (i := 261) (by decide +kernel)
theorem js_e9_2 : Cond.eq (.elem (.field (.string "TermReader$Token" 23) "java/lang/String" "value" "[B") (.int 2)) (.int 108) ∈ flatC (Jvm.Cond.and given_1 narrow_1) := List.mem_of_getElem? (i := 262) (by decide +kernel)
theorem js_e10_0 : Cond.eq (.elem (.field (.string "TermReader$Token" 25) "java/lang/String" "value" "[B") (.int 0)) (.int 108) ∈ flatC (Jvm.Cond.and given_1 narrow_1) := List.mem_of_getElem? (i := 267) (by decide +kernel)
theorem js_e10_1 : Cond.eq (.elem (.field (.string "TermReader$Token" 25) "java/lang/String" "value" "[B") (.int 1)) (.int 101) ∈ flatC (Jvm.Cond.and given_1 narrow_1) := List.mem_of_getElem? (i := 268) (by decide +kernel)
theorem js_e10_2 : Cond.eq (.elem (.field (.string "TermReader$Token" 25) "java/lang/String" "value" "[B") (.int 2)) (.int 116) ∈ flatC (Jvm.Cond.and given_1 narrow_1) := List.mem_of_getElem? (i := 269) (by decide +kernel)
theorem js_e11_0 : Cond.eq (.elem (.field (.string "TermReader$Token" 27) "java/lang/String" "value" "[B") (.int 0)) (.int 105) ∈ flatC (Jvm.Cond.and given_1 narrow_1) := List.mem_of_getElem? (i := 274) (by decide +kernel)
theorem js_e11_1 : Cond.eq (.elem (.field (.string "TermReader$Token" 27) "java/lang/String" "value" "[B") (.int 1)) (.int 110) ∈ flatC (Jvm.Cond.and given_1 narrow_1) := List.mem_of_getElem? (i := 275) (by decide +kernel)
theorem js_e12_0 : Cond.eq (.elem (.field (.string "TermReader$Token" 29) "java/lang/String" "value" "[B") (.int 0)) (.int 114) ∈ flatC (Jvm.Cond.and given_1 narrow_1) := List.mem_of_getElem? (i := 280) (by decide +kernel)
theorem js_e12_1 : Cond.eq (.elem (.field (.string "TermReader$Token" 29) "java/lang/String" "value" "[B") (.int 1)) (.int 101) ∈ flatC (Jvm.Cond.and given_1 narrow_1) := List.mem_of_getElem? (i := 281) (by decide +kernel)
theorem js_e12_2 : Cond.eq (.elem (.field (.string "TermReader$Token" 29) "java/lang/String" "value" "[B") (.int 2)) (.int 99) ∈ flatC (Jvm.Cond.and given_1 narrow_1) := List.mem_of_getElem? (i := 282) (by decide +kernel)
theorem js_e13_0 : Cond.eq (.elem (.field (.string "TermReader$Token" 31) "java/lang/String" "value" "[B") (.int 0)) (.int 40) ∈ flatC (Jvm.Cond.and given_1 narrow_1) := List.mem_of_getElem? (i := 287) (by decide +kernel)
theorem js_e14_0 : Cond.eq (.elem (.field (.string "TermReader$Token" 33) "java/lang/String" "value" "[B") (.int 0)) (.int 41) ∈ flatC (Jvm.Cond.and given_1 narrow_1) := List.mem_of_getElem? (i := 292) (by decide +kernel)
theorem js_e15_0 : Cond.eq (.elem (.field (.string "TermReader$Token" 35) "java/lang/String" "value" "[B") (.int 0)) (.int 58) ∈ flatC (Jvm.Cond.and given_1 narrow_1) := List.mem_of_getElem? (i := 297) (by decide +kernel)
theorem js_e16_0 : Cond.eq (.elem (.field (.string "TermReader$Token" 37) "java/lang/String" "value" "[B") (.int 0)) (.int 58) ∈ flatC (Jvm.Cond.and given_1 narrow_1) := List.mem_of_getElem? (i := 302) (by decide +kernel)
theorem js_e16_1 : Cond.eq (.elem (.field (.string "TermReader$Token" 37) "java/lang/String" "value" "[B") (.int 1)) (.int 61) ∈ flatC (Jvm.Cond.and given_1 narrow_1) := List.mem_of_getElem? (i := 303) (by decide +kernel)
theorem js_e17_0 : Cond.eq (.elem (.field (.string "TermReader$Token" 39) "java/lang/String" "value" "[B") (.int 0)) (.int 61) ∈ flatC (Jvm.Cond.and given_1 narrow_1) := List.mem_of_getElem? (i := 308) (by decide +kernel)
theorem js_e17_1 : Cond.eq (.elem (.field (.string "TermReader$Token" 39) "java/lang/String" "value" "[B") (.int 1)) (.int 62) ∈ flatC (Jvm.Cond.and given_1 narrow_1) := List.mem_of_getElem? (i := 309) (by decide +kernel)
theorem js_e18_0 : Cond.eq (.elem (.field (.string "TermReader$Token" 41) "java/lang/String" "value" "[B") (.int 0)) (.int 45) ∈ flatC (Jvm.Cond.and given_1 narrow_1) := List.mem_of_getElem? (i := 314) (by decide +kernel)
theorem js_e18_1 : Cond.eq (.elem (.field (.string "TermReader$Token" 41) "java/lang/String" "value" "[B") (.int 1)) (.int 62) ∈ flatC (Jvm.Cond.and given_1 narrow_1) := List.mem_of_getElem? (i := 315) (by decide +kernel)
theorem js_e19_0 : Cond.eq (.elem (.field (.string "TermReader$Token" 43) "java/lang/String" "value" "[B") (.int 0)) (.int 44) ∈ flatC (Jvm.Cond.and given_1 narrow_1) := List.mem_of_getElem? (i := 320) (by decide +kernel)
theorem js_e20_0 : Cond.eq (.elem (.field (.string "TermReader$Token" 45) "java/lang/String" "value" "[B") (.int 0)) (.int 46) ∈ flatC (Jvm.Cond.and given_1 narrow_1) := List.mem_of_getElem? (i := 325) (by decide +kernel)
theorem js_e21_0 : Cond.eq (.elem (.field (.string "TermReader$Token" 47) "java/lang/String" "value" "[B") (.int 0)) (.int 124) ∈ flatC (Jvm.Cond.and given_1 narrow_1) := List.mem_of_getElem? (i := 330) (by decide +kernel)
theorem js_e23_0 : Cond.eq (.elem (.field (.string "TermReader$Writer" 124) "java/lang/String" "value" "[B") (.int 0)) (.int 80) ∈ flatC (Jvm.Cond.and given_1 narrow_1) := List.mem_of_getElem? (i := 339) (by decide +kernel)
theorem js_e23_1 : Cond.eq (.elem (.field (.string "TermReader$Writer" 124) "java/lang/String" "value" "[B") (.int 1)) (.int 114) ∈ flatC (Jvm.Cond.and given_1 narrow_1) := List.mem_of_getElem? (i := 340) (by decide +kernel)
theorem js_e23_2 : Cond.eq (.elem (.field (.string "TermReader$Writer" 124) "java/lang/String" "value" "[B") (.int 2)) (.int 111) ∈ flatC (Jvm.Cond.and given_1 narrow_1) := List.mem_of_getElem? (i := 341) (by decide +kernel)
theorem js_e23_3 : Cond.eq (.elem (.field (.string "TermReader$Writer" 124) "java/lang/String" "value" "[B") (.int 3)) (.int 112) ∈ flatC (Jvm.Cond.and given_1 narrow_1) := List.mem_of_getElem? (i := 342) (by decide +kernel)
theorem js_e24_0 : Cond.eq (.elem (.field (.string "TermReader$Writer" 126) "java/lang/String" "value" "[B") (.int 0)) (.int 84) ∈ flatC (Jvm.Cond.and given_1 narrow_1) := List.mem_of_getElem? (i := 348) (by decide +kernel)
theorem js_e24_1 : Cond.eq (.elem (.field (.string "TermReader$Writer" 126) "java/lang/String" "value" "[B") (.int 1)) (.int 121) ∈ flatC (Jvm.Cond.and given_1 narrow_1) := List.mem_of_getElem? (i := 349) (by decide +kernel)
theorem js_e24_2 : Cond.eq (.elem (.field (.string "TermReader$Writer" 126) "java/lang/String" "value" "[B") (.int 2)) (.int 112) ∈ flatC (Jvm.Cond.and given_1 narrow_1) := List.mem_of_getElem? (i := 350) (by decide +kernel)
theorem js_e24_3 : Cond.eq (.elem (.field (.string "TermReader$Writer" 126) "java/lang/String" "value" "[B") (.int 3)) (.int 101) ∈ flatC (Jvm.Cond.and given_1 narrow_1) := List.mem_of_getElem? (i := 351) (by decide +kernel)
theorem js_e25_0 : Cond.eq (.elem (.field (.string "TermReaderModel" 9) "java/lang/String" "value" "[B") (.int 0)) (.int 97) ∈ flatC (Jvm.Cond.and given_1 narrow_1) := List.mem_of_getElem? (i := 357) (by decide +kernel)
theorem js_e25_1 : Cond.eq (.elem (.field (.string "TermReaderModel" 9) "java/lang/String" "value" "[B") (.int 1)) (.int 120) ∈ flatC (Jvm.Cond.and given_1 narrow_1) := List.mem_of_getElem? (i := 358) (by decide +kernel)
theorem js_e25_2 : Cond.eq (.elem (.field (.string "TermReaderModel" 9) "java/lang/String" "value" "[B") (.int 2)) (.int 105) ∈ flatC (Jvm.Cond.and given_1 narrow_1) := List.mem_of_getElem? (i := 359) (by decide +kernel)
theorem js_e25_3 : Cond.eq (.elem (.field (.string "TermReaderModel" 9) "java/lang/String" "value" "[B") (.int 3)) (.int 111) ∈ flatC (Jvm.Cond.and given_1 narrow_1) := List.mem_of_getElem? (i := 360) (by decide +kernel)
theorem js_e25_4 : Cond.eq (.elem (.field (.string "TermReaderModel" 9) "java/lang/String" "value" "[B") (.int 4)) (.int 109) ∈ flatC (Jvm.Cond.and given_1 narrow_1) := List.mem_of_getElem? (i := 361) (by decide +kernel)
theorem js_e26_0 : Cond.eq (.elem (.field (.string "TermReaderModel" 11) "java/lang/String" "value" "[B") (.int 0)) (.int 100) ∈ flatC (Jvm.Cond.and given_1 narrow_1) := List.mem_of_getElem? (i := 367) (by decide +kernel)
theorem js_e26_1 : Cond.eq (.elem (.field (.string "TermReaderModel" 11) "java/lang/String" "value" "[B") (.int 1)) (.int 101) ∈ flatC (Jvm.Cond.and given_1 narrow_1) := List.mem_of_getElem? (i := 368) (by decide +kernel)
theorem js_e26_2 : Cond.eq (.elem (.field (.string "TermReaderModel" 11) "java/lang/String" "value" "[B") (.int 2)) (.int 102) ∈ flatC (Jvm.Cond.and given_1 narrow_1) := List.mem_of_getElem? (i := 369) (by decide +kernel)
theorem js_e27_0 : Cond.eq (.elem (.field (.string "TermReaderModel" 13) "java/lang/String" "value" "[B") (.int 0)) (.int 108) ∈ flatC (Jvm.Cond.and given_1 narrow_1) := List.mem_of_getElem? (i := 375) (by decide +kernel)
theorem js_e27_1 : Cond.eq (.elem (.field (.string "TermReaderModel" 13) "java/lang/String" "value" "[B") (.int 1)) (.int 101) ∈ flatC (Jvm.Cond.and given_1 narrow_1) := List.mem_of_getElem? (i := 376) (by decide +kernel)
theorem js_e27_2 : Cond.eq (.elem (.field (.string "TermReaderModel" 13) "java/lang/String" "value" "[B") (.int 2)) (.int 109) ∈ flatC (Jvm.Cond.and given_1 narrow_1) := List.mem_of_getElem? (i := 377) (by decide +kernel)
theorem js_e27_3 : Cond.eq (.elem (.field (.string "TermReaderModel" 13) "java/lang/String" "value" "[B") (.int 3)) (.int 109) ∈ flatC (Jvm.Cond.and given_1 narrow_1) := List.mem_of_getElem? (i := 378) (by decide +kernel)
theorem js_e27_4 : Cond.eq (.elem (.field (.string "TermReaderModel" 13) "java/lang/String" "value" "[B") (.int 4)) (.int 97) ∈ flatC (Jvm.Cond.and given_1 narrow_1) := List.mem_of_getElem? (i := 379) (by decide +kernel)
theorem js_e28_0 : Cond.eq (.elem (.field (.string "TermReaderModel" 15) "java/lang/String" "value" "[B") (.int 0)) (.int 100) ∈ flatC (Jvm.Cond.and given_1 narrow_1) := List.mem_of_getElem? (i := 385) (by decide +kernel)
theorem js_e28_1 : Cond.eq (.elem (.field (.string "TermReaderModel" 15) "java/lang/String" "value" "[B") (.int 1)) (.int 97) ∈ flatC (Jvm.Cond.and given_1 narrow_1) := List.mem_of_getElem? (i := 386) (by decide +kernel)
theorem js_e28_2 : Cond.eq (.elem (.field (.string "TermReaderModel" 15) "java/lang/String" "value" "[B") (.int 2)) (.int 116) ∈ flatC (Jvm.Cond.and given_1 narrow_1) := List.mem_of_getElem? (i := 387) (by decide +kernel)
theorem js_e28_3 : Cond.eq (.elem (.field (.string "TermReaderModel" 15) "java/lang/String" "value" "[B") (.int 3)) (.int 97) ∈ flatC (Jvm.Cond.and given_1 narrow_1) := List.mem_of_getElem? (i := 388) (by decide +kernel)
theorem js_e29_0 : Cond.eq (.elem (.field (.string "TermReaderModel" 17) "java/lang/String" "value" "[B") (.int 0)) (.int 99) ∈ flatC (Jvm.Cond.and given_1 narrow_1) := List.mem_of_getElem? (i := 394) (by decide +kernel)
theorem js_e29_1 : Cond.eq (.elem (.field (.string "TermReaderModel" 17) "java/lang/String" "value" "[B") (.int 1)) (.int 104) ∈ flatC (Jvm.Cond.and given_1 narrow_1) := List.mem_of_getElem? (i := 395) (by decide +kernel)
theorem js_e29_2 : Cond.eq (.elem (.field (.string "TermReaderModel" 17) "java/lang/String" "value" "[B") (.int 2)) (.int 101) ∈ flatC (Jvm.Cond.and given_1 narrow_1) := List.mem_of_getElem? (i := 396) (by decide +kernel)
theorem js_e29_3 : Cond.eq (.elem (.field (.string "TermReaderModel" 17) "java/lang/String" "value" "[B") (.int 3)) (.int 99) ∈ flatC (Jvm.Cond.and given_1 narrow_1) := List.mem_of_getElem? (i := 397) (by decide +kernel)
theorem js_e29_4 : Cond.eq (.elem (.field (.string "TermReaderModel" 17) "java/lang/String" "value" "[B") (.int 4)) (.int 107) ∈ flatC (Jvm.Cond.and given_1 narrow_1) := List.mem_of_getElem? (i := 398) (by decide +kernel)
theorem js_e30_0 : Cond.eq (.elem (.field (.string "TermReaderModel" 19) "java/lang/String" "value" "[B") (.int 0)) (.int 110) ∈ flatC (Jvm.Cond.and given_1 narrow_1) := List.mem_of_getElem? (i := 404) (by decide +kernel)
theorem js_e30_1 : Cond.eq (.elem (.field (.string "TermReaderModel" 19) "java/lang/String" "value" "[B") (.int 1)) (.int 111) ∈ flatC (Jvm.Cond.and given_1 narrow_1) := List.mem_of_getElem? (i := 405) (by decide +kernel)
theorem js_e30_2 : Cond.eq (.elem (.field (.string "TermReaderModel" 19) "java/lang/String" "value" "[B") (.int 2)) (.int 114) ∈ flatC (Jvm.Cond.and given_1 narrow_1) := List.mem_of_getElem? (i := 406) (by decide +kernel)
theorem js_e30_3 : Cond.eq (.elem (.field (.string "TermReaderModel" 19) "java/lang/String" "value" "[B") (.int 3)) (.int 109) ∈ flatC (Jvm.Cond.and given_1 narrow_1) := List.mem_of_getElem? (i := 407) (by decide +kernel)
theorem js_e31_0 : Cond.eq (.elem (.field (.string "TermReaderModel" 21) "java/lang/String" "value" "[B") (.int 0)) (.int 102) ∈ flatC (Jvm.Cond.and given_1 narrow_1) := List.mem_of_getElem? (i := 413) (by decide +kernel)
theorem js_e31_1 : Cond.eq (.elem (.field (.string "TermReaderModel" 21) "java/lang/String" "value" "[B") (.int 1)) (.int 117) ∈ flatC (Jvm.Cond.and given_1 narrow_1) := List.mem_of_getElem? (i := 414) (by decide +kernel)
theorem js_e31_2 : Cond.eq (.elem (.field (.string "TermReaderModel" 21) "java/lang/String" "value" "[B") (.int 2)) (.int 110) ∈ flatC (Jvm.Cond.and given_1 narrow_1) := List.mem_of_getElem? (i := 415) (by decide +kernel)
theorem js_e32_0 : Cond.eq (.elem (.field (.string "TermReaderModel" 23) "java/lang/String" "value" "[B") (.int 0)) (.int 97) ∈ flatC (Jvm.Cond.and given_1 narrow_1) := List.mem_of_getElem? (i := 421) (by decide +kernel)
theorem js_e32_1 : Cond.eq (.elem (.field (.string "TermReaderModel" 23) "java/lang/String" "value" "[B") (.int 1)) (.int 108) ∈ flatC (Jvm.Cond.and given_1 narrow_1) := List.mem_of_getElem? (i := 422) (by decide +kernel)
theorem js_e32_2 : Cond.eq (.elem (.field (.string "TermReaderModel" 23) "java/lang/String" "value" "[B") (.int 2)) (.int 108) ∈ flatC (Jvm.Cond.and given_1 narrow_1) := List.mem_of_getElem? (i := 423) (by decide +kernel)
theorem js_e33_0 : Cond.eq (.elem (.field (.string "TermReaderModel" 25) "java/lang/String" "value" "[B") (.int 0)) (.int 108) ∈ flatC (Jvm.Cond.and given_1 narrow_1) := List.mem_of_getElem? (i := 429) (by decide +kernel)
theorem js_e33_1 : Cond.eq (.elem (.field (.string "TermReaderModel" 25) "java/lang/String" "value" "[B") (.int 1)) (.int 101) ∈ flatC (Jvm.Cond.and given_1 narrow_1) := List.mem_of_getElem? (i := 430) (by decide +kernel)
theorem js_e33_2 : Cond.eq (.elem (.field (.string "TermReaderModel" 25) "java/lang/String" "value" "[B") (.int 2)) (.int 116) ∈ flatC (Jvm.Cond.and given_1 narrow_1) := List.mem_of_getElem? (i := 431) (by decide +kernel)
theorem js_e34_0 : Cond.eq (.elem (.field (.string "TermReaderModel" 27) "java/lang/String" "value" "[B") (.int 0)) (.int 105) ∈ flatC (Jvm.Cond.and given_1 narrow_1) := List.mem_of_getElem? (i := 437) (by decide +kernel)
theorem js_e34_1 : Cond.eq (.elem (.field (.string "TermReaderModel" 27) "java/lang/String" "value" "[B") (.int 1)) (.int 110) ∈ flatC (Jvm.Cond.and given_1 narrow_1) := List.mem_of_getElem? (i := 438) (by decide +kernel)
theorem js_e35_0 : Cond.eq (.elem (.field (.string "TermReaderModel" 29) "java/lang/String" "value" "[B") (.int 0)) (.int 114) ∈ flatC (Jvm.Cond.and given_1 narrow_1) := List.mem_of_getElem? (i := 444) (by decide +kernel)
theorem js_e35_1 : Cond.eq (.elem (.field (.string "TermReaderModel" 29) "java/lang/String" "value" "[B") (.int 1)) (.int 101) ∈ flatC (Jvm.Cond.and given_1 narrow_1) := List.mem_of_getElem? (i := 445) (by decide +kernel)
theorem js_e35_2 : Cond.eq (.elem (.field (.string "TermReaderModel" 29) "java/lang/String" "value" "[B") (.int 2)) (.int 99) ∈ flatC (Jvm.Cond.and given_1 narrow_1) := List.mem_of_getElem? (i := 446) (by decide +kernel)
theorem js_e36_0 : Cond.eq (.elem (.field (.string "TermReaderModel" 137) "java/lang/String" "value" "[B") (.int 0)) (.int 80) ∈ flatC (Jvm.Cond.and given_1 narrow_1) := List.mem_of_getElem? (i := 452) (by decide +kernel)
theorem js_e36_1 : Cond.eq (.elem (.field (.string "TermReaderModel" 137) "java/lang/String" "value" "[B") (.int 1)) (.int 114) ∈ flatC (Jvm.Cond.and given_1 narrow_1) := List.mem_of_getElem? (i := 453) (by decide +kernel)
theorem js_e36_2 : Cond.eq (.elem (.field (.string "TermReaderModel" 137) "java/lang/String" "value" "[B") (.int 2)) (.int 111) ∈ flatC (Jvm.Cond.and given_1 narrow_1) := List.mem_of_getElem? (i := 454) (by decide +kernel)
theorem js_e36_3 : Cond.eq (.elem (.field (.string "TermReaderModel" 137) "java/lang/String" "value" "[B") (.int 3)) (.int 112) ∈ flatC (Jvm.Cond.and given_1 narrow_1) := List.mem_of_getElem? (i := 455) (by decide +kernel)
theorem js_e37_0 : Cond.eq (.elem (.field (.string "TermReaderModel" 139) "java/lang/String" "value" "[B") (.int 0)) (.int 84) ∈ flatC (Jvm.Cond.and given_1 narrow_1) := List.mem_of_getElem? (i := 462) (by decide +kernel)
theorem js_e37_1 : Cond.eq (.elem (.field (.string "TermReaderModel" 139) "java/lang/String" "value" "[B") (.int 1)) (.int 121) ∈ flatC (Jvm.Cond.and given_1 narrow_1) := List.mem_of_getElem? (i := 463) (by decide +kernel)
theorem js_e37_2 : Cond.eq (.elem (.field (.string "TermReaderModel" 139) "java/lang/String" "value" "[B") (.int 2)) (.int 112) ∈ flatC (Jvm.Cond.and given_1 narrow_1) := List.mem_of_getElem? (i := 464) (by decide +kernel)
theorem js_e37_3 : Cond.eq (.elem (.field (.string "TermReaderModel" 139) "java/lang/String" "value" "[B") (.int 3)) (.int 101) ∈ flatC (Jvm.Cond.and given_1 narrow_1) := List.mem_of_getElem? (i := 465) (by decide +kernel)
theorem js_e38_0 : Cond.eq (.elem (.field (.string "TermReaderModel" 249) "java/lang/String" "value" "[B") (.int 0)) (.int 58) ∈ flatC (Jvm.Cond.and given_1 narrow_1) := List.mem_of_getElem? (i := 472) (by decide +kernel)
theorem js_e38_1 : Cond.eq (.elem (.field (.string "TermReaderModel" 249) "java/lang/String" "value" "[B") (.int 1)) (.int 32) ∈ flatC (Jvm.Cond.and given_1 narrow_1) := List.mem_of_getElem? (i := 473) (by decide +kernel)
theorem js_e39_0 : Cond.eq (.elem (.field (.string "TermReaderModel" 258) "java/lang/String" "value" "[B") (.int 0)) (.int 32) ∈ flatC (Jvm.Cond.and given_1 narrow_1) := List.mem_of_getElem? (i := 478) (by decide +kernel)
theorem js_e39_1 : Cond.eq (.elem (.field (.string "TermReaderModel" 258) "java/lang/String" "value" "[B") (.int 1)) (.int 58) ∈ flatC (Jvm.Cond.and given_1 narrow_1) := List.mem_of_getElem? (i := 479) (by decide +kernel)
theorem js_e39_2 : Cond.eq (.elem (.field (.string "TermReaderModel" 258) "java/lang/String" "value" "[B") (.int 2)) (.int 61) ∈ flatC (Jvm.Cond.and given_1 narrow_1) := List.mem_of_getElem? (i := 480) (by decide +kernel)
theorem js_e39_3 : Cond.eq (.elem (.field (.string "TermReaderModel" 258) "java/lang/String" "value" "[B") (.int 3)) (.int 32) ∈ flatC (Jvm.Cond.and given_1 narrow_1) := List.mem_of_getElem? (i := 481) (by decide +kernel)
theorem js_e40_0 : Cond.eq (.elem (.field (.string "TermReaderModel" 260) "java/lang/String" "value" "[B") (.int 0)) (.int 32) ∈ flatC (Jvm.Cond.and given_1 narrow_1) := List.mem_of_getElem? (i := 486) (by decide +kernel)
theorem js_e40_1 : Cond.eq (.elem (.field (.string "TermReaderModel" 260) "java/lang/String" "value" "[B") (.int 1)) (.int 124) ∈ flatC (Jvm.Cond.and given_1 narrow_1) := List.mem_of_getElem? (i := 487) (by decide +kernel)
theorem js_e40_2 : Cond.eq (.elem (.field (.string "TermReaderModel" 260) "java/lang/String" "value" "[B") (.int 2)) (.int 32) ∈ flatC (Jvm.Cond.and given_1 narrow_1) := List.mem_of_getElem? (i := 488) (by decide +kernel)
theorem js_e41_0 : Cond.eq (.elem (.field (.string "TermReaderModel" 278) "java/lang/String" "value" "[B") (.int 0)) (.int 102) ∈ flatC (Jvm.Cond.and given_1 narrow_1) := List.mem_of_getElem? (i := 493) (by decide +kernel)
theorem js_e41_1 : Cond.eq (.elem (.field (.string "TermReaderModel" 278) "java/lang/String" "value" "[B") (.int 1)) (.int 117) ∈ flatC (Jvm.Cond.and given_1 narrow_1) := List.mem_of_getElem? (i := 494) (by decide +kernel)
theorem js_e41_2 : Cond.eq (.elem (.field (.string "TermReaderModel" 278) "java/lang/String" "value" "[B") (.int 2)) (.int 110) ∈ flatC (Jvm.Cond.and given_1 narrow_1) := List.mem_of_getElem? (i := 495) (by decide +kernel)
theorem js_e41_3 : Cond.eq (.elem (.field (.string "TermReaderModel" 278) "java/lang/String" "value" "[B") (.int 3)) (.int 32) ∈ flatC (Jvm.Cond.and given_1 narrow_1) := List.mem_of_getElem? (i := 496) (by decide +kernel)
theorem js_e42_0 : Cond.eq (.elem (.field (.string "TermReaderModel" 280) "java/lang/String" "value" "[B") (.int 0)) (.int 97) ∈ flatC (Jvm.Cond.and given_1 narrow_1) := List.mem_of_getElem? (i := 501) (by decide +kernel)
theorem js_e42_1 : Cond.eq (.elem (.field (.string "TermReaderModel" 280) "java/lang/String" "value" "[B") (.int 1)) (.int 108) ∈ flatC (Jvm.Cond.and given_1 narrow_1) := List.mem_of_getElem? (i := 502) (by decide +kernel)
theorem js_e42_2 : Cond.eq (.elem (.field (.string "TermReaderModel" 280) "java/lang/String" "value" "[B") (.int 2)) (.int 108) ∈ flatC (Jvm.Cond.and given_1 narrow_1) := List.mem_of_getElem? (i := 503) (by decide +kernel)
theorem js_e42_3 : Cond.eq (.elem (.field (.string "TermReaderModel" 280) "java/lang/String" "value" "[B") (.int 3)) (.int 32) ∈ flatC (Jvm.Cond.and given_1 narrow_1) := List.mem_of_getElem? (i := 504) (by decide +kernel)
theorem js_e43_0 : Cond.eq (.elem (.field (.string "TermReaderModel" 282) "java/lang/String" "value" "[B") (.int 0)) (.int 32) ∈ flatC (Jvm.Cond.and given_1 narrow_1) := List.mem_of_getElem? (i := 509) (by decide +kernel)
theorem js_e43_1 : Cond.eq (.elem (.field (.string "TermReaderModel" 282) "java/lang/String" "value" "[B") (.int 1)) (.int 61) ∈ flatC (Jvm.Cond.and given_1 narrow_1) := List.mem_of_getElem? (i := 510) (by decide +kernel)
theorem js_e43_2 : Cond.eq (.elem (.field (.string "TermReaderModel" 282) "java/lang/String" "value" "[B") (.int 2)) (.int 62) ∈ flatC (Jvm.Cond.and given_1 narrow_1) := List.mem_of_getElem? (i := 511) (by decide +kernel)
theorem js_e43_3 : Cond.eq (.elem (.field (.string "TermReaderModel" 282) "java/lang/String" "value" "[B") (.int 3)) (.int 32) ∈ flatC (Jvm.Cond.and given_1 narrow_1) := List.mem_of_getElem? (i := 512) (by decide +kernel)
theorem js_e44_0 : Cond.eq (.elem (.field (.string "TermReaderModel" 284) "java/lang/String" "value" "[B") (.int 0)) (.int 44) ∈ flatC (Jvm.Cond.and given_1 narrow_1) := List.mem_of_getElem? (i := 517) (by decide +kernel)
theorem js_e44_1 : Cond.eq (.elem (.field (.string "TermReaderModel" 284) "java/lang/String" "value" "[B") (.int 1)) (.int 32) ∈ flatC (Jvm.Cond.and given_1 narrow_1) := List.mem_of_getElem? (i := 518) (by decide +kernel)
theorem js_e45_0 : Cond.eq (.elem (.field (.string "TermReaderModel" 286) "java/lang/String" "value" "[B") (.int 0)) (.int 108) ∈ flatC (Jvm.Cond.and given_1 narrow_1) := List.mem_of_getElem? (i := 523) (by decide +kernel)
theorem js_e45_1 : Cond.eq (.elem (.field (.string "TermReaderModel" 286) "java/lang/String" "value" "[B") (.int 1)) (.int 101) ∈ flatC (Jvm.Cond.and given_1 narrow_1) := List.mem_of_getElem? (i := 524) (by decide +kernel)
theorem js_e45_2 : Cond.eq (.elem (.field (.string "TermReaderModel" 286) "java/lang/String" "value" "[B") (.int 2)) (.int 116) ∈ flatC (Jvm.Cond.and given_1 narrow_1) := List.mem_of_getElem? (i := 525) (by decide +kernel)
theorem js_e45_3 : Cond.eq (.elem (.field (.string "TermReaderModel" 286) "java/lang/String" "value" "[B") (.int 3)) (.int 32) ∈ flatC (Jvm.Cond.and given_1 narrow_1) := List.mem_of_getElem? (i := 526) (by decide +kernel)
theorem js_e46_0 : Cond.eq (.elem (.field (.string "TermReaderModel" 288) "java/lang/String" "value" "[B") (.int 0)) (.int 32) ∈ flatC (Jvm.Cond.and given_1 narrow_1) := List.mem_of_getElem? (i := 531) (by decide +kernel)
theorem js_e46_1 : Cond.eq (.elem (.field (.string "TermReaderModel" 288) "java/lang/String" "value" "[B") (.int 1)) (.int 105) ∈ flatC (Jvm.Cond.and given_1 narrow_1) := List.mem_of_getElem? (i := 532) (by decide +kernel)
theorem js_e46_2 : Cond.eq (.elem (.field (.string "TermReaderModel" 288) "java/lang/String" "value" "[B") (.int 2)) (.int 110) ∈ flatC (Jvm.Cond.and given_1 narrow_1) := List.mem_of_getElem? (i := 533) (by decide +kernel)
theorem js_e46_3 : Cond.eq (.elem (.field (.string "TermReaderModel" 288) "java/lang/String" "value" "[B") (.int 3)) (.int 32) ∈ flatC (Jvm.Cond.and given_1 narrow_1) := List.mem_of_getElem? (i := 534) (by decide +kernel)
theorem js_e47_0 : Cond.eq (.elem (.field (.string "TermReaderModel" 290) "java/lang/String" "value" "[B") (.int 0)) (.int 32) ∈ flatC (Jvm.Cond.and given_1 narrow_1) := List.mem_of_getElem? (i := 539) (by decide +kernel)
theorem js_e47_1 : Cond.eq (.elem (.field (.string "TermReaderModel" 290) "java/lang/String" "value" "[B") (.int 1)) (.int 45) ∈ flatC (Jvm.Cond.and given_1 narrow_1) := List.mem_of_getElem? (i := 540) (by decide +kernel)
theorem js_e47_2 : Cond.eq (.elem (.field (.string "TermReaderModel" 290) "java/lang/String" "value" "[B") (.int 2)) (.int 62) ∈ flatC (Jvm.Cond.and given_1 narrow_1) := List.mem_of_getElem? (i := 541) (by decide +kernel)
theorem js_e47_3 : Cond.eq (.elem (.field (.string "TermReaderModel" 290) "java/lang/String" "value" "[B") (.int 3)) (.int 32) ∈ flatC (Jvm.Cond.and given_1 narrow_1) := List.mem_of_getElem? (i := 542) (by decide +kernel)
theorem js_e48_0 : Cond.eq (.elem (.field (.string "TermReaderModel" 295) "java/lang/String" "value" "[B") (.int 0)) (.int 114) ∈ flatC (Jvm.Cond.and given_1 narrow_1) := List.mem_of_getElem? (i := 547) (by decide +kernel)
theorem js_e48_1 : Cond.eq (.elem (.field (.string "TermReaderModel" 295) "java/lang/String" "value" "[B") (.int 1)) (.int 101) ∈ flatC (Jvm.Cond.and given_1 narrow_1) := List.mem_of_getElem? (i := 548) (by decide +kernel)
theorem js_e48_2 : Cond.eq (.elem (.field (.string "TermReaderModel" 295) "java/lang/String" "value" "[B") (.int 2)) (.int 99) ∈ flatC (Jvm.Cond.and given_1 narrow_1) := List.mem_of_getElem? (i := 549) (by decide +kernel)
theorem js_e48_3 : Cond.eq (.elem (.field (.string "TermReaderModel" 295) "java/lang/String" "value" "[B") (.int 3)) (.int 32) ∈ flatC (Jvm.Cond.and given_1 narrow_1) := List.mem_of_getElem? (i := 550) (by decide +kernel)
theorem js_f0 : ∀ j, j < jstrN 0 → Cond.eq (.elem (.field (.string "TermReader$Tokens" 90) "java/lang/String" "value" "[B") (.int (Int32.ofNat j))) (.int (jstr 0 j)) ∈ flatC (Jvm.Cond.and given_1 narrow_1) := by
  intro j hj
  have hj : j < 4 := hj
  match j, hj with
  | 0, _ => exact js_e0_0
  | 1, _ => exact js_e0_1
  | 2, _ => exact js_e0_2
  | 3, _ => exact js_e0_3
  | j + 4, h => exact absurd h (by omega)
theorem js_f1 : ∀ j, j < jstrN 1 → Cond.eq (.elem (.field (.string "TermReader$Tokens" 92) "java/lang/String" "value" "[B") (.int (Int32.ofNat j))) (.int (jstr 1 j)) ∈ flatC (Jvm.Cond.and given_1 narrow_1) := by
  intro j hj
  have hj : j < 4 := hj
  match j, hj with
  | 0, _ => exact js_e1_0
  | 1, _ => exact js_e1_1
  | 2, _ => exact js_e1_2
  | 3, _ => exact js_e1_3
  | j + 4, h => exact absurd h (by omega)
theorem js_f2 : ∀ j, j < jstrN 2 → Cond.eq (.elem (.field (.string "TermReader$Token" 9) "java/lang/String" "value" "[B") (.int (Int32.ofNat j))) (.int (jstr 2 j)) ∈ flatC (Jvm.Cond.and given_1 narrow_1) := by
  intro j hj
  have hj : j < 5 := hj
  match j, hj with
  | 0, _ => exact js_e2_0
  | 1, _ => exact js_e2_1
  | 2, _ => exact js_e2_2
  | 3, _ => exact js_e2_3
  | 4, _ => exact js_e2_4
  | j + 5, h => exact absurd h (by omega)
theorem js_f3 : ∀ j, j < jstrN 3 → Cond.eq (.elem (.field (.string "TermReader$Token" 11) "java/lang/String" "value" "[B") (.int (Int32.ofNat j))) (.int (jstr 3 j)) ∈ flatC (Jvm.Cond.and given_1 narrow_1) := by
  intro j hj
  have hj : j < 3 := hj
  match j, hj with
  | 0, _ => exact js_e3_0
  | 1, _ => exact js_e3_1
  | 2, _ => exact js_e3_2
  | j + 3, h => exact absurd h (by omega)
theorem js_f4 : ∀ j, j < jstrN 4 → Cond.eq (.elem (.field (.string "TermReader$Token" 13) "java/lang/String" "value" "[B") (.int (Int32.ofNat j))) (.int (jstr 4 j)) ∈ flatC (Jvm.Cond.and given_1 narrow_1) := by
  intro j hj
  have hj : j < 5 := hj
  match j, hj with
  | 0, _ => exact js_e4_0
  | 1, _ => exact js_e4_1
  | 2, _ => exact js_e4_2
  | 3, _ => exact js_e4_3
  | 4, _ => exact js_e4_4
  | j + 5, h => exact absurd h (by omega)
theorem js_f5 : ∀ j, j < jstrN 5 → Cond.eq (.elem (.field (.string "TermReader$Token" 15) "java/lang/String" "value" "[B") (.int (Int32.ofNat j))) (.int (jstr 5 j)) ∈ flatC (Jvm.Cond.and given_1 narrow_1) := by
  intro j hj
  have hj : j < 4 := hj
  match j, hj with
  | 0, _ => exact js_e5_0
  | 1, _ => exact js_e5_1
  | 2, _ => exact js_e5_2
  | 3, _ => exact js_e5_3
  | j + 4, h => exact absurd h (by omega)
theorem js_f6 : ∀ j, j < jstrN 6 → Cond.eq (.elem (.field (.string "TermReader$Token" 17) "java/lang/String" "value" "[B") (.int (Int32.ofNat j))) (.int (jstr 6 j)) ∈ flatC (Jvm.Cond.and given_1 narrow_1) := by
  intro j hj
  have hj : j < 5 := hj
  match j, hj with
  | 0, _ => exact js_e6_0
  | 1, _ => exact js_e6_1
  | 2, _ => exact js_e6_2
  | 3, _ => exact js_e6_3
  | 4, _ => exact js_e6_4
  | j + 5, h => exact absurd h (by omega)
theorem js_f7 : ∀ j, j < jstrN 7 → Cond.eq (.elem (.field (.string "TermReader$Token" 19) "java/lang/String" "value" "[B") (.int (Int32.ofNat j))) (.int (jstr 7 j)) ∈ flatC (Jvm.Cond.and given_1 narrow_1) := by
  intro j hj
  have hj : j < 4 := hj
  match j, hj with
  | 0, _ => exact js_e7_0
  | 1, _ => exact js_e7_1
  | 2, _ => exact js_e7_2
  | 3, _ => exact js_e7_3
  | j + 4, h => exact absurd h (by omega)
theorem js_f8 : ∀ j, j < jstrN 8 → Cond.eq (.elem (.field (.string "TermReader$Token" 21) "java/lang/String" "value" "[B") (.int (Int32.ofNat j))) (.int (jstr 8 j)) ∈ flatC (Jvm.Cond.and given_1 narrow_1) := by
  intro j hj
  have hj : j < 3 := hj
  match j, hj with
  | 0, _ => exact js_e8_0
  | 1, _ => exact js_e8_1
  | 2, _ => exact js_e8_2
  | j + 3, h => exact absurd h (by omega)
theorem js_f9 : ∀ j, j < jstrN 9 → Cond.eq (.elem (.field (.string "TermReader$Token" 23) "java/lang/String" "value" "[B") (.int (Int32.ofNat j))) (.int (jstr 9 j)) ∈ flatC (Jvm.Cond.and given_1 narrow_1) := by
  intro j hj
  have hj : j < 3 := hj
  match j, hj with
  | 0, _ => exact js_e9_0
  | 1, _ => exact js_e9_1
  | 2, _ => exact js_e9_2
  | j + 3, h => exact absurd h (by omega)
theorem js_f10 : ∀ j, j < jstrN 10 → Cond.eq (.elem (.field (.string "TermReader$Token" 25) "java/lang/String" "value" "[B") (.int (Int32.ofNat j))) (.int (jstr 10 j)) ∈ flatC (Jvm.Cond.and given_1 narrow_1) := by
  intro j hj
  have hj : j < 3 := hj
  match j, hj with
  | 0, _ => exact js_e10_0
  | 1, _ => exact js_e10_1
  | 2, _ => exact js_e10_2
  | j + 3, h => exact absurd h (by omega)
theorem js_f11 : ∀ j, j < jstrN 11 → Cond.eq (.elem (.field (.string "TermReader$Token" 27) "java/lang/String" "value" "[B") (.int (Int32.ofNat j))) (.int (jstr 11 j)) ∈ flatC (Jvm.Cond.and given_1 narrow_1) := by
  intro j hj
  have hj : j < 2 := hj
  match j, hj with
  | 0, _ => exact js_e11_0
  | 1, _ => exact js_e11_1
  | j + 2, h => exact absurd h (by omega)
theorem js_f12 : ∀ j, j < jstrN 12 → Cond.eq (.elem (.field (.string "TermReader$Token" 29) "java/lang/String" "value" "[B") (.int (Int32.ofNat j))) (.int (jstr 12 j)) ∈ flatC (Jvm.Cond.and given_1 narrow_1) := by
  intro j hj
  have hj : j < 3 := hj
  match j, hj with
  | 0, _ => exact js_e12_0
  | 1, _ => exact js_e12_1
  | 2, _ => exact js_e12_2
  | j + 3, h => exact absurd h (by omega)
theorem js_f13 : ∀ j, j < jstrN 13 → Cond.eq (.elem (.field (.string "TermReader$Token" 31) "java/lang/String" "value" "[B") (.int (Int32.ofNat j))) (.int (jstr 13 j)) ∈ flatC (Jvm.Cond.and given_1 narrow_1) := by
  intro j hj
  have hj : j < 1 := hj
  match j, hj with
  | 0, _ => exact js_e13_0
  | j + 1, h => exact absurd h (by omega)
theorem js_f14 : ∀ j, j < jstrN 14 → Cond.eq (.elem (.field (.string "TermReader$Token" 33) "java/lang/String" "value" "[B") (.int (Int32.ofNat j))) (.int (jstr 14 j)) ∈ flatC (Jvm.Cond.and given_1 narrow_1) := by
  intro j hj
  have hj : j < 1 := hj
  match j, hj with
  | 0, _ => exact js_e14_0
  | j + 1, h => exact absurd h (by omega)
theorem js_f15 : ∀ j, j < jstrN 15 → Cond.eq (.elem (.field (.string "TermReader$Token" 35) "java/lang/String" "value" "[B") (.int (Int32.ofNat j))) (.int (jstr 15 j)) ∈ flatC (Jvm.Cond.and given_1 narrow_1) := by
  intro j hj
  have hj : j < 1 := hj
  match j, hj with
  | 0, _ => exact js_e15_0
  | j + 1, h => exact absurd h (by omega)
theorem js_f16 : ∀ j, j < jstrN 16 → Cond.eq (.elem (.field (.string "TermReader$Token" 37) "java/lang/String" "value" "[B") (.int (Int32.ofNat j))) (.int (jstr 16 j)) ∈ flatC (Jvm.Cond.and given_1 narrow_1) := by
  intro j hj
  have hj : j < 2 := hj
  match j, hj with
  | 0, _ => exact js_e16_0
  | 1, _ => exact js_e16_1
  | j + 2, h => exact absurd h (by omega)
theorem js_f17 : ∀ j, j < jstrN 17 → Cond.eq (.elem (.field (.string "TermReader$Token" 39) "java/lang/String" "value" "[B") (.int (Int32.ofNat j))) (.int (jstr 17 j)) ∈ flatC (Jvm.Cond.and given_1 narrow_1) := by
  intro j hj
  have hj : j < 2 := hj
  match j, hj with
  | 0, _ => exact js_e17_0
  | 1, _ => exact js_e17_1
  | j + 2, h => exact absurd h (by omega)
theorem js_f18 : ∀ j, j < jstrN 18 → Cond.eq (.elem (.field (.string "TermReader$Token" 41) "java/lang/String" "value" "[B") (.int (Int32.ofNat j))) (.int (jstr 18 j)) ∈ flatC (Jvm.Cond.and given_1 narrow_1) := by
  intro j hj
  have hj : j < 2 := hj
  match j, hj with
  | 0, _ => exact js_e18_0
  | 1, _ => exact js_e18_1
  | j + 2, h => exact absurd h (by omega)
theorem js_f19 : ∀ j, j < jstrN 19 → Cond.eq (.elem (.field (.string "TermReader$Token" 43) "java/lang/String" "value" "[B") (.int (Int32.ofNat j))) (.int (jstr 19 j)) ∈ flatC (Jvm.Cond.and given_1 narrow_1) := by
  intro j hj
  have hj : j < 1 := hj
  match j, hj with
  | 0, _ => exact js_e19_0
  | j + 1, h => exact absurd h (by omega)
theorem js_f20 : ∀ j, j < jstrN 20 → Cond.eq (.elem (.field (.string "TermReader$Token" 45) "java/lang/String" "value" "[B") (.int (Int32.ofNat j))) (.int (jstr 20 j)) ∈ flatC (Jvm.Cond.and given_1 narrow_1) := by
  intro j hj
  have hj : j < 1 := hj
  match j, hj with
  | 0, _ => exact js_e20_0
  | j + 1, h => exact absurd h (by omega)
theorem js_f21 : ∀ j, j < jstrN 21 → Cond.eq (.elem (.field (.string "TermReader$Token" 47) "java/lang/String" "value" "[B") (.int (Int32.ofNat j))) (.int (jstr 21 j)) ∈ flatC (Jvm.Cond.and given_1 narrow_1) := by
  intro j hj
  have hj : j < 1 := hj
  match j, hj with
  | 0, _ => exact js_e21_0
  | j + 1, h => exact absurd h (by omega)
theorem js_f22 : ∀ j, j < jstrN 22 → Cond.eq (.elem (.field (.string "TermReader$Token" 49) "java/lang/String" "value" "[B") (.int (Int32.ofNat j))) (.int (jstr 22 j)) ∈ flatC (Jvm.Cond.and given_1 narrow_1) := by
  intro j hj
  have hj : j < 0 := hj
  match j, hj with
  | j + 0, h => exact absurd h (by omega)
theorem js_f23 : ∀ j, j < jstrN 23 → Cond.eq (.elem (.field (.string "TermReader$Writer" 124) "java/lang/String" "value" "[B") (.int (Int32.ofNat j))) (.int (jstr 23 j)) ∈ flatC (Jvm.Cond.and given_1 narrow_1) := by
  intro j hj
  have hj : j < 4 := hj
  match j, hj with
  | 0, _ => exact js_e23_0
  | 1, _ => exact js_e23_1
  | 2, _ => exact js_e23_2
  | 3, _ => exact js_e23_3
  | j + 4, h => exact absurd h (by omega)
theorem js_f24 : ∀ j, j < jstrN 24 → Cond.eq (.elem (.field (.string "TermReader$Writer" 126) "java/lang/String" "value" "[B") (.int (Int32.ofNat j))) (.int (jstr 24 j)) ∈ flatC (Jvm.Cond.and given_1 narrow_1) := by
  intro j hj
  have hj : j < 4 := hj
  match j, hj with
  | 0, _ => exact js_e24_0
  | 1, _ => exact js_e24_1
  | 2, _ => exact js_e24_2
  | 3, _ => exact js_e24_3
  | j + 4, h => exact absurd h (by omega)
theorem js_f25 : ∀ j, j < jstrN 25 → Cond.eq (.elem (.field (.string "TermReaderModel" 9) "java/lang/String" "value" "[B") (.int (Int32.ofNat j))) (.int (jstr 25 j)) ∈ flatC (Jvm.Cond.and given_1 narrow_1) := by
  intro j hj
  have hj : j < 5 := hj
  match j, hj with
  | 0, _ => exact js_e25_0
  | 1, _ => exact js_e25_1
  | 2, _ => exact js_e25_2
  | 3, _ => exact js_e25_3
  | 4, _ => exact js_e25_4
  | j + 5, h => exact absurd h (by omega)
theorem js_f26 : ∀ j, j < jstrN 26 → Cond.eq (.elem (.field (.string "TermReaderModel" 11) "java/lang/String" "value" "[B") (.int (Int32.ofNat j))) (.int (jstr 26 j)) ∈ flatC (Jvm.Cond.and given_1 narrow_1) := by
  intro j hj
  have hj : j < 3 := hj
  match j, hj with
  | 0, _ => exact js_e26_0
  | 1, _ => exact js_e26_1
  | 2, _ => exact js_e26_2
  | j + 3, h => exact absurd h (by omega)
theorem js_f27 : ∀ j, j < jstrN 27 → Cond.eq (.elem (.field (.string "TermReaderModel" 13) "java/lang/String" "value" "[B") (.int (Int32.ofNat j))) (.int (jstr 27 j)) ∈ flatC (Jvm.Cond.and given_1 narrow_1) := by
  intro j hj
  have hj : j < 5 := hj
  match j, hj with
  | 0, _ => exact js_e27_0
  | 1, _ => exact js_e27_1
  | 2, _ => exact js_e27_2
  | 3, _ => exact js_e27_3
  | 4, _ => exact js_e27_4
  | j + 5, h => exact absurd h (by omega)
theorem js_f28 : ∀ j, j < jstrN 28 → Cond.eq (.elem (.field (.string "TermReaderModel" 15) "java/lang/String" "value" "[B") (.int (Int32.ofNat j))) (.int (jstr 28 j)) ∈ flatC (Jvm.Cond.and given_1 narrow_1) := by
  intro j hj
  have hj : j < 4 := hj
  match j, hj with
  | 0, _ => exact js_e28_0
  | 1, _ => exact js_e28_1
  | 2, _ => exact js_e28_2
  | 3, _ => exact js_e28_3
  | j + 4, h => exact absurd h (by omega)
theorem js_f29 : ∀ j, j < jstrN 29 → Cond.eq (.elem (.field (.string "TermReaderModel" 17) "java/lang/String" "value" "[B") (.int (Int32.ofNat j))) (.int (jstr 29 j)) ∈ flatC (Jvm.Cond.and given_1 narrow_1) := by
  intro j hj
  have hj : j < 5 := hj
  match j, hj with
  | 0, _ => exact js_e29_0
  | 1, _ => exact js_e29_1
  | 2, _ => exact js_e29_2
  | 3, _ => exact js_e29_3
  | 4, _ => exact js_e29_4
  | j + 5, h => exact absurd h (by omega)
theorem js_f30 : ∀ j, j < jstrN 30 → Cond.eq (.elem (.field (.string "TermReaderModel" 19) "java/lang/String" "value" "[B") (.int (Int32.ofNat j))) (.int (jstr 30 j)) ∈ flatC (Jvm.Cond.and given_1 narrow_1) := by
  intro j hj
  have hj : j < 4 := hj
  match j, hj with
  | 0, _ => exact js_e30_0
  | 1, _ => exact js_e30_1
  | 2, _ => exact js_e30_2
  | 3, _ => exact js_e30_3
  | j + 4, h => exact absurd h (by omega)
theorem js_f31 : ∀ j, j < jstrN 31 → Cond.eq (.elem (.field (.string "TermReaderModel" 21) "java/lang/String" "value" "[B") (.int (Int32.ofNat j))) (.int (jstr 31 j)) ∈ flatC (Jvm.Cond.and given_1 narrow_1) := by
  intro j hj
  have hj : j < 3 := hj
  match j, hj with
  | 0, _ => exact js_e31_0
  | 1, _ => exact js_e31_1
  | 2, _ => exact js_e31_2
  | j + 3, h => exact absurd h (by omega)
theorem js_f32 : ∀ j, j < jstrN 32 → Cond.eq (.elem (.field (.string "TermReaderModel" 23) "java/lang/String" "value" "[B") (.int (Int32.ofNat j))) (.int (jstr 32 j)) ∈ flatC (Jvm.Cond.and given_1 narrow_1) := by
  intro j hj
  have hj : j < 3 := hj
  match j, hj with
  | 0, _ => exact js_e32_0
  | 1, _ => exact js_e32_1
  | 2, _ => exact js_e32_2
  | j + 3, h => exact absurd h (by omega)
theorem js_f33 : ∀ j, j < jstrN 33 → Cond.eq (.elem (.field (.string "TermReaderModel" 25) "java/lang/String" "value" "[B") (.int (Int32.ofNat j))) (.int (jstr 33 j)) ∈ flatC (Jvm.Cond.and given_1 narrow_1) := by
  intro j hj
  have hj : j < 3 := hj
  match j, hj with
  | 0, _ => exact js_e33_0
  | 1, _ => exact js_e33_1
  | 2, _ => exact js_e33_2
  | j + 3, h => exact absurd h (by omega)
theorem js_f34 : ∀ j, j < jstrN 34 → Cond.eq (.elem (.field (.string "TermReaderModel" 27) "java/lang/String" "value" "[B") (.int (Int32.ofNat j))) (.int (jstr 34 j)) ∈ flatC (Jvm.Cond.and given_1 narrow_1) := by
  intro j hj
  have hj : j < 2 := hj
  match j, hj with
  | 0, _ => exact js_e34_0
  | 1, _ => exact js_e34_1
  | j + 2, h => exact absurd h (by omega)
theorem js_f35 : ∀ j, j < jstrN 35 → Cond.eq (.elem (.field (.string "TermReaderModel" 29) "java/lang/String" "value" "[B") (.int (Int32.ofNat j))) (.int (jstr 35 j)) ∈ flatC (Jvm.Cond.and given_1 narrow_1) := by
  intro j hj
  have hj : j < 3 := hj
  match j, hj with
  | 0, _ => exact js_e35_0
  | 1, _ => exact js_e35_1
  | 2, _ => exact js_e35_2
  | j + 3, h => exact absurd h (by omega)
theorem js_f36 : ∀ j, j < jstrN 36 → Cond.eq (.elem (.field (.string "TermReaderModel" 137) "java/lang/String" "value" "[B") (.int (Int32.ofNat j))) (.int (jstr 36 j)) ∈ flatC (Jvm.Cond.and given_1 narrow_1) := by
  intro j hj
  have hj : j < 4 := hj
  match j, hj with
  | 0, _ => exact js_e36_0
  | 1, _ => exact js_e36_1
  | 2, _ => exact js_e36_2
  | 3, _ => exact js_e36_3
  | j + 4, h => exact absurd h (by omega)
theorem js_f37 : ∀ j, j < jstrN 37 → Cond.eq (.elem (.field (.string "TermReaderModel" 139) "java/lang/String" "value" "[B") (.int (Int32.ofNat j))) (.int (jstr 37 j)) ∈ flatC (Jvm.Cond.and given_1 narrow_1) := by
  intro j hj
  have hj : j < 4 := hj
  match j, hj with
  | 0, _ => exact js_e37_0
  | 1, _ => exact js_e37_1
  | 2, _ => exact js_e37_2
  | 3, _ => exact js_e37_3
  | j + 4, h => exact absurd h (by omega)
theorem js_f38 : ∀ j, j < jstrN 38 → Cond.eq (.elem (.field (.string "TermReaderModel" 249) "java/lang/String" "value" "[B") (.int (Int32.ofNat j))) (.int (jstr 38 j)) ∈ flatC (Jvm.Cond.and given_1 narrow_1) := by
  intro j hj
  have hj : j < 2 := hj
  match j, hj with
  | 0, _ => exact js_e38_0
  | 1, _ => exact js_e38_1
  | j + 2, h => exact absurd h (by omega)
theorem js_f39 : ∀ j, j < jstrN 39 → Cond.eq (.elem (.field (.string "TermReaderModel" 258) "java/lang/String" "value" "[B") (.int (Int32.ofNat j))) (.int (jstr 39 j)) ∈ flatC (Jvm.Cond.and given_1 narrow_1) := by
  intro j hj
  have hj : j < 4 := hj
  match j, hj with
  | 0, _ => exact js_e39_0
  | 1, _ => exact js_e39_1
  | 2, _ => exact js_e39_2
  | 3, _ => exact js_e39_3
  | j + 4, h => exact absurd h (by omega)
theorem js_f40 : ∀ j, j < jstrN 40 → Cond.eq (.elem (.field (.string "TermReaderModel" 260) "java/lang/String" "value" "[B") (.int (Int32.ofNat j))) (.int (jstr 40 j)) ∈ flatC (Jvm.Cond.and given_1 narrow_1) := by
  intro j hj
  have hj : j < 3 := hj
  match j, hj with
  | 0, _ => exact js_e40_0
  | 1, _ => exact js_e40_1
  | 2, _ => exact js_e40_2
  | j + 3, h => exact absurd h (by omega)
theorem js_f41 : ∀ j, j < jstrN 41 → Cond.eq (.elem (.field (.string "TermReaderModel" 278) "java/lang/String" "value" "[B") (.int (Int32.ofNat j))) (.int (jstr 41 j)) ∈ flatC (Jvm.Cond.and given_1 narrow_1) := by
  intro j hj
  have hj : j < 4 := hj
  match j, hj with
  | 0, _ => exact js_e41_0
  | 1, _ => exact js_e41_1
  | 2, _ => exact js_e41_2
  | 3, _ => exact js_e41_3
  | j + 4, h => exact absurd h (by omega)
theorem js_f42 : ∀ j, j < jstrN 42 → Cond.eq (.elem (.field (.string "TermReaderModel" 280) "java/lang/String" "value" "[B") (.int (Int32.ofNat j))) (.int (jstr 42 j)) ∈ flatC (Jvm.Cond.and given_1 narrow_1) := by
  intro j hj
  have hj : j < 4 := hj
  match j, hj with
  | 0, _ => exact js_e42_0
  | 1, _ => exact js_e42_1
  | 2, _ => exact js_e42_2
  | 3, _ => exact js_e42_3
  | j + 4, h => exact absurd h (by omega)
theorem js_f43 : ∀ j, j < jstrN 43 → Cond.eq (.elem (.field (.string "TermReaderModel" 282) "java/lang/String" "value" "[B") (.int (Int32.ofNat j))) (.int (jstr 43 j)) ∈ flatC (Jvm.Cond.and given_1 narrow_1) := by
  intro j hj
  have hj : j < 4 := hj
  match j, hj with
  | 0, _ => exact js_e43_0
  | 1, _ => exact js_e43_1
  | 2, _ => exact js_e43_2
  | 3, _ => exact js_e43_3
  | j + 4, h => exact absurd h (by omega)
theorem js_f44 : ∀ j, j < jstrN 44 → Cond.eq (.elem (.field (.string "TermReaderModel" 284) "java/lang/String" "value" "[B") (.int (Int32.ofNat j))) (.int (jstr 44 j)) ∈ flatC (Jvm.Cond.and given_1 narrow_1) := by
  intro j hj
  have hj : j < 2 := hj
  match j, hj with
  | 0, _ => exact js_e44_0
  | 1, _ => exact js_e44_1
  | j + 2, h => exact absurd h (by omega)
theorem js_f45 : ∀ j, j < jstrN 45 → Cond.eq (.elem (.field (.string "TermReaderModel" 286) "java/lang/String" "value" "[B") (.int (Int32.ofNat j))) (.int (jstr 45 j)) ∈ flatC (Jvm.Cond.and given_1 narrow_1) := by
  intro j hj
  have hj : j < 4 := hj
  match j, hj with
  | 0, _ => exact js_e45_0
  | 1, _ => exact js_e45_1
  | 2, _ => exact js_e45_2
  | 3, _ => exact js_e45_3
  | j + 4, h => exact absurd h (by omega)
theorem js_f46 : ∀ j, j < jstrN 46 → Cond.eq (.elem (.field (.string "TermReaderModel" 288) "java/lang/String" "value" "[B") (.int (Int32.ofNat j))) (.int (jstr 46 j)) ∈ flatC (Jvm.Cond.and given_1 narrow_1) := by
  intro j hj
  have hj : j < 4 := hj
  match j, hj with
  | 0, _ => exact js_e46_0
  | 1, _ => exact js_e46_1
  | 2, _ => exact js_e46_2
  | 3, _ => exact js_e46_3
  | j + 4, h => exact absurd h (by omega)
theorem js_f47 : ∀ j, j < jstrN 47 → Cond.eq (.elem (.field (.string "TermReaderModel" 290) "java/lang/String" "value" "[B") (.int (Int32.ofNat j))) (.int (jstr 47 j)) ∈ flatC (Jvm.Cond.and given_1 narrow_1) := by
  intro j hj
  have hj : j < 4 := hj
  match j, hj with
  | 0, _ => exact js_e47_0
  | 1, _ => exact js_e47_1
  | 2, _ => exact js_e47_2
  | 3, _ => exact js_e47_3
  | j + 4, h => exact absurd h (by omega)
theorem js_f48 : ∀ j, j < jstrN 48 → Cond.eq (.elem (.field (.string "TermReaderModel" 295) "java/lang/String" "value" "[B") (.int (Int32.ofNat j))) (.int (jstr 48 j)) ∈ flatC (Jvm.Cond.and given_1 narrow_1) := by
  intro j hj
  have hj : j < 4 := hj
  match j, hj with
  | 0, _ => exact js_e48_0
  | 1, _ => exact js_e48_1
  | 2, _ => exact js_e48_2
  | 3, _ => exact js_e48_3
  | j + 4, h => exact absurd h (by omega)
theorem js_s6 : ∀ k, k < 49 → ∀ j, j < jstrN k → Cond.eq (.elem (.field (.string (jstrO.getD k "") (jstrX.getD k 0)) "java/lang/String" "value" "[B") (.int (Int32.ofNat j))) (.int (jstr k j)) ∈ flatC (Jvm.Cond.and given_1 narrow_1) := by
  intro k hk
  match k, hk with
  | 0, _ => exact js_f0
  | 1, _ => exact js_f1
  | 2, _ => exact js_f2
  | 3, _ => exact js_f3
  | 4, _ => exact js_f4
  | 5, _ => exact js_f5
  | 6, _ => exact js_f6
  | 7, _ => exact js_f7
  | 8, _ => exact js_f8
  | 9, _ => exact js_f9
  | 10, _ => exact js_f10
  | 11, _ => exact js_f11
  | 12, _ => exact js_f12
  | 13, _ => exact js_f13
  | 14, _ => exact js_f14
  | 15, _ => exact js_f15
  | 16, _ => exact js_f16
  | 17, _ => exact js_f17
  | 18, _ => exact js_f18
  | 19, _ => exact js_f19
  | 20, _ => exact js_f20
  | 21, _ => exact js_f21
  | 22, _ => exact js_f22
  | 23, _ => exact js_f23
  | 24, _ => exact js_f24
  | 25, _ => exact js_f25
  | 26, _ => exact js_f26
  | 27, _ => exact js_f27
  | 28, _ => exact js_f28
  | 29, _ => exact js_f29
  | 30, _ => exact js_f30
  | 31, _ => exact js_f31
  | 32, _ => exact js_f32
  | 33, _ => exact js_f33
  | 34, _ => exact js_f34
  | 35, _ => exact js_f35
  | 36, _ => exact js_f36
  | 37, _ => exact js_f37
  | 38, _ => exact js_f38
  | 39, _ => exact js_f39
  | 40, _ => exact js_f40
  | 41, _ => exact js_f41
  | 42, _ => exact js_f42
  | 43, _ => exact js_f43
  | 44, _ => exact js_f44
  | 45, _ => exact js_f45
  | 46, _ => exact js_f46
  | 47, _ => exact js_f47
  | 48, _ => exact js_f48
  | k + 49, h => exact absurd h (by omega)
theorem js_s7 : ∀ k, k < 49 → jstrN k < 2 ^ 31 := by decide +kernel
theorem js_c1 : Cond.eq (.static R_Js "COMPACT_STRINGS" "Z") (.int 1) ∈ flatC (Jvm.Cond.and given_1 narrow_1) := by decide +kernel
theorem js_c2 : Cond.laysStatic R_Js "COMPACT_STRINGS" "Z" ∈ lw_tbl := by decide +kernel
theorem js_c3 : Cond.isRef (.static "jdk/internal/util/Preconditions" "SIOOBE_FORMATTER" "Ljava/util/function/BiFunction;") ∈ flatC (Jvm.Cond.and given_1 narrow_1) := by decide +kernel
theorem js_c4 : Cond.laysStatic "jdk/internal/util/Preconditions" "SIOOBE_FORMATTER" "Ljava/util/function/BiFunction;" ∈ lw_tbl := by decide +kernel
theorem js_c5 : Cond.initialized "jdk/internal/util/Preconditions" ∈ lw_tbl := by decide +kernel
theorem js_c6 : Cond.initialized R_Js ∈ lw_tbl := by decide +kernel
theorem js_c7 : Cond.initialized R_Ru ∈ lw_tbl := by decide +kernel
theorem js_c8 : Cond.arrayOver (.object "java/lang/String") ∈ lw_tbl := by decide +kernel
theorem js_c9 : Cond.arrayClass .int ∈ lw_tbl := by decide +kernel
theorem js_c10 : Cond.arrayClass .byte ∈ lw_tbl := by decide +kernel
theorem js_iBy : Cond.instantiable R_By 3 ∈ lw_tbl := by decide +kernel
theorem js_iGr : Cond.instantiable R_Gr 7 ∈ lw_tbl := by decide +kernel
theorem js_iNa : Cond.instantiable R_Na 5 ∈ lw_tbl := by decide +kernel
theorem js_iPa : Cond.instantiable R_Pa 8 ∈ lw_tbl := by decide +kernel
theorem js_iTk : Cond.instantiable R_Tk 5 ∈ lw_tbl := by decide +kernel
theorem js_iTr : Cond.instantiable R_Tr 7 ∈ lw_tbl := by decide +kernel
theorem js_iWr : Cond.instantiable R_Wr 2 ∈ lw_tbl := by decide +kernel
theorem js_iTR : Cond.instantiable R_TR 7 ∈ lw_tbl := by decide +kernel
theorem js_iMo : Cond.instantiable R_Mo 32 ∈ lw_tbl := by decide +kernel
theorem js_rows {args : Array Value} {s : State} (hts : ∀ w ∈ lw_tbl, w.before args s = true) (hs : ∀ c ∈ flatC (Jvm.Cond.and given_1 narrow_1), c.before args s = true) {A : Nat → Prop} (hAn : ∀ a : Nat, a < s.heap.size → ¬ A a) : ∃ adR : Nat → Nat, jRa adR A s s.heap := by
  have h0 : ∀ k : Nat, ∃ t : Nat, k < 23 → va_Z R_Ru (jrowM.getD k "") "[I" (.ref t) A s s.heap ∧ va_T .int t (jrowN k) (fun j => .int (jrow k j)) A s s.heap := by
    intro k
    by_cases hk : k < 23
    · obtain ⟨t, ht, hT⟩ := va_Tof (tm := .static R_Ru (jrowM.getD k "") "[I") (f := fun j => .int (jrow k j)) (A := A) (js_r5 k hk) (hs _ (js_r2 k hk)) (va_eqt (hs _ (js_r3 k hk))) (fun j hj => va_eqt (hs _ (js_r4 k hk j hj))) hAn
      exact ⟨t, fun _ => ⟨va_Zof (hts _ (js_r1 k hk)) (hts _ js_c7) ht hAn, hT⟩⟩
    · exact ⟨0, fun h => absurd h hk⟩
  obtain ⟨ad, had⟩ := Classical.axiomOfChoice h0
  exact ⟨ad, fun k hk => had k hk⟩
theorem js_strs {args : Array Value} {s : State} (hts : ∀ w ∈ lw_tbl, w.before args s = true) (hs : ∀ c ∈ flatC (Jvm.Cond.and given_1 narrow_1), c.before args s = true) {A : Nat → Prop} (hAn : ∀ a : Nat, a < s.heap.size → ¬ A a) : ∃ adK adV : Nat → Nat, jSa adK adV A s s.heap ∧ jTa adK s := by
  have h0 : ∀ i : Nat, ∃ q : Nat × Nat, i < 49 → (va_O "java/lang/String" q.1 A s s.heap ∧ va_OF "java/lang/String" "coder" "B" (.int 0) q.1 A s s.heap ∧ va_OF "java/lang/String" "value" "[B" (.ref q.2) q.1 A s s.heap ∧ va_T .byte q.2 (jstrN i) (fun j => .int (jstr i j)) A s s.heap) ∧ vk_R (jstrO.getD i "") (jstrX.getD i 0) (jstrT.getD i "") q.1 s := by
    intro i
    by_cases hi : i < 49
    · obtain ⟨a, c, cA, kA, q1, q2, q3, q4, q5, q6, -⟩ := Cond.exactly_spec (args := args) (first := s) (o := none) (s := s) (idx := []) (t := .string (jstrO.getD i "") (jstrX.getD i 0)) (cls := "java/lang/String") (hs _ (js_s2 i hi))
      obtain ⟨t, ht, hT⟩ := va_Tof (f := fun j => .int (jstr i j)) (A := A) (js_s7 i hi) (hs _ (js_s4 i hi)) (va_eqt (hs _ (js_s5 i hi))) (fun j hj => va_eqt (hs _ (js_s6 i hi j hj))) hAn
      exact ⟨(a, t), fun _ => ⟨⟨⟨cA, q3, q5, by rw [q6]; exact q2, hAn a (Array.getElem?_eq_some_iff.mp q3).1⟩, vk_OFof q1 (va_eqt (hs _ (js_s3 i hi))) hAn, vk_OFof q1 ht hAn, hT⟩, js_vkR (hts _ (js_s1 i hi)) q1⟩⟩
    · exact ⟨(0, 0), fun h => absurd h hi⟩
  obtain ⟨ad, had⟩ := Classical.axiomOfChoice h0
  exact ⟨fun i => (ad i).1, fun i => (ad i).2, fun i hi => (had i hi).1, fun i hi => (had i hi).2⟩
theorem js_K {args : Array Value} {s : State} (hts : ∀ w ∈ lw_tbl, w.before args s = true) (hs : ∀ c ∈ flatC (Jvm.Cond.and given_1 narrow_1), c.before args s = true) {A : Nat → Prop} (hAn : ∀ a : Nat, a < s.heap.size → ¬ A a) : ∃ (dC : Nat → ClassId) (dI : Nat → Nat → Nat) (cI cB cS : ClassId) (adK adV adR : Nat → Nat), jK dC dI cI cB cS adK adV adR A s s.heap := by
  obtain ⟨c0, i0, k0⟩ := u_known (C := R_By) (T := T_By) (N := 3) (n := 3) hts (fun w h => gw_tbl w (in_By w h)) (hts _ js_iBy)
  obtain ⟨c1, i1, k1⟩ := u_known (C := R_Gr) (T := T_Gr) (N := 7) (n := 7) hts (fun w h => gw_tbl w (in_Gr w h)) (hts _ js_iGr)
  obtain ⟨c2, i2, k2⟩ := u_known (C := R_Na) (T := T_Na) (N := 5) (n := 5) hts (fun w h => gw_tbl w (in_Na w h)) (hts _ js_iNa)
  obtain ⟨c3, i3, k3⟩ := u_known (C := R_Pa) (T := T_Pa) (N := 8) (n := 8) hts (fun w h => gw_tbl w (in_Pa w h)) (hts _ js_iPa)
  obtain ⟨c4, i4, k4⟩ := u_known (C := R_Tk) (T := T_Tk) (N := 5) (n := 5) hts (fun w h => gw_tbl w (in_Tk w h)) (hts _ js_iTk)
  obtain ⟨c5, i5, k5⟩ := u_known (C := R_Tr) (T := T_Tr) (N := 7) (n := 7) hts (fun w h => gw_tbl w (in_Tr w h)) (hts _ js_iTr)
  obtain ⟨c6, i6, k6⟩ := u_known (C := R_Wr) (T := T_Wr) (N := 2) (n := 2) hts (fun w h => gw_tbl w (in_Wr w h)) (hts _ js_iWr)
  obtain ⟨c7, i7, k7⟩ := u_known (C := R_TR) (T := T_TR) (N := 7) (n := 7) hts (fun w h => gw_tbl w (in_TR w h)) (hts _ js_iTR)
  obtain ⟨c8, i8, k8⟩ := u_known (C := R_Mo) (T := T_Mo) (N := 32) (n := 32) hts (fun w h => gw_tbl w (in_Mo w h)) (hts _ js_iMo)
  obtain ⟨dC, dI, hKc⟩ : ∃ (dC : Nat → ClassId) (dI : Nat → Nat → Nat), ∀ (k : Nat) (q : vw_C), vwCl[k]? = some q → u_Kn s q.1 q.2.1 q.2.2 (dC k) (dI k) := by
    refine ⟨fun k => if k = 0 then c0 else if k = 1 then c1 else if k = 2 then c2 else if k = 3 then c3 else if k = 4 then c4 else if k = 5 then c5 else if k = 6 then c6 else if k = 7 then c7 else c8, fun k => if k = 0 then i0 else if k = 1 then i1 else if k = 2 then i2 else if k = 3 then i3 else if k = 4 then i4 else if k = 5 then i5 else if k = 6 then i6 else if k = 7 then i7 else i8, ?_⟩
    intro k q hq
    match k, hq with
    | 0, hq => cases hq; exact k0
    | 1, hq => cases hq; exact k1
    | 2, hq => cases hq; exact k2
    | 3, hq => cases hq; exact k3
    | 4, hq => cases hq; exact k4
    | 5, hq => cases hq; exact k5
    | 6, hq => cases hq; exact k6
    | 7, hq => cases hq; exact k7
    | 8, hq => cases hq; exact k8
    | k + 9, hq => simp [vwCl] at hq
  obtain ⟨cI, kI, pI, hI, hkI, hdI⟩ := Cond.arrayClass_spec (hts _ js_c9)
  obtain ⟨cB, kB, pB, hB, hkB, hdB⟩ := Cond.arrayClass_spec (hts _ js_c10)
  obtain ⟨pS, cS, kS, hpS, -, hkS, hdS, hS⟩ := Cond.arrayOver_spec (hts _ js_c8)
  obtain ⟨adR, hR⟩ := js_rows hts hs hAn
  obtain ⟨adK, adV, hSa, hTa⟩ := js_strs hts hs hAn
  refine ⟨dC, dI, cI, cB, cS, adK, adV, adR, ⟨hKc, ?_⟩, hR, hSa, hTa, va_Zof (hts _ js_c2) (hts _ js_c6) (va_eqi (hs _ js_c1)) hAn, va_Zqof (hts _ js_c4) (hts _ js_c5) (hs _ js_c3) hAn, va_AO.of (hts _ js_c8)⟩
  intro k q hq
  match k, hq with
  | 0, hq => cases hq; exact ⟨fun n z => ⟨fun k h => (by cases h), kI, hkI, pI, hdI⟩, hI⟩
  | 1, hq => cases hq; exact ⟨fun n z => ⟨fun k h => (by cases h), kB, hkB, pB, hdB⟩, hB⟩
  | 2, hq => cases hq; exact ⟨fun n z => ⟨fun k h => (by cases h), kS, hkS, pS, hdS⟩, kS, pS, hkS, hdS, hpS, hS⟩
  | k + 3, hq => simp at hq
/-- THE LAW, from its entry: given that the pure picture of its run answers 1 -/
theorem whole_of {p : Program} {e : Env} {s : State} {m : MethodId} {below : List Frame} {meth : Method} {c : Code} (l : Launch) {b L : Nat} {xs : Nat → Int32} (hf : f_La_law L xs = some 1) (C0 : lw_At p s m meth c b L xs) : W p l e room_1 s m #[Value.ref b] below meth c s.heap [] 0 0 (lw_Z below #[Value.ref b] s) (entryFrame m ([Value.ref b] : List Value).toArray 4) := by
  obtain ⟨hx, hb, hr, hml, hown, hts, hX, hbl, hlocks, hgv⟩ := C0
  have hs := flat_of_before _ hgv
  obtain ⟨dC, dI, cI, cB, cS, adK, adV, adR, hJ⟩ := js_K hts hs (A := fun q : Nat => s.heap.size ≤ q) (fun a h => Nat.not_le.mpr h)
  have hl := lv_entry ([.ref b]) (n := 4) (Nat.le_of_ble_eq_true rfl)
  rw [lg_entry_eq]
  generalize (lg_sl ([.ref b]) ++ List.replicate (4 - (lg_sl ([.ref b])).length) Slot.unset).toArray = ls at hl ⊢
  have hl : lv_has ls 4 [(0, .ref b)] := hl
  have hts1 : ∀ w ∈ (Cond.initialized R_TR :: gw), w.before #[Value.ref b] s = true := by
    intro w hw
    rcases List.mem_cons.mp hw with rfl | hw
    · exact hts _ (by decide +kernel)
    · exact hts _ (gw_tbl w hw)
  have hP : va_P (dC, dI) vwCl [] s.heap := fun k q h => by simp at h
  have hD : va_D (fun q : Nat => s.heap.size ≤ q) [] := ⟨fun i j p q h => by simp at h, fun k q h => by simp at h⟩
  exact c_La_start hx hb hr hml hown hts1 hX hbl hlocks hJ (fun _ h => h) (fun _ h => h) (Nat.not_le.mpr hbl) rfl hf s.heap [] ls hP hD va_S.rf hl
