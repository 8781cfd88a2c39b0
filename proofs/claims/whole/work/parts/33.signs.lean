-- signs; d = 256: no byte behind
def sgE (c d : Nat) : Nat := if c = 40 then 15 else if c = 41 then 16 else if c = 44 then 21 else if c = 45 then (if d = 62 then 20 else 1) else if c = 46 then 22 else if c = 58 then (if d = 61 then 18 else 17) else if c = 61 then (if d = 62 then 19 else 1) else if c = 124 then 23 else 1
def sglE (kd : Nat) : Nat := if kd = 1 then 0 else if kd = 18 ∨ kd = 19 ∨ kd = 20 then 2 else 1
theorem sgE_in (c d : Nat) : sgE c d = 1 ∨ (15 ≤ sgE c d ∧ sgE c d ≤ 23) := by
  unfold sgE
  repeat' split
  all_goals omega
def spx (kd : Nat) : Nat := if 4 ≤ kd ∧ kd ≤ 23 then kd - 2 else 22
theorem sp_at : ∀ kd, kd < 24 → f_To_spelling (nI kd) = some (spx kd) ∧ spx kd < 49 ∧ (kd = 1 ∨ 15 ≤ kd → jstrN (spx kd) = sglE kd) := by decide +kernel
theorem c_signOf {c d : Nat} (hc : c < 256) (hd : d < 256) : f_To_signOf (nI c) (nI d) = some (nI (sgE c d)) := by
  have c1 : (nI c = (40 : Int32)) = (c = 40) := propext (nI_eq (b := 40) (by omega) (by decide))
  have c2 : (nI c = (41 : Int32)) = (c = 41) := propext (nI_eq (b := 41) (by omega) (by decide))
  have c3 : (nI c = (44 : Int32)) = (c = 44) := propext (nI_eq (b := 44) (by omega) (by decide))
  have c4 : (nI c = (45 : Int32)) = (c = 45) := propext (nI_eq (b := 45) (by omega) (by decide))
  have c5 : (nI c = (46 : Int32)) = (c = 46) := propext (nI_eq (b := 46) (by omega) (by decide))
  have c6 : (nI c = (58 : Int32)) = (c = 58) := propext (nI_eq (b := 58) (by omega) (by decide))
  have c7 : (nI c = (61 : Int32)) = (c = 61) := propext (nI_eq (b := 61) (by omega) (by decide))
  have c8 : (nI c = (124 : Int32)) = (c = 124) := propext (nI_eq (b := 124) (by omega) (by decide))
  have d1 : (nI d = (62 : Int32)) = (d = 62) := propext (nI_eq (b := 62) (by omega) (by decide))
  have d2 : (nI d = (61 : Int32)) = (d = 61) := propext (nI_eq (b := 61) (by omega) (by decide))
  unfold f_To_signOf sgE
  simp only [c1, c2, c3, c4, c5, c6, c7, c8, d1, d2, apply_ite nI, apply_ite some]
  rfl
theorem c_signOfN {c : Nat} (hc : c < 256) : f_To_signOf (nI c) (-1) = some (nI (sgE c 256)) := by
  have c1 : (nI c = (40 : Int32)) = (c = 40) := propext (nI_eq (b := 40) (by omega) (by decide))
  have c2 : (nI c = (41 : Int32)) = (c = 41) := propext (nI_eq (b := 41) (by omega) (by decide))
  have c3 : (nI c = (44 : Int32)) = (c = 44) := propext (nI_eq (b := 44) (by omega) (by decide))
  have c4 : (nI c = (45 : Int32)) = (c = 45) := propext (nI_eq (b := 45) (by omega) (by decide))
  have c5 : (nI c = (46 : Int32)) = (c = 46) := propext (nI_eq (b := 46) (by omega) (by decide))
  have c6 : (nI c = (58 : Int32)) = (c = 58) := propext (nI_eq (b := 58) (by omega) (by decide))
  have c7 : (nI c = (61 : Int32)) = (c = 61) := propext (nI_eq (b := 61) (by omega) (by decide))
  have c8 : (nI c = (124 : Int32)) = (c = 124) := propext (nI_eq (b := 124) (by omega) (by decide))
  have d1 : ((-1 : Int32) = (62 : Int32)) = (256 = 62) := propext ⟨fun q => absurd q (by decide), fun q => absurd q (by decide)⟩
  have d2 : ((-1 : Int32) = (61 : Int32)) = (256 = 61) := propext ⟨fun q => absurd q (by decide), fun q => absurd q (by decide)⟩
  unfold f_To_signOf sgE
  simp only [c1, c2, c3, c4, c5, c6, c7, c8, d1, d2, apply_ite nI, apply_ite some]
  rfl
section SG
variable {row : Nat → Int32} {len : Int32} {B : Nat → Nat} {n e : Nat} {k pl v : Nat → Int32}
theorem c_sign37 {a c x y : Nat} {sx sy : Int32} (ha : a < 2 ^ 20) (hc : c < 8001) (hs : f_To_signOf sy sx = some (nI (sgE x y))) : Tk_scanSign_b37 row len k pl v (nI c) (nI a) sx sy = some (nI (a + sglE (sgE x y)), upd k c (nI (sgE x y)), upd pl c (nI a), upd v c 0, nI (c + 1)) := by
  have h1 := sgE_in x y
  have h2 := sp_at (sgE x y) (by omega)
  unfold Tk_scanSign_b37
  rw [hs, jb_some, h2.1, jb_some, if_neg (by omega), js_len _ h2.2.1, jb_some, c_addToken hc, jb_some, h2.2.2 (by omega), nI_add]
theorem c_scanSign (h : RB row len B n) (he : e ≤ n) {a c : Nat} (ha : a < e) (hc : c < 8001) : f_Tk_scanSign row len k pl v (nI c) (nI a) (nI e) = some (nI (a + sglE (sgE (B a) (if a + 1 < e then B (a + 1) else 256))), upd k c (nI (sgE (B a) (if a + 1 < e then B (a + 1) else 256))), upd pl c (nI a), upd v c 0, nI (c + 1)) := by
  have hn := h.1
  have q := (h.2.2 a (by omega)).1
  unfold f_Tk_scanSign
  rw [if_pos (by rw [nI_ltI (by omega) (by omega)]; exact ha), p_at h (by omega), jb_some, nI_1]
  by_cases h1 : a + 1 < e
  · have q2 := (h.2.2 (a + 1) (by omega)).1
    rw [if_neg (by rw [nI_leI (by omega) (by omega)]; omega), p_at h (by omega), jb_some]
    simp only [if_pos h1]
    exact c_sign37 (by omega) hc (c_signOf q q2)
  · rw [if_pos (by rw [nI_leI (by omega) (by omega)]; omega)]
    simp only [if_neg h1]
    exact c_sign37 (by omega) hc (c_signOfN q)
theorem c_scanEnd {a c : Nat} (he : e ≤ 8000) (ha : e ≤ a) (ha2 : a ≤ 8000) (hc : c < 8001) : f_Tk_scanSign row len k pl v (nI c) (nI a) (nI e) = some (nI e, upd k c 0, upd pl c (nI e), upd v c 0, nI (c + 1)) := by
  unfold f_Tk_scanSign
  rw [if_neg (by rw [nI_ltI (by omega) (by omega)]; omega), c_addToken hc, jb_some, show nI e + (0 : Int32) = nI e from nI_add e 0]
end SG
