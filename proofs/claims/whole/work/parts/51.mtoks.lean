-- the reference's tokens, by the state of the text
def sA (s : Nat ⊕ Nat) : Int32 := match s with
  | .inl j => nI j
  | .inr i => nI i
def sB (s : Nat ⊕ Nat) : Int32 := match s with
  | .inl _ => 1
  | .inr _ => 0
def sF (P : Nat → Nat) (s : Nat ⊕ Nat) : Int32 := match s with
  | .inl j => nI (P j)
  | .inr _ => -1
def ix (s : Nat ⊕ Nat) : Nat := match s with
  | .inl j => j
  | .inr i => i
/-- a fault here -/
def flS (s : Nat ⊕ Nat) : Nat ⊕ Nat := match s with
  | .inl j => .inl j
  | .inr i => .inl i
theorem sA_ix (s : Nat ⊕ Nat) : sA s = nI (ix s) := by cases s <;> rfl
section MT
variable {K P V : Nat → Nat} {m r : Nat} {mt mp ml : Nat → Int32} {s : Nat ⊕ Nat} {A : AR} {D : Nat}
/-- the reference's rows hold the tokens -/
def HM (K P : Nat → Nat) (m : Nat) (mt mp : Nat → Int32) : Prop := m ≤ 8000 ∧ (∀ i, i ≤ m → mt i = nI (cm (K i)) ∧ mp i = nI (P i)) ∧ ∀ i, K i ≤ 23
def lk (K : Nat → Nat) (s : Nat ⊕ Nat) : Int32 := match s with
  | .inl _ => 1
  | .inr i => nI (cm (K i))
theorem cm_inj {a b : Nat} (ha : a ≤ 23) (hb : b ≤ 23) : cm a = cm b ↔ a = b := by
  have key : ∀ a, a < 24 → ∀ b, b < 24 → (cm a = cm b ↔ a = b) := by decide +kernel
  exact key a (by omega) b (by omega)
theorem m_look (h : HM K P m mt mp) (hs : ix s ≤ m) : f_Mo_look mt (sA s) (sB s) = some (lk K s) := by
  have hm := h.1
  cases s with
  | inl j =>
    unfold f_Mo_look
    rw [if_neg (show ¬ sB (.inl j) = 0 by show ¬ (1 : Int32) = 0; decide)]
    rfl
  | inr i =>
    have hi : i ≤ m := hs
    show f_Mo_look mt (nI i) 0 = some (nI (cm (K i)))
    unfold f_Mo_look
    rw [if_pos (show (0 : Int32) = 0 from rfl), if_neg (nI_in (by omega) (by omega)), nI_clamp (by omega), (h.2.1 i hi).1]
theorem lk_eq (h : HM K P m mt mp) {i : Nat} (hr : r ≤ 23) (hk : K i = r) : lk K (.inr i) = nI (cm r) := by show nI (cm (K i)) = _; rw [hk]
theorem lk_ne (h : HM K P m mt mp) {i : Nat} (hr : r ≤ 23) (hk : K i ≠ r) : ¬ lk K (.inr i) = nI (cm r) := fun e => by
  have h1 := h.2.2 i
  have h2 := cm_lt h1
  have h3 := cm_lt hr
  have e1 : nI (cm (K i)) = nI (cm r) := e
  exact hk ((cm_inj h1 hr).mp ((nI_eq (by omega) (by omega)).mp e1))
theorem lk_bad {j : Nat} (h2 : 2 ≤ r) (hr : r ≤ 23) : ¬ lk K (.inl j) = nI (cm r) := fun e => by
  have e1 : nI 1 = nI (cm r) := e
  have h3 := cm_lt hr
  have e2 := (nI_eq (by omega) (by omega)).mp e1
  have e3 : cm r = cm 1 := e2.symm
  have := (cm_inj hr (by omega)).mp e3
  omega
theorem m_need1 : f_Mo_need mp (sA s) (sB s) (sF P s) 1 = some (sB s, sF P s) := by
  unfold f_Mo_need
  rw [if_neg (show ¬ (1 : Int32) = 0 by decide)]
theorem m_need0 (h : HM K P m mt mp) (hs : ix s ≤ m) : f_Mo_need mp (sA s) (sB s) (sF P s) 0 = some (sB (flS s), sF P (flS s)) := by
  have hm := h.1
  cases s with
  | inl j =>
    unfold f_Mo_need
    rw [if_pos (show (0 : Int32) = 0 from rfl), if_neg (show ¬ sB (.inl j) = 0 by show ¬ (1 : Int32) = 0; decide)]
    rfl
  | inr i =>
    have hi : i ≤ m := hs
    show f_Mo_need mp (nI i) 0 (-1) 0 = some (1, nI (P i))
    unfold f_Mo_need
    rw [if_pos (show (0 : Int32) = 0 from rfl), if_pos (show (0 : Int32) = 0 from rfl), if_neg (nI_in (by omega) (by omega)), nI_clamp (by omega), (h.2.1 i hi).2]
theorem sA_fl : sA (flS s) = sA s := by cases s <;> rfl
theorem m_take (h : HM K P m mt mp) (hs : ix s ≤ m) (h2 : 2 ≤ r) (hr : r ≤ 23) : f_Mo_take mt mp (sA s) (sB s) (sF P s) (nI (cm r)) = some (sA (tokS K r s), sB (tokS K r s), sF P (tokS K r s)) := by
  unfold f_Mo_take
  rw [m_look h hs, jb_some]
  cases s with
  | inl j =>
    rw [if_neg (lk_bad h2 hr)]
    unfold Mo_take_b14
    rw [m_need0 h hs, jb_some]
    rfl
  | inr i =>
    by_cases q : K i = r
    · have e : tokS K r (.inr i) = .inr (i + 1) := if_pos q
      rw [if_pos (lk_eq h hr q), e]
      unfold Mo_take_b14
      rw [m_need1, jb_some]
      show (if (0 : Int32) = 0 then some (nI i + 1, (0 : Int32), (-1 : Int32)) else some (nI i, 0, -1)) = some (nI (i + 1), 0, -1)
      rw [if_pos rfl, nI_1]
    · have e : tokS K r (.inr i) = .inl i := if_neg q
      rw [if_neg (lk_ne h hr q), e]
      unfold Mo_take_b14
      rw [m_need0 h hs, jb_some]
      rfl
theorem m_name (h : HM K P m mt mp) (hs : ix s ≤ m) (hD : D < 20000) {k : Int32} : f_Mo_name mt mp (sA s) (sB s) (sF P s) A.1 A.2.1 A.2.2.1 A.2.2.2.1 A.2.2.2.2.1 A.2.2.2.2.2 (nI D) k = some (nI D, sA (tokS K 2 s), sB (tokS K 2 s), sF P (tokS K 2 s), (dr A D k (nI (P (ix s))) (nI (ix s))).1, (dr A D k (nI (P (ix s))) (nI (ix s))).2.1, (dr A D k (nI (P (ix s))) (nI (ix s))).2.2.1, (dr A D k (nI (P (ix s))) (nI (ix s))).2.2.2.1, (dr A D k (nI (P (ix s))) (nI (ix s))).2.2.2.2.1, (dr A D k (nI (P (ix s))) (nI (ix s))).2.2.2.2.2, nI (D + 1)) := by
  have hm := h.1
  unfold f_Mo_name
  have e := m_take (r := 2) h hs (by omega) (by omega)
  have e1 : mp (sA s).toNatClampNeg = nI (P (ix s)) := by rw [sA_ix, nI_clamp (by omega)]; exact (h.2.1 _ hs).2
  have e2 : ¬ (sA s < 0 ∨ 8001 ≤ (sA s).toNatClampNeg) := by rw [sA_ix]; exact nI_in (by omega) (by omega)
  rw [if_neg e2, e1, m_draft hD, jb_some, show f_Mo_take mt mp (sA s) (sB s) (sF P s) 2 = _ from e, jb_some, sA_ix s]
def iaS (K : Nat → Nat) (s : Nat ⊕ Nat) : Int32 := match s with
  | .inl _ => 0
  | .inr i => if K i = 2 ∨ K i = 3 ∨ K i = 14 ∨ K i = 15 then 1 else 0
theorem m_isAtom (h : HM K P m mt mp) (hs : ix s ≤ m) : f_Mo_isAtom mt (sA s) (sB s) = some (iaS K s) := by
  unfold f_Mo_isAtom Mo_isAtom_b33
  simp only [m_look h hs, jb_some, nb1, nb0]
  cases s with
  | inl j =>
    rw [if_neg (show ¬ lk K (.inl j) = 2 from lk_bad (r := 2) (by omega) (by omega)), if_neg (show ¬ lk K (.inl j) = 3 from lk_bad (r := 3) (by omega) (by omega)), if_neg (show ¬ lk K (.inl j) = 30 from lk_bad (r := 14) (by omega) (by omega)), if_neg (show ¬ lk K (.inl j) = 4 from lk_bad (r := 15) (by omega) (by omega))]
    rfl
  | inr i =>
    show _ = some (if K i = 2 ∨ K i = 3 ∨ K i = 14 ∨ K i = 15 then (1 : Int32) else 0)
    by_cases q2 : K i = 2
    · rw [if_pos (show lk K (.inr i) = 2 from lk_eq h (by omega) q2), if_pos (Or.inl q2)]
    · rw [if_neg (show ¬ lk K (.inr i) = 2 from lk_ne (r := 2) h (by omega) q2)]
      by_cases q3 : K i = 3
      · rw [if_pos (show lk K (.inr i) = 3 from lk_eq h (by omega) q3), if_pos (by omega)]
      · rw [if_neg (show ¬ lk K (.inr i) = 3 from lk_ne (r := 3) h (by omega) q3)]
        by_cases q4 : K i = 14
        · rw [if_pos (show lk K (.inr i) = 30 from lk_eq h (by omega) q4), if_pos (by omega)]
        · rw [if_neg (show ¬ lk K (.inr i) = 30 from lk_ne (r := 14) h (by omega) q4)]
          by_cases q5 : K i = 15
          · rw [if_pos (show lk K (.inr i) = 4 from lk_eq h (by omega) q5), if_pos (by omega)]
          · rw [if_neg (show ¬ lk K (.inr i) = 4 from lk_ne (r := 15) h (by omega) q5), if_neg (by omega)]
theorem ix_tok (hP : HP K P m) (hs : ix s ≤ m) (h2 : 2 ≤ r) : ix (tokS K r s) ≤ m := by
  cases s with
  | inl j => exact hs
  | inr i =>
    by_cases q : K i = r
    · have e : tokS K r (.inr i) = .inr (i + 1) := if_pos q
      rw [e]
      exact lt_m hP hs (by omega)
    · have e : tokS K r (.inr i) = .inl i := if_neg q
      rw [e]
      exact hs
theorem ix_fl : ix (flS s) = ix s := by cases s <;> rfl
end MT
