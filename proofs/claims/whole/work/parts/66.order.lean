-- a forest as a tree's rows, in the order of reading
def plc (P : Nat → Nat) (c : Nat) : Int32 := if c % 32 = 19 ∨ c % 32 = 0 then -1 else nI (P (c / 32))
/-- kinds, places, sizes, wholes of a forest from p on, its whole w -/
def pr (P : Nat → Nat) (ck cp cs cw : Nat → Int32) : Fo → Nat → Int32 → Prop
  | .add X Y, p, w => pr P ck cp cs cw X p w ∧ pr P ck cp cs cw Y (p + fs X) w
  | .pow X c, p, w => ck p = nI (c % 32) ∧ cp p = plc P c ∧ cs p = nI (fs X + 1) ∧ cw p = w ∧ pr P ck cp cs cw X (p + 1) (nI p)
  | _, _, _ => True
/-- its counts of parts -/
def pc (cn : Nat → Int32) : Fo → Nat → Prop
  | .add X Y, p => pc cn X p ∧ pc cn Y (p + fs X)
  | .pow X _, p => cn p = nI (fn X) ∧ pc cn X (p + 1)
  | _, _ => True
def qq (sz pn wh : Nat → Nat) : Fo → Nat → Nat → Prop
  | .add X Y, p, w => qq sz pn wh X p w ∧ qq sz pn wh Y (p + fs X) w
  | .pow X _, p, w => sz p = fs X + 1 ∧ pn p = fn X ∧ wh p = w ∧ qq sz pn wh X (p + 1) p
  | _, _, _ => True
def stp (sz : Nat → Nat) (p : Nat) : Nat → Nat
  | 0 => p
  | j + 1 => stp sz p j + sz (stp sz p j)
section TQ
variable {P : Nat → Nat} {ck cp cs cw cn dk dp ds dw : Nat → Int32} {sz pn wh : Nat → Nat}
theorem pr_ag (F : Fo) : ∀ (p : Nat) (w : Int32), pr P ck cp cs cw F p w → pr P dk dp ds dw F p w → ∀ k, p ≤ k → k < p + fs F → ck k = dk k ∧ cp k = dp k ∧ cs k = ds k ∧ cw k = dw k := by
  induction F with
  | add X Y hX hY =>
    intro p w h h' k h1 h2
    have h2' : k < p + (fs X + fs Y) := h2
    rcases Nat.lt_or_ge k (p + fs X) with q | q
    · exact hX p w h.1 h'.1 k h1 q
    · exact hY (p + fs X) w h.2 h'.2 k q (by omega)
  | pow X c hX =>
    intro p w h h' k h1 h2
    have h2' : k < p + (fs X + 1) := h2
    obtain ⟨a1, a2, a3, a4, a5⟩ := h
    obtain ⟨b1, b2, b3, b4, b5⟩ := h'
    by_cases q : k = p
    · subst q
      exact ⟨a1.trans b1.symm, a2.trans b2.symm, a3.trans b3.symm, a4.trans b4.symm⟩
    · exact hX (p + 1) _ a5 b5 k (by omega) (by omega)
  | _ => intro p w h h' k h1 h2; exact absurd h2 (by show ¬ k < p + 0; omega)
theorem pr_fr (F : Fo) : ∀ (p : Nat) (w : Int32), pr P ck cp cs cw F p w → (∀ k, p ≤ k → k < p + fs F → dk k = ck k ∧ dp k = cp k ∧ ds k = cs k ∧ dw k = cw k) → pr P dk dp ds dw F p w := by
  induction F with
  | add X Y hX hY =>
    intro p w h hk
    exact ⟨hX p w h.1 (fun k a b => hk k a (by show k < p + (fs X + fs Y); omega)), hY _ w h.2 (fun k a b => hk k (by omega) (by show k < p + (fs X + fs Y); omega))⟩
  | pow X c hX =>
    intro p w h hk
    obtain ⟨a1, a2, a3, a4, a5⟩ := h
    obtain ⟨b1, b2, b3, b4⟩ := hk p (Nat.le_refl _) (by show p < p + (fs X + 1); omega)
    exact ⟨b1.trans a1, b2.trans a2, b3.trans a3, b4.trans a4, hX _ _ a5 (fun k a b => hk k (by omega) (by show k < p + (fs X + 1); omega))⟩
  | _ => intro p w h hk; exact True.intro
theorem pc_fr {dn : Nat → Int32} (F : Fo) : ∀ (p : Nat), pc cn F p → (∀ k, p ≤ k → k < p + fs F → dn k = cn k) → pc dn F p := by
  induction F with
  | add X Y hX hY =>
    intro p h hk
    exact ⟨hX p h.1 (fun k a b => hk k a (by show k < p + (fs X + fs Y); omega)), hY _ h.2 (fun k a b => hk k (by omega) (by show k < p + (fs X + fs Y); omega))⟩
  | pow X c hX =>
    intro p h hk
    exact ⟨(hk p (Nat.le_refl _) (by show p < p + (fs X + 1); omega)).trans h.1, hX _ h.2 (fun k a b => hk k (by omega) (by show k < p + (fs X + 1); omega))⟩
  | _ => intro p h hk; exact True.intro
theorem fn_fs (F : Fo) : fn F ≤ fs F := by
  induction F with
  | add X Y hX hY => show fn X + fn Y ≤ fs X + fs Y; omega
  | pow X c hX => show 1 ≤ fs X + 1; omega
  | _ => exact Nat.le_refl 0
theorem qq_of (F : Fo) : ∀ (p w : Nat), p + fs F ≤ 10000 → w < 10000 → pr P ck cp cs cw F p (nI w) → pc cn F p → qq (fun k => (cs k).toNatClampNeg) (fun k => (cn k).toNatClampNeg) (fun k => (cw k).toNatClampNeg) F p w := by
  induction F with
  | add X Y hX hY =>
    intro p w hp hw h h'
    have hp' : p + (fs X + fs Y) ≤ 10000 := hp
    exact ⟨hX p w (by omega) hw h.1 h'.1, hY _ w (by omega) hw h.2 h'.2⟩
  | pow X c hX =>
    intro p w hp hw h h'
    have hp' : p + (fs X + 1) ≤ 10000 := hp
    obtain ⟨a1, a2, a3, a4, a5⟩ := h
    have hf := fn_fs X
    refine ⟨?_, ?_, ?_, hX _ p (by omega) (by omega) a5 h'.2⟩
    · show (cs p).toNatClampNeg = _; rw [a3, nI_clamp (by omega)]
    · show (cn p).toNatClampNeg = _; rw [h'.1, nI_clamp (by omega)]
    · show (cw p).toNatClampNeg = _; rw [a4, nI_clamp (by omega)]
  | _ => intro p w hp hw h h'; exact True.intro
theorem stp_add (p a b : Nat) : stp sz p (a + b) = stp sz (stp sz p a) b := by
  induction b with
  | zero => rfl
  | succ b ih => show stp sz p (a + b) + sz (stp sz p (a + b)) = stp sz (stp sz p a) b + sz (stp sz (stp sz p a) b); rw [ih]
theorem tpos_stp (k j : Nat) : tpos sz k j = stp sz (k + 1) j := by
  induction j with
  | zero => rfl
  | succ j ih => show tpos sz k j + sz (tpos sz k j) = stp sz (k + 1) j + sz (stp sz (k + 1) j); rw [ih]
theorem q_stp (F : Fo) : ∀ (p w : Nat), qq sz pn wh F p w → stp sz p (fn F) = p + fs F ∧ ∀ j, j < fn F → stp sz p j < p + fs F := by
  induction F with
  | add X Y hX hY =>
    intro p w h
    obtain ⟨a1, a2⟩ := hX p w h.1
    obtain ⟨b1, b2⟩ := hY _ w h.2
    constructor
    · show stp sz p (fn X + fn Y) = p + (fs X + fs Y)
      rw [stp_add, a1, b1]; omega
    · intro j hj
      have hj' : j < fn X + fn Y := hj
      show stp sz p j < p + (fs X + fs Y)
      rcases Nat.lt_or_ge j (fn X) with q | q
      · have := a2 j q; omega
      · have := b2 (j - fn X) (by omega)
        rw [show j = fn X + (j - fn X) by omega, stp_add, a1]
        omega
  | pow X c hX =>
    intro p w h
    constructor
    · show p + sz p = p + (fs X + 1); rw [h.1]
    · intro j hj
      have hj' : j < 1 := hj
      have : j = 0 := by omega
      subst this
      show p < p + (fs X + 1)
      omega
  | _ => intro p w h; exact ⟨rfl, fun j hj => absurd hj (by show ¬ j < 0; omega)⟩
theorem q_at (F : Fo) : ∀ (p w : Nat), qq sz pn wh F p w → ∀ k, p ≤ k → k < p + fs F → 1 ≤ sz k ∧ k + sz k ≤ p + fs F ∧ (∀ j, j < pn k → tpos sz k j < k + sz k) ∧ tpos sz k (pn k) = k + sz k := by
  induction F with
  | add X Y hX hY =>
    intro p w h k h1 h2
    have h2' : k < p + (fs X + fs Y) := h2
    show 1 ≤ sz k ∧ k + sz k ≤ p + (fs X + fs Y) ∧ _
    rcases Nat.lt_or_ge k (p + fs X) with q | q
    · obtain ⟨a, b, c⟩ := hX p w h.1 k h1 q; exact ⟨a, by omega, c⟩
    · obtain ⟨a, b, c⟩ := hY _ w h.2 k q (by omega); exact ⟨a, by omega, c⟩
  | pow X c hX =>
    intro p w h k h1 h2
    have h2' : k < p + (fs X + 1) := h2
    obtain ⟨a1, a2, a3, a4⟩ := h
    show 1 ≤ sz k ∧ k + sz k ≤ p + (fs X + 1) ∧ _
    by_cases q : k = p
    · subst q
      obtain ⟨b1, b2⟩ := q_stp X _ _ a4
      refine ⟨by omega, by omega, fun j hj => ?_, ?_⟩
      · rw [tpos_stp]; have := b2 j (by omega); omega
      · rw [tpos_stp, a2, b1, a1]; omega
    · obtain ⟨a, b, c⟩ := hX _ _ a4 k (by omega) (by omega); exact ⟨a, by omega, c⟩
  | _ => intro p w h k h1 h2; exact absurd h2 (by show ¬ k < p + 0; omega)
theorem q_wh (F : Fo) : ∀ (p w : Nat), qq sz pn wh F p w → w < p → p + fs F ≤ w + sz w → ∀ k, p ≤ k → k < p + fs F → w ≤ wh k ∧ wh k < k ∧ k < wh k + sz (wh k) := by
  induction F with
  | add X Y hX hY =>
    intro p w h hw hE k h1 h2
    have h2' : k < p + (fs X + fs Y) := h2
    have hE' : p + (fs X + fs Y) ≤ w + sz w := hE
    rcases Nat.lt_or_ge k (p + fs X) with q | q
    · exact hX p w h.1 hw (by omega) k h1 q
    · exact hY _ w h.2 (by omega) (by omega) k q (by omega)
  | pow X c hX =>
    intro p w h hw hE k h1 h2
    have h2' : k < p + (fs X + 1) := h2
    have hE' : p + (fs X + 1) ≤ w + sz w := hE
    obtain ⟨a1, a2, a3, a4⟩ := h
    by_cases q : k = p
    · subst q
      rw [a3]
      exact ⟨Nat.le_refl _, hw, by omega⟩
    · obtain ⟨b1, b2, b3⟩ := hX _ _ a4 (by omega) (by omega) k (by omega) (by omega)
      exact ⟨by omega, b2, b3⟩
  | _ => intro p w h hw hE k h1 h2; exact absurd h2 (by show ¬ k < p + 0; omega)
theorem q_3 (F : Fo) : ∀ (p w : Nat), qq sz pn wh F p w → ∀ k j, p ≤ k → k < p + fs F → k < j → j < k + sz k → k ≤ wh j := by
  induction F with
  | add X Y hX hY =>
    intro p w h k j h1 h2 h3 h4
    have h2' : k < p + (fs X + fs Y) := h2
    rcases Nat.lt_or_ge k (p + fs X) with q | q
    · exact hX p w h.1 k j h1 q h3 h4
    · exact hY _ w h.2 k j q (by omega) h3 h4
  | pow X c hX =>
    intro p w h k j h1 h2 h3 h4
    have h2' : k < p + (fs X + 1) := h2
    obtain ⟨a1, a2, a3, a4⟩ := h
    by_cases q : k = p
    · subst q
      exact (q_wh X _ _ a4 (by omega) (by omega) j (by omega) (by omega)).1
    · exact hX _ _ a4 k j (by omega) (by omega) h3 h4
  | _ => intro p w h k j h1 h2; exact absurd h2 (by show ¬ k < p + 0; omega)
theorem q_first (F : Fo) : ∀ (p w : Nat), qq sz pn wh F p w → 0 < fs F → wh p = w := by
  induction F with
  | add X Y hX hY =>
    intro p w h hf
    have hf' : 0 < fs X + fs Y := hf
    rcases Nat.eq_zero_or_pos (fs X) with q | q
    · have := hY _ w h.2 (by omega); rw [q] at this; exact this
    · exact hX p w h.1 q
  | pow X c hX => intro p w h hf; exact h.2.2.1
  | _ => intro p w h hf; exact absurd hf (by show ¬ 0 < 0; omega)
theorem q_4 (F : Fo) : ∀ (p w : Nat), qq sz pn wh F p w → w < p → ∀ k, p ≤ k → k < p + fs F → k + sz k < p + fs F → wh (k + sz k) < k := by
  induction F with
  | add X Y hX hY =>
    intro p w h hw k h1 h2 h3
    have h2' : k < p + (fs X + fs Y) := h2
    have h3' : k + sz k < p + (fs X + fs Y) := h3
    rcases Nat.lt_or_ge k (p + fs X) with q | q
    · have b := (q_at X p w h.1 k h1 q).2.1
      rcases Nat.lt_or_ge (k + sz k) (p + fs X) with r | r
      · exact hX p w h.1 hw k h1 q r
      · have e : k + sz k = p + fs X := by omega
        rw [e, q_first Y _ w h.2 (by omega)]
        omega
    · exact hY _ w h.2 (by omega) k q (by omega) (by omega)
  | pow X c hX =>
    intro p w h hw k h1 h2 h3
    have h2' : k < p + (fs X + 1) := h2
    have h3' : k + sz k < p + (fs X + 1) := h3
    obtain ⟨a1, a2, a3, a4⟩ := h
    by_cases q : k = p
    · subst q; omega
    · exact hX _ _ a4 (by omega) k (by omega) (by omega) (by omega)
  | _ => intro p w h hw k h1 h2; exact absurd h2 (by show ¬ k < p + 0; omega)
end TQ
