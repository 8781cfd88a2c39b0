-- the reference's sorts
section MS
variable {K P V B : Nat → Nat} {m r : Nat} {mt mp ml ys : Nat → Int32} {s : Nat ⊕ Nat} {A : AR} {D : Nat}
theorem so_cases {p w v : Nat} (h : soE B p w = some v) : (w = 4 ∧ B p ≠ 84 ∧ v = 0) ∨ (w = 4 ∧ B p = 84 ∧ v = 1) ∨ (w = 5 ∧ B p = 84 ∧ 48 ≤ B (p + 4) ∧ v = 1 + (B (p + 4) - 48)) ∨ (w = 6 ∧ B p = 84 ∧ 48 ≤ B (p + 4) ∧ 48 ≤ B (p + 5) ∧ v = 1 + 10 * (B (p + 4) - 48) + (B (p + 5) - 48)) := by
  have jp := jw_prop
  have dg : ∀ c, digB c = true → 48 ≤ c := fun c hc => (of_decide_eq_true hc).1
  unfold soE at h
  by_cases q0 : spB B p w 0 = true
  · rw [if_pos q0] at h
    obtain ⟨g1, g2⟩ := spB_iff.mp q0
    have g3 := g2 0 (by omega)
    rw [jp.2.2.2.2.1, Nat.add_zero] at g3
    left
    exact ⟨by omega, by omega, (Option.some.inj h).symm⟩
  · rw [if_neg q0] at h
    by_cases q1 : spB B p 4 1 = true
    · rw [if_pos q1] at h
      obtain ⟨g1, g2⟩ := spB_iff.mp q1
      have g3 := g2 0 (by omega)
      rw [jp.2.2.2.2.2.1, Nat.add_zero] at g3
      right
      by_cases w4 : w = 4
      · rw [if_pos w4] at h
        left; exact ⟨w4, g3, (Option.some.inj h).symm⟩
      · rw [if_neg w4] at h
        right
        by_cases w5 : w = 5
        · rw [if_pos w5] at h
          by_cases d4 : digB (B (p + 4)) = true
          · rw [if_pos d4] at h
            left; exact ⟨w5, g3, dg _ d4, (Option.some.inj h).symm⟩
          · rw [if_neg d4] at h; cases h
        · rw [if_neg w5] at h
          by_cases w6 : w = 6
          · rw [if_pos w6] at h
            by_cases d4 : digB (B (p + 4)) = true ∧ ¬ B (p + 4) = 48 ∧ digB (B (p + 5)) = true
            · rw [if_pos d4] at h
              right; exact ⟨w6, g3, dg _ d4.1, dg _ d4.2.2, (Option.some.inj h).symm⟩
            · rw [if_neg d4] at h; cases h
          · rw [if_neg w6] at h; cases h
    · rw [if_neg q1] at h; cases h
def HV (K P V : Nat → Nat) (m : Nat) (ml ys : Nat → Int32) (B : Nat → Nat) : Prop := ∀ i, i ≤ m → K i = 3 → ∃ w, ml i = nI w ∧ P i + w ≤ 8000 ∧ (∀ k, k < w → B (P i + k) < 256 ∧ ys (P i + k) = nI (B (P i + k))) ∧ soE B (P i) w = some (V i)
theorem m_sort123 (h : HM K P m mt mp) (hs : ix s ≤ m) (hD : D < 20000) {x : Int32} : Mo_sort_b123 ys mt mp ml (sA s) (sB s) (sF P s) A.1 A.2.1 A.2.2.1 A.2.2.2.1 A.2.2.2.2.1 A.2.2.2.2.2 (nI D) x = some (nI D, sA (tokS K 3 s), sB (tokS K 3 s), sF P (tokS K 3 s), (dr A D 17 (nI (P (ix s))) x).1, (dr A D 17 (nI (P (ix s))) x).2.1, (dr A D 17 (nI (P (ix s))) x).2.2.1, (dr A D 17 (nI (P (ix s))) x).2.2.2.1, (dr A D 17 (nI (P (ix s))) x).2.2.2.2.1, (dr A D 17 (nI (P (ix s))) x).2.2.2.2.2, nI (D + 1)) := by
  have hm := h.1
  unfold Mo_sort_b123
  have e := m_take (r := 3) h hs (by omega) (by omega)
  have e1 : mp (sA s).toNatClampNeg = nI (P (ix s)) := by rw [sA_ix, nI_clamp (by omega)]; exact (h.2.1 _ hs).2
  have e2 : ¬ (sA s < 0 ∨ 8001 ≤ (sA s).toNatClampNeg) := by rw [sA_ix]; exact nI_in (by omega) (by omega)
  rw [if_neg e2, e1, m_draft hD, jb_some, show f_Mo_take mt mp (sA s) (sB s) (sF P s) 3 = _ from e, jb_some]
theorem m_sort (h : HM K P m mt mp) (hv : HV K P V m ml ys B) (hs : ix s ≤ m) (hD : D < 20000) : ∃ x, f_Mo_sort ys mt mp ml (sA s) (sB s) (sF P s) A.1 A.2.1 A.2.2.1 A.2.2.2.1 A.2.2.2.2.1 A.2.2.2.2.2 (nI D) = some (nI D, sA (tokS K 3 s), sB (tokS K 3 s), sF P (tokS K 3 s), (dr A D 17 (nI (P (ix s))) x).1, (dr A D 17 (nI (P (ix s))) x).2.1, (dr A D 17 (nI (P (ix s))) x).2.2.1, (dr A D 17 (nI (P (ix s))) x).2.2.2.1, (dr A D 17 (nI (P (ix s))) x).2.2.2.2.1, (dr A D 17 (nI (P (ix s))) x).2.2.2.2.2, nI (D + 1)) ∧ ∀ i, s = .inr i → K i = 3 → x = nI (V i) := by
  have hm := h.1
  have no : ¬ lk K s = 3 → ∃ x, f_Mo_sort ys mt mp ml (sA s) (sB s) (sF P s) A.1 A.2.1 A.2.2.1 A.2.2.2.1 A.2.2.2.2.1 A.2.2.2.2.2 (nI D) = some (nI D, sA (tokS K 3 s), sB (tokS K 3 s), sF P (tokS K 3 s), (dr A D 17 (nI (P (ix s))) x).1, (dr A D 17 (nI (P (ix s))) x).2.1, (dr A D 17 (nI (P (ix s))) x).2.2.1, (dr A D 17 (nI (P (ix s))) x).2.2.2.1, (dr A D 17 (nI (P (ix s))) x).2.2.2.2.1, (dr A D 17 (nI (P (ix s))) x).2.2.2.2.2, nI (D + 1)) := by
    intro q
    refine ⟨0, ?_⟩
    unfold f_Mo_sort
    rw [m_look h hs, jb_some, if_neg q]
    exact m_sort123 h hs hD
  cases s with
  | inl j =>
    obtain ⟨x, g⟩ := no (lk_bad (r := 3) (by omega) (by omega))
    exact ⟨x, g, fun i e => by cases e⟩
  | inr i =>
    have hi : i ≤ m := hs
    by_cases q : K i = 3
    · obtain ⟨w, e1, e2, e3, e4⟩ := hv i hi q
      have hin := nI_in (c := i) (N := 8001) (by omega) (by omega)
      have hin' := hin
      rw [nI_clamp (by omega)] at hin'
      have e5 := (h.2.1 i hi).2
      have hsc := so_cases e4
      have w4 : 4 ≤ w := by omega
      have y0 := e3 0 (by omega)
      rw [Nat.add_zero] at y0
      -- the first byte tells
      have L : f_Mo_sort ys mt mp ml (nI i) 0 (-1) A.1 A.2.1 A.2.2.1 A.2.2.2.1 A.2.2.2.2.1 A.2.2.2.2.2 (nI D) = if B (P i) = 84 then Mo_sort_b46 ys mt mp ml (nI i) 0 (-1) A.1 A.2.1 A.2.2.1 A.2.2.2.1 A.2.2.2.2.1 A.2.2.2.2.2 (nI D) 1 4 else Mo_sort_b123 ys mt mp ml (nI i) 0 (-1) A.1 A.2.1 A.2.2.1 A.2.2.2.1 A.2.2.2.2.1 A.2.2.2.2.2 (nI D) 0 := by
        unfold f_Mo_sort
        have lk3 : lk K (.inr i) = 3 := lk_eq (r := 3) h (by omega) q
        rw [show f_Mo_look mt (nI i) 0 = _ from m_look (s := .inr i) h hs, jb_some, if_pos lk3, if_neg hin, nI_clamp (by omega), e1, if_neg (show ¬ nI w ≤ 3 from nI_ge (a := 3) (by omega) (by omega)), if_neg hin', e5, if_neg (nI_in (c := P i) (N := 8000) (by omega) (by omega)), nI_clamp (by omega), y0.2]
        by_cases q84 : B (P i) = 84
        · rw [if_pos (show nI (B (P i)) = 84 by rw [q84]; rfl), if_pos q84]
        · rw [if_neg (show ¬ nI (B (P i)) = 84 from fun e => q84 ((nI_eq (b := 84) (by omega) (by omega)).mp e)), if_neg q84]
      -- one digit more
      have stop : ∀ l1 l2, w ≤ l2 → l2 < 100 → Mo_sort_b46 ys mt mp ml (nI i) 0 (-1) A.1 A.2.1 A.2.2.1 A.2.2.2.1 A.2.2.2.2.1 A.2.2.2.2.2 (nI D) l1 (nI l2) = Mo_sort_b123 ys mt mp ml (nI i) 0 (-1) A.1 A.2.1 A.2.2.1 A.2.2.2.1 A.2.2.2.2.1 A.2.2.2.2.2 (nI D) l1 := by
        intro l1 l2 hl hl2
        have g := m_sort123 (ys := ys) (ml := ml) (A := A) (x := l1) (s := .inr i) h hs hD
        rw [show Mo_sort_b123 ys mt mp ml (nI i) 0 (-1) A.1 A.2.1 A.2.2.1 A.2.2.2.1 A.2.2.2.2.1 A.2.2.2.2.2 (nI D) l1 = _ from g]
        unfold Mo_sort_b46
        apply jl_done
        show Mo_sort_b46_s ys mt mp ml (nI i) 0 (-1) A.1 A.2.1 A.2.2.1 A.2.2.2.1 A.2.2.2.2.1 A.2.2.2.2.2 (nI D) l1 (nI l2) = _
        unfold Mo_sort_b46_s
        rw [if_neg hin, nI_clamp (by omega), e1, if_pos (nI_le hl (by omega)), show Mo_sort_b123 ys mt mp ml (nI i) 0 (-1) A.1 A.2.1 A.2.2.1 A.2.2.2.1 A.2.2.2.2.1 A.2.2.2.2.2 (nI D) l1 = _ from g, jm_some]
      have more4 : 4 < w → ∀ l1, Mo_sort_b46 ys mt mp ml (nI i) 0 (-1) A.1 A.2.1 A.2.2.1 A.2.2.2.1 A.2.2.2.2.1 A.2.2.2.2.2 (nI D) l1 (nI 4) = Mo_sort_b46 ys mt mp ml (nI i) 0 (-1) A.1 A.2.1 A.2.2.1 A.2.2.2.1 A.2.2.2.2.1 A.2.2.2.2.2 (nI D) (1 + nI (B (P i + 4)) - 48) (nI 5) := by
        intro hw l1
        unfold Mo_sort_b46
        apply jl_step
        show Mo_sort_b46_s ys mt mp ml (nI i) 0 (-1) A.1 A.2.1 A.2.2.1 A.2.2.2.1 A.2.2.2.2.1 A.2.2.2.2.2 (nI D) l1 (nI 4) = _
        unfold Mo_sort_b46_s Mo_sort_b116
        have a4 : nI (P i) + 4 = nI (P i + 4) := nI_add (P i) 4
        rw [if_neg hin, nI_clamp (by omega), e1, if_neg (nI_ge (by omega) (by omega)), if_pos (show nI 4 = 4 by decide), if_neg hin', e5, a4, if_neg (nI_in (c := P i + 4) (N := 8000) (by omega) (by omega)), nI_clamp (by omega), (e3 4 hw).2]
        rfl
      have more5 : 5 < w → ∀ l1, Mo_sort_b46 ys mt mp ml (nI i) 0 (-1) A.1 A.2.1 A.2.2.1 A.2.2.2.1 A.2.2.2.2.1 A.2.2.2.2.2 (nI D) l1 (nI 5) = Mo_sort_b46 ys mt mp ml (nI i) 0 (-1) A.1 A.2.1 A.2.2.1 A.2.2.2.1 A.2.2.2.2.1 A.2.2.2.2.2 (nI D) (1 + 10 * (l1 - 1) + nI (B (P i + 5)) - 48) (nI 6) := by
        intro hw l1
        unfold Mo_sort_b46
        apply jl_step
        show Mo_sort_b46_s ys mt mp ml (nI i) 0 (-1) A.1 A.2.1 A.2.2.1 A.2.2.2.1 A.2.2.2.2.1 A.2.2.2.2.2 (nI D) l1 (nI 5) = _
        unfold Mo_sort_b46_s Mo_sort_b116
        have a5 : nI (P i) + nI 5 = nI (P i + 5) := nI_add (P i) 5
        rw [if_neg hin, nI_clamp (by omega), e1, if_neg (nI_ge (by omega) (by omega)), if_neg (show ¬ nI 5 = 4 by decide), if_neg hin', e5, a5, if_neg (nI_in (c := P i + 5) (N := 8000) (by omega) (by omega)), nI_clamp (by omega), (e3 5 hw).2]
        rfl
      have d1 : ∀ c, 48 ≤ c → (1 : Int32) + nI c - 48 = nI (1 + (c - 48)) := fun c hc => by
        have g1 : (1 : Int32) + nI c = nI (1 + c) := nI_add 1 c
        have g2 : nI (1 + c) - 48 = nI (1 + c - 48) := pk_sub (a := 1 + c) (b := 48) (by omega)
        rw [g1, g2, show 1 + c - 48 = 1 + (c - 48) by omega]
      have fin := fun x => m_sort123 (ys := ys) (ml := ml) (A := A) (x := x) (s := .inr i) h hs hD
      show ∃ x, f_Mo_sort ys mt mp ml (nI i) 0 (-1) A.1 A.2.1 A.2.2.1 A.2.2.2.1 A.2.2.2.2.1 A.2.2.2.2.2 (nI D) = _ ∧ _
      rw [L]
      rcases hsc with ⟨c1, c2, c3⟩ | ⟨c1, c2, c3⟩ | ⟨c1, c2, c4, c3⟩ | ⟨c1, c2, c4, c5, c3⟩
      · rw [if_neg c2]
        exact ⟨0, fin 0, fun i' e _ => by rw [← Sum.inr.inj e, c3]; rfl⟩
      · rw [if_pos c2]
        refine ⟨1, ?_, fun i' e _ => by rw [← Sum.inr.inj e, c3]; rfl⟩
        rw [show Mo_sort_b46 ys mt mp ml (nI i) 0 (-1) A.1 A.2.1 A.2.2.1 A.2.2.2.1 A.2.2.2.2.1 A.2.2.2.2.2 (nI D) 1 4 = _ from stop 1 4 (by omega) (by omega)]
        exact fin 1
      · rw [if_pos c2]
        refine ⟨nI (1 + (B (P i + 4) - 48)), ?_, fun i' e _ => by rw [← Sum.inr.inj e, c3]⟩
        rw [show Mo_sort_b46 ys mt mp ml (nI i) 0 (-1) A.1 A.2.1 A.2.2.1 A.2.2.2.1 A.2.2.2.2.1 A.2.2.2.2.2 (nI D) 1 4 = _ from more4 (by omega) 1, stop _ 5 (by omega) (by omega), d1 _ c4]
        exact fin _
      · rw [if_pos c2]
        refine ⟨nI (1 + 10 * (B (P i + 4) - 48) + (B (P i + 5) - 48)), ?_, fun i' e _ => by rw [← Sum.inr.inj e, c3]⟩
        have g1 : nI (1 + (B (P i + 4) - 48)) - 1 = nI (B (P i + 4) - 48) := by rw [Nat.add_comm]; exact nI_pred _
        have g2 : (10 : Int32) * nI (B (P i + 4) - 48) = nI (10 * (B (P i + 4) - 48)) := pk_mul 10 _
        have g3 : (1 : Int32) + nI (10 * (B (P i + 4) - 48)) = nI (1 + 10 * (B (P i + 4) - 48)) := nI_add 1 _
        have g4 : nI (1 + 10 * (B (P i + 4) - 48)) + nI (B (P i + 5)) - 48 = nI (1 + 10 * (B (P i + 4) - 48) + (B (P i + 5) - 48)) := by
          rw [nI_add]
          have := pk_sub (a := 1 + 10 * (B (P i + 4) - 48) + B (P i + 5)) (b := 48) (by omega)
          rw [show 1 + 10 * (B (P i + 4) - 48) + B (P i + 5) - 48 = 1 + 10 * (B (P i + 4) - 48) + (B (P i + 5) - 48) by omega] at this
          exact this
        rw [show Mo_sort_b46 ys mt mp ml (nI i) 0 (-1) A.1 A.2.1 A.2.2.1 A.2.2.2.1 A.2.2.2.2.1 A.2.2.2.2.2 (nI D) 1 4 = _ from more4 (by omega) 1, more5 (by omega), stop _ 6 (by omega) (by omega), d1 _ c4, g1, g2, g3, g4]
        exact fin _
    · obtain ⟨x, g⟩ := no (lk_ne (r := 3) h (by omega) q)
      exact ⟨x, g, fun i' e hk => absurd (by rw [Sum.inr.inj e]; exact hk) q⟩
end MS
-- the shape of what is read, and how deep it is shown
def rk : Fo → List Nat
  | .add X Y => rk X ++ rk Y
  | .pow _ c => [c % 32]
  | _ => []
def tmK (k : Nat) : Prop := 10 ≤ k ∧ k ≤ 18
def dcK (k : Nat) : Prop := 1 ≤ k ∧ k ≤ 7 ∧ k ≠ 5
/-- what parts a node of kind q has -/
def ns (q : Nat) (l : List Nat) : Prop :=
  (q = 0 → ∀ k, k ∈ l → dcK k) ∧ (q = 1 → ∃ g t, l = 9 :: (g ++ [t]) ∧ (∀ k, k ∈ g → k = 8) ∧ tmK t) ∧ (q = 2 → ∃ g a t, l = 9 :: (g ++ [a, t]) ∧ (∀ k, k ∈ g → k = 8) ∧ (tmK a ∨ a = 19) ∧ tmK t) ∧ (q = 3 → ∃ g a t, l = 9 :: (g ++ [a, t]) ∧ (∀ k, k ∈ g → k = 8) ∧ tmK a ∧ tmK t) ∧ (q = 4 → ∃ g t h, l = 9 :: (g ++ t :: h) ∧ (∀ k, k ∈ g → k = 8) ∧ tmK t ∧ ∀ k, k ∈ h → k = 5) ∧ (q = 5 → ∃ t, l = [9, t] ∧ tmK t) ∧ (q = 6 → ∃ t a, l = [t, a] ∧ tmK t ∧ (tmK a ∨ a = 19)) ∧ (q = 7 → ∃ t, l = [t] ∧ tmK t) ∧ (q = 8 → ∃ g t, l = 9 :: (g ++ [t]) ∧ (∀ k, k ∈ g → k = 9) ∧ tmK t) ∧ (q = 10 ∨ q = 11 → ∃ g t, l = 8 :: (g ++ [t]) ∧ (∀ k, k ∈ g → k = 8) ∧ tmK t) ∧ (q = 12 → ∃ a t u, l = [9, a, t, u] ∧ (tmK a ∨ a = 19) ∧ tmK t ∧ tmK u) ∧ (q = 13 ∨ q = 14 ∨ q = 15 → ∃ t u, l = [t, u] ∧ tmK t ∧ tmK u) ∧ (q = 18 → l = [16, 17]) ∧ (q = 9 ∨ q = 16 ∨ q = 17 ∨ q = 19 → l = [])
def wf : Fo → Prop
  | .add X Y => wf X ∧ wf Y
  | .pow X c => ns (c % 32) (rk X) ∧ wf X
  | _ => True
/-- how many shows stand within one another: in all roots but the last, in the last -/
def ndp : Fo → Nat × Nat
  | .add X Y => if fn Y = 0 then ndp X else (max (max (ndp X).1 (ndp X).2) (ndp Y).1, (ndp Y).2)
  | .pow X c => (0, if c % 32 = 5 ∨ c % 32 = 10 ∨ c % 32 = 11 ∨ c % 32 = 12 ∨ c % 32 = 13 then max (1 + (ndp X).1) (ndp X).2 else if c % 32 = 14 ∧ (rk X).head? = some 14 then max (ndp X).1 (1 + (ndp X).2) else 1 + max (ndp X).1 (ndp X).2)
  | _ => (0, 0)
def nd (F : Fo) : Nat := max (ndp F).1 (ndp F).2
theorem rk_len (F : Fo) : (rk F).length = fn F := by
  induction F with
  | add X Y hX hY => show (rk X ++ rk Y).length = fn X + fn Y; rw [List.length_append, hX, hY]
  | _ => rfl
theorem nd_0 (F : Fo) : fn F = 0 → ndp F = (0, 0) := by
  induction F with
  | add X Y hX hY =>
    intro h
    have h' : fn X + fn Y = 0 := h
    show (if fn Y = 0 then ndp X else _) = _
    rw [if_pos (by omega)]
    exact hX (by omega)
  | pow X c _ => intro h; exact absurd (show 1 = 0 from h) (by decide)
  | _ => intro _; rfl
theorem nd_add {X Y : Fo} : nd (.add X Y) = max (nd X) (nd Y) := by
  unfold nd
  by_cases q : fn Y = 0
  · have e : ndp (.add X Y) = ndp X := if_pos q
    rw [e, nd_0 Y q]
    show _ = max _ (max 0 0)
    omega
  · have e : ndp (.add X Y) = (max (max (ndp X).1 (ndp X).2) (ndp Y).1, (ndp Y).2) := if_neg q
    rw [e]
    show max (max (max (ndp X).1 (ndp X).2) (ndp Y).1) (ndp Y).2 = _
    omega
theorem nd_1 (F : Fo) : fn F = 1 → (ndp F).1 = 0 := by
  induction F with
  | add X Y hX hY =>
    intro h
    have h' : fn X + fn Y = 1 := h
    by_cases q : fn Y = 0
    · have e : ndp (.add X Y) = ndp X := if_pos q
      rw [e]; exact hX (by omega)
    · have e : ndp (.add X Y) = (max (max (ndp X).1 (ndp X).2) (ndp Y).1, (ndp Y).2) := if_neg q
      rw [e, nd_0 X (by omega)]
      have := hY (by omega)
      show max (max 0 0) (ndp Y).1 = 0
      omega
  | _ => intro _; rfl
theorem nd_leaf {c : Nat} : nd (.pow (.num 0) c) = 1 := by
  show max 0 (if c % 32 = 5 ∨ c % 32 = 10 ∨ c % 32 = 11 ∨ c % 32 = 12 ∨ c % 32 = 13 then max (1 + 0) 0 else if c % 32 = 14 ∧ ([] : List Nat).head? = some 14 then max 0 (1 + 0) else 1 + max 0 0) = 1
  split
  · rfl
  · split <;> rfl
theorem nd_pw {Y Z : Fo} {c j : Nat} (h : rk Z = [j]) : nd (.pow (.add Y Z) c) = if c % 32 = 5 ∨ c % 32 = 10 ∨ c % 32 = 11 ∨ c % 32 = 12 ∨ c % 32 = 13 then max (1 + nd Y) (nd Z) else if c % 32 = 14 ∧ (rk Y ++ [j]).head? = some 14 then max (nd Y) (1 + nd Z) else 1 + max (nd Y) (nd Z) := by
  have f1 : fn Z = 1 := by rw [← rk_len, h]; rfl
  have e : ndp (.add Y Z) = (max (max (ndp Y).1 (ndp Y).2) (ndp Z).1, (ndp Z).2) := if_neg (by omega)
  have e1 := nd_1 Z f1
  have e2 : rk (.add Y Z) = rk Y ++ [j] := by show rk Y ++ rk Z = _; rw [h]
  have e3 : nd Z = (ndp Z).2 := by unfold nd; omega
  have e4 : (ndp (.add Y Z)).1 = nd Y := by rw [e, e1]; show max (nd Y) 0 = _; omega
  have e5 : (ndp (.add Y Z)).2 = nd Z := by rw [e, e3]
  show max 0 (if c % 32 = 5 ∨ c % 32 = 10 ∨ c % 32 = 11 ∨ c % 32 = 12 ∨ c % 32 = 13 then max (1 + (ndp (.add Y Z)).1) (ndp (.add Y Z)).2 else if c % 32 = 14 ∧ (rk (.add Y Z)).head? = some 14 then max (ndp (.add Y Z)).1 (1 + (ndp (.add Y Z)).2) else 1 + max (ndp (.add Y Z)).1 (ndp (.add Y Z)).2) = _
  rw [e4, e5, e2, Nat.zero_max]
/-- a term -/
def wT (b : Nat) (F : Fo) : Prop := wf F ∧ nd F ≤ b ∧ ∃ k, rk F = [k] ∧ tmK k
/-- what is applied -/
def wC (b : Nat) (F : Fo) : Prop := wf F ∧ ∃ k, rk F = [k] ∧ tmK k ∧ (k = 14 → nd F ≤ b + 1) ∧ (k ≠ 14 → nd F ≤ b)
/-- a type or nothing -/
def wN (b : Nat) (F : Fo) : Prop := wf F ∧ nd F ≤ b ∧ ∃ k, rk F = [k] ∧ (tmK k ∨ k = 19)
/-- groups -/
def wG (b : Nat) (F : Fo) : Prop := wf F ∧ nd F ≤ b ∧ ∀ k, k ∈ rk F → k = 8
/-- binders -/
def wB (F : Fo) : Prop := wf F ∧ nd F ≤ 1 ∧ ∀ k, k ∈ rk F → k = 9
section WF
variable {b b' i : Nat} {X Y T1 T2 H F L : Fo}
theorem wT_w (h : wT b F) (hb : b ≤ b') : wT b' F := ⟨h.1, Nat.le_trans h.2.1 hb, h.2.2⟩
theorem wC_T (h : wC b F) : wT (b + 1) F := by
  obtain ⟨h1, k, h2, h3, h4, h5⟩ := h
  refine ⟨h1, ?_, k, h2, h3⟩
  by_cases q : k = 14
  · exact h4 q
  · have := h5 q; omega
theorem wT_C (h : wT b F) : wC b F := by
  obtain ⟨h1, h2, k, h3, h4⟩ := h
  exact ⟨h1, k, h3, h4, fun _ => by omega, fun _ => h2⟩
theorem ns_leaf {q : Nat} (h : q = 9 ∨ q = 16 ∨ q = 17 ∨ q = 19) : ns q [] := by
  unfold ns
  refine ⟨fun e => by omega, fun e => by omega, fun e => by omega, fun e => by omega, fun e => by omega, fun e => by omega, fun e => by omega, fun e => by omega, fun e => by omega, fun e => by omega, fun e => by omega, fun e => by omega, fun e => by omega, fun _ => rfl⟩
theorem wf_leaf {c : Nat} (h : c % 32 = 9 ∨ c % 32 = 16 ∨ c % 32 = 17 ∨ c % 32 = 19) : wf (.pow (.num 0) c) := ⟨ns_leaf h, True.intro⟩
theorem wT_leaf {c : Nat} (h : c % 32 = 16 ∨ c % 32 = 17) : wT 1 (.pow (.num 0) c) := ⟨wf_leaf (by omega), Nat.le_of_eq nd_leaf, c % 32, rfl, by unfold tmK; omega⟩
theorem wT_app {c : Nat} (hc : c % 32 = 14) (h1 : wC b T1) (h2 : wT b T2) : wC b (.pow (.add T1 T2) c) := by
  obtain ⟨a1, k, a2, a3, a4, a5⟩ := h1
  obtain ⟨b1, b2, j, b3, b4⟩ := h2
  have hr : rk (.add T1 T2) = [k, j] := by show rk T1 ++ rk T2 = _; rw [a2, b3]; rfl
  refine ⟨⟨?_, a1, b1⟩, 14, by show [c % 32] = _; rw [hc], by unfold tmK; omega, fun _ => ?_, fun q => absurd rfl q⟩
  · rw [hc, hr]
    unfold ns
    refine ⟨fun e => by omega, fun e => by omega, fun e => by omega, fun e => by omega, fun e => by omega, fun e => by omega, fun e => by omega, fun e => by omega, fun e => by omega, fun e => by omega, fun e => by omega, fun _ => ⟨k, j, rfl, a3, b4⟩, fun e => by omega, fun e => by omega⟩
  · rw [nd_pw b3]
    rw [if_neg (by omega)]
    by_cases q : k = 14
    · have := a4 q
      rw [if_pos ⟨hc, by rw [a2, q]; rfl⟩]
      omega
    · have := a5 q
      rw [if_neg (fun g => by
        have g2 := g.2
        rw [a2] at g2
        exact q (Option.some.inj g2))]
      omega
theorem wT_two {c : Nat} (hc : c % 32 = 13 ∨ c % 32 = 15) (h1 : wT b T1) (h2 : wT (b + 1) T2) (h3 : c % 32 = 15 → nd T2 ≤ b) : wT (b + 1) (.pow (.add T1 T2) c) := by
  obtain ⟨a1, a2, k, a3, a4⟩ := h1
  obtain ⟨b1, b2, j, b3, b4⟩ := h2
  have hr : rk (.add T1 T2) = [k, j] := by show rk T1 ++ rk T2 = _; rw [a3, b3]; rfl
  refine ⟨⟨?_, a1, b1⟩, ?_, c % 32, rfl, by unfold tmK; omega⟩
  · rw [hr]
    unfold ns
    refine ⟨fun e => by omega, fun e => by omega, fun e => by omega, fun e => by omega, fun e => by omega, fun e => by omega, fun e => by omega, fun e => by omega, fun e => by omega, fun e => by omega, fun e => by omega, fun _ => ⟨k, j, rfl, a4, b4⟩, fun e => by omega, fun e => by omega⟩
  · rw [nd_pw b3]
    rcases hc with q | q
    · rw [if_pos (by omega)]; omega
    · have := h3 q
      rw [if_neg (by omega), if_neg (by omega)]; omega
theorem wT_rec {c c1 c2 : Nat} (hc : c % 32 = 18) (h1 : c1 % 32 = 16) (h2 : c2 % 32 = 17) : wT 2 (.pow (.add (.add (.num 0) (.pow (.num 0) c1)) (.pow (.num 0) c2)) c) := by
  refine ⟨⟨?_, ⟨True.intro, wf_leaf (by omega)⟩, wf_leaf (by omega)⟩, ?_, c % 32, rfl, by unfold tmK; omega⟩
  · have hr : rk (.add (.add (.num 0) (.pow (.num 0) c1)) (.pow (.num 0) c2)) = [16, 17] := by show [] ++ [c1 % 32] ++ [c2 % 32] = _; rw [h1, h2]; rfl
    rw [hr]
    unfold ns
    refine ⟨fun e => by omega, fun e => by omega, fun e => by omega, fun e => by omega, fun e => by omega, fun e => by omega, fun e => by omega, fun e => by omega, fun e => by omega, fun e => by omega, fun e => by omega, fun e => by omega, fun _ => rfl, fun e => by omega⟩
  · rw [nd_pw (show rk (.pow (.num 0) c2) = [17] by show [c2 % 32] = _; rw [h2])]
    rw [if_neg (by omega), if_neg (by omega), nd_add, nd_leaf, nd_leaf]
    show 1 + max (max 0 1) 1 ≤ 2
    omega
/-- a group -/
theorem wG_one {c : Nat} {g : List Nat} (hc : c % 32 = 8) (hX : wB X) (hg : rk X = 9 :: g) (hT : wT b F) (hb : 1 ≤ b) : wG (b + 1) (.pow (.add X F) c) := by
  obtain ⟨a1, a2, a3⟩ := hX
  obtain ⟨b1, b2, j, b3, b4⟩ := hT
  refine ⟨⟨?_, a1, b1⟩, ?_, fun k hk => by have : k = c % 32 := List.mem_singleton.mp hk; omega⟩
  · have hr : rk (.add X F) = 9 :: (g ++ [j]) := by show rk X ++ rk F = _; rw [hg, b3]; rfl
    rw [hr]
    unfold ns
    refine ⟨fun e => by omega, fun e => by omega, fun e => by omega, fun e => by omega, fun e => by omega, fun e => by omega, fun e => by omega, fun e => by omega, fun _ => ⟨g, j, rfl, fun k hk => a3 k (by rw [hg]; exact List.mem_cons.mpr (Or.inr hk)), b4⟩, fun e => by omega, fun e => by omega, fun e => by omega, fun e => by omega, fun e => by omega⟩
  · rw [nd_pw b3]
    rw [if_neg (by omega), if_neg (by omega)]
    omega
theorem wG_add (h1 : wG b X) (h2 : wG b Y) : wG b (.add X Y) := ⟨⟨h1.1, h2.1⟩, by rw [nd_add]; have := h1.2.1; have := h2.2.1; omega, fun k hk => by
  rcases List.mem_append.mp (show k ∈ rk X ++ rk Y from hk) with a | a
  · exact h1.2.2 k a
  · exact h2.2.2 k a⟩
theorem wB_add (h1 : wB X) (h2 : wB Y) : wB (.add X Y) := ⟨⟨h1.1, h2.1⟩, by rw [nd_add]; have := h1.2.1; have := h2.2.1; omega, fun k hk => by
  rcases List.mem_append.mp (show k ∈ rk X ++ rk Y from hk) with a | a
  · exact h1.2.2 k a
  · exact h2.2.2 k a⟩
theorem wB_leaf {c : Nat} (h : c % 32 = 9) : wB (.pow (.num 0) c) := ⟨wf_leaf (by omega), Nat.le_of_eq nd_leaf, fun k hk => by have : k = c % 32 := List.mem_singleton.mp hk; omega⟩
/-- fun, all -/
theorem wT_bind {c : Nat} (hc : c % 32 = 10 ∨ c % 32 = 11) (hH : wG b H) (hne : rk H ≠ []) (hF : wT b' F) (hb : 1 + b ≤ b') : wT b' (.pow (.add H F) c) := by
  obtain ⟨a1, a2, a3⟩ := hH
  obtain ⟨b1, b2, j, b3, b4⟩ := hF
  obtain ⟨k0, g, hg⟩ : ∃ k0 g, rk H = k0 :: g := by
    cases hq : rk H with
    | nil => exact absurd hq hne
    | cons k0 g => exact ⟨k0, g, rfl⟩
  have hk0 : k0 = 8 := a3 k0 (by rw [hg]; exact List.mem_cons.mpr (Or.inl rfl))
  subst hk0
  refine ⟨⟨?_, a1, b1⟩, ?_, c % 32, rfl, by unfold tmK; omega⟩
  · have hr : rk (.add H F) = 8 :: (g ++ [j]) := by show rk H ++ rk F = _; rw [hg, b3]; rfl
    rw [hr]
    unfold ns
    refine ⟨fun e => by omega, fun e => by omega, fun e => by omega, fun e => by omega, fun e => by omega, fun e => by omega, fun e => by omega, fun e => by omega, fun e => by omega, fun _ => ⟨g, j, rfl, fun k hk => a3 k (by rw [hg]; exact List.mem_cons.mpr (Or.inr hk)), b4⟩, fun e => by omega, fun e => by omega, fun e => by omega, fun e => by omega⟩
  · rw [nd_pw b3]
    rw [if_pos (by omega)]
    omega
/-- let -/
theorem wT_let {c : Nat} {F2 F3 F4 : Fo} (hc : c % 32 = 12) (hL : wB L) (hr9 : rk L = [9]) (h2 : wN b F2) (h3 : wT b F3) (h4 : wT b' F4) (hb1 : 1 ≤ b) (hb : 1 + b ≤ b') : wT b' (.pow (.add (.add (.add (.add (.num 0) L) F2) F3) F4) c) := by
  obtain ⟨l1, l2, l3⟩ := hL
  obtain ⟨a1, a2, i2, a3, a4⟩ := h2
  obtain ⟨b1, b2, i3, b3, b4⟩ := h3
  obtain ⟨c1, c2, i4, c3, c4⟩ := h4
  refine ⟨⟨?_, ⟨⟨⟨True.intro, l1⟩, a1⟩, b1⟩, c1⟩, ?_, c % 32, rfl, by unfold tmK; omega⟩
  · have hr : rk (.add (.add (.add (.add (.num 0) L) F2) F3) F4) = [9, i2, i3, i4] := by show ((([] ++ rk L) ++ rk F2) ++ rk F3) ++ rk F4 = _; rw [hr9, a3, b3, c3]; rfl
    rw [hr]
    unfold ns
    refine ⟨fun e => by omega, fun e => by omega, fun e => by omega, fun e => by omega, fun e => by omega, fun e => by omega, fun e => by omega, fun e => by omega, fun e => by omega, fun e => by omega, fun _ => ⟨i2, i3, i4, rfl, a4, b4, c4⟩, fun e => by omega, fun e => by omega, fun e => by omega⟩
  · rw [nd_pw c3]
    rw [if_pos (by omega)]
    have e : nd (.add (.add (.add (.num 0) L) F2) F3) = max (max (max 0 (nd L)) (nd F2)) (nd F3) := by rw [nd_add, nd_add, nd_add]; rfl
    rw [e]
    omega
theorem nd_pow {c : Nat} (h : ¬ (c % 32 = 5 ∨ c % 32 = 10 ∨ c % 32 = 11 ∨ c % 32 = 12 ∨ c % 32 = 13) ∧ c % 32 ≠ 14) : nd (.pow X c) = 1 + nd X := by
  show max 0 (if c % 32 = 5 ∨ c % 32 = 10 ∨ c % 32 = 11 ∨ c % 32 = 12 ∨ c % 32 = 13 then max (1 + (ndp X).1) (ndp X).2 else if c % 32 = 14 ∧ (rk X).head? = some 14 then max (ndp X).1 (1 + (ndp X).2) else 1 + max (ndp X).1 (ndp X).2) = 1 + max (ndp X).1 (ndp X).2
  rw [if_neg h.1, if_neg (fun g => h.2 g.1), Nat.zero_max]
/-- a declaration -/
def wD (b : Nat) (F : Fo) : Prop := wf F ∧ nd F ≤ b ∧ ∃ k, rk F = [k] ∧ dcK k
/-- a name with its groups -/
def wP (b : Nat) (F : Fo) : Prop := wf F ∧ nd F ≤ b ∧ ∃ g, rk F = 9 :: g ∧ ∀ k, k ∈ g → k = 8
theorem wP_name {c : Nat} (h : c % 32 = 9) (hb : 1 ≤ b) : wP b (.add (.num 0) (.pow (.num 0) c)) := ⟨⟨True.intro, wf_leaf (by omega)⟩, by rw [nd_add, nd_leaf]; show max 0 1 ≤ b; omega, [], by show [] ++ [c % 32] = _; rw [h]; rfl, fun k hk => by cases hk⟩
theorem wP_add (h1 : wP b X) (h2 : wG b Y) : wP b (.add X Y) := by
  obtain ⟨a1, a2, g, a3, a4⟩ := h1
  obtain ⟨b1, b2, b3⟩ := h2
  refine ⟨⟨a1, b1⟩, by rw [nd_add]; omega, g ++ rk Y, by show rk X ++ rk Y = _; rw [a3]; rfl, fun k hk => ?_⟩
  rcases List.mem_append.mp hk with a | a
  · exact a4 k a
  · exact b3 k a
theorem wD_axi {c : Nat} (hc : c % 32 = 1) (h1 : wP b X) (h2 : wT b F) : wD (b + 1) (.pow (.add X F) c) := by
  obtain ⟨a1, a2, g, a3, a4⟩ := h1
  obtain ⟨b1, b2, j, b3, b4⟩ := h2
  refine ⟨⟨?_, a1, b1⟩, ?_, c % 32, rfl, by unfold dcK; omega⟩
  · have hr : rk (.add X F) = 9 :: (g ++ [j]) := by show rk X ++ rk F = _; rw [a3, b3]; rfl
    rw [hr]
    unfold ns
    refine ⟨fun e => by omega, fun _ => ⟨g, j, rfl, a4, b4⟩, fun e => by omega, fun e => by omega, fun e => by omega, fun e => by omega, fun e => by omega, fun e => by omega, fun e => by omega, fun e => by omega, fun e => by omega, fun e => by omega, fun e => by omega, fun e => by omega⟩
  · rw [nd_pow (by omega), nd_add]; omega
theorem wD_two {c : Nat} {F2 F3 : Fo} (hc : c % 32 = 2 ∨ c % 32 = 3) (h1 : wP b X) (h2 : wN b F2) (h2' : c % 32 = 3 → wT b F2) (h3 : wT b F3) : wD (b + 1) (.pow (.add (.add X F2) F3) c) := by
  obtain ⟨a1, a2, g, a3, a4⟩ := h1
  obtain ⟨d1, d2, i2, d3, d4⟩ := h2
  obtain ⟨b1, b2, j, b3, b4⟩ := h3
  refine ⟨⟨?_, ⟨a1, d1⟩, b1⟩, ?_, c % 32, rfl, by unfold dcK; omega⟩
  · have hr : rk (.add (.add X F2) F3) = 9 :: (g ++ [i2, j]) := by show (rk X ++ rk F2) ++ rk F3 = _; rw [a3, d3, b3, List.append_assoc]; rfl
    rw [hr]
    rcases hc with q | q
    · rw [q]; unfold ns
      refine ⟨fun e => by omega, fun e => by omega, fun _ => ⟨g, i2, j, rfl, a4, d4, b4⟩, fun e => by omega, fun e => by omega, fun e => by omega, fun e => by omega, fun e => by omega, fun e => by omega, fun e => by omega, fun e => by omega, fun e => by omega, fun e => by omega, fun e => by omega⟩
    · obtain ⟨_, _, i3, e3, e4⟩ := h2' q
      have : i2 = i3 := by rw [d3] at e3; exact List.head_eq_of_cons_eq e3
      rw [q]; unfold ns
      refine ⟨fun e => by omega, fun e => by omega, fun e => by omega, fun _ => ⟨g, i2, j, rfl, a4, by rw [this]; exact e4, b4⟩, fun e => by omega, fun e => by omega, fun e => by omega, fun e => by omega, fun e => by omega, fun e => by omega, fun e => by omega, fun e => by omega, fun e => by omega, fun e => by omega⟩
  · rw [nd_pow (by omega), nd_add, nd_add]; omega
theorem wf_con {c : Nat} (hc : c % 32 = 5) (hL : wB L) (hr9 : rk L = [9]) (h : wT b F) (hb : 2 ≤ b) : wf (.pow (.add (.add (.num 0) L) F) c) ∧ nd (.pow (.add (.add (.num 0) L) F) c) ≤ b ∧ rk (.pow (.add (.add (.num 0) L) F) c) = [5] := by
  obtain ⟨l1, l2, l3⟩ := hL
  obtain ⟨b1, b2, j, b3, b4⟩ := h
  refine ⟨⟨?_, ⟨True.intro, l1⟩, b1⟩, ?_, by show [c % 32] = _; rw [hc]⟩
  · have hr : rk (.add (.add (.num 0) L) F) = [9, j] := by show ([] ++ rk L) ++ rk F = _; rw [hr9, b3]; rfl
    rw [hr]
    unfold ns
    refine ⟨fun e => by omega, fun e => by omega, fun e => by omega, fun e => by omega, fun e => by omega, fun _ => ⟨j, rfl, b4⟩, fun e => by omega, fun e => by omega, fun e => by omega, fun e => by omega, fun e => by omega, fun e => by omega, fun e => by omega, fun e => by omega⟩
  · rw [nd_pw b3]
    rw [if_pos (by omega)]
    have e : nd (.add (.num 0) L) = max 0 (nd L) := by rw [nd_add]; rfl
    rw [e]; omega
/-- data with constructors so far -/
def wQ (b : Nat) (F : Fo) : Prop := wf F ∧ nd F ≤ b ∧ ∃ g t h, rk F = 9 :: (g ++ t :: h) ∧ (∀ k, k ∈ g → k = 8) ∧ tmK t ∧ ∀ k, k ∈ h → k = 5
theorem wQ_0 (h1 : wP b X) (h2 : wT b F) : wQ b (.add X F) := by
  obtain ⟨a1, a2, g, a3, a4⟩ := h1
  obtain ⟨b1, b2, j, b3, b4⟩ := h2
  exact ⟨⟨a1, b1⟩, by rw [nd_add]; omega, g, j, [], by show rk X ++ rk F = _; rw [a3, b3]; rfl, a4, b4, fun k hk => by cases hk⟩
theorem wQ_add (h1 : wQ b X) (h2 : wf Y ∧ nd Y ≤ b ∧ rk Y = [5]) : wQ b (.add X Y) := by
  obtain ⟨a1, a2, g, t, h, a3, a4, a5, a6⟩ := h1
  obtain ⟨b1, b2, b3⟩ := h2
  refine ⟨⟨a1, b1⟩, by rw [nd_add]; omega, g, t, h ++ [5], by show rk X ++ rk Y = _; rw [a3, b3]; simp, a4, a5, fun k hk => ?_⟩
  rcases List.mem_append.mp hk with a | a
  · exact a6 k a
  · exact List.mem_singleton.mp a
theorem wD_dat {c : Nat} (hc : c % 32 = 4) (h : wQ b X) : wD (b + 1) (.pow X c) := by
  obtain ⟨a1, a2, g, t, h', a3, a4, a5, a6⟩ := h
  refine ⟨⟨?_, a1⟩, by rw [nd_pow (by omega)]; omega, c % 32, rfl, by unfold dcK; omega⟩
  rw [a3]
  unfold ns
  refine ⟨fun e => by omega, fun e => by omega, fun e => by omega, fun e => by omega, fun _ => ⟨g, t, h', rfl, a4, a5, a6⟩, fun e => by omega, fun e => by omega, fun e => by omega, fun e => by omega, fun e => by omega, fun e => by omega, fun e => by omega, fun e => by omega, fun e => by omega⟩
theorem wD_chk {c : Nat} {F1 F2 : Fo} (hc : c % 32 = 6) (h1 : wT b F1) (h2 : wN b F2) : wD (b + 1) (.pow (.add (.add (.num 0) F1) F2) c) := by
  obtain ⟨a1, a2, i1, a3, a4⟩ := h1
  obtain ⟨b1, b2, j, b3, b4⟩ := h2
  refine ⟨⟨?_, ⟨True.intro, a1⟩, b1⟩, ?_, c % 32, rfl, by unfold dcK; omega⟩
  · have hr : rk (.add (.add (.num 0) F1) F2) = [i1, j] := by show ([] ++ rk F1) ++ rk F2 = _; rw [a3, b3]; rfl
    rw [hr]
    unfold ns
    refine ⟨fun e => by omega, fun e => by omega, fun e => by omega, fun e => by omega, fun e => by omega, fun e => by omega, fun _ => ⟨i1, j, rfl, a4, b4⟩, fun e => by omega, fun e => by omega, fun e => by omega, fun e => by omega, fun e => by omega, fun e => by omega, fun e => by omega⟩
  · rw [nd_pow (by omega), nd_add, nd_add]
    have e : nd (.num 0 : Fo) = 0 := rfl
    rw [e]; omega
theorem wD_nrm {c : Nat} {F1 : Fo} (hc : c % 32 = 7) (h1 : wT b F1) : wD (b + 1) (.pow (.add (.num 0) F1) c) := by
  obtain ⟨a1, a2, i1, a3, a4⟩ := h1
  refine ⟨⟨?_, True.intro, a1⟩, ?_, c % 32, rfl, by unfold dcK; omega⟩
  · have hr : rk (.add (.num 0) F1) = [i1] := by show [] ++ rk F1 = _; rw [a3]; rfl
    rw [hr]
    unfold ns
    refine ⟨fun e => by omega, fun e => by omega, fun e => by omega, fun e => by omega, fun e => by omega, fun e => by omega, fun e => by omega, fun _ => ⟨i1, rfl, a4⟩, fun e => by omega, fun e => by omega, fun e => by omega, fun e => by omega, fun e => by omega, fun e => by omega⟩
  · rw [nd_pow (by omega), nd_add]
    have e : nd (.num 0 : Fo) = 0 := rfl
    rw [e]; omega
end WF
section WX
variable {b b' i : Nat} {X Y T1 T2 H F L : Fo}
theorem wT_N (h : wT b F) : wN b F := by
  obtain ⟨h1, h2, k, h3, h4⟩ := h
  exact ⟨h1, h2, k, h3, Or.inl h4⟩
theorem wN_w (h : wN b F) (hb : b ≤ b') : wN b' F := ⟨h.1, Nat.le_trans h.2.1 hb, h.2.2⟩
theorem wN_leaf {c : Nat} (h : c % 32 = 19) (hb : 1 ≤ b) : wN b (.pow (.num 0) c) := ⟨wf_leaf (by omega), by rw [nd_leaf]; exact hb, c % 32, rfl, Or.inr h⟩
theorem wB_0 : wB (.num 0) := ⟨True.intro, Nat.zero_le _, fun k hk => by cases hk⟩
theorem wG_0 : wG b (.num 0) := ⟨True.intro, Nat.zero_le _, fun k hk => by cases hk⟩
theorem rk_leaf {c : Nat} (h : c % 32 = 9) : rk (.pow (.num 0) c) = [9] := by show [c % 32] = _; rw [h]
theorem wG_one' {c : Nat} (hc : c % 32 = 8) (hX : wB X) (hg : rk X ≠ []) (hT : wT b F) (hb : 1 ≤ b) : wG (b + 1) (.pow (.add X F) c) := by
  cases hq : rk X with
  | nil => exact absurd hq hg
  | cons k g =>
    have : k = 9 := hX.2.2 k (by rw [hq]; exact List.mem_cons.mpr (Or.inl rfl))
    subst this
    exact wG_one hc hX hq hT hb
end WX
