-- a tree's rows on both sides
section TR
variable {P : Nat → Nat} {ck cp cv cs cn cw mk mp mv ms mw mc : Nat → Int32} {t : Nat}
theorem pr_val (F : Fo) : ∀ (p w : Nat), p + fs F ≤ 10000 → w < 10000 → pr P ck cp cs cw F p (nI w) → pc cn F p → ∀ k, p ≤ k → k < p + fs F → cs k = nI (cs k).toNatClampNeg ∧ cn k = nI (cn k).toNatClampNeg ∧ cw k = nI (cw k).toNatClampNeg := by
  induction F with
  | add X Y hX hY =>
    intro p w hp hw h h' k h1 h2
    have hp' : p + (fs X + fs Y) ≤ 10000 := hp
    have h2' : k < p + (fs X + fs Y) := h2
    rcases Nat.lt_or_ge k (p + fs X) with q | q
    · exact hX p w (by omega) hw h.1 h'.1 k h1 q
    · exact hY _ w (by omega) hw h.2 h'.2 k q (by omega)
  | pow X c hX =>
    intro p w hp hw h h' k h1 h2
    have hp' : p + (fs X + 1) ≤ 10000 := hp
    have h2' : k < p + (fs X + 1) := h2
    obtain ⟨a1, a2, a3, a4, a5⟩ := h
    by_cases q : k = p
    · subst q
      have hf := fn_fs X
      rw [a3, a4, h'.1, nI_clamp (by omega), nI_clamp (by omega), nI_clamp (by omega)]
      exact ⟨rfl, rfl, rfl⟩
    · exact hX _ p (by omega) (by omega) a5 h'.2 k (by omega) (by omega)
  | _ => intro p w hp hw h h' k h1 h2; exact absurd h2 (by show ¬ k < p + 0; omega)
/-- the values of a tree's names and sorts -/
def vl (nc : Nat) (cv : Nat → Int32) : Fo → Nat → Prop
  | .add X Y, p => vl nc cv X p ∧ vl nc cv Y (p + fs X)
  | .pow X c, p => ((c % 32 = 9 ∨ c % 32 = 16) → ∃ x, x < nc ∧ cv p = nI x) ∧ (c % 32 = 17 → ∃ v, v ≤ 100 ∧ cv p = nI v) ∧ vl nc cv X (p + 1)
  | _, _ => True
theorem vl_w {nc nc' : Nat} (hn : nc ≤ nc') (F : Fo) : ∀ p, vl nc cv F p → vl nc' cv F p := by
  induction F with
  | add X Y hX hY => intro p h; exact ⟨hX p h.1, hY _ h.2⟩
  | pow X c hX =>
    intro p h
    refine ⟨fun q => ?_, h.2.1, hX _ h.2.2⟩
    obtain ⟨x, x1, x2⟩ := h.1 q
    exact ⟨x, by omega, x2⟩
  | _ => intro p _; exact True.intro
theorem nm_le {B : Nat → Nat} {T : TBt} {a w : Nat} : T.1 ≤ (nmT B T a w).1 := by
  show T.1 ≤ nmC T.2.1 T.2.2 B a w T.1
  unfold nmC
  split <;> omega
theorem nm_lt {B : Nat → Nat} {T : TBt} {a w : Nat} : fdN T.2.1 T.2.2 B a w T.1 0 < (nmT B T a w).1 := by
  show _ < nmC T.2.1 T.2.2 B a w T.1
  unfold nmC
  have := (fdN_le (st := T.2.1) (sp := T.2.2) (B := B) (a := a) (w := w) T.1 0).1
  split <;> omega
theorem nl_le {P Wd B : Nat → Nat} {T : TBt} {c : Nat} : T.1 ≤ (nlT P Wd B c T).1 := by
  unfold nlT
  split
  · exact nm_le
  · exact Nat.le_refl _
theorem nt_le {P Wd B : Nat → Nat} (F : Fo) : ∀ T : TBt, T.1 ≤ (ntT P Wd B F T).1 := by
  induction F with
  | add X Y hX hY => intro T; exact Nat.le_trans (hX T) (hY _)
  | pow X c hX => intro T; exact Nat.le_trans nl_le (hX _)
  | _ => intro T; exact Nat.le_refl _
theorem vl_of {K P V Wd B : Nat → Nat} {m nc : Nat} (hV : ∀ i, i < m → K i = 3 → V i ≤ 100) (F : Fo) : ∀ (p : Nat) (T : TBt), nkF K m F → pv P V Wd B cv F p T → (ntT P Wd B F T).1 ≤ nc → vl nc cv F p := by
  induction F with
  | add X Y hX hY =>
    intro p T hk h hn
    have hk' := nk_add hk
    exact ⟨hX p T hk'.1 h.1 (Nat.le_trans (nt_le Y _) hn), hY _ _ hk'.2 h.2 hn⟩
  | pow X c hX =>
    intro p T hk h hn
    have hn' : (ntT P Wd B X (nlT P Wd B c T)).1 ≤ nc := hn
    refine ⟨fun q => ?_, fun q => ?_, hX _ _ (nk_pow hk).2 h.2 hn⟩
    · have e : cv p = nvT P V Wd B c T := h.1
      unfold nvT at e
      rw [if_pos q] at e
      refine ⟨_, ?_, e⟩
      have e2 : nlT P Wd B c T = nmT B T (P (c / 32)) (Wd (c / 32)) := if_pos q
      have := nt_le (P := P) (Wd := Wd) (B := B) X (nlT P Wd B c T)
      have g := nm_lt (B := B) (T := T) (a := P (c / 32)) (w := Wd (c / 32))
      rw [← e2] at g
      omega
    · have e : cv p = nvT P V Wd B c T := h.1
      unfold nvT at e
      rw [if_neg (by omega), if_pos q] at e
      obtain ⟨g1, g2⟩ := (hk (c, fs X + 1, fn X) (List.mem_cons.mpr (Or.inl rfl))).2 q
      exact ⟨_, hV _ g1 g2, e⟩
  | _ => intro p T _ _ _; exact True.intro
/-- the tree that stands in the rows of both -/
def TRl (nc : Nat) (ck cp cv cs cn cw : Nat → Int32) (cc : Int32) (mk mp mv ms mw mc : Nat → Int32) (t : Nat) : Prop := ∃ (P : Nat → Nat) (X : Fo), t < 2 ∧ (fs X + 1 ≤ 8001 ∧ wX X ∧ vl nc cv (.pow X 0) 0) ∧ cc = nI (fs X + 1) ∧ mc t = nI (fs X + 1) ∧ pr P ck cp cs cw (.pow X 0) 0 (-1) ∧ pc cn (.pow X 0) 0 ∧ ∀ k, k < fs X + 1 → mk (9000 * t + k) = ck k ∧ mp (9000 * t + k) = cp k ∧ mv (9000 * t + k) = cv k ∧ ms (9000 * t + k) = cs k ∧ mw (9000 * t + k) = cw k
theorem tr_RT {nc : Nat} {cc : Int32} (h : TRl nc ck cp cv cs cn cw cc mk mp mv ms mw mc t) : ∃ nt sz pn wh, RT ck cp cv cs cn cw cc mk mp mv ms mw mc t nt sz pn ∧ RW cw nt sz wh := by
  obtain ⟨P, X, h1, ⟨h2, _⟩, h3, h4, h5, h6, h7⟩ := h
  obtain ⟨a1, a2, a3, a4, a5⟩ := h5
  obtain ⟨b1, b2⟩ := h6
  have hf := fn_fs X
  have v := pr_val X 1 0 (by omega) (by omega) a5 b2
  have qx := qq_of X 1 0 (by omega) (by omega) a5 b2
  have c0 : (cs 0).toNatClampNeg = fs X + 1 := by rw [a3, nI_clamp (by omega)]
  have n0 : (cn 0).toNatClampNeg = fn X := by rw [b1, nI_clamp (by omega)]
  have w0 : (cw 0).toNatClampNeg = 0 := by rw [a4]; decide
  have q : qq (fun k => (cs k).toNatClampNeg) (fun k => (cn k).toNatClampNeg) (fun k => (cw k).toNatClampNeg) (.pow X 0) 0 0 := ⟨c0, n0, w0, qx⟩
  refine ⟨fs X + 1, fun k => (cs k).toNatClampNeg, fun k => (cn k).toNatClampNeg, fun k => (cw k).toNatClampNeg, ⟨h1, by omega, h2, h3, h4, fun k hk => ?_⟩, a4, fun k k1 k2 => ?_, fun k j k1 k2 k3 => ?_, fun k k1 k2 => ?_⟩
  · obtain ⟨e1, e2, e3, e4, e5⟩ := h7 k hk
    have qa := q_at (.pow X 0) 0 0 q k (Nat.zero_le _) (by show k < 0 + (fs X + 1); omega)
    have vk : cs k = nI (cs k).toNatClampNeg ∧ cn k = nI (cn k).toNatClampNeg := by
      by_cases e : k = 0
      · subst e
        constructor
        · rw [c0]; exact a3
        · rw [n0]; exact b1
      · have := v k (by omega) (by omega)
        exact ⟨this.1, this.2.1⟩
    refine ⟨⟨e1, e2, e3, e5, vk.1, e4.trans vk.1, vk.2⟩, qa.1, ?_, qa.2.2.1, qa.2.2.2⟩
    have := qa.2.1
    have e : 0 + fs (.pow X 0) = fs X + 1 := by show 0 + (fs X + 1) = _; omega
    rw [e] at this
    exact this
  · have vk := (v k k1 (by omega)).2.2
    have hw := q_wh X 1 0 qx (by omega) (by show 1 + fs X ≤ 0 + (cs 0).toNatClampNeg; rw [c0]; omega) k k1 (by omega)
    exact ⟨vk, hw.2.1, hw.2.2⟩
  · have : k < fs X + 1 := by omega
    exact q_3 (.pow X 0) 0 0 q k j (Nat.zero_le _) (by show k < 0 + (fs X + 1); omega) k1 k2
  · by_cases e : k = 0
    · subst e
      have k2' : 0 + (cs 0).toNatClampNeg < fs X + 1 := k2
      rw [c0] at k2'
      omega
    · have k2' : k + (cs k).toNatClampNeg < fs X + 1 := k2
      exact q_4 X 1 0 qx (by omega) k (by omega) (by omega) (by show k + (cs k).toNatClampNeg < 1 + fs X; omega)
end TR
