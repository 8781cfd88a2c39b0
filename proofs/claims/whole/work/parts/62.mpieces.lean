-- pieces of the reference's declarations
section RF
variable {K P V B : Nat → Nat} {m r d k e : Nat} {tk tp tv mt mp ml ys : Nat → Int32} {s s' : Nat ⊕ Nat} {A A' A3 A0 : AR} {D D' D3 x c i o lo : Nat} {F F' F1 F3 H : Fo} {R : Nat → Prop}
/-- a node x under way, with the state of the text -/
def SO (P V : Nat → Nat) (A0 : AR) (lo m x c e k : Nat) (s : Nat ⊕ Nat) (A : AR) (D : Nat) (R : Nat → Prop) (H : Fo) : Prop := ix s ≤ m ∧ Wj A D ∧ (lo ≤ x ∧ x < D) ∧ (∀ j, s = .inl j → D ≤ 18300 + k) ∧ (∀ i', s = .inr i' → D ≤ 2 * P i' + e ∧ ON P V A R x c H ∧ (∀ z, R z → lo ≤ z ∧ z < D) ∧ ∀ z, z < lo → eqA A0 A z)
theorem so_lt (hP : HP K P m) (hk : k ≤ 100) (he : e ≤ 9) (h : SO P V A0 lo m x c e k s A D R H) : D ≤ 18400 := by
  cases s with
  | inl j => have := h.2.2.2.1 j rfl; omega
  | inr i => have := (h.2.2.2.2 i rfl).1; have := hP.2.2.1 i h.1; omega
theorem so_tok (hP : HP K P m) (h2 : 2 ≤ r) (he : e ≤ 9) (h : SO P V A0 lo m x c e k s A D R H) : SO P V A0 lo m x c (e - 1) k (tokS K r s) A D R H := by
  refine ⟨ix_tok hP h.1 h2, h.2.1, h.2.2.1, fun j ee => ?_, fun i' ee => ?_⟩
  · cases s with
    | inl j' => exact h.2.2.2.1 j' rfl
    | inr i => have := (h.2.2.2.2 i rfl).1; have := hP.2.2.1 i h.1; omega
  · obtain ⟨i, e1, k1, f1⟩ := tokS_inr ee
    subst e1
    subst f1
    obtain ⟨a1, a2, a3⟩ := h.2.2.2.2 i rfl
    have := (hP.1 i (lt_m hP h.1 (by omega))).1
    exact ⟨by omega, a2, a3⟩
theorem so_name (hP : HP K P m) (hk : k ≤ 90) (he : e ≤ 8) (h : SO P V A0 lo m x c e k s A D R H) : SO P V A0 lo m x c e (k + 1) (tokS K 2 s) (jn (dr A D 9 (nI (P (ix s))) (nI (ix s))) x (nI D)) (D + 1) (fun z => R z ∨ (D ≤ z ∧ z < D + 1)) (.add H (lfF 9 s)) ∧ Wj (dr A D 9 (nI (P (ix s))) (nI (ix s))) (D + 1) := by
  have hlt := so_lt hP (by omega) (by omega) h
  have w1 : Wj (dr A D 9 (nI (P (ix s))) (nI (ix s))) (D + 1) := W_dr h.2.1
  have hx := h.2.2.1
  refine ⟨⟨ix_tok hP h.1 (by omega), W_jn w1 (Or.inr ⟨D, by omega, rfl⟩), by omega, fun j ee => ?_, fun i' ee => ?_⟩, w1⟩
  · cases s with
    | inl j' => have := h.2.2.2.1 j' rfl; omega
    | inr i => have := (h.2.2.2.2 i rfl).1; have := hP.2.2.1 i h.1; omega
  · obtain ⟨i, e1, k1, f1⟩ := tokS_inr ee
    subst e1
    subst f1
    obtain ⟨a1, a2, a3, a4⟩ := h.2.2.2.2 i rfl
    have := (hP.1 i (lt_m hP h.1 (by omega))).1
    obtain ⟨b1, b2⟩ := on_rp (s' := .inr (i + 1)) rfl (by omega) a2 (fun z hz => (a3 z hz).2) hx.2 (rp_name (s' := .inr (i + 1)) (c := 9) (i := i) (Or.inl rfl) h.2.1)
    exact ⟨by omega, b1, fun z hz => by rcases hz with a | a; have := a3 z a; omega; omega, fun z hz => eqA_tr (a4 z hz) (b2 z (by omega) (by omega) (fun a => by have := a3 z a; omega))⟩
/-- a root joined -/
theorem so_root {v : Int32} {q a n : Nat} (hP : HP K P m) (hk : k + n ≤ 90) (ha : a ≤ 1) (he : e + a ≤ 9) (hq : q ≤ 18300) (h : SO P V A0 lo m x c e k s A D R H) (hs' : ix s' ≤ m) (hp : RP P V s' A A' D D' v F) (hn : DN P a q n s s' D D') (hst : ∀ i', s' = .inr i' → ∃ i, s = .inr i) : SO P V A0 lo m x c (e + a) (k + n) s' (jn A' x v) D' (fun z => R z ∨ (D ≤ z ∧ z < D')) (.add H F) ∧ D' ≤ 18400 := by
  have hlt := so_lt hP (by omega) (by omega) h
  have hx := h.2.2.1
  have hD := hp.2.1
  have hD' : D' ≤ 18400 := by
    cases s with
    | inl j => have b1 := h.2.2.2.1 j rfl; have b2 : D' ≤ D + n := hn; omega
    | inr i =>
      cases s' with
      | inl j => have b2 : D' ≤ q := hn; omega
      | inr i' => have b2 : D' + 2 * P i ≤ D + 2 * P i' + a := hn; have b3 := (h.2.2.2.2 i rfl).1; have := hP.2.2.1 i' hs'; omega
  refine ⟨⟨hs', W_jn hp.1 hp.2.2.1, by omega, fun j ee => ?_, fun i' ee => ?_⟩, hD'⟩
  · subst ee
    cases s with
    | inl j' => have b1 := h.2.2.2.1 j' rfl; have b2 : D' ≤ D + n := hn; omega
    | inr i => have b2 : D' ≤ q := hn; omega
  · subst ee
    obtain ⟨i, e1⟩ := hst i' rfl
    subst e1
    have b2 : D' + 2 * P i ≤ D + 2 * P i' + a := hn
    obtain ⟨a1, a2, a3, a4⟩ := h.2.2.2.2 i rfl
    obtain ⟨b1, b4⟩ := on_rp (s' := .inr i') rfl (by omega) a2 (fun z hz => (a3 z hz).2) hx.2 hp
    exact ⟨by omega, b1, fun z hz => by rcases hz with a | a; have := a3 z a; omega; omega, fun z hz => eqA_tr (a4 z hz) (b4 z (by omega) (by omega) (fun a => by have := a3 z a; omega))⟩
/-- the end of a declaration -/
def stS (K : Nat → Nat) (s : Nat ⊕ Nat) : Nat ⊕ Nat := match s with
  | .inl j => .inl j
  | .inr i => if K i = 22 then .inr i else .inl i
theorem m_300 {l2 : Int32} (hM : HM K P m mt mp) (hs : ix s ≤ m) : Mo_declaration_b300 ys mt mp ml (sA s) (sB s) (sF P s) A.1 A.2.1 A.2.2.1 A.2.2.2.1 A.2.2.2.2.1 A.2.2.2.2.2 (nI D) l2 = some (l2, sA (stS K s), sB (stS K s), sF P (stS K s), A.1, A.2.1, A.2.2.1, A.2.2.2.1, A.2.2.2.2.1, A.2.2.2.2.2, nI D) := by
  unfold Mo_declaration_b300
  refine (jb_ok (m_look hM hs)).trans ?_
  cases s with
  | inl j =>
    rw [if_neg (show ¬ lk K (.inl j) = 11 from lk_bad (r := 22) (by omega) (by omega))]
    unfold Mo_declaration_b315
    exact jb_ok (m_need0 hM hs)
  | inr i =>
    by_cases q : K i = 22
    · have e : stS K (.inr i) = .inr i := if_pos q
      rw [if_pos (show lk K (.inr i) = 11 from lk_eq (r := 22) hM (by omega) q), e]
      unfold Mo_declaration_b315
      exact jb_ok (m_need1 (mp := mp) (P := P) (s := .inr i))
    · have e : stS K (.inr i) = .inl i := if_neg q
      rw [if_neg (show ¬ lk K (.inr i) = 11 from lk_ne (r := 22) hM (by omega) q), e]
      unfold Mo_declaration_b315
      exact jb_ok (m_need0 (s := .inr i) hM hs)
/-- a term, or nothing where nothing is read any more -/
theorem m_opt {T : (Nat → Int32) → (Nat → Int32) → (Nat → Int32) → (Nat → Int32) → Int32 → Int32 → Int32 → (Nat → Int32) → (Nat → Int32) → (Nat → Int32) → (Nat → Int32) → (Nat → Int32) → (Nat → Int32) → Int32 → Int32 → Option (Int32 × Int32 × Int32 × Int32 × (Nat → Int32) × (Nat → Int32) × (Nat → Int32) × (Nat → Int32) × (Nat → Int32) × (Nat → Int32) × Int32)} {ρ : Type} (hT : TS K P V m tk tp tv mt mp ml ys T d) (hs : ix s ≤ m) (hW : Wj A D) (hD : DR P 8 19900 s D) (Bk : Int32 → Int32 → Int32 → Int32 → AR → Int32 → Option ρ) : ∃ (s' : Nat ⊕ Nat) (F : Fo) (A' : AR) (D' : Nat) (v : Int32), (if sB s = 0 then jb (T ys mt mp ml (sA s) (sB s) (sF P s) A.1 A.2.1 A.2.2.1 A.2.2.2.1 A.2.2.2.2.1 A.2.2.2.2.2 (nI D) (nI (d + 1))) (fun o => Bk o.1 o.2.1 o.2.2.1 o.2.2.2.1 (o.2.2.2.2.1, o.2.2.2.2.2.1, o.2.2.2.2.2.2.1, o.2.2.2.2.2.2.2.1, o.2.2.2.2.2.2.2.2.1, o.2.2.2.2.2.2.2.2.2.1) o.2.2.2.2.2.2.2.2.2.2) else Bk (-1) (sA s) (sB s) (sF P s) A (nI D)) = Bk v (sA s') (sB s') (sF P s') A' (nI D') ∧ Dv K P V m tk tp tv 38 d s s' F ∧ ix s' ≤ m ∧ RP P V s' A A' D D' v F ∧ DN P 0 (18200 - 20 * (d + 1)) 1 s s' D D' ∧ (∀ i', s' = .inr i' → wT (1 + 3 * (100 - d)) F) := by
  cases s with
  | inl j =>
    refine ⟨.inl j, .num 0, A, D, -1, ?_, rfl, hs, rp_w rfl hW (Nat.le_refl _) (Or.inl rfl), Nat.le_succ _, fun i' e => by cases e⟩
    rw [if_neg (show ¬ sB (.inl j) = 0 by show ¬ (1 : Int32) = 0; decide)]
  | inr i =>
    obtain ⟨s', F, A', D', v, t1, t2, t3, t4, t5, t6⟩ := hT (.inr i) A D hs hW hD
    refine ⟨s', F, A', D', v, ?_, t2, t4, t5, t6, t3.2⟩
    rw [if_pos (show sB (.inr i) = 0 from rfl)]
    exact jb_ok t1
theorem so_dr (h : SO P V A0 lo m x c e k s A D R H) (hk : k ≤ 600) (he : e ≤ 8) : DR P 8 19000 s D := by
  cases s with
  | inl j => have := h.2.2.2.1 j rfl; show D ≤ 19000; omega
  | inr i => have := (h.2.2.2.2 i rfl).1; show D ≤ 2 * P i + 8; omega
theorem so_dr' (h : SO P V A0 lo m x c e k s A D R H) (hk : k ≤ 600) (he : e ≤ 8) : DR P 8 19900 s D := by
  cases s with
  | inl j => have := h.2.2.2.1 j rfl; show D ≤ 19900; omega
  | inr i => have := (h.2.2.2.2 i rfl).1; show D ≤ 2 * P i + 8; omega
theorem so_groups {T : (Nat → Int32) → (Nat → Int32) → (Nat → Int32) → (Nat → Int32) → Int32 → Int32 → Int32 → (Nat → Int32) → (Nat → Int32) → (Nat → Int32) → (Nat → Int32) → (Nat → Int32) → (Nat → Int32) → Int32 → Int32 → Option (Int32 × Int32 × Int32 × Int32 × (Nat → Int32) × (Nat → Int32) × (Nat → Int32) × (Nat → Int32) × (Nat → Int32) × (Nat → Int32) × Int32)} (h : HT K P V m tk tp tv) (hM : HM K P m mt mp) (hP : HP K P m) (hd : d ≤ 100) (hT : TS K P V m tk tp tv mt mp ml ys T d) (hk : k ≤ 90) (he : e ≤ 8) (ho : SO P V A0 lo m x c e k s A D R H) : ∃ (s' : Nat ⊕ Nat) (Gs X : Fo) (A' : AR) (D' : Nat) (R' : Nat → Prop), f_Mo_groups T ys mt mp ml (sA s) (sB s) (sF P s) A.1 A.2.1 A.2.2.1 A.2.2.2.1 A.2.2.2.2.1 A.2.2.2.2.2 (nI D) (nI x) (nI (d + 1)) = some (sA s', sB s', sF P s', A'.1, A'.2.1, A'.2.2.1, A'.2.2.2.1, A'.2.2.2.2.1, A'.2.2.2.2.2, nI D') ∧ Dv K P V m tk tp tv 30 d s s' Gs ∧ SO P V A0 lo m x c e k s' A' D' R' X ∧ (∀ i', s' = .inr i' → ev X (.add H Gs) ∧ (wP (2 + 3 * (100 - d)) H → wP (2 + 3 * (100 - d)) X)) := by
  obtain ⟨s', Gs, X, A', D', R', k1, k2, k3, k4, k5, k6, k7, k8⟩ := m_groups (x := x) (c := c) h hM hP hd hT m s A D R H (fun i _ => by omega) ho.1 ho.2.1 (so_dr ho (by omega) he) ho.2.2.1.2 (fun i ee => ⟨(ho.2.2.2.2 i ee).2.1, fun z hz => ((ho.2.2.2.2 i ee).2.2.1 z hz).2⟩)
  have hx := ho.2.2.1
  refine ⟨s', Gs, X, A', D', R', k1, k2, ⟨k4, k5, by omega, fun j ee => ?_, fun i' ee => ?_⟩, fun i' ee => ⟨(k8 i' ee).2.1, (k8 i' ee).2.2.2.2.2.1⟩⟩
  · subst ee
    cases s with
    | inl j' => have b1 := ho.2.2.2.1 j' rfl; have b2 : D' ≤ D + 0 := k7; omega
    | inr i => have b2 : D' ≤ 18200 - 20 * (d + 1) := k7; omega
  · subst ee
    obtain ⟨i, e1⟩ := dv_inr k2
    subst e1
    obtain ⟨p1, p2, p3, p4, _⟩ := k8 i' rfl
    have b2 : D' + 2 * P i ≤ D + 2 * P i' + 0 := k7
    obtain ⟨a1, a2, a3, a4⟩ := ho.2.2.2.2 i rfl
    exact ⟨by omega, p1, fun z hz => by rcases p3 z hz with a | a; have := a3 z a; omega; omega, fun z hz => eqA_tr (a4 z hz) (p4 z (by omega) (by omega) (fun a => by have := a3 z a; omega))⟩
end RF
