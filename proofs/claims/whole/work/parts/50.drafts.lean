-- the reference's drafts
abbrev AR := (Nat → Int32) × (Nat → Int32) × (Nat → Int32) × (Nat → Int32) × (Nat → Int32) × (Nat → Int32)
/-- two drafts agree at a place -/
def eqA (A A' : AR) (x : Nat) : Prop := A'.1 x = A.1 x ∧ A'.2.1 x = A.2.1 x ∧ A'.2.2.1 x = A.2.2.1 x ∧ A'.2.2.2.1 x = A.2.2.2.1 x ∧ A'.2.2.2.2.1 x = A.2.2.2.2.1 x ∧ A'.2.2.2.2.2 x = A.2.2.2.2.2 x
theorem eqA_rfl {A : AR} {x : Nat} : eqA A A x := ⟨rfl, rfl, rfl, rfl, rfl, rfl⟩
theorem eqA_tr {A A' A'' : AR} {x : Nat} (h : eqA A A' x) (h' : eqA A' A'' x) : eqA A A'' x := ⟨h'.1.trans h.1, h'.2.1.trans h.2.1, h'.2.2.1.trans h.2.2.1, h'.2.2.2.1.trans h.2.2.2.1, h'.2.2.2.2.1.trans h.2.2.2.2.1, h'.2.2.2.2.2.trans h.2.2.2.2.2⟩
def da (P V : Nat → Nat) (A : AR) (c x : Nat) : Prop := A.1 x = nI (c % 32) ∧ A.2.1 x = (if c % 32 = 19 ∨ c % 32 = 0 then -1 else nI (P (c / 32))) ∧ A.2.2.1 x = (if c % 32 = 9 ∨ c % 32 = 16 then nI (c / 32) else if c % 32 = 17 then nI (V (c / 32)) else 0)
/-- a forest stands in the drafts R, from p on, its last root l, behind it q -/
def ch (P V : Nat → Nat) (A : AR) : Fo → (Nat → Prop) → Int32 → Int32 → Nat → Prop
  | .add X Y, R, p, q, l => ∃ R1 R2 r l1 l2, (∀ x, R1 x → R x) ∧ (∀ x, R2 x → R x) ∧ (∀ x, R1 x → ¬ R2 x) ∧ ch P V A X R1 p r l1 ∧ ch P V A Y R2 r q l2 ∧ l = (if fn Y = 0 then l1 else l2)
  | .pow X c, R, p, q, l => p = nI l ∧ R l ∧ da P V A c l ∧ A.2.2.2.2.2 l = q ∧ ∃ l1, ch P V A X (fun y => R y ∧ y ≠ l) (A.2.2.2.1 l) (-1) l1
  | _, _, p, q, _ => p = q
section CH
variable {P V : Nat → Nat} {A A' : AR}
theorem da_fr {c x : Nat} (h : da P V A c x) (e1 : A'.1 x = A.1 x) (e2 : A'.2.1 x = A.2.1 x) (e3 : A'.2.2.1 x = A.2.2.1 x) : da P V A' c x := ⟨e1.trans h.1, e2.trans h.2.1, e3.trans h.2.2⟩
theorem ch_fr (F : Fo) : ∀ (R : Nat → Prop) (p q : Int32) (l : Nat), ch P V A F R p q l → (∀ x, R x → eqA A A' x) → ch P V A' F R p q l := by
  induction F with
  | add X Y hX hY =>
    intro R p q l h hR
    obtain ⟨R1, R2, r, l1, l2, a, b, c, h1, h2, e⟩ := h
    exact ⟨R1, R2, r, l1, l2, a, b, c, hX _ _ _ _ h1 (fun x hx => hR x (a x hx)), hY _ _ _ _ h2 (fun x hx => hR x (b x hx)), e⟩
  | pow X c hX =>
    intro R p q l h hR
    obtain ⟨e1, hl, hd, e2, l1, h1⟩ := h
    have el := hR l hl
    refine ⟨e1, hl, da_fr hd el.1 el.2.1 el.2.2.1, el.2.2.2.2.2.trans e2, l1, ?_⟩
    rw [el.2.2.2.1]
    exact hX _ _ _ _ h1 (fun x hx => hR x hx.1)
  | _ => intro R p q l h hR; exact h
theorem ch_mono (F : Fo) : ∀ (R R' : Nat → Prop) (p q : Int32) (l : Nat), ch P V A F R p q l → (∀ x, R x → R' x) → ch P V A F R' p q l := by
  induction F with
  | add X Y hX hY =>
    intro R R' p q l h hR
    obtain ⟨R1, R2, r, l1, l2, a, b, c, h1, h2, e⟩ := h
    exact ⟨R1, R2, r, l1, l2, fun x hx => hR x (a x hx), fun x hx => hR x (b x hx), c, h1, h2, e⟩
  | pow X c hX =>
    intro R R' p q l h hR
    obtain ⟨e1, hl, hd, e2, l1, h1⟩ := h
    exact ⟨e1, hR l hl, hd, e2, l1, hX _ _ _ _ _ h1 (fun x hx => ⟨hR x hx.1, hx.2⟩)⟩
  | _ => intro R R' p q l h hR; exact h
theorem ch_in (F : Fo) : ∀ (R : Nat → Prop) (p q : Int32) (l : Nat), ch P V A F R p q l → 0 < fn F → R l := by
  induction F with
  | add X Y hX hY =>
    intro R p q l h hn
    obtain ⟨R1, R2, r, l1, l2, a, b, c, h1, h2, e⟩ := h
    have hn' : 0 < fn X + fn Y := hn
    by_cases q0 : fn Y = 0
    · rw [if_pos q0] at e; rw [e]; exact a _ (hX _ _ _ _ h1 (by omega))
    · rw [if_neg q0] at e; rw [e]; exact b _ (hY _ _ _ _ h2 (by omega))
  | pow X c hX => intro R p q l h hn; exact h.2.1
  | _ => intro R p q l h hn; exact absurd hn (by show ¬ 0 < 0; omega)
theorem ch_0 (F : Fo) : ∀ (R : Nat → Prop) (p q : Int32) (l : Nat), ch P V A F R p q l → fn F = 0 → p = q := by
  induction F with
  | add X Y hX hY =>
    intro R p q l h hn
    obtain ⟨R1, R2, r, l1, l2, a, b, c, h1, h2, e⟩ := h
    have hn' : fn X + fn Y = 0 := hn
    exact (hX _ _ _ _ h1 (by omega)).trans (hY _ _ _ _ h2 (by omega))
  | pow X c hX => intro R p q l h hn; exact absurd hn (by show ¬ 1 = 0; omega)
  | _ => intro R p q l h hn; exact h
theorem ch_0i (F : Fo) : ∀ (R : Nat → Prop) (p : Int32), fn F = 0 → ∃ l, ch P V A F R p p l := by
  induction F with
  | add X Y hX hY =>
    intro R p hn
    have hn' : fn X + fn Y = 0 := hn
    obtain ⟨l1, h1⟩ := hX R p (by omega)
    obtain ⟨l2, h2⟩ := hY (fun _ => False) p (by omega)
    exact ⟨_, R, fun _ => False, p, l1, l2, fun x hx => hx, fun x hx => absurd hx id, fun x _ hx => hx, h1, h2, rfl⟩
  | pow X c hX => intro R p hn; exact absurd hn (by show ¬ 1 = 0; omega)
  | _ => intro R p hn; exact ⟨0, rfl⟩
theorem ch_nx (F : Fo) : ∀ (R : Nat → Prop) (p q q' : Int32) (l : Nat), ch P V A F R p q l → 0 < fn F → (∀ x, R x → x ≠ l → eqA A A' x) → A'.1 l = A.1 l → A'.2.1 l = A.2.1 l → A'.2.2.1 l = A.2.2.1 l → A'.2.2.2.1 l = A.2.2.2.1 l → A'.2.2.2.2.2 l = q' → ch P V A' F R p q' l := by
  induction F with
  | add X Y hX hY =>
    intro R p q q' l h hn hR k1 k2 k3 k4 k5
    obtain ⟨R1, R2, r, l1, l2, a, b, c, h1, h2, e⟩ := h
    have hn' : 0 < fn X + fn Y := hn
    by_cases q0 : fn Y = 0
    · rw [if_pos q0] at e
      subst e
      obtain ⟨l3, h3⟩ := ch_0i (P := P) (V := V) (A := A') Y R2 q' q0
      exact ⟨R1, R2, q', l, l3, a, b, c, hX _ _ _ _ _ h1 (by omega) (fun x hx => hR x (a x hx)) k1 k2 k3 k4 k5, h3, by rw [if_pos q0]⟩
    · rw [if_neg q0] at e
      subst e
      have hl := ch_in Y _ _ _ _ h2 (by omega)
      exact ⟨R1, R2, r, l1, l, a, b, c, ch_fr X _ _ _ _ h1 (fun x hx => hR x (a x hx) (fun e => c x hx (by rw [e]; exact hl))), hY _ _ _ _ _ h2 (by omega) (fun x hx => hR x (b x hx)) k1 k2 k3 k4 k5, by rw [if_neg q0]⟩
  | pow X c hX =>
    intro R p q q' l h hn hR k1 k2 k3 k4 k5
    obtain ⟨e1, hl, hd, e2, l1, h1⟩ := h
    refine ⟨e1, hl, da_fr hd k1 k2 k3, k5, l1, ?_⟩
    rw [k4]
    exact ch_fr X _ _ _ _ h1 (fun x hx => hR x hx.1 hx.2)
  | _ => intro R p q q' l h hn; exact absurd hn (by show ¬ 0 < 0; omega)
theorem ch_z {F : Fo} {R : Nat → Prop} {p q : Int32} {l : Nat} (h : ch P V A (.add (.num 0) F) R p q l) (hn : fn F ≠ 0) : ch P V A F R p q l := by
  obtain ⟨R1, R2, r, l1, l2, a, b, c, h1, h2, e⟩ := h
  have e1 : p = r := h1
  rw [if_neg hn] at e
  subst e1
  subst e
  exact ch_mono F _ _ _ _ _ h2 b
/-- every draft may be joined to -/
def Wj (A : AR) (D : Nat) : Prop := ∀ x, x < D → (A.2.2.2.1 x = -1 ∨ ∃ l, l < D ∧ A.2.2.2.2.1 x = nI l) ∧ (A.2.2.2.1 x = -1 ∨ ∃ l, l < D ∧ A.2.2.2.1 x = nI l)
/-- a new draft -/
def dr (A : AR) (D : Nat) (k p v : Int32) : AR := (upd A.1 D k, upd A.2.1 D p, upd A.2.2.1 D v, upd A.2.2.2.1 D (-1), upd A.2.2.2.2.1 D (-1), upd A.2.2.2.2.2 D (-1))
/-- y joined to o -/
def jn (A : AR) (o : Nat) (y : Int32) : AR := (A.1, A.2.1, A.2.2.1, (if y = -1 then A.2.2.2.1 else if A.2.2.2.1 o = -1 then upd A.2.2.2.1 o y else A.2.2.2.1), (if y = -1 then A.2.2.2.2.1 else upd A.2.2.2.2.1 o y), (if y = -1 then A.2.2.2.2.2 else if A.2.2.2.1 o = -1 then A.2.2.2.2.2 else upd A.2.2.2.2.2 (A.2.2.2.2.1 o).toNatClampNeg y))
theorem jn_m {o : Nat} {y : Int32} (h : y = -1) : jn A o y = A := by
  unfold jn
  rw [if_pos h, if_pos h, if_pos h]
theorem jn_f {o : Nat} {y : Int32} (h : ¬ y = -1) (h2 : A.2.2.2.1 o = -1) : jn A o y = (A.1, A.2.1, A.2.2.1, upd A.2.2.2.1 o y, upd A.2.2.2.2.1 o y, A.2.2.2.2.2) := by
  unfold jn
  rw [if_neg h, if_neg h, if_neg h, if_pos h2, if_pos h2]
theorem jn_n {o : Nat} {y : Int32} (h : ¬ y = -1) (h2 : ¬ A.2.2.2.1 o = -1) : jn A o y = (A.1, A.2.1, A.2.2.1, A.2.2.2.1, upd A.2.2.2.2.1 o y, upd A.2.2.2.2.2 (A.2.2.2.2.1 o).toNatClampNeg y) := by
  unfold jn
  rw [if_neg h, if_neg h, if_neg h, if_neg h2, if_neg h2]
theorem jn_1 {o : Nat} {y : Int32} : (jn A o y).1 = A.1 ∧ (jn A o y).2.1 = A.2.1 ∧ (jn A o y).2.2.1 = A.2.2.1 := ⟨rfl, rfl, rfl⟩
theorem nI_m1 {x : Nat} (h : x < 2 ^ 31) : ¬ nI x = -1 := fun e => by
  have h1 := nI_toInt h
  rw [e] at h1
  have h2 : (-1 : Int32).toInt = -1 := by decide
  rw [h2] at h1
  omega
theorem m_draft {D : Nat} {k p v : Int32} (hD : D < 20000) : f_Mo_draft A.1 A.2.1 A.2.2.1 A.2.2.2.1 A.2.2.2.2.1 A.2.2.2.2.2 (nI D) k p v = some (nI D, (dr A D k p v).1, (dr A D k p v).2.1, (dr A D k p v).2.2.1, (dr A D k p v).2.2.2.1, (dr A D k p v).2.2.2.2.1, (dr A D k p v).2.2.2.2.2, nI (D + 1)) := by
  unfold f_Mo_draft
  have h := nI_in (c := D) (N := 20000) hD (by omega)
  have e : nI D + 1 - 1 = nI D := by rw [nI_1]; exact nI_pred D
  rw [if_neg h, if_neg h, if_neg h, if_neg h, if_neg h, if_neg h, e, nI_clamp (by omega), nI_1]
  rfl
theorem m_join {o D : Nat} {y : Int32} (hW : Wj A D) (ho : o < D) (hD : D ≤ 20000) : f_Mo_join A.2.2.2.1 A.2.2.2.2.1 A.2.2.2.2.2 (nI o) y = some ((jn A o y).2.2.2.1, (jn A o y).2.2.2.2.1, (jn A o y).2.2.2.2.2) := by
  unfold f_Mo_join
  have h := nI_in (c := o) (N := 20000) (by omega) (by omega)
  have h' := h
  rw [nI_clamp (by omega)] at h'
  by_cases q : y = -1
  · rw [if_pos q, jn_m q]
  · rw [if_neg q, if_neg h, nI_clamp (by omega)]
    by_cases q2 : A.2.2.2.1 o = -1
    · rw [if_pos q2, jn_f q q2, if_neg h']
      unfold Mo_join_b38
      rw [if_neg h, nI_clamp (by omega)]
    · rw [if_neg q2, jn_n q q2, if_neg h']
      rcases (hW o ho).1 with w1 | ⟨l, hl, w1⟩
      · exact absurd w1 q2
      · rw [w1, if_neg (nI_in (c := l) (N := 20000) (by omega) (by omega))]
        unfold Mo_join_b38
        rw [if_neg h, nI_clamp (n := o) (by omega)]
theorem W_dr {D : Nat} {k p v : Int32} (hW : Wj A D) : Wj (dr A D k p v) (D + 1) := by
  intro x hx
  by_cases q : x = D
  · rw [q]
    exact ⟨Or.inl pk_us, Or.inl pk_us⟩
  · obtain ⟨w, w2⟩ := hW x (by omega)
    have ef : (dr A D k p v).2.2.2.1 x = A.2.2.2.1 x := pk_un q
    have el : (dr A D k p v).2.2.2.2.1 x = A.2.2.2.2.1 x := pk_un q
    rw [ef, el]
    refine ⟨?_, ?_⟩
    · rcases w with w1 | ⟨l, hl, w1⟩
      · exact Or.inl w1
      · exact Or.inr ⟨l, by omega, w1⟩
    · rcases w2 with w1 | ⟨l, hl, w1⟩
      · exact Or.inl w1
      · exact Or.inr ⟨l, by omega, w1⟩
theorem W_jn {D o : Nat} {y : Int32} (hW : Wj A D) (hy : y = -1 ∨ ∃ z, z < D ∧ y = nI z) : Wj (jn A o y) D := by
  by_cases qy : y = -1
  · rw [jn_m qy]; exact hW
  rcases hy with hy | ⟨z, hz, hy⟩
  · exact absurd hy qy
  · intro x hx
    obtain ⟨w, w2⟩ := hW x hx
    by_cases q2 : A.2.2.2.1 o = -1
    · rw [jn_f qy q2]
      show (upd A.2.2.2.1 o y x = -1 ∨ ∃ l, l < D ∧ upd A.2.2.2.2.1 o y x = nI l) ∧ (upd A.2.2.2.1 o y x = -1 ∨ ∃ l, l < D ∧ upd A.2.2.2.1 o y x = nI l)
      by_cases q : x = o
      · subst q
        exact ⟨Or.inr ⟨z, hz, pk_us.trans hy⟩, Or.inr ⟨z, hz, pk_us.trans hy⟩⟩
      · rw [pk_un q, pk_un q]; exact ⟨w, w2⟩
    · rw [jn_n qy q2]
      show (A.2.2.2.1 x = -1 ∨ ∃ l, l < D ∧ upd A.2.2.2.2.1 o y x = nI l) ∧ (A.2.2.2.1 x = -1 ∨ ∃ l, l < D ∧ A.2.2.2.1 x = nI l)
      refine ⟨?_, w2⟩
      by_cases q : x = o
      · subst q
        exact Or.inr ⟨z, hz, pk_us.trans hy⟩
      · rw [pk_un q]; exact w
theorem eqA_dr {D x : Nat} {k p v : Int32} (h : x < D) : eqA A (dr A D k p v) x := ⟨pk_un (by omega), pk_un (by omega), pk_un (by omega), pk_un (by omega), pk_un (by omega), pk_un (by omega)⟩
/-- a node with its parts so far -/
def ON (P V : Nat → Nat) (A : AR) (R : Nat → Prop) (x c : Nat) (H : Fo) : Prop := da P V A c x ∧ ¬ R x ∧ A.2.2.2.2.2 x = -1 ∧ ∃ l, ch P V A H R (A.2.2.2.1 x) (-1) l ∧ (fn H = 0 → A.2.2.2.1 x = -1) ∧ (0 < fn H → A.2.2.2.1 x ≠ -1 ∧ A.2.2.2.2.1 x = nI l)
theorem on_new {D c : Nat} {k p v : Int32} (h1 : k = nI (c % 32)) (h2 : p = (if c % 32 = 19 ∨ c % 32 = 0 then -1 else nI (P (c / 32)))) (h3 : v = (if c % 32 = 9 ∨ c % 32 = 16 then nI (c / 32) else if c % 32 = 17 then nI (V (c / 32)) else 0)) : ON P V (dr A D k p v) (fun _ => False) D c (.num 0) :=
  ⟨⟨pk_us.trans h1, pk_us.trans h2, pk_us.trans h3⟩, id, pk_us, 0, pk_us, fun _ => pk_us, fun h => absurd h (by show ¬ 0 < 0; omega)⟩
theorem on_fr {R : Nat → Prop} {x c : Nat} {H : Fo} (h : ON P V A R x c H) (hx : eqA A A' x) (hR : ∀ y, R y → eqA A A' y) : ON P V A' R x c H := by
  obtain ⟨h1, h2, h3, l, h4, h5, h6⟩ := h
  refine ⟨da_fr h1 hx.1 hx.2.1 hx.2.2.1, h2, hx.2.2.2.2.2.trans h3, l, ?_, ?_, ?_⟩
  · rw [hx.2.2.2.1]; exact ch_fr H _ _ _ _ h4 hR
  · rw [hx.2.2.2.1]; exact h5
  · rw [hx.2.2.2.1, hx.2.2.2.2.1]; exact h6
theorem on_close {R : Nat → Prop} {x c : Nat} {H : Fo} (h : ON P V A R x c H) : ch P V A (.pow H c) (fun y => R y ∨ y = x) (nI x) (-1) x := by
  obtain ⟨h1, h2, h3, l, h4, h5, h6⟩ := h
  refine ⟨rfl, Or.inr rfl, h1, h3, l, ch_mono H _ _ _ _ _ h4 ?_⟩
  intro y hy
  exact ⟨Or.inl hy, fun e => h2 (by rw [← e]; exact hy)⟩
/-- a part joined, its own parts perhaps still to come -/
theorem on_join {R R2 : Nat → Prop} {x c y : Nat} {H T : Fo} (hb : ∀ z, R z → z < 2 ^ 31) (h : ON P V A R x c H) (hT : fn T = 1) (hx2 : ¬ R2 x) (hd : ∀ z, R z → ¬ R2 z) (he : ∀ z, z = x ∨ R z → eqA (jn A x (nI y)) A' z) (hy : y < 2 ^ 31) (h2 : ch P V A' T R2 (nI y) (-1) y) : ON P V A' (fun z => R z ∨ R2 z) x c (.add H T) := by
  obtain ⟨h1, hx, h3, l, h4, h5, h6⟩ := h
  have ny := nI_m1 hy
  have ex := he x (Or.inl rfl)
  have j1 := jn_1 (A := A) (o := x) (y := nI y)
  have dx : da P V A' c x := da_fr h1 (by rw [ex.1, j1.1]) (by rw [ex.2.1, j1.2.1]) (by rw [ex.2.2.1, j1.2.2])
  have hxx : ¬ (R x ∨ R2 x) := fun q => q.elim hx hx2
  have hT0 : ¬ fn T = 0 := by omega
  by_cases q0 : fn H = 0
  · have f1 := h5 q0
    have jf : jn A x (nI y) = (A.1, A.2.1, A.2.2.1, upd A.2.2.2.1 x (nI y), upd A.2.2.2.2.1 x (nI y), A.2.2.2.2.2) := jn_f ny f1
    have f2 : A'.2.2.2.1 x = nI y := by rw [ex.2.2.2.1, jf]; exact pk_us
    have f3 : A'.2.2.2.2.1 x = nI y := by rw [ex.2.2.2.2.1, jf]; exact pk_us
    have f4 : A'.2.2.2.2.2 x = -1 := by rw [ex.2.2.2.2.2, jf]; exact h3
    obtain ⟨l3, c3⟩ := ch_0i (P := P) (V := V) (A := A') H R (nI y) q0
    refine ⟨dx, hxx, f4, y, ?_, fun e => absurd e (by show ¬ fn H + fn T = 0; omega), fun _ => ⟨by rw [f2]; exact ny, f3⟩⟩
    rw [f2]
    exact ⟨R, R2, nI y, l3, y, fun z hz => Or.inl hz, fun z hz => Or.inr hz, hd, c3, h2, by rw [if_neg hT0]⟩
  · obtain ⟨g1, g2⟩ := h6 (by omega)
    have hl := ch_in H _ _ _ _ h4 (by omega)
    have lb := hb l hl
    have jf : jn A x (nI y) = (A.1, A.2.1, A.2.2.1, A.2.2.2.1, upd A.2.2.2.2.1 x (nI y), upd A.2.2.2.2.2 l (nI y)) := by rw [jn_n ny g1, g2, nI_clamp lb]
    have lx : x ≠ l := fun e => hx (by rw [e]; exact hl)
    have f2 : A'.2.2.2.1 x = A.2.2.2.1 x := by rw [ex.2.2.2.1, jf]
    have f3 : A'.2.2.2.2.1 x = nI y := by rw [ex.2.2.2.2.1, jf]; exact pk_us
    have f4 : A'.2.2.2.2.2 x = -1 := by rw [ex.2.2.2.2.2, jf]; show upd A.2.2.2.2.2 l (nI y) x = -1; rw [pk_un lx]; exact h3
    have el := he l (Or.inr hl)
    have c3 : ch P V A' H R (A.2.2.2.1 x) (nI y) l := by
      refine ch_nx H R _ _ _ l h4 (by omega) ?_ (by rw [el.1, jf]) (by rw [el.2.1, jf]) (by rw [el.2.2.1, jf]) (by rw [el.2.2.2.1, jf]) (by rw [el.2.2.2.2.2, jf]; exact pk_us)
      intro z hz hzl
      have ez := he z (Or.inr hz)
      have zx : z ≠ x := fun e => hx (by rw [← e]; exact hz)
      rw [jf] at ez
      exact ⟨ez.1, ez.2.1, ez.2.2.1, ez.2.2.2.1, by rw [ez.2.2.2.2.1]; exact pk_un zx, by rw [ez.2.2.2.2.2]; exact pk_un hzl⟩
    refine ⟨dx, hxx, f4, y, ?_, fun e => absurd e (by show ¬ fn H + fn T = 0; omega), fun _ => ⟨by rw [f2]; exact g1, f3⟩⟩
    rw [f2]
    exact ⟨R, R2, nI y, l, y, fun z hz => Or.inl hz, fun z hz => Or.inr hz, hd, c3, h2, by rw [if_neg hT0]⟩
end CH
