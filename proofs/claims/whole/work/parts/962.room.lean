-- tokens that are names, and the room for them
section TL
variable {B : Nat → Nat} {e n m : Nat}
theorem ln_end : ∀ f i, e ≤ i + f → e ≤ lnE B e f i ∨ B (lnE B e f i) = 10 := by
  intro f
  induction f with
  | zero => intro i h; exact Or.inl h
  | succ f ih =>
    intro i h
    show e ≤ (if e ≤ i then i else if B i = 10 then i else lnE B e f (i + 1)) ∨ B (if e ≤ i then i else if B i = 10 then i else lnE B e f (i + 1)) = 10
    by_cases q : e ≤ i
    · rw [if_pos q]; exact Or.inl q
    · rw [if_neg q]
      by_cases r : B i = 10
      · rw [if_pos r]; exact Or.inr r
      · rw [if_neg r]; exact ih (i + 1) (by omega)
theorem rk_end : ∀ f o i p, rkE B e f o i = some p → B (p - 1) = 125 := by
  intro f
  induction f with
  | zero => intro o i p h; cases h
  | succ f ih =>
    intro o i p h
    have h' : (if e ≤ i + 1 then none else if B i = 123 ∧ B (i + 1) = 45 then rkE B e f (o + 1) (i + 2) else if B i = 45 ∧ B (i + 1) = 125 then (if o = 1 then some (i + 2) else rkE B e f (o - 1) (i + 2)) else rkE B e f o (i + 1)) = some p := h
    by_cases q : e ≤ i + 1
    · rw [if_pos q] at h'; cases h'
    · rw [if_neg q] at h'
      by_cases r : B i = 123 ∧ B (i + 1) = 45
      · rw [if_pos r] at h'; exact ih _ _ _ h'
      · rw [if_neg r] at h'
        by_cases s : B i = 45 ∧ B (i + 1) = 125
        · rw [if_pos s] at h'
          by_cases t : o = 1
          · rw [if_pos t] at h'
            have := Option.some.inj h'
            subst this
            exact s.2
          · rw [if_neg t] at h'; exact ih _ _ _ h'
        · rw [if_neg s] at h'; exact ih _ _ _ h'
theorem re_end : ∀ f i, e ≤ i + f → e ≤ reE B e f i ∨ innB (B (reE B e f i)) = false := by
  intro f
  induction f with
  | zero => intro i h; exact Or.inl h
  | succ f ih =>
    intro i h
    show e ≤ (if e ≤ i then i else if innB (B i) = true then reE B e f (i + 1) else i) ∨ innB (B (if e ≤ i then i else if innB (B i) = true then reE B e f (i + 1) else i)) = false
    by_cases q : e ≤ i
    · rw [if_pos q]; exact Or.inl q
    · rw [if_neg q]
      by_cases r : innB (B i) = true
      · rw [if_pos r]; exact ih (i + 1) (by omega)
      · rw [if_neg r]; exact Or.inr (by cases h : innB (B i) with | true => exact absurd h r | false => rfl)
theorem re_uni {r : Nat} (hr : r < n) (hb : innB (B r) = false) : ∀ f i, n ≤ i + f → i ≤ r → (∀ j, i ≤ j → j < r → innB (B j) = true) → reE B n f i = r := by
  intro f
  induction f with
  | zero => intro i h1 h2 _; omega
  | succ f ih =>
    intro i h1 h2 h3
    show (if n ≤ i then i else if innB (B i) = true then reE B n f (i + 1) else i) = r
    rw [if_neg (by omega)]
    by_cases q : i = r
    · subst q
      rw [hb, if_neg (by decide)]
    · rw [if_pos (h3 i (Nat.le_refl _) (by omega))]
      exact ih (i + 1) (by omega) (by omega) (fun j j1 j2 => h3 j (by omega) j2)
theorem nb_ge {i : Nat} : i ≤ nbE B e i := by
  unfold nbE
  split
  · omega
  · split
    · split
      · exact lnE_ge _ _
      · split
        · split
          · rename_i h
            have := (rkE_le _ _ _ _ h).1; omega
          · exact Nat.le_refl _
        · exact Nat.le_refl _
    · exact Nat.le_refl _
theorem bl_left {q0 : Nat} : ∀ f i, e ≤ i + f → (i = q0 ∨ innB (B (i - 1)) = false ∨ B i = 10 ∨ e ≤ i) → blE B e f i = q0 ∨ innB (B (blE B e f i - 1)) = false ∨ e ≤ blE B e f i := by
  intro f
  induction f with
  | zero => intro i h _; exact Or.inr (Or.inr h)
  | succ f ih =>
    intro i h ok
    have e0 : blE B e (f + 1) i = if e ≤ i then i else if nbE B e i = i then i else blE B e f (nbE B e i) := rfl
    rw [e0]
    by_cases q : e ≤ i
    · rw [if_pos q]; exact Or.inr (Or.inr q)
    · rw [if_neg q]
      have hg := nb_ge (B := B) (e := e) (i := i)
      by_cases r : nbE B e i = i
      · rw [if_pos r]
        rcases ok with z | z | z | z
        · exact Or.inl z
        · exact Or.inr (Or.inl z)
        · exfalso
          unfold nbE at r
          rw [if_pos (by omega)] at r
          omega
        · exact Or.inr (Or.inr z)
      · rw [if_neg r]
        refine ih (nbE B e i) (by omega) ?_
        unfold nbE at r ⊢
        by_cases b1 : B i = 32 ∨ B i = 9 ∨ B i = 10 ∨ B i = 13
        · rw [if_pos b1]
          right; left
          rw [Nat.add_sub_cancel]
          rcases b1 with z | z | z | z <;> rw [z] <;> decide
        · rw [if_neg b1] at r ⊢
          by_cases b2 : i + 1 < e ∧ B (i + 1) = 45
          · rw [if_pos b2] at r ⊢
            by_cases b3 : B i = 45
            · rw [if_pos b3]
              rcases ln_end (B := B) (e := e) e i (by omega) with z | z
              · exact Or.inr (Or.inr (Or.inr z))
              · exact Or.inr (Or.inr (Or.inl z))
            · rw [if_neg b3] at r ⊢
              by_cases b4 : B i = 123
              · rw [if_pos b4] at r ⊢
                cases hk : rkE B e e 1 (i + 2) with
                | none => rw [hk] at r; exact absurd rfl r
                | some p =>
                  have := rk_end _ _ _ _ hk
                  right; left
                  show innB (B (p - 1)) = false
                  rw [this]; decide
              · rw [if_neg b4] at r; exact absurd rfl r
          · rw [if_neg b2] at r; exact absurd rfl r
theorem let_inn {c : Nat} (h : letB c = true) : innB c = true := by unfold innB; rw [h]; rfl
theorem sg_bytes {c d : Nat} (h : 2 ≤ sgE c d) : innB c = false ∧ (sglE (sgE c d) = 1 ∨ (sglE (sgE c d) = 2 ∧ (d = 61 ∨ d = 62))) := by
  have hc : c = 40 ∨ c = 41 ∨ c = 44 ∨ c = 45 ∨ c = 46 ∨ c = 58 ∨ c = 61 ∨ c = 124 := by
    unfold sgE at h
    repeat' split at h
    all_goals omega
  constructor
  · rcases hc with z | z | z | z | z | z | z | z <;> rw [z] <;> decide
  · unfold sgE at h ⊢
    repeat' split at h
    all_goals (first | omega | skip)
    all_goals simp_all [sglE]
theorem tok_left {i : Nat} (hm : tkM B e m) (hi : i ≤ m) (hl : letB (B (tkA B e i)) = true) (ha : tkA B e i < e) : tkA B e i = 0 ∨ innB (B (tkA B e i - 1)) = false := by
  cases i with
  | zero =>
    rcases bl_left (B := B) (e := e) (q0 := 0) e 0 (by omega) (Or.inl rfl) with z | z | z
    · exact Or.inl z
    · exact Or.inr z
    · have : tkA B e 0 = blE B e e 0 := rfl
      omega
  | succ j =>
    have hk := hm.1 j (by omega)
    have hN := tkN_in hk
    rcases bl_left (B := B) (e := e) (q0 := tkQ B e (j + 1)) e (tkQ B e (j + 1)) (by omega) (Or.inl rfl) with z | z | z
    · have z' : tkA B e (j + 1) = tkQ B e (j + 1) := z
      rw [tkQ_succ] at z'
      right
      by_cases w : letB (B (tkA B e j)) = true
      · -- a word before it
        exfalso
        have e1 : tkN B e (tkA B e j) = tkW B e (tkA B e j) := by unfold tkN; rw [if_neg (by omega), if_pos w]
        have g1 := reE_ge (B := B) (e := e) e (tkA B e j + 1)
        have e2 : tkA B e (j + 1) = reE B e e (tkA B e j + 1) := by
          rw [z', e1]
          unfold tkW
          omega
        rcases re_end (B := B) (e := e) e (tkA B e j + 1) (by omega) with y | y
        · omega
        · rw [← e2] at y
          rw [let_inn hl] at y
          cases y
      · have e1 : tkN B e (tkA B e j) = sglE (tkK B e (tkA B e j)) := by unfold tkN; rw [if_neg (by omega), if_neg w]
        have e2 : tkK B e (tkA B e j) = sgE (B (tkA B e j)) (tkD B e (tkA B e j)) := by unfold tkK; rw [if_neg (by omega), if_neg w]
        rw [e2] at hk e1
        obtain ⟨s1, s2⟩ := sg_bytes hk
        rcases s2 with s2 | ⟨s2, s3⟩
        · rw [z', e1, s2, Nat.add_sub_cancel]; exact s1
        · rw [z', e1, s2, show tkA B e j + 2 - 1 = tkA B e j + 1 by omega]
          have e3 : tkD B e (tkA B e j) = B (tkA B e j + 1) := by
            unfold tkD at s3 ⊢
            split
            · rfl
            · rename_i h9
              rw [if_neg h9] at s3
              omega
          rw [e3] at s3
          rcases s3 with y | y <;> rw [y] <;> decide
    · exact Or.inr z
    · have : tkA B e (j + 1) = blE B e e (tkQ B e (j + 1)) := rfl
      omega
/-- what holds of a token that is a name -/
theorem tok_name {i : Nat} (hm : tkM B e m) (hi : i < m) (hk : kS B e i = 2) : letB (B (pS B e i)) = true ∧ (pS B e i = 0 ∨ innB (B (pS B e i - 1)) = false) ∧ wS B e i = tkW B e (pS B e i) ∧ 1 ≤ wS B e i ∧ wS B e i ≤ 40 ∧ pS B e i + wS B e i ≤ e ∧ (∀ j, j < wS B e i → innB (B (pS B e i + j)) = true) ∧ (pS B e i + wS B e i < e → innB (B (pS B e i + wS B e i)) = false) ∧ (wkE B (pS B e i) (wS B e i)).1 = 2 := by
  have hk' : tkK B e (tkA B e i) = 2 := hk
  obtain ⟨h1, h2, h3, h4, h5⟩ := tk_word (B := B) (e := e) (Or.inl hk')
  obtain ⟨n1, n2, n3, n4⟩ := name_in hk
  have hw : wS B e i = tkW B e (pS B e i) := h2
  have hkw : (wkE B (pS B e i) (wS B e i)).1 = 2 := by rw [hw]; exact h3.symm.trans hk'
  refine ⟨h5, tok_left hm (by omega) h5 h1, hw, n1, ?_, n2, n4.1, fun hlt => ?_, hkw⟩
  · unfold wkE at hkw
    by_cases q : 40 < wS B e i
    · rw [if_pos q] at hkw
      exact absurd hkw (by decide)
    · omega
  · have g1 := reE_ge (B := B) (e := e) e (pS B e i + 1)
    have e2 : pS B e i + wS B e i = reE B e e (pS B e i + 1) := by
      rw [hw]
      unfold tkW
      omega
    rcases re_end (B := B) (e := e) e (pS B e i + 1) (by omega) with y | y
    · omega
    · rw [e2]; exact y
theorem tok_end {i j : Nat} (hm : tkM B e m) (hij : i < j) (hj : j ≤ m) (hk : kS B e i = 2) : pS B e i + wS B e i ≤ pS B e j := by
  have step : ∀ d, i + 1 + d ≤ m → tkA B e (i + 1) ≤ tkA B e (i + 1 + d) := by
    intro d
    induction d with
    | zero => intro _; exact Nat.le_refl _
    | succ d ih =>
      intro h
      have h1 := ih (by omega)
      have h2 := tkA_lt (hm.1 (i + 1 + d) (by omega))
      rw [show i + 1 + (d + 1) = i + 1 + d + 1 by omega]
      omega
  have h1 : tkQ B e (i + 1) ≤ tkA B e (i + 1) := blE_ge e _
  rw [tkQ_succ] at h1
  have h2 := step (j - (i + 1)) (by omega)
  rw [show i + 1 + (j - (i + 1)) = j by omega] at h2
  show tkA B e i + tkN B e (tkA B e i) ≤ tkA B e j
  omega
theorem wl_eq {p : Nat} (hen : e ≤ n) (hp : p < e) (h : p + tkW B e p < e) : tkW B n p = tkW B e p := by
  have g1 := reE_ge (B := B) (e := e) e (p + 1)
  have e2 : p + tkW B e p = reE B e e (p + 1) := by unfold tkW; omega
  have hb : innB (B (reE B e e (p + 1))) = false := by
    rcases re_end (B := B) (e := e) e (p + 1) (by omega) with y | y
    · omega
    · exact y
  have := re_uni (B := B) (n := n) (r := reE B e e (p + 1)) (by omega) hb n (p + 1) (by omega) g1 (fun j j1 j2 => reE_in e (p + 1) j j1 j2)
  unfold tkW
  rw [this]
end TL
section RO
variable {B : Nat → Nat} {e n m a C : Nat} {T0 : TBt}
/-- a run that ends behind the first a bytes, and is known -/
def cnd (B : Nat → Nat) (n a : Nat) (T : TBt) (p : Nat) : Prop := letB (B p) = true ∧ (p = 0 ∨ innB (B (p - 1)) = false) ∧ a < p + tkW B n p ∧ p + tkW B n p < n ∧ tkW B n p ≤ 40 ∧ kn B T p (tkW B n p)
noncomputable def SS (B : Nat → Nat) (n a : Nat) (T : TBt) : Nat := smq (cnd B n a T) (fun p => tkW B n p + 1) n
theorem tkW_inn {p : Nat} (hp : p < n) (hl : letB (B p) = true) : ∀ j, j < tkW B n p → innB (B (p + j)) = true := by
  intro j hj
  by_cases q : j = 0
  · subst q; exact let_inn hl
  · have g := reE_ge (B := B) (e := n) n (p + 1)
    exact reE_in (e := n) n (p + 1) (p + j) (by omega) (by unfold tkW at hj; omega)
theorem SS_le (han : a ≤ n) (T : TBt) : SS B n a T + (a - 39) ≤ n := by
  refine smq_le (n := n) (fun p p' h h' hlt => ?_) (fun p h => ?_) (fun p h => ?_) n n (Or.inl rfl) (Nat.le_refl _) (by omega)
  · obtain ⟨h1, h2, h3, h4, h5, h6⟩ := h
    obtain ⟨g1, g2, g3, g4, g5, g6⟩ := h'
    have hb : innB (B (p' - 1)) = false := g2.resolve_left (by omega)
    show p + (tkW B n p + 1) ≤ p'
    rcases Nat.lt_or_ge (p' - 1) (p + tkW B n p) with q | q
    · have := tkW_inn (n := n) (show p < n by omega) h1 (p' - 1 - p) (by omega)
      rw [show p + (p' - 1 - p) = p' - 1 by omega, hb] at this
      cases this
    · omega
  · have := h.2.2.2.1
    show p + (tkW B n p + 1) ≤ n
    omega
  · have := h.2.2.1
    have := h.2.2.2.2.1
    omega
theorem SS_mono {T T' : TBt} (h : ∀ p w, kn B T p w → kn B T' p w) : SS B n a T ≤ SS B n a T' := smq_mono n (fun p _ z => ⟨z.1, z.2.1, z.2.2.1, z.2.2.2.1, z.2.2.2.2.1, h _ _ z.2.2.2.2.2⟩)
/-- how much the table may hold; with b one name more, the last one, which may be cut off -/
def IV (B : Nat → Nat) (e n m a C : Nat) (b : Bool) (T : TBt) : Prop := wt T ≤ C + SS B n a T ∨ (b = true ∧ wt T ≤ C + SS B n a T + 41 ∧ ∀ i, i < m → kS B e i = 2 → pS B e i + wS B e i = e → kn B T (pS B e i) (wS B e i))
theorem st1 (hm : tkM B e m) (hen : e ≤ n) (han : a ≤ n) (hWK : WKp B T0 a) (HB : C + n ≤ (a - 39) + 10240) {b : Bool} {T : TBt} {i : Nat} (hi : i < m) (hk : kS B e i = 2) (hb : b = false → pS B e i + wS B e i < e) (hT : TB T.1 T.2.1 T.2.2) (h0 : ∀ p w, kn B T0 p w → kn B T p w) (hI : IV B e n m a C b T) : (fdN T.2.1 T.2.2 B (pS B e i) (wS B e i) T.1 0 < T.1 ∨ (T.1 + 1 ≤ 4096 ∧ T.2.1 T.1 + wS B e i ≤ 12000)) ∧ IV B e n m a C b (nmT B T (pS B e i) (wS B e i)) := by
  obtain ⟨n1, n2, n3, n4, n5, n6, n7, n8, n9⟩ := tok_name hm hi hk
  by_cases q : kn B T (pS B e i) (wS B e i)
  · exact ⟨Or.inl (kn_fd.mp q), by rw [nm_eq q]; exact hI⟩
  · have hS := SS_le (B := B) han T
    have hc := nc_le hT
    have hwt : wt T = T.2.1 T.1 + T.1 := rfl
    have bound : wt T ≤ 10281 := by
      rcases hI with z | ⟨_, z, _⟩ <;> omega
    refine ⟨Or.inr ⟨by omega, by omega⟩, ?_⟩
    have mono : ∀ p w, kn B T p w → kn B (nmT B T (pS B e i) (wS B e i)) p w := fun p w h => kn_mono hT h
    have hw := wt_new (B := B) (T := T) (a := pS B e i) (v := wS B e i) q
    have hSm := SS_mono (B := B) (n := n) (a := a) mono
    have hnew : kn B (nmT B T (pS B e i) (wS B e i)) (pS B e i) (wS B e i) := kn_new hT
    by_cases cut : pS B e i + wS B e i = e
    · -- the last one
      have bt : b = true := by
        cases b with
        | true => rfl
        | false => have := hb rfl; omega
      refine Or.inr ⟨bt, ?_, fun j hj hjk hje => ?_⟩
      · rcases hI with z | ⟨_, z, z2⟩
        · omega
        · exact absurd (z2 i hi hk cut) q
      · have ej : j = i := by
          rcases Nat.lt_trichotomy i j with y | y | y
          · have g1 := tok_end hm y (by omega) hk
            have g2 := (tok_name hm hj hjk).2.2.2.1
            omega
          · exact y.symm
          · have g1 := tok_end hm y (by omega) hjk
            omega
        rw [ej]; exact hnew
    · have hlt : pS B e i + wS B e i < e := by omega
      have hba : a < pS B e i + wS B e i := by
        rcases Nat.lt_or_ge a (pS B e i + wS B e i) with y | y
        · exact y
        · exfalso
          rcases hWK (pS B e i) (wS B e i) n4 y n2 n7 (fun _ => n8 hlt) with z | z
          · exact q (h0 _ _ z)
          · exact z n9
      have hwl : tkW B n (pS B e i) = wS B e i := by
        rw [n3]
        rw [n3] at hlt
        exact wl_eq hen (by omega) hlt
      have c1 : ¬ cnd B n a T (pS B e i) := fun z => q (by have := z.2.2.2.2.2; rw [hwl] at this; exact this)
      have c2 : cnd B n a (nmT B T (pS B e i) (wS B e i)) (pS B e i) := ⟨n1, n2, by rw [hwl]; exact hba, by rw [hwl]; omega, by rw [hwl]; exact n5, by rw [hwl]; exact hnew⟩
      have hadd := smq_add (f := fun p => tkW B n p + 1) c1 c2 n (fun p _ z => ⟨z.1, z.2.1, z.2.2.1, z.2.2.2.1, z.2.2.2.2.1, mono _ _ z.2.2.2.2.2⟩) (by omega)
      have hadd' : SS B n a T + (wS B e i + 1) ≤ SS B n a (nmT B T (pS B e i) (wS B e i)) := by
        have : smq (cnd B n a T) (fun p => tkW B n p + 1) n + (tkW B n (pS B e i) + 1) ≤ smq (cnd B n a (nmT B T (pS B e i) (wS B e i))) (fun p => tkW B n p + 1) n := hadd
        rw [hwl] at this
        exact this
      rcases hI with z | ⟨z1, z2, z3⟩
      · left; omega
      · refine Or.inr ⟨z1, by omega, fun j hj hjk hje => mono _ _ (z3 j hj hjk hje)⟩
theorem rm_F (hm : tkM B e m) (hen : e ≤ n) (han : a ≤ n) (hWK : WKp B T0 a) (HB : C + n ≤ (a - 39) + 10240) {b : Bool} (F : Fo) : ∀ T : TBt, nkF (kS B e) m F → (b = false → ∀ x, x ∈ fp F → (x.1 % 32 = 9 ∨ x.1 % 32 = 16) → pS B e (x.1 / 32) + wS B e (x.1 / 32) < e) → TB T.1 T.2.1 T.2.2 → (∀ p w, kn B T0 p w → kn B T p w) → IV B e n m a C b T → rmT (pS B e) (vS B e) (wS B e) B n F T ∧ TB (ntT (pS B e) (wS B e) B F T).1 (ntT (pS B e) (wS B e) B F T).2.1 (ntT (pS B e) (wS B e) B F T).2.2 ∧ IV B e n m a C b (ntT (pS B e) (wS B e) B F T) ∧ ∀ (B2 : Nat → Nat) p w, kn B2 T p w → kn B2 (ntT (pS B e) (wS B e) B F T) p w := by
  induction F with
  | add X Y hX hY =>
    intro T hk hb hT h0 hI
    obtain ⟨k1, k2⟩ := nk_add hk
    obtain ⟨a1, a2, a3, a4⟩ := hX T k1 (fun z x hx => hb z x (List.mem_append_right _ hx)) hT h0 hI
    obtain ⟨b1, b2, b3, b4⟩ := hY _ k2 (fun z x hx => hb z x (List.mem_append_left _ hx)) a2 (fun p w h => a4 B p w (h0 p w h)) a3
    exact ⟨⟨a1, b1⟩, b2, b3, fun B2 p w h => b4 B2 p w (a4 B2 p w h)⟩
  | pow X c hX =>
    intro T hk hb hT h0 hI
    have hk2 := (nk_pow hk).2
    have hb2 : b = false → ∀ x, x ∈ fp X → (x.1 % 32 = 9 ∨ x.1 % 32 = 16) → pS B e (x.1 / 32) + wS B e (x.1 / 32) < e := fun z x hx => hb z x (List.mem_cons.mpr (Or.inr hx))
    by_cases q : c % 32 = 9 ∨ c % 32 = 16
    · obtain ⟨i1, i2⟩ := (hk (c, fs X + 1, fn X) (List.mem_cons.mpr (Or.inl rfl))).1 q
      have i1' : c / 32 < m := i1
      have i2' : kS B e (c / 32) = 2 := i2
      obtain ⟨s1, s2⟩ := st1 hm hen han hWK HB i1' i2' (fun z => hb z (c, fs X + 1, fn X) (List.mem_cons.mpr (Or.inl rfl)) q) hT h0 hI
      obtain ⟨g1, g2, g3, g4⟩ := name_in i2'
      have cl : (c % 32 = 9 ∨ c % 32 = 16) → (fdN T.2.1 T.2.2 B (pS B e (c / 32)) (wS B e (c / 32)) T.1 0 < T.1 ∨ (T.1 + 1 ≤ 4096 ∧ T.2.1 T.1 + wS B e (c / 32) ≤ 12000)) ∧ 1 ≤ wS B e (c / 32) ∧ pS B e (c / 32) + wS B e (c / 32) ≤ n ∧ vS B e (c / 32) = wS B e (c / 32) ∧ nmOK B (pS B e (c / 32)) (wS B e (c / 32)) := fun _ => ⟨s1, g1, by omega, g3, g4⟩
      have en : nlT (pS B e) (wS B e) B c T = nmT B T (pS B e (c / 32)) (wS B e (c / 32)) := if_pos q
      have hT' := TB_nl (V := vS B e) hT cl
      have mono : ∀ (B2 : Nat → Nat) p w, kn B2 T p w → kn B2 (nlT (pS B e) (wS B e) B c T) p w := fun B2 p w h => by rw [en]; exact kn_mono hT h
      obtain ⟨b1, b2, b3, b4⟩ := hX _ hk2 hb2 hT' (fun p w h => mono B p w (h0 p w h)) (by rw [en]; exact s2)
      exact ⟨⟨cl, b1⟩, b2, b3, fun B2 p w h => b4 B2 p w (mono B2 p w h)⟩
    · have en : nlT (pS B e) (wS B e) B c T = T := if_neg q
      obtain ⟨b1, b2, b3, b4⟩ := hX T hk2 hb2 hT h0 hI
      have e1 : ntT (pS B e) (wS B e) B (.pow X c) T = ntT (pS B e) (wS B e) B X T := by show ntT _ _ B X (nlT _ _ B c T) = _; rw [en]
      rw [e1]
      refine ⟨⟨fun z => absurd z q, ?_⟩, b2, b3, b4⟩
      rw [en]; exact b1
  | _ => intro T hk hb hT h0 hI; exact ⟨True.intro, hT, hI, fun B2 p w h => h⟩
/-- the names of declarations that were read have something behind them -/
theorem nk_cut (hm : tkM B e m) {F : Fo} (h : nkF (kS B e) (m - 1) F) : ∀ x, x ∈ fp F → (x.1 % 32 = 9 ∨ x.1 % 32 = 16) → pS B e (x.1 / 32) + wS B e (x.1 / 32) < e := by
  intro x hx q
  obtain ⟨g1, g2⟩ := (h x hx).1 q
  have h1 := tok_end hm (show x.1 / 32 < x.1 / 32 + 1 by omega) (show x.1 / 32 + 1 ≤ m by omega) g2
  have h2 := hm.1 (x.1 / 32 + 1) (by omega)
  have h3 : tkA B e (x.1 / 32 + 1) < e := tkK_lt (B := B) (by omega)
  have h4 : pS B e (x.1 / 32 + 1) = tkA B e (x.1 / 32 + 1) := rfl
  omega
end RO
