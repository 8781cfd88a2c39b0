-- room for names
section SM
noncomputable def smq (Q : Nat → Prop) (f : Nat → Nat) : Nat → Nat
  | 0 => 0
  | m + 1 => smq Q f m + (@ite Nat (Q m) (Classical.propDecidable (Q m)) (f m) 0)
variable {Q Q' Q2 : Nat → Prop} {f : Nat → Nat}
theorem smq_y {m : Nat} (h : Q m) : smq Q f (m + 1) = smq Q f m + f m := by show smq Q f m + (@ite Nat (Q m) (Classical.propDecidable (Q m)) (f m) 0) = _; rw [if_pos h]
theorem smq_n {m : Nat} (h : ¬ Q m) : smq Q f (m + 1) = smq Q f m := by show smq Q f m + (@ite Nat (Q m) (Classical.propDecidable (Q m)) (f m) 0) = _; rw [if_neg h, Nat.add_zero]
theorem smq_mono : ∀ m, (∀ p, p < m → Q p → Q' p) → smq Q f m ≤ smq Q' f m := by
  intro m
  induction m with
  | zero => intro _; exact Nat.le_refl _
  | succ m ih =>
    intro h
    have h1 := ih (fun p hp => h p (by omega))
    by_cases q : Q m
    · rw [smq_y q, smq_y (h m (by omega) q)]; omega
    · rw [smq_n q]
      by_cases q' : Q' m
      · rw [smq_y q']; omega
      · rw [smq_n q']; exact h1
theorem smq_add {p0 : Nat} (h1 : ¬ Q p0) (h2 : Q' p0) : ∀ m, (∀ p, p < m → Q p → Q' p) → p0 < m → smq Q f m + f p0 ≤ smq Q' f m := by
  intro m
  induction m with
  | zero => intro _ h; omega
  | succ m ih =>
    intro h hp
    by_cases e : p0 = m
    · subst e
      rw [smq_n h1, smq_y h2]
      have := smq_mono (f := f) p0 (fun p hp => h p (by omega))
      omega
    · have g := ih (fun p hp => h p (by omega)) (by omega)
      by_cases q : Q m
      · rw [smq_y q, smq_y (h m (by omega) q)]; omega
      · rw [smq_n q]
        by_cases q' : Q' m
        · rw [smq_y q']; omega
        · rw [smq_n q']; exact g
theorem smq_le {n z : Nat} (hd : ∀ p p', Q p → Q p' → p < p' → p + f p ≤ p') (hn : ∀ p, Q p → p + f p ≤ n) (hz : ∀ p, Q p → z ≤ p) : ∀ m r, (r = n ∨ Q r) → m ≤ r → z ≤ r → smq Q f m + z ≤ r := by
  intro m
  induction m with
  | zero => intro r _ _ h; show 0 + z ≤ r; omega
  | succ m ih =>
    intro r hr hm hzr
    by_cases q : Q m
    · rw [smq_y q]
      have g := ih m (Or.inr q) (Nat.le_refl _) (hz m q)
      rcases hr with e | e
      · have := hn m q; omega
      · have := hd m r q e (by omega); omega
    · rw [smq_n q]
      exact ih r hr (by omega) hzr
theorem smq_or (h : ∀ p, Q2 p ↔ Q p ∨ Q' p) (hd : ∀ p, ¬ (Q p ∧ Q' p)) : ∀ m, smq Q2 f m = smq Q f m + smq Q' f m := by
  intro m
  induction m with
  | zero => rfl
  | succ m ih =>
    by_cases q : Q m
    · have q' : ¬ Q' m := fun z => hd m ⟨q, z⟩
      rw [smq_y q, smq_n q', smq_y ((h m).mpr (Or.inl q)), ih]; omega
    · by_cases q' : Q' m
      · rw [smq_n q, smq_y q', smq_y ((h m).mpr (Or.inr q')), ih]; omega
      · rw [smq_n q, smq_n q', smq_n (fun z => ((h m).mp z).elim q q'), ih]
theorem smq_one (h : ∀ p p', Q p → Q p' → p = p') : ∀ m, smq Q (fun _ => 1) m ≤ 1 := by
  intro m
  induction m with
  | zero => exact Nat.zero_le _
  | succ m ih =>
    by_cases q : Q m
    · rw [smq_y q]
      have z : smq Q (fun _ => 1) m = 0 := by
        have key : ∀ k, k ≤ m → smq Q (fun _ => 1) k = 0 := by
          intro k
          induction k with
          | zero => intro _; rfl
          | succ k ihk =>
            intro hk
            have : ¬ Q k := fun z => by have := h k m z q; omega
            rw [smq_n this]
            exact ihk (by omega)
        exact key m (Nat.le_refl _)
      rw [z]
      exact Nat.le_refl _
    · rw [smq_n q]; exact ih
end SM
section NC
variable {nc : Nat} {st sp : Nat → Nat}
/-- few names are one byte long -/
theorem nc_le (hT : TB nc st sp) : 3 * nc ≤ st nc + nc + 128 := by
  obtain ⟨t1, t2, t3, t4, t5, t6⟩ := hT
  have a1 : ∀ k, k ≤ nc → 3 * k ≤ st k + k + smq (fun x => x < nc ∧ st (x + 1) - st x = 1) (fun _ => 1) k := by
    intro k
    induction k with
    | zero => intro _; omega
    | succ k ih =>
      intro hk
      have h1 := ih (by omega)
      have h2 := t4 k (by omega)
      by_cases q : st (k + 1) - st k = 1
      · rw [smq_y (show k < nc ∧ st (k + 1) - st k = 1 from ⟨by omega, q⟩)]; omega
      · rw [smq_n (fun z => q z.2)]; omega
  have a2 : ∀ v, smq (fun x => (x < nc ∧ st (x + 1) - st x = 1) ∧ sp (st x) < v) (fun _ => 1) nc ≤ v := by
    intro v
    induction v with
    | zero =>
      have key : ∀ k, smq (fun x => (x < nc ∧ st (x + 1) - st x = 1) ∧ sp (st x) < 0) (fun _ => 1) k = 0 := by
        intro k
        induction k with
        | zero => rfl
        | succ k ih => rw [smq_n (fun z => absurd z.2 (Nat.not_lt_zero _))]; exact ih
      rw [key nc]
      exact Nat.le_refl _
    | succ v ih =>
      have e := smq_or (Q := fun x => (x < nc ∧ st (x + 1) - st x = 1) ∧ sp (st x) < v) (Q' := fun x => (x < nc ∧ st (x + 1) - st x = 1) ∧ sp (st x) = v) (Q2 := fun x => (x < nc ∧ st (x + 1) - st x = 1) ∧ sp (st x) < v + 1) (f := fun _ => 1) (fun p => ⟨fun z => by
        by_cases q : sp (st p) = v
        · exact Or.inr ⟨z.1, q⟩
        · exact Or.inl ⟨z.1, by have := z.2; omega⟩, fun z => by
        rcases z with z | z
        · exact ⟨z.1, by have := z.2; omega⟩
        · exact ⟨z.1, by have := z.2; omega⟩⟩) (fun p z => by have := z.1.2; have := z.2.2; omega) nc
      have o := smq_one (Q := fun x => (x < nc ∧ st (x + 1) - st x = 1) ∧ sp (st x) = v) (fun p p' z z' => by
        obtain ⟨⟨z1, z2⟩, z3⟩ := z
        obtain ⟨⟨y1, y2⟩, y3⟩ := z'
        have lem : ∀ p p', p < p' → p' < nc → st (p + 1) - st p = 1 → st (p' + 1) - st p' = 1 → sp (st p) = v → sp (st p') = v → False := by
          intro p p' h1 h2 h3 h4 h5 h6
          refine t6 p p' h1 h2 ⟨by omega, fun j hj => ?_⟩
          have : j = 0 := by omega
          subst this
          rw [Nat.add_zero, Nat.add_zero, h5, h6]
        rcases Nat.lt_trichotomy p p' with q | q | q
        · exact absurd (lem p p' q y1 z2 y2 z3 y3) id
        · exact q
        · exact absurd (lem p' p q z1 y2 z2 y3 z3) id) nc
      rw [e]
      omega
  have a3 : smq (fun x => x < nc ∧ st (x + 1) - st x = 1) (fun _ => 1) nc ≤ smq (fun x => (x < nc ∧ st (x + 1) - st x = 1) ∧ sp (st x) < 128) (fun _ => 1) nc := smq_mono nc (fun p hp z => ⟨z, by
    have h1 := t4 p z.1
    have h2 := st_mono t4 (p + 1) nc (by omega) (Nat.le_refl _)
    exact inn_lt (t5.1 _ (by omega))⟩)
  have := a1 nc (Nat.le_refl _)
  have := a2 128
  omega
end NC
section KN
variable {B : Nat → Nat} {T : TBt} {p w a v : Nat}
theorem kn_fd : kn B T p w ↔ fdN T.2.1 T.2.2 B p w T.1 0 < T.1 := by
  obtain ⟨f1, f2, f3, f4⟩ := fdN_le (st := T.2.1) (sp := T.2.2) (B := B) (a := p) (w := w) T.1 0
  constructor
  · rintro ⟨x, x1, x2⟩
    rcases Nat.lt_or_ge (fdN T.2.1 T.2.2 B p w T.1 0) T.1 with q | q
    · exact q
    · exact absurd x2 (f3 x (Nat.zero_le _) (by omega))
  · intro h
    exact ⟨_, h, f4 (by omega)⟩
theorem nm_eq (h : kn B T a v) : nmT B T a v = T := by
  have h' := kn_fd.mp h
  unfold nmT nmC nmS nmP
  rw [if_pos h', if_pos h', if_pos h']
theorem kn_mono {B2 : Nat → Nat} (hT : TB T.1 T.2.1 T.2.2) (h : kn B2 T p w) : kn B2 (nmT B T a v) p w := by
  by_cases q : kn B T a v
  · rw [nm_eq q]; exact h
  · have q' : ¬ fdN T.2.1 T.2.2 B a v T.1 0 < T.1 := fun z => q (kn_fd.mpr z)
    obtain ⟨x, x1, x2, x3⟩ := h
    unfold nmT nmC nmS nmP
    rw [if_neg q', if_neg q', if_neg q']
    have s1 := hT.2.2.2.1 x x1
    have s2 := st_le hT (show x + 1 ≤ T.1 by omega)
    have e1 : ∀ k, k ≤ T.1 → stN T.2.1 T.1 v k = T.2.1 k := fun k hk => if_neg (by omega)
    refine ⟨x, by show x < T.1 + 1; omega, ?_, fun j hj => ?_⟩
    · show stN T.2.1 T.1 v (x + 1) - stN T.2.1 T.1 v x = w
      rw [e1 _ (by omega), e1 _ (by omega)]; exact x2
    · show spN T.2.2 (T.2.1 T.1) B a v (stN T.2.1 T.1 v x + j) = B2 (p + j)
      rw [e1 _ (by omega)]
      have e3 : spN T.2.2 (T.2.1 T.1) B a v (T.2.1 x + j) = T.2.2 (T.2.1 x + j) := if_neg (by omega)
      rw [e3]; exact x3 j hj
theorem kn_new (hT : TB T.1 T.2.1 T.2.2) : kn B (nmT B T a v) a v := by
  by_cases q : kn B T a v
  · rw [nm_eq q]; exact q
  · have q' : ¬ fdN T.2.1 T.2.2 B a v T.1 0 < T.1 := fun z => q (kn_fd.mpr z)
    unfold nmT nmC nmS nmP
    rw [if_neg q', if_neg q', if_neg q']
    refine ⟨T.1, Nat.lt_succ_self _, ?_, fun j hj => ?_⟩
    · show stN T.2.1 T.1 v (T.1 + 1) - stN T.2.1 T.1 v T.1 = v
      have e1 : stN T.2.1 T.1 v (T.1 + 1) = T.2.1 T.1 + v := if_pos rfl
      have e2 : stN T.2.1 T.1 v T.1 = T.2.1 T.1 := if_neg (by omega)
      rw [e1, e2]; omega
    · show spN T.2.2 (T.2.1 T.1) B a v (stN T.2.1 T.1 v T.1 + j) = B (a + j)
      have e2 : stN T.2.1 T.1 v T.1 = T.2.1 T.1 := if_neg (by omega)
      rw [e2]
      show (if T.2.1 T.1 ≤ T.2.1 T.1 + j ∧ T.2.1 T.1 + j < T.2.1 T.1 + v then B (a + (T.2.1 T.1 + j - T.2.1 T.1)) else _) = _
      rw [if_pos (by omega), show T.2.1 T.1 + j - T.2.1 T.1 = j by omega]
def wt (T : TBt) : Nat := T.2.1 T.1 + T.1
theorem wt_new (q : ¬ kn B T a v) : wt (nmT B T a v) = wt T + v + 1 := by
  have q' : ¬ fdN T.2.1 T.2.2 B a v T.1 0 < T.1 := fun z => q (kn_fd.mpr z)
  unfold nmT nmC nmS nmP wt
  rw [if_neg q', if_neg q', if_neg q']
  show stN T.2.1 T.1 v (T.1 + 1) + (T.1 + 1) = _
  have e1 : stN T.2.1 T.1 v (T.1 + 1) = T.2.1 T.1 + v := if_pos rfl
  rw [e1]; omega
theorem WKp_mono {T' : TBt} {a : Nat} (h : ∀ p w, kn B T p w → kn B T' p w) (hW : WKp B T a) : WKp B T' a := fun p w h1 h2 h3 h4 h5 => by
  rcases hW p w h1 h2 h3 h4 h5 with q | q
  · exact Or.inl (h p w q)
  · exact Or.inr q
end KN
