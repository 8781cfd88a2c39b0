-- the shape of what is read, and how deep it is shown
def rk : Fo → List Nat
  | .add X Y => rk X ++ rk Y
  | .pow _ c => [c % 32]
  | _ => []
def tmK (k : Nat) : Prop := 10 ≤ k ∧ k ≤ 18
def dcK (k : Nat) : Prop := 1 ≤ k ∧ k ≤ 7 ∧ k ≠ 5
/-- what parts a node of kind q has -/
def ns (q : Nat) (l : List Nat) : Prop :=
  (q = 0 → ∀ k, k ∈ l → dcK k) ∧ (q = 1 → ∃ g t, l = 9 :: (g ++ [t]) ∧ (∀ k, k ∈ g → k = 8) ∧ tmK t) ∧ (q = 2 → ∃ g a t, l = 9 :: (g ++ [a, t]) ∧ (∀ k, k ∈ g → k = 8) ∧ (tmK a ∨ a = 19) ∧ tmK t) ∧ (q = 3 → ∃ g a t, l = 9 :: (g ++ [a, t]) ∧ (∀ k, k ∈ g → k = 8) ∧ tmK a ∧ tmK t) ∧ (q = 4 → ∃ g t h, l = 9 :: (g ++ t :: h) ∧ (∀ k, k ∈ g → k = 8) ∧ tmK t ∧ ∀ k, k ∈ h → k = 5) ∧ (q = 5 → ∃ t, l = [9, t] ∧ tmK t) ∧ (q = 6 → ∃ t a, l = [t, a] ∧ tmK t ∧ (tmK a ∨ a = 19)) ∧ (q = 7 → ∃ t, l = [t] ∧ tmK t) ∧ (q = 8 → ∃ g t, l = 9 :: (g ++ [t]) ∧ (∀ k, k ∈ g → k = 9) ∧ tmK t) ∧ (q = 10 ∨ q = 11 → ∃ g t, l = 8 :: (g ++ [t]) ∧ (∀ k, k ∈ g → k = 8) ∧ tmK t) ∧ (q = 12 → ∃ a t u, l = [9, a, t, u] ∧ (tmK a ∨ a = 19) ∧ tmK t ∧ tmK u) ∧ (q = 13 ∨ q = 14 ∨ q = 15 → ∃ t u, l = [t, u] ∧ tmK t ∧ tmK u) ∧ (q = 18 → l = [16, 17]) ∧ (q = 9 ∨ q = 16 ∨ q = 17 ∨ q = 19 → l = [])
def wf : Fo → Prop
  | .add X Y => wf X ∧ wf Y
  | .pow X c => ns (c % 32) (rk X) ∧ wf X
  | _ => True
/-- how many shows stand within one another -/
def nd : Fo → Nat
  | .add X Y => max (nd X) (nd Y)
  | .pow (.add Y Z) c => if c % 32 = 5 ∨ c % 32 = 10 ∨ c % 32 = 11 ∨ c % 32 = 12 ∨ c % 32 = 13 then max (1 + nd Y) (nd Z) else if c % 32 = 14 ∧ rk Y = [14] then max (nd Y) (1 + nd Z) else 1 + max (nd Y) (nd Z)
  | .pow X _ => 1 + nd X
  | _ => 0
/-- a term -/
def wT (b : Nat) (F : Fo) : Prop := wf F ∧ nd F ≤ b ∧ ∃ k, rk F = [k] ∧ tmK k
/-- what is applied -/
def wC (b : Nat) (F : Fo) : Prop := wf F ∧ ∃ k, rk F = [k] ∧ tmK k ∧ (k = 14 → nd F ≤ b + 1) ∧ (k ≠ 14 → nd F ≤ b)
/-- a type or nothing -/
def wN (b : Nat) (F : Fo) : Prop := wf F ∧ nd F ≤ b ∧ ∃ k, rk F = [k] ∧ (tmK k ∨ k = 19)
/-- groups -/
def wG (b : Nat) (F : Fo) : Prop := wf F ∧ nd F ≤ b ∧ ∀ k, k ∈ rk F → k = 8
/-- binders -/
def wB (F : Fo) : Prop := wf F ∧ nd F ≤ 1 ∧ ∀ k, k ∈ rk F → k = 9
section WF
variable {b b' i : Nat} {X Y T1 T2 H F L : Fo}
theorem wT_w (h : wT b F) (hb : b ≤ b') : wT b' F := ⟨h.1, Nat.le_trans h.2.1 hb, h.2.2⟩
theorem wC_T (h : wC b F) : wT (b + 1) F := by
  obtain ⟨h1, k, h2, h3, h4, h5⟩ := h
  refine ⟨h1, ?_, k, h2, h3⟩
  by_cases q : k = 14
  · exact h4 q
  · have := h5 q; omega
theorem wT_C (h : wT b F) : wC b F := by
  obtain ⟨h1, h2, k, h3, h4⟩ := h
  exact ⟨h1, k, h3, h4, fun _ => by omega, fun _ => h2⟩
theorem ns_leaf {q : Nat} (h : q = 9 ∨ q = 16 ∨ q = 17 ∨ q = 19) : ns q [] := by
  unfold ns
  refine ⟨fun e => by omega, fun e => by omega, fun e => by omega, fun e => by omega, fun e => by omega, fun e => by omega, fun e => by omega, fun e => by omega, fun e => by omega, fun e => by omega, fun e => by omega, fun e => by omega, fun e => by omega, fun _ => rfl⟩
theorem wf_leaf {c : Nat} (h : c % 32 = 9 ∨ c % 32 = 16 ∨ c % 32 = 17 ∨ c % 32 = 19) : wf (.pow (.num 0) c) := ⟨ns_leaf h, True.intro⟩
theorem wT_leaf {c : Nat} (h : c % 32 = 16 ∨ c % 32 = 17) : wT 1 (.pow (.num 0) c) := ⟨wf_leaf (by omega), Nat.le_refl _, c % 32, rfl, by unfold tmK; omega⟩
theorem nd_add : nd (.add X Y) = max (nd X) (nd Y) := rfl
theorem wT_app {c : Nat} (hc : c % 32 = 14) (h1 : wC b T1) (h2 : wT b T2) : wC b (.pow (.add T1 T2) c) := by
  obtain ⟨a1, k, a2, a3, a4, a5⟩ := h1
  obtain ⟨b1, b2, j, b3, b4⟩ := h2
  have hr : rk (.add T1 T2) = [k, j] := by show rk T1 ++ rk T2 = _; rw [a2, b3]; rfl
  refine ⟨⟨?_, a1, b1⟩, 14, by show [c % 32] = _; rw [hc], by unfold tmK; omega, fun _ => ?_, fun q => absurd rfl q⟩
  · rw [hc, hr]
    unfold ns
    refine ⟨fun e => by omega, fun e => by omega, fun e => by omega, fun e => by omega, fun e => by omega, fun e => by omega, fun e => by omega, fun e => by omega, fun e => by omega, fun e => by omega, fun e => by omega, fun _ => ⟨k, j, rfl, a3, b4⟩, fun e => by omega, fun e => by omega⟩
  · show (if c % 32 = 5 ∨ c % 32 = 10 ∨ c % 32 = 11 ∨ c % 32 = 12 ∨ c % 32 = 13 then max (1 + nd T1) (nd T2) else if c % 32 = 14 ∧ rk T1 = [14] then max (nd T1) (1 + nd T2) else 1 + max (nd T1) (nd T2)) ≤ b + 1
    rw [if_neg (by omega)]
    by_cases q : k = 14
    · have := a4 q
      rw [if_pos ⟨hc, by rw [a2, q]⟩]
      omega
    · have := a5 q
      rw [if_neg (fun g => by
        have g2 := g.2
        rw [a2] at g2
        exact q (List.head_eq_of_cons_eq g2))]
      omega
theorem wT_two {c : Nat} (hc : c % 32 = 13 ∨ c % 32 = 15) (h1 : wT b T1) (h2 : wT (b + 1) T2) (h3 : c % 32 = 15 → nd T2 ≤ b) : wT (b + 1) (.pow (.add T1 T2) c) := by
  obtain ⟨a1, a2, k, a3, a4⟩ := h1
  obtain ⟨b1, b2, j, b3, b4⟩ := h2
  have hr : rk (.add T1 T2) = [k, j] := by show rk T1 ++ rk T2 = _; rw [a3, b3]; rfl
  refine ⟨⟨?_, a1, b1⟩, ?_, c % 32, rfl, by unfold tmK; omega⟩
  · rw [hr]
    unfold ns
    refine ⟨fun e => by omega, fun e => by omega, fun e => by omega, fun e => by omega, fun e => by omega, fun e => by omega, fun e => by omega, fun e => by omega, fun e => by omega, fun e => by omega, fun e => by omega, fun _ => ⟨k, j, rfl, a4, b4⟩, fun e => by omega, fun e => by omega⟩
  · show (if c % 32 = 5 ∨ c % 32 = 10 ∨ c % 32 = 11 ∨ c % 32 = 12 ∨ c % 32 = 13 then max (1 + nd T1) (nd T2) else if c % 32 = 14 ∧ rk T1 = [14] then max (nd T1) (1 + nd T2) else 1 + max (nd T1) (nd T2)) ≤ b + 1
    rcases hc with q | q
    · rw [if_pos (by omega)]; omega
    · have := h3 q
      rw [if_neg (by omega), if_neg (by omega)]; omega
theorem wT_rec {c c1 c2 : Nat} (hc : c % 32 = 18) (h1 : c1 % 32 = 16) (h2 : c2 % 32 = 17) : wT 2 (.pow (.add (.add (.num 0) (.pow (.num 0) c1)) (.pow (.num 0) c2)) c) := by
  refine ⟨⟨?_, ⟨True.intro, wf_leaf (by omega)⟩, wf_leaf (by omega)⟩, ?_, c % 32, rfl, by unfold tmK; omega⟩
  · have hr : rk (.add (.add (.num 0) (.pow (.num 0) c1)) (.pow (.num 0) c2)) = [16, 17] := by show [] ++ [c1 % 32] ++ [c2 % 32] = _; rw [h1, h2]; rfl
    rw [hr]
    unfold ns
    refine ⟨fun e => by omega, fun e => by omega, fun e => by omega, fun e => by omega, fun e => by omega, fun e => by omega, fun e => by omega, fun e => by omega, fun e => by omega, fun e => by omega, fun e => by omega, fun e => by omega, fun _ => rfl, fun e => by omega⟩
  · show (if c % 32 = 5 ∨ c % 32 = 10 ∨ c % 32 = 11 ∨ c % 32 = 12 ∨ c % 32 = 13 then max (1 + nd (.add (.num 0) (.pow (.num 0) c1))) (nd (.pow (.num 0) c2)) else if c % 32 = 14 ∧ rk (.add (.num 0) (.pow (.num 0) c1)) = [14] then max (nd (.add (.num 0) (.pow (.num 0) c1))) (1 + nd (.pow (.num 0) c2)) else 1 + max (nd (.add (.num 0) (.pow (.num 0) c1))) (nd (.pow (.num 0) c2))) ≤ 2
    rw [if_neg (by omega), if_neg (by omega)]
    show 1 + max (max 0 1) 1 ≤ 2
    omega
/-- a group -/
theorem wG_one {c : Nat} {g : List Nat} (hc : c % 32 = 8) (hX : wB X) (hg : rk X = 9 :: g) (hT : wT b F) (hb : 1 ≤ b) : wG (b + 1) (.pow (.add X F) c) := by
  obtain ⟨a1, a2, a3⟩ := hX
  obtain ⟨b1, b2, j, b3, b4⟩ := hT
  refine ⟨⟨?_, a1, b1⟩, ?_, fun k hk => by have : k = c % 32 := List.mem_singleton.mp hk; omega⟩
  · have hr : rk (.add X F) = 9 :: (g ++ [j]) := by show rk X ++ rk F = _; rw [hg, b3]; rfl
    rw [hr]
    unfold ns
    refine ⟨fun e => by omega, fun e => by omega, fun e => by omega, fun e => by omega, fun e => by omega, fun e => by omega, fun e => by omega, fun e => by omega, fun _ => ⟨g, j, rfl, fun k hk => a3 k (by rw [hg]; exact List.mem_cons.mpr (Or.inr hk)), b4⟩, fun e => by omega, fun e => by omega, fun e => by omega, fun e => by omega, fun e => by omega⟩
  · show (if c % 32 = 5 ∨ c % 32 = 10 ∨ c % 32 = 11 ∨ c % 32 = 12 ∨ c % 32 = 13 then max (1 + nd X) (nd F) else if c % 32 = 14 ∧ rk X = [14] then max (nd X) (1 + nd F) else 1 + max (nd X) (nd F)) ≤ b + 1
    rw [if_neg (by omega), if_neg (by omega)]
    omega
theorem wG_add (h1 : wG b X) (h2 : wG b Y) : wG b (.add X Y) := ⟨⟨h1.1, h2.1⟩, by rw [nd_add]; have := h1.2.1; have := h2.2.1; omega, fun k hk => by
  rcases List.mem_append.mp (show k ∈ rk X ++ rk Y from hk) with a | a
  · exact h1.2.2 k a
  · exact h2.2.2 k a⟩
theorem wB_add (h1 : wB X) (h2 : wB Y) : wB (.add X Y) := ⟨⟨h1.1, h2.1⟩, by rw [nd_add]; have := h1.2.1; have := h2.2.1; omega, fun k hk => by
  rcases List.mem_append.mp (show k ∈ rk X ++ rk Y from hk) with a | a
  · exact h1.2.2 k a
  · exact h2.2.2 k a⟩
theorem wB_leaf {c : Nat} (h : c % 32 = 9) : wB (.pow (.num 0) c) := ⟨wf_leaf (by omega), Nat.le_refl _, fun k hk => by have : k = c % 32 := List.mem_singleton.mp hk; omega⟩
/-- fun, all -/
theorem wT_bind {c : Nat} (hc : c % 32 = 10 ∨ c % 32 = 11) (hH : wG b H) (hne : rk H ≠ []) (hF : wT b' F) (hb : 1 + b ≤ b') : wT b' (.pow (.add H F) c) := by
  obtain ⟨a1, a2, a3⟩ := hH
  obtain ⟨b1, b2, j, b3, b4⟩ := hF
  obtain ⟨k0, g, hg⟩ : ∃ k0 g, rk H = k0 :: g := by
    cases hq : rk H with
    | nil => exact absurd hq hne
    | cons k0 g => exact ⟨k0, g, rfl⟩
  have hk0 : k0 = 8 := a3 k0 (by rw [hg]; exact List.mem_cons.mpr (Or.inl rfl))
  subst hk0
  refine ⟨⟨?_, a1, b1⟩, ?_, c % 32, rfl, by unfold tmK; omega⟩
  · have hr : rk (.add H F) = 8 :: (g ++ [j]) := by show rk H ++ rk F = _; rw [hg, b3]; rfl
    rw [hr]
    unfold ns
    refine ⟨fun e => by omega, fun e => by omega, fun e => by omega, fun e => by omega, fun e => by omega, fun e => by omega, fun e => by omega, fun e => by omega, fun e => by omega, fun _ => ⟨g, j, rfl, fun k hk => a3 k (by rw [hg]; exact List.mem_cons.mpr (Or.inr hk)), b4⟩, fun e => by omega, fun e => by omega, fun e => by omega, fun e => by omega⟩
  · show (if c % 32 = 5 ∨ c % 32 = 10 ∨ c % 32 = 11 ∨ c % 32 = 12 ∨ c % 32 = 13 then max (1 + nd H) (nd F) else if c % 32 = 14 ∧ rk H = [14] then max (nd H) (1 + nd F) else 1 + max (nd H) (nd F)) ≤ b'
    rw [if_pos (by omega)]
    omega
/-- let -/
theorem wT_let {c : Nat} {F2 F3 F4 : Fo} (hc : c % 32 = 12) (hL : wB L) (hr9 : rk L = [9]) (h2 : wN b F2) (h3 : wT b F3) (h4 : wT b' F4) (hb1 : 1 ≤ b) (hb : 1 + b ≤ b') : wT b' (.pow (.add (.add (.add (.add (.num 0) L) F2) F3) F4) c) := by
  obtain ⟨l1, l2, l3⟩ := hL
  obtain ⟨a1, a2, i2, a3, a4⟩ := h2
  obtain ⟨b1, b2, i3, b3, b4⟩ := h3
  obtain ⟨c1, c2, i4, c3, c4⟩ := h4
  refine ⟨⟨?_, ⟨⟨⟨True.intro, l1⟩, a1⟩, b1⟩, c1⟩, ?_, c % 32, rfl, by unfold tmK; omega⟩
  · have hr : rk (.add (.add (.add (.add (.num 0) L) F2) F3) F4) = [9, i2, i3, i4] := by show ((([] ++ rk L) ++ rk F2) ++ rk F3) ++ rk F4 = _; rw [hr9, a3, b3, c3]; rfl
    rw [hr]
    unfold ns
    refine ⟨fun e => by omega, fun e => by omega, fun e => by omega, fun e => by omega, fun e => by omega, fun e => by omega, fun e => by omega, fun e => by omega, fun e => by omega, fun e => by omega, fun _ => ⟨i2, i3, i4, rfl, a4, b4, c4⟩, fun e => by omega, fun e => by omega, fun e => by omega⟩
  · show (if c % 32 = 5 ∨ c % 32 = 10 ∨ c % 32 = 11 ∨ c % 32 = 12 ∨ c % 32 = 13 then max (1 + nd (.add (.add (.add (.num 0) L) F2) F3)) (nd F4) else if c % 32 = 14 ∧ rk (.add (.add (.add (.num 0) L) F2) F3) = [14] then max (nd (.add (.add (.add (.num 0) L) F2) F3)) (1 + nd F4) else 1 + max (nd (.add (.add (.add (.num 0) L) F2) F3)) (nd F4)) ≤ b'
    rw [if_pos (by omega)]
    have e : nd (.add (.add (.add (.num 0) L) F2) F3) = max (max (max 0 (nd L)) (nd F2)) (nd F3) := rfl
    rw [e]
    omega
theorem nd_pow {c : Nat} (h : ¬ (c % 32 = 5 ∨ c % 32 = 10 ∨ c % 32 = 11 ∨ c % 32 = 12 ∨ c % 32 = 13) ∧ c % 32 ≠ 14) : nd (.pow X c) = 1 + nd X := by
  cases X with
  | add Y Z =>
    show (if c % 32 = 5 ∨ c % 32 = 10 ∨ c % 32 = 11 ∨ c % 32 = 12 ∨ c % 32 = 13 then max (1 + nd Y) (nd Z) else if c % 32 = 14 ∧ rk Y = [14] then max (nd Y) (1 + nd Z) else 1 + max (nd Y) (nd Z)) = 1 + max (nd Y) (nd Z)
    rw [if_neg h.1, if_neg (fun g => h.2 g.1)]
  | _ => rfl
/-- a declaration -/
def wD (b : Nat) (F : Fo) : Prop := wf F ∧ nd F ≤ b ∧ ∃ k, rk F = [k] ∧ dcK k
/-- a name with its groups -/
def wP (b : Nat) (F : Fo) : Prop := wf F ∧ nd F ≤ b ∧ ∃ g, rk F = 9 :: g ∧ ∀ k, k ∈ g → k = 8
theorem wP_name {c : Nat} (h : c % 32 = 9) (hb : 1 ≤ b) : wP b (.add (.num 0) (.pow (.num 0) c)) := ⟨⟨True.intro, wf_leaf (by omega)⟩, by rw [nd_add]; show max 0 1 ≤ b; omega, [], by show [] ++ [c % 32] = _; rw [h]; rfl, fun k hk => by cases hk⟩
theorem wP_add (h1 : wP b X) (h2 : wG b Y) : wP b (.add X Y) := by
  obtain ⟨a1, a2, g, a3, a4⟩ := h1
  obtain ⟨b1, b2, b3⟩ := h2
  refine ⟨⟨a1, b1⟩, by rw [nd_add]; omega, g ++ rk Y, by show rk X ++ rk Y = _; rw [a3]; rfl, fun k hk => ?_⟩
  rcases List.mem_append.mp hk with a | a
  · exact a4 k a
  · exact b3 k a
theorem wD_axi {c : Nat} (hc : c % 32 = 1) (h1 : wP b X) (h2 : wT b F) : wD (b + 1) (.pow (.add X F) c) := by
  obtain ⟨a1, a2, g, a3, a4⟩ := h1
  obtain ⟨b1, b2, j, b3, b4⟩ := h2
  refine ⟨⟨?_, a1, b1⟩, ?_, c % 32, rfl, by unfold dcK; omega⟩
  · have hr : rk (.add X F) = 9 :: (g ++ [j]) := by show rk X ++ rk F = _; rw [a3, b3]; rfl
    rw [hr]
    unfold ns
    refine ⟨fun e => by omega, fun _ => ⟨g, j, rfl, a4, b4⟩, fun e => by omega, fun e => by omega, fun e => by omega, fun e => by omega, fun e => by omega, fun e => by omega, fun e => by omega, fun e => by omega, fun e => by omega, fun e => by omega, fun e => by omega, fun e => by omega⟩
  · rw [nd_pow (by omega), nd_add]; omega
theorem wD_two {c : Nat} {F2 F3 : Fo} (hc : c % 32 = 2 ∨ c % 32 = 3) (h1 : wP b X) (h2 : wN b F2) (h2' : c % 32 = 3 → wT b F2) (h3 : wT b F3) : wD (b + 1) (.pow (.add (.add X F2) F3) c) := by
  obtain ⟨a1, a2, g, a3, a4⟩ := h1
  obtain ⟨d1, d2, i2, d3, d4⟩ := h2
  obtain ⟨b1, b2, j, b3, b4⟩ := h3
  refine ⟨⟨?_, ⟨a1, d1⟩, b1⟩, ?_, c % 32, rfl, by unfold dcK; omega⟩
  · have hr : rk (.add (.add X F2) F3) = 9 :: (g ++ [i2, j]) := by show (rk X ++ rk F2) ++ rk F3 = _; rw [a3, d3, b3, List.append_assoc]; rfl
    rw [hr]
    rcases hc with q | q
    · rw [q]; unfold ns
      refine ⟨fun e => by omega, fun e => by omega, fun _ => ⟨g, i2, j, rfl, a4, d4, b4⟩, fun e => by omega, fun e => by omega, fun e => by omega, fun e => by omega, fun e => by omega, fun e => by omega, fun e => by omega, fun e => by omega, fun e => by omega, fun e => by omega, fun e => by omega⟩
    · obtain ⟨_, _, i3, e3, e4⟩ := h2' q
      have : i2 = i3 := by rw [d3] at e3; exact List.head_eq_of_cons_eq e3
      rw [q]; unfold ns
      refine ⟨fun e => by omega, fun e => by omega, fun e => by omega, fun _ => ⟨g, i2, j, rfl, a4, by rw [this]; exact e4, b4⟩, fun e => by omega, fun e => by omega, fun e => by omega, fun e => by omega, fun e => by omega, fun e => by omega, fun e => by omega, fun e => by omega, fun e => by omega, fun e => by omega⟩
  · rw [nd_pow (by omega), nd_add, nd_add]; omega
theorem wf_con {c : Nat} (hc : c % 32 = 5) (hL : wB L) (hr9 : rk L = [9]) (h : wT b F) (hb : 2 ≤ b) : wf (.pow (.add (.add (.num 0) L) F) c) ∧ nd (.pow (.add (.add (.num 0) L) F) c) ≤ b ∧ rk (.pow (.add (.add (.num 0) L) F) c) = [5] := by
  obtain ⟨l1, l2, l3⟩ := hL
  obtain ⟨b1, b2, j, b3, b4⟩ := h
  refine ⟨⟨?_, ⟨True.intro, l1⟩, b1⟩, ?_, by show [c % 32] = _; rw [hc]⟩
  · have hr : rk (.add (.add (.num 0) L) F) = [9, j] := by show ([] ++ rk L) ++ rk F = _; rw [hr9, b3]; rfl
    rw [hr]
    unfold ns
    refine ⟨fun e => by omega, fun e => by omega, fun e => by omega, fun e => by omega, fun e => by omega, fun _ => ⟨j, rfl, b4⟩, fun e => by omega, fun e => by omega, fun e => by omega, fun e => by omega, fun e => by omega, fun e => by omega, fun e => by omega, fun e => by omega⟩
  · show (if c % 32 = 5 ∨ c % 32 = 10 ∨ c % 32 = 11 ∨ c % 32 = 12 ∨ c % 32 = 13 then max (1 + nd (.add (.num 0) L)) (nd F) else if c % 32 = 14 ∧ rk (.add (.num 0) L) = [14] then max (nd (.add (.num 0) L)) (1 + nd F) else 1 + max (nd (.add (.num 0) L)) (nd F)) ≤ b
    rw [if_pos (by omega)]
    have e : nd (.add (.num 0) L) = max 0 (nd L) := rfl
    rw [e]; omega
/-- data with constructors so far -/
def wQ (b : Nat) (F : Fo) : Prop := wf F ∧ nd F ≤ b ∧ ∃ g t h, rk F = 9 :: (g ++ t :: h) ∧ (∀ k, k ∈ g → k = 8) ∧ tmK t ∧ ∀ k, k ∈ h → k = 5
theorem wQ_0 (h1 : wP b X) (h2 : wT b F) : wQ b (.add X F) := by
  obtain ⟨a1, a2, g, a3, a4⟩ := h1
  obtain ⟨b1, b2, j, b3, b4⟩ := h2
  exact ⟨⟨a1, b1⟩, by rw [nd_add]; omega, g, j, [], by show rk X ++ rk F = _; rw [a3, b3]; rfl, a4, b4, fun k hk => by cases hk⟩
theorem wQ_add (h1 : wQ b X) (h2 : wf Y ∧ nd Y ≤ b ∧ rk Y = [5]) : wQ b (.add X Y) := by
  obtain ⟨a1, a2, g, t, h, a3, a4, a5, a6⟩ := h1
  obtain ⟨b1, b2, b3⟩ := h2
  refine ⟨⟨a1, b1⟩, by rw [nd_add]; omega, g, t, h ++ [5], by show rk X ++ rk Y = _; rw [a3, b3]; simp, a4, a5, fun k hk => ?_⟩
  rcases List.mem_append.mp hk with a | a
  · exact a6 k a
  · exact List.mem_singleton.mp a
theorem wD_dat {c : Nat} (hc : c % 32 = 4) (h : wQ b X) : wD (b + 1) (.pow X c) := by
  obtain ⟨a1, a2, g, t, h', a3, a4, a5, a6⟩ := h
  refine ⟨⟨?_, a1⟩, by rw [nd_pow (by omega)]; omega, c % 32, rfl, by unfold dcK; omega⟩
  rw [a3]
  unfold ns
  refine ⟨fun e => by omega, fun e => by omega, fun e => by omega, fun e => by omega, fun _ => ⟨g, t, h', rfl, a4, a5, a6⟩, fun e => by omega, fun e => by omega, fun e => by omega, fun e => by omega, fun e => by omega, fun e => by omega, fun e => by omega, fun e => by omega, fun e => by omega⟩
theorem wD_chk {c : Nat} {F1 F2 : Fo} (hc : c % 32 = 6) (h1 : wT b F1) (h2 : wN b F2) : wD (b + 1) (.pow (.add (.add (.num 0) F1) F2) c) := by
  obtain ⟨a1, a2, i1, a3, a4⟩ := h1
  obtain ⟨b1, b2, j, b3, b4⟩ := h2
  refine ⟨⟨?_, ⟨True.intro, a1⟩, b1⟩, ?_, c % 32, rfl, by unfold dcK; omega⟩
  · have hr : rk (.add (.add (.num 0) F1) F2) = [i1, j] := by show ([] ++ rk F1) ++ rk F2 = _; rw [a3, b3]; rfl
    rw [hr]
    unfold ns
    refine ⟨fun e => by omega, fun e => by omega, fun e => by omega, fun e => by omega, fun e => by omega, fun e => by omega, fun _ => ⟨i1, j, rfl, a4, b4⟩, fun e => by omega, fun e => by omega, fun e => by omega, fun e => by omega, fun e => by omega, fun e => by omega, fun e => by omega⟩
  · rw [nd_pow (by omega), nd_add, nd_add]
    have e : nd (.num 0 : Fo) = 0 := rfl
    rw [e]; omega
theorem wD_nrm {c : Nat} {F1 : Fo} (hc : c % 32 = 7) (h1 : wT b F1) : wD (b + 1) (.pow (.add (.num 0) F1) c) := by
  obtain ⟨a1, a2, i1, a3, a4⟩ := h1
  refine ⟨⟨?_, True.intro, a1⟩, ?_, c % 32, rfl, by unfold dcK; omega⟩
  · have hr : rk (.add (.num 0) F1) = [i1] := by show [] ++ rk F1 = _; rw [a3]; rfl
    rw [hr]
    unfold ns
    refine ⟨fun e => by omega, fun e => by omega, fun e => by omega, fun e => by omega, fun e => by omega, fun e => by omega, fun e => by omega, fun _ => ⟨i1, rfl, a4⟩, fun e => by omega, fun e => by omega, fun e => by omega, fun e => by omega, fun e => by omega, fun e => by omega⟩
  · rw [nd_pow (by omega), nd_add]
    have e : nd (.num 0 : Fo) = 0 := rfl
    rw [e]; omega
end WF
