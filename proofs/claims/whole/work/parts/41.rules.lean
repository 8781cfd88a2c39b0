-- one rule of the class's machine
theorem fst_some {α β : Type} {a a' : α} {r : β} (h : a = a') : some (a, r) = some (a', r) := by rw [h]
section AM
variable {K P V : Nat → Nat} {m : Nat} {tk tp tv gk gp gv gs gn wa bp bf : Nat → Int32} {G : List (Nat × Nat × Nat)} {w : List Nat} {b : List (Nat × Nat)} {d i r q k : Nat} {rs : List Nat}
/-- the class's rows hold the tokens -/
def HT (K P V : Nat → Nat) (m : Nat) (tk tp tv : Nat → Int32) : Prop := m ≤ 8000 ∧ (∀ i, i ≤ m → tk i = nI (K i) ∧ tp i = nI (P i) ∧ tv i = nI (V i)) ∧ ∀ i, K i ≤ 23
theorem t_kind (h : HT K P V m tk tp tv) (hi : i ≤ m) : f_Tk_nextKind tk (nI (m + 1)) (nI i) = some (nI (K i)) := by
  unfold f_Tk_nextKind
  have hm := h.1
  rw [if_neg (nI_ge (by omega) (by omega)), if_neg (nI_in (by omega) (by omega)), nI_clamp (by omega), (h.2.1 i hi).1]
theorem t_place (h : HT K P V m tk tp tv) (hi : i ≤ m) : f_Tk_nextPlace tp (nI (m + 1)) (nI i) = some (nI (P i)) := by
  unfold f_Tk_nextPlace
  have hm := h.1
  rw [if_neg (nI_ge (by omega) (by omega)), if_neg (nI_in (by omega) (by omega)), nI_clamp (by omega), (h.2.1 i hi).2.1]
theorem t_value (h : HT K P V m tk tp tv) (hi : i ≤ m) : f_Tk_nextValue tv (nI (m + 1)) (nI i) = some (nI (V i)) := by
  unfold f_Tk_nextValue
  have hm := h.1
  rw [if_neg (nI_ge (by omega) (by omega)), if_neg (nI_in (by omega) (by omega)), nI_clamp (by omega), (h.2.1 i hi).2.2]
theorem t_adv (h : HT K P V m tk tp tv) (hi : i ≤ m) : f_Tk_advance (nI (m + 1)) (nI i) = some (nI (i + 1)) := by
  unfold f_Tk_advance
  have hm := h.1
  rw [if_neg (nI_ge (by omega) (by omega)), nI_1]
theorem t_isNot (h : HT K P V m tk tp tv) (hi : i ≤ m) (hr : r < 30) : f_Pa_isNot tk (nI (m + 1)) (nI i) (nI r) = some (if K i = r then 0 else 1) := by
  unfold f_Pa_isNot
  rw [t_kind h hi, jb_some]
  have hk := h.2.2 i
  by_cases q : K i = r
  · rw [if_pos (by rw [q]), if_pos q, nb0]
  · rw [if_neg (fun x => q ((nI_eq (by omega) (by omega)).mp x)), if_neg q, nb1]
theorem t_isY (h : HT K P V m tk tp tv) (hi : i ≤ m) (hr : r < 30) (hk : K i = r) : f_Pa_isNot tk (nI (m + 1)) (nI i) (nI r) = some 0 := by rw [t_isNot h hi hr, if_pos hk]
theorem t_isN (h : HT K P V m tk tp tv) (hi : i ≤ m) (hr : r < 30) (hk : K i ≠ r) : f_Pa_isNot tk (nI (m + 1)) (nI i) (nI r) = some 1 := by rw [t_isNot h hi hr, if_neg hk]
theorem t_take (h : HT K P V m tk tp tv) (hi : i ≤ m) (hr : r < 30) (hk : K i = r) : f_Pa_takeToken tk (nI (m + 1)) (nI i) (nI r) = some (1, nI (i + 1)) := by
  unfold f_Pa_takeToken
  rw [t_isY h hi hr hk, jb_some, if_pos (show (0 : Int32) = 0 from rfl), t_adv h hi, jb_some]
  exact fst_some nb1
theorem t_takeF (h : HT K P V m tk tp tv) (hi : i ≤ m) (hr : r < 30) (hk : K i ≠ r) : f_Pa_takeToken tk (nI (m + 1)) (nI i) (nI r) = some (0, nI i) := by
  unfold f_Pa_takeToken
  rw [t_isN h hi hr hk, jb_some, if_neg (show ¬ (1 : Int32) = 0 by decide)]
  exact fst_some nb0
theorem t_leaf (h : HT K P V m tk tp tv) (hi : i ≤ m) (hr : r < 30) (hk : K i = r) (hG : G.length ≤ 8000) (hs : RS eS gs G) : f_Pa_takeLeaf tk tp tv (nI (m + 1)) (nI i) gk gp gv gs gn (nI G.length) (nI r) (nI q) = some (1, nI (i + 1), upd gk G.length (nI q), upd gp G.length (nI (P i)), upd gv G.length (nI (V i)), upd gs G.length (nI 1), upd gn G.length (nI 0), nI (G.length + 1)) := by
  unfold f_Pa_takeLeaf
  rw [t_isY h hi hr hk, jb_some, if_pos (show (0 : Int32) = 0 from rfl), t_place h hi, jb_some, t_value h hi, jb_some, a_add (k := 0) hG (Nat.le_refl _) hs (show G.length - G.length = 0 by omega), jb_some]
  have e1 : G.length - G.length + 1 = 1 := by omega
  rw [if_neg (show ¬ (1 : Int32) = 0 by decide), t_adv h hi, jb_some, e1]
  exact fst_some nb1
theorem t_leafF (h : HT K P V m tk tp tv) (hi : i ≤ m) (hr : r < 30) (hk : K i ≠ r) : f_Pa_takeLeaf tk tp tv (nI (m + 1)) (nI i) gk gp gv gs gn (nI G.length) (nI r) (nI q) = some (0, nI i, gk, gp, gv, gs, gn, nI G.length) := by
  unfold f_Pa_takeLeaf
  rw [t_isN h hi hr hk, jb_some, if_neg (show ¬ (1 : Int32) = 0 by decide)]
  exact fst_some nb0
theorem t_begin (h : HT K P V m tk tp tv) (hi : i ≤ m) (hk : k < 23) (hrow : jrowL.getD k [] = rs.map nI) (hc : w.length + rs.length ≤ 4096) (hb : b.length < 2048) (hr : RS nI wa w) (gl : Nat) : ∃ wa', f_Pa_begin tp (nI (m + 1)) (nI i) (nI gl) wa (nI w.length) bp bf (nI b.length) k = some (1, wa', nI (rs ++ w).length, upd bp b.length (nI (P i)), upd bf b.length (nI gl), nI (b.length + 1)) ∧ RS nI wa' (rs ++ w) := by
  obtain ⟨wa', g1, g2⟩ := a_await hk hrow hc hr
  refine ⟨wa', ?_, g2⟩
  unfold f_Pa_begin
  rw [if_neg (nI_pos (by omega)), if_pos (show nI b.length < 2048 from nI_lt (b := 2048) hb (by omega)), t_place h hi, jb_some, if_neg (nI_in hb (by omega)), if_neg (nI_in hb (by omega)), g1, jb_some, nI_clamp (by omega), nI_1]
  exact fst_some nb1
/-- the rows of the machine hold its lists -/
def RA (K : Nat → Nat) (m : Nat) (P V : Nat → Nat) (gk gp gv gs gn wa bp bf : Nat → Int32) (G : List (Nat × Nat × Nat)) (w : List Nat) (b : List (Nat × Nat)) : Prop := RG K m P V gk gp gv gs gn G ∧ RS nI wa w ∧ RS (fun x : Nat × Nat => nI (P x.1)) bp b ∧ RS (fun x : Nat × Nat => nI x.2) bf b
/-- a rule that fits -/
def TK1 (K P V : Nat → Nat) (m : Nat) (tk tp tv : Nat → Int32) (r i : Nat) (G : List (Nat × Nat × Nat)) (w : List Nat) (b : List (Nat × Nat)) (d i' : Nat) (G' : List (Nat × Nat × Nat)) (w' : List Nat) (b' : List (Nat × Nat)) (d' : Nat) : Prop :=
  ∀ gk gp gv gs gn wa bp bf, RA K i P V gk gp gv gs gn wa bp bf G w b → ∃ gk' gp' gv' gs' gn' wa' bp' bf', f_Pa_take tk tp tv (nI (m + 1)) (nI i) gk gp gv gs gn (nI G.length) wa (nI w.length) bp bf (nI b.length) (nI d) (nI r) = some (1, nI i', gk', gp', gv', gs', gn', nI G'.length, wa', nI w'.length, bp', bf', nI b'.length, nI d') ∧ RA K i' P V gk' gp' gv' gs' gn' wa' bp' bf' G' w' b'
/-- a rule that does not fit -/
def TKF (K P V : Nat → Nat) (m : Nat) (tk tp tv : Nat → Int32) (r i : Nat) (G : List (Nat × Nat × Nat)) (w : List Nat) (b : List (Nat × Nat)) (d : Nat) : Prop :=
  ∀ gk gp gv gs gn wa bp bf, RA K i P V gk gp gv gs gn wa bp bf G w b → ∃ wa' wc bp' bf' bc dp, f_Pa_take tk tp tv (nI (m + 1)) (nI i) gk gp gv gs gn (nI G.length) wa (nI w.length) bp bf (nI b.length) (nI d) (nI r) = some (0, nI i, gk, gp, gv, gs, gn, nI G.length, wa', wc, bp', bf', bc, dp)
theorem RA_w {n i : Nat} (h : RA K i P V gk gp gv gs gn wa bp bf G w b) (hn : i ≤ n) : RA K n P V gk gp gv gs gn wa bp bf G w b := ⟨RG_w h.1 hn, h.2⟩
theorem p_tok (h : HT K P V m tk tp tv) (hi : i ≤ m) (hr : r < 30) (hk : K i = r) : TK1 K P V m tk tp tv r i G w b d (i + 1) G w b d := by
  intro gk gp gv gs gn wa bp bf hA
  refine ⟨gk, gp, gv, gs, gn, wa, bp, bf, ?_, RA_w hA (Nat.le_succ i)⟩
  unfold f_Pa_take
  rw [if_pos (show nI r < 60 from nI_lt (b := 60) (by omega) (by omega)), if_neg (show ¬ (30 : Int32) ≤ nI r from nI_ge (b := 30) (by omega) (by omega)), t_take h hi hr hk, jb_some]
  exact fst_some nb1
theorem p_tokF (h : HT K P V m tk tp tv) (hi : i ≤ m) (hr : r < 30) (hk : K i ≠ r) : TKF K P V m tk tp tv r i G w b d := by
  intro gk gp gv gs gn wa bp bf hA
  refine ⟨wa, nI w.length, bp, bf, nI b.length, nI d, ?_⟩
  unfold f_Pa_take
  rw [if_pos (show nI r < 60 from nI_lt (b := 60) (by omega) (by omega)), if_neg (show ¬ (30 : Int32) ≤ nI r from nI_ge (b := 30) (by omega) (by omega)), t_takeF h hi hr hk, jb_some]
  exact fst_some nb0
/-- the growth with a leaf -/
theorem RG_leaf {c : Nat} (hq : c < 32) (hv : c = 9 ∨ c = 16 ∨ c = 17) (hki : c = 17 ∧ K i = 3 ∨ c ≠ 17 ∧ K i = 2) (hA : RG K i P V gk gp gv gs gn G) : RG K (i + 1) P V (upd gk G.length (nI c)) (upd gp G.length (nI (P i))) (upd gv G.length (nI (V i))) (upd gs G.length (nI 1)) (upd gn G.length (nI 0)) ((c + 32 * i, 1, 0) :: G) := by
  have e1 : (c + 32 * i) % 32 = c := by omega
  have e2 : (c + 32 * i) / 32 = i := by omega
  have hh := RG_cons (x := (c + 32 * i, 1, 0)) ⟨fun q => by
    have q' : (c + 32 * i) % 32 = 9 ∨ (c + 32 * i) % 32 = 16 := q
    show (c + 32 * i) / 32 < i + 1 ∧ K ((c + 32 * i) / 32) = 2
    rw [e2]
    omega, fun q => by
    have q' : (c + 32 * i) % 32 = 17 := q
    show (c + 32 * i) / 32 < i + 1 ∧ K ((c + 32 * i) / 32) = 3
    rw [e2]
    omega⟩ (RG_w hA (Nat.le_succ i))
  have f1 : eK (c + 32 * i, 1, 0) = nI c := by show nI ((c + 32 * i) % 32) = _; rw [e1]
  have f2 : eP P (c + 32 * i, 1, 0) = nI (P i) := by show (if (c + 32 * i) % 32 = 19 ∨ (c + 32 * i) % 32 = 0 then (-1 : Int32) else nI (P ((c + 32 * i) / 32))) = _; rw [e1, e2, if_neg (by omega)]
  have f3 : eV V (c + 32 * i, 1, 0) = nI (V i) := by show (if (c + 32 * i) % 32 = 9 ∨ (c + 32 * i) % 32 = 16 ∨ (c + 32 * i) % 32 = 17 then nI (V ((c + 32 * i) / 32)) else (0 : Int32)) = _; rw [e1, e2, if_pos hv]
  rw [f1, f2, f3] at hh
  exact hh
/-- the growth with a node that was begun -/
theorem RG_node {c t s n : Nat} (hq : c < 32) (hv : ¬ (c = 9 ∨ c = 16 ∨ c = 17)) (h9 : ¬ (c = 19 ∨ c = 0)) (hA : RG K m P V gk gp gv gs gn G) : RG K m P V (upd gk G.length (nI c)) (upd gp G.length (nI (P t))) (upd gv G.length 0) (upd gs G.length (nI s)) (upd gn G.length (nI n)) ((c + 32 * t, s, n) :: G) := by
  have e1 : (c + 32 * t) % 32 = c := by omega
  have e2 : (c + 32 * t) / 32 = t := by omega
  have hh := RG_cons (x := (c + 32 * t, s, n)) ⟨fun q => by
    have q' : (c + 32 * t) % 32 = 9 ∨ (c + 32 * t) % 32 = 16 := q
    omega, fun q => by
    have q' : (c + 32 * t) % 32 = 17 := q
    omega⟩ hA
  have f1 : eK (c + 32 * t, s, n) = nI c := by show nI ((c + 32 * t) % 32) = _; rw [e1]
  have f2 : eP P (c + 32 * t, s, n) = nI (P t) := by show (if (c + 32 * t) % 32 = 19 ∨ (c + 32 * t) % 32 = 0 then (-1 : Int32) else nI (P ((c + 32 * t) / 32))) = _; rw [e1, e2, if_neg h9]
  have f3 : eV V (c + 32 * t, s, n) = 0 := by show (if (c + 32 * t) % 32 = 9 ∨ (c + 32 * t) % 32 = 16 ∨ (c + 32 * t) % 32 = 17 then nI (V ((c + 32 * t) / 32)) else (0 : Int32)) = _; rw [e1, if_neg hv]
  rw [f1, f2, f3] at hh
  exact hh
theorem p_leaf33 (h : HT K P V m tk tp tv) (hi : i ≤ m) (hk : K i = 2) (hG : G.length ≤ 8000) : TK1 K P V m tk tp tv 33 i G w b d (i + 1) ((9 + 32 * i, 1, 0) :: G) w b d := by
  intro gk gp gv gs gn wa bp bf hA
  refine ⟨_, _, _, _, _, wa, bp, bf, ?_, RG_leaf (i := i) (by decide) (by decide) (by omega) hA.1, hA.2⟩
  unfold f_Pa_take
  rw [if_pos (show nI 33 < 60 by decide), if_pos (show (30 : Int32) ≤ nI 33 by decide), if_neg (show ¬ nI 33 = 30 by decide), if_neg (show ¬ nI 33 = 31 by decide), if_neg (show ¬ nI 33 = 32 by decide), if_pos (show nI 33 = 33 by decide)]
  have g := t_leaf (gk := gk) (gp := gp) (gv := gv) (gn := gn) (r := 2) (q := 9) h hi (by decide) hk hG hA.1.2.2.2.1
  rw [show f_Pa_takeLeaf tk tp tv (nI (m + 1)) (nI i) gk gp gv gs gn (nI G.length) 2 9 = _ from g, jb_some]
  exact fst_some nb1
theorem p_leaf33F (h : HT K P V m tk tp tv) (hi : i ≤ m) (hk : K i ≠ 2) : TKF K P V m tk tp tv 33 i G w b d := by
  intro gk gp gv gs gn wa bp bf hA
  refine ⟨wa, nI w.length, bp, bf, nI b.length, nI d, ?_⟩
  unfold f_Pa_take
  rw [if_pos (show nI 33 < 60 by decide), if_pos (show (30 : Int32) ≤ nI 33 by decide), if_neg (show ¬ nI 33 = 30 by decide), if_neg (show ¬ nI 33 = 31 by decide), if_neg (show ¬ nI 33 = 32 by decide), if_pos (show nI 33 = 33 by decide)]
  have g := t_leafF (gk := gk) (gp := gp) (gv := gv) (gs := gs) (gn := gn) (G := G) (r := 2) (q := 9) h hi (by decide) hk
  rw [show f_Pa_takeLeaf tk tp tv (nI (m + 1)) (nI i) gk gp gv gs gn (nI G.length) 2 9 = _ from g, jb_some]
  exact fst_some nb0
theorem p_leaf44 (h : HT K P V m tk tp tv) (hi : i ≤ m) (hk : K i = 2) (hG : G.length ≤ 8000) : TK1 K P V m tk tp tv 44 i G w b d (i + 1) ((16 + 32 * i, 1, 0) :: G) w b d := by
  intro gk gp gv gs gn wa bp bf hA
  refine ⟨_, _, _, _, _, wa, bp, bf, ?_, RG_leaf (i := i) (by decide) (by decide) (by omega) hA.1, hA.2⟩
  unfold f_Pa_take
  rw [if_pos (show nI 44 < 60 by decide), if_pos (show (30 : Int32) ≤ nI 44 by decide), if_neg (show ¬ nI 44 = 30 by decide), if_neg (show ¬ nI 44 = 31 by decide), if_neg (show ¬ nI 44 = 32 by decide), if_neg (show ¬ nI 44 = 33 by decide), if_neg (show ¬ nI 44 = 34 by decide), if_neg (show ¬ nI 44 = 35 by decide), if_neg (show ¬ nI 44 = 36 by decide), if_neg (show ¬ nI 44 = 37 by decide), if_neg (show ¬ nI 44 = 38 by decide), if_neg (show ¬ nI 44 = 39 by decide), if_neg (show ¬ nI 44 = 40 by decide), if_neg (show ¬ nI 44 = 41 by decide), if_neg (show ¬ nI 44 = 42 by decide), if_neg (show ¬ nI 44 = 43 by decide), if_pos (show nI 44 = 44 by decide)]
  have g := t_leaf (gk := gk) (gp := gp) (gv := gv) (gn := gn) (r := 2) (q := 16) h hi (by decide) hk hG hA.1.2.2.2.1
  rw [show f_Pa_takeLeaf tk tp tv (nI (m + 1)) (nI i) gk gp gv gs gn (nI G.length) 2 16 = _ from g, jb_some]
  exact fst_some nb1
theorem p_leaf44F (h : HT K P V m tk tp tv) (hi : i ≤ m) (hk : K i ≠ 2) : TKF K P V m tk tp tv 44 i G w b d := by
  intro gk gp gv gs gn wa bp bf hA
  refine ⟨wa, nI w.length, bp, bf, nI b.length, nI d, ?_⟩
  unfold f_Pa_take
  rw [if_pos (show nI 44 < 60 by decide), if_pos (show (30 : Int32) ≤ nI 44 by decide), if_neg (show ¬ nI 44 = 30 by decide), if_neg (show ¬ nI 44 = 31 by decide), if_neg (show ¬ nI 44 = 32 by decide), if_neg (show ¬ nI 44 = 33 by decide), if_neg (show ¬ nI 44 = 34 by decide), if_neg (show ¬ nI 44 = 35 by decide), if_neg (show ¬ nI 44 = 36 by decide), if_neg (show ¬ nI 44 = 37 by decide), if_neg (show ¬ nI 44 = 38 by decide), if_neg (show ¬ nI 44 = 39 by decide), if_neg (show ¬ nI 44 = 40 by decide), if_neg (show ¬ nI 44 = 41 by decide), if_neg (show ¬ nI 44 = 42 by decide), if_neg (show ¬ nI 44 = 43 by decide), if_pos (show nI 44 = 44 by decide)]
  have g := t_leafF (gk := gk) (gp := gp) (gv := gv) (gs := gs) (gn := gn) (G := G) (r := 2) (q := 16) h hi (by decide) hk
  rw [show f_Pa_takeLeaf tk tp tv (nI (m + 1)) (nI i) gk gp gv gs gn (nI G.length) 2 16 = _ from g, jb_some]
  exact fst_some nb0
theorem p_leaf45 (h : HT K P V m tk tp tv) (hi : i ≤ m) (hk : K i = 3) (hG : G.length ≤ 8000) : TK1 K P V m tk tp tv 45 i G w b d (i + 1) ((17 + 32 * i, 1, 0) :: G) w b d := by
  intro gk gp gv gs gn wa bp bf hA
  refine ⟨_, _, _, _, _, wa, bp, bf, ?_, RG_leaf (i := i) (by decide) (by decide) (by omega) hA.1, hA.2⟩
  unfold f_Pa_take
  rw [if_pos (show nI 45 < 60 by decide), if_pos (show (30 : Int32) ≤ nI 45 by decide), if_neg (show ¬ nI 45 = 30 by decide), if_neg (show ¬ nI 45 = 31 by decide), if_neg (show ¬ nI 45 = 32 by decide), if_neg (show ¬ nI 45 = 33 by decide), if_neg (show ¬ nI 45 = 34 by decide), if_neg (show ¬ nI 45 = 35 by decide), if_neg (show ¬ nI 45 = 36 by decide), if_neg (show ¬ nI 45 = 37 by decide), if_neg (show ¬ nI 45 = 38 by decide), if_neg (show ¬ nI 45 = 39 by decide), if_neg (show ¬ nI 45 = 40 by decide), if_neg (show ¬ nI 45 = 41 by decide), if_neg (show ¬ nI 45 = 42 by decide), if_neg (show ¬ nI 45 = 43 by decide), if_neg (show ¬ nI 45 = 44 by decide), if_pos (show nI 45 = 45 by decide)]
  have g := t_leaf (gk := gk) (gp := gp) (gv := gv) (gn := gn) (r := 3) (q := 17) h hi (by decide) hk hG hA.1.2.2.2.1
  rw [show f_Pa_takeLeaf tk tp tv (nI (m + 1)) (nI i) gk gp gv gs gn (nI G.length) 3 17 = _ from g, jb_some]
  exact fst_some nb1
theorem p_leaf45F (h : HT K P V m tk tp tv) (hi : i ≤ m) (hk : K i ≠ 3) : TKF K P V m tk tp tv 45 i G w b d := by
  intro gk gp gv gs gn wa bp bf hA
  refine ⟨wa, nI w.length, bp, bf, nI b.length, nI d, ?_⟩
  unfold f_Pa_take
  rw [if_pos (show nI 45 < 60 by decide), if_pos (show (30 : Int32) ≤ nI 45 by decide), if_neg (show ¬ nI 45 = 30 by decide), if_neg (show ¬ nI 45 = 31 by decide), if_neg (show ¬ nI 45 = 32 by decide), if_neg (show ¬ nI 45 = 33 by decide), if_neg (show ¬ nI 45 = 34 by decide), if_neg (show ¬ nI 45 = 35 by decide), if_neg (show ¬ nI 45 = 36 by decide), if_neg (show ¬ nI 45 = 37 by decide), if_neg (show ¬ nI 45 = 38 by decide), if_neg (show ¬ nI 45 = 39 by decide), if_neg (show ¬ nI 45 = 40 by decide), if_neg (show ¬ nI 45 = 41 by decide), if_neg (show ¬ nI 45 = 42 by decide), if_neg (show ¬ nI 45 = 43 by decide), if_neg (show ¬ nI 45 = 44 by decide), if_pos (show nI 45 = 45 by decide)]
  have g := t_leafF (gk := gk) (gp := gp) (gv := gv) (gs := gs) (gn := gn) (G := G) (r := 3) (q := 17) h hi (by decide) hk
  rw [show f_Pa_takeLeaf tk tp tv (nI (m + 1)) (nI i) gk gp gv gs gn (nI G.length) 3 17 = _ from g, jb_some]
  exact fst_some nb0
theorem p_fin (hb : b.length < 2048) {F : Fo} {t : Nat} (hq : q < 32) (hv : ¬ (q = 9 ∨ q = 16 ∨ q = 17)) (h9 : ¬ (q = 19 ∨ q = 0)) (hG : (fp F ++ G).length ≤ 8000) : TK1 K P V m tk tp tv (60 + q) i (fp F ++ G) w ((t, G.length) :: b) d i (fp (.pow F (q + 32 * t)) ++ G) w b d := by
  intro gk gp gv gs gn wa bp bf hA
  have e0 : (fp F ++ G).length - G.length = fs F := by rw [List.length_append, fp_len]; omega
  have e3 : fp (.pow F (q + 32 * t)) ++ G = (q + 32 * t, fs F + 1, fn F) :: (fp F ++ G) := rfl
  refine ⟨_, _, _, _, _, wa, bp, bf, ?_, by rw [e3]; exact RG_node (s := fs F + 1) (n := fn F) hq hv h9 hA.1, hA.2.1, hA.2.2.1.2, hA.2.2.2.2⟩
  unfold f_Pa_take
  have e1 : nI (60 + q) - 60 = nI q := by have := pk_sub (a := 60 + q) (b := 60) (by omega); rw [show 60 + q - 60 = q by omega] at this; exact this
  have e2 : nI ((t, G.length) :: b).length - 1 = nI b.length := nI_pred _
  rw [if_neg (show ¬ nI (60 + q) < 60 from nI_nlt (b := 60) (by omega) (by omega)), e1]
  unfold f_Pa_finish
  rw [if_pos (show (0 : Int32) < nI ((t, G.length) :: b).length from nI_lt (a := 0) (by rw [List.length_cons]; omega) (by rw [List.length_cons]; omega)), e2, if_neg (nI_in hb (by omega)), if_neg (nI_in hb (by omega)), nI_clamp (by omega), hA.2.2.1.1, hA.2.2.2.1]
  have g := a_add (gk := gk) (gp := gp) (gv := gv) (gn := gn) (a1 := nI q) (a2 := nI (P t)) (a3 := 0) (fr := G.length) (k := fn F) hG (by rw [List.length_append]; omega) hA.1.2.2.2.1 (by rw [e0]; exact rt_F F G)
  rw [e0] at g
  rw [show f_Gr_add gk gp gv gs gn (nI (fp F ++ G).length) (nI q) (nI (P (t, G.length).1)) 0 (nI (t, G.length).2) = _ from g, jb_some, jb_some]
  refine fst_some ?_
  show vp_nar .boolean (vp_nar .boolean 1) = 1
  rw [nb1, nb1]
theorem p_join42 {A1 A2 : Fo} {c1 c2 : Nat} (h9 : ¬ (c1 % 32 = 19 ∨ c1 % 32 = 0)) (hG : (fp (.pow A2 c2) ++ (fp (.pow A1 c1) ++ G)).length ≤ 8000) : TK1 K P V m tk tp tv 42 i (fp (.pow A2 c2) ++ (fp (.pow A1 c1) ++ G)) w b d i (fp (.pow (.add (.pow A1 c1) (.pow A2 c2)) (14 + 32 * (c1 / 32))) ++ G) w b d := by
  intro gk gp gv gs gn wa bp bf hA
  have e3 : fp (.pow (.add (.pow A1 c1) (.pow A2 c2)) (14 + 32 * (c1 / 32))) ++ G = (14 + 32 * (c1 / 32), fs A1 + 1 + (fs A2 + 1) + 1, 2) :: (fp (.pow A2 c2) ++ (fp (.pow A1 c1) ++ G)) := by
    show (14 + 32 * (c1 / 32), fs A1 + 1 + (fs A2 + 1) + 1, 2) :: (fp (.pow A2 c2) ++ fp (.pow A1 c1) ++ G) = _
    rw [List.append_assoc]
  refine ⟨_, _, _, _, _, wa, bp, bf, ?_, by rw [e3]; exact RG_node (t := c1 / 32) (s := fs A1 + 1 + (fs A2 + 1) + 1) (n := 2) (c := 14) (by decide) (by decide) (by decide) hA.1, hA.2⟩
  unfold f_Pa_take
  rw [if_pos (show nI 42 < 60 by decide), if_pos (show (30 : Int32) ≤ nI 42 by decide), if_neg (show ¬ nI 42 = 30 by decide), if_neg (show ¬ nI 42 = 31 by decide), if_neg (show ¬ nI 42 = 32 by decide), if_neg (show ¬ nI 42 = 33 by decide), if_neg (show ¬ nI 42 = 34 by decide), if_neg (show ¬ nI 42 = 35 by decide), if_neg (show ¬ nI 42 = 36 by decide), if_neg (show ¬ nI 42 = 37 by decide), if_neg (show ¬ nI 42 = 38 by decide), if_neg (show ¬ nI 42 = 39 by decide), if_neg (show ¬ nI 42 = 40 by decide), if_neg (show ¬ nI 42 = 41 by decide), if_pos (show nI 42 = 42 by decide)]
  have l1 : (fp (.pow A1 c1) ++ G).length = fs A1 + G.length + 1 := by rw [List.length_append, fp_len]; show fs A1 + 1 + G.length = _; omega
  have l2 : (fp A2 ++ (fp (.pow A1 c1) ++ G)).length = fs A2 + (fs A1 + G.length + 1) := by rw [List.length_append, fp_len, l1]
  have l3 : (fp (.pow A2 c2) ++ (fp (.pow A1 c1) ++ G)).length = fs A2 + (fs A1 + G.length + 1) + 1 := by show (fp A2 ++ (fp (.pow A1 c1) ++ G)).length + 1 = _; rw [l2]
  have l4 : (fp A1 ++ G).length = fs A1 + G.length := by rw [List.length_append, fp_len]
  rw [l3] at hG
  have hS := hA.1.2.2.2.1
  have s1 : gs (fs A2 + (fs A1 + G.length + 1)) = nI (fs A2 + 1) := by have := (show gs (fp A2 ++ (fp (.pow A1 c1) ++ G)).length = nI (fs A2 + 1) from hS.1); rw [l2] at this; exact this
  have hS2 := RS_app (x := fp (.pow A2 c2)) (l := fp (.pow A1 c1) ++ G) hS
  have s2 : gs (fs A1 + G.length) = nI (fs A1 + 1) := by have := (show gs (fp A1 ++ G).length = nI (fs A1 + 1) from hS2.1); rw [l4] at this; exact this
  have hP2 := RS_app (x := fp (.pow A2 c2)) (l := fp (.pow A1 c1) ++ G) hA.1.2.1
  have s3 : gp (fs A1 + G.length) = nI (P (c1 / 32)) := by
    have := (show gp (fp A1 ++ G).length = eP P (c1, fs A1 + 1, fn A1) from hP2.1)
    rw [l4] at this
    rw [this]
    show (if c1 % 32 = 19 ∨ c1 % 32 = 0 then (-1 : Int32) else nI (P (c1 / 32))) = _
    rw [if_neg h9]
  have n1 : nI (fs A2 + (fs A1 + G.length + 1) + 1) - 1 = nI (fs A2 + (fs A1 + G.length + 1)) := nI_pred _
  have n2 : nI (fs A2 + (fs A1 + G.length + 1)) - nI (fs A2 + 1) = nI (fs A1 + G.length) := by rw [pk_sub (by omega), show fs A2 + (fs A1 + G.length + 1) - (fs A2 + 1) = fs A1 + G.length by omega]
  have n3 : nI (fs A1 + G.length) - nI (fs A1 + 1) + 1 = nI G.length := by
    rw [i_sub3 (by omega), show fs A1 + G.length + 1 - (fs A1 + 1) = G.length by omega, Int32.sub_add_cancel]
  have g := a_add (gk := gk) (gp := gp) (gv := gv) (gn := gn) (a1 := nI 14) (a2 := nI (P (c1 / 32))) (a3 := 0) (fr := G.length) (k := 2) (G := fp (.pow A2 c2) ++ (fp (.pow A1 c1) ++ G)) (by rw [l3]; omega) (by rw [l3]; omega) hS (by
    have := rt_F (.add (.pow A1 c1) (.pow A2 c2)) G
    rw [l3, show fs A2 + (fs A1 + G.length + 1) + 1 - G.length = fs A1 + 1 + (fs A2 + 1) by omega]
    have e4 : fp (.add (.pow A1 c1) (.pow A2 c2)) ++ G = fp (.pow A2 c2) ++ (fp (.pow A1 c1) ++ G) := by show fp (.pow A2 c2) ++ fp (.pow A1 c1) ++ G = _; rw [List.append_assoc]
    rw [e4] at this
    exact this)
  rw [l3] at g ⊢
  rw [show fs A2 + (fs A1 + G.length + 1) + 1 - G.length + 1 = fs A1 + 1 + (fs A2 + 1) + 1 by omega] at g
  unfold f_Gr_join
  rw [n1, if_pos (nI_pos' (by omega)), if_neg (nI_in (by omega) (by omega)), nI_clamp (by omega), s1, n2]
  unfold Gr_join_b23
  rw [if_neg (nI_pos (by omega)), if_neg (nI_in (by omega) (by omega)), if_neg (nI_in (by omega) (by omega)), nI_clamp (by omega), s3, s2, n3]
  rw [show f_Gr_add gk gp gv gs gn (nI (fs A2 + (fs A1 + G.length + 1) + 1)) 14 (nI (P (c1 / 32))) 0 (nI G.length) = _ from g, jb_some, if_neg (show ¬ (1 : Int32) = 0 by decide), jb_some]
  rw [e3, List.length_cons, l3]
  refine fst_some ?_
  show vp_nar .boolean (vp_nar .boolean 1) = 1
  rw [nb1, nb1]
theorem p_join43 {A1 A2 : Fo} {c1 c2 : Nat} (h9 : ¬ (c1 % 32 = 19 ∨ c1 % 32 = 0)) (hG : (fp (.pow A2 c2) ++ (fp (.pow A1 c1) ++ G)).length ≤ 8000) : TK1 K P V m tk tp tv 43 i (fp (.pow A2 c2) ++ (fp (.pow A1 c1) ++ G)) w b d i (fp (.pow (.add (.pow A1 c1) (.pow A2 c2)) (13 + 32 * (c1 / 32))) ++ G) w b d := by
  intro gk gp gv gs gn wa bp bf hA
  have e3 : fp (.pow (.add (.pow A1 c1) (.pow A2 c2)) (13 + 32 * (c1 / 32))) ++ G = (13 + 32 * (c1 / 32), fs A1 + 1 + (fs A2 + 1) + 1, 2) :: (fp (.pow A2 c2) ++ (fp (.pow A1 c1) ++ G)) := by
    show (13 + 32 * (c1 / 32), fs A1 + 1 + (fs A2 + 1) + 1, 2) :: (fp (.pow A2 c2) ++ fp (.pow A1 c1) ++ G) = _
    rw [List.append_assoc]
  refine ⟨_, _, _, _, _, wa, bp, bf, ?_, by rw [e3]; exact RG_node (t := c1 / 32) (s := fs A1 + 1 + (fs A2 + 1) + 1) (n := 2) (c := 13) (by decide) (by decide) (by decide) hA.1, hA.2⟩
  unfold f_Pa_take
  rw [if_pos (show nI 43 < 60 by decide), if_pos (show (30 : Int32) ≤ nI 43 by decide), if_neg (show ¬ nI 43 = 30 by decide), if_neg (show ¬ nI 43 = 31 by decide), if_neg (show ¬ nI 43 = 32 by decide), if_neg (show ¬ nI 43 = 33 by decide), if_neg (show ¬ nI 43 = 34 by decide), if_neg (show ¬ nI 43 = 35 by decide), if_neg (show ¬ nI 43 = 36 by decide), if_neg (show ¬ nI 43 = 37 by decide), if_neg (show ¬ nI 43 = 38 by decide), if_neg (show ¬ nI 43 = 39 by decide), if_neg (show ¬ nI 43 = 40 by decide), if_neg (show ¬ nI 43 = 41 by decide), if_neg (show ¬ nI 43 = 42 by decide), if_pos (show nI 43 = 43 by decide)]
  have l1 : (fp (.pow A1 c1) ++ G).length = fs A1 + G.length + 1 := by rw [List.length_append, fp_len]; show fs A1 + 1 + G.length = _; omega
  have l2 : (fp A2 ++ (fp (.pow A1 c1) ++ G)).length = fs A2 + (fs A1 + G.length + 1) := by rw [List.length_append, fp_len, l1]
  have l3 : (fp (.pow A2 c2) ++ (fp (.pow A1 c1) ++ G)).length = fs A2 + (fs A1 + G.length + 1) + 1 := by show (fp A2 ++ (fp (.pow A1 c1) ++ G)).length + 1 = _; rw [l2]
  have l4 : (fp A1 ++ G).length = fs A1 + G.length := by rw [List.length_append, fp_len]
  rw [l3] at hG
  have hS := hA.1.2.2.2.1
  have s1 : gs (fs A2 + (fs A1 + G.length + 1)) = nI (fs A2 + 1) := by have := (show gs (fp A2 ++ (fp (.pow A1 c1) ++ G)).length = nI (fs A2 + 1) from hS.1); rw [l2] at this; exact this
  have hS2 := RS_app (x := fp (.pow A2 c2)) (l := fp (.pow A1 c1) ++ G) hS
  have s2 : gs (fs A1 + G.length) = nI (fs A1 + 1) := by have := (show gs (fp A1 ++ G).length = nI (fs A1 + 1) from hS2.1); rw [l4] at this; exact this
  have hP2 := RS_app (x := fp (.pow A2 c2)) (l := fp (.pow A1 c1) ++ G) hA.1.2.1
  have s3 : gp (fs A1 + G.length) = nI (P (c1 / 32)) := by
    have := (show gp (fp A1 ++ G).length = eP P (c1, fs A1 + 1, fn A1) from hP2.1)
    rw [l4] at this
    rw [this]
    show (if c1 % 32 = 19 ∨ c1 % 32 = 0 then (-1 : Int32) else nI (P (c1 / 32))) = _
    rw [if_neg h9]
  have n1 : nI (fs A2 + (fs A1 + G.length + 1) + 1) - 1 = nI (fs A2 + (fs A1 + G.length + 1)) := nI_pred _
  have n2 : nI (fs A2 + (fs A1 + G.length + 1)) - nI (fs A2 + 1) = nI (fs A1 + G.length) := by rw [pk_sub (by omega), show fs A2 + (fs A1 + G.length + 1) - (fs A2 + 1) = fs A1 + G.length by omega]
  have n3 : nI (fs A1 + G.length) - nI (fs A1 + 1) + 1 = nI G.length := by
    rw [i_sub3 (by omega), show fs A1 + G.length + 1 - (fs A1 + 1) = G.length by omega, Int32.sub_add_cancel]
  have g := a_add (gk := gk) (gp := gp) (gv := gv) (gn := gn) (a1 := nI 13) (a2 := nI (P (c1 / 32))) (a3 := 0) (fr := G.length) (k := 2) (G := fp (.pow A2 c2) ++ (fp (.pow A1 c1) ++ G)) (by rw [l3]; omega) (by rw [l3]; omega) hS (by
    have := rt_F (.add (.pow A1 c1) (.pow A2 c2)) G
    rw [l3, show fs A2 + (fs A1 + G.length + 1) + 1 - G.length = fs A1 + 1 + (fs A2 + 1) by omega]
    have e4 : fp (.add (.pow A1 c1) (.pow A2 c2)) ++ G = fp (.pow A2 c2) ++ (fp (.pow A1 c1) ++ G) := by show fp (.pow A2 c2) ++ fp (.pow A1 c1) ++ G = _; rw [List.append_assoc]
    rw [e4] at this
    exact this)
  rw [l3] at g ⊢
  rw [show fs A2 + (fs A1 + G.length + 1) + 1 - G.length + 1 = fs A1 + 1 + (fs A2 + 1) + 1 by omega] at g
  unfold f_Gr_join
  rw [n1, if_pos (nI_pos' (by omega)), if_neg (nI_in (by omega) (by omega)), nI_clamp (by omega), s1, n2]
  unfold Gr_join_b23
  rw [if_neg (nI_pos (by omega)), if_neg (nI_in (by omega) (by omega)), if_neg (nI_in (by omega) (by omega)), nI_clamp (by omega), s3, s2, n3]
  rw [show f_Gr_add gk gp gv gs gn (nI (fs A2 + (fs A1 + G.length + 1) + 1)) 13 (nI (P (c1 / 32))) 0 (nI G.length) = _ from g, jb_some, if_neg (show ¬ (1 : Int32) = 0 by decide), jb_some]
  rw [e3, List.length_cons, l3]
  refine fst_some ?_
  show vp_nar .boolean (vp_nar .boolean 1) = 1
  rw [nb1, nb1]
end AM
