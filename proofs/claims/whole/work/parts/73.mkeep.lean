-- the reference keeps a declaration
def PLs (pile : Nat → Int32) : List (Int32 × Int32) → Prop
  | [] => True
  | x :: S => pile (2 * S.length) = x.1 ∧ pile (2 * S.length + 1) = x.2 ∧ PLs pile S
def POP (pile : Nat → Int32) (S : List (Int32 × Int32)) (l3 l4 l5 : Int32) : Prop := match S with
  | [] => l3 = nI 0 ∧ l4 = -1
  | x :: S' => l3 = nI (2 * S'.length) ∧ l4 = x.1 ∧ l5 = x.2 ∧ PLs pile S'
def psh (q w : Int32) (S : List (Int32 × Int32)) : List (Int32 × Int32) := if q = -1 then S else (q, w) :: S
section KP
variable {K P V Wd B : Nat → Nat} {m nb t n : Nat} {ys mp ml : Nat → Int32} {size : Int32} {A : AR}
theorem PLs_upd {pile : Nat → Int32} {k : Nat} {v : Int32} : ∀ {S : List (Int32 × Int32)}, 2 * S.length ≤ k → PLs pile S → PLs (upd pile k v) S
  | [], _, _ => True.intro
  | x :: S, h, hp => by
    have h' : 2 * (S.length + 1) ≤ k := h
    exact ⟨by rw [pk_un (by omega)]; exact hp.1, by rw [pk_un (by omega)]; exact hp.2.1, PLs_upd (by omega) hp.2.2⟩
/-- the rows of the tokens that are names -/
def HW (K P Wd : Nat → Nat) (m : Nat) (mp ml : Nat → Int32) : Prop := ∀ i, i ≤ m → K i = 2 → i < 8001 ∧ mp i = nI (P i) ∧ ml i = nI (Wd i)
theorem kn_step {pile tk tw tv th ts tc mle mst : Nat → Int32} {T : TBt} {S : List (Int32 × Int32)} {l : List Nat} {x c r : Nat} {q w : Int32} (hnb : nb ≤ 8000) (hM : RM ys size B nb) (hW : HW K P Wd m mp ml) (ht : t < 2) (hc : tc t = nI n) (hn : n < 9000) (hp : pth th t n w l) (hx : x < 20000) (hr : r < 20000) (hd : da P V A c x) (hq : A.2.2.2.2.2 x = q) (hqr : q = -1 ∨ x ≠ r) (hS : PLs pile S) (hl : 2 * S.length + 2 ≤ 20000) (hk : (c % 32 = 9 ∨ c % 32 = 16) → c / 32 ≤ m ∧ K (c / 32) = 2)
    (hrm : (c % 32 = 9 ∨ c % 32 = 16) → (fdN T.2.1 T.2.2 B (P (c / 32)) (Wd (c / 32)) T.1 0 < T.1 ∨ (T.1 + 1 ≤ 4096 ∧ T.2.1 T.1 + Wd (c / 32) ≤ 12000)) ∧ 1 ≤ Wd (c / 32) ∧ P (c / 32) + Wd (c / 32) ≤ nb ∧ V (c / 32) = Wd (c / 32) ∧ nmOK B (P (c / 32)) (Wd (c / 32))) (hT : TB T.1 T.2.1 T.2.2) (hR : RNr mle mst T.1 T.2.1 T.2.2) :
    ∃ pile1 ts1 mle1 mst1 l3 l4 l5, Mo_keep_b8_b ys mp ml A.1 A.2.1 A.2.2.1 A.2.2.2.1 A.2.2.2.2.2 (nI t) (nI r) (pile, tk, tw, tv, th, ts, tc, mle, mst, nI T.1, nI (2 * S.length), nI x, w) = some (.inl (pile1, upd tk (9000 * t + n) (nI (c % 32)), upd tw (9000 * t + n) (plc P c), upd tv (9000 * t + n) (nvT P V Wd B c T), upd th (9000 * t + n) w, ts1, upd tc t (nI (n + 1)), mle1, mst1, nI (nlT P Wd B c T).1, l3, l4, l5)) ∧ RNr mle1 mst1 (nlT P Wd B c T).1 (nlT P Wd B c T).2.1 (nlT P Wd B c T).2.2 ∧ ts1 (9000 * t + n) = 1 ∧ (∀ z, z ≠ 9000 * t + n → ¬ z ∈ lsT t l → ts1 z = ts z) ∧ (∀ z, z ∈ lsT t l → ts1 z = ts z + 1) ∧ (A.2.2.2.1 x ≠ -1 → l3 = nI (2 * (psh q w S).length) ∧ l4 = A.2.2.2.1 x ∧ l5 = nI n ∧ PLs pile1 (psh q w S)) ∧ (A.2.2.2.1 x = -1 → POP pile1 (psh q w S) l3 l4 l5) := by
  obtain ⟨ts1, a1, a2, a3, a4⟩ := m_add (tk := tk) (tw := tw) (tv := tv) (ts := ts) (kd := nI (c % 32)) (pl := plc P c) (va := nvT P V Wd B c T) ht hc hn hp
  have hix := nI_in (c := x) (N := 20000) hx (by omega)
  have hix' := hix
  rw [nI_clamp (by omega)] at hix'
  have dp : A.2.1 x = plc P c := hd.2.1
  -- what follows once the value is known
  have b119 : ∀ (pile1 mle1 mst1 : Nat → Int32) (S1 : List (Int32 × Int32)) (mn : Int32), PLs pile1 S1 → 2 * S1.length ≤ 20000 → ∃ l3 l4 l5, Mo_keep_b119 ys mp ml A.1 A.2.1 A.2.2.1 A.2.2.2.1 A.2.2.2.2.2 pile1 (upd tk (9000 * t + n) (nI (c % 32))) (upd tw (9000 * t + n) (plc P c)) (upd tv (9000 * t + n) (nvT P V Wd B c T)) (upd th (9000 * t + n) w) ts1 (upd tc t (nI (n + 1))) mle1 mst1 mn (nI t) (nI r) (nI (2 * S1.length)) (nI x) w (nI n) = some (.inl (pile1, upd tk (9000 * t + n) (nI (c % 32)), upd tw (9000 * t + n) (plc P c), upd tv (9000 * t + n) (nvT P V Wd B c T), upd th (9000 * t + n) w, ts1, upd tc t (nI (n + 1)), mle1, mst1, mn, l3, l4, l5)) ∧ (A.2.2.2.1 x ≠ -1 → l3 = nI (2 * S1.length) ∧ l4 = A.2.2.2.1 x ∧ l5 = nI n ∧ PLs pile1 S1) ∧ (A.2.2.2.1 x = -1 → POP pile1 S1 l3 l4 l5) := by
    intro pile1 mle1 mst1 S1 mn h1 h2
    by_cases f : A.2.2.2.1 x = -1
    · cases S1 with
      | nil =>
        refine ⟨nI 0, -1, w, ?_, fun g => absurd f g, fun _ => ⟨rfl, rfl⟩⟩
        unfold Mo_keep_b119 Mo_keep_b177
        rw [if_neg hix, nI_clamp (by omega), if_pos f, if_pos (show nI (2 * ([] : List (Int32 × Int32)).length) ≤ 0 by decide)]
        rfl
      | cons y S2 =>
        have h2' : 2 * (S2.length + 1) ≤ 20000 := h2
        have e1 : nI (2 * (y :: S2).length) + (-2) = nI (2 * S2.length) := by
          have : (-2 : Int32) = -1 + -1 := by decide
          rw [this, ← Int32.add_assoc, i_m1, i_m1]
          show nI (2 * (S2.length + 1)) - 1 - 1 = _
          rw [show 2 * (S2.length + 1) = 2 * S2.length + 1 + 1 by omega, nI_pred, nI_pred]
        refine ⟨nI (2 * S2.length), y.1, y.2, ?_, fun g => absurd f g, fun _ => ⟨rfl, rfl, rfl, h1.2.2⟩⟩
        unfold Mo_keep_b119 Mo_keep_b177
        rw [if_neg hix, nI_clamp (by omega), if_pos f, if_neg (show ¬ nI (2 * (y :: S2).length) ≤ 0 from nI_nle (by show 0 < 2 * (S2.length + 1); omega) (by show 2 * (S2.length + 1) < _; omega)), e1, if_neg (nI_in (c := 2 * S2.length) (N := 20000) (by omega) (by omega)), nI_1, if_neg (nI_in (c := 2 * S2.length + 1) (N := 20000) (by omega) (by omega)), nI_clamp (n := 2 * S2.length) (by omega), nI_clamp (n := 2 * S2.length + 1) (by omega), h1.1, h1.2.1]
    · refine ⟨nI (2 * S1.length), A.2.2.2.1 x, nI n, ?_, fun _ => ⟨rfl, rfl, rfl, h1⟩, fun g => absurd g f⟩
      unfold Mo_keep_b119 Mo_keep_b177
      rw [if_neg hix, nI_clamp (by omega), if_neg f, if_neg hix']
  have b69 : ∀ (mle1 mst1 : Nat → Int32) (mn : Int32), ∃ pile1 l3 l4 l5, Mo_keep_b69 ys mp ml A.1 A.2.1 A.2.2.1 A.2.2.2.1 A.2.2.2.2.2 pile tk tw tv th ts tc mle1 mst1 mn (nI t) (nI r) (nI (2 * S.length)) (nI x) w (nvT P V Wd B c T) (plc P c) (nI (c % 32)) (nI t) = some (.inl (pile1, upd tk (9000 * t + n) (nI (c % 32)), upd tw (9000 * t + n) (plc P c), upd tv (9000 * t + n) (nvT P V Wd B c T), upd th (9000 * t + n) w, ts1, upd tc t (nI (n + 1)), mle1, mst1, mn, l3, l4, l5)) ∧ (A.2.2.2.1 x ≠ -1 → l3 = nI (2 * (psh q w S).length) ∧ l4 = A.2.2.2.1 x ∧ l5 = nI n ∧ PLs pile1 (psh q w S)) ∧ (A.2.2.2.1 x = -1 → POP pile1 (psh q w S) l3 l4 l5) := by
    intro mle1 mst1 mn
    by_cases e : q = -1
    · have ep : psh q w S = S := if_pos e
      rw [ep]
      obtain ⟨l3, l4, l5, g1, g2, g3⟩ := b119 pile mle1 mst1 S mn hS (by omega)
      refine ⟨pile, l3, l4, l5, ?_, g2, g3⟩
      unfold Mo_keep_b69
      refine (jb_ok a1).trans ?_
      rw [if_neg hix, nI_clamp (by omega), hq, if_pos e]
      exact g1
    · have ep : psh q w S = (q, w) :: S := if_neg e
      rw [ep]
      have xr : ¬ nI x = nI r := fun g => (hqr.resolve_left e) ((nI_eq (by omega) (by omega)).mp g)
      have h2 : PLs (upd (upd pile (2 * S.length) q) (2 * S.length + 1) w) ((q, w) :: S) := ⟨by rw [pk_un (by omega)]; exact pk_us, pk_us, PLs_upd (by omega) (PLs_upd (Nat.le_refl _) hS)⟩
      obtain ⟨l3, l4, l5, g1, g2, g3⟩ := b119 (upd (upd pile (2 * S.length) q) (2 * S.length + 1) w) mle1 mst1 ((q, w) :: S) mn h2 (by show 2 * (S.length + 1) ≤ 20000; omega)
      refine ⟨_, l3, l4, l5, ?_, g2, g3⟩
      unfold Mo_keep_b69
      refine (jb_ok a1).trans ?_
      have e2 : nI (2 * S.length) + 2 = nI (2 * ((q, w) :: S).length) := by
        have := nI_add (2 * S.length) 2
        exact this
      rw [if_neg hix, nI_clamp (n := x) (by omega), hq, if_neg e, if_neg xr, if_neg hix', if_neg (nI_in (c := 2 * S.length) (N := 20000) (by omega) (by omega)), nI_1, if_neg (nI_in (c := 2 * S.length + 1) (N := 20000) (by omega) (by omega)), nI_clamp (n := 2 * S.length) (by omega), nI_clamp (n := 2 * S.length + 1) (by omega), e2]
      exact g1
  have cn : ∀ a, a < 32 → (nI (c % 32) = nI a ↔ c % 32 = a) := fun a ha => nI_eq (by omega) (by omega)
  have m1 : ¬ nI x = -1 := nI_m1 (by omega)
  by_cases qn : c % 32 = 9 ∨ c % 32 = 16
  · obtain ⟨k1, k2⟩ := hk qn
    obtain ⟨q1, q2, q3, q4, q5⟩ := hrm qn
    obtain ⟨w1, w2, w3⟩ := hW _ k1 k2
    obtain ⟨mle1, mst1, g1, g2⟩ := m_number (ys := ys) (B := B) hT hR w1 w3 w2 (by omega) (fun j hj => hM.2.2 _ (by omega)) q2 q1
    have e1 : nlT P Wd B c T = nmT B T (P (c / 32)) (Wd (c / 32)) := if_pos qn
    have e2 : nvT P V Wd B c T = nI (fdN T.2.1 T.2.2 B (P (c / 32)) (Wd (c / 32)) T.1 0) := if_pos qn
    have dv : A.2.2.1 x = nI (c / 32) := by rw [hd.2.2, if_pos qn]
    obtain ⟨pile1, l3, l4, l5, b1, b2, b3⟩ := b69 mle1 mst1 (nI (nmC T.2.1 T.2.2 B (P (c / 32)) (Wd (c / 32)) T.1))
    refine ⟨pile1, ts1, mle1, mst1, l3, l4, l5, ?_, by rw [e1]; exact g2, a2, a3, a4, b2, b3⟩
    have b48 : Mo_keep_b48 ys mp ml A.1 A.2.1 A.2.2.1 A.2.2.2.1 A.2.2.2.2.2 pile tk tw tv th ts tc mle mst (nI T.1) (nI t) (nI r) (nI (2 * S.length)) (nI x) w (plc P c) (nI (c % 32)) (nI t) = some (.inl (pile1, upd tk (9000 * t + n) (nI (c % 32)), upd tw (9000 * t + n) (plc P c), upd tv (9000 * t + n) (nvT P V Wd B c T), upd th (9000 * t + n) w, ts1, upd tc t (nI (n + 1)), mle1, mst1, nI (nlT P Wd B c T).1, l3, l4, l5)) := by
      unfold Mo_keep_b48
      rw [if_neg hix, nI_clamp (by omega), dv]
      refine (jb_ok g1).trans ?_
      rw [e2] at b1
      rw [e1, e2]
      exact b1
    show Mo_keep_b8_s ys mp ml A.1 A.2.1 A.2.2.1 A.2.2.2.1 A.2.2.2.2.2 (nI t) (nI r) pile tk tw tv th ts tc mle mst (nI T.1) (nI (2 * S.length)) (nI x) w = _
    unfold Mo_keep_b8_s
    rw [if_neg m1, if_neg hix, if_neg hix, nI_clamp (by omega), hd.1, dp]
    by_cases q9 : c % 32 = 9
    · rw [if_pos (show nI (c % 32) = 9 by rw [q9]; rfl)]; exact b48
    · rw [if_neg (show ¬ nI (c % 32) = 9 from fun g => q9 ((cn 9 (by omega)).mp g)), if_pos (show nI (c % 32) = 16 by rw [show c % 32 = 16 by omega]; rfl)]; exact b48
  · have e1 : nlT P Wd B c T = T := if_neg qn
    have dv : A.2.2.1 x = nvT P V Wd B c T := by
      rw [hd.2.2, if_neg qn]
      unfold nvT
      rw [if_neg qn]
    obtain ⟨pile1, l3, l4, l5, b1, b2, b3⟩ := b69 mle mst (nI T.1)
    refine ⟨pile1, ts1, mle, mst, l3, l4, l5, ?_, by rw [e1]; exact hR, a2, a3, a4, b2, b3⟩
    show Mo_keep_b8_s ys mp ml A.1 A.2.1 A.2.2.1 A.2.2.2.1 A.2.2.2.2.2 (nI t) (nI r) pile tk tw tv th ts tc mle mst (nI T.1) (nI (2 * S.length)) (nI x) w = _
    unfold Mo_keep_b8_s
    rw [if_neg m1, if_neg hix, if_neg hix, nI_clamp (by omega), hd.1, dp, if_neg (show ¬ nI (c % 32) = 9 from fun g => qn (Or.inl ((cn 9 (by omega)).mp g))), if_neg (show ¬ nI (c % 32) = 16 from fun g => qn (Or.inr ((cn 16 (by omega)).mp g))), if_neg hix', dv, e1]
    exact b1
end KP
