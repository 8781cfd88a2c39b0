-- the reference's applied atoms
section RF
variable {K P V B : Nat → Nat} {m r d : Nat} {tk tp tv mt mp ml ys : Nat → Int32} {s s' : Nat ⊕ Nat} {A A' A3 : AR} {D D' D3 x c i o : Nat} {F F' F1 F3 H : Fo} {R : Nat → Prop}
theorem P_mono (hP : HP K P m) {i j : Nat} (hij : i ≤ j) (hj : j ≤ m) : P i + (j - i) ≤ P j := by
  have key : ∀ t, i + t ≤ m → P i + t ≤ P (i + t) := by
    intro t
    induction t with
    | zero => intro _; exact Nat.le_refl _
    | succ t iht => intro ht; have := iht (by omega); have := (hP.1 (i + t) (by omega)).1; show P i + (t + 1) ≤ P (i + t + 1); omega
  have := key (j - i) (by omega)
  rw [show i + (j - i) = j by omega] at this
  exact this
theorem P_lt (hP : HP K P m) {i j : Nat} (h : P i < P j) (hi : i ≤ m) : i < j := by
  rcases Nat.lt_or_ge i j with q | q
  · exact q
  · have := P_mono hP q hi; omega
theorem jn_fr {y : Int32} (hf : ∀ z, z < D → eqA A A3 z) (hW : Wj A D) (hD : D ≤ 20000) (ho : o < D) : ∀ z, z < D → eqA (jn A o y) (jn A3 o y) z := by
  intro z hz
  have eo := hf o ho
  have ez := hf z hz
  by_cases qy : y = -1
  · rw [jn_m qy, jn_m qy]; exact ez
  by_cases q2 : A.2.2.2.1 o = -1
  · rw [jn_f qy q2, jn_f qy (eo.2.2.2.1.trans q2)]
    by_cases qz : z = o
    · subst qz
      exact ⟨ez.1, ez.2.1, ez.2.2.1, pk_us.trans pk_us.symm, pk_us.trans pk_us.symm, ez.2.2.2.2.2⟩
    · exact ⟨ez.1, ez.2.1, ez.2.2.1, (pk_un qz).trans (ez.2.2.2.1.trans (pk_un qz).symm), (pk_un qz).trans (ez.2.2.2.2.1.trans (pk_un qz).symm), ez.2.2.2.2.2⟩
  · rw [jn_n qy q2, jn_n qy (fun e => q2 (eo.2.2.2.1.symm.trans e)), eo.2.2.2.2.1]
    refine ⟨ez.1, ez.2.1, ez.2.2.1, ez.2.2.2.1, ?_, ?_⟩
    · by_cases qz : z = o
      · subst qz; exact pk_us.trans pk_us.symm
      · exact (pk_un qz).trans (ez.2.2.2.2.1.trans (pk_un qz).symm)
    · by_cases qz : z = (A.2.2.2.2.1 o).toNatClampNeg
      · show upd A3.2.2.2.2.2 _ y z = upd A.2.2.2.2.2 _ y z
        rw [← qz]; exact pk_us.trans pk_us.symm
      · exact (pk_un qz).trans (ez.2.2.2.2.2.trans (pk_un qz).symm)
theorem jn_o {y : Int32} (hf : ∀ z, z < D → eqA A A3 z) (hW : Wj A D) (hD : D ≤ 20000) (ho : o < D) : ∀ z, D ≤ z → eqA A3 (jn A3 o y) z := by
  intro z hz
  have eo := hf o ho
  by_cases qy : y = -1
  · rw [jn_m qy]; exact eqA_rfl
  by_cases q2 : A3.2.2.2.1 o = -1
  · rw [jn_f qy q2]
    exact ⟨rfl, rfl, rfl, pk_un (by omega), pk_un (by omega), rfl⟩
  · rw [jn_n qy q2]
    rcases (hW o ho).1 with w | ⟨l, hl, w⟩
    · exact absurd (eo.2.2.2.1.trans w) q2
    · refine ⟨rfl, rfl, rfl, rfl, pk_un (by omega), ?_⟩
      show upd A3.2.2.2.2.2 (A3.2.2.2.2.1 o).toNatClampNeg y z = A3.2.2.2.2.2 z
      rw [eo.2.2.2.2.1, w, nI_clamp (by omega)]
      exact pk_un (by omega)
theorem jn_far {v : Int32} (hO : ON P V A R x c H) (hR : ∀ z, R z → D ≤ z ∧ z < 20000) (hx : D ≤ x) : ∀ z, z < D → eqA A (jn A x v) z := by
  intro z hz
  obtain ⟨_, _, _, l, c4, c5, c6⟩ := hO
  by_cases qy : v = -1
  · rw [jn_m qy]; exact eqA_rfl
  by_cases q2 : A.2.2.2.1 x = -1
  · rw [jn_f qy q2]
    exact ⟨rfl, rfl, rfl, pk_un (by omega), pk_un (by omega), rfl⟩
  · rw [jn_n qy q2]
    by_cases q : fn H = 0
    · exact absurd (c5 q) q2
    · obtain ⟨_, c7⟩ := c6 (by omega)
      have hl := hR l (ch_in H _ _ _ _ c4 (by omega))
      refine ⟨rfl, rfl, rfl, rfl, pk_un (by omega), ?_⟩
      show upd A.2.2.2.2.2 (A.2.2.2.2.1 x).toNatClampNeg v z = A.2.2.2.2.2 z
      rw [c7, nI_clamp (by omega)]
      exact pk_un (by omega)
/-- an open node whose last part came by the loop -/
theorem on_loop {y : Nat} (hW : Wj A D) (ho : o < D) (hx : D ≤ x ∧ x < D3) (hO : ON P V A3 R x c H) (hR : ∀ z, R z → D ≤ z ∧ z < D3) (hf : ∀ z, z < D → eqA A A3 z) (h3 : ∀ z, z < D3 → eqA (jn (jn A3 o (nI x)) x (nI y)) A' z) (hF : fn F3 = 1) (hy : D3 ≤ y ∧ y < D') (hD' : D' ≤ 20000) (hc : ch P V A' F3 (fun z => D3 ≤ z ∧ z < D') (nI y) (-1) y) : ch P V A' (.pow (.add H F3) c) (fun z => D ≤ z ∧ z < D') (nI x) (-1) x ∧ ∀ z, z < D → eqA (jn A o (nI x)) A' z := by
  have e1 : ∀ z, D ≤ z → eqA A3 (jn A3 o (nI x)) z := jn_o hf hW (by omega) ho
  have hO1 : ON P V (jn A3 o (nI x)) R x c H := on_fr hO (e1 x hx.1) (fun z hz => e1 z (hR z hz).1)
  constructor
  · have o1 := on_join (R2 := fun z => D3 ≤ z ∧ z < D') (T := F3) (fun z hz => by have := hR z hz; omega) hO1 hF (by omega) (fun z hz => by have := hR z hz; omega) (fun z hz => by
      rcases hz with a | a
      · rw [a]; exact h3 x hx.2
      · exact h3 z (hR z a).2) (by omega) hc
    exact ch_mono _ _ _ _ _ _ (on_close o1) (fun z hz => by
      rcases hz with (a | a) | a
      · have := hR z a; omega
      · omega
      · omega)
  · intro z hz
    refine eqA_tr (jn_fr hf hW (by omega) ho z hz) ?_
    refine eqA_tr (jn_far hO1 (fun w hw => by have := hR w hw; omega) hx.1 z hz) (h3 z (by omega))
theorem m_397n {T : (Nat → Int32) → (Nat → Int32) → (Nat → Int32) → (Nat → Int32) → Int32 → Int32 → Int32 → (Nat → Int32) → (Nat → Int32) → (Nat → Int32) → (Nat → Int32) → (Nat → Int32) → (Nat → Int32) → Int32 → Int32 → Option (Int32 × Int32 × Int32 × Int32 × (Nat → Int32) × (Nat → Int32) × (Nat → Int32) × (Nat → Int32) × (Nat → Int32) × (Nat → Int32) × Int32)} {l2 l3 l6 : Int32} (hM : HM K P m mt mp) (hs : ix s ≤ m) (hn : ¬ lk K s = 9) : Mo_termS_b397 T ys mt mp ml (sA s) (sB s) (sF P s) A.1 A.2.1 A.2.2.1 A.2.2.2.1 A.2.2.2.2.1 A.2.2.2.2.2 (nI D) (nI d) l2 l3 l6 = Mo_termS_b452 T ys mt mp ml (sA s) (sB s) (sF P s) A.1 A.2.1 A.2.2.1 A.2.2.2.1 A.2.2.2.2.1 A.2.2.2.2.2 (nI D) (nI d) l2 l3 0 l6 := by
  unfold Mo_termS_b397
  refine (jb_ok (m_look hM hs)).trans ?_
  rw [if_neg hn]
  unfold Mo_termS_b411
  rw [if_pos (show (0 : Int32) = 0 from rfl)]
theorem rp_root {y : Nat} {A1 : Fo} {c1 : Nat} {A0 : AR} {lo : Nat} (hr : RP P V (.inr i) A0 A lo D (nI y) (.pow A1 c1)) (hD : D ≤ 20000) (hc : ¬ (c1 % 32 = 19 ∨ c1 % 32 = 0)) (hy : y < 2 ^ 31) : y < D ∧ A.2.1 y = nI (P (c1 / 32)) := by
  obtain ⟨_, _, _, h4⟩ := hr
  obtain ⟨_, _, x, f3, f4, f5, f6⟩ := h4 i rfl
  have e : y = x := (nI_eq hy (by omega)).mp f3
  subst e
  have d1 := f6.2.2.1.2.1
  rw [if_neg hc] at d1
  exact ⟨f4, d1⟩
theorem m_apps {T : (Nat → Int32) → (Nat → Int32) → (Nat → Int32) → (Nat → Int32) → Int32 → Int32 → Int32 → (Nat → Int32) → (Nat → Int32) → (Nat → Int32) → (Nat → Int32) → (Nat → Int32) → (Nat → Int32) → Int32 → Int32 → Option (Int32 × Int32 × Int32 × Int32 × (Nat → Int32) × (Nat → Int32) × (Nat → Int32) × (Nat → Int32) × (Nat → Int32) × (Nat → Int32) × Int32)} {l2 l3 : Int32} (h : HT K P V m tk tp tv) (hM : HM K P m mt mp) (hV : HV K P V m ml ys B) (hP : HP K P m) (hd : d ≤ 100) (hT : TS K P V m tk tp tv mt mp ml ys T d) {A0 : AR} {lo : Nat} : ∀ (n i : Nat) (A : AR) (D y : Nat) (A1 : Fo) (c1 : Nat), m - i ≤ n → i ≤ m → Wj A D → D ≤ 2 * P i + 8 → y < 2 ^ 31 → ¬ (c1 % 32 = 19 ∨ c1 % 32 = 0) → RP P V (.inr i) A0 A lo D (nI y) (.pow A1 c1) → wC (2 + 3 * (100 - d)) (.pow A1 c1) →
    ∃ (s' : Nat ⊕ Nat) (T' : Fo) (A' : AR) (D' : Nat) (y' : Nat), Mo_termS_b341 T ys mt mp ml (sA (.inr i)) (sB (.inr i)) (sF P (.inr i)) A.1 A.2.1 A.2.2.1 A.2.2.2.1 A.2.2.2.2.1 A.2.2.2.2.2 (nI D) (nI d) l2 l3 (nI y) = Mo_termS_b397 T ys mt mp ml (sA s') (sB s') (sF P s') A'.1 A'.2.1 A'.2.2.1 A'.2.2.2.1 A'.2.2.2.2.1 A'.2.2.2.2.2 (nI D') (nI d) l2 l3 (nI y') ∧ ix s' ≤ m ∧ Wj A' D' ∧ D ≤ D' ∧ y' < 2 ^ 31 ∧ (∀ j, s' = .inl j → D' ≤ 18200 - 20 * (d + 1) + 5) ∧ (∀ i', s' = .inr i' → ¬ (K i' = 2 ∨ K i' = 3 ∨ K i' = 14 ∨ K i' = 15) ∧ D' + 2 * P i ≤ D + 2 * P i' ∧ ∃ A2 c2, T' = .pow A2 c2 ∧ ¬ (c2 % 32 = 19 ∨ c2 % 32 = 0) ∧ RP P V (.inr i') A0 A' lo D' (nI y') T' ∧ wC (2 + 3 * (100 - d)) T') ∧ (∀ s2 T2, D41 K P V m tk tp tv d T' s' s2 T2 → D41 K P V m tk tp tv d (.pow A1 c1) (.inr i) s2 T2) := by
  intro n
  induction n using Nat.strongRecOn with
  | ind n ih =>
    intro i A D y A1 c1 hn hi hW hD hy hc hr hw
    have hs : ix (.inr i : Nat ⊕ Nat) ≤ m := hi
    have hPi := hP.2.2.1 i hi
    obtain ⟨yD, yp⟩ := rp_root hr (by omega) hc hy
    have g0 := m_isAtom (mp := mp) (P := P) (s := .inr i) hM hs
    by_cases q : K i = 2 ∨ K i = 3 ∨ K i = 14 ∨ K i = 15
    · have ia : iaS K (.inr i) = 1 := if_pos q
      rw [ia] at g0
      have c1' : (14 + 32 * (c1 / 32)) % 32 = 14 := by omega
      have c2' : (14 + 32 * (c1 / 32)) / 32 = c1 / 32 := by omega
      obtain ⟨o1, o2⟩ := on_pre (k := 14) (p := nI (P (c1 / 32))) (v := 0) (c := 14 + 32 * (c1 / 32)) (show D < 20000 by omega) (by rw [c1']; rfl) (by rw [c1', c2']; rfl) (by rw [c1']; rfl) hr rfl
      have g1 := m_draft (A := A) (D := D) (k := 14) (p := nI (P (c1 / 32))) (v := 0) (by omega)
      have w1 : Wj (dr A D 14 (nI (P (c1 / 32))) 0) (D + 1) := W_dr hW
      have g2 := m_join (o := D) (y := nI y) w1 (by omega) (by omega)
      have w2 := W_jn (o := D) (y := nI y) w1 (Or.inr ⟨y, by omega, rfl⟩)
      obtain ⟨s1, F1, A3, D3, v1, t1, t2, t3, t4, t5, t6⟩ := m_atom (A := jn (dr A D 14 (nI (P (c1 / 32))) 0) D (nI y)) (D := D + 1) h hM hV hP hd hT hi w2 (by omega) q
      have D3b : D3 ≤ 18300 := by
        cases s1 with
        | inl j => have a1 : D3 ≤ 18200 - 20 * (d + 1) + 5 := t5; omega
        | inr i1 => have a1 : D3 + 1 + 2 * P i ≤ D + 1 + 2 * P i1 := t5; have := hP.2.2.1 i1 t3; omega
      have tD := t4.2.1
      have g3 := m_join (o := D) (y := v1) t4.1 (by omega) (by omega)
      have w3 := W_jn (o := D) t4.1 t4.2.2.1
      have step : Mo_termS_b341 T ys mt mp ml (sA (.inr i)) (sB (.inr i)) (sF P (.inr i)) A.1 A.2.1 A.2.2.1 A.2.2.2.1 A.2.2.2.2.1 A.2.2.2.2.2 (nI D) (nI d) l2 l3 (nI y) = Mo_termS_b341 T ys mt mp ml (sA s1) (sB s1) (sF P s1) (jn A3 D v1).1 (jn A3 D v1).2.1 (jn A3 D v1).2.2.1 (jn A3 D v1).2.2.2.1 (jn A3 D v1).2.2.2.2.1 (jn A3 D v1).2.2.2.2.2 (nI D3) (nI d) l2 l3 (nI D) := by
        unfold Mo_termS_b341
        apply jl_step
        show Mo_termS_b341_s T ys mt mp ml (nI d) l2 l3 (sA (.inr i)) (sB (.inr i)) (sF P (.inr i)) A.1 A.2.1 A.2.2.1 A.2.2.2.1 A.2.2.2.2.1 A.2.2.2.2.2 (nI D) (nI y) = _
        unfold Mo_termS_b341_s
        rw [if_pos (show sB (.inr i) = 0 from rfl)]
        refine (jb_ok g0).trans ?_
        rw [if_neg (show ¬ (1 : Int32) = 0 by decide), if_neg (nI_in (c := y) (N := 20000) (by omega) (by omega)), nI_clamp hy, yp]
        exact (jb_ok g1).trans ((jb_ok g2).trans ((jb_ok t1).trans (jb_ok g3)))
      cases s1 with
      | inl j =>
        refine ⟨.inl j, .pow (.add (.pow A1 c1) F1) (14 + 32 * (c1 / 32)), jn A3 D v1, D3, D, ?_, t3, w3, by omega, by omega, fun _ _ => t5, (fun i' e => by cases e), fun s2 T2 k => e_atom h hP hd hi hc q t2 k⟩
        rw [step]
        have : ∃ z, Mo_termS_b397 T ys mt mp ml (sA (.inl j)) (sB (.inl j)) (sF P (.inl j)) (jn A3 D v1).1 (jn A3 D v1).2.1 (jn A3 D v1).2.2.1 (jn A3 D v1).2.2.2.1 (jn A3 D v1).2.2.2.2.1 (jn A3 D v1).2.2.2.2.2 (nI D3) (nI d) l2 l3 (nI D) = z := ⟨_, rfl⟩
        obtain ⟨z, hz⟩ := this
        rw [hz]
        unfold Mo_termS_b341
        refine jl_jm ?_
        show Mo_termS_b341_s T ys mt mp ml (nI d) l2 l3 (sA (.inl j)) (sB (.inl j)) (sF P (.inl j)) (jn A3 D v1).1 (jn A3 D v1).2.1 (jn A3 D v1).2.2.1 (jn A3 D v1).2.2.2.1 (jn A3 D v1).2.2.2.2.1 (jn A3 D v1).2.2.2.2.2 (nI D3) (nI D) = _
        unfold Mo_termS_b341_s
        rw [if_neg (show ¬ sB (.inl j) = 0 by show ¬ (1 : Int32) = 0; decide), hz]
      | inr i1 =>
        have a1 : D3 + 1 + 2 * P i ≤ D + 1 + 2 * P i1 := t5
        have hii : i < i1 := P_lt hP (by omega) hi
        have hi1 : i1 ≤ m := t3
        obtain ⟨p1, p2⟩ := on_rp (s' := .inr i1) rfl (by omega) o1 (fun z hz => by omega) (by omega) t4
        have hlo := hr.2.1
        have rp1 : RP P V (.inr i1) A0 (jn A3 D v1) lo D3 (nI D) (.pow (.add (.pow A1 c1) F1) (14 + 32 * (c1 / 32))) := rp_on p1 (fun z hz => by rcases hz with a | a; omega; omega) ⟨by omega, by omega⟩ w3 (fun z hz => eqA_tr (o2 z hz) (p2 z (by omega) (by omega) (by omega)))
        obtain ⟨s', T', A', D', y', k1, k2, k3, k4, k5, k6, k7, k8⟩ := ih (n - 1) (by omega) i1 (jn A3 D v1) D3 D (.add (.pow A1 c1) F1) (14 + 32 * (c1 / 32)) (by omega) hi1 w3 (by omega) (by omega) (by omega) rp1 (wT_app (by omega) hw (t6 i1 rfl))
        refine ⟨s', T', A', D', y', by rw [step]; exact k1, k2, k3, by omega, k5, k6, fun i' e => ?_, fun s2 T2 k => e_atom h hP hd hi hc q t2 (k8 s2 T2 k)⟩
        obtain ⟨b1, b2, b3⟩ := k7 i' e
        exact ⟨b1, by omega, b3⟩
    · have ia : iaS K (.inr i) = 0 := if_neg q
      rw [ia] at g0
      refine ⟨.inr i, .pow A1 c1, A, D, y, ?_, hs, hW, Nat.le_refl _, hy, (fun j e => by cases e), fun i' e => ?_, fun s2 T2 k => k⟩
      · have : ∃ z, Mo_termS_b397 T ys mt mp ml (sA (.inr i)) (sB (.inr i)) (sF P (.inr i)) A.1 A.2.1 A.2.2.1 A.2.2.2.1 A.2.2.2.2.1 A.2.2.2.2.2 (nI D) (nI d) l2 l3 (nI y) = z := ⟨_, rfl⟩
        obtain ⟨z, hz⟩ := this
        rw [hz]
        unfold Mo_termS_b341
        refine jl_jm ?_
        show Mo_termS_b341_s T ys mt mp ml (nI d) l2 l3 (sA (.inr i)) (sB (.inr i)) (sF P (.inr i)) A.1 A.2.1 A.2.2.1 A.2.2.2.1 A.2.2.2.2.1 A.2.2.2.2.2 (nI D) (nI y) = _
        unfold Mo_termS_b341_s
        rw [if_pos (show sB (.inr i) = 0 from rfl)]
        refine (jb_ok g0).trans ?_
        rw [if_pos (show (0 : Int32) = 0 from rfl), hz]
      · have e' : i = i' := Sum.inr.inj e
        subst e'
        exact ⟨q, Nat.le_refl _, A1, c1, rfl, hc, hr, hw⟩
end RF
