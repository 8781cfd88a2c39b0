-- the reference's members and groups
theorem jb_ok {α β : Type} {x : Option α} {o : α} {k : α → Option β} (h : x = some o) : jb x k = k o := by rw [h]; rfl
/-- forests that grow alike -/
def ev (F F' : Fo) : Prop := fp F = fp F' ∧ fs F = fs F' ∧ fn F = fn F'
theorem ev_rfl {F : Fo} : ev F F := ⟨rfl, rfl, rfl⟩
theorem ev_pow {F F' : Fo} {c : Nat} (h : ev F F') : ev (.pow F c) (.pow F' c) := ⟨by show (c, fs F + 1, fn F) :: fp F = (c, fs F' + 1, fn F') :: fp F'; rw [h.1, h.2.1, h.2.2], by show fs F + 1 = fs F' + 1; rw [h.2.1], rfl⟩
theorem ev_add {F F' G G' : Fo} (h : ev F F') (h' : ev G G') : ev (.add F G) (.add F' G') := ⟨by show fp G ++ fp F = fp G' ++ fp F'; rw [h.1, h'.1], by show fs F + fs G = fs F' + fs G'; rw [h.2.1, h'.2.1], by show fn F + fn G = fn F' + fn G'; rw [h.2.2, h'.2.2]⟩
theorem ev_tr {F F' F'' : Fo} (h : ev F F') (h' : ev F' F'') : ev F F'' := ⟨h.1.trans h'.1, h.2.1.trans h'.2.1, h.2.2.trans h'.2.2⟩
theorem ev_sy {F F' : Fo} (h : ev F F') : ev F' F := ⟨h.1.symm, h.2.1.symm, h.2.2.symm⟩
section RF
variable {K P V B : Nat → Nat} {m r d : Nat} {tk tp tv mt mp ml ys : Nat → Int32} {s s' : Nat ⊕ Nat} {A A' : AR} {D D' x c : Nat} {F F' : Fo}
theorem d_ev (h : ev F F') (hD : Dv K P V m tk tp tv r d s s' F) : Dv K P V m tk tp tv r d s s' F' := by
  cases s with
  | inl j =>
    cases s' with
    | inl j' => exact hD
    | inr i' => exact hD
  | inr i =>
    cases s' with
    | inl j' => exact hD
    | inr i' =>
      intro hi
      obtain ⟨⟨h1, h2, h3⟩, h4⟩ := hD hi
      refine ⟨⟨h1, by rw [← h.2.1]; exact h2, by rw [← h.2.1]; exact h3⟩, fun G w b l1 l2 l3 => ?_⟩
      rw [← h.1]
      exact h4 G w b l1 l2 l3
/-- what a call of the reference leaves that answers a root -/
def RP (P V : Nat → Nat) (s' : Nat ⊕ Nat) (A A' : AR) (D D' : Nat) (v : Int32) (F : Fo) : Prop := Wj A' D' ∧ D ≤ D' ∧ (v = -1 ∨ ∃ z, z < D' ∧ v = nI z) ∧ ∀ i', s' = .inr i' → (∀ x, x < D → eqA A A' x) ∧ fn F = 1 ∧ ∃ x, v = nI x ∧ x < D' ∧ D ≤ x ∧ ch P V A' F (fun z => D ≤ z ∧ z < D') (nI x) (-1) x
/-- room for drafts -/
def DR (P : Nat → Nat) (a b : Nat) (s : Nat ⊕ Nat) (D : Nat) : Prop := match s with
  | .inl _ => D ≤ b
  | .inr i => D ≤ 2 * P i + a
/-- how many drafts are new -/
def DN (P : Nat → Nat) (a q k : Nat) (s s' : Nat ⊕ Nat) (D D' : Nat) : Prop := match s, s' with
  | .inl _, _ => D' ≤ D + k
  | .inr _, .inl _ => D' ≤ q
  | .inr i, .inr i' => D' + 2 * P i ≤ D + 2 * P i' + a
/-- what is known of the reference's term, one level down -/
def TS (K P V : Nat → Nat) (m : Nat) (tk tp tv mt mp ml ys : Nat → Int32) (T : (Nat → Int32) → (Nat → Int32) → (Nat → Int32) → (Nat → Int32) → Int32 → Int32 → Int32 → (Nat → Int32) → (Nat → Int32) → (Nat → Int32) → (Nat → Int32) → (Nat → Int32) → (Nat → Int32) → Int32 → Int32 → Option (Int32 × Int32 × Int32 × Int32 × (Nat → Int32) × (Nat → Int32) × (Nat → Int32) × (Nat → Int32) × (Nat → Int32) × (Nat → Int32) × Int32)) (d : Nat) : Prop := ∀ (s : Nat ⊕ Nat) (A : AR) (D : Nat), ix s ≤ m → Wj A D → DR P 8 19900 s D → ∃ (s' : Nat ⊕ Nat) (F : Fo) (A' : AR) (D' : Nat) (v : Int32), T ys mt mp ml (sA s) (sB s) (sF P s) A.1 A.2.1 A.2.2.1 A.2.2.2.1 A.2.2.2.2.1 A.2.2.2.2.2 (nI D) (nI (d + 1)) = some (v, sA s', sB s', sF P s', A'.1, A'.2.1, A'.2.2.1, A'.2.2.2.1, A'.2.2.2.2.1, A'.2.2.2.2.2, nI D') ∧ Dv K P V m tk tp tv 38 d s s' F ∧ (TT s' F ∧ ∀ i', s' = .inr i' → wT (1 + 3 * (100 - d)) F) ∧ ix s' ≤ m ∧ RP P V s' A A' D D' v F ∧ DN P 0 (18200 - 20 * (d + 1)) 1 s s' D D'
theorem dr_lt (hP : HP K P m) (hs : ix s ≤ m) {a b : Nat} (ha : a ≤ 100) (hb : b ≤ 19990) (h : DR P a b s D) : D < 19999 := by
  cases s with
  | inl j => have : D ≤ b := h; omega
  | inr i => have h1 : D ≤ 2 * P i + a := h; have := hP.2.2.1 i hs; omega
/-- a leaf -/
theorem rp_leaf {k p v : Int32} (h1 : k = nI (c % 32)) (h2 : p = (if c % 32 = 19 ∨ c % 32 = 0 then -1 else nI (P (c / 32)))) (h3 : v = (if c % 32 = 9 ∨ c % 32 = 16 then nI (c / 32) else if c % 32 = 17 then nI (V (c / 32)) else 0)) (hW : Wj A D) : RP P V s' A (dr A D k p v) D (D + 1) (nI D) (.pow (.num 0) c) := by
  refine ⟨W_dr hW, by omega, Or.inr ⟨D, by omega, rfl⟩, fun i' _ => ⟨fun x hx => eqA_dr hx, rfl, D, rfl, by omega, by omega, ?_⟩⟩
  exact ch_mono _ _ _ _ _ _ (on_close (on_new (A := A) (D := D) h1 h2 h3)) (fun z hz => by rcases hz with q | q; exact absurd q id; omega)
theorem m_told {T : (Nat → Int32) → (Nat → Int32) → (Nat → Int32) → (Nat → Int32) → Int32 → Int32 → Int32 → (Nat → Int32) → (Nat → Int32) → (Nat → Int32) → (Nat → Int32) → (Nat → Int32) → (Nat → Int32) → Int32 → Int32 → Option (Int32 × Int32 × Int32 × Int32 × (Nat → Int32) × (Nat → Int32) × (Nat → Int32) × (Nat → Int32) × (Nat → Int32) × (Nat → Int32) × Int32)} (h : HT K P V m tk tp tv) (hM : HM K P m mt mp) (hP : HP K P m) (hd : d ≤ 100) (hT : TS K P V m tk tp tv mt mp ml ys T d) (hs : ix s ≤ m) (hW : Wj A D) (hD : DR P 8 19900 s D) : ∃ (s' : Nat ⊕ Nat) (F : Fo) (A' : AR) (D' : Nat) (v : Int32), f_Mo_told T ys mt mp ml (sA s) (sB s) (sF P s) A.1 A.2.1 A.2.2.1 A.2.2.2.1 A.2.2.2.2.1 A.2.2.2.2.2 (nI D) (nI (d + 1)) = some (v, sA s', sB s', sF P s', A'.1, A'.2.1, A'.2.2.1, A'.2.2.2.1, A'.2.2.2.2.1, A'.2.2.2.2.2, nI D') ∧ Dv K P V m tk tp tv 36 d s s' F ∧ ix s' ≤ m ∧ RP P V s' A A' D D' v F ∧ DN P 1 (18200 - 20 * (d + 1)) 1 s s' D D' ∧ (∀ i', s' = .inr i' → wN (1 + 3 * (100 - d)) F) := by
  have hlt := dr_lt hP hs (by omega) (by omega) hD
  have no : ¬ lk K s = 6 → f_Mo_told T ys mt mp ml (sA s) (sB s) (sF P s) A.1 A.2.1 A.2.2.1 A.2.2.2.1 A.2.2.2.2.1 A.2.2.2.2.2 (nI D) (nI (d + 1)) = some (nI D, sA s, sB s, sF P s, (dr A D 19 (-1) 0).1, (dr A D 19 (-1) 0).2.1, (dr A D 19 (-1) 0).2.2.1, (dr A D 19 (-1) 0).2.2.2.1, (dr A D 19 (-1) 0).2.2.2.2.1, (dr A D 19 (-1) 0).2.2.2.2.2, nI (D + 1)) := by
    intro q
    unfold f_Mo_told
    rw [m_look hM hs, jb_some, if_neg q, m_draft (by omega), jb_some]
  cases s with
  | inl j => exact ⟨.inl j, .num 0, _, _, _, no (lk_bad (r := 17) (by omega) (by omega)), rfl, hs, ⟨W_dr hW, by omega, Or.inr ⟨D, by omega, rfl⟩, fun i' e => by cases e⟩, Nat.le_refl _, fun i' e => by cases e⟩
  | inr i =>
    have hi : i ≤ m := hs
    by_cases q : K i = 17
    · have him := lt_m hP hi (by omega)
      have hp := (hP.1 i him).1
      have e : tokS K 17 (.inr i) = .inr (i + 1) := if_pos q
      have hD' : D ≤ 2 * P i + 8 := hD
      obtain ⟨s', F, A', D', v, g1, g2, g3, g4, g5, g6⟩ := hT (.inr (i + 1)) A D him hW (by show D ≤ 2 * P (i + 1) + 8; omega)
      have tk' := m_take (r := 17) (s := .inr i) hM hs (by omega) (by omega)
      rw [e] at tk'
      refine ⟨s', F, A', D', v, ?_, d_type h hP hd hi q g2, g4, g5, ?_, fun i' e => wT_N (g3.2 i' e)⟩
      · unfold f_Mo_told
        rw [m_look hM hs, jb_some, if_pos (show lk K (.inr i) = 6 from lk_eq (r := 17) hM (by omega) q), show f_Mo_take mt mp (sA (.inr i)) (sB (.inr i)) (sF P (.inr i)) 6 = _ from tk', jb_some]
        exact (jb_ok g1)
      · cases s' with
        | inl j => exact g6
        | inr i' =>
          have g6' : D' + 2 * P (i + 1) ≤ D + 2 * P i' + 0 := g6
          show D' + 2 * P i ≤ D + 2 * P i' + 1
          omega
    · refine ⟨.inr i, .pow (.num 0) 19, _, _, _, no (lk_ne (r := 17) hM (by omega) q), d_none36 h hP hd hi q, hs, rp_leaf rfl (by rw [if_pos (by decide)]) (by rw [if_neg (by decide), if_neg (by decide)]) hW, ?_, fun _ _ => wN_leaf (by omega) (by omega)⟩
      show D + 1 + 2 * P i ≤ D + 2 * P i + 1
      omega
/-- a part joined to a node: the node and all below stand -/
theorem on_rp {R : Nat → Prop} {H : Fo} {v : Int32} {i' : Nat} (hs : s' = .inr i') (hD' : D' ≤ 20000) (hO : ON P V A R x c H) (hR : ∀ z, R z → z < D) (hx : x < D) (hp : RP P V s' A A' D D' v F) : ON P V (jn A' x v) (fun z => R z ∨ (D ≤ z ∧ z < D')) x c (.add H F) ∧ (∀ z, z < D → z ≠ x → ¬ R z → eqA A (jn A' x v) z) := by
  obtain ⟨_, h1, _, h2⟩ := hp
  obtain ⟨h3, h4, y, h5, h6, h7, h8⟩ := h2 i' hs
  have hO' : ON P V A' R x c H := on_fr hO (h3 x hx) (fun z hz => h3 z (hR z hz))
  have hpart : ∀ z, D ≤ z → eqA A' (jn A' x v) z := by
    intro z hz
    obtain ⟨_, _, _, l, c4, c5, c6⟩ := hO'
    by_cases qy : v = -1
    · rw [jn_m qy]; exact eqA_rfl
    by_cases q2 : A'.2.2.2.1 x = -1
    · rw [jn_f qy q2]
      exact ⟨rfl, rfl, rfl, pk_un (by omega), pk_un (by omega), rfl⟩
    · rw [jn_n qy q2]
      by_cases q : fn H = 0
      · exact absurd (c5 q) q2
      · obtain ⟨_, c7⟩ := c6 (by omega)
        have hl := hR l (ch_in H _ _ _ _ c4 (by omega))
        refine ⟨rfl, rfl, rfl, rfl, pk_un (by omega), ?_⟩
        show upd A'.2.2.2.2.2 (A'.2.2.2.2.1 x).toNatClampNeg v z = A'.2.2.2.2.2 z
        rw [c7, nI_clamp (by omega)]
        exact pk_un (by omega)
  constructor
  · have := on_join (A := A') (A' := jn A' x v) (R2 := fun z => D ≤ z ∧ z < D') (y := y) (T := F) (fun z hz => by have := hR z hz; omega) hO' h4 (by omega) (fun z hz => by have := hR z hz; omega) (fun z _ => by rw [h5]; exact eqA_rfl) (by omega) (ch_fr F _ _ _ _ h8 (fun z hz => hpart z hz.1))
    exact this
  · intro z hz hzx hzR
    refine eqA_tr (h3 z hz) ?_
    obtain ⟨_, _, _, l, c4, c5, c6⟩ := hO'
    by_cases qy : v = -1
    · rw [jn_m qy]; exact eqA_rfl
    by_cases q2 : A'.2.2.2.1 x = -1
    · rw [jn_f qy q2]
      exact ⟨rfl, rfl, rfl, pk_un hzx, pk_un hzx, rfl⟩
    · rw [jn_n qy q2]
      by_cases q : fn H = 0
      · exact absurd (c5 q) q2
      · obtain ⟨_, c7⟩ := c6 (by omega)
        have hl := ch_in H _ _ _ _ c4 (by omega)
        have hlD := hR l hl
        refine ⟨rfl, rfl, rfl, rfl, pk_un hzx, ?_⟩
        show upd A'.2.2.2.2.2 (A'.2.2.2.2.1 x).toNatClampNeg v z = A'.2.2.2.2.2 z
        rw [c7, nI_clamp (by omega)]
        exact pk_un (fun e => hzR (by rw [e]; exact hl))
end RF
