-- the reference keeps a forest
def KR (P V Wd B : Nat → Nat) (t n : Nat) (F : Fo) (w : Int32) (T : TBt) (L : List Nat) (tk tw tv th ts tc tk' tw' tv' th' ts' tc' : Nat → Int32) : Prop :=
  pr P (fun k => tk' (9000 * t + k)) (fun k => tw' (9000 * t + k)) (fun k => ts' (9000 * t + k)) (fun k => th' (9000 * t + k)) F n w ∧ pv P V Wd B (fun k => tv' (9000 * t + k)) F n T ∧ tc' t = nI (n + fs F) ∧ (∀ z, z ≠ t → tc' z = tc z) ∧ (∀ z, z < 9000 * t + n ∨ 9000 * t + n + fs F ≤ z → tk' z = tk z ∧ tw' z = tw z ∧ tv' z = tv z ∧ th' z = th z ∧ (¬ z ∈ L → ts' z = ts z) ∧ (z ∈ L → ts' z = ts z + nI (fs F)))
section KP
variable {K P V Wd B : Nat → Nat} {m nb t : Nat} {ys mp ml : Nat → Int32} {size : Int32} {A : AR}
theorem fs_0 (F : Fo) : fn F = 0 → fs F = 0 := by
  induction F with
  | add X Y hX hY =>
    intro h
    have h' : fn X + fn Y = 0 := h
    show fs X + fs Y = 0
    rw [hX (by omega), hY (by omega)]
  | pow X c hX => intro h; exact absurd h (by show ¬ 1 = 0; omega)
  | _ => intro _; rfl
theorem nt_0 (F : Fo) : ∀ T, fn F = 0 → ntT P Wd B F T = T := by
  induction F with
  | add X Y hX hY =>
    intro T h
    have h' : fn X + fn Y = 0 := h
    show ntT P Wd B Y (ntT P Wd B X T) = T
    rw [hX T (by omega), hY T (by omega)]
  | pow X c hX => intro T h; exact absurd h (by show ¬ 1 = 0; omega)
  | _ => intro T _; rfl
theorem pr_0 {ck cp cs cw : Nat → Int32} (F : Fo) : ∀ p w, fn F = 0 → pr P ck cp cs cw F p w := by
  induction F with
  | add X Y hX hY =>
    intro p w h
    have h' : fn X + fn Y = 0 := h
    exact ⟨hX p w (by omega), hY _ w (by omega)⟩
  | pow X c hX => intro p w h; exact absurd h (by show ¬ 1 = 0; omega)
  | _ => intro p w _; exact True.intro
theorem pv_0 {cv : Nat → Int32} (F : Fo) : ∀ p T, fn F = 0 → pv P V Wd B cv F p T := by
  induction F with
  | add X Y hX hY =>
    intro p T h
    have h' : fn X + fn Y = 0 := h
    exact ⟨hX p T (by omega), hY _ _ (by omega)⟩
  | pow X c hX => intro p T h; exact absurd h (by show ¬ 1 = 0; omega)
  | _ => intro p T _; exact True.intro
theorem ch_st (F : Fo) : ∀ (R : Nat → Prop) (p q : Int32) (l : Nat), ch P V A F R p q l → 0 < fn F → ∃ x, R x ∧ p = nI x := by
  induction F with
  | add X Y hX hY =>
    intro R p q l h hn
    obtain ⟨R1, R2, r, l1, l2, a, b, c, h1, h2, e⟩ := h
    have hn' : 0 < fn X + fn Y := hn
    rcases Nat.eq_zero_or_pos (fn X) with q0 | q0
    · have e1 := ch_0 X _ _ _ _ h1 q0
      obtain ⟨x, x1, x2⟩ := hY _ _ _ _ h2 (by omega)
      exact ⟨x, b x x1, e1.trans x2⟩
    · obtain ⟨x, x1, x2⟩ := hX _ _ _ _ h1 q0
      exact ⟨x, a x x1, x2⟩
  | pow X c hX => intro R p q l h hn; exact ⟨l, h.2.1, h.1⟩
  | _ => intro R p q l h hn; exact absurd hn (by show ¬ 0 < 0; omega)
def nkF (K : Nat → Nat) (m : Nat) (F : Fo) : Prop := ∀ x, x ∈ fp F → nkE K m x
theorem nk_add {X Y : Fo} (h : nkF K m (.add X Y)) : nkF K m X ∧ nkF K m Y := ⟨fun x hx => h x (List.mem_append_right _ hx), fun x hx => h x (List.mem_append_left _ hx)⟩
theorem nk_pow {X : Fo} {c : Nat} (h : nkF K m (.pow X c)) : ((c % 32 = 9 ∨ c % 32 = 16) → c / 32 ≤ m ∧ K (c / 32) = 2) ∧ nkF K m X := ⟨fun q => ⟨Nat.le_of_lt ((h (c, fs X + 1, fn X) (List.mem_cons.mpr (Or.inl rfl))).1 q).1, ((h (c, fs X + 1, fn X) (List.mem_cons.mpr (Or.inl rfl))).1 q).2⟩, fun x hx => h x (List.mem_cons.mpr (Or.inr hx))⟩
/-- what keeping a forest does -/
def KF (K P V Wd B : Nat → Nat) (m nb t r : Nat) (ys mp ml : Nat → Int32) (A : AR) (F : Fo) : Prop := ∀ (R : Nat → Prop) (p q : Int32) (l0 n : Nat) (w : Int32) (T : TBt) (S : List (Int32 × Int32)) (l : List Nat) (pile tk tw tv th ts tc mle mst : Nat → Int32), ch P V A F R p q l0 → 0 < fn F → (∀ x, R x → x < 20000 ∧ x ≠ r) → nkF K m F → rmT P V Wd B nb F T → TB T.1 T.2.1 T.2.2 → RNr mle mst T.1 T.2.1 T.2.2 → tc t = nI n → n + fs F ≤ 8999 → pth th t n w l → PLs pile S → S.length + fs F ≤ 9500 →
  ∃ pile' tk' tw' tv' th' ts' tc' mle' mst' l3 l4 l5, jl (Mo_keep_b8_b ys mp ml A.1 A.2.1 A.2.2.1 A.2.2.2.1 A.2.2.2.2.2 (nI t) (nI r)) (pile, tk, tw, tv, th, ts, tc, mle, mst, nI T.1, nI (2 * S.length), p, w) = jl (Mo_keep_b8_b ys mp ml A.1 A.2.1 A.2.2.1 A.2.2.2.1 A.2.2.2.2.2 (nI t) (nI r)) (pile', tk', tw', tv', th', ts', tc', mle', mst', nI (ntT P Wd B F T).1, l3, l4, l5) ∧ POP pile' (psh q w S) l3 l4 l5 ∧ KR P V Wd B t n F w T (lsT t l) tk tw tv th ts tc tk' tw' tv' th' ts' tc' ∧ RNr mle' mst' (ntT P Wd B F T).1 (ntT P Wd B F T).2.1 (ntT P Wd B F T).2.2
/-- a node, once its parts are known -/
theorem k_node {r : Nat} (hr : r < 20000) (hnb : nb ≤ 8000) (hM : RM ys size B nb) (hW : HW K P Wd m mp ml) (ht : t < 2) {X : Fo} {c : Nat} (hX : KF K P V Wd B m nb t r ys mp ml A X) (R : Nat → Prop) (p q : Int32) (l0 n : Nat) (w : Int32) (T : TBt) (S : List (Int32 × Int32)) (l : List Nat) (pile tk tw tv th ts tc mle mst : Nat → Int32) (h : ch P V A (.pow X c) R p q l0) (hR2 : ∀ x, R x → x < 20000 ∧ (x = l0 ∨ x ≠ r)) (hq : q = -1 ∨ l0 ≠ r) (hnk : nkF K m (.pow X c)) (hrm : rmT P V Wd B nb (.pow X c) T) (hT : TB T.1 T.2.1 T.2.2) (hR : RNr mle mst T.1 T.2.1 T.2.2) (hc : tc t = nI n) (hn : n + (fs X + 1) ≤ 8999) (hp : pth th t n w l) (hS : PLs pile S) (hl : S.length + (fs X + 1) ≤ 9500) :
  ∃ pile' tk' tw' tv' th' ts' tc' mle' mst' l3 l4 l5, jl (Mo_keep_b8_b ys mp ml A.1 A.2.1 A.2.2.1 A.2.2.2.1 A.2.2.2.2.2 (nI t) (nI r)) (pile, tk, tw, tv, th, ts, tc, mle, mst, nI T.1, nI (2 * S.length), p, w) = jl (Mo_keep_b8_b ys mp ml A.1 A.2.1 A.2.2.1 A.2.2.2.1 A.2.2.2.2.2 (nI t) (nI r)) (pile', tk', tw', tv', th', ts', tc', mle', mst', nI (ntT P Wd B (.pow X c) T).1, l3, l4, l5) ∧ POP pile' (psh q w S) l3 l4 l5 ∧ KR P V Wd B t n (.pow X c) w T (lsT t l) tk tw tv th ts tc tk' tw' tv' th' ts' tc' ∧ RNr mle' mst' (ntT P Wd B (.pow X c) T).1 (ntT P Wd B (.pow X c) T).2.1 (ntT P Wd B (.pow X c) T).2.2 := by
  obtain ⟨e1, hl0, hd, e2, l1, h1⟩ := h
  subst e1
  obtain ⟨nk1, nk2⟩ := nk_pow hnk
  obtain ⟨rm1, rm2⟩ := hrm
  have hlt := pth_lt l n w hp
  have inL : ∀ z, z ∈ lsT t l → z < 9000 * t + n := fun z hz => by
    obtain ⟨y, y1, y2⟩ := ls_mem.mp hz
    have := hlt y y1
    omega
  obtain ⟨pile1, ts1, mle1, mst1, l3, l4, l5, s1, s2, s3, s4, s5, s6, s7⟩ := kn_step (tk := tk) (tw := tw) (tv := tv) (ts := ts) hnb hM hW ht hc (show n < 9000 by omega) hp (hR2 l0 hl0).1 hr hd e2 hq hS (by omega) nk1 rm1 hT hR
  rcases Nat.eq_zero_or_pos (fn X) with q0 | q0
  · -- a leaf
    have f0 := ch_0 X _ _ _ _ h1 q0
    have fx := fs_0 X q0
    have en : ntT P Wd B (.pow X c) T = nlT P Wd B c T := nt_0 X _ q0
    rw [en]
    refine ⟨pile1, _, _, _, _, ts1, _, mle1, mst1, l3, l4, l5, jl_step s1, s7 f0, ⟨⟨pk_us, pk_us, ?_, pk_us, pr_0 X _ _ q0⟩, ⟨pk_us, pv_0 X _ _ q0⟩, ?_, fun z hz => pk_un hz, fun z hz => ?_⟩, s2⟩
    · show ts1 (9000 * t + n) = nI (fs X + 1)
      rw [s3, fx]; rfl
    · show upd tc t (nI (n + 1)) t = nI (n + (fs X + 1))
      rw [fx]; exact pk_us
    · have hz' : z < 9000 * t + n ∨ 9000 * t + n + (fs X + 1) ≤ z := hz
      refine ⟨pk_un (by omega), pk_un (by omega), pk_un (by omega), pk_un (by omega), fun m => s4 z (by omega) m, fun m => ?_⟩
      show ts1 z = ts z + nI (fs X + 1)
      rw [s5 z m, fx]; rfl
  · -- with parts
    obtain ⟨y, y1, y2⟩ := ch_st X _ _ _ _ h1 q0
    have ny : A.2.2.2.1 l0 ≠ -1 := by rw [y2]; exact nI_m1 (by have := (hR2 y y1.1).1; omega)
    obtain ⟨c3, c4, c5, c6⟩ := s6 ny
    have lenS : (psh q w S).length ≤ S.length + 1 := by
      unfold psh
      split
      · omega
      · show S.length + 1 ≤ S.length + 1; omega
    obtain ⟨pile', tk', tw', tv', th', ts', tc', mle', mst', l3', l4', l5', r1, r2, ⟨r3, r4, r5, r6, r7⟩, r8⟩ := hX (fun z => R z ∧ z ≠ l0) (A.2.2.2.1 l0) (-1) l1 (n + 1) (nI n) (nlT P Wd B c T) (psh q w S) (n :: l) pile1 (upd tk (9000 * t + n) (nI (c % 32))) (upd tw (9000 * t + n) (plc P c)) (upd tv (9000 * t + n) (nvT P V Wd B c T)) (upd th (9000 * t + n) w) ts1 (upd tc t (nI (n + 1))) mle1 mst1 h1 q0 (fun z hz => ⟨(hR2 z hz.1).1, (hR2 z hz.1).2.resolve_left hz.2⟩) nk2 rm2 (TB_nl hT rm1) s2 pk_us (by omega) ⟨rfl, by omega, by rw [pk_us]; exact pth_fr l n w hp (fun z hz => pk_un (by omega))⟩ c6 (by omega)
    have em : psh (-1) (nI n) (psh q w S) = psh q w S := if_pos rfl
    rw [em] at r2
    have hcons : ∀ z, z ∈ lsT t (n :: l) ↔ z = 9000 * t + n ∨ z ∈ lsT t l := by
      intro z
      rw [ls_mem, ls_mem]
      constructor
      · rintro ⟨a, a1, a2⟩
        rcases List.mem_cons.mp a1 with e | e
        · left; rw [a2, e]
        · right; exact ⟨a, e, a2⟩
      · rintro (e | ⟨a, a1, a2⟩)
        · exact ⟨n, List.mem_cons.mpr (Or.inl rfl), e⟩
        · exact ⟨a, List.mem_cons.mpr (Or.inr a1), a2⟩
    have fn' := r7 (9000 * t + n) (by omega)
    refine ⟨pile', tk', tw', tv', th', ts', tc', mle', mst', l3', l4', l5', ?_, r2, ⟨⟨fn'.1.trans pk_us, fn'.2.1.trans pk_us, ?_, fn'.2.2.2.1.trans pk_us, r3⟩, ⟨fn'.2.2.1.trans pk_us, r4⟩, ?_, ?_, fun z hz => ?_⟩, r8⟩
    · refine (jl_step s1).trans ?_
      rw [c3, c4, c5]
      exact r1
    · show ts' (9000 * t + n) = nI (fs X + 1)
      rw [fn'.2.2.2.2.2 ((hcons _).mpr (Or.inl rfl)), s3]
      have := nI_add 1 (fs X)
      rw [Nat.add_comm]
      exact this
    · show tc' t = nI (n + (fs X + 1))
      rw [r5, show n + 1 + fs X = n + (fs X + 1) by omega]
    · intro z hz; rw [r6 z hz]; exact pk_un hz
    · have hz' : z < 9000 * t + n ∨ 9000 * t + n + (fs X + 1) ≤ z := hz
      have g := r7 z (by omega)
      refine ⟨g.1.trans (pk_un (by omega)), g.2.1.trans (pk_un (by omega)), g.2.2.1.trans (pk_un (by omega)), g.2.2.2.1.trans (pk_un (by omega)), fun mm => ?_, fun mm => ?_⟩
      · rw [g.2.2.2.2.1 (fun a => by rcases (hcons z).mp a with a | a; omega; exact mm a)]
        exact s4 z (by omega) mm
      · show ts' z = ts z + nI (fs X + 1)
        rw [g.2.2.2.2.2 ((hcons z).mpr (Or.inr mm)), s5 z mm, Int32.add_assoc]
        have := nI_add 1 (fs X)
        rw [Nat.add_comm (fs X) 1, ← this]
        rfl
theorem k_for {r : Nat} (hr : r < 20000) (hnb : nb ≤ 8000) (hM : RM ys size B nb) (hW : HW K P Wd m mp ml) (ht : t < 2) (F : Fo) : KF K P V Wd B m nb t r ys mp ml A F := by
  induction F with
  | add X Y hX hY =>
    intro R p q l0 n w T S l pile tk tw tv th ts tc mle mst h hf hR2 hnk hrm hT hR hc hn hp hS hl
    obtain ⟨R1, R2, r', l1, l2, a, b, cc, h1, h2, e⟩ := h
    obtain ⟨nk1, nk2⟩ := nk_add hnk
    obtain ⟨rm1, rm2⟩ := hrm
    have hf' : 0 < fn X + fn Y := hf
    have hn' : n + (fs X + fs Y) ≤ 8999 := hn
    have hl' : S.length + (fs X + fs Y) ≤ 9500 := hl
    have hlt := pth_lt l n w hp
    have inL : ∀ z, z ∈ lsT t l → z < 9000 * t + n := fun z hz => by
      obtain ⟨y, y1, y2⟩ := ls_mem.mp hz
      have := hlt y y1
      omega
    rcases Nat.eq_zero_or_pos (fn X) with q0 | q0
    · have fx := fs_0 X q0
      have e1 := ch_0 X _ _ _ _ h1 q0
      have en : ntT P Wd B X T = T := nt_0 X T q0
      rw [en] at rm2
      obtain ⟨pile', tk', tw', tv', th', ts', tc', mle', mst', l3', l4', l5', k1, k2, ⟨k3, k4, k5, k6, k7⟩, k8⟩ := hY R2 r' q l2 n w T S l pile tk tw tv th ts tc mle mst h2 (by omega) (fun x hx => hR2 x (b x hx)) nk2 rm2 hT hR hc (by omega) hp hS (by omega)
      have et : ntT P Wd B (.add X Y) T = ntT P Wd B Y T := by show ntT P Wd B Y (ntT P Wd B X T) = _; rw [en]
      refine ⟨pile', tk', tw', tv', th', ts', tc', mle', mst', l3', l4', l5', by rw [et, e1]; exact k1, k2, ⟨⟨pr_0 X _ _ q0, ?_⟩, ⟨pv_0 X _ _ q0, ?_⟩, ?_, k6, ?_⟩, by rw [et]; exact k8⟩
      · rw [fx]; exact k3
      · rw [fx, en]; exact k4
      · show tc' t = nI (n + (fs X + fs Y)); rw [fx, Nat.zero_add]; exact k5
      · show ∀ z, z < 9000 * t + n ∨ 9000 * t + n + (fs X + fs Y) ≤ z → tk' z = tk z ∧ tw' z = tw z ∧ tv' z = tv z ∧ th' z = th z ∧ (¬ z ∈ lsT t l → ts' z = ts z) ∧ (z ∈ lsT t l → ts' z = ts z + nI (fs X + fs Y))
        rw [fx, Nat.zero_add]; exact k7
    · rcases Nat.eq_zero_or_pos (fn Y) with q1 | q1
      · have fy := fs_0 Y q1
        have e1 := ch_0 Y _ _ _ _ h2 q1
        subst e1
        obtain ⟨pile', tk', tw', tv', th', ts', tc', mle', mst', l3', l4', l5', k1, k2, ⟨k3, k4, k5, k6, k7⟩, k8⟩ := hX R1 p r' l1 n w T S l pile tk tw tv th ts tc mle mst h1 q0 (fun x hx => hR2 x (a x hx)) nk1 rm1 hT hR hc (by omega) hp hS (by omega)
        have et : ntT P Wd B (.add X Y) T = ntT P Wd B X T := nt_0 Y _ q1
        refine ⟨pile', tk', tw', tv', th', ts', tc', mle', mst', l3', l4', l5', by rw [et]; exact k1, k2, ⟨⟨k3, pr_0 Y _ _ q1⟩, ⟨k4, pv_0 Y _ _ q1⟩, ?_, k6, ?_⟩, by rw [et]; exact k8⟩
        · show tc' t = nI (n + (fs X + fs Y)); rw [fy]; exact k5
        · show ∀ z, z < 9000 * t + n ∨ 9000 * t + n + (fs X + fs Y) ≤ z → tk' z = tk z ∧ tw' z = tw z ∧ tv' z = tv z ∧ th' z = th z ∧ (¬ z ∈ lsT t l → ts' z = ts z) ∧ (z ∈ lsT t l → ts' z = ts z + nI (fs X + fs Y))
          rw [fy]; exact k7
      · obtain ⟨y, y1, y2⟩ := ch_st Y _ _ _ _ h2 q1
        have nr : ¬ r' = -1 := by rw [y2]; exact nI_m1 (by have := (hR2 y (b y y1)).1; omega)
        obtain ⟨pile1, tk1, tw1, tv1, th1, ts1, tc1, mle1, mst1, l3, l4, l5, k1, k2, ⟨k3, k4, k5, k6, k7⟩, k8⟩ := hX R1 p r' l1 n w T S l pile tk tw tv th ts tc mle mst h1 q0 (fun x hx => hR2 x (a x hx)) nk1 rm1 hT hR hc (by omega) hp hS (by omega)
        have ep : psh r' w S = (r', w) :: S := if_neg nr
        rw [ep] at k2
        obtain ⟨c3, c4, c5, c6⟩ := k2
        have hp1 : pth th1 t (n + fs X) w l := pth_w l n _ w (pth_fr l n w hp (fun z hz => (k7 (9000 * t + z) (by omega)).2.2.2.1)) (by omega)
        obtain ⟨pile', tk', tw', tv', th', ts', tc', mle', mst', l3', l4', l5', j1, j2, ⟨j3, j4, j5, j6, j7⟩, j8⟩ := hY R2 r' q l2 (n + fs X) w (ntT P Wd B X T) S l pile1 tk1 tw1 tv1 th1 ts1 tc1 mle1 mst1 h2 q1 (fun x hx => hR2 x (b x hx)) nk2 rm2 (TB_nt X T hT rm1) k8 k5 (by omega) hp1 c6 (by omega)
        refine ⟨pile', tk', tw', tv', th', ts', tc', mle', mst', l3', l4', l5', ?_, j2, ⟨⟨pr_fr X _ _ k3 (fun z z1 z2 => ?_), j3⟩, ⟨pv_fr X _ _ k4 (fun z z1 z2 => (j7 (9000 * t + z) (by omega)).2.2.1), j4⟩, ?_, ?_, fun z hz => ?_⟩, j8⟩
        · refine k1.trans ?_
          rw [c3, c4, c5]
          exact j1
        · have g := j7 (9000 * t + z) (by omega)
          exact ⟨g.1, g.2.1, g.2.2.2.2.1 (fun mm => by have := inL _ mm; omega), g.2.2.2.1⟩
        · show tc' t = nI (n + (fs X + fs Y)); rw [j5, Nat.add_assoc]
        · intro z hz; rw [j6 z hz, k6 z hz]
        · have hz' : z < 9000 * t + n ∨ 9000 * t + n + (fs X + fs Y) ≤ z := hz
          have g := j7 z (by omega)
          have g' := k7 z (by omega)
          refine ⟨g.1.trans g'.1, g.2.1.trans g'.2.1, g.2.2.1.trans g'.2.2.1, g.2.2.2.1.trans g'.2.2.2.1, fun mm => (g.2.2.2.2.1 mm).trans (g'.2.2.2.2.1 mm), fun mm => ?_⟩
          show ts' z = ts z + nI (fs X + fs Y)
          rw [g.2.2.2.2.2 mm, g'.2.2.2.2.2 mm, Int32.add_assoc, nI_add]
  | pow X c hX =>
    intro R p q l0 n w T S l pile tk tw tv th ts tc mle mst h hf hR2 hnk hrm hT hR hc hn hp hS hl
    exact k_node hr hnb hM hW ht hX R p q l0 n w T S l pile tk tw tv th ts tc mle mst h (fun x hx => ⟨(hR2 x hx).1, Or.inr (hR2 x hx).2⟩) (Or.inr (hR2 l0 h.2.1).2) hnk hrm hT hR hc hn hp hS hl
  | _ => intro R p q l0 n w T S l pile tk tw tv th ts tc mle mst h hf; exact absurd hf (by show ¬ 0 < 0; omega)
/-- a declaration that was read is kept -/
theorem m_keep (hnb : nb ≤ 8000) (hM : RM ys size B nb) (hW : HW K P Wd m mp ml) (ht : t < 2) {X : Fo} {c n D : Nat} {T : TBt} {pile tk tw tv th ts tc mle mst : Nat → Int32} (h : ch P V A (.pow X c) (fun z => z < D) (nI 0) (-1) 0) (hD : D ≤ 20000) (hnk : nkF K m (.pow X c)) (hrm : rmT P V Wd B nb (.pow X c) T) (hT : TB T.1 T.2.1 T.2.2) (hR : RNr mle mst T.1 T.2.1 T.2.2) (hc : tc t = nI n) (h0 : 0 < n) (hn : n + (fs X + 1) ≤ 8999) (hw : th (9000 * t) = -1) : ∃ pile' tk' tw' tv' th' ts' tc' mle' mst', f_Mo_keep ys mp ml A.1 A.2.1 A.2.2.1 A.2.2.2.1 A.2.2.2.2.2 pile tk tw tv th ts tc mle mst (nI T.1) (nI t) (nI 0) = some (pile', tk', tw', tv', th', ts', tc', mle', mst', nI (ntT P Wd B (.pow X c) T).1) ∧ KR P V Wd B t n (.pow X c) (nI 0) T (lsT t [0]) tk tw tv th ts tc tk' tw' tv' th' ts' tc' ∧ RNr mle' mst' (ntT P Wd B (.pow X c) T).1 (ntT P Wd B (.pow X c) T).2.1 (ntT P Wd B (.pow X c) T).2.2 := by
  obtain ⟨pile', tk', tw', tv', th', ts', tc', mle', mst', l3, l4, l5, k1, k2, k3, k4⟩ := k_node (r := 0) (by omega) hnb hM hW ht (k_for (by omega) hnb hM hW ht X) (fun z => z < D) (nI 0) (-1) 0 n (nI 0) T [] [0] pile tk tw tv th ts tc mle mst h (fun x hx => ⟨by omega, by omega⟩) (Or.inl rfl) hnk hrm hT hR hc hn ⟨rfl, h0, by show th (9000 * t + 0) = -1; exact hw⟩ True.intro (by show 0 + _ ≤ 9500; omega)
  refine ⟨pile', tk', tw', tv', th', ts', tc', mle', mst', ?_, k3, k4⟩
  have em : psh (-1) (nI 0) [] = [] := if_pos rfl
  rw [em] at k2
  obtain ⟨c3, c4⟩ := k2
  unfold f_Mo_keep Mo_keep_b8
  refine k1.trans (jl_done ?_)
  rw [c4]
  show Mo_keep_b8_s ys mp ml A.1 A.2.1 A.2.2.1 A.2.2.2.1 A.2.2.2.2.2 (nI t) (nI 0) pile' tk' tw' tv' th' ts' tc' mle' mst' (nI (ntT P Wd B (.pow X c) T).1) l3 (-1) l5 = _
  unfold Mo_keep_b8_s
  rw [if_pos (show (-1 : Int32) = -1 from rfl)]
end KP
