-- the reference writes a node
abbrev TSh := (Nat → Int32) → (Nat → Int32) → (Nat → Int32) → (Nat → Int32) → (Nat → Int32) → (Nat → Int32) → (Nat → Int32) → Int32 → Int32 → Int32 → Option ((Nat → Int32) × Int32)
def al (st sp : Nat → Nat) (cv : Nat → Int32) (x : Nat × Fo × Nat) (L : List Nat) : List Nat := rd st sp cv (rno x) x.1 99 0 0 0 L
def rpt (x : Nat × Fo × Nat) : List (Nat × Fo × Nat) := rs x.2.1 (x.1 + 1)
def HR (mk mv ms mc ck cs cv : Nat → Int32) (t nt : Nat) : Prop := t < 2 ∧ nt ≤ 8001 ∧ mc t = nI nt ∧ ∀ k, k < nt → mk (9000 * t + k) = ck k ∧ ms (9000 * t + k) = cs k ∧ mv (9000 * t + k) = cv k
def SH (mk mv ms mc mle mst ck cs cv : Nat → Int32) (st sp : Nat → Nat) (nc nt t : Nat) (T : TSh) (D : Nat) : Prop := ∀ (x : Nat × Fo × Nat) (L : List Nat) (out : Nat → Int32) (size : Int32), TF ck cs cv nc nt (rno x) x.1 → nd (rno x) ≤ D → 1 ≤ rki x ∧ rki x ≤ 19 → bl L = L → OT out size L → ∃ out' size', T mk mv ms mc mle mst out size (nI t) (nI x.1) = some (out', size') ∧ OT out' size' (al st sp cv x L)
section SW
variable {mk mv ms mc mle mst ck cs cv : Nat → Int32} {st sp : Nat → Nat} {nc nt t D : Nat} {T : TSh} {x y z : Nat × Fo × Nat} {out : Nat → Int32} {size : Int32} {L : List Nat}
theorem TF_k (h : TF ck cs cv nc nt (rno x) x.1) : ck x.1 = nI (rki x) ∧ cs x.1 = nI (rsz x) ∧ x.1 + rsz x ≤ nt ∧ ns (rki x) (rk x.2.1) := ⟨h.1.1, h.1.2.1, h.2.2.2, h.2.2.1.1⟩
theorem rki_lt : rki x < 32 := Nat.mod_lt _ (by decide)
theorem nk {c : Nat} (h : rki x ≠ c) (hc : c < 32) : ¬ nI (rki x) = nI c := fun e => h ((nI_eq (by have := rki_lt (x := x); omega) (by omega)).mp e)
theorem nk_0 (h : rki x ≠ 0) : ¬ nI (rki x) = 0 := nk h (by decide)
theorem nk_2 (h : rki x ≠ 2) : ¬ nI (rki x) = 2 := nk h (by decide)
theorem nk_3 (h : rki x ≠ 3) : ¬ nI (rki x) = 3 := nk h (by decide)
theorem nk_4 (h : rki x ≠ 4) : ¬ nI (rki x) = 4 := nk h (by decide)
theorem nk_5 (h : rki x ≠ 5) : ¬ nI (rki x) = 5 := nk h (by decide)
theorem nk_6 (h : rki x ≠ 6) : ¬ nI (rki x) = 6 := nk h (by decide)
theorem nk_8 (h : rki x ≠ 8) : ¬ nI (rki x) = 8 := nk h (by decide)
theorem nk_9 (h : rki x ≠ 9) : ¬ nI (rki x) = 9 := nk h (by decide)
theorem nk_10 (h : rki x ≠ 10) : ¬ nI (rki x) = 10 := nk h (by decide)
theorem nk_11 (h : rki x ≠ 11) : ¬ nI (rki x) = 11 := nk h (by decide)
theorem nk_12 (h : rki x ≠ 12) : ¬ nI (rki x) = 12 := nk h (by decide)
theorem nk_13 (h : rki x ≠ 13) : ¬ nI (rki x) = 13 := nk h (by decide)
theorem nk_14 (h : rki x ≠ 14) : ¬ nI (rki x) = 14 := nk h (by decide)
theorem nk_15 (h : rki x ≠ 15) : ¬ nI (rki x) = 15 := nk h (by decide)
theorem nk_16 (h : rki x ≠ 16) : ¬ nI (rki x) = 16 := nk h (by decide)
theorem nk_17 (h : rki x ≠ 17) : ¬ nI (rki x) = 17 := nk h (by decide)
theorem nk_18 (h : rki x ≠ 18) : ¬ nI (rki x) = 18 := nk h (by decide)
theorem nk_19 (h : rki x ≠ 19) : ¬ nI (rki x) = 19 := nk h (by decide)
theorem TF_p (h : TF ck cs cv nc nt (rno x) x.1) : ∀ y, y ∈ rpt x → TF ck cs cv nc nt (rno y) y.1 := fun y hy => (TF_rs x.2.1 (x.1 + 1) ⟨h.1.2.2, h.2.1.2.2, h.2.2.1.2, by have h4 : x.1 + (fs x.2.1 + 1) ≤ nt := h.2.2.2; omega⟩ y hy).1
theorem rpt_sz : ∀ y, y ∈ rpt x → rsz y < rsz x := fun y hy => by
  have key : ∀ (F : Fo) p y, y ∈ rs F p → rsz y ≤ fs F := by
    intro F
    induction F with
    | add X Y hX hY =>
      intro p y hy
      rcases List.mem_append.mp (show y ∈ rs X p ++ rs Y (p + fs X) from hy) with q | q
      · have := hX p y q; show rsz y ≤ fs X + fs Y; omega
      · have := hY _ y q; show rsz y ≤ fs X + fs Y; omega
    | pow X c _ => intro p y hy; rw [List.mem_singleton.mp (show y ∈ [(p, X, c)] from hy)]; exact Nat.le_refl _
    | _ => intro p y hy; cases hy
  have := key x.2.1 (x.1 + 1) y hy
  show rsz y < fs x.2.1 + 1
  omega
theorem rpt_ch : chn (rpt x) (x.1 + 1) (x.1 + rsz x) := by
  have := chn_rs x.2.1 (x.1 + 1)
  rw [show x.1 + 1 + fs x.2.1 = x.1 + rsz x by show _ = x.1 + (fs x.2.1 + 1); omega] at this
  exact this
theorem rpt_k : (rpt x).map rki = rk x.2.1 := rk_rs _ _
theorem rpt_n : (rpt x).length = fn x.2.1 := by rw [← rk_len, ← rpt_k (x := x), List.length_map]
theorem al_u : al st sp cv x L = lvL 99 (rki x) x.1 0 0 (rdl st sp cv (rki x) x.1 (x.1 + rsz x) (fn x.2.1) (rpt x) (enL st sp cv 99 (rki x) x.1 0 (x.1 + rsz x) 0 0 L)) := by
  show lvL 99 (rki x) x.1 0 0 (rd st sp cv x.2.1 (x.1 + 1) (rki x) x.1 (x.1 + rsz x) (fn x.2.1) (enL st sp cv 99 (rki x) x.1 0 (x.1 + rsz x) 0 0 L)) = _
  rw [rd_rs]
  rfl
theorem tk0 : tkL 0 L = L := if_pos rfl
theorem en_99 {k p e : Nat} (h : k ≠ 8 ∧ k ≠ 15) : enL st sp cv 99 k p 0 e 0 0 L = wdL st sp cv k p L := by
  unfold enL
  have tb0 : tbT 99 k p 0 e 0 = 0 := if_pos (Or.inl rfl)
  have br0 : brT 99 k p 0 0 = false := by
    unfold brT
    rw [if_neg h.2, if_neg h.1, if_neg (by decide)]
  rw [tb0, tk0, br0]
  rfl
theorem lv_99 {k p : Nat} (h : k ≠ 8 ∧ k ≠ 15) (he : edB k = false) : lvL 99 k p 0 0 L = L := by
  have br0 : brT 99 k p 0 0 = false := by
    unfold brT
    rw [if_neg h.2, if_neg h.1, if_neg (by decide)]
  unfold lvL
  rw [he, if_neg (by decide), br0]
  rfl
theorem al_bl (h : TF ck cs cv nc nt (rno x) x.1) (hk : 1 ≤ rki x ∧ rki x ≤ 18) : al st sp cv x (bl L) = al st sp cv x L := rd_bl (rno x) x.1 99 0 0 0 L h.2.2.1 (Or.inl rfl) ⟨rki x, [], rfl, hk.1, hk.2⟩
theorem al_ge (hT : TB nc st sp) (h : TF ck cs cv nc nt (rno x) x.1) (hk : lkB (rki x)) : GE (al st sp cv x L) := rd_ge hT (rno x) x.1 99 0 0 0 L h.2.2.1 h.2.1 ⟨[], rki x, rfl, hk⟩
theorem al_xt (hT : TB nc st sp) (h : TF ck cs cv nc nt (rno x) x.1) : xt L (al st sp cv x L) := (rd_xn hT (rno x) x.1 99 0 0 0 L (Or.inr rfl) h.2.1).1
/-- in a whole that is neither arrow nor application -/
theorem c_A {q w E n : Nat} (hk : lkB (rki x)) (hq : q ≠ 13 ∧ q ≠ 14) (h8 : rki x ≠ 8) : rd st sp cv (rno x) x.1 q w E n L = al st sp cv x (tkL (tbT q (rki x) x.1 w (x.1 + rsz x) E) L) := by
  refine rd_cA (lk_ed hk) ?_
  unfold brT
  by_cases a : rki x = 15
  · rw [if_pos a, if_pos a]
  · rw [if_neg a, if_neg a, if_neg h8, if_neg h8, if_neg (by omega), if_neg (by decide)]
theorem c_8 {q w E n : Nat} (hk : rki x = 8) (hq : ¬ (q = 10 ∨ q = 11) ∨ 2 < n) : rd st sp cv (rno x) x.1 q w E n L = al st sp cv x L := by
  have e : tbT q (rki x) x.1 w (x.1 + rsz x) E = 0 := if_pos (by omega)
  have g := rd_cA (st := st) (sp := sp) (cv := cv) (x := x) (q := q) (w := w) (E := E) (n := n) (L := L) (lk_ed (by unfold lkB; omega)) (by
    have r : brT 99 8 x.1 0 0 = true := rfl
    rw [hk, r]
    unfold brT
    rw [if_neg (show ¬ (8 : Nat) = 15 by decide), if_pos (show (8 : Nat) = 8 from rfl)]
    by_cases a : q = 99
    · rw [if_pos a]
    · rw [if_neg a]
      by_cases b : q = 10 ∨ q = 11
      · rw [if_pos b]; exact decide_eq_true (by omega)
      · rw [if_neg b])
  rw [e, tk0] at g
  exact g
theorem c_19 {q w E n : Nat} (h : TF ck cs cv nc nt (rno x) x.1) (hk : rki x = 19) : rd st sp cv (rno x) x.1 q w E n L = L := by
  obtain ⟨a, Y, c⟩ := x
  have hk' : c % 32 = 19 := hk
  have hw : ns (c % 32) (rk Y) := h.2.2.1.1
  have x0 : rk Y = [] := hw.2.2.2.2.2.2.2.2.2.2.2.2.2 (by omega)
  have f0 : fn Y = 0 := by rw [← rk_len, x0]; rfl
  show lvL q (c % 32) a w n (rd st sp cv Y (a + 1) (c % 32) a (a + (fs Y + 1)) (fn Y) (enL st sp cv q (c % 32) a w (a + (fs Y + 1)) E n L)) = L
  have br0 : brT q 19 a w n = false := by
    unfold brT
    rw [if_neg (by decide), if_neg (by decide)]
    have : opB 19 = false := by decide
    split
    · split
      · exact this
      · split
        · rw [this]; rfl
        · rfl
    · rfl
  have tb0 : tbT q 19 a w (a + (fs Y + 1)) E = 0 := if_pos (by omega)
  rw [rd_0 Y _ _ _ _ _ _ f0, hk']
  unfold lvL enL
  rw [br0, tb0, tk0, if_neg (by decide)]
  rfl
theorem m_kat (hR : HR mk mv ms mc ck cs cv t nt) {p : Nat} (hp : p < nt) : f_Mo_kindAt mk (nI t) (nI p) = some (ck p) := by
  obtain ⟨h1, h2, h3, h4⟩ := hR
  unfold f_Mo_kindAt
  rw [off9, if_neg (nI_in (show 9000 * t + p < 18000 by omega) (by decide)), nI_clamp (by omega), (h4 p hp).1]
def ptv (o : Option (Nat × Fo × Nat)) : Int32 := match o with
  | some y => nI y.1
  | none => -1
theorem m_ptL (hR : HR mk mv ms mc ck cs cv t nt) (h : TF ck cs cv nc nt (rno x) x.1) {i : Nat} (hi : i < 10000) : f_Mo_part ms mc (nI t) (nI x.1) (nI i) = some (ptv (rpt x)[i]?) := by
  have hR' := hR
  obtain ⟨h1, h2, h3, h4⟩ := hR
  obtain ⟨k1, k2, k3, k4⟩ := TF_k h
  have hx1 : 1 ≤ rsz x := by show 1 ≤ fs x.2.1 + 1; omega
  have hsz : ms (9000 * t + x.1) = nI (rsz x) := by rw [(h4 x.1 (by omega)).2.1, k2]
  have go : ∀ (l : List (Nat × Fo × Nat)) (a j m : Nat), (∀ y, y ∈ l → TF ck cs cv nc nt (rno y) y.1) → chn l a (x.1 + rsz x) → a ≤ 8001 → i = j + m → jl (Mo_part_b23_b ms mc (nI t) (nI x.1) (nI i)) (nI a, nI j) = some (ptv l[m]?) := by
    intro l
    induction l with
    | nil =>
      intro a j m hl hc ha hij
      have e : a = x.1 + rsz x := hc
      apply jl_done
      show Mo_part_b23_s ms mc (nI t) (nI x.1) (nI i) (nI a) (nI j) = _
      unfold Mo_part_b23_s Mo_part_b72
      rw [off9, if_neg (nI_in (show 9000 * t + x.1 < 18000 by omega) (by decide)), nI_clamp (by omega), hsz, nI_add, if_pos (by rw [e]; exact Int32.le_refl _), if_neg (nI_inC (show 9000 * t + x.1 < 18000 by omega) (by decide)), if_pos (by rw [e]; exact Int32.le_refl _), jm_some]
      rfl
    | cons y l ih =>
      intro a j m hl hc ha hij
      obtain ⟨e, hc2⟩ := hc
      have hy := TF_k (hl y (List.mem_cons.mpr (Or.inl rfl)))
      have hy1 : 1 ≤ rsz y := by show 1 ≤ fs y.2.1 + 1; omega
      have mono : ∀ (l : List (Nat × Fo × Nat)) a E, chn l a E → a ≤ E := by
        intro l
        induction l with
        | nil => intro a E h; exact Nat.le_of_eq h
        | cons z l ih2 => intro a E h; have := ih2 _ _ h.2; omega
      have hlt := mono l _ _ hc2
      cases m with
      | zero =>
        apply jl_done
        show Mo_part_b23_s ms mc (nI t) (nI x.1) (nI i) (nI a) (nI j) = _
        unfold Mo_part_b23_s Mo_part_b72
        rw [off9, if_neg (nI_in (show 9000 * t + x.1 < 18000 by omega) (by decide)), nI_clamp (by omega), hsz, nI_add, if_neg (nI_ge (by omega) (by omega)), if_pos (nI_le (by omega) (by omega)), if_neg (nI_inC (show 9000 * t + x.1 < 18000 by omega) (by decide)), if_neg (nI_ge (by omega) (by omega)), jm_some, ← e]
        rfl
      | succ m =>
        have body : Mo_part_b23_b ms mc (nI t) (nI x.1) (nI i) (nI a, nI j) = some (.inl (nI (a + rsz y), nI (j + 1))) := by
          show Mo_part_b23_s ms mc (nI t) (nI x.1) (nI i) (nI a) (nI j) = _
          unfold Mo_part_b23_s
          rw [off9, if_neg (nI_in (show 9000 * t + x.1 < 18000 by omega) (by decide)), nI_clamp (by omega), hsz, nI_add, if_neg (nI_ge (by omega) (by omega)), if_neg (nI_ge (by omega) (by omega)), off9, if_neg (nI_in (show 9000 * t + a < 18000 by omega) (by decide)), nI_clamp (by omega), (h4 a (by omega)).2.1, ← e, hy.2.1, nI_add, nI_1]
        rw [jl_step body]
        have := ih (a + rsz y) (j + 1) m (fun z hz => hl z (List.mem_cons.mpr (Or.inr hz))) hc2 (by omega) (by omega)
        exact this
  unfold f_Mo_part
  rw [p_Mohas h1 (by omega) h3 (show x.1 < nt by omega), jb_some, if_neg n10, if_pos (nI_pos' (by omega)), nI_1]
  exact go (rpt x) (x.1 + 1) 0 i (TF_p h) rpt_ch (by omega) (by omega)
theorem get_mid {α : Type} {l m : List α} {a : α} : (l ++ a :: m)[l.length]? = some a := by rw [List.getElem?_append_right (Nat.le_refl _), Nat.sub_self]; rfl
theorem get_out {α : Type} {l : List α} : l[l.length]? = none := List.getElem?_eq_none (Nat.le_refl _)
/-- the part that stands behind others -/
theorem m_ptM (hR : HR mk mv ms mc ck cs cv t nt) (h : TF ck cs cv nc nt (rno x) x.1) {l m : List (Nat × Fo × Nat)} (e : rpt x = l ++ y :: m) : f_Mo_part ms mc (nI t) (nI x.1) (nI l.length) = some (nI y.1) := by
  have h8 := (TF_k h).2.2.1
  have hl : l.length < 10000 := by
    have h1 := rpt_n (x := x)
    have h2 := fn_fs x.2.1
    have h3 : rsz x = fs x.2.1 + 1 := rfl
    have h4 := hR.2.1
    rw [e, List.length_append, List.length_cons] at h1
    omega
  have g := m_ptL hR h hl
  rw [e, get_mid] at g
  exact g
theorem m_ptE (hR : HR mk mv ms mc ck cs cv t nt) (h : TF ck cs cv nc nt (rno x) x.1) : f_Mo_part ms mc (nI t) (nI x.1) (nI (rpt x).length) = some (-1) := by
  have h8 := (TF_k h).2.2.1
  have hl : (rpt x).length < 10000 := by
    have h1 := rpt_n (x := x)
    have h2 := fn_fs x.2.1
    have h3 : rsz x = fs x.2.1 + 1 := rfl
    have h4 := hR.2.1
    omega
  have g := m_ptL hR h hl
  rw [get_out] at g
  exact g
/-- where a part stands -/
theorem pos_first {l : List (Nat × Fo × Nat)} (e : rpt x = y :: l) : y.1 = x.1 + 1 := by
  have := rpt_ch (x := x)
  rw [e] at this
  exact this.1
theorem chn_mid : ∀ (l m : List (Nat × Fo × Nat)) (p E : Nat), chn (l ++ m) p E → ∃ a, chn l p a ∧ chn m a E ∧ p + l.length ≤ a := by
  intro l
  induction l with
  | nil => intro m p E h; exact ⟨p, rfl, h, Nat.le_refl _⟩
  | cons x l ih =>
    intro m p E h
    obtain ⟨a, h1, h2, h3⟩ := ih m _ E h.2
    have : 1 ≤ rsz x := by show 1 ≤ fs x.2.1 + 1; omega
    exact ⟨a, ⟨h.1, h1⟩, h2, by rw [List.length_cons]; omega⟩
theorem pos_mid {l m : List (Nat × Fo × Nat)} (e : rpt x = l ++ y :: m) : x.1 + 1 + l.length ≤ y.1 ∧ (m = [] → y.1 + rsz y = x.1 + rsz x) ∧ (m ≠ [] → y.1 + rsz y < x.1 + rsz x) := by
  have h := rpt_ch (x := x)
  rw [e] at h
  obtain ⟨a, h1, h2, h3⟩ := chn_mid _ _ _ _ h
  have ea : y.1 = a := h2.1
  refine ⟨by omega, fun z => ?_, fun z => ?_⟩
  · subst z
    have := h2.2
    have e2 : a + rsz y = x.1 + rsz x := this
    omega
  · cases m with
    | nil => exact absurd rfl z
    | cons u m =>
      obtain ⟨b, g1, g2, g3⟩ := chn_mid [u] m _ _ h2.2
      have g4 : ∀ (l : List (Nat × Fo × Nat)) a E, chn l a E → a ≤ E := by
        intro l
        induction l with
        | nil => intro a E h; exact Nat.le_of_eq h
        | cons z l ih2 => intro a E h; have := ih2 _ _ h.2; omega
      have := g4 _ _ _ g2
      have e3 : a + rsz y + 1 ≤ b := g3
      omega
-- texts
theorem x38 : pT 38 L = 32 :: 58 :: L := pT_x 38 (by decide)
theorem x39 : pT 39 L = 32 :: 61 :: 58 :: 32 :: L := pT_x 39 (by decide)
theorem x40 : pT 40 L = 32 :: 124 :: 32 :: L := pT_x 40 (by decide)
theorem x43 : pT 43 L = 32 :: 62 :: 61 :: 32 :: L := pT_x 43 (by decide)
theorem x44 : pT 44 L = 32 :: 44 :: L := pT_x 44 (by decide)
theorem x46 : pT 46 L = 32 :: 110 :: 105 :: 32 :: L := pT_x 46 (by decide)
theorem x47 : pT 47 L = 32 :: 62 :: 45 :: 32 :: L := pT_x 47 (by decide)
theorem k15 : tkL 15 L = 40 :: bl L := by unfold tkL; rw [if_neg (by decide), if_neg (by decide)]; exact pT_x 13 (by decide)
theorem k16 : tkL 16 L = 41 :: L := by unfold tkL; rw [if_neg (by decide), if_pos (by decide)]; exact pT_x 14 (by decide)
theorem k17 : tkL 17 L = 58 :: L := by unfold tkL; rw [if_neg (by decide), if_pos (by decide)]; exact pT_x 15 (by decide)
theorem k21 : tkL 21 L = 44 :: L := by unfold tkL; rw [if_neg (by decide), if_pos (by decide)]; exact pT_x 19 (by decide)
theorem k22 : tkL 22 L = 46 :: L := by unfold tkL; rw [if_neg (by decide), if_pos (by decide)]; exact pT_x 20 (by decide)
theorem k13 (h : GE L) : tkL 13 L = 110 :: 105 :: 32 :: L := by unfold tkL; rw [if_neg (by decide), if_neg (by decide), bl_ge h]; exact pT_x 11 (by decide)
theorem k18 (h : GE L) : tkL 18 L = 61 :: 58 :: 32 :: L := by unfold tkL; rw [if_neg (by decide), if_neg (by decide), bl_ge h]; exact pT_x 16 (by decide)
theorem k19 (h : GE L) : tkL 19 L = 62 :: 61 :: 32 :: L := by unfold tkL; rw [if_neg (by decide), if_neg (by decide), bl_ge h]; exact pT_x 17 (by decide)
theorem k20 (h : GE L) : tkL 20 L = 62 :: 45 :: 32 :: L := by unfold tkL; rw [if_neg (by decide), if_neg (by decide), bl_ge h]; exact pT_x 18 (by decide)
theorem k23 (h : GE L) : tkL 23 L = 124 :: 32 :: L := by unfold tkL; rw [if_neg (by decide), if_neg (by decide), bl_ge h]; exact pT_x 21 (by decide)
theorem bl_n {c : Nat} {M : List Nat} (h : c ≠ 40 ∧ c ≠ 10 ∧ c ≠ 32) : bl (c :: M) = 32 :: c :: M := bl_ge ⟨c, M, rfl, h.1, h.2.1, h.2.2⟩
theorem al_c {c : Nat} {M : List Nat} (hx : TF ck cs cv nc nt (rno x) x.1) (hk : 1 ≤ rki x ∧ rki x ≤ 18) (h : c ≠ 40 ∧ c ≠ 10 ∧ c ≠ 32) : al st sp cv x (32 :: c :: M) = al st sp cv x (c :: M) := by rw [← bl_n h]; exact al_bl hx hk
theorem al_32 (hx : TF ck cs cv nc nt (rno x) x.1) (hk : 1 ≤ rki x ∧ rki x ≤ 18) (h : GE L) : al st sp cv x (32 :: L) = al st sp cv x L := by rw [← bl_ge h]; exact al_bl hx hk
theorem tm_lk {k : Nat} (h : tmK k) : lkB k ∧ k ≠ 8 ∧ 1 ≤ k ∧ k ≤ 18 ∧ k ≠ 19 ∧ k ≠ 9 := by unfold tmK at h; unfold lkB; omega
/-- a type that is told, or nothing -/
theorem m_say (hR : HR mk mv ms mc ck cs cv t nt) (hS : SH mk mv ms mc mle mst ck cs cv st sp nc nt t T D) (hx : TF ck cs cv nc nt (rno x) x.1) (hd : nd (rno x) ≤ D) (hk : tmK (rki x) ∨ rki x = 19) (h : OT out size L) : ∃ out' size', f_Mo_sayTold T mk mv ms mc mle mst out size (nI t) (nI x.1) = some (out', size') ∧ OT out' size' (if rki x = 19 then L else al st sp cv x (58 :: L)) := by
  obtain ⟨k1, k2, k3, k4⟩ := TF_k hx
  have hx1 : 1 ≤ rsz x := by show 1 ≤ fs x.2.1 + 1; omega
  unfold f_Mo_sayTold
  rw [m_kat hR (show x.1 < nt by omega), jb_some, k1]
  by_cases q : rki x = 19
  · rw [if_pos (show nI (rki x) = 19 by rw [q]; rfl), if_pos q]; exact ⟨_, _, rfl, h⟩
  · have ht := tm_lk (hk.resolve_right q)
    rw [if_neg (nk_19 q), if_neg q]
    obtain ⟨o1, s1, e1, f1⟩ := o_text (k := 38) (by decide) h
    rw [x38] at f1
    obtain ⟨o2, s2, e2, f2⟩ := hS x _ o1 s1 hx hd (by omega) bl_32 f1
    rw [e1, jb_some, e2, jb_some]
    rw [al_c hx ⟨by omega, by omega⟩ (by decide)] at f2
    exact ⟨_, _, rfl, f2⟩
/-- brackets where they are due -/
theorem m_bra (hS : SH mk mv ms mc mle mst ck cs cv st sp nc nt t T D) {b : Bool} (hx : TF ck cs cv nc nt (rno x) x.1) (hd : nd (rno x) ≤ D) (hk : 1 ≤ rki x ∧ rki x ≤ 19) (hb : bl L = L) (h : OT out size L) : ∃ out' size', f_Mo_bracket T mk mv ms mc mle mst out size (nI t) (nI x.1) (if b = true then 1 else 0) = some (out', size') ∧ OT out' size' (cbL b (al st sp cv x (obL b L))) := by
  unfold f_Mo_bracket Mo_bracket_b10
  cases b with
  | false =>
    rw [ifF, if_pos rfl]
    obtain ⟨o2, s2, e2, f2⟩ := hS x _ out size hx hd hk hb h
    rw [e2, jb_some, if_pos rfl]
    exact ⟨_, _, rfl, f2⟩
  | true =>
    rw [ifT, if_neg n10]
    obtain ⟨o1, s1, e1, f1⟩ := o_put (c := 40) h (by decide)
    obtain ⟨o2, s2, e2, f2⟩ := hS x _ o1 s1 hx hd hk bl_40 f1
    obtain ⟨o3, s3, e3, f3⟩ := o_put (c := 41) f2 (by decide)
    rw [show f_Mo_put out size 40 = _ from e1, jb_some, e2, jb_some, if_neg n10, show f_Mo_put o2 s2 41 = _ from e3, jb_some]
    refine ⟨_, _, rfl, ?_⟩
    show OT o3 s3 (tkL 16 (al st sp cv x (tkL 15 L)))
    rw [k16, k15, hb]
    exact f3
end SW
