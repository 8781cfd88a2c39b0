-- how a written node begins and ends
section BE
variable {st sp : Nat → Nat} {cv : Nat → Int32} {nc : Nat}
theorem ns_first {k : Nat} {l : List Nat} (h : ns k l) (hk : k = 5 ∨ k = 8 ∨ k = 13 ∨ k = 14 ∨ k = 15) : ∃ j m, l = j :: m ∧ 1 ≤ j ∧ j ≤ 18 := by
  unfold ns at h
  rcases hk with e | e | e | e | e
  · obtain ⟨t, h1, h2⟩ := h.2.2.2.2.2.1 e; exact ⟨9, [t], h1, by decide, by decide⟩
  · obtain ⟨g, t, h1, h2⟩ := h.2.2.2.2.2.2.2.2.1 e; exact ⟨9, g ++ [t], h1, by decide, by decide⟩
  · obtain ⟨t, u, h1, h2, h3⟩ := h.2.2.2.2.2.2.2.2.2.2.2.1 (by omega); unfold tmK at h2; exact ⟨t, [u], h1, by omega, by omega⟩
  · obtain ⟨t, u, h1, h2, h3⟩ := h.2.2.2.2.2.2.2.2.2.2.2.1 (by omega); unfold tmK at h2; exact ⟨t, [u], h1, by omega, by omega⟩
  · obtain ⟨t, u, h1, h2, h3⟩ := h.2.2.2.2.2.2.2.2.2.2.2.1 (by omega); unfold tmK at h2; exact ⟨t, [u], h1, by omega, by omega⟩
/-- kinds that end well -/
def lkB (k : Nat) : Prop := k = 5 ∨ 8 ≤ k ∧ k ≤ 18
theorem ns_last {k : Nat} {l : List Nat} (h : ns k l) (hk : lkB k) (h9 : k ≠ 9 ∧ k ≠ 16 ∧ k ≠ 17) : ∃ m j, l = m ++ [j] ∧ lkB j := by
  unfold ns at h
  unfold lkB at hk ⊢
  by_cases e5 : k = 5
  · obtain ⟨t, h1, h2⟩ := h.2.2.2.2.2.1 e5; unfold tmK at h2; exact ⟨[9], t, h1, by omega⟩
  · by_cases e8 : k = 8
    · obtain ⟨g, t, h1, h2, h3⟩ := h.2.2.2.2.2.2.2.2.1 e8; unfold tmK at h3; exact ⟨9 :: g, t, h1, by omega⟩
    · by_cases e10 : k = 10 ∨ k = 11
      · obtain ⟨g, t, h1, h2, h3⟩ := h.2.2.2.2.2.2.2.2.2.1 e10; unfold tmK at h3; exact ⟨8 :: g, t, h1, by omega⟩
      · by_cases e12 : k = 12
        · obtain ⟨a, t, u, h1, h2, h3, h4⟩ := h.2.2.2.2.2.2.2.2.2.2.1 e12; unfold tmK at h4; exact ⟨[9, a, t], u, h1, by omega⟩
        · by_cases e13 : k = 13 ∨ k = 14 ∨ k = 15
          · obtain ⟨t, u, h1, h2, h3⟩ := h.2.2.2.2.2.2.2.2.2.2.2.1 e13; unfold tmK at h3; exact ⟨[t], u, h1, by omega⟩
          · have h1 := h.2.2.2.2.2.2.2.2.2.2.2.2.1 (by omega)
            exact ⟨[16], 17, h1, by omega⟩
theorem tk_bl {k : Nat} {L : List Nat} (h0 : k ≠ 0) (h : ¬ (k = 16 ∨ k = 17 ∨ k = 21 ∨ k = 22)) : tkL k (bl L) = tkL k L := by
  unfold tkL
  rw [if_neg h0, if_neg h, if_neg h0, if_neg h, bl_bl]
theorem fw_val : ∀ k, k < 32 → fwT k = 0 ∨ ¬ (fwT k = 16 ∨ fwT k = 17 ∨ fwT k = 21 ∨ fwT k = 22) := by decide +kernel
theorem fw_zero : ∀ k, k < 32 → (1 ≤ k ∧ k ≤ 18 ∧ fwT k = 0) → k = 9 ∨ k = 16 ∨ k = 17 ∨ k = 5 ∨ k = 8 ∨ k = 13 ∨ k = 14 ∨ k = 15 := by decide +kernel
/-- a blank before what begins with no sign that takes none -/
theorem rd_bl (F : Fo) : ∀ (p q w E n : Nat) (L : List Nat), wf F → (q = 99 ∨ p = w + 1) → (∃ k l, rk F = k :: l ∧ 1 ≤ k ∧ k ≤ 18) → rd st sp cv F p q w E n (bl L) = rd st sp cv F p q w E n L := by
  induction F with
  | add X Y hX hY =>
    intro p q w E n L hw hq hk
    show rd st sp cv Y (p + fs X) q w E n (rd st sp cv X p q w E n (bl L)) = rd st sp cv Y (p + fs X) q w E n (rd st sp cv X p q w E n L)
    obtain ⟨k, l, h1, h2⟩ := hk
    have h1' : rk X ++ rk Y = k :: l := h1
    cases hx : rk X with
    | nil =>
      have x0 : fn X = 0 := by rw [← rk_len, hx]; rfl
      rw [rd_0 X _ _ _ _ _ _ x0, rd_0 X _ _ _ _ _ _ x0, fs_0 X x0, Nat.add_zero]
      rw [hx, List.nil_append] at h1'
      exact hY p q w E n L hw.2 hq ⟨k, l, h1', h2⟩
    | cons a m =>
      rw [hx] at h1'
      have e : a = k := (List.cons.inj h1').1
      rw [hX p q w E n L hw.1 hq ⟨a, m, hx, by rw [e]; exact h2⟩]
  | pow X c hX =>
    intro p q w E n L hw hq hk
    obtain ⟨k, l, h1, h2, h3⟩ := hk
    have ek : c % 32 = k := (List.cons.inj (show [c % 32] = k :: l from h1)).1
    have hlt : c % 32 < 32 := Nat.mod_lt _ (by decide)
    have tb0 : tbT q (c % 32) p w (p + (fs X + 1)) E = 0 := if_pos (by omega)
    show lvL q (c % 32) p w n (rd st sp cv X (p + 1) (c % 32) p (p + (fs X + 1)) (fn X) (enL st sp cv q (c % 32) p w (p + (fs X + 1)) E n (bl L))) = lvL q (c % 32) p w n (rd st sp cv X (p + 1) (c % 32) p (p + (fs X + 1)) (fn X) (enL st sp cv q (c % 32) p w (p + (fs X + 1)) E n L))
    have t0 : ∀ M, tkL 0 M = M := fun M => if_pos rfl
    unfold enL
    rw [tb0, t0, t0]
    cases hb : brT q (c % 32) p w n with
    | true =>
      have e : obL true (bl L) = obL true L := by
        show tkL 15 (bl L) = tkL 15 L
        exact tk_bl (by decide) (by decide)
      rw [e]
    | false =>
      have e : ∀ M, obL false M = M := fun M => if_neg (by decide)
      rw [e, e]
      by_cases a : c % 32 = 9 ∨ c % 32 = 16
      · have e2 : wdL st sp cv (c % 32) p (bl L) = wdL st sp cv (c % 32) p L := by unfold wdL; rw [if_pos a, if_pos a, bl_bl]
        rw [e2]
      · by_cases b : c % 32 = 17
        · have e2 : wdL st sp cv (c % 32) p (bl L) = wdL st sp cv (c % 32) p L := by unfold wdL stL; rw [if_neg a, if_pos b, if_neg a, if_pos b, bl_bl]
          rw [e2]
        · have e2 : ∀ M, wdL st sp cv (c % 32) p M = tkL (fwT (c % 32)) M := fun M => by unfold wdL; rw [if_neg a, if_neg b]
          rw [e2, e2]
          by_cases z : fwT (c % 32) = 0
          · rw [z, t0, t0]
            have hz := fw_zero (c % 32) hlt ⟨by omega, by omega, z⟩
            rw [hX (p + 1) (c % 32) p (p + (fs X + 1)) (fn X) L hw.2 (Or.inr rfl) (ns_first hw.1 (by omega))]
          · rw [tk_bl z ((fw_val (c % 32) hlt).resolve_left z)]
  | _ => intro p q w E n L hw hq hk; obtain ⟨k, l, h1, _⟩ := hk; cases h1
theorem ge_pg {f : Nat → Nat} {n : Nat} {L : List Nat} (hn : 1 ≤ n) (h : f (n - 1) ≠ 32 ∧ f (n - 1) ≠ 40 ∧ f (n - 1) ≠ 10) : GE (pg f n L) := by
  cases n with
  | zero => omega
  | succ n => exact ge_c h.2.1 h.2.2 h.1
theorem ge_pN (hT : TB nc st sp) {x : Nat} {L : List Nat} (hx : x < nc) : GE (pN st sp x L) := by
  have h1 := hT.2.2.2.1 x hx
  have h2 := st_le hT (show x + 1 ≤ nc by omega)
  exact ge_pg (by omega) (inn_gd (hT.2.2.2.2.1.1 _ (by omega)))
theorem ge_pT {k : Nat} {L : List Nat} (hk : k < 25) (h2 : k ≠ 22 ∧ k ≠ 13) : GE (pT k L) := by
  have h := js_end k hk h2.1
  exact ge_pg h.1 ⟨h.2.1, fun e => h2.2 (h.2.2.2 e), h.2.2.1⟩
theorem ge_st {v : Nat} {L : List Nat} : GE (stL v L) := by
  unfold stL sdL
  by_cases q : v = 0
  · rw [if_pos q, if_pos q]; exact ge_pT (by decide) (by decide)
  · rw [if_neg q]; exact ge_c (by omega) (by omega) (by omega)
theorem ge_wd (hT : TB nc st sp) {k p : Nat} {L : List Nat} (hk : k = 9 ∨ k = 16 ∨ k = 17) (hv : vlN nc cv k p) : GE (wdL st sp cv k p L) := by
  have hT1 := hT.1
  unfold wdL
  by_cases a : k = 9 ∨ k = 16
  · obtain ⟨x, x1, x2⟩ := hv.1 a
    rw [if_pos a, x2, nI_clamp (by omega)]
    exact ge_pN hT x1
  · rw [if_neg a, if_pos (by omega)]; exact ge_st
theorem lk_ed {k : Nat} (h : lkB k) : edB k = false := by
  unfold lkB at h
  unfold edB
  rw [decide_eq_false_iff_not]
  omega
theorem rd_ge (hT : TB nc st sp) (F : Fo) : ∀ (p q w E n : Nat) (L : List Nat), wf F → vl nc cv F p → (∃ l k, rk F = l ++ [k] ∧ lkB k) → GE (rd st sp cv F p q w E n L) := by
  induction F with
  | add X Y hX hY =>
    intro p q w E n L hw hv hk
    show GE (rd st sp cv Y (p + fs X) q w E n (rd st sp cv X p q w E n L))
    obtain ⟨l, k, h1, h2⟩ := hk
    have h1' : rk X ++ rk Y = l ++ [k] := h1
    rcases List.eq_nil_or_concat (rk Y) with hy | ⟨m, a, hy⟩
    · have y0 : fn Y = 0 := by rw [← rk_len, hy]; rfl
      rw [rd_0 Y _ _ _ _ _ _ y0]
      rw [hy, List.append_nil] at h1'
      exact hX p q w E n L hw.1 hv.1 ⟨l, k, h1', h2⟩
    · rw [List.concat_eq_append] at hy
      rw [hy, ← List.append_assoc] at h1'
      have e : a = k := by
        have := List.append_inj' h1' rfl
        exact (List.cons.inj this.2).1
      exact hY _ q w E n _ hw.2 hv.2 ⟨m, a, hy, by rw [e]; exact h2⟩
  | pow X c hX =>
    intro p q w E n L hw hv hk
    obtain ⟨l, k, h1, h2⟩ := hk
    have ek : c % 32 = k := by
      have h1' : [] ++ [c % 32] = l ++ [k] := h1
      exact (List.cons.inj (List.append_inj' h1' rfl).2).1
    subst ek
    show GE (lvL q (c % 32) p w n (rd st sp cv X (p + 1) (c % 32) p (p + (fs X + 1)) (fn X) (enL st sp cv q (c % 32) p w (p + (fs X + 1)) E n L)))
    unfold lvL
    rw [lk_ed h2, if_neg (by decide)]
    cases hb : brT q (c % 32) p w n with
    | true =>
      have e : ∀ M, cbL true M = 41 :: M := fun M => by
        show tkL 16 M = _
        unfold tkL
        rw [if_neg (by decide), if_pos (by decide)]
        exact pT_x 14 (by decide)
      rw [e]
      exact ge_c (by decide) (by decide) (by decide)
    | false =>
      have e : ∀ M, cbL false M = M := fun M => if_neg (by decide)
      rw [e]
      by_cases a : c % 32 = 9 ∨ c % 32 = 16 ∨ c % 32 = 17
      · have x0 : rk X = [] := hw.1.2.2.2.2.2.2.2.2.2.2.2.2.2 (by omega)
        have f0 : fn X = 0 := by rw [← rk_len, x0]; rfl
        rw [rd_0 X _ _ _ _ _ _ f0]
        exact ge_wd hT a ⟨hv.1, hv.2.1⟩
      · exact hX _ _ _ _ _ _ hw.2 hv.2.2 (ns_last hw.1 h2 (by omega))
  | _ =>
    intro p q w E n L hw hv hk
    obtain ⟨l, k, h1, _⟩ := hk
    have h1' : ([] : List Nat) = l ++ [k] := h1
    exact absurd h1'.symm (List.append_ne_nil_of_right_ne_nil _ (List.cons_ne_nil _ _))
/-- a node within its whole, against the node alone -/
theorem rd_cA {x : Nat × Fo × Nat} {q w E n : Nat} {L : List Nat} (hk : edB (rki x) = false) (hb : brT q (rki x) x.1 w n = brT 99 (rki x) x.1 0 0) : rd st sp cv (rno x) x.1 q w E n L = rd st sp cv (rno x) x.1 99 0 0 0 (tkL (tbT q (rki x) x.1 w (x.1 + rsz x) E) L) := by
  obtain ⟨a, Y, c⟩ := x
  have hk' : edB (c % 32) = false := hk
  have hb' : brT q (c % 32) a w n = brT 99 (c % 32) a 0 0 := hb
  show lvL q (c % 32) a w n (rd st sp cv Y (a + 1) (c % 32) a (a + (fs Y + 1)) (fn Y) (enL st sp cv q (c % 32) a w (a + (fs Y + 1)) E n L)) = lvL 99 (c % 32) a 0 0 (rd st sp cv Y (a + 1) (c % 32) a (a + (fs Y + 1)) (fn Y) (enL st sp cv 99 (c % 32) a 0 (a + (fs Y + 1)) 0 0 (tkL (tbT q (c % 32) a w (a + (fs Y + 1)) E) L)))
  have t0 : ∀ M, tkL 0 M = M := fun M => if_pos rfl
  have tb0 : tbT 99 (c % 32) a 0 (a + (fs Y + 1)) 0 = 0 := if_pos (Or.inl rfl)
  unfold enL lvL
  rw [tb0, t0, hb', hk', if_neg (by decide), if_neg (by decide)]
theorem rd_cB {x : Nat × Fo × Nat} {q w E n : Nat} {L : List Nat} (hk : edB (rki x) = false) (h8 : rki x ≠ 8 ∧ rki x ≠ 15) : rd st sp cv (rno x) x.1 q w E n L = cbL (brT q (rki x) x.1 w n) (rd st sp cv (rno x) x.1 99 0 0 0 (obL (brT q (rki x) x.1 w n) (tkL (tbT q (rki x) x.1 w (x.1 + rsz x) E) L))) := by
  obtain ⟨a, Y, c⟩ := x
  have hk' : edB (c % 32) = false := hk
  have h8' : c % 32 ≠ 8 ∧ c % 32 ≠ 15 := h8
  show lvL q (c % 32) a w n (rd st sp cv Y (a + 1) (c % 32) a (a + (fs Y + 1)) (fn Y) (enL st sp cv q (c % 32) a w (a + (fs Y + 1)) E n L)) = cbL (brT q (c % 32) a w n) (lvL 99 (c % 32) a 0 0 (rd st sp cv Y (a + 1) (c % 32) a (a + (fs Y + 1)) (fn Y) (enL st sp cv 99 (c % 32) a 0 (a + (fs Y + 1)) 0 0 (obL (brT q (c % 32) a w n) (tkL (tbT q (c % 32) a w (a + (fs Y + 1)) E) L)))))
  have t0 : ∀ M, tkL 0 M = M := fun M => if_pos rfl
  have tb0 : tbT 99 (c % 32) a 0 (a + (fs Y + 1)) 0 = 0 := if_pos (Or.inl rfl)
  have br0 : brT 99 (c % 32) a 0 0 = false := by
    unfold brT
    rw [if_neg h8'.2, if_neg h8'.1, if_neg (by decide)]
  have o0 : ∀ M, obL false M = M := fun M => if_neg (by decide)
  have c0 : ∀ M, cbL false M = M := fun M => if_neg (by decide)
  unfold enL lvL
  rw [tb0, t0, br0, o0, c0, hk', if_neg (by decide), if_neg (by decide)]
end BE
