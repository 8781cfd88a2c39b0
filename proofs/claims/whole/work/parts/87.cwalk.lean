-- the class writes a node
theorem inn_gd {c : Nat} (h : innB c = true) : c ≠ 32 ∧ c ≠ 40 ∧ c ≠ 10 := by
  unfold innB letB digB at h
  simp only [Bool.or_eq_true, decide_eq_true_eq] at h
  omega
theorem js_end : ∀ k, k < 25 → k ≠ 22 → 1 ≤ jstrN k ∧ jsn k (jstrN k - 1) ≠ 32 ∧ jsn k (jstrN k - 1) ≠ 10 ∧ (jsn k (jstrN k - 1) = 40 → k = 13) := by decide +kernel
theorem nb_pg {f : Nat → Nat} {n : Nat} {L : List Nat} (hn : 1 ≤ n) (h : f (n - 1) ≠ 32) : nb32 (pg f n L) := by
  cases n with
  | zero => omega
  | succ n => intro c M e; have : f n = c := (List.cons.inj e).1; rw [← this]; exact h
theorem nb_tk {k : Nat} {L : List Nat} (hk : k = 0 ∨ 4 ≤ k ∧ k < 24) (h : nb32 L) : nb32 (tkL k L) := by
  unfold tkL
  by_cases q : k = 0
  · rw [if_pos q]; exact h
  · rw [if_neg q]
    have g := js_end (k - 2) (by omega) (by omega)
    split <;> exact nb_pg g.1 g.2.1
theorem nb_pN {nc : Nat} {st sp : Nat → Nat} (hT : TB nc st sp) {x : Nat} {L : List Nat} (hx : x < nc) : nb32 (pN st sp x L) := by
  have h1 := hT.2.2.2.1 x hx
  have h2 := st_le hT (show x + 1 ≤ nc by omega)
  exact nb_pg (by omega) (inn_gd (hT.2.2.2.2.1.1 _ (by omega))).1
theorem nb_st {v : Nat} {L : List Nat} : nb32 (stL v L) := by
  unfold stL sdL
  by_cases q : v = 0
  · rw [if_pos q, if_pos q]; exact nb_pg (js_end 23 (by decide) (by decide)).1 (js_end 23 (by decide) (by decide)).2.1
  · rw [if_neg q]
    intro c M e
    have : 48 + (v - 1) % 10 = c := (List.cons.inj e).1
    omega
section RX
variable {nc : Nat} {st sp : Nat → Nat} {cv : Nat → Int32} {q k p w e E n : Nat} {L : List Nat}
/-- the value of a name or a sort -/
def vlN (nc : Nat) (cv : Nat → Int32) (k p : Nat) : Prop := ((k = 9 ∨ k = 16) → ∃ x, x < nc ∧ cv p = nI x) ∧ (k = 17 → ∃ v, v ≤ 100 ∧ cv p = nI v)
theorem wd_xn (hT : TB nc st sp) (hk : k < 32) (hv : vlN nc cv k p) : xt L (wdL st sp cv k p L) ∧ (nb32 L → nb32 (wdL st sp cv k p L)) := by
  have hT1 := hT.1
  unfold wdL
  by_cases a : k = 9 ∨ k = 16
  · rw [if_pos a]
    obtain ⟨x, x1, x2⟩ := hv.1 a
    rw [x2, nI_clamp (by omega)]
    exact ⟨xt_t (xt_bl L) (xt_pN hT _ x1), fun _ => nb_pN hT x1⟩
  · rw [if_neg a]
    by_cases b : k = 17
    · rw [if_pos b]
      obtain ⟨v, v1, v2⟩ := hv.2 b
      rw [v2, nI_clamp (by omega)]
      exact ⟨xt_st L v1, fun _ => nb_st⟩
    · rw [if_neg b]
      have g := (fw_ok k hk).2
      exact ⟨xt_tk L (by omega), nb_tk g⟩
theorem ob_xn {b : Bool} : xt L (obL b L) ∧ (nb32 L → nb32 (obL b L)) := by
  unfold obL
  split
  · exact ⟨xt_tk L (by decide), nb_tk (by decide)⟩
  · exact ⟨xt_r L, id⟩
theorem cb_xn {b : Bool} : xt L (cbL b L) ∧ (nb32 L → nb32 (cbL b L)) := by
  unfold cbL
  split
  · exact ⟨xt_tk L (by decide), nb_tk (by decide)⟩
  · exact ⟨xt_r L, id⟩
theorem en_xn (hT : TB nc st sp) (hq : q < 32 ∨ q = 99) (hk : k < 32) (hv : vlN nc cv k p) : xt L (enL st sp cv q k p w e E n L) ∧ (nb32 L → nb32 (enL st sp cv q k p w e E n L)) := by
  unfold enL
  have g := tb_rng (p := p) (w := w) (e := e) (E := E) hq hk
  have a1 : xt L (tkL (tbT q k p w e E) L) ∧ (nb32 L → nb32 (tkL (tbT q k p w e E) L)) := ⟨xt_tk L (by omega), nb_tk g⟩
  have a2 := ob_xn (b := brT q k p w n) (L := tkL (tbT q k p w e E) L)
  have a3 := wd_xn (L := obL (brT q k p w n) (tkL (tbT q k p w e E) L)) hT hk hv
  exact ⟨xt_t a1.1 (xt_t a2.1 a3.1), fun h => a3.2 (a2.2 (a1.2 h))⟩
theorem lv_xn : xt L (lvL q k p w n L) ∧ (nb32 L → nb32 (lvL q k p w n L)) := by
  unfold lvL
  have a2 := cb_xn (b := brT q k p w n) (L := L)
  split
  · have a3 : xt (cbL (brT q k p w n) L) (tkL 22 (cbL (brT q k p w n) L)) := xt_tk _ (by decide)
    split
    · exact ⟨xt_t a2.1 a3, fun h => nb_tk (by decide) (a2.2 h)⟩
    · refine ⟨xt_t a2.1 (xt_t a3 (xt_1 _ (by decide))), fun h c M e => ?_⟩
      have : 10 = c := (List.cons.inj e).1
      omega
  · exact a2
theorem rd_xn (hT : TB nc st sp) (F : Fo) : ∀ (p q w E n : Nat) (L : List Nat), (q < 32 ∨ q = 99) → vl nc cv F p → xt L (rd st sp cv F p q w E n L) ∧ (nb32 L → nb32 (rd st sp cv F p q w E n L)) := by
  induction F with
  | add X Y hX hY =>
    intro p q w E n L hq hv
    have a1 := hX p q w E n L hq hv.1
    have a2 := hY (p + fs X) q w E n (rd st sp cv X p q w E n L) hq hv.2
    exact ⟨xt_t a1.1 a2.1, fun h => a2.2 (a1.2 h)⟩
  | pow X c hX =>
    intro p q w E n L hq hv
    have hk : c % 32 < 32 := Nat.mod_lt _ (by decide)
    have a1 := en_xn (w := w) (e := p + (fs X + 1)) (E := E) (n := n) (L := L) hT hq hk ⟨hv.1, hv.2.1⟩
    have a2 := hX (p + 1) (c % 32) p (p + (fs X + 1)) (fn X) (enL st sp cv q (c % 32) p w (p + (fs X + 1)) E n L) (Or.inl hk) hv.2.2
    have a3 := lv_xn (q := q) (k := c % 32) (p := p) (w := w) (n := n) (L := rd st sp cv X (p + 1) (c % 32) p (p + (fs X + 1)) (fn X) (enL st sp cv q (c % 32) p w (p + (fs X + 1)) E n L))
    exact ⟨xt_t a1.1 (xt_t a2.1 a3.1), fun h => a3.2 (a2.2 (a1.2 h))⟩
  | _ => intro p q w E n L _ _; exact ⟨xt_r L, id⟩
theorem rd_0 (F : Fo) : ∀ (p q w E n : Nat) (L : List Nat), fn F = 0 → rd st sp cv F p q w E n L = L := by
  induction F with
  | add X Y hX hY =>
    intro p q w E n L h
    have h' : fn X + fn Y = 0 := h
    show rd st sp cv Y (p + fs X) q w E n (rd st sp cv X p q w E n L) = L
    rw [hX _ _ _ _ _ _ (by omega), hY _ _ _ _ _ _ (by omega)]
  | pow X c _ => intro p q w E n L h; exact absurd (show 1 = 0 from h) (by decide)
  | _ => intro p q w E n L _; rfl
end RX
theorem ifT : (if true = true then (1 : Int32) else 0) = 1 := rfl
theorem ifF : (if false = true then (1 : Int32) else 0) = 0 := rfl
section CE
variable {ck cp cv cs cn cw csp cst nw ol : Nat → Int32} {st sp P : Nat → Nat} {nc nt p k w q e E n top : Nat} {row : Nat → Int32} {len ov al : Int32} {L : List Nat}
theorem w_word (hT : TB nc st sp) (hR : RNc csp cst nw ol nc st sp) (hnt : nt ≤ 8001) (hp : p < nt) (h1 : ck p = nI k) (hk : k < 32) (hv : vlN nc cv k p) (h : CT row len ov L) (hb : nb32 L) : ∃ row' len' ov', Wr_enter_b30 ck cp cv cs cn cw (nI nt) csp cst (nI nc) row len ov (nI p) = some (row', len', ov') ∧ CT row' len' ov' (wdL st sp cv k p L) := by
  unfold Wr_enter_b30 wdL
  have hT1 := hT.1
  have ne : ∀ c, c < 32 → k ≠ c → ¬ nI k = nI c := fun c hc hn x => hn ((nI_eq (by omega) (by omega)).mp x)
  have b51 : (k = 9 ∨ k = 16) → ∃ row' len' ov', Wr_enter_b51 ck cp cv cs cn cw (nI nt) csp cst (nI nc) row len ov (nI p) = some (row', len', ov') ∧ CT row' len' ov' (pN st sp (cv p).toNatClampNeg (bl L)) := by
    intro a
    obtain ⟨x, x1, x2⟩ := hv.1 a
    obtain ⟨r, l, o, e1, f⟩ := w_name hT hR x1 h hb
    refine ⟨r, l, o, ?_, by rw [x2, nI_clamp (by omega)]; exact f⟩
    unfold Wr_enter_b51
    rw [t_value' hnt hp, jb_some, x2, e1, jb_some]
  rw [t_kind' hnt hp, jb_some, h1]
  by_cases a9 : k = 9
  · rw [if_pos (show nI k = 9 by rw [a9]; rfl), if_pos (Or.inl a9)]; exact b51 (Or.inl a9)
  · rw [if_neg (show ¬ nI k = 9 from ne 9 (by omega) a9)]
    by_cases a16 : k = 16
    · rw [if_pos (show nI k = 16 by rw [a16]; rfl), if_pos (Or.inr a16)]; exact b51 (Or.inr a16)
    · rw [if_neg (show ¬ nI k = 16 from ne 16 (by omega) a16), if_neg (show ¬ (k = 9 ∨ k = 16) by omega)]
      by_cases a17 : k = 17
      · obtain ⟨v, v1, v2⟩ := hv.2 a17
        obtain ⟨r, l, o, e1, f⟩ := w_sort v1 h hb
        rw [if_pos (show nI k = 17 by rw [a17]; rfl), if_pos a17, t_value' hnt hp, jb_some, v2, e1, jb_some, nI_clamp (by omega)]
        exact ⟨r, l, o, rfl, f⟩
      · obtain ⟨g1, g2⟩ := fw_ok k hk
        obtain ⟨r, l, o, e1, f⟩ := w_token g2 h hb
        rw [if_neg (show ¬ nI k = 17 from ne 17 (by omega) a17), if_neg a17, g1, jb_some, e1, jb_some]
        exact ⟨r, l, o, rfl, f⟩
theorem w_enter (hT : TB nc st sp) (hR : RNc csp cst nw ol nc st sp) (hnt : nt ≤ 8001) (hp : p < nt) (h1 : ck p = nI k) (hk : k < 32) (hv : vlN nc cv k p) (hB : f_Wr_hasBrackets ck cp cv cs cn cw (nI nt) (nI p) al = some (if brT q k p w n = true then 1 else 0)) (ht : al = 1 ∧ q = 99 ∨ al = 0 ∧ q < 32 ∧ f_Wr_tokenBefore ck cs cw (nI nt) (nI p) = some (nI (tbT q k p w e E))) (h : CT row len ov L) (hb : nb32 L) : ∃ row' len' ov', f_Wr_enter ck cp cv cs cn cw (nI nt) csp cst (nI nc) row len ov (nI p) al = some (row', len', ov') ∧ CT row' len' ov' (enL st sp cv q k p w e E n L) := by
  have b14 : ∀ {row len ov L}, CT row len ov L → nb32 L → ∃ row' len' ov', Wr_enter_b14 ck cp cv cs cn cw (nI nt) csp cst (nI nc) row len ov (nI p) al = some (row', len', ov') ∧ CT row' len' ov' (wdL st sp cv k p (obL (brT q k p w n) L)) := by
    intro row len ov L h hb
    unfold Wr_enter_b14 obL
    rw [hB, jb_some]
    cases brT q k p w n with
    | false =>
      rw [ifF, if_pos rfl, if_neg (show ¬ (false = true) by decide)]
      exact w_word hT hR hnt hp h1 hk hv h hb
    | true =>
      obtain ⟨r, l, o, e1, f⟩ := w_token (k := 15) (by decide) h hb
      rw [ifT, if_neg n10, if_pos (show true = true from rfl), show f_Wr_putToken row len ov 15 = _ from e1, jb_some]
      exact w_word hT hR hnt hp h1 hk hv f (nb_tk (by decide) hb)
  unfold f_Wr_enter enL
  rcases ht with ⟨a1, a2⟩ | ⟨a1, a2, a3⟩
  · subst a1 a2
    have e0 : tbT 99 k p w e E = 0 := if_pos (Or.inl rfl)
    rw [if_neg n10, e0]
    exact b14 h hb
  · subst a1
    have g := tb_rng (p := p) (w := w) (e := e) (E := E) (Or.inl a2) hk
    obtain ⟨r, l, o, e1, f⟩ := w_token g h hb
    rw [if_pos rfl, a3, jb_some, e1, jb_some]
    exact b14 f (nb_tk g hb)
theorem w_leave (hnt : nt ≤ 8001) (hp : p < nt) (h1 : ck p = nI k) (hk : k < 32) (hB : f_Wr_hasBrackets ck cp cv cs cn cw (nI nt) (nI p) al = some (if brT q k p w n = true then 1 else 0)) (ht : al = 1 ∧ q = 99 ∨ al = 0 ∧ q < 32) (h : CT row len ov L) (hb : nb32 L) : ∃ row' len' ov', f_Wr_leave ck cp cv cs cn cw (nI nt) row len ov (nI p) al = some (row', len', ov') ∧ CT row' len' ov' (lvL q k p w n L) := by
  have b15 : ∀ {row len ov L}, CT row len ov L → nb32 L → ∃ row' len' ov', Wr_leave_b15 ck cp cv cs cn cw (nI nt) row len ov (nI p) al = some (row', len', ov') ∧ CT row' len' ov' (if edB k = true then (if q = 99 then tkL 22 L else 10 :: tkL 22 L) else L) := by
    intro row len ov L h hb
    unfold Wr_leave_b15
    rw [t_kind' hnt hp, jb_some, h1, ed_ok k hk, jb_some]
    cases edB k with
    | false =>
      rw [ifF, if_pos rfl, if_neg (show ¬ (false = true) by decide)]
      exact ⟨_, _, _, rfl, h⟩
    | true =>
      obtain ⟨r, l, o, e1, f⟩ := w_token (k := 22) (by decide) h hb
      rw [ifT, if_neg n10, if_pos (show true = true from rfl), show f_Wr_putToken row len ov 22 = _ from e1, jb_some]
      rcases ht with ⟨a1, a2⟩ | ⟨a1, a2⟩
      · subst a1 a2
        rw [if_neg n10, if_pos rfl]
        exact ⟨_, _, _, rfl, f⟩
      · subst a1
        obtain ⟨r2, l2, o2, e2, f2⟩ := w_put (c := 10) f (by decide)
        rw [if_pos rfl, if_neg (by omega), show f_By_put r l o 10 = _ from e2, jb_some]
        exact ⟨_, _, _, rfl, f2⟩
  unfold f_Wr_leave lvL
  rw [hB, jb_some]
  unfold cbL
  cases brT q k p w n with
  | false =>
    rw [ifF, if_pos rfl, if_neg (show ¬ (false = true) by decide)]
    exact b15 h hb
  | true =>
    obtain ⟨r, l, o, e1, f⟩ := w_token (k := 16) (by decide) h hb
    rw [ifT, if_neg n10, if_pos (show true = true from rfl), show f_Wr_putToken row len ov 16 = _ from e1, jb_some]
    exact b15 f (nb_tk (by decide) hb)
/-- entering a node -/
theorem k_in {s z : Nat} (hnt : nt ≤ 8001) (hp : p < nt) (hal : al = if p = top then 1 else 0) (htop : top < nt) (hs : s < 100000) (hz : cs p = nI z) (hz2 : z ≤ 8001) {o : (Nat → Int32) × Int32 × Int32} (ho : ov = 0) (he : f_Wr_enter ck cp cv cs cn cw (nI nt) csp cst (nI nc) row len ov (nI p) al = some o) :
    Wr_walk_b15_b ck cp cv cs cn cw (nI nt) csp cst (nI nc) (nI top) (row, len, ov, nI p, 1, nI (s + 1)) = some (.inl (o.1, o.2.1, o.2.2, if z ≤ 1 then nI p else nI (p + 1), if z ≤ 1 then 0 else 1, nI s)) := by
  show Wr_walk_b15_s ck cp cv cs cn cw (nI nt) csp cst (nI nc) (nI top) row len ov (nI p) 1 (nI (s + 1)) = _
  unfold Wr_walk_b15_s
  subst ho
  have em : nI (s + 1) + -1 = nI s := by rw [← Int32.sub_eq_add_neg]; exact nI_pred s
  have key : Wr_walk_b41 ck cp cv cs cn cw (nI nt) csp cst (nI nc) row len 0 (nI top) (nI p) 1 (nI (s + 1)) al = some (.inl (o.1, o.2.1, o.2.2, if z ≤ 1 then nI p else nI (p + 1), if z ≤ 1 then 0 else 1, nI s)) := by
    unfold Wr_walk_b41
    rw [if_neg n10, he, jb_some, t_size' hnt hp, jb_some, hz]
    by_cases a : z ≤ 1
    · rw [if_pos (show nI z ≤ 1 from nI_le (a := z) (b := 1) a (by omega)), if_pos a, if_pos a]
      unfold Wr_walk_b73 Wr_walk_b89 Wr_walk_b149
      rw [if_pos rfl, em]
    · rw [if_neg (show ¬ nI z ≤ 1 from nI_ge (b := z) (a := 1) (by omega) (by omega)), if_neg a, if_neg a]
      unfold Wr_walk_b73 Wr_walk_b89 Wr_walk_b149
      rw [if_neg n10, em, nI_1]
  rw [if_neg (nI_nle (by omega) (by omega)), if_pos rfl]
  by_cases a : p = top
  · rw [if_pos (show nI p = nI top by rw [a])]
    rw [hal, if_pos a] at key
    exact key
  · rw [if_neg (fun x => a ((nI_eq (by omega) (by omega)).mp x))]
    rw [hal, if_neg a] at key
    exact key
/-- leaving a node -/
theorem k_out {s z sw : Nat} (hnt : nt ≤ 8001) (hp : p < nt) (hpt : top < p) (hs : s < 100000) (hw : w < p) (h5 : cw p = nI w) (hz : cs p = nI z) (h4 : cs w = nI sw) (hz2 : z ≤ 8001) (hsw : sw ≤ 8001) {o : (Nat → Int32) × Int32 × Int32} (ho : ov = 0) (he : f_Wr_leave ck cp cv cs cn cw (nI nt) row len ov (nI p) 0 = some o) :
    Wr_walk_b15_b ck cp cv cs cn cw (nI nt) csp cst (nI nc) (nI top) (row, len, ov, nI p, 0, nI (s + 1)) = some (.inl (o.1, o.2.1, o.2.2, if p + z = w + sw then nI w else nI (p + z), if p + z = w + sw then 0 else 1, nI s)) := by
  show Wr_walk_b15_s ck cp cv cs cn cw (nI nt) csp cst (nI nc) (nI top) row len ov (nI p) 0 (nI (s + 1)) = _
  unfold Wr_walk_b15_s
  subst ho
  have em : nI (s + 1) + -1 = nI s := by rw [← Int32.sub_eq_add_neg]; exact nI_pred s
  rw [if_neg (nI_nle (by omega) (by omega)), if_pos rfl, if_neg (fun x => by have := (nI_eq (by omega) (by omega)).mp x; omega)]
  unfold Wr_walk_b41
  rw [if_pos rfl, he, jb_some, if_pos rfl, t_last' hnt hp hw h5 hz h4 hz2 hsw, jb_some]
  by_cases a : p + z = w + sw
  · rw [if_pos a, if_neg n10, if_pos a, if_pos a]
    unfold Wr_walk_b121 Wr_walk_b122 Wr_walk_b147 Wr_walk_b149
    rw [if_pos rfl, t_whole' hnt hp, jb_some, h5, em]
  · rw [if_neg a, if_pos rfl, if_neg a, if_neg a]
    unfold Wr_walk_b122 Wr_walk_b147 Wr_walk_b149
    rw [if_neg n10, t_size' hnt hp, jb_some, hz, nI_add, em]
theorem k_outA (hnt : nt ≤ 8001) (hp : p < nt) {o : (Nat → Int32) × Int32 × Int32} (ho : ov = 0) (he : f_Wr_leave ck cp cv cs cn cw (nI nt) row len ov (nI p) 1 = some o) :
    Wr_walk_b15_b ck cp cv cs cn cw (nI nt) csp cst (nI nc) (nI p) (row, len, ov, nI p, 0, nI (0 + 1)) = some (.inl (o.1, o.2.1, o.2.2, cw p, 0, nI 0)) := by
  show Wr_walk_b15_s ck cp cv cs cn cw (nI nt) csp cst (nI nc) (nI p) row len ov (nI p) 0 (nI (0 + 1)) = _
  unfold Wr_walk_b15_s
  subst ho
  have em : nI (0 + 1) + -1 = nI 0 := by decide
  rw [if_neg (nI_nle (by omega) (by omega)), if_pos rfl, if_pos rfl]
  unfold Wr_walk_b41
  rw [if_pos rfl, he, jb_some, if_neg n10]
  unfold Wr_walk_b121 Wr_walk_b122 Wr_walk_b147 Wr_walk_b149
  rw [if_pos rfl, t_whole' hnt hp, jb_some, em]
/-- a draft that is too long ends the walk -/
theorem k_over {a d s : Int32} (h : CT row len ov L) (hl : 8000 < L.length) : jl (Wr_walk_b15_b ck cp cv cs cn cw (nI nt) csp cst (nI nc) (nI top)) (row, len, ov, a, d, s) = some (row, len, ov) := by
  apply jl_done
  show Wr_walk_b15_s ck cp cv cs cn cw (nI nt) csp cst (nI nc) (nI top) row len ov a d s = _
  unfold Wr_walk_b15_s
  have e : ov = 1 := by rw [h.2.2.1, if_pos hl]
  subst e
  by_cases z : s ≤ 0
  · rw [if_pos z]
  · rw [if_neg z, if_neg n10]
theorem k_end {a d : Int32} : jl (Wr_walk_b15_b ck cp cv cs cn cw (nI nt) csp cst (nI nc) (nI top)) (row, len, ov, a, d, nI 0) = some (row, len, ov) := by
  apply jl_done
  show Wr_walk_b15_s ck cp cv cs cn cw (nI nt) csp cst (nI nc) (nI top) row len ov a d (nI 0) = _
  unfold Wr_walk_b15_s
  rw [if_pos (by decide)]
/-- how the walk goes on, or has ended -/
def GO (ck cp cv cs cn cw csp cst : Nat → Int32) (nt nc top : Nat) (x : (Nat → Int32) × Int32 × Int32 × Int32 × Int32 × Int32) (a d s : Int32) (L : List Nat) : Prop := ∃ row len ov, CT row len ov L ∧ (jl (Wr_walk_b15_b ck cp cv cs cn cw (nI nt) csp cst (nI nc) (nI top)) x = jl (Wr_walk_b15_b ck cp cv cs cn cw (nI nt) csp cst (nI nc) (nI top)) (row, len, ov, a, d, s) ∨ 8000 < L.length ∧ jl (Wr_walk_b15_b ck cp cv cs cn cw (nI nt) csp cst (nI nc) (nI top)) x = some (row, len, ov))
theorem GO_t {x : (Nat → Int32) × Int32 × Int32 × Int32 × Int32 × Int32} {a d s a' d' s' : Int32} {M : List Nat} (h : GO ck cp cv cs cn cw csp cst nt nc top x a d s L) (hx : xt L M) (h' : ∀ row len ov, CT row len ov L → GO ck cp cv cs cn cw csp cst nt nc top (row, len, ov, a, d, s) a' d' s' M) : GO ck cp cv cs cn cw csp cst nt nc top x a' d' s' M := by
  obtain ⟨r, l, o, h1, h2⟩ := h
  rcases h2 with h2 | ⟨h2, h3⟩
  · obtain ⟨r', l', o', g1, g2⟩ := h' r l o h1
    refine ⟨r', l', o', g1, ?_⟩
    rcases g2 with g2 | ⟨g2, g3⟩
    · exact Or.inl (h2.trans g2)
    · exact Or.inr ⟨g2, h2.trans g3⟩
  · obtain ⟨A, hA, hA2⟩ := hx
    refine ⟨r, l, o, CT_ov h1 h2 ⟨A, hA, hA2⟩, Or.inr ⟨?_, h3⟩⟩
    rw [hA, List.length_append]
    omega
/-- one step, if the draft is not too long yet -/
theorem GO_1 {a d s a' d' s' : Int32} {M : List Nat} (h : CT row len ov L) (hx : xt L M) (h' : L.length ≤ 8000 → ov = 0 → ∃ row' len' ov', CT row' len' ov' M ∧ Wr_walk_b15_b ck cp cv cs cn cw (nI nt) csp cst (nI nc) (nI top) (row, len, ov, a, d, s) = some (.inl (row', len', ov', a', d', s'))) : GO ck cp cv cs cn cw csp cst nt nc top (row, len, ov, a, d, s) a' d' s' M := by
  rcases Nat.lt_or_ge 8000 L.length with q | q
  · obtain ⟨A, hA, hA2⟩ := hx
    exact ⟨row, len, ov, CT_ov h q ⟨A, hA, hA2⟩, Or.inr ⟨by rw [hA, List.length_append]; omega, k_over h q⟩⟩
  · obtain ⟨r, l, o, g1, g2⟩ := h' q (by rw [h.2.2.1, if_neg (by omega)])
    exact ⟨r, l, o, g1, Or.inl (jl_step g2)⟩
theorem GO_e {x : (Nat → Int32) × Int32 × Int32 × Int32 × Int32 × Int32} {a d s a' d' s' : Int32} (h : GO ck cp cv cs cn cw csp cst nt nc top x a d s L) (h1 : a = a') (h2 : d = d') (h3 : s = s') : GO ck cp cv cs cn cw csp cst nt nc top x a' d' s' L := by subst h1 h2 h3; exact h
theorem wk_F (hT : TB nc st sp) (hR : RNc csp cst nw ol nc st sp) (hnt : nt ≤ 8001) (F : Fo) : ∀ (p w q E n : Nat) (L : List Nat) (row : Nat → Int32) (len ov : Int32) (s : Nat), 0 < fn F → pr P ck cp cs cw F p (nI w) → pc cn F p → vl nc cv F p → w < p → top ≤ w → ck w = nI q → q < 32 → w ≤ E → cs w = nI (E - w) → p + fs F ≤ E → E ≤ nt → cn w = nI n → n ≤ 8001 → s + 2 * fs F < 100000 → nb32 L → CT row len ov L →
    GO ck cp cv cs cn cw csp cst nt nc top (row, len, ov, nI p, 1, nI (s + 2 * fs F)) (if p + fs F = E then nI w else nI (p + fs F)) (if p + fs F = E then 0 else 1) (nI s) (rd st sp cv F p q w E n L) := by
  induction F with
  | add X Y hX hY =>
    intro p w q E n L row len ov s hn h1 h2 h3 hw ht hq hq2 hwE hsw hE hEn hcn hn2 hs hb hC
    have hn' : 0 < fn X + fn Y := hn
    have hE' : p + (fs X + fs Y) ≤ E := hE
    have hs' : s + 2 * (fs X + fs Y) < 100000 := hs
    show GO _ _ _ _ _ _ _ _ _ _ _ (row, len, ov, nI p, 1, nI (s + 2 * (fs X + fs Y))) (if p + (fs X + fs Y) = E then nI w else nI (p + (fs X + fs Y))) (if p + (fs X + fs Y) = E then 0 else 1) (nI s) (rd st sp cv Y (p + fs X) q w E n (rd st sp cv X p q w E n L))
    rcases Nat.eq_zero_or_pos (fn X) with x0 | x0
    · have f0 := fs_0 X x0
      rw [rd_0 X _ _ _ _ _ _ x0, f0, Nat.zero_add, Nat.add_zero]
      have h12 := h1.2
      have h22 := h2.2
      have h32 := h3.2
      rw [f0, Nat.add_zero] at h12 h22 h32
      exact hY p w q E n L row len ov s (by omega) h12 h22 h32 hw ht hq hq2 hwE hsw (by omega) hEn hcn hn2 (by omega) hb hC
    · rcases Nat.eq_zero_or_pos (fn Y) with y0 | y0
      · have f0 := fs_0 Y y0
        rw [rd_0 Y _ _ _ _ _ _ y0, f0, Nat.add_zero]
        exact hX p w q E n L row len ov s x0 h1.1 h2.1 h3.1 hw ht hq hq2 hwE hsw (by omega) hEn hcn hn2 (by omega) hb hC
      · have fy := fn_fs Y
        have xx := rd_xn (cv := cv) hT X p q w E n L (Or.inl hq2) h3.1
        have xy := rd_xn (cv := cv) hT Y (p + fs X) q w E n (rd st sp cv X p q w E n L) (Or.inl hq2) h3.2
        have g1 := hX p w q E n L row len ov (s + 2 * fs Y) x0 h1.1 h2.1 h3.1 hw ht hq hq2 hwE hsw (by omega) hEn hcn hn2 (by omega) hb hC
        rw [show s + 2 * fs Y + 2 * fs X = s + 2 * (fs X + fs Y) by omega, if_neg (by omega), if_neg (by omega)] at g1
        refine GO_t g1 xy.1 (fun r l o hc => ?_)
        have g2 := hY (p + fs X) w q E n (rd st sp cv X p q w E n L) r l o s y0 h1.2 h2.2 h3.2 (by omega) ht hq hq2 hwE hsw (by omega) hEn hcn hn2 (by omega) (xx.2 hb) hc
        rw [Nat.add_assoc] at g2
        exact g2
  | pow X c hX =>
    intro p w q E n L row len ov s hn h1 h2 h3 hw ht hq hq2 hwE hsw hE hEn hcn hn2 hs hb hC
    obtain ⟨a1, a2, a3, a4, a5⟩ := h1
    obtain ⟨b1, b2⟩ := h2
    obtain ⟨c1, c2, c3⟩ := h3
    have hE' : p + (fs X + 1) ≤ E := hE
    have hs' : s + 2 * (fs X + 1) < 100000 := hs
    have hk : c % 32 < 32 := Nat.mod_lt _ (by decide)
    have hpt : p < nt := by omega
    have hfn := fn_fs X
    have hv : vlN nc cv (c % 32) p := ⟨c1, c2⟩
    have hB := br_ok (cp := cp) (cv := cv) (cs := cs) hnt hpt hw a1 hk hq hq2 hcn hn2 a4
    have hTb := tb_ok hnt hpt hw a1 hk hq hq2 a3 hsw (by omega) (by omega) a4
    rw [show w + (E - w) = E by omega] at hTb
    have xe := en_xn (w := w) (e := p + (fs X + 1)) (E := E) (n := n) (L := L) hT (Or.inl hq2) hk hv
    have xr := rd_xn (cv := cv) hT X (p + 1) (c % 32) p (p + (fs X + 1)) (fn X) (enL st sp cv q (c % 32) p w (p + (fs X + 1)) E n L) (Or.inl hk) c3
    have xl := lv_xn (q := q) (k := c % 32) (p := p) (w := w) (n := n) (L := rd st sp cv X (p + 1) (c % 32) p (p + (fs X + 1)) (fn X) (enL st sp cv q (c % 32) p w (p + (fs X + 1)) E n L))
    show GO _ _ _ _ _ _ _ _ _ _ _ (row, len, ov, nI p, 1, nI (s + 2 * (fs X + 1))) (if p + (fs X + 1) = E then nI w else nI (p + (fs X + 1))) (if p + (fs X + 1) = E then 0 else 1) (nI s) (lvL q (c % 32) p w n (rd st sp cv X (p + 1) (c % 32) p (p + (fs X + 1)) (fn X) (enL st sp cv q (c % 32) p w (p + (fs X + 1)) E n L)))
    -- in
    have st1 : GO ck cp cv cs cn cw csp cst nt nc top (row, len, ov, nI p, 1, nI (s + 2 * (fs X + 1))) (if fs X + 1 ≤ 1 then nI p else nI (p + 1)) (if fs X + 1 ≤ 1 then 0 else 1) (nI (s + 2 * fs X + 1)) (enL st sp cv q (c % 32) p w (p + (fs X + 1)) E n L) := by
      refine GO_1 hC xe.1 (fun hl ho => ?_)
      obtain ⟨r, l, o, e1, f⟩ := w_enter (al := 0) (n := n) hT hR hnt hpt a1 hk hv hB (Or.inr ⟨rfl, hq2, hTb⟩) hC hb
      refine ⟨r, l, o, f, ?_⟩
      have g := k_in (top := top) (s := s + 2 * fs X + 1) (z := fs X + 1) hnt hpt (by rw [if_neg (by omega)]) (by omega) (by omega) a3 (by omega) ho e1
      rw [show s + 2 * fs X + 1 + 1 = s + 2 * (fs X + 1) by omega] at g
      exact g
    -- its parts
    have st2 : GO ck cp cv cs cn cw csp cst nt nc top (row, len, ov, nI p, 1, nI (s + 2 * (fs X + 1))) (nI p) 0 (nI (s + 1)) (rd st sp cv X (p + 1) (c % 32) p (p + (fs X + 1)) (fn X) (enL st sp cv q (c % 32) p w (p + (fs X + 1)) E n L)) := by
      rcases Nat.eq_zero_or_pos (fn X) with x0 | x0
      · have f0 := fs_0 X x0
        rw [rd_0 X _ _ _ _ _ _ x0]
        refine GO_e st1 (if_pos (by omega)) (if_pos (by omega)) ?_
        rw [f0]
      · rw [if_neg (by omega), if_neg (by omega)] at st1
        refine GO_t st1 xr.1 (fun r l o hc => ?_)
        have g := hX (p + 1) p (c % 32) (p + (fs X + 1)) (fn X) (enL st sp cv q (c % 32) p w (p + (fs X + 1)) E n L) r l o (s + 1) x0 a5 b2 c3 (by omega) (by omega) a1 hk (by omega) (by rw [a3, show p + (fs X + 1) - p = fs X + 1 by omega]) (by omega) (by omega) b1 (by omega) (by omega) (xe.2 hb) hc
        rw [if_pos (by omega), if_pos (by omega), show s + 1 + 2 * fs X = s + 2 * fs X + 1 by omega] at g
        exact g
    -- out
    refine GO_t st2 xl.1 (fun r l o hc => ?_)
    refine GO_1 hc xl.1 (fun hl ho => ?_)
    obtain ⟨r2, l2, o2, e1, f⟩ := w_leave (al := 0) (w := w) (n := n) hnt hpt a1 hk hB (Or.inr ⟨rfl, hq2⟩) hc (xr.2 (xe.2 hb))
    refine ⟨r2, l2, o2, f, ?_⟩
    have g := k_out (csp := csp) (cst := cst) (nc := nc) (top := top) (s := s) hnt hpt (by omega) (by omega) hw a4 a3 hsw (by omega) (by omega) ho e1
    rw [show w + (E - w) = E by omega] at g
    exact g
  | _ => intro p w q E n L row len ov s hn; exact absurd hn (by show ¬ 0 < 0; omega)
/-- the class's walk over a node alone -/
theorem w_walk (hT : TB nc st sp) (hR : RNc csp cst nw ol nc st sp) (hnt : nt ≤ 8001) {X : Fo} {c : Nat} {wh : Int32} (h1 : pr P ck cp cs cw (.pow X c) p wh) (h5 : wh = -1 ∨ ∃ w, w < p ∧ wh = nI w) (h2 : pc cn (.pow X c) p) (h3 : vl nc cv (.pow X c) p) (hE : p + (fs X + 1) ≤ nt) : ∃ row' len' ov', f_Wr_walk ck cp cv cs cn cw (nI nt) csp cst (nI nc) row 0 0 (nI p) = some (row', len', ov') ∧ CT row' len' ov' (rd st sp cv (.pow X c) p 99 0 0 0 []) := by
  obtain ⟨a1, a2, a3, a4, a5⟩ := h1
  obtain ⟨b1, b2⟩ := h2
  obtain ⟨c1, c2, c3⟩ := h3
  have hk : c % 32 < 32 := Nat.mod_lt _ (by decide)
  have hpt : p < nt := by omega
  have hfn := fn_fs X
  have hv : vlN nc cv (c % 32) p := ⟨c1, c2⟩
  have hb : nb32 [] := fun c M e => by cases e
  have hC : CT row 0 0 [] := CT_nil
  have hB := br_al (cp := cp) (cv := cv) (cs := cs) (cn := cn) (cw := cw) (w := 0) (n := 0) hnt hpt a1 hk (by rw [a4]; exact h5)
  have xe := en_xn (q := 99) (w := 0) (e := p + (fs X + 1)) (E := 0) (n := 0) (L := []) hT (Or.inr rfl) hk hv
  have xr := rd_xn (cv := cv) hT X (p + 1) (c % 32) p (p + (fs X + 1)) (fn X) (enL st sp cv 99 (c % 32) p 0 (p + (fs X + 1)) 0 0 []) (Or.inl hk) c3
  have xl := lv_xn (q := 99) (k := c % 32) (p := p) (w := 0) (n := 0) (L := rd st sp cv X (p + 1) (c % 32) p (p + (fs X + 1)) (fn X) (enL st sp cv 99 (c % 32) p 0 (p + (fs X + 1)) 0 0 []))
  have st1 : GO ck cp cv cs cn cw csp cst nt nc p (row, 0, 0, nI p, 1, nI (2 * (fs X + 1))) (if fs X + 1 ≤ 1 then nI p else nI (p + 1)) (if fs X + 1 ≤ 1 then 0 else 1) (nI (2 * fs X + 1)) (enL st sp cv 99 (c % 32) p 0 (p + (fs X + 1)) 0 0 []) := by
    refine GO_1 hC xe.1 (fun hl ho => ?_)
    obtain ⟨r, l, o, e1, f⟩ := w_enter (al := 1) (w := 0) (n := 0) (e := p + (fs X + 1)) (E := 0) hT hR hnt hpt a1 hk hv hB (Or.inl ⟨rfl, rfl⟩) hC hb
    refine ⟨r, l, o, f, ?_⟩
    have g := k_in (top := p) (s := 2 * fs X + 1) (z := fs X + 1) hnt hpt (by rw [if_pos rfl]) (by omega) (by omega) a3 (by omega) ho e1
    rw [show 2 * fs X + 1 + 1 = 2 * (fs X + 1) by omega] at g
    exact g
  have st2 : GO ck cp cv cs cn cw csp cst nt nc p (row, 0, 0, nI p, 1, nI (2 * (fs X + 1))) (nI p) 0 (nI (0 + 1)) (rd st sp cv X (p + 1) (c % 32) p (p + (fs X + 1)) (fn X) (enL st sp cv 99 (c % 32) p 0 (p + (fs X + 1)) 0 0 [])) := by
    rcases Nat.eq_zero_or_pos (fn X) with x0 | x0
    · have f0 := fs_0 X x0
      rw [rd_0 X _ _ _ _ _ _ x0]
      refine GO_e st1 (if_pos (by omega)) (if_pos (by omega)) ?_
      rw [f0]
    · have f1 := fn_fs X
      rw [if_neg (by omega), if_neg (by omega)] at st1
      refine GO_t st1 xr.1 (fun r l o hc => ?_)
      have g := wk_F (P := P) (nw := nw) (ol := ol) (top := p) hT hR hnt X (p + 1) p (c % 32) (p + (fs X + 1)) (fn X) (enL st sp cv 99 (c % 32) p 0 (p + (fs X + 1)) 0 0 []) r l o 1 x0 a5 b2 c3 (by omega) (by omega) a1 hk (by omega) (by rw [a3, show p + (fs X + 1) - p = fs X + 1 by omega]) (by omega) (by omega) b1 (by omega) (by omega) (xe.2 hb) hc
      rw [if_pos (by omega), if_pos (by omega), show 1 + 2 * fs X = 2 * fs X + 1 by omega] at g
      exact g
  have st3 : GO ck cp cv cs cn cw csp cst nt nc p (row, 0, 0, nI p, 1, nI (2 * (fs X + 1))) (cw p) 0 (nI 0) (rd st sp cv (.pow X c) p 99 0 0 0 []) := by
    refine GO_t st2 xl.1 (fun r l o hc => ?_)
    refine GO_1 hc xl.1 (fun hl ho => ?_)
    obtain ⟨r2, l2, o2, e1, f⟩ := w_leave (al := 1) (w := 0) (n := 0) hnt hpt a1 hk hB (Or.inl ⟨rfl, rfl⟩) hc (xr.2 (xe.2 hb))
    exact ⟨r2, l2, o2, f, k_outA (csp := csp) (cst := cst) (nc := nc) hnt hpt ho e1⟩
  obtain ⟨r, l, o, g1, g2⟩ := st3
  refine ⟨r, l, o, ?_, g1⟩
  unfold f_Wr_walk
  have e2 : (2 : Int32) * nI (fs X + 1) = nI (2 * (fs X + 1)) := by have := pk_mul 2 (fs X + 1); exact this
  rw [t_size' hnt hpt, jb_some, a3, e2]
  unfold Wr_walk_b15
  rcases g2 with g2 | ⟨_, g2⟩
  · rw [g2]; exact k_end
  · exact g2
end CE
