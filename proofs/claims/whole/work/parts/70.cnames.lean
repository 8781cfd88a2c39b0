-- the class's number of a name
section NN
variable {st sp B : Nat → Nat} {a w nc : Nat} {row csp cst nw ol : Nat → Int32} {len : Int32} {n : Nat}
theorem bb_lo : ∀ c, c < 128 → bb c = nI c := by decide +kernel
theorem c_byteOf (hT : TB nc st sp) (hR : RNc csp cst nw ol nc st sp) {k j : Nat} (hk : k < nc) (hj : j < st (k + 1) - st k) : f_Na_byteOf csp cst (nI nc) (nI k) (nI j) = some (nI (sp (st k + j))) := by
  have h1 := hT.1
  have h2 := hT.2.1
  have h6 := st_le hT (show k + 1 ≤ nc by omega)
  have h7 := hT.2.2.2.1 k hk
  unfold f_Na_byteOf
  rw [if_neg (nI_pos (by omega)), p_lengthOf h1 h2 hT.2.2.2.1 hR.1 hk, jb_some, if_neg (by rw [nI_leI (by omega) (by omega)]; omega), if_neg (nI_in (show k < 4097 by omega) (by decide)), nI_clamp (by omega), hR.1 k (by omega), nI_add, if_neg (nI_in (show st k + j < 12288 by omega) (by decide)), nI_clamp (by omega), hR.2.1 _ (by omega)]
theorem c_isSpelt (hT : TB nc st sp) (hR : RNc csp cst nw ol nc st sp) (h : RB row len B n) (hn : a + w ≤ n) {k : Nat} (hk : k < nc) : f_Na_isSpelt csp cst (nI nc) row len (nI k) (nI a) (nI w) = some (if smB st sp B a w k = true then 1 else 0) := by
  have h1 := hT.1
  have h2 := hT.2.1
  have hb := h.1
  have h6 := st_le hT (show k + 1 ≤ nc by omega)
  have h7 := hT.2.2.2.1 k hk
  unfold f_Na_isSpelt
  rw [p_lengthOf h1 h2 hT.2.2.2.1 hR.1 hk, jb_some]
  by_cases q : st (k + 1) - st k = w
  · rw [if_pos (by rw [q])]
    have key : ∀ f j, w = j + f → (∀ j', j' < j → sp (st k + j') = B (a + j')) → jl (Na_isSpelt_b15_b csp cst (nI nc) row len (nI k) (nI a) (nI w)) (nI j) = some (if smB st sp B a w k = true then 1 else 0) := by
      intro f
      induction f with
      | zero =>
        intro j hj hs
        have ej : j = w := by omega
        subst ej
        rw [if_pos (smB_iff.mpr ⟨q, hs⟩)]
        apply jl_done
        show Na_isSpelt_b15_s csp cst (nI nc) row len (nI k) (nI a) (nI j) (nI j) = _
        unfold Na_isSpelt_b15_s
        rw [if_pos (nI_le (Nat.le_refl _) (by omega)), nb1]
      | succ f ih =>
        intro j hj hs
        have e1 := c_byteOf hT hR hk (show j < st (k + 1) - st k by omega)
        have e2 := p_at h (show a + j < n by omega)
        have e3 := inn_lt (hT.2.2.2.2.1.1 (st k + j) (by omega))
        have e4 := (h.2.2 (a + j) (by omega)).1
        by_cases r : sp (st k + j) = B (a + j)
        · have body : Na_isSpelt_b15_b csp cst (nI nc) row len (nI k) (nI a) (nI w) (nI j) = some (.inl (nI (j + 1))) := by
            show Na_isSpelt_b15_s csp cst (nI nc) row len (nI k) (nI a) (nI w) (nI j) = _
            unfold Na_isSpelt_b15_s
            rw [if_neg (nI_ge (by omega) (by omega)), e1, jb_some, nI_add, e2, jb_some, if_pos (by rw [r]), nI_1]
          rw [jl_step body]
          exact ih (j + 1) (by omega) (fun j' hj' => by
            by_cases e : j' = j
            · rw [e]; exact r
            · exact hs j' (by omega))
        · rw [if_neg (show ¬ smB st sp B a w k = true from fun s => r ((smB_iff.mp s).2 j (by omega)))]
          apply jl_done
          show Na_isSpelt_b15_s csp cst (nI nc) row len (nI k) (nI a) (nI w) (nI j) = _
          unfold Na_isSpelt_b15_s
          rw [if_neg (nI_ge (by omega) (by omega)), e1, jb_some, nI_add, e2, jb_some, if_neg (fun e => r ((nI_eq (by omega) (by omega)).mp e)), nb0]
    exact key w 0 (by omega) (fun j' hj' => absurd hj' (by omega))
  · rw [if_neg (fun e => q ((nI_eq (by omega) (by omega)).mp e)), if_neg (show ¬ smB st sp B a w k = true from fun s => q (smB_iff.mp s).1), nb0]
theorem bk_lt : bkE B a w < 1024 := Nat.mod_lt _ (by decide)
theorem bk_sm {k : Nat} (s : smN st sp B a w k) : bkE sp (st k) (st (k + 1) - st k) = bkE B a w := by
  unfold bkE
  rw [s.1, hv_eq w s.2]
/-- the name that was found is the least one -/
theorem fd_eq (hT : TB nc st sp) {k : Nat} (hk : k < nc) (s : smN st sp B a w k) : fdN st sp B a w nc 0 = k := by
  obtain ⟨f1, f2, f3, f4⟩ := fdN_le (st := st) (sp := sp) (B := B) (a := a) (w := w) nc 0
  have h1 : fdN st sp B a w nc 0 ≤ k := by
    rcases Nat.lt_or_ge k (fdN st sp B a w nc 0) with q | q
    · exact absurd s (f3 k (Nat.zero_le _) q)
    · exact q
  have s2 := f4 (by omega)
  rcases Nat.lt_or_ge (fdN st sp B a w nc 0) k with q | q
  · exfalso
    refine hT.2.2.2.2.2 _ k q hk ⟨?_, fun x hx => ?_⟩
    · rw [s.1, s2.1]
    · rw [s2.1] at hx
      rw [s.2 x hx, s2.2 x hx]
  · omega
theorem ls_ag {st' sp' : Nat → Nat} (h : Nat) : ∀ n, (∀ k, k < n → bkE sp' (st' k) (st' (k + 1) - st' k) = bkE sp (st k) (st (k + 1) - st k)) → lsE st' sp' h n = lsE st sp h n := by
  intro n
  induction n with
  | zero => intro _; rfl
  | succ n ih =>
    intro hk
    show (if bkE sp' (st' n) (st' (n + 1) - st' n) = h then n + 1 else lsE st' sp' h n) = (if bkE sp (st n) (st (n + 1) - st n) = h then n + 1 else lsE st sp h n)
    rw [hk n (by omega), ih (fun k q => hk k (by omega))]
theorem c_addName (hT : TB nc st sp) (hR : RNc csp cst nw ol nc st sp) (h : RB row len B n) (hn : a + w ≤ n) (hb : nmOK B a w) (hr : nc + 1 ≤ 4096 ∧ st nc + w ≤ 12000) : ∃ csp' cst' nw' ol', f_Na_addName row len csp cst nw ol (nI nc) (nI a) (nI w) (nI (bkE B a w)) = some (nI nc, csp', cst', nw', ol', nI (nc + 1)) ∧ RNc csp' cst' nw' ol' (nc + 1) (stN st nc w) (spN sp (st nc) B a w) := by
  have hb8 := h.1
  have e0 := hR.1 nc (Nat.le_refl _)
  have hbk := bk_lt (B := B) (a := a) (w := w)
  have ec : nI nc + 1 - 1 = nI nc := by rw [nI_1]; exact nI_pred nc
  have key : ∀ f j c1, w = j + f → (∀ z, z < st nc → c1 z = nI (sp z)) → (∀ j', j' < j → c1 (st nc + j') = nI (B (a + j'))) → ∃ c2, jl (Na_addName_b36_b row len cst nw ol (nI nc) (nI a) (nI w) (nI (bkE B a w)) (nI (st nc))) (c1, nI j) = some (nI nc, c2, upd cst (nc + 1) (nI (st nc + w)), upd nw (bkE B a w) (nI (nc + 1)), upd ol nc (nw (bkE B a w)), nI (nc + 1)) ∧ (∀ z, z < st nc → c2 z = nI (sp z)) ∧ (∀ j', j' < w → c2 (st nc + j') = nI (B (a + j'))) := by
    intro f
    induction f with
    | zero =>
      intro j c1 hj h3 h4
      have ej : j = w := by omega
      subst ej
      refine ⟨c1, jl_done ?_, h3, h4⟩
      show Na_addName_b36_s row len cst nw ol (nI nc) (nI a) (nI j) (nI (bkE B a j)) (nI (st nc)) c1 (nI j) = _
      unfold Na_addName_b36_s
      have hib := nI_in (c := bkE B a j) (N := 1024) hbk (by omega)
      rw [if_pos (nI_le (Nat.le_refl _) (by omega)), if_neg hib, if_neg (nI_in (c := nc) (N := 4096) (by omega) (by omega)), ec, nI_1, if_neg (nI_in (c := nc + 1) (N := 4097) (by omega) (by omega)), if_neg hib, nI_clamp (n := nc + 1) (by omega), nI_clamp (n := nc) (by omega), nI_clamp (n := bkE B a j) (by omega), nI_add]
    | succ f ih =>
      intro j c1 hj h3 h4
      have body : Na_addName_b36_b row len cst nw ol (nI nc) (nI a) (nI w) (nI (bkE B a w)) (nI (st nc)) (c1, nI j) = some (.inl (upd c1 (st nc + j) (nI (B (a + j))), nI (j + 1))) := by
        show Na_addName_b36_s row len cst nw ol (nI nc) (nI a) (nI w) (nI (bkE B a w)) (nI (st nc)) c1 (nI j) = _
        unfold Na_addName_b36_s
        have e5 : vp_nar .byte (nI (B (a + j))).toInt8.toInt32 = nI (B (a + j)) := by rw [pk_vb]; exact bb_lo _ (inn_lt (hb.1 j (by omega)))
        rw [if_neg (nI_ge (by omega) (by omega)), nI_add, p_at h (show a + j < n by omega), jb_some, nI_add, if_neg (nI_in (c := st nc + j) (N := 12288) (by omega) (by omega)), nI_clamp (by omega), e5, nI_1]
      obtain ⟨c2, k1, k2, k3⟩ := ih (j + 1) (upd c1 (st nc + j) (nI (B (a + j)))) (by omega) (fun z hz => by rw [pk_un (by omega)]; exact h3 z hz) (fun j' hj' => by
        by_cases e : j' = j
        · subst e; exact pk_us
        · rw [pk_un (by omega)]; exact h4 j' (by omega))
      exact ⟨c2, by rw [jl_step body]; exact k1, k2, k3⟩
  obtain ⟨c2, k1, k2, k3⟩ := key w 0 csp (by omega) hR.2.1 (fun j' hj' => absurd hj' (by omega))
  have mono : ∀ k, k ≤ nc → st k ≤ st nc := fun k hk => st_le hT hk
  have s1 : ∀ k, k ≤ nc → stN st nc w k = st k := fun k hk => if_neg (by omega)
  have s2 : stN st nc w (nc + 1) = st nc + w := if_pos rfl
  have s3 : ∀ z, z < st nc → spN sp (st nc) B a w z = sp z := fun z hz => if_neg (by omega)
  have s4 : ∀ j, j < w → spN sp (st nc) B a w (st nc + j) = B (a + j) := fun j hj => by
    show (if st nc ≤ st nc + j ∧ st nc + j < st nc + w then B (a + (st nc + j - st nc)) else _) = _
    rw [if_pos (by omega), show st nc + j - st nc = j by omega]
  have bold : ∀ k, k < nc → bkE (spN sp (st nc) B a w) (stN st nc w k) (stN st nc w (k + 1) - stN st nc w k) = bkE sp (st k) (st (k + 1) - st k) := by
    intro k hk
    rw [s1 k (by omega), s1 (k + 1) (by omega)]
    unfold bkE
    have := mono (k + 1) (by omega)
    have := hT.2.2.2.1 k hk
    rw [hv_eq (st (k + 1) - st k) (fun j hj => s3 (st k + j) (by omega))]
  have bnew : bkE (spN sp (st nc) B a w) (stN st nc w nc) (stN st nc w (nc + 1) - stN st nc w nc) = bkE B a w := by
    rw [s1 nc (Nat.le_refl _), s2, show st nc + w - st nc = w by omega]
    unfold bkE
    rw [hv_eq w s4]
  refine ⟨c2, upd cst (nc + 1) (nI (st nc + w)), upd nw (bkE B a w) (nI (nc + 1)), upd ol nc (nw (bkE B a w)), ?_, fun k hk => ?_, fun z hz => ?_, fun hh h1 => ?_, fun k hk => ?_⟩
  · unfold f_Na_addName Na_addName_b36
    have e6 : (12288 : Int32) - nI (st nc) = nI (12288 - st nc) := pk_sub (a := 12288) (b := st nc) (by omega)
    rw [if_neg (nI_in (c := nc) (N := 4097) (by omega) (by omega)), if_neg (show ¬ (4096 : Int32) ≤ nI nc from nI_ge (b := 4096) (by omega) (by omega)), nI_clamp (by omega), e0, e6, if_pos (nI_le (by omega) (by omega))]
    exact k1
  · by_cases e : k = nc + 1
    · subst e; rw [s2]; exact pk_us
    · rw [s1 k (by omega), pk_un e]; exact hR.1 k (by omega)
  · rw [s2] at hz
    by_cases e : z < st nc
    · rw [s3 z e]; exact k2 z e
    · rw [show z = st nc + (z - st nc) by omega, s4 _ (by omega)]; exact k3 _ (by omega)
  · show _ = nI (if bkE (spN sp (st nc) B a w) (stN st nc w nc) (stN st nc w (nc + 1) - stN st nc w nc) = hh then nc + 1 else lsE (stN st nc w) (spN sp (st nc) B a w) hh nc)
    rw [bnew, ls_ag hh nc bold]
    by_cases e : bkE B a w = hh
    · rw [if_pos e, ← e]; exact pk_us
    · rw [if_neg e, pk_un (fun q => e q.symm)]; exact hR.2.2.1 hh h1
  · by_cases e : k = nc
    · subst e
      rw [bnew, ls_ag _ k bold]
      exact pk_us.trans (hR.2.2.1 _ hbk)
    · rw [bold k (by omega), ls_ag _ k (fun j hj => bold j (by omega)), pk_un e]
      exact hR.2.2.2 k (by omega)
theorem c_number (hT : TB nc st sp) (hR : RNc csp cst nw ol nc st sp) (h : RB row len B n) (hn : a + w ≤ n) (hb : nmOK B a w) (hr : fdN st sp B a w nc 0 < nc ∨ (nc + 1 ≤ 4096 ∧ st nc + w ≤ 12000)) : ∃ csp' cst' nw' ol', f_Na_numberOf row len csp cst nw ol (nI nc) (nI a) (nI w) = some (nI (fdN st sp B a w nc 0), csp', cst', nw', ol', nI (nmC st sp B a w nc)) ∧ RNc csp' cst' nw' ol' (nmC st sp B a w nc) (nmS st sp B a w nc) (nmP st sp B a w nc) := by
  have hT1 := hT.1
  have hbk := bk_lt (B := B) (a := a) (w := w)
  have find : ∀ x t, x ≤ nc → t + x ≤ nc → (x = 0 ∨ bkE sp (st (x - 1)) (st (x - 1 + 1) - st (x - 1)) = bkE B a w) → (∀ j, x ≤ j → j < nc → ¬ smN st sp B a w j) → jl (Na_numberOf_b22_b row len csp cst nw ol (nI nc) (nI a) (nI w) (nI (bkE B a w))) (nI x - 1, nI t) = if fdN st sp B a w nc 0 < nc then some (nI (fdN st sp B a w nc 0), csp, cst, nw, ol, nI nc) else Na_numberOf_b77 row len csp cst nw ol (nI nc) (nI a) (nI w) (nI (bkE B a w)) := by
    intro x
    induction x using Nat.strongRecOn with
    | ind x ih =>
      intro t hx ht hbx hno
      cases x with
      | zero =>
        have q : ¬ fdN st sp B a w nc 0 < nc := by
          intro q
          obtain ⟨f1, f2, f3, f4⟩ := fdN_le (st := st) (sp := sp) (B := B) (a := a) (w := w) nc 0
          exact hno _ (Nat.zero_le _) q (f4 (by omega))
        rw [if_neg q]
        refine jl_jm ?_
        show Na_numberOf_b22_s row len csp cst nw ol (nI nc) (nI a) (nI w) (nI (bkE B a w)) (nI 0 - 1) (nI t) = _
        unfold Na_numberOf_b22_s
        by_cases r : nI nc ≤ nI t
        · rw [if_pos r]
        · rw [if_neg r, if_pos (show nI 0 - 1 < 0 by decide)]
      | succ k =>
        have hk : k < nc := by omega
        have hbk' : bkE sp (st k) (st (k + 1) - st k) = bkE B a w := by
          rcases hbx with e | e
          · omega
          · exact e
        have ep : nI (k + 1) - 1 = nI k := nI_pred k
        have body : Na_numberOf_b22_b row len csp cst nw ol (nI nc) (nI a) (nI w) (nI (bkE B a w)) (nI (k + 1) - 1, nI t) = if smB st sp B a w k = true then some (.inr (nI k, csp, cst, nw, ol, nI nc)) else some (.inl (nI (lsE st sp (bkE B a w) k) - 1, nI (t + 1))) := by
          show Na_numberOf_b22_s row len csp cst nw ol (nI nc) (nI a) (nI w) (nI (bkE B a w)) (nI (k + 1) - 1) (nI t) = _
          unfold Na_numberOf_b22_s
          rw [if_neg (show ¬ nI nc ≤ nI t from nI_ge (by omega) (by omega)), ep, if_neg (nI_pos (by omega)), if_neg (show ¬ nI nc ≤ nI k from nI_ge (by omega) (by omega)), c_isSpelt hT hR h hn hk, jb_some]
          by_cases s : smB st sp B a w k = true
          · rw [if_pos s, if_neg (show ¬ (1 : Int32) = 0 by decide), if_pos s]
          · rw [if_neg s, if_pos (show (0 : Int32) = 0 from rfl), if_neg s, if_neg (nI_in (c := k) (N := 4096) (by omega) (by omega)), nI_clamp (by omega), hR.2.2.2 k hk, hbk', nI_1]
        by_cases s : smB st sp B a w k = true
        · rw [if_pos s] at body
          rw [fd_eq hT hk (smB_iff.mp s), if_pos hk]
          exact jl_done body
        · rw [if_neg s] at body
          rw [jl_step body]
          have hl := ls_le (st := st) (sp := sp) (bkE B a w) k
          have ha := ls_at (st := st) (sp := sp) (bkE B a w) k
          refine ih (lsE st sp (bkE B a w) k) (by omega) (t + 1) (by omega) (by omega) ?_ ?_
          · rcases Nat.eq_zero_or_pos (lsE st sp (bkE B a w) k) with e | e
            · exact Or.inl e
            · exact Or.inr (ha.1 (lsE st sp (bkE B a w) k - 1) (by omega))
          · intro j h1 h2 hs
            by_cases e : j = k
            · subst e; exact s (smB_iff.mpr hs)
            · rcases Nat.lt_or_ge j k with q | q
              · exact ha.2 j h1 q (bk_sm hs)
              · exact hno j (by omega) h2 hs
  have start : f_Na_numberOf row len csp cst nw ol (nI nc) (nI a) (nI w) = jl (Na_numberOf_b22_b row len csp cst nw ol (nI nc) (nI a) (nI w) (nI (bkE B a w))) (nI (lsE st sp (bkE B a w) nc) - 1, nI 0) := by
    unfold f_Na_numberOf
    rw [c_bucket h hn, jb_some, if_neg (nI_in hbk (by omega)), nI_clamp (by omega), hR.2.2.1 _ hbk]
    rfl
  have hl := ls_le (st := st) (sp := sp) (bkE B a w) nc
  have ha := ls_at (st := st) (sp := sp) (bkE B a w) nc
  have f := find (lsE st sp (bkE B a w) nc) 0 hl (by omega) (by
    rcases Nat.eq_zero_or_pos (lsE st sp (bkE B a w) nc) with e | e
    · exact Or.inl e
    · exact Or.inr (ha.1 (lsE st sp (bkE B a w) nc - 1) (by omega))) (fun j h1 h2 hs => ha.2 j h1 h2 (bk_sm hs))
  rw [start, f]
  unfold nmC nmS nmP
  by_cases q : fdN st sp B a w nc 0 < nc
  · refine ⟨csp, cst, nw, ol, ?_, ?_⟩
    · rw [if_pos q, if_pos q]
    · rw [if_pos q, if_pos q, if_pos q]; exact hR
  · obtain ⟨csp', cst', nw', ol', g1, g2⟩ := c_addName hT hR h hn hb (hr.resolve_left q)
    have e : fdN st sp B a w nc 0 = nc := by have := (fdN_le (st := st) (sp := sp) (B := B) (a := a) (w := w) nc 0).1; omega
    refine ⟨csp', cst', nw', ol', ?_, ?_⟩
    · rw [if_neg q, if_neg q, e]
      unfold Na_numberOf_b77
      exact jb_ok g1
    · rw [if_neg q, if_neg q, if_neg q]; exact g2
end NN
