-- names along a forest
abbrev TBt := Nat × (Nat → Nat) × (Nat → Nat)
def nmT (B : Nat → Nat) (t : TBt) (a w : Nat) : TBt := (nmC t.2.1 t.2.2 B a w t.1, nmS t.2.1 t.2.2 B a w t.1, nmP t.2.1 t.2.2 B a w t.1)
def nlT (P Wd B : Nat → Nat) (c : Nat) (t : TBt) : TBt := if c % 32 = 9 ∨ c % 32 = 16 then nmT B t (P (c / 32)) (Wd (c / 32)) else t
def ntT (P Wd B : Nat → Nat) : Fo → TBt → TBt
  | .add X Y, t => ntT P Wd B Y (ntT P Wd B X t)
  | .pow X c, t => ntT P Wd B X (nlT P Wd B c t)
  | _, t => t
def nvT (P V Wd B : Nat → Nat) (c : Nat) (t : TBt) : Int32 := if c % 32 = 9 ∨ c % 32 = 16 then nI (fdN t.2.1 t.2.2 B (P (c / 32)) (Wd (c / 32)) t.1 0) else if c % 32 = 17 then nI (V (c / 32)) else 0
/-- the values of a tree's rows -/
def pv (P V Wd B : Nat → Nat) (cv : Nat → Int32) : Fo → Nat → TBt → Prop
  | .add X Y, p, t => pv P V Wd B cv X p t ∧ pv P V Wd B cv Y (p + fs X) (ntT P Wd B X t)
  | .pow X c, p, t => cv p = nvT P V Wd B c t ∧ pv P V Wd B cv X (p + 1) (nlT P Wd B c t)
  | _, _, _ => True
/-- room for all names -/
def rmT (P V Wd B : Nat → Nat) (n : Nat) : Fo → TBt → Prop
  | .add X Y, t => rmT P V Wd B n X t ∧ rmT P V Wd B n Y (ntT P Wd B X t)
  | .pow X c, t => ((c % 32 = 9 ∨ c % 32 = 16) → (fdN t.2.1 t.2.2 B (P (c / 32)) (Wd (c / 32)) t.1 0 < t.1 ∨ (t.1 + 1 ≤ 4096 ∧ t.2.1 t.1 + Wd (c / 32) ≤ 12000)) ∧ 1 ≤ Wd (c / 32) ∧ P (c / 32) + Wd (c / 32) ≤ n ∧ V (c / 32) = Wd (c / 32) ∧ nmOK B (P (c / 32)) (Wd (c / 32))) ∧ rmT P V Wd B n X (nlT P Wd B c t)
  | _, _ => True
section NT
variable {P V Wd B : Nat → Nat} {n : Nat} {ck cp cs cw row : Nat → Int32} {len : Int32}
theorem pv_fr {cv dv : Nat → Int32} (F : Fo) : ∀ p t, pv P V Wd B cv F p t → (∀ z, p ≤ z → z < p + fs F → dv z = cv z) → pv P V Wd B dv F p t := by
  induction F with
  | add X Y hX hY =>
    intro p t h h1
    exact ⟨hX p t h.1 (fun z a c => h1 z a (by show z < p + (fs X + fs Y); omega)), hY _ _ h.2 (fun z a c => h1 z (by omega) (by show z < p + (fs X + fs Y); omega))⟩
  | pow X c hX =>
    intro p t h h1
    exact ⟨(h1 p (Nat.le_refl _) (by show p < p + (fs X + 1); omega)).trans h.1, hX _ _ h.2 (fun z a c => h1 z (by omega) (by show z < p + (fs X + 1); omega))⟩
  | _ => intro p t h h1; exact True.intro
theorem pv_ag {cv dv : Nat → Int32} (F : Fo) : ∀ p t, pv P V Wd B cv F p t → pv P V Wd B dv F p t → ∀ k, p ≤ k → k < p + fs F → cv k = dv k := by
  induction F with
  | add X Y hX hY =>
    intro p t h h' k h1 h2
    have h2' : k < p + (fs X + fs Y) := h2
    rcases Nat.lt_or_ge k (p + fs X) with q | q
    · exact hX p t h.1 h'.1 k h1 q
    · exact hY _ _ h.2 h'.2 k q (by omega)
  | pow X c hX =>
    intro p t h h' k h1 h2
    have h2' : k < p + (fs X + 1) := h2
    by_cases q : k = p
    · subst q; exact h.1.trans h'.1.symm
    · exact hX _ _ h.2 h'.2 k (by omega) (by omega)
  | _ => intro p t h h' k h1 h2; exact absurd h2 (by show ¬ k < p + 0; omega)
theorem TB_nl {c : Nat} {t : TBt} (hT : TB t.1 t.2.1 t.2.2) (h : (c % 32 = 9 ∨ c % 32 = 16) → (fdN t.2.1 t.2.2 B (P (c / 32)) (Wd (c / 32)) t.1 0 < t.1 ∨ (t.1 + 1 ≤ 4096 ∧ t.2.1 t.1 + Wd (c / 32) ≤ 12000)) ∧ 1 ≤ Wd (c / 32) ∧ P (c / 32) + Wd (c / 32) ≤ n ∧ V (c / 32) = Wd (c / 32) ∧ nmOK B (P (c / 32)) (Wd (c / 32))) : TB (nlT P Wd B c t).1 (nlT P Wd B c t).2.1 (nlT P Wd B c t).2.2 := by
  unfold nlT
  by_cases q : c % 32 = 9 ∨ c % 32 = 16
  · rw [if_pos q]
    obtain ⟨h1, h2, h3, h4, h5⟩ := h q
    exact TB_nm hT h2 h5 h1
  · rw [if_neg q]; exact hT
theorem TB_nt (F : Fo) : ∀ t, TB t.1 t.2.1 t.2.2 → rmT P V Wd B n F t → TB (ntT P Wd B F t).1 (ntT P Wd B F t).2.1 (ntT P Wd B F t).2.2 := by
  induction F with
  | add X Y hX hY => intro t hT h; exact hY _ (hX t hT h.1) h.2
  | pow X c hX => intro t hT h; exact hX _ (TB_nl hT h.1) h.2
  | _ => intro t hT h; exact hT
theorem c_nums {N : Nat} (hB : RB row len B n) (hN : N ≤ 8001) (F : Fo) : ∀ p (w : Int32) (t : TBt) cv csp cst nw ol, pr P ck cp cs cw F p w → vr V cv F p → rmT P V Wd B n F t → TB t.1 t.2.1 t.2.2 → RNc csp cst nw ol t.1 t.2.1 t.2.2 → p + fs F ≤ N → ∃ cv' csp' cst' nw' ol', jl (Tr_numberNames_b2_b ck cp (nI N) row len) (cv, csp, cst, nw, ol, nI t.1, nI p) = jl (Tr_numberNames_b2_b ck cp (nI N) row len) (cv', csp', cst', nw', ol', nI (ntT P Wd B F t).1, nI (p + fs F)) ∧ pv P V Wd B cv' F p t ∧ RNc csp' cst' nw' ol' (ntT P Wd B F t).1 (ntT P Wd B F t).2.1 (ntT P Wd B F t).2.2 ∧ (∀ z, z < p ∨ p + fs F ≤ z → cv' z = cv z) := by
  induction F with
  | add X Y hX hY =>
    intro p w t cv csp cst nw ol h1 h2 h3 h4 h5 h6
    have h6' : p + (fs X + fs Y) ≤ N := h6
    obtain ⟨v1, a1, a2, a3, a4, a5, a6, a7, a8⟩ := hX p w t cv csp cst nw ol h1.1 h2.1 h3.1 h4 h5 (by omega)
    obtain ⟨v2, b1, b2, b3, b4, b5, b6, b7, b8⟩ := hY (p + fs X) w _ v1 a1 a2 a3 a4 h1.2 (vr_fr Y _ h2.2 (fun z q r => a8 z (by omega))) h3.2 (TB_nt X t h4 h3.1) a7 (by omega)
    refine ⟨v2, b1, b2, b3, b4, ?_, ⟨pv_fr X _ _ a6 (fun z q r => b8 z (by omega)), b6⟩, b7, fun z hz => ?_⟩
    · show _ = jl _ (v2, b1, b2, b3, b4, _, nI (p + (fs X + fs Y)))
      rw [← Nat.add_assoc]
      exact a5.trans b5
    · have hz' : z < p ∨ p + (fs X + fs Y) ≤ z := hz
      rw [b8 z (by omega), a8 z (by omega)]
  | pow X c hX =>
    intro p w t cv csp cst nw ol h1 h2 h3 h4 h5 h6
    have h6' : p + (fs X + 1) ≤ N := h6
    obtain ⟨k1, k2, k3, k4, k5⟩ := h1
    obtain ⟨m1, m2⟩ := h2
    obtain ⟨r1, r2⟩ := h3
    have hT1 := h4.1
    have hin := nI_in (c := p) (N := 8001) (by omega) (by omega)
    have hin' := hin
    rw [nI_clamp (by omega)] at hin'
    have cn9 : ∀ a, a < 32 → (nI (c % 32) = nI a ↔ c % 32 = a) := fun a ha => nI_eq (by omega) (by omega)
    -- one position
    have step : ∃ v1 a1 a2 a3 a4, Tr_numberNames_b2_b ck cp (nI N) row len (cv, csp, cst, nw, ol, nI t.1, nI p) = some (.inl (v1, a1, a2, a3, a4, nI (nlT P Wd B c t).1, nI (p + 1))) ∧ v1 p = nvT P V Wd B c t ∧ (∀ z, z ≠ p → v1 z = cv z) ∧ RNc a1 a2 a3 a4 (nlT P Wd B c t).1 (nlT P Wd B c t).2.1 (nlT P Wd B c t).2.2 := by
      by_cases q : c % 32 = 9 ∨ c % 32 = 16
      · obtain ⟨q1, q2, q3, q4, q5⟩ := r1 q
        obtain ⟨a1, a2, a3, a4, g1, g2⟩ := c_number h4 h5 hB q3 q5 q1
        have e1 : nlT P Wd B c t = nmT B t (P (c / 32)) (Wd (c / 32)) := if_pos q
        have e2 : nvT P V Wd B c t = nI (fdN t.2.1 t.2.2 B (P (c / 32)) (Wd (c / 32)) t.1 0) := if_pos q
        have ep : cp p = nI (P (c / 32)) := by rw [k2]; unfold plc; rw [if_neg (by omega)]
        have ev' : cv p = nI (Wd (c / 32)) := by rw [m1]; unfold vlc; rw [if_pos (by omega), q4]
        rw [e1, e2]
        refine ⟨upd cv p (nI (fdN t.2.1 t.2.2 B (P (c / 32)) (Wd (c / 32)) t.1 0)), a1, a2, a3, a4, ?_, pk_us, fun z hz => pk_un hz, g2⟩
        have b32 : Tr_numberNames_b32 ck cp (nI N) row len cv csp cst nw ol (nI t.1) (nI p) = some (.inl (upd cv p (nI (fdN t.2.1 t.2.2 B (P (c / 32)) (Wd (c / 32)) t.1 0)), a1, a2, a3, a4, nI (nmC t.2.1 t.2.2 B (P (c / 32)) (Wd (c / 32)) t.1), nI (p + 1))) := by
          unfold Tr_numberNames_b32 Tr_numberNames_b55
          rw [if_neg hin, if_neg hin, nI_clamp (by omega), ep, ev', g1, jb_some, if_neg hin', nI_1]
        show Tr_numberNames_b2_s ck cp (nI N) row len cv csp cst nw ol (nI t.1) (nI p) = _
        unfold Tr_numberNames_b2_s
        rw [if_neg (nI_ge (by omega) (by omega)), if_neg hin, nI_clamp (by omega), k1]
        by_cases q9 : c % 32 = 9
        · rw [if_pos (show nI (c % 32) = 9 by rw [q9]; rfl)]; exact b32
        · rw [if_neg (show ¬ nI (c % 32) = 9 from fun e => q9 ((cn9 9 (by omega)).mp e)), if_neg hin', if_pos (show nI (c % 32) = 16 by rw [show c % 32 = 16 by omega]; rfl)]; exact b32
      · have e1 : nlT P Wd B c t = t := if_neg q
        rw [e1]
        refine ⟨cv, csp, cst, nw, ol, ?_, ?_, fun z _ => rfl, h5⟩
        · show Tr_numberNames_b2_s ck cp (nI N) row len cv csp cst nw ol (nI t.1) (nI p) = _
          unfold Tr_numberNames_b2_s Tr_numberNames_b55
          rw [if_neg (nI_ge (by omega) (by omega)), if_neg hin, nI_clamp (by omega), k1, if_neg (show ¬ nI (c % 32) = 9 from fun e => q (Or.inl ((cn9 9 (by omega)).mp e))), if_neg hin', if_neg (show ¬ nI (c % 32) = 16 from fun e => q (Or.inr ((cn9 16 (by omega)).mp e))), nI_1]
        · rw [m1]
          unfold vlc nvT
          rw [if_neg q]
          by_cases q17 : c % 32 = 17
          · rw [if_pos (by omega), if_pos q17]
          · rw [if_neg (by omega), if_neg q17]
    obtain ⟨v1, a1, a2, a3, a4, s1, s2, s3, s4⟩ := step
    obtain ⟨v2, b1, b2, b3, b4, b5, b6, b7, b8⟩ := hX (p + 1) _ (nlT P Wd B c t) v1 a1 a2 a3 a4 k5 (vr_fr X _ m2 (fun z q r => s3 z (by omega))) r2 (TB_nl h4 r1) s4 (by omega)
    refine ⟨v2, b1, b2, b3, b4, ?_, ⟨(b8 p (by omega)).trans s2, b6⟩, b7, fun z hz => ?_⟩
    · show _ = jl _ (v2, b1, b2, b3, b4, _, nI (p + (fs X + 1)))
      rw [show p + (fs X + 1) = p + 1 + fs X by omega]
      exact (jl_step s1).trans b5
    · have hz' : z < p ∨ p + (fs X + 1) ≤ z := hz
      rw [b8 z (by omega), s3 z (by omega)]
  | _ => intro p w t cv csp cst nw ol h1 h2 h3 h4 h5 h6; exact ⟨cv, csp, cst, nw, ol, rfl, True.intro, h5, fun _ _ => rfl⟩
theorem c_numsF {F : Fo} {w : Int32} {t : TBt} {cv csp cst nw ol : Nat → Int32} (hB : RB row len B n) (hN : fs F ≤ 8001) (h1 : pr P ck cp cs cw F 0 w) (h2 : vr V cv F 0) (h3 : rmT P V Wd B n F t) (h4 : TB t.1 t.2.1 t.2.2) (h5 : RNc csp cst nw ol t.1 t.2.1 t.2.2) : ∃ cv' csp' cst' nw' ol', f_Tr_numberNames ck cp (nI (fs F)) row len cv csp cst nw ol (nI t.1) = some (cv', csp', cst', nw', ol', nI (ntT P Wd B F t).1) ∧ pv P V Wd B cv' F 0 t ∧ RNc csp' cst' nw' ol' (ntT P Wd B F t).1 (ntT P Wd B F t).2.1 (ntT P Wd B F t).2.2 := by
  obtain ⟨v2, b1, b2, b3, b4, b5, b6, b7, b8⟩ := c_nums hB hN F 0 w t cv csp cst nw ol h1 h2 h3 h4 h5 (by omega)
  refine ⟨v2, b1, b2, b3, b4, ?_, b6, b7⟩
  rw [Nat.zero_add] at b5
  refine b5.trans (jl_done ?_)
  show Tr_numberNames_b2_s ck cp (nI (fs F)) row len v2 b1 b2 b3 b4 (nI (ntT P Wd B F t).1) (nI (fs F)) = _
  unfold Tr_numberNames_b2_s
  rw [if_pos (nI_le (Nat.le_refl _) (by omega))]
end NT
