-- the class lays a growth out as a tree
def vlc (V : Nat → Nat) (c : Nat) : Int32 := if c % 32 = 9 ∨ c % 32 = 16 ∨ c % 32 = 17 then nI (V (c / 32)) else 0
/-- a forest in a growth, from b on -/
def gr (P V : Nat → Nat) (gk gp gv gs gn : Nat → Int32) : Fo → Nat → Prop
  | .add X Y, b => gr P V gk gp gv gs gn X b ∧ gr P V gk gp gv gs gn Y (b + fs X)
  | .pow X c, b => gr P V gk gp gv gs gn X b ∧ gk (b + fs X) = nI (c % 32) ∧ gp (b + fs X) = plc P c ∧ gv (b + fs X) = vlc V c ∧ gs (b + fs X) = nI (fs X + 1) ∧ gn (b + fs X) = nI (fn X)
  | _, _ => True
/-- its roots are numbered -/
def ro (nu wo : Nat → Int32) (w : Int32) : Fo → Nat → Nat → Prop
  | .add X Y, b, p => ro nu wo w X b p ∧ ro nu wo w Y (b + fs X) (p + fs X)
  | .pow X _, b, p => nu (b + fs X) = nI p ∧ wo p = w
  | _, _, _ => True
/-- its values, names not yet numbered -/
def vr (V : Nat → Nat) (cv : Nat → Int32) : Fo → Nat → Prop
  | .add X Y, p => vr V cv X p ∧ vr V cv Y (p + fs X)
  | .pow X c, p => cv p = vlc V c ∧ vr V cv X (p + 1)
  | _, _ => True
section LO
variable {K P V : Nat → Nat} {m : Nat} {gk gp gv gs gn : Nat → Int32}
theorem RG_gr (F : Fo) : ∀ G, RG K m P V gk gp gv gs gn (fp F ++ G) → gr P V gk gp gv gs gn F G.length := by
  induction F with
  | add X Y hX hY =>
    intro G h
    have h' : RG K m P V gk gp gv gs gn (fp Y ++ (fp X ++ G)) := by rw [← List.append_assoc]; exact h
    have h2 := hY _ h'
    rw [List.length_append, fp_len, Nat.add_comm] at h2
    exact ⟨hX G (RG_app h'), h2⟩
  | pow X c hX =>
    intro G h
    have h' : RG K m P V gk gp gv gs gn ((c, fs X + 1, fn X) :: (fp X ++ G)) := h
    have e : (fp X ++ G).length = G.length + fs X := by rw [List.length_append, fp_len, Nat.add_comm]
    obtain ⟨h1, h2, h3, h4, h5, h6⟩ := h'
    have a1 := h1.1
    have a2 := h2.1
    have a3 := h3.1
    have a4 := h4.1
    have a5 := h5.1
    rw [e] at a1 a2 a3 a4 a5
    exact ⟨hX G ⟨h1.2, h2.2, h3.2, h4.2, h5.2, fun x hx => h6 x (List.mem_cons.mpr (Or.inr hx))⟩, a1, a2, a3, a4, a5⟩
  | _ => intro G h; exact True.intro
theorem ro_fr {nu nu' wo wo' : Nat → Int32} {w : Int32} (F : Fo) : ∀ b p, ro nu wo w F b p → (∀ z, b ≤ z → z < b + fs F → nu' z = nu z) → (∀ z, p ≤ z → z < p + fs F → wo' z = wo z) → ro nu' wo' w F b p := by
  induction F with
  | add X Y hX hY =>
    intro b p h h1 h2
    exact ⟨hX b p h.1 (fun z a c => h1 z a (by show z < b + (fs X + fs Y); omega)) (fun z a c => h2 z a (by show z < p + (fs X + fs Y); omega)), hY _ _ h.2 (fun z a c => h1 z (by omega) (by show z < b + (fs X + fs Y); omega)) (fun z a c => h2 z (by omega) (by show z < p + (fs X + fs Y); omega))⟩
  | pow X c hX =>
    intro b p h h1 h2
    exact ⟨(h1 _ (by omega) (by show b + fs X < b + (fs X + 1); omega)).trans h.1, (h2 p (Nat.le_refl _) (by show p < p + (fs X + 1); omega)).trans h.2⟩
  | _ => intro b p h h1 h2; exact True.intro
theorem vr_fr {cv dv : Nat → Int32} (F : Fo) : ∀ p, vr V cv F p → (∀ z, p ≤ z → z < p + fs F → dv z = cv z) → vr V dv F p := by
  induction F with
  | add X Y hX hY =>
    intro p h h1
    exact ⟨hX p h.1 (fun z a c => h1 z a (by show z < p + (fs X + fs Y); omega)), hY _ h.2 (fun z a c => h1 z (by omega) (by show z < p + (fs X + fs Y); omega))⟩
  | pow X c hX =>
    intro p h h1
    exact ⟨(h1 p (Nat.le_refl _) (by show p < p + (fs X + 1); omega)).trans h.1, hX _ h.2 (fun z a c => h1 z (by omega) (by show z < p + (fs X + 1); omega))⟩
  | _ => intro p h h1; exact True.intro
theorem t_put {M p : Nat} {ck cp cv cs cn : Nat → Int32} {a1 a2 a3 a4 a5 : Int32} (hM : M ≤ 8001) (hp : p < M) : f_Tr_put (nI M) ck cp cv cs cn (nI p) a1 a2 a3 a4 a5 = some (upd ck p a1, upd cp p a2, upd cv p a3, upd cs p a4, upd cn p a5) := by
  unfold f_Tr_put
  have hip := nI_in (c := p) (N := 8001) (by omega) (by omega)
  rw [p_Trhas (by omega) hp, jb_some, if_neg n10, if_neg hip, if_neg hip, if_neg hip, if_neg hip, if_neg hip, nI_clamp (n := p) (by omega)]
theorem t_putWhole {M p : Nat} {wo : Nat → Int32} {w : Int32} (hM : M ≤ 8001) (hp : p < M) : f_Tr_putWhole (nI M) wo (nI p) w = some (upd wo p w) := by
  unfold f_Tr_putWhole
  rw [p_Trhas (by omega) hp, jb_some, if_neg n10, if_neg (nI_in (c := p) (N := 8001) (by omega) (by omega)), nI_clamp (n := p) (by omega)]
theorem t_room {M : Nat} {N0 : Int32} (hM : M ≤ 8001) : f_Tr_makeRoom N0 (nI M) = some (nI M) := by
  unfold f_Tr_makeRoom
  rw [if_neg (show ¬ (8001 : Int32) < nI M from nI_nlt (a := 8001) hM (by omega))]
theorem n_parts {g M : Nat} (hg : g < 8001) (hM : M ≤ 8001) (F : Fo) : ∀ b p n nu wo, gr P V gk gp gv gs gn F b → b + fs F ≤ g → p + fs F ≤ M → n + fn F ≤ 20000 → ∃ nu' wo', jl (Gr_numberParts_b27_b gs gn (nI M) (nI g)) (nu, wo, nI (b + fs F) - 1, nI (p + fs F), nI (n + fn F)) = jl (Gr_numberParts_b27_b gs gn (nI M) (nI g)) (nu', wo', nI b - 1, nI p, nI n) ∧ ro nu' wo' (nu g) F b p ∧ (∀ z, z < b ∨ b + fs F ≤ z → nu' z = nu z) ∧ (∀ z, z < p ∨ p + fs F ≤ z → wo' z = wo z) := by
  induction F with
  | add X Y hX hY =>
    intro b p n nu wo h hb hp hn
    have hb' : b + (fs X + fs Y) ≤ g := hb
    have hp' : p + (fs X + fs Y) ≤ M := hp
    have hn' : n + (fn X + fn Y) ≤ 20000 := hn
    obtain ⟨n1, w1, a1, a2, a3, a4⟩ := hY (b + fs X) (p + fs X) (n + fn X) nu wo h.2 (by omega) (by omega) (by omega)
    obtain ⟨n2, w2, b1, b2, b3, b4⟩ := hX b p n n1 w1 h.1 (by omega) (by omega) (by omega)
    refine ⟨n2, w2, ?_, ⟨?_, ro_fr Y _ _ a2 (fun z q r => b3 z (by omega)) (fun z q r => b4 z (by omega))⟩, fun z hz => ?_, fun z hz => ?_⟩
    · show jl _ (nu, wo, nI (b + (fs X + fs Y)) - 1, nI (p + (fs X + fs Y)), nI (n + (fn X + fn Y))) = _
      rw [← Nat.add_assoc, ← Nat.add_assoc, ← Nat.add_assoc]
      exact a1.trans b1
    · rw [a3 g (by omega)] at b2; exact b2
    · have hz' : z < b ∨ b + (fs X + fs Y) ≤ z := hz
      rw [b3 z (by omega), a3 z (by omega)]
    · have hz' : z < p ∨ p + (fs X + fs Y) ≤ z := hz
      rw [b4 z (by omega), a4 z (by omega)]
  | pow X c hX =>
    intro b p n nu wo h hb hp hn
    have hb' : b + (fs X + 1) ≤ g := hb
    have hp' : p + (fs X + 1) ≤ M := hp
    have hn' : n + 1 ≤ 20000 := hn
    obtain ⟨_, _, _, _, k4, _⟩ := h
    have e1 : nI (b + (fs X + 1)) - 1 = nI (b + fs X) := nI_pred (b + fs X)
    have e2 : nI (p + (fs X + 1)) - nI (fs X + 1) = nI p := by rw [pk_sub (by omega), show p + (fs X + 1) - (fs X + 1) = p by omega]
    have e3 : nI (b + fs X) - nI (fs X + 1) = nI b - 1 := by rw [i_sub3 (by omega), show b + fs X + 1 - (fs X + 1) = b by omega]
    have e4 : nI (n + 1) + (-1) = nI n := by rw [i_m1]; exact nI_pred n
    refine ⟨upd nu (b + fs X) (nI p), upd wo p (nu g), jl_step ?_, ⟨pk_us, pk_us⟩, fun z hz => ?_, fun z hz => ?_⟩
    · show Gr_numberParts_b27_s gs gn (nI M) (nI g) nu wo (nI (b + (fs X + 1)) - 1) (nI (p + (fs X + 1))) (nI (n + 1)) = _
      unfold Gr_numberParts_b27_s
      have hin := nI_in (c := b + fs X) (N := 8001) (by omega) (by omega)
      rw [e1, if_neg (show ¬ nI (n + 1) ≤ 0 from nI_nle (by omega) (by omega)), if_neg (nI_pos (by omega)), if_neg hin, if_neg hin, if_neg (nI_in (c := g) (N := 8001) hg (by omega)), nI_clamp (n := b + fs X) (by omega), k4, e2, nI_clamp (n := g) (by omega), pk_un (show g ≠ b + fs X by omega), t_putWhole hM (show p < M by omega), jb_some, e3, e4]
      rw [nI_clamp (n := b + fs X) (by omega)] at hin
      rw [if_neg hin]
    · have hz' : z < b ∨ b + (fs X + 1) ≤ z := hz
      exact pk_un (by omega)
    · have hz' : z < p ∨ p + (fs X + 1) ≤ z := hz
      exact pk_un (by omega)
  | _ => intro b p n nu wo h hb hp hn; exact ⟨nu, wo, rfl, True.intro, fun _ _ => rfl, fun _ _ => rfl⟩
theorem n_partsF {g b p M : Nat} {X : Fo} {nu wo : Nat → Int32} (hg : g < 8001) (hM : M ≤ 8001) (eg : g = b + fs X) (h : gr P V gk gp gv gs gn X b) (hp : p + 1 + fs X ≤ M) (hs : gs g = nI (fs X + 1)) (hn : gn g = nI (fn X)) (hnu : nu g = nI p) : ∃ nu' wo', f_Gr_numberParts gs gn (nI M) nu wo (nI g) = some (nu', wo') ∧ ro nu' wo' (nI p) X b (p + 1) ∧ (∀ z, z < b ∨ b + fs X ≤ z → nu' z = nu z) ∧ (∀ z, z < p + 1 ∨ p + 1 + fs X ≤ z → wo' z = wo z) := by
  have hf := fn_fs X
  obtain ⟨nu', wo', a1, a2, a3, a4⟩ := n_parts hg hM X b (p + 1) 0 nu wo h (by omega) hp (by omega)
  rw [hnu] at a2
  refine ⟨nu', wo', ?_, a2, a3, a4⟩
  unfold f_Gr_numberParts Gr_numberParts_b27
  have hin := nI_in (c := g) (N := 8001) hg (by omega)
  rw [if_neg hin, if_neg hin, if_neg hin, nI_clamp (by omega), hs, hn, hnu, nI_add, show p + (fs X + 1) = p + 1 + fs X by omega]
  rw [Nat.zero_add, ← eg] at a1
  refine a1.trans (jl_done ?_)
  show Gr_numberParts_b27_s gs gn (nI M) (nI g) nu' wo' (nI b - 1) (nI (p + 1)) (nI 0) = _
  unfold Gr_numberParts_b27_s
  rw [if_pos (show nI 0 ≤ 0 by decide)]
theorem l_out {N : Int32} {M : Nat} (hM : M ≤ 8001) (F : Fo) : ∀ b p (w : Int32) nu ck cp cv cs cn wo, gr P V gk gp gv gs gn F b → ro nu wo w F b p → b + fs F ≤ 8001 → p + fs F ≤ M → ∃ nu' ck' cp' cv' cs' cn' wo', jl (Gr_layOut_b35_b gk gp gv gs gn N (nI M)) (nu, ck, cp, cv, cs, cn, wo, nI (b + fs F) - 1) = jl (Gr_layOut_b35_b gk gp gv gs gn N (nI M)) (nu', ck', cp', cv', cs', cn', wo', nI b - 1) ∧ pr P ck' cp' cs' wo' F p w ∧ pc cn' F p ∧ vr V cv' F p ∧ (∀ z, z < p ∨ p + fs F ≤ z → ck' z = ck z ∧ cp' z = cp z ∧ cv' z = cv z ∧ cs' z = cs z ∧ cn' z = cn z ∧ wo' z = wo z) ∧ (∀ z, z < b ∨ b + fs F ≤ z → nu' z = nu z) := by
  induction F with
  | add X Y hX hY =>
    intro b p w nu ck cp cv cs cn wo h hr hb hp
    have hb' : b + (fs X + fs Y) ≤ 8001 := hb
    have hp' : p + (fs X + fs Y) ≤ M := hp
    obtain ⟨n1, k1, p1, v1, s1, c1, w1, a1, a2, a3, a4, a5, a6⟩ := hY (b + fs X) (p + fs X) w nu ck cp cv cs cn wo h.2 hr.2 (by omega) (by omega)
    have hr1 := ro_fr (nu' := n1) (wo' := w1) X b p hr.1 (fun z q r => a6 z (by omega)) (fun z q r => (a5 z (by omega)).2.2.2.2.2)
    obtain ⟨n2, k2, p2, v2, s2, c2, w2, b1, b2, b3, b4, b5, b6⟩ := hX b p w n1 k1 p1 v1 s1 c1 w1 h.1 hr1 (by omega) (by omega)
    refine ⟨n2, k2, p2, v2, s2, c2, w2, ?_, ⟨b2, pr_fr Y _ _ a2 (fun z q r => ?_)⟩, ⟨b3, pc_fr Y _ a3 (fun z q r => (b5 z (by omega)).2.2.2.2.1)⟩, ⟨b4, vr_fr Y _ a4 (fun z q r => (b5 z (by omega)).2.2.1)⟩, fun z hz => ?_, fun z hz => ?_⟩
    · show jl _ (nu, ck, cp, cv, cs, cn, wo, nI (b + (fs X + fs Y)) - 1) = _
      rw [← Nat.add_assoc]
      exact a1.trans b1
    · have := b5 z (by omega); exact ⟨this.1, this.2.1, this.2.2.2.1, this.2.2.2.2.2⟩
    · have hz' : z < p ∨ p + (fs X + fs Y) ≤ z := hz
      have e1 := b5 z (by omega)
      have e2 := a5 z (by omega)
      exact ⟨e1.1.trans e2.1, e1.2.1.trans e2.2.1, e1.2.2.1.trans e2.2.2.1, e1.2.2.2.1.trans e2.2.2.2.1, e1.2.2.2.2.1.trans e2.2.2.2.2.1, e1.2.2.2.2.2.trans e2.2.2.2.2.2⟩
    · have hz' : z < b ∨ b + (fs X + fs Y) ≤ z := hz
      exact (b6 z (by omega)).trans (a6 z (by omega))
  | pow X c hX =>
    intro b p w nu ck cp cv cs cn wo h hr hb hp
    have hb' : b + (fs X + 1) ≤ 8001 := hb
    have hp' : p + (fs X + 1) ≤ M := hp
    obtain ⟨h0, k1, k2, k3, k4, k5⟩ := h
    obtain ⟨r1, r2⟩ := hr
    obtain ⟨n1, w1, a1, a2, a3, a4⟩ := n_partsF (g := b + fs X) (b := b) (p := p) (X := X) (nu := nu) (wo := wo) (by omega) hM rfl h0 (by omega) k4 k5 r1
    obtain ⟨n2, q2, p2, v2, s2, c2, w2, b1, b2, b3, b4, b5, b6⟩ := hX b (p + 1) (nI p) n1 (upd ck p (nI (c % 32))) (upd cp p (plc P c)) (upd cv p (vlc V c)) (upd cs p (nI (fs X + 1))) (upd cn p (nI (fn X))) w1 h0 a2 (by omega) (by omega)
    have ep := b5 p (by omega)
    refine ⟨n2, q2, p2, v2, s2, c2, w2, ?_, ⟨ep.1.trans pk_us, ep.2.1.trans pk_us, ep.2.2.2.1.trans pk_us, (ep.2.2.2.2.2.trans (a4 p (by omega))).trans r2, b2⟩, ⟨ep.2.2.2.2.1.trans pk_us, b3⟩, ⟨ep.2.2.1.trans pk_us, b4⟩, fun z hz => ?_, fun z hz => ?_⟩
    · refine (jl_step ?_).trans b1
      show Gr_layOut_b35_s gk gp gv gs gn N (nI M) nu ck cp cv cs cn wo (nI (b + (fs X + 1)) - 1) = _
      unfold Gr_layOut_b35_s
      have e1 : nI (b + (fs X + 1)) - 1 = nI (b + fs X) := nI_pred (b + fs X)
      have hin := nI_in (c := b + fs X) (N := 8001) (by omega) (by omega)
      have hin' := hin
      rw [nI_clamp (by omega)] at hin'
      rw [e1, if_neg (nI_pos (by omega)), nI_clamp (n := b + fs X) (by omega), r1]
      simp only [if_neg hin', k1, k2, k3, k4, k5]
      refine (jb_ok (t_put hM (show p < M by omega))).trans ((jb_ok a1).trans ?_)
      have e5 : nI (b + fs X) + (-1) = nI (b + fs X) - 1 := i_m1 _
      rw [e5]
    · have hz' : z < p ∨ p + (fs X + 1) ≤ z := hz
      have e1 := b5 z (by omega)
      exact ⟨e1.1.trans (pk_un (by omega)), e1.2.1.trans (pk_un (by omega)), e1.2.2.1.trans (pk_un (by omega)), e1.2.2.2.1.trans (pk_un (by omega)), e1.2.2.2.2.1.trans (pk_un (by omega)), e1.2.2.2.2.2.trans (a4 z (by omega))⟩
    · have hz' : z < b ∨ b + (fs X + 1) ≤ z := hz
      exact (b6 z (by omega)).trans (a3 z (by omega))
  | _ => intro b p w nu ck cp cv cs cn wo h hr hb hp; exact ⟨nu, ck, cp, cv, cs, cn, wo, rfl, True.intro, True.intro, True.intro, fun _ _ => ⟨rfl, rfl, rfl, rfl, rfl, rfl⟩, fun _ _ => rfl⟩
theorem l_outF {X : Fo} {c : Nat} {nu ck cp cv cs cn wo : Nat → Int32} {N0 : Int32} (h : RG K m P V gk gp gv gs gn (fp (.pow X c))) (hN : fs X + 1 ≤ 8001) (hw : wo 0 = -1) : ∃ nu' ck' cp' cv' cs' cn' wo', f_Gr_layOut gk gp gv gs gn (nI (fs X + 1)) nu ck cp cv cs cn wo N0 = some (nu', ck', cp', cv', cs', cn', wo', nI (fs X + 1)) ∧ pr P ck' cp' cs' wo' (.pow X c) 0 (-1) ∧ pc cn' (.pow X c) 0 ∧ vr V cv' (.pow X c) 0 := by
  have hg : gr P V gk gp gv gs gn (.pow X c) 0 := RG_gr (.pow X c) [] (by rw [List.append_nil]; exact h)
  obtain ⟨nu', ck', cp', cv', cs', cn', wo', a1, a2, a3, a4, _, _⟩ := l_out (N := nI (fs X + 1)) (M := fs X + 1) hN (.pow X c) 0 0 (-1) (upd nu (fs X) 0) ck cp cv cs cn wo hg ⟨by rw [Nat.zero_add]; exact pk_us, hw⟩ (by show 0 + (fs X + 1) ≤ 8001; omega) (by show 0 + (fs X + 1) ≤ fs X + 1; omega)
  refine ⟨nu', ck', cp', cv', cs', cn', wo', ?_, a2, a3, a4⟩
  unfold f_Gr_layOut Gr_layOut_b35
  have e1 : nI (fs X + 1) - 1 = nI (fs X) := nI_pred (fs X)
  rw [if_neg (nI_ne0 (by omega) (by omega)), t_room hN, jb_some, e1, if_neg (nI_in (by omega) (by omega)), nI_clamp (by omega)]
  have e2 : nI (0 + fs (.pow X c)) - 1 = nI (fs X) := by rw [Nat.zero_add]; exact nI_pred (fs X)
  rw [e2] at a1
  refine a1.trans (jl_done ?_)
  show Gr_layOut_b35_s gk gp gv gs gn (nI (fs X + 1)) (nI (fs X + 1)) nu' ck' cp' cv' cs' cn' wo' (nI 0 - 1) = _
  unfold Gr_layOut_b35_s
  rw [if_pos (show nI 0 - 1 < 0 by decide)]
end LO
