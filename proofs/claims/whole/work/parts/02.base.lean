-- loops, binds: the pure side
def jl_b {σ ρ : Type} (k : σ → Option ρ) (x : Option (σ ⊕ ρ)) : Option ρ := match x with
  | none => none
  | some (.inl s) => k s
  | some (.inr r) => some r
def jl_n {σ ρ : Type} (body : σ → Option (σ ⊕ ρ)) : Nat → σ → Option ρ
  | 0, _ => none
  | n + 1, s => jl_b (jl_n body n) (body s)
theorem jl_n_zero {σ ρ : Type} (body : σ → Option (σ ⊕ ρ)) (s : σ) : jl_n body 0 s = none := rfl
theorem jl_n_succ {σ ρ : Type} (body : σ → Option (σ ⊕ ρ)) (n : Nat) (s : σ) : jl_n body (n + 1) s = jl_b (jl_n body n) (body s) := rfl
theorem jl_b_none {σ ρ : Type} (k : σ → Option ρ) : jl_b k none = none := rfl
theorem jl_b_inl {σ ρ : Type} (k : σ → Option ρ) (s : σ) : jl_b k (some (.inl s)) = k s := rfl
theorem jl_b_inr {σ ρ : Type} (k : σ → Option ρ) (r : ρ) : jl_b k (some (.inr r)) = some r := rfl
def jm {σ ρ : Type} (x : Option ρ) : Option (σ ⊕ ρ) := match x with
  | none => none
  | some r => some (.inr r)
theorem jm_none {σ ρ : Type} : (jm (none : Option ρ) : Option (σ ⊕ ρ)) = none := rfl
theorem jm_some {σ ρ : Type} (r : ρ) : (jm (some r) : Option (σ ⊕ ρ)) = some (.inr r) := rfl
theorem jl_b_jm {σ ρ : Type} (k : σ → Option ρ) (x : Option ρ) : jl_b k (jm x) = x := by cases x <;> rfl
def jb {α β : Type} (x : Option α) (k : α → Option β) : Option β := match x with
  | none => none
  | some o => k o
theorem jb_none {α β : Type} (k : α → Option β) : jb none k = none := rfl
theorem jb_some {α β : Type} (o : α) (k : α → Option β) : jb (some o) k = k o := rfl
theorem jl_mono {σ ρ : Type} (body : σ → Option (σ ⊕ ρ)) : ∀ (n : Nat) (s : σ) (r : ρ), jl_n body n s = some r → jl_n body (n + 1) s = some r := by
  intro n
  induction n with
  | zero => intro s r h; cases h
  | succ n ih =>
    intro s r h
    rw [jl_n_succ] at h ⊢
    cases hb : body s with
    | none => rw [hb] at h; cases h
    | some x =>
      cases x with
      | inl s' => rw [hb] at h; exact ih s' r h
      | inr r' => rw [hb] at h; exact h
theorem jl_mono' {σ ρ : Type} (body : σ → Option (σ ⊕ ρ)) {n k : Nat} (h : n ≤ k) {s : σ} {r : ρ} (hr : jl_n body n s = some r) : jl_n body k s = some r := by
  induction h with
  | refl => exact hr
  | step _ ih => exact jl_mono body _ s r ih
theorem jl_det {σ ρ : Type} (body : σ → Option (σ ⊕ ρ)) {n k : Nat} {s : σ} {r r' : ρ} (h : jl_n body n s = some r) (h' : jl_n body k s = some r') : r = r' := by
  rcases Nat.le_total n k with q | q
  · have := jl_mono' body q h
    rw [this] at h'
    exact Option.some.inj h'
  · have := jl_mono' body q h'
    rw [h] at this
    exact Option.some.inj this
noncomputable def jl {σ ρ : Type} (body : σ → Option (σ ⊕ ρ)) (s : σ) : Option ρ :=
  @dite (Option ρ) (∃ n r, jl_n body n s = some r) (Classical.propDecidable _) (fun h => jl_n body (Classical.choose h) s) (fun _ => none)
theorem jl_ex {σ ρ : Type} (body : σ → Option (σ ⊕ ρ)) (s : σ) : ∃ n, jl body s = jl_n body n s := by
  by_cases h : ∃ n r, jl_n body n s = some r
  · exact ⟨Classical.choose h, by unfold jl; rw [dif_pos h]⟩
  · exact ⟨0, by unfold jl; rw [dif_neg h]; rfl⟩
theorem jl_of {σ ρ : Type} {body : σ → Option (σ ⊕ ρ)} {n : Nat} {s : σ} {r : ρ} (h : jl_n body n s = some r) : jl body s = some r := by
  have hx : ∃ n r, jl_n body n s = some r := ⟨n, r, h⟩
  obtain ⟨r', hr'⟩ := Classical.choose_spec hx
  unfold jl
  rw [dif_pos hx, hr', jl_det body hr' h]
theorem jl_unfold {σ ρ : Type} (body : σ → Option (σ ⊕ ρ)) (s : σ) : jl body s = jl_b (jl body) (body s) := by
  cases hb : body s with
  | none =>
    obtain ⟨n, hn⟩ := jl_ex body s
    rw [hn, jl_b_none]
    cases n with
    | zero => rfl
    | succ n => rw [jl_n_succ, hb]; rfl
  | some x =>
    cases x with
    | inr r => rw [jl_b_inr]; exact jl_of (n := 1) (by rw [jl_n_succ, hb]; rfl)
    | inl s' =>
      rw [jl_b_inl]
      cases hs : jl body s' with
      | some r =>
        obtain ⟨n, hn⟩ := jl_ex body s'
        exact jl_of (n := n + 1) (by rw [jl_n_succ, hb, jl_b_inl, ← hn, hs])
      | none =>
        obtain ⟨n, hn⟩ := jl_ex body s
        cases n with
        | zero => rw [hn]; rfl
        | succ n =>
          rw [jl_n_succ, hb, jl_b_inl] at hn
          rw [hn]
          cases hq : jl_n body n s' with
          | none => rfl
          | some r => rw [jl_of hq] at hs; cases hs
def jush (x y : Int32) : Int32 := (x.toUInt32 >>> (y.toUInt32 &&& Int32.toUInt32 31)).toInt32
def jrowL : List (List Int32) := [[4, 33, 30, 17, 38, 22, 61], [5, 33, 30, 36, 18, 38, 22, 62], [6, 33, 30, 17, 38, 18, 38, 22, 63], [7, 33, 30, 17, 38, 35, 22, 64], [8, 38, 36, 22, 66], [9, 38, 22, 67], [31, 30], [15, 33, 34, 17, 38, 16, 68], [33, 34, 17, 38, 68], [33, 34], [23, 33, 17, 38, 65, 35], [17, 38], [10, 32, 19, 37, 70], [11, 32, 21, 37, 71], [12, 33, 36, 18, 38, 13, 37, 72], [40, 41], [37, 39], [14, 44, 45, 78], [15, 38, 46], [20, 37, 43], [40, 42, 41], [16], [17, 38, 16, 75]]
def jrowM : List String := ["AXIOM_ROW", "DEF_ROW", "LEMMA_ROW", "DATA_ROW", "CHECK_ROW", "NORM_ROW", "GROUPS_ROW", "GROUP_ROW", "BARE_GROUP_ROW", "MORE_BINDERS_ROW", "CONSTRUCTORS_ROW", "TYPE_ROW", "FUN_ROW", "ALL_ROW", "LET_ROW", "ATOMS_ROW", "DEEPER_TERM_ROW", "REC_ROW", "BRACKET_ROW", "ARROW_ROW", "MORE_ATOMS_ROW", "CLOSE_ROW", "TYPED_ROW"]
def jrowN (k : Nat) : Nat := (jrowL.getD k []).length
def jrow (k j : Nat) : Int32 := (jrowL.getD k []).getD j 0
def jstrL : List (List Int32) := [[80, 114, 111, 112], [84, 121, 112, 101], [97, 120, 105, 111, 109], [100, 101, 102], [108, 101, 109, 109, 97], [100, 97, 116, 97], [99, 104, 101, 99, 107], [110, 111, 114, 109], [102, 117, 110], [97, 108, 108], [108, 101, 116], [105, 110], [114, 101, 99], [40], [41], [58], [58, 61], [61, 62], [45, 62], [44], [46], [124], [], [80, 114, 111, 112], [84, 121, 112, 101], [97, 120, 105, 111, 109], [100, 101, 102], [108, 101, 109, 109, 97], [100, 97, 116, 97], [99, 104, 101, 99, 107], [110, 111, 114, 109], [102, 117, 110], [97, 108, 108], [108, 101, 116], [105, 110], [114, 101, 99], [80, 114, 111, 112], [84, 121, 112, 101], [58, 32], [32, 58, 61, 32], [32, 124, 32], [102, 117, 110, 32], [97, 108, 108, 32], [32, 61, 62, 32], [44, 32], [108, 101, 116, 32], [32, 105, 110, 32], [32, 45, 62, 32], [114, 101, 99, 32]]
def jstrO : List String := ["TermReader$Tokens", "TermReader$Tokens", "TermReader$Token", "TermReader$Token", "TermReader$Token", "TermReader$Token", "TermReader$Token", "TermReader$Token", "TermReader$Token", "TermReader$Token", "TermReader$Token", "TermReader$Token", "TermReader$Token", "TermReader$Token", "TermReader$Token", "TermReader$Token", "TermReader$Token", "TermReader$Token", "TermReader$Token", "TermReader$Token", "TermReader$Token", "TermReader$Token", "TermReader$Token", "TermReader$Writer", "TermReader$Writer", "TermReaderModel", "TermReaderModel", "TermReaderModel", "TermReaderModel", "TermReaderModel", "TermReaderModel", "TermReaderModel", "TermReaderModel", "TermReaderModel", "TermReaderModel", "TermReaderModel", "TermReaderModel", "TermReaderModel", "TermReaderModel", "TermReaderModel", "TermReaderModel", "TermReaderModel", "TermReaderModel", "TermReaderModel", "TermReaderModel", "TermReaderModel", "TermReaderModel", "TermReaderModel", "TermReaderModel"]
def jstrX : List Nat := [90, 92, 9, 11, 13, 15, 17, 19, 21, 23, 25, 27, 29, 31, 33, 35, 37, 39, 41, 43, 45, 47, 49, 124, 126, 9, 11, 13, 15, 17, 19, 21, 23, 25, 27, 29, 137, 139, 249, 258, 260, 278, 280, 282, 284, 286, 288, 290, 295]
def jstrT : List String := ["Prop", "Type", "axiom", "def", "lemma", "data", "check", "norm", "fun", "all", "let", "in", "rec", "(", ")", ":", ":=", "=>", "->", ",", ".", "|", "", "Prop", "Type", "axiom", "def", "lemma", "data", "check", "norm", "fun", "all", "let", "in", "rec", "Prop", "Type", ": ", " := ", " | ", "fun ", "all ", " => ", ", ", "let ", " in ", " -> ", "rec "]
def jstrN (k : Nat) : Nat := (jstrL.getD k []).length
def jstr (k j : Nat) : Int32 := (jstrL.getD k []).getD j 0
-- what holds of the tables, the static arrays and the texts all the time
def jRa (adR : Nat → Nat) (A : Nat → Prop) (U : State) (H : Heap) : Prop := ∀ k, k < 23 → va_Z R_Ru (jrowM.getD k "") "[I" (.ref (adR k)) A U H ∧ va_T .int (adR k) (jrowN k) (fun j => .int (jrow k j)) A U H
def jSa (adK adV : Nat → Nat) (A : Nat → Prop) (U : State) (H : Heap) : Prop := ∀ k, k < 49 → va_O "java/lang/String" (adK k) A U H ∧ va_OF "java/lang/String" "coder" "B" (.int 0) (adK k) A U H ∧ va_OF "java/lang/String" "value" "[B" (.ref (adV k)) (adK k) A U H ∧ va_T .byte (adV k) (jstrN k) (fun j => .int (jstr k j)) A U H
def jTa (adK : Nat → Nat) (U : State) : Prop := ∀ k, k < 49 → vk_R (jstrO.getD k "") (jstrX.getD k 0) (jstrT.getD k "") (adK k) U
def jK (dC : Nat → ClassId) (dI : Nat → Nat → Nat) (cI cB cS : ClassId) (adK adV adR : Nat → Nat) (A : Nat → Prop) (U : State) (H : Heap) : Prop :=
  va_K (dC, dI) vwCl [(cI, .int), (cB, .byte), (cS, .object "java/lang/String")] U ∧ jRa adR A U H ∧ jSa adK adV A U H ∧ jTa adK U ∧ va_Z R_Js "COMPACT_STRINGS" "Z" (.int 1) A U H ∧ va_Zq "jdk/internal/util/Preconditions" "SIOOBE_FORMATTER" "Ljava/util/function/BiFunction;" A U H ∧ va_AO "java/lang/String" U
theorem jK.K {dC : Nat → ClassId} {dI : Nat → Nat → Nat} {cI cB cS : ClassId} {adK adV adR : Nat → Nat} {A : Nat → Prop} {U : State} {H : Heap} (h : jK dC dI cI cB cS adK adV adR A U H) : va_K (dC, dI) vwCl [(cI, .int), (cB, .byte), (cS, .object "java/lang/String")] U := h.1
theorem jK.R {dC : Nat → ClassId} {dI : Nat → Nat → Nat} {cI cB cS : ClassId} {adK adV adR : Nat → Nat} {A : Nat → Prop} {U : State} {H : Heap} (h : jK dC dI cI cB cS adK adV adR A U H) (k : Nat) (hk : k < 23) : va_Z R_Ru (jrowM.getD k "") "[I" (.ref (adR k)) A U H ∧ va_T .int (adR k) (jrowN k) (fun j => .int (jrow k j)) A U H := h.2.1 k hk
theorem jK.S {dC : Nat → ClassId} {dI : Nat → Nat → Nat} {cI cB cS : ClassId} {adK adV adR : Nat → Nat} {A : Nat → Prop} {U : State} {H : Heap} (h : jK dC dI cI cB cS adK adV adR A U H) (k : Nat) (hk : k < 49) : va_O "java/lang/String" (adK k) A U H ∧ va_OF "java/lang/String" "coder" "B" (.int 0) (adK k) A U H ∧ va_OF "java/lang/String" "value" "[B" (.ref (adV k)) (adK k) A U H ∧ va_T .byte (adV k) (jstrN k) (fun j => .int (jstr k j)) A U H := h.2.2.1 k hk
theorem jK.T {dC : Nat → ClassId} {dI : Nat → Nat → Nat} {cI cB cS : ClassId} {adK adV adR : Nat → Nat} {A : Nat → Prop} {U : State} {H : Heap} (h : jK dC dI cI cB cS adK adV adR A U H) (k : Nat) (hk : k < 49) : vk_R (jstrO.getD k "") (jstrX.getD k 0) (jstrT.getD k "") (adK k) U := h.2.2.2.1 k hk
theorem jK.Z {dC : Nat → ClassId} {dI : Nat → Nat → Nat} {cI cB cS : ClassId} {adK adV adR : Nat → Nat} {A : Nat → Prop} {U : State} {H : Heap} (h : jK dC dI cI cB cS adK adV adR A U H) : va_Z R_Js "COMPACT_STRINGS" "Z" (.int 1) A U H := h.2.2.2.2.1
theorem jK.F {dC : Nat → ClassId} {dI : Nat → Nat → Nat} {cI cB cS : ClassId} {adK adV adR : Nat → Nat} {A : Nat → Prop} {U : State} {H : Heap} (h : jK dC dI cI cB cS adK adV adR A U H) : va_Zq "jdk/internal/util/Preconditions" "SIOOBE_FORMATTER" "Ljava/util/function/BiFunction;" A U H := h.2.2.2.2.2.1
theorem jK.O {dC : Nat → ClassId} {dI : Nat → Nat → Nat} {cI cB cS : ClassId} {adK adV adR : Nat → Nat} {A : Nat → Prop} {U : State} {H : Heap} (h : jK dC dI cI cB cS adK adV adR A U H) : va_AO "java/lang/String" U := h.2.2.2.2.2.2
theorem jK.same {dC : Nat → ClassId} {dI : Nat → Nat → Nat} {cI cB cS : ClassId} {adK adV adR : Nat → Nat} {A : Nat → Prop} {u U : State} {H : Heap} (hv : u.vm = U.vm) (h : jK dC dI cI cB cS adK adV adR A u H) : jK dC dI cI cB cS adK adV adR A U H := by
  have ha : u.vm.Alike U.vm := hv ▸ Vm.Alike.refl u.vm
  refine ⟨va_K.moved ha h.1, fun k hk => ⟨va_Z.moved ha (h.R k hk).1, va_T.moved ha (h.R k hk).2⟩, fun k hk => ⟨va_O.moved ha (h.S k hk).1, va_OF.moved ha (h.S k hk).2.1, va_OF.moved ha (h.S k hk).2.2.1, va_T.moved ha (h.S k hk).2.2.2⟩, fun k hk => vk_R.same hv.symm (h.T k hk), va_Z.moved ha h.Z, va_Zq.moved ha h.F, va_AO.moved ha h.O⟩
theorem jK.call {dC : Nat → ClassId} {dI : Nat → Nat → Nat} {cI cB cS : ClassId} {adK adV adR : Nat → Nat} {A A1 : Nat → Prop} {s U : State} {H : Heap} {locs : List Loc} (h : jK dC dI cI cB cS adK adV adR A s s.heap) (hS : va_S A s.heap H locs) (hF : ∀ q, A1 q → A q) (hU : U.heap = H) (hW : s.WarmedH U.vm) : jK dC dI cI cB cS adK adV adR A1 U U.heap := by
  have ha := hW.alike
  have hq := hS.2.1
  rw [hU]
  refine ⟨va_K.moved ha h.1, fun k hk => ⟨va_Z.moved ha (((h.R k hk).1.kept hq).narrow hF), va_T.moved ha (((h.R k hk).2.kept hq).narrow hF)⟩, fun k hk => ⟨va_O.moved ha (((h.S k hk).1.kept hq).narrow hF), va_OF.moved ha (((h.S k hk).2.1.kept hq).narrow hF), va_OF.moved ha (((h.S k hk).2.2.1.kept hq).narrow hF), va_T.moved ha (((h.S k hk).2.2.2.kept hq).narrow hF)⟩, fun k hk => vk_R.warm hW (h.T k hk), va_Z.moved ha ((h.Z.kept hq).narrow hF), va_Zq.moved ha ((h.F.kept hq).narrow hF), va_AO.moved ha h.O⟩
theorem j_clsI {D : va_G} {cl : List vw_C} {cI cB cS cA : ClassId} {U : State} (h : va_K D cl ([(cI, .int), (cB, .byte), (cS, .object "java/lang/String")] ++ [(cA, .int)]) U) : cA = cI := by
  have h1 : U.vm.findClass _ = some cI := (h.2 0 (cI, .int) rfl).2
  have h2 : U.vm.findClass _ = some cA := (h.2 3 (cA, .int) rfl).2
  exact Option.some.inj (h2.symm.trans h1)
theorem j_clsB {D : va_G} {cl : List vw_C} {cI cB cS cA : ClassId} {U : State} (h : va_K D cl ([(cI, .int), (cB, .byte), (cS, .object "java/lang/String")] ++ [(cA, .byte)]) U) : cA = cB := by
  have h1 : U.vm.findClass _ = some cB := (h.2 1 (cB, .byte) rfl).2
  have h2 : U.vm.findClass _ = some cA := (h.2 3 (cA, .byte) rfl).2
  exact Option.some.inj (h2.symm.trans h1)
theorem j_clsS {D : va_G} {cl : List vw_C} {cI cB cS cA : ClassId} {U : State} (h : va_K D cl ([(cI, .int), (cB, .byte), (cS, .object "java/lang/String")] ++ [(cA, .object "java/lang/String")]) U) : cA = cS := by
  obtain ⟨_, _, _, _, _, h1⟩ := (h.2 2 (cS, .object "java/lang/String") rfl).2
  obtain ⟨_, _, _, _, _, h2⟩ := (h.2 3 (cA, .object "java/lang/String") rfl).2
  exact Option.some.inj (h2.symm.trans h1)
section JS
variable {p : Program} {l : Launch} {e : Env} {R : Room} {s : State} {m : MethodId} {args : Array Value} {below : List Frame} {meth : Method} {c : Code} {H : Heap} {locs : List Loc} {cells slots : Nat} {Q : State → Prop}
variable {cc : ByteArray} {pc : Nat} {ls : Array Slot} {rest : List Value}
theorem jS_recv {dC : Nat → ClassId} {dI : Nat → Nat → Nat} {cI cB cS : ClassId} {adK adV adR : Nat → Nat} {A : Nat → Prop} {k : Nat} (h : jK dC dI cI cB cS adK adV adR A s s.heap) (hk : k < 49) (hS : va_S A s.heap H locs) : ∃ cell : Cell, H[adK k]? = some cell ∧ cell.vm.isStatics = false ∧ s.vm.findClass R_Js = some cell.cls := by
  obtain ⟨cell, h1, h2, h3, -⟩ := (h.S k hk).1.kept hS.2.1
  exact ⟨cell, h1, h2, h3⟩
theorem va_ldcSw (hexec : p.tables.exec = Jvm.exec) (hb : c.code = cc) {own tx : String} {index q : Nat} (hown : s.vm.findClass own = some m.cls) (hZ : vk_R own index tx q s) (hdg : decode cc pc = .ok (.ldc_w index, 3))
    (k : W p l e R s m args below meth c H locs cells slots Q (F0 m (pc + 3) ls (.ref q :: rest))) : W p l e R s m args below meth c H locs cells slots Q (F0 m pc ls rest) := by
  intro T hT X
  obtain ⟨t, a1, b1⟩ := k T hT X
  exact ⟨t, X.ldcStringW hexec hown (text := tx) (a := q) hZ.1 hZ.2 (g := F0 m pc ls rest) rfl (by rw [hb]; exact hdg) t a1, b1⟩
theorem jS_any {dC : Nat → ClassId} {dI : Nat → Nat → Nat} {cI cB cS : ClassId} {adK adV adR : Nat → Nat} {A : Nat → Prop} {k : Nat} (h : jK dC dI cI cB cS adK adV adR A s s.heap) (hk : k < 49) (hS : va_S A s.heap H locs) : va_Any "java/lang/String" s H (adK k) := by
  obtain ⟨cell, h1, h2, h3⟩ := jS_recv h hk hS
  obtain ⟨kC, hkC, -⟩ := Vm.findClass_spec h3
  exact ⟨cell, h1, h2, ⟨kC, hkC⟩, fun comp hc => by
    have e : cell.cls = comp := Option.some.inj (h3.symm.trans hc)
    rw [e]; exact va_asg _ _⟩
end JS
def jwords (adK : Nat → Nat) : Nat → Option Nat := (va_up (va_up (va_up (va_up (va_up (va_up (va_up (va_up (va_up (va_up (va_up (fun _ => none) (0 : Int32).toNatClampNeg (some (adK 25))) (1 : Int32).toNatClampNeg (some (adK 26))) (2 : Int32).toNatClampNeg (some (adK 27))) (3 : Int32).toNatClampNeg (some (adK 28))) (4 : Int32).toNatClampNeg (some (adK 29))) (5 : Int32).toNatClampNeg (some (adK 30))) (6 : Int32).toNatClampNeg (some (adK 31))) (7 : Int32).toNatClampNeg (some (adK 32))) (8 : Int32).toNatClampNeg (some (adK 33))) (9 : Int32).toNatClampNeg (some (adK 34))) (10 : Int32).toNatClampNeg (some (adK 35)))
theorem jwords_at {adK : Nat → Nat} {i : Int32} (h : ¬ (i < 0 ∨ 11 ≤ i.toNatClampNeg)) : va_rf (jwords adK i.toNatClampNeg) = .ref (adK (25 + i.toNatClampNeg)) := by
  have hi : i.toNatClampNeg < 11 := Nat.lt_of_not_le (fun z => h (Or.inr z))
  generalize i.toNatClampNeg = n at hi
  match n, hi with
  | 0, _ => rfl
  | 1, _ => rfl
  | 2, _ => rfl
  | 3, _ => rfl
  | 4, _ => rfl
  | 5, _ => rfl
  | 6, _ => rfl
  | 7, _ => rfl
  | 8, _ => rfl
  | 9, _ => rfl
  | 10, _ => rfl
  | k + 11, h => exact absurd h (by omega)

-- contracts: a method over a world of cells; its answer and the world behind it are given
def jPc (dC : Nat → ClassId) (dI : Nat → Nat → Nat) (cI cB cS : ClassId) (adK adV adR : Nat → Nat) (av : List Value) (Wd : va_W) (sz : Nat) : Array Value → State → Prop := va_Pc av (fun U => U.heap.size = sz ∧ va_P (dC, dI) vwCl Wd U.heap ∧ jK dC dI cI cB cS adK adV adR (va_A Wd sz) U U.heap ∧ va_D (fun _ => True) Wd)
def jQ (dC : Nat → ClassId) (dI : Nat → Nat → Nat) (res : Option Value) (We : (Nat → Nat) → va_W) (A : Nat → Prop) : Array Value → State → Outcome → State → Prop := fun _ st oc t => oc = .returned res ∧ (∃ q : Nat → Nat, va_P (dC, dI) vwCl (We q) t.heap ∧ va_D A (We q)) ∧ va_F A st t
def jMet (l : Launch) (dC : Nat → ClassId) (dI : Nat → Nat → Nat) (cI cB cS : ClassId) (adK adV adR : Nat → Nat) (y : MethodName) (wds : List Cond) (rm : Room) (av : List Value) (Wd : va_W) (res : Option Value) (We : (Nat → Nat) → va_W) (mc ms : Nat) : Prop :=
  ∀ sz : Nat, Met l y wds rm (jPc dC dI cI cB cS adK adV adR av Wd sz) (jQ dC dI res We (va_A Wd sz)) mc ms (va_A Wd sz)
theorem jPc_blind {dC : Nat → ClassId} {dI : Nat → Nat → Nat} {cI cB cS : ClassId} {adK adV adR : Nat → Nat} {av : List Value} {Wd : va_W} {sz : Nat} : FrameBlind (jPc dC dI cI cB cS adK adV adR av Wd sz) := by
  intro a U g mk q
  obtain ⟨q0, q1, q2, q3, q4⟩ := q
  exact ⟨q0, q1, q2, jK.same (u := U) (U := U.calling g mk a) rfl q3, q4⟩
theorem jSubMap {α : Type} {isC : List Nat} {ws wc : List α} (h : isC.map (fun i => ws[i]?) = wc.map some) : isC.filterMap (fun i => ws[i]?) = wc := by
  have h1 := congrArg (List.filterMap id) h
  simpa [List.filterMap_map, Function.comp_def] using h1
section JB
variable {p : Program} {l : Launch} {e : Env} {R : Room} {s : State} {m : MethodId} {args : Array Value} {below : List Frame} {meth : Method} {c : Code} {H : Heap} {locs : List Loc} {cells slots : Nat} {Q : State → Prop}
variable {dC : Nat → ClassId} {dI : Nat → Nat → Nat} {cI cB cS : ClassId} {adK adV adR : Nat → Nat} {A : Nat → Prop} {cc : ByteArray} {pc : Nat} {ls : Array Slot} {rest st0 : List Value}
/-- entry -/
theorem jEntry {y : MethodName} {wds ws' : List Cond} {rm : Room} {av : List Value} {Wd : va_W} {res : Option Value} {We : (Nat → Nat) → va_W} {mc ms maxL : Nat} {ret : Option FieldType} {lv0 : List (Nat × Value)}
    (hy : plainName y.cls = true) (hw : wds = Cond.code y cc maxL ret :: ws') (hle : (lg_sl av).length ≤ maxL) (hlv : lv_args 0 av = lv0)
    (body : ∀ (p : Program) (e : Env) (s : State) (m : MethodId) (args : Array Value) (below : List Frame) (meth : Method) (c : Code) (A : Nat → Prop) (H : Heap) (locs : List Loc) (ls : Array Slot) (Q : State → Prop), Q = MQ below (jQ dC dI res We A) args s mc ms A → p.tables.exec = Jvm.exec → c.code = cc → meth.sig.returnType = ret → c.maxLocals = maxL → s.vm.findClass y.cls = some m.cls → (∀ w ∈ wds, w.before args s = true) → meth.locks = false → meth.name = y.name →
      jK dC dI cI cB cS adK adV adR A s s.heap → (∀ q, s.heap.size ≤ q → A q) → va_P (dC, dI) vwCl Wd H → va_D A Wd → va_S A s.heap H locs → lv_has ls maxL lv0 →
      W p l e rm s m args below meth c H locs 0 0 Q (F0 m 0 ls [])) : jMet l dC dI cI cB cS adK adV adR y wds rm av Wd res We mc ms := by
  intro sz
  refine Met.ofW (cc := cc) (maxL := maxL) (ret := ret) hy hw ?_
  intro p e s m args below meth c s₁ B hml hv
  obtain ⟨rfl, hsz, hP, hJ, hD0⟩ := hv
  subst hsz
  have hl := lv_entry av (n := maxL) hle
  rw [lg_entry_eq]
  rw [hlv] at hl
  exact body p e s m av.toArray below meth c (va_A Wd s.heap.size) s.heap [] _ _ rfl B.exec B.bytes B.returns hml (findClass_of_methodNamed B.named) (atoms_spec (ws := wds) B.pre) B.notSynchronized (name_of_methodNamed B.named B.method).1 hJ (fun q h => Or.inr h) hP (hD0.self) va_S.rf hl
/-- returns -/
theorem jq_of {res : Option Value} {We : (Nat → Nat) → va_W} {q : Nat → Nat} {a : Array Value} (hS : va_S A s.heap H locs) (hP : va_P (dC, dI) vwCl (We q) H) (hD : va_D A (We q)) : ∀ t : State, t.heap = H → s.WarmedH t.vm → jQ dC dI res We A a s (.returned res) t :=
  fun t ht _ => ⟨rfl, ⟨q, by rw [ht]; exact hP, hD⟩, hS.F ht⟩
theorem jIret {We : (Nat → Nat) → va_W} {v : Int32} (hx : p.tables.exec = Jvm.exec) (hb : c.code = cc) (hr : meth.sig.returnType = some .int) (hlocks : meth.locks = false) (hdg : decode cc pc = .ok (.ireturn, 1)) (q : Nat → Nat) (hS : va_S A s.heap H locs) (hP : va_P (dC, dI) vwCl (We q) H) (hD : va_D A (We q)) :
    W p l e R s m args below meth c H locs cells slots (MQ below (jQ dC dI (some (.int v)) We A) args s cells slots A) (F0 m pc ls [.int v]) :=
  W.iret hx hb hr (jq_of hS hP hD) hS.2.2 hdg hlocks
theorem jVret {We : (Nat → Nat) → va_W} (hx : p.tables.exec = Jvm.exec) (hb : c.code = cc) (hr : meth.sig.returnType = none) (hlocks : meth.locks = false) (hdg : decode cc pc = .ok (.return_, 1)) (q : Nat → Nat) (hS : va_S A s.heap H locs) (hP : va_P (dC, dI) vwCl (We q) H) (hD : va_D A (We q)) :
    W p l e R s m args below meth c H locs cells slots (MQ below (jQ dC dI none We A) args s cells slots A) (F0 m pc ls []) :=
  W.vret hx hb hr (jq_of hS hP hD) hS.2.2 hdg hlocks
theorem jAret {We : (Nat → Nat) → va_W} {v : Value} {rt : FieldType} (hx : p.tables.exec = Jvm.exec) (hb : c.code = cc) (hr : meth.sig.returnType = some rt) (hrt : (∃ n, rt = .object n) ∨ ∃ t, rt = .array t) (hv : v = .null ∨ ∃ a, v = .ref a) (hlocks : meth.locks = false) (hdg : decode cc pc = .ok (.areturn, 1)) (q : Nat → Nat) (hS : va_S A s.heap H locs) (hP : va_P (dC, dI) vwCl (We q) H) (hD : va_D A (We q)) :
    W p l e R s m args below meth c H locs cells slots (MQ below (jQ dC dI (some v) We A) args s cells slots A) (F0 m pc ls [v]) :=
  W.aret hx hb hr hrt hv (jq_of hS hP hD) hS.2.2 hdg hlocks
/-- a return that narrows -/
theorem jNretW {Qc : Array Value → State → Outcome → State → Prop} {free : Addr → Prop} {v v' : Int32} {ty : FieldType} (hexec : p.tables.exec = Jvm.exec) (hb : c.code = cc) (hr : meth.sig.returnType = some ty) (hn : narrow ty (.int v) = .int v')
    (hq : ∀ t : State, t.heap = H → s.WarmedH t.vm → Qc args s (.returned (some (.int v'))) t) (hf : ∀ q ∈ locs, free q.base)
    (hdg : decode cc pc = .ok (.ireturn, 1)) (hlocks : meth.locks = false) : W p l e R s m args below meth c H locs cells slots (MQ below Qc args s cells slots free) (F0 m pc ls [.int v]) := by
  intro T hT X
  have hlocks : meth.locks = false := hlocks
  obtain ⟨fs, hret, hrun, hended, hW, hframe⟩ := X.leave (v := some (.int v')) (fun h => by rw [hr] at h; cases h)
  have hmeth' : T.vm.method? m = some meth := X.method'
  refine ⟨T.setFrames fs, ?_, .returned (some (.int v')), hrun, hended, hq _ hT hW, locs, ⟨⟨_, rfl⟩, hW, hframe⟩, hf⟩
  jvm_step X.here [X.here.top, hexec, hb, hdg, hmeth', hr, hn]
  (try refine ⟨rfl, ?_⟩); (try refine ⟨rfl, ?_⟩)
  first | (intro acts; rw [hret _ acts rfl rfl rfl]) | rw [hret _ _ rfl rfl rfl]
  exact Steps.refl _
theorem jNret {We : (Nat → Nat) → va_W} {v : Int32} {ty : FieldType} (hx : p.tables.exec = Jvm.exec) (hb : c.code = cc) (hr : meth.sig.returnType = some ty) (hn : narrow ty (.int v) = .int (vp_nar ty v)) (hlocks : meth.locks = false) (hdg : decode cc pc = .ok (.ireturn, 1)) (q : Nat → Nat) (hS : va_S A s.heap H locs) (hP : va_P (dC, dI) vwCl (We q) H) (hD : va_D A (We q)) :
    W p l e R s m args below meth c H locs cells slots (MQ below (jQ dC dI (some (.int (vp_nar ty v))) We A) args s cells slots A) (F0 m pc ls [.int v]) :=
  jNretW hx hb hr hn (jq_of hS hP hD) hS.2.2 hdg hlocks
/-- behind a call -/
theorem jAfter {a : Array Value} {res : Option Value} {We : (Nat → Nat) → va_W} {wsx wc wr : va_W} {mc ms : Nat} (hr : va_Run p l e R s m args below meth c H locs cells slots mc ms (F0 m pc ls st0) rest (jQ dC dI res We (va_A wc H.size) a) (va_A wc H.size))
    (hP : va_P (dC, dI) vwCl wsx H) (hD : va_D A wsx) (hS : va_S A s.heap H locs) (isC isR : List Nat) (hC : isC.map (fun i => wsx[i]?) = wc.map some) (hR : isR.map (fun i => wsx[i]?) = wr.map some) (hn : va_nd isR = true) (hdis : ∀ i ∈ isR, i ∉ isC) (hFc : ∀ q, va_A wc H.size q → A q)
    (kk : ∀ (q : Nat → Nat) (H1 : Heap) (locs1 : List Loc), va_P (dC, dI) vwCl (wr ++ We q) H1 → va_D A (wr ++ We q) → va_S A s.heap H1 locs1 → W p l e R s m args below meth c H1 locs1 (cells + mc) (slots + ms) Q (F0 m (pc + 3) ls (res.toList ++ rest))) : W p l e R s m args below meth c H locs cells slots Q (F0 m pc ls st0) := by
  intro T hT X
  obtain ⟨v, st₀, t, T', L, h0, X', hL, e1, e2, ⟨hv, ⟨q, hP1, hD1⟩, hz, hk⟩, st⟩ := hr T hT X
  cases hv
  rw [h0] at hz hk
  rw [← e1] at hP1 hz hk
  obtain ⟨hPj, hDj⟩ := va_join (wr := wr) (w1 := We q) hP hD isC isR hC hR hn hdis hk hFc hP1 hD1
  obtain ⟨t2, a1, b1⟩ := kk q T'.heap (locs ++ L) hPj hDj
    ⟨Nat.le_trans hS.1 hz, fun x h1 h2 => by rw [hk x (Nat.lt_of_lt_of_le h1 hS.1) (fun z => h2 (hFc x z))]; exact hS.2.1 x h1 h2, fun x hx => by
      rcases List.mem_append.mp hx with h | h
      · exact hS.2.2 x h
      · exact hFc _ (hL x h)⟩ T' rfl X'
  exact ⟨t2, st t2 a1, b1⟩
variable {y : MethodName} {bytes : ByteArray} {maxL nL mc ms n index : Nat} {ret : Option FieldType} {wds : List Cond} {rm : Room} {Ts : List Cond} {own C host : String} {b : Addr} {As : List Value} {res : Option Value} {We : (Nat → Nat) → va_W} {wsx wc wr : va_W}
theorem jPre {av : List Value} (hJ : jK dC dI cI cB cS adK adV adR A s s.heap) (hP : va_P (dC, dI) vwCl wsx H) (hD : va_D A wsx) (hS : va_S A s.heap H locs) (hA : ∀ q, s.heap.size ≤ q → A q) (isC : List Nat) (hC : isC.map (fun i => wsx[i]?) = wc.map some) (hnC : va_nd isC = true) :
    ∀ U : State, U.heap = H → s.WarmedH U.vm → jPc dC dI cI cB cS adK adV adR av wc H.size av.toArray U := by
  intro U hU hW
  have hFc := va_free hD hS hA isC hC
  refine ⟨rfl, by rw [hU], by rw [hU]; exact hP.sub isC (jSubMap hC), jK.call hJ hS hFc hU hW, (hD.sub isC hnC hC).weaken (fun _ _ _ _ => trivial)⟩
theorem jCallV (S : CallFix p m c cc nL s args Ts own) (hJ : jK dC dI cI cB cS adK adV adR A s s.heap) (hM : jMet l dC dI cI cB cS adK adV adR y wds rm (.ref b :: As) wc res We mc ms) (cw : CallW R s args own C index y bytes maxL ret wds rm mc ms n)
    (hP : va_P (dC, dI) vwCl wsx H) (hD : va_D A wsx) (hS : va_S A s.heap H locs) (hA : ∀ q, s.heap.size ≤ q → A q) (hrecv : ∃ cellB : Cell, H[b]? = some cellB ∧ cellB.vm.isStatics = false ∧ s.vm.findClass C = some cellB.cls) (isC isR : List Nat) (hC : isC.map (fun i => wsx[i]?) = wc.map some) (hR : isR.map (fun i => wsx[i]?) = wr.map some) (hnC : va_nd isC = true) (hn : va_nd isR = true) (hdis : ∀ i ∈ isR, i ∉ isC)
    (hlen : As.length = n) (hsize : ls.size = nL) (hstack : st0 = As.reverse ++ .ref b :: rest) (hW : (rest.map fun v => v.category).sum ≤ 8) (hdg : decode cc pc = .ok (.invokevirtual index, 3)) (hf : cells + mc ≤ R.cells ∧ slots + ms ≤ R.slots)
    (kk : ∀ (q : Nat → Nat) (H1 : Heap) (locs1 : List Loc), va_P (dC, dI) vwCl (wr ++ We q) H1 → va_D A (wr ++ We q) → va_S A s.heap H1 locs1 → W p l e R s m args below meth c H1 locs1 (cells + mc) (slots + ms) Q (F0 m (pc + 3) ls (res.toList ++ rest))) : W p l e R s m args below meth c H locs cells slots Q (F0 m pc ls st0) :=
  jAfter (va_runV (g := F0 m pc ls st0) S (hM H.size) cw ⟨jPc_blind, hrecv, jPre hJ hP hD hS hA isC hC hnC⟩ rfl hlen hsize hstack (lv_room hW) hdg hf) hP hD hS isC isR hC hR hn hdis (va_free hD hS hA isC hC) kk
theorem jCallVN (S : CallFix p m c cc nL s args Ts own) (hJ : jK dC dI cI cB cS adK adV adR A s s.heap) (hM : jMet l dC dI cI cB cS adK adV adR y wds rm (.ref b :: As) wc res We mc ms) (cw : va_CN R s args own index y host bytes maxL ret wds rm mc ms n ∧ (Cond.instanceMethod y).before args s = true ∧ (Cond.selects C y y).before args s = true)
    (hP : va_P (dC, dI) vwCl wsx H) (hD : va_D A wsx) (hS : va_S A s.heap H locs) (hA : ∀ q, s.heap.size ≤ q → A q) (hrecv : ∃ cellB : Cell, H[b]? = some cellB ∧ cellB.vm.isStatics = false ∧ s.vm.findClass C = some cellB.cls) (isC isR : List Nat) (hC : isC.map (fun i => wsx[i]?) = wc.map some) (hR : isR.map (fun i => wsx[i]?) = wr.map some) (hnC : va_nd isC = true) (hn : va_nd isR = true) (hdis : ∀ i ∈ isR, i ∉ isC)
    (hlen : As.length = n) (hsize : ls.size = nL) (hstack : st0 = As.reverse ++ .ref b :: rest) (hW : (rest.map fun v => v.category).sum ≤ 8) (hdg : decode cc pc = .ok (.invokevirtual index, 3)) (hf : cells + mc ≤ R.cells ∧ slots + ms ≤ R.slots)
    (kk : ∀ (q : Nat → Nat) (H1 : Heap) (locs1 : List Loc), va_P (dC, dI) vwCl (wr ++ We q) H1 → va_D A (wr ++ We q) → va_S A s.heap H1 locs1 → W p l e R s m args below meth c H1 locs1 (cells + mc) (slots + ms) Q (F0 m (pc + 3) ls (res.toList ++ rest))) : W p l e R s m args below meth c H locs cells slots Q (F0 m pc ls st0) :=
  jAfter (va_runVN (g := F0 m pc ls st0) S (hM H.size) cw ⟨jPc_blind, hrecv, jPre hJ hP hD hS hA isC hC hnC⟩ rfl hlen hsize hstack (lv_room hW) hdg hf) hP hD hS isC isR hC hR hn hdis (va_free hD hS hA isC hC) kk
theorem jCallS (S : CallFix p m c cc nL s args Ts own) (hJ : jK dC dI cI cB cS adK adV adR A s s.heap) (hM : jMet l dC dI cI cB cS adK adV adR y wds rm As wc res We mc ms) (cw : CallB R s args own index y bytes maxL ret wds rm mc ms n ∧ (Cond.static y).before args s = true)
    (hP : va_P (dC, dI) vwCl wsx H) (hD : va_D A wsx) (hS : va_S A s.heap H locs) (hA : ∀ q, s.heap.size ≤ q → A q) (isC isR : List Nat) (hC : isC.map (fun i => wsx[i]?) = wc.map some) (hR : isR.map (fun i => wsx[i]?) = wr.map some) (hnC : va_nd isC = true) (hn : va_nd isR = true) (hdis : ∀ i ∈ isR, i ∉ isC)
    (hlen : As.length = n) (hsize : ls.size = nL) (hstack : st0 = As.reverse ++ rest) (hW : (rest.map fun v => v.category).sum ≤ 8) (hdg : decode cc pc = .ok (.invokestatic index, 3)) (hf : cells + mc ≤ R.cells ∧ slots + ms ≤ R.slots)
    (kk : ∀ (q : Nat → Nat) (H1 : Heap) (locs1 : List Loc), va_P (dC, dI) vwCl (wr ++ We q) H1 → va_D A (wr ++ We q) → va_S A s.heap H1 locs1 → W p l e R s m args below meth c H1 locs1 (cells + mc) (slots + ms) Q (F0 m (pc + 3) ls (res.toList ++ rest))) : W p l e R s m args below meth c H locs cells slots Q (F0 m pc ls st0) :=
  jAfter (va_runS (g := F0 m pc ls st0) S (hM H.size) cw ⟨jPc_blind, jPre hJ hP hD hS hA isC hC hnC⟩ rfl hlen hsize hstack (lv_room hW) hdg hf) hP hD hS isC isR hC hR hn hdis (va_free hD hS hA isC hC) kk
theorem jCallSN (S : CallFix p m c cc nL s args Ts own) (hJ : jK dC dI cI cB cS adK adV adR A s s.heap) (hM : jMet l dC dI cI cB cS adK adV adR y wds rm As wc res We mc ms) (cw : va_CN R s args own index y host bytes maxL ret wds rm mc ms n ∧ (Cond.static y).before args s = true ∧ True)
    (hP : va_P (dC, dI) vwCl wsx H) (hD : va_D A wsx) (hS : va_S A s.heap H locs) (hA : ∀ q, s.heap.size ≤ q → A q) (isC isR : List Nat) (hC : isC.map (fun i => wsx[i]?) = wc.map some) (hR : isR.map (fun i => wsx[i]?) = wr.map some) (hnC : va_nd isC = true) (hn : va_nd isR = true) (hdis : ∀ i ∈ isR, i ∉ isC)
    (hlen : As.length = n) (hsize : ls.size = nL) (hstack : st0 = As.reverse ++ rest) (hW : (rest.map fun v => v.category).sum ≤ 8) (hdg : decode cc pc = .ok (.invokestatic index, 3)) (hf : cells + mc ≤ R.cells ∧ slots + ms ≤ R.slots)
    (kk : ∀ (q : Nat → Nat) (H1 : Heap) (locs1 : List Loc), va_P (dC, dI) vwCl (wr ++ We q) H1 → va_D A (wr ++ We q) → va_S A s.heap H1 locs1 → W p l e R s m args below meth c H1 locs1 (cells + mc) (slots + ms) Q (F0 m (pc + 3) ls (res.toList ++ rest))) : W p l e R s m args below meth c H locs cells slots Q (F0 m pc ls st0) :=
  jAfter (va_runSN (g := F0 m pc ls st0) S (hM H.size) cw ⟨jPc_blind, jPre hJ hP hD hS hA isC hC hnC⟩ rfl hlen hsize hstack (lv_room hW) hdg hf) hP hD hS isC isR hC hR hn hdis (va_free hD hS hA isC hC) kk
theorem jCallI (S : CallFix p m c cc nL s args Ts own) (hJ : jK dC dI cI cB cS adK adV adR A s s.heap) (hM : jMet l dC dI cI cB cS adK adV adR y wds rm (.ref b :: As) wc res We mc ms) (cw : CallB R s args own index y bytes maxL none wds rm mc ms n ∧ y.name = "<init>" ∧ (Cond.instanceMethod y).before args s = true)
    (hP : va_P (dC, dI) vwCl wsx H) (hD : va_D A wsx) (hS : va_S A s.heap H locs) (hA : ∀ q, s.heap.size ≤ q → A q) (isC isR : List Nat) (hC : isC.map (fun i => wsx[i]?) = wc.map some) (hR : isR.map (fun i => wsx[i]?) = wr.map some) (hnC : va_nd isC = true) (hn : va_nd isR = true) (hdis : ∀ i ∈ isR, i ∉ isC)
    (hlen : As.length = n) (hsize : ls.size = nL) (hstack : st0 = As.reverse ++ .ref b :: rest) (hW : (rest.map fun v => v.category).sum ≤ 8) (hdg : decode cc pc = .ok (.invokespecial index, 3)) (hf : cells + mc ≤ R.cells ∧ slots + ms ≤ R.slots)
    (kk : ∀ (q : Nat → Nat) (H1 : Heap) (locs1 : List Loc), va_P (dC, dI) vwCl (wr ++ We q) H1 → va_D A (wr ++ We q) → va_S A s.heap H1 locs1 → W p l e R s m args below meth c H1 locs1 (cells + mc) (slots + ms) Q (F0 m (pc + 3) ls (res.toList ++ rest))) : W p l e R s m args below meth c H locs cells slots Q (F0 m pc ls st0) :=
  jAfter (va_runI (g := F0 m pc ls st0) S (hM H.size) cw ⟨jPc_blind, jPre hJ hP hD hS hA isC hC hnC⟩ rfl hlen hsize hstack (lv_room hW) hdg hf) hP hD hS isC isR hC hR hn hdis (va_free hD hS hA isC hC) kk
end JB
def jsel (n : Nat) (l : List Value) (d : Value) : Value := l.getD n d
theorem jsel1 {r : Nat} {a d : Value} (h0 : ¬ r = 0) : jsel r [a] d = d := by
  unfold jsel; match r, h0 with
  | 0, h => exact absurd rfl h
  | n + 1, _ => rfl
theorem jsel2 {r : Nat} {a b d : Value} (h0 : ¬ r = 0) (h1 : ¬ r = 1) : jsel r [a, b] d = d := by
  unfold jsel; match r, h0, h1 with
  | 0, h, _ => exact absurd rfl h
  | 1, _, h => exact absurd rfl h
  | n + 2, _, _ => rfl
