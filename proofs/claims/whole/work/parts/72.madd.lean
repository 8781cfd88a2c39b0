-- the reference adds a node to a tree
/-- the wholes of a node, up to the root -/
def pth (th : Nat → Int32) (t : Nat) : Nat → Int32 → List Nat → Prop
  | _, w, [] => w = -1
  | b, w, x :: l => w = nI x ∧ x < b ∧ pth th t x (th (9000 * t + x)) l
def lsT (t : Nat) (l : List Nat) : List Nat := l.map (fun x => 9000 * t + x)
section AD
variable {tk tw tv th ts tc : Nat → Int32} {t n : Nat}
theorem pth_fr {th' : Nat → Int32} : ∀ (l : List Nat) (b : Nat) (w : Int32), pth th t b w l → (∀ z, z < b → th' (9000 * t + z) = th (9000 * t + z)) → pth th' t b w l := by
  intro l
  induction l with
  | nil => intro b w h _; exact h
  | cons x l ih =>
    intro b w h hz
    obtain ⟨h1, h2, h3⟩ := h
    refine ⟨h1, h2, ?_⟩
    rw [hz x h2]
    exact ih x _ h3 (fun z hz' => hz z (by omega))
theorem pth_w : ∀ (l : List Nat) (b b' : Nat) (w : Int32), pth th t b w l → b ≤ b' → pth th t b' w l := by
  intro l
  cases l with
  | nil => intro b b' w h _; exact h
  | cons x l => intro b b' w h hb; exact ⟨h.1, by have := h.2.1; omega, h.2.2⟩
theorem pth_lt : ∀ (l : List Nat) (b : Nat) (w : Int32), pth th t b w l → ∀ x, x ∈ l → x < b := by
  intro l
  induction l with
  | nil => intro b w _ x hx; cases hx
  | cons y l ih =>
    intro b w h x hx
    obtain ⟨_, h2, h3⟩ := h
    rcases List.mem_cons.mp hx with e | e
    · rw [e]; exact h2
    · have := ih y _ h3 x e; omega
theorem ls_mem {l : List Nat} {z : Nat} : z ∈ lsT t l ↔ ∃ x, x ∈ l ∧ z = 9000 * t + x := by
  unfold lsT
  rw [List.mem_map]
  constructor
  · rintro ⟨x, h1, h2⟩; exact ⟨x, h1, h2.symm⟩
  · rintro ⟨x, h1, h2⟩; exact ⟨x, h1, h2.symm⟩
theorem m_addL (ht : t < 2) {N : Nat} (hc : tc t = nI N) (hN : N < 9000) : ∀ (l : List Nat) (b : Nat) (w : Int32) (ts : Nat → Int32), b ≤ 9000 → pth th t b w l → ∃ ts', jl (Mo_add_b60_b tk tw tv th tc (nI t)) (ts, w) = some (nI N, tk, tw, tv, th, ts', upd tc t (nI (N + 1))) ∧ (∀ z, ¬ z ∈ lsT t l → ts' z = ts z) ∧ (∀ z, z ∈ lsT t l → ts' z = ts z + 1) := by
  intro l
  have hit := nI_in (c := t) (N := 2) ht (by omega)
  have hit' := hit
  rw [nI_clamp (by omega)] at hit'
  have e9 : (9000 : Int32) * nI t = nI (9000 * t) := pk_mul 9000 t
  induction l with
  | nil =>
    intro b w ts hb h
    have hw : w = -1 := h
    refine ⟨ts, jl_done ?_, fun z _ => rfl, fun z hz => by cases hz⟩
    show Mo_add_b60_s tk tw tv th tc (nI t) ts w = _
    unfold Mo_add_b60_s
    have ec : upd tc t (nI N + 1) t - 1 = nI N := by rw [pk_us, nI_1]; exact nI_pred N
    rw [if_pos hw, if_neg hit, if_neg hit, if_neg hit, nI_clamp (by omega), hc, ec, nI_1]
  | cons x l ih =>
    intro b w ts hb h
    obtain ⟨h1, h2, h3⟩ := h
    have hx := pth_lt l x _ h3
    have body : Mo_add_b60_b tk tw tv th tc (nI t) (ts, w) = some (.inl (upd ts (9000 * t + x) (ts (9000 * t + x) + 1), th (9000 * t + x))) := by
      show Mo_add_b60_s tk tw tv th tc (nI t) ts w = _
      unfold Mo_add_b60_s
      have hi := nI_in (c := 9000 * t + x) (N := 18000) (by omega) (by omega)
      have hi' := hi
      rw [nI_clamp (by omega)] at hi'
      rw [h1, if_neg (nI_m1 (by omega)), e9, nI_add, if_neg hi, if_neg hi, if_neg hi, nI_clamp (by omega)]
    obtain ⟨ts', k1, k2, k3⟩ := ih x _ (upd ts (9000 * t + x) (ts (9000 * t + x) + 1)) (by omega) h3
    have nx : ¬ 9000 * t + x ∈ lsT t l := fun m => by
      obtain ⟨y, y1, y2⟩ := ls_mem.mp m
      have := hx y y1
      omega
    refine ⟨ts', (jl_step body).trans k1, fun z hz => ?_, fun z hz => ?_⟩
    · have z1 : z ≠ 9000 * t + x := fun e => hz (ls_mem.mpr ⟨x, List.mem_cons.mpr (Or.inl rfl), e⟩)
      have z2 : ¬ z ∈ lsT t l := fun m => by
        obtain ⟨y, y1, y2⟩ := ls_mem.mp m
        exact hz (ls_mem.mpr ⟨y, List.mem_cons.mpr (Or.inr y1), y2⟩)
      rw [k2 z z2, pk_un z1]
    · by_cases e : z = 9000 * t + x
      · subst e
        rw [k2 _ nx]; exact pk_us
      · have z2 : z ∈ lsT t l := by
          obtain ⟨y, y1, y2⟩ := ls_mem.mp hz
          rcases List.mem_cons.mp y1 with q | q
          · rw [q] at y2; exact absurd y2 e
          · exact ls_mem.mpr ⟨y, q, y2⟩
        rw [k3 z z2, pk_un e]
theorem m_add {kd pl va w : Int32} {l : List Nat} (ht : t < 2) (hc : tc t = nI n) (hn : n < 9000) (hp : pth th t n w l) : ∃ ts', f_Mo_add tk tw tv th ts tc (nI t) kd pl va w = some (nI n, upd tk (9000 * t + n) kd, upd tw (9000 * t + n) pl, upd tv (9000 * t + n) va, upd th (9000 * t + n) w, ts', upd tc t (nI (n + 1))) ∧ ts' (9000 * t + n) = 1 ∧ (∀ z, z ≠ 9000 * t + n → ¬ z ∈ lsT t l → ts' z = ts z) ∧ (∀ z, z ∈ lsT t l → ts' z = ts z + 1) := by
  have hit := nI_in (c := t) (N := 2) ht (by omega)
  have e9 : (9000 : Int32) * nI t = nI (9000 * t) := pk_mul 9000 t
  have hlt := pth_lt l n w hp
  have nn : ∀ z, z ∈ lsT t l → z < 9000 * t + n := fun z hz => by
    obtain ⟨y, y1, y2⟩ := ls_mem.mp hz
    have := hlt y y1
    omega
  obtain ⟨ts', k1, k2, k3⟩ := m_addL (tk := upd tk (9000 * t + n) kd) (tw := upd tw (9000 * t + n) pl) (tv := upd tv (9000 * t + n) va) (th := upd th (9000 * t + n) w) (tc := tc) ht hc hn l n w (upd ts (9000 * t + n) 1) (by omega) (pth_fr l n w hp (fun z hz => pk_un (by omega)))
  refine ⟨ts', ?_, ?_, fun z h1 h2 => ?_, fun z h1 => ?_⟩
  · unfold f_Mo_add Mo_add_b60
    have hi := nI_in (c := 9000 * t + n) (N := 18000) (by omega) (by omega)
    rw [if_neg hit, nI_clamp (n := t) (by omega), hc, e9, nI_add, if_neg hi, if_neg hi, if_neg hi, if_neg hi, if_neg hi, nI_clamp (by omega)]
    exact k1
  · rw [k2 _ (fun m => by have := nn _ m; omega)]; exact pk_us
  · rw [k2 z h2]; exact pk_un h1
  · rw [k3 z h1, pk_un (by have := nn z h1; omega)]
end AD
