-- what stands before a part, and what brackets a node has
def fwT (k : Nat) : Nat := if k = 1 then 4 else if k = 2 then 5 else if k = 3 then 6 else if k = 4 then 7 else if k = 6 then 8 else if k = 7 then 9 else if k = 10 then 10 else if k = 11 then 11 else if k = 12 then 12 else if k = 18 then 14 else 0
def tbQ (q k : Nat) (l two : Bool) : Nat := if q = 1 ∨ q = 5 ∨ q = 6 ∨ q = 8 ∨ q = 15 then 17 else if q = 2 ∨ q = 3 then (if l = true then 18 else 17) else if q = 4 then (if k = 5 then 23 else 17) else if q = 10 then 19 else if q = 11 then 21 else if q = 12 then (if l = true then 13 else if two = true then 17 else 18) else if q = 13 then 20 else 0
def tbT (q k p w e E : Nat) : Nat := if q = 99 ∨ k = 9 ∨ k = 8 ∨ k = 19 ∨ p = w + 1 then 0 else tbQ q k (decide (e = E)) (decide (p = w + 2))
def opB (k : Nat) : Bool := decide (10 ≤ k ∧ k ≤ 13)
def brT (q k p w n : Nat) : Bool := if k = 15 then true else if k = 8 then (if q = 99 then true else if q = 10 ∨ q = 11 then decide (2 < n) else true) else if q = 13 ∨ q = 14 then (if p = w + 1 then opB k else if q = 14 then opB k || decide (k = 14) else false) else false
def edB (k : Nat) : Bool := decide (1 ≤ k ∧ k ≤ 7 ∧ k ≠ 5)
section WR
variable (st sp : Nat → Nat) (cv : Nat → Int32)
def wdL (k p : Nat) (L : List Nat) : List Nat := if k = 9 ∨ k = 16 then pN st sp (cv p).toNatClampNeg (bl L) else if k = 17 then stL (cv p).toNatClampNeg L else tkL (fwT k) L
def obL (b : Bool) (L : List Nat) : List Nat := if b = true then tkL 15 L else L
def cbL (b : Bool) (L : List Nat) : List Nat := if b = true then tkL 16 L else L
def enL (q k p w e E n : Nat) (L : List Nat) : List Nat := wdL st sp cv k p (obL (brT q k p w n) (tkL (tbT q k p w e E) L))
def lvL (q k p w n : Nat) (L : List Nat) : List Nat := if edB k = true then (if q = 99 then tkL 22 (cbL (brT q k p w n) L) else 10 :: tkL 22 (cbL (brT q k p w n) L)) else cbL (brT q k p w n) L
/-- what a forest at p is written as, within the whole w of kind q with n parts that ends at E (99: alone) -/
def rd : Fo → Nat → Nat → Nat → Nat → Nat → List Nat → List Nat
  | .add X Y, p, q, w, E, n, L => rd Y (p + fs X) q w E n (rd X p q w E n L)
  | .pow X c, p, q, w, E, n, L => lvL q (c % 32) p w n (rd X (p + 1) (c % 32) p (p + (fs X + 1)) (fn X) (enL st sp cv q (c % 32) p w (p + (fs X + 1)) E n L))
  | _, _, _, _, _, _, L => L
end WR
theorem fw_ok : ∀ k, k < 32 → f_Wr_firstWord (nI k) = some (nI (fwT k)) ∧ (fwT k = 0 ∨ 4 ≤ fwT k ∧ fwT k < 24) := by decide +kernel
def tbC (o21 o17 o13 : Int32) (tl : Option Int32) : Option Int32 := if o21 = (1 : Int32) then (some (17 : Int32)) else if o21 = (2 : Int32) then (if o17 = 0 then (some (17 : Int32)) else (some (18 : Int32))) else if o21 = (3 : Int32) then (if o17 = 0 then (some (17 : Int32)) else (some (18 : Int32))) else if o21 = (4 : Int32) then (if o13 = (5 : Int32) then (some (23 : Int32)) else (some (17 : Int32))) else if o21 = (5 : Int32) then (some (17 : Int32)) else if o21 = (6 : Int32) then (some (17 : Int32)) else if o21 = (7 : Int32) then (some (0 : Int32)) else if o21 = (8 : Int32) then (some (17 : Int32)) else if o21 = (9 : Int32) then (some (0 : Int32)) else if o21 = (10 : Int32) then (some (19 : Int32)) else if o21 = (11 : Int32) then (some (21 : Int32)) else if o21 = (12 : Int32) then (if o17 = 0 then (jb tl (fun o23 => some o23)) else (some (13 : Int32))) else if o21 = (13 : Int32) then (some (20 : Int32)) else if o21 = (14 : Int32) then (some (0 : Int32)) else if o21 = (15 : Int32) then (some (17 : Int32)) else (some (0 : Int32))
theorem tbC_ok : ∀ q, q < 32 → ∀ k, k < 32 → ∀ l two : Bool, tbC (nI q) (if l = true then 1 else 0) (nI k) (some (if two = true then 17 else 18)) = some (nI (tbQ q k l two)) ∧ (tbQ q k l two = 0 ∨ 4 ≤ tbQ q k l two ∧ tbQ q k l two < 24) := by decide +kernel
theorem tb_rng {q k p w e E : Nat} (hq : q < 32 ∨ q = 99) (hk : k < 32) : tbT q k p w e E = 0 ∨ 4 ≤ tbT q k p w e E ∧ tbT q k p w e E < 24 := by
  unfold tbT
  split
  · exact Or.inl rfl
  · rename_i h
    exact (tbC_ok q (by omega) k hk _ _).2
theorem op_ok : ∀ k, k < 32 → f_Ki_isOpenToTheRight (nI k) = some (if opB k = true then 1 else 0) := by decide +kernel
theorem ed_ok : ∀ k, k < 32 → f_Wr_isDeclaration (nI k) = some (if edB k = true then 1 else 0) := by decide +kernel
section CX
variable {ck cp cv cs cn cw : Nat → Int32} {nt p k s w q sw n : Nat}
theorem t_kind' (hnt : nt ≤ 8001) (hp : p < nt) : f_Tr_kindOf ck (nI nt) (nI p) = some (ck p) := by
  unfold f_Tr_kindOf
  rw [p_Trhas (by omega) hp, jb_some, if_neg n10, if_neg (nI_in (show p < 8001 by omega) (by decide)), nI_clamp (by omega)]
theorem t_size' (hnt : nt ≤ 8001) (hp : p < nt) : f_Tr_sizeOf cs (nI nt) (nI p) = some (cs p) := by
  unfold f_Tr_sizeOf
  rw [p_Trhas (by omega) hp, jb_some, if_neg n10, if_neg (nI_in (show p < 8001 by omega) (by decide)), nI_clamp (by omega)]
theorem t_whole' (hnt : nt ≤ 8001) (hp : p < nt) : f_Tr_wholeOf cw (nI nt) (nI p) = some (cw p) := by
  unfold f_Tr_wholeOf
  rw [p_Trhas (by omega) hp, jb_some, if_neg n10, if_neg (nI_in (show p < 8001 by omega) (by decide)), nI_clamp (by omega)]
theorem t_value' (hnt : nt ≤ 8001) (hp : p < nt) : f_Tr_tell ck cp cv cs cn (nI nt) (nI p) 2 = some (cv p) := by
  unfold f_Tr_tell
  rw [p_Trhas (by omega) hp, jb_some, if_neg n10, if_neg (show ¬ (2 : Int32) = 0 by decide), if_neg (show ¬ (2 : Int32) = 1 by decide), if_pos rfl, if_neg (nI_in (show p < 8001 by omega) (by decide)), nI_clamp (by omega)]
theorem t_parts' (hnt : nt ≤ 8001) (hp : p < nt) : f_Tr_tell ck cp cv cs cn (nI nt) (nI p) 4 = some (cn p) := by
  unfold f_Tr_tell
  rw [p_Trhas (by omega) hp, jb_some, if_neg n10, if_neg (show ¬ (4 : Int32) = 0 by decide), if_neg (show ¬ (4 : Int32) = 1 by decide), if_neg (show ¬ (4 : Int32) = 2 by decide), if_neg (show ¬ (4 : Int32) = 3 by decide), if_pos rfl, if_neg (nI_in (show p < 8001 by omega) (by decide)), nI_clamp (by omega)]
theorem t_first' (hnt : nt ≤ 8001) (hp : p < nt) (hw : w < p) (h : cw p = nI w) : f_Tr_isFirstPart cw (nI nt) (nI p) = some (if p = w + 1 then 1 else 0) := by
  unfold f_Tr_isFirstPart Tr_isFirstPart_b24
  have e : nI p - 1 = nI (p - 1) := by have := nI_pred (p - 1); rw [show p - 1 + 1 = p by omega] at this; exact this
  rw [p_Trhas (by omega) hp, jb_some, if_neg n10, if_neg (nI_in (show p < 8001 by omega) (by decide)), nI_clamp (by omega), h, e, vb1, vb0]
  by_cases a : p = w + 1
  · rw [if_pos a, if_pos (show nI w = nI (p - 1) by rw [a]; rfl)]
  · rw [if_neg a, if_neg (fun x => by have := (nI_eq (by omega) (by omega)).mp x; omega)]
theorem t_last' (hnt : nt ≤ 8001) (hp : p < nt) (hw : w < p) (h : cw p = nI w) (h3 : cs p = nI s) (h4 : cs w = nI sw) (hs : s ≤ 8001) (hsw : sw ≤ 8001) : f_Tr_isLastPart cs cw (nI nt) (nI p) = some (if p + s = w + sw then 1 else 0) := by
  unfold f_Tr_isLastPart Tr_isLastPart_b37
  rw [t_whole' hnt hp, jb_some, h, p_Trhas (by omega) (show w < nt by omega), jb_some, if_neg n10, if_neg (nI_in (show p < 8001 by omega) (by decide)), if_neg (nI_in (show w < 8001 by omega) (by decide)), nI_clamp (n := p) (by omega), nI_clamp (n := w) (by omega), h3, h4, nI_add, nI_add, vb1, vb0]
  by_cases a : p + s = w + sw
  · rw [if_pos a, a, if_pos rfl]
  · rw [if_neg a, if_neg (fun x => by have := (nI_eq (by omega) (by omega)).mp x; omega)]
theorem tb_ok (hnt : nt ≤ 8001) (hp : p < nt) (hw : w < p) (h1 : ck p = nI k) (hk : k < 32) (h2 : ck w = nI q) (hq : q < 32) (h3 : cs p = nI s) (h4 : cs w = nI sw) (hs : s ≤ 8001) (hsw : sw ≤ 8001) (h5 : cw p = nI w) : f_Wr_tokenBefore ck cs cw (nI nt) (nI p) = some (nI (tbT q k p w (p + s) (w + sw))) := by
  unfold f_Wr_tokenBefore tbT
  rw [t_kind' hnt hp, jb_some, h1]
  have ne : ∀ c, c < 32 → k ≠ c → ¬ nI k = nI c := fun c hc hn x => hn ((nI_eq (by omega) (by omega)).mp x)
  by_cases q9 : k = 9
  · rw [if_pos (show nI k = 9 by rw [q9]; rfl), if_pos (by omega)]; rfl
  · rw [if_neg (show ¬ nI k = 9 from ne 9 (by omega) q9)]
    by_cases q8 : k = 8
    · rw [if_pos (show nI k = 8 by rw [q8]; rfl), if_pos (by omega)]; rfl
    · rw [if_neg (show ¬ nI k = 8 from ne 8 (by omega) q8)]
      by_cases q19 : k = 19
      · rw [if_pos (show nI k = 19 by rw [q19]; rfl), if_pos (by omega)]; rfl
      · rw [if_neg (show ¬ nI k = 19 from ne 19 (by omega) q19), t_first' hnt hp hw h5, jb_some]
        by_cases qf : p = w + 1
        · rw [if_pos qf, if_neg n10, if_pos (by omega)]; rfl
        · have hl := t_last' hnt hp hw h5 h3 h4 hs hsw
          have htl : f_Wr_tokenInLet cw (nI nt) (nI p) = some (if (decide (p = w + 2)) = true then 17 else 18) := by
            unfold f_Wr_tokenInLet
            have e2 : nI w + 2 = nI (w + 2) := nI_add w 2
            rw [t_whole' hnt hp, jb_some, h5, e2]
            by_cases a : p = w + 2
            · rw [if_pos (show nI p = nI (w + 2) by rw [a]), if_pos (decide_eq_true a)]
            · rw [if_neg (fun x => a ((nI_eq (by omega) (by omega)).mp x)), if_neg (by rw [decide_eq_true_eq]; exact a)]
          have hl' : f_Tr_isLastPart cs cw (nI nt) (nI p) = some (if (decide (p + s = w + sw)) = true then 1 else 0) := by
            rw [hl]
            by_cases a : p + s = w + sw
            · rw [if_pos a, if_pos (decide_eq_true a)]
            · rw [if_neg a, if_neg (by rw [decide_eq_true_eq]; exact a)]
          rw [if_neg qf, if_pos rfl, hl', jb_some, t_whole' hnt hp, jb_some, h5, t_kind' hnt (by omega), jb_some, h2, if_neg (show ¬ (q = 99 ∨ k = 9 ∨ k = 8 ∨ k = 19 ∨ p = w + 1) by omega)]
          have g := (tbC_ok q hq k hk (decide (p + s = w + sw)) (decide (p = w + 2))).1
          rw [← htl] at g
          exact g
/-- the brackets of a node within its whole -/
theorem br_ok (hnt : nt ≤ 8001) (hp : p < nt) (hw : w < p) (h1 : ck p = nI k) (hk : k < 32) (h2 : ck w = nI q) (hq : q < 32) (h6 : cn w = nI n) (hn : n ≤ 8001) (h5 : cw p = nI w) : f_Wr_hasBrackets ck cp cv cs cn cw (nI nt) (nI p) 0 = some (if brT q k p w n = true then 1 else 0) := by
  unfold f_Wr_hasBrackets brT
  rw [t_kind' hnt hp, jb_some, h1]
  have ne : ∀ c, c < 32 → k ≠ c → ¬ nI k = nI c := fun c hc hn x => hn ((nI_eq (by omega) (by omega)).mp x)
  have nq : ∀ c, c < 32 → q ≠ c → ¬ nI q = nI c := fun c hc hn x => hn ((nI_eq (by omega) (by omega)).mp x)
  have tt : (if true = true then (1 : Int32) else 0) = 1 := if_pos rfl
  have ff : (if false = true then (1 : Int32) else 0) = 0 := if_neg (by decide)
  by_cases q15 : k = 15
  · rw [if_pos (show nI k = 15 by rw [q15]; rfl), if_pos q15, vb1, tt]
  · rw [if_neg (show ¬ nI k = 15 from ne 15 (by omega) q15), if_neg q15, t_whole' hnt hp, jb_some, h5, t_kind' hnt (by omega), jb_some, h2]
    by_cases q8 : k = 8
    · rw [if_pos (show nI k = 8 by rw [q8]; rfl), if_pos q8, if_neg (show ¬ q = 99 by omega)]
      have b49 : Wr_hasBrackets_b49 ck cp cv cs cn cw (nI nt) 0 (nI w) = some (if decide (2 < n) = true then 1 else 0) := by
        unfold Wr_hasBrackets_b49 Wr_hasBrackets_b54 Wr_hasBrackets_b76
        rw [if_pos rfl, if_neg n10, t_parts' hnt (by omega), jb_some, h6, vb0, vb1]
        by_cases a : 2 < n
        · rw [if_neg (show ¬ nI n ≤ 2 from nI_ge (b := n) (a := 2) (by omega) (by omega)), if_pos (decide_eq_true a)]
        · rw [if_pos (show nI n ≤ 2 from nI_le (a := n) (b := 2) (by omega) (by omega)), if_neg (by rw [decide_eq_true_eq]; exact a)]
      by_cases a : q = 10
      · rw [if_pos (show nI q = 10 by rw [a]; rfl), if_pos (Or.inl a), b49]
      · rw [if_neg (show ¬ nI q = 10 from nq 10 (by omega) a)]
        by_cases b : q = 11
        · rw [if_pos (show nI q = 11 by rw [b]; rfl), if_pos (Or.inr b), b49]
        · rw [if_neg (show ¬ nI q = 11 from nq 11 (by omega) b), if_neg (show ¬ (q = 10 ∨ q = 11) by omega), tt]
          unfold Wr_hasBrackets_b54 Wr_hasBrackets_b76
          rw [if_pos rfl, if_pos rfl, vb1]
    · rw [if_neg (show ¬ nI k = 8 from ne 8 (by omega) q8), if_neg q8, if_pos rfl]
      have b102 : q = 13 ∨ q = 14 → Wr_hasBrackets_b102 ck cp cv cs cn cw (nI nt) (nI p) (nI k) (nI q) = some (if (if p = w + 1 then opB k else if q = 14 then opB k || decide (k = 14) else false) = true then 1 else 0) := by
        intro hq2
        unfold Wr_hasBrackets_b102 Wr_hasBrackets_b135 Wr_hasBrackets_b139
        rw [t_first' hnt hp hw h5, jb_some, op_ok k hk, jb_some, jb_some, vb0, vb1]
        by_cases a : p = w + 1
        · rw [if_pos a, if_neg n10, if_pos a]
          cases opB k
          · rw [ff, vb0]
          · rw [tt, vb1]
        · rw [if_neg a, if_pos rfl, if_neg a]
          by_cases b : q = 14
          · rw [if_pos (show nI q = 14 by rw [b]; rfl), if_pos b]
            cases opB k
            · rw [ff, if_pos rfl]
              by_cases c : k = 14
              · rw [if_pos (show nI k = 14 by rw [c]; rfl), if_pos (by rw [Bool.false_or]; exact decide_eq_true c)]
              · rw [if_neg (show ¬ nI k = 14 from ne 14 (by omega) c), if_neg (by rw [Bool.false_or, decide_eq_true_eq]; exact c)]
            · rw [tt, if_neg n10, if_pos (by rw [Bool.true_or])]
          · rw [if_neg (show ¬ nI q = 14 from nq 14 (by omega) b), if_neg b, ff]
      by_cases a : q = 13
      · rw [if_pos (show nI q = 13 by rw [a]; rfl), if_pos (Or.inl a), b102 (Or.inl a)]
      · rw [if_neg (show ¬ nI q = 13 from nq 13 (by omega) a)]
        by_cases b : q = 14
        · rw [if_pos (show nI q = 14 by rw [b]; rfl), if_pos (Or.inr b), b102 (Or.inr b)]
        · rw [if_neg (show ¬ nI q = 14 from nq 14 (by omega) b), if_neg (show ¬ (q = 13 ∨ q = 14) by omega), ff, vb0]
/-- the brackets of a node that is written alone -/
theorem br_al (hnt : nt ≤ 8001) (hp : p < nt) (h1 : ck p = nI k) (hk : k < 32) (h5 : cw p = -1 ∨ ∃ w, w < p ∧ cw p = nI w) : f_Wr_hasBrackets ck cp cv cs cn cw (nI nt) (nI p) 1 = some (if brT 99 k p w n = true then 1 else 0) := by
  unfold f_Wr_hasBrackets brT
  rw [t_kind' hnt hp, jb_some, h1]
  have ne : ∀ c, c < 32 → k ≠ c → ¬ nI k = nI c := fun c hc hn x => hn ((nI_eq (by omega) (by omega)).mp x)
  have tt : (if true = true then (1 : Int32) else 0) = 1 := if_pos rfl
  have ff : (if false = true then (1 : Int32) else 0) = 0 := if_neg (by decide)
  by_cases q15 : k = 15
  · rw [if_pos (show nI k = 15 by rw [q15]; rfl), if_pos q15, vb1, tt]
  · have hx : ∃ x, f_Tr_kindOf ck (nI nt) (cw p) = some x := by
      rcases h5 with e | ⟨w, e1, e2⟩
      · rw [e]
        unfold f_Tr_kindOf
        rw [p_Trhas_out (Or.inl (by decide)), jb_some, if_pos rfl]
        exact ⟨_, rfl⟩
      · rw [e2, t_kind' hnt (by omega)]
        exact ⟨_, rfl⟩
    obtain ⟨x, hx⟩ := hx
    rw [if_neg (show ¬ nI k = 15 from ne 15 (by omega) q15), if_neg q15, t_whole' hnt hp, jb_some, hx, jb_some]
    by_cases q8 : k = 8
    · rw [if_pos (show nI k = 8 by rw [q8]; rfl), if_pos q8, if_pos rfl, tt]
      unfold Wr_hasBrackets_b49 Wr_hasBrackets_b54 Wr_hasBrackets_b76
      rw [if_neg n10, if_neg n10, vb1]
      split
      · rfl
      · split <;> rfl
    · rw [if_neg (show ¬ nI k = 8 from ne 8 (by omega) q8), if_neg q8, if_neg n10, if_neg (show ¬ ((99 : Nat) = 13 ∨ (99 : Nat) = 14) by decide), ff, vb0]
end CX
