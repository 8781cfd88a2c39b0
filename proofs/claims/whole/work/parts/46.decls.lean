-- the tokens of a text, for the machine; declarations
section AM
variable {B : Nat → Nat} {e : Nat}
theorem reE_stop : ∀ f i, e ≤ i + f → reE B e f i < e → innB (B (reE B e f i)) = false := by
  intro f
  induction f with
  | zero => intro i h1 h2; have : reE B e 0 i = i := rfl; omega
  | succ f ih =>
    intro i h1
    show (if e ≤ i then i else if innB (B i) = true then reE B e f (i + 1) else i) < e → innB (B (if e ≤ i then i else if innB (B i) = true then reE B e f (i + 1) else i)) = false
    by_cases q : e ≤ i
    · rw [if_pos q]; intro h; omega
    · rw [if_neg q]
      by_cases q2 : innB (B i) = true
      · rw [if_pos q2]; exact ih (i + 1) (by omega)
      · rw [if_neg q2]; intro _
        cases hq : innB (B i) with
        | false => rfl
        | true => exact absurd hq q2
theorem w_let {a : Nat} (h : tkK B e a = 2 ∨ tkK B e a = 3 ∨ tkK B e a = 14) : letB (B a) = true ∧ a < e := by
  have ha : a < e := tkK_lt (B := B) (by omega)
  refine ⟨?_, ha⟩
  by_cases q : letB (B a) = true
  · exact q
  · exfalso
    have e1 : tkK B e a = sgE (B a) (tkD B e a) := by unfold tkK; rw [if_neg (by omega), if_neg q]
    have := sgE_in (B a) (tkD B e a)
    omega
theorem HP_of {m : Nat} (hm : tkM B e m) (he : e ≤ 8000) : HP (fun i => tkK B e (tkA B e i)) (fun i => tkA B e i) m := by
  refine ⟨fun i hi => ⟨tkA_lt (hm.1 i hi), hm.1 i hi⟩, hm.2, fun i _ => Nat.le_trans (tkA_le i) he, fun i hi h1 h2 => ?_, fun i hi h1 => ?_⟩
  · show tkA B e i + 2 ≤ tkA B e (i + 1)
    obtain ⟨l1, a1⟩ := w_let h1
    obtain ⟨l2, a2⟩ := w_let h2
    have hN : tkN B e (tkA B e i) = tkW B e (tkA B e i) := by unfold tkN; rw [if_neg (by have := hm.1 i hi; omega), if_pos l1]
    have hge : tkQ B e (i + 1) ≤ tkA B e (i + 1) := blE_ge e _
    rw [tkQ_succ, hN] at hge
    have g1 := reE_ge (B := B) (e := e) e (tkA B e i + 1)
    have hq : tkA B e i + tkW B e (tkA B e i) = reE B e e (tkA B e i + 1) := by unfold tkW; omega
    rcases Nat.lt_or_ge (reE B e e (tkA B e i + 1)) (tkA B e (i + 1)) with q | q
    · omega
    · exfalso
      have eq : tkA B e (i + 1) = reE B e e (tkA B e i + 1) := by omega
      have g2 := reE_stop (B := B) (e := e) e (tkA B e i + 1) (by omega) (by omega)
      rw [← eq] at g2
      unfold innB at g2
      rw [l2] at g2
      exact absurd g2 (by simp)
  · show tkA B e i + 2 ≤ tkA B e (i + 1)
    have h1 : tkK B e (tkA B e i) = 20 := h1
    have a1 : tkA B e i < e := tkK_lt (B := B) (by omega)
    have l1 : ¬ letB (B (tkA B e i)) = true := by
      intro q
      have e1 : tkK B e (tkA B e i) = (wkE B (tkA B e i) (tkW B e (tkA B e i))).1 := by unfold tkK; rw [if_neg (by omega), if_pos q]
      have := wk_in (B := B) (tkA B e i) (tkW B e (tkA B e i))
      omega
    have hN : tkN B e (tkA B e i) = 2 := by unfold tkN; rw [if_neg (by omega), if_neg l1, h1]; rfl
    have hge : tkQ B e (i + 1) ≤ tkA B e (i + 1) := blE_ge e _
    rw [tkQ_succ, hN] at hge
    exact hge
theorem HT_of {m : Nat} {k pl v : Nat → Int32} (hr : RK k pl v B e (m + 1)) (hm : m ≤ 8000) : HT (fun i => tkK B e (tkA B e i)) (fun i => tkA B e i) (fun i => tkV B e (tkA B e i)) m k pl v := ⟨hm, fun i hi => hr i (by omega), fun i => tkK_le _⟩
end AM
section AM
variable {K P V : Nat → Nat} {m : Nat} {tk tp tv gk gp gv gs gn wa bp bf : Nat → Int32} {G : List (Nat × Nat × Nat)} {i : Nat} {s : Nat ⊕ Nat} {F : Fo}
theorem dd_axi {s2 s3 : Nat ⊕ Nat} {F2 F3 : Fo} (h : HT K P V m tk tp tv) (hP : HP K P m) (hi : i ≤ m) (h2 : Dv K P V m tk tp tv 30 0 (tokS K 2 (tokS K 4 (.inr i))) s2 F2) (h3 : Dv K P V m tk tp tv 38 0 (tokS K 17 (s2)) s3 F3) (hG : G.length ≤ P i) : Q K P V m tk tp tv [4, 33, 30, 17, 38, 22, 61] [(i, G.length)] i 0 G [] [] [] (tokS K 22 (s3)) (.pow (.add (.add (.add (.num 0) (lfF 9 (tokS K 4 (.inr i)))) (F2)) (F3)) (1 + 32 * i)) 0 1 0 200 60 := by
  have q0 : Q K P V m tk tp tv [4, 33, 30, 17, 38, 22, 61] [(i, G.length)] i 0 G [] [(i, G.length)] [4, 33, 30, 17, 38, 22, 61] (.inr i) (.num 0) 0 0 0 0 60 := ⟨⟨hi, Nat.le_refl _, Nat.zero_le _⟩, 0, by omega, go_0⟩
  have q1 := q_tok (r := 4) (aw0 := 0) (ab0 := 5) h hP (d := 0) (by omega) (by decide) (by decide) hG (w := []) (by show 3 * 0 ≤ _; omega) (by show 5 * 1 ≤ _; omega) q0 (by decide) (by decide) (by decide)
  replace q1 := q_w (lb' := 1) (fl' := 0) (sv' := 100) (tt' := 10) q1 (by decide) (by decide) (by decide) (by decide)
  have q2 := q_step (aw0 := 0) (ab0 := 5) hG (w := []) (by show 3 * 0 ≤ _; omega) (by show 5 * 1 ≤ _; omega) q1 (d_leaf33 h hP (by omega)) (by decide) (by decide) (by decide) (by decide)
  replace q2 := q_w (lb' := 1) (fl' := 1) (sv' := 200) (tt' := 20) q2 (by decide) (by decide) (by decide) (by decide)
  have q3 := q_step (aw0 := 0) (ab0 := 5) hG (w := []) (by show 3 * 0 ≤ _; omega) (by show 5 * 1 ≤ _; omega) q2 h2 (by decide) (by decide) (by decide) (by decide)
  replace q3 := q_w (lb' := 1) (fl' := 1) (sv' := 200) (tt' := 30) q3 (by decide) (by decide) (by decide) (by decide)
  have q4 := q_tok (r := 17) (aw0 := 0) (ab0 := 5) h hP (d := 0) (by omega) (by decide) (by decide) hG (w := []) (by show 3 * 0 ≤ _; omega) (by show 5 * 1 ≤ _; omega) q3 (by decide) (by decide) (by decide)
  replace q4 := q_w (lb' := 2) (fl' := 1) (sv' := 300) (tt' := 40) q4 (by decide) (by decide) (by decide) (by decide)
  have q5 := q_step (aw0 := 0) (ab0 := 5) hG (w := []) (by show 3 * 0 ≤ _; omega) (by show 5 * 1 ≤ _; omega) q4 h3 (by decide) (by decide) (by decide) (by decide)
  replace q5 := q_w (lb' := 2) (fl' := 2) (sv' := 310) (tt' := 50) q5 (by decide) (by decide) (by decide) (by decide)
  have q6 := q_tok (r := 22) (aw0 := 0) (ab0 := 5) h hP (d := 0) (by omega) (by decide) (by decide) hG (w := []) (by show 3 * 0 ≤ _; omega) (by show 5 * 1 ≤ _; omega) q5 (by decide) (by decide) (by decide)
  replace q6 := q_w (lb' := 3) (fl' := 2) (sv' := 410) (tt' := 60) q6 (by decide) (by decide) (by decide) (by decide)
  have q7 := q_fin (w := []) (b := []) (q := 1) hP hG (by decide) (by decide) (by decide) (by decide) (by decide) q6 (by decide)
  replace q7 := q_w (lb' := 2) (fl' := 3) (sv' := 410) (tt' := 61) q7 (by decide) (by decide) (by decide) (by decide)
  exact q_w q7 (by decide) (by decide) (by decide) (by decide)
theorem dd_def {s2 s3 s4 : Nat ⊕ Nat} {F2 F3 F4 : Fo} (h : HT K P V m tk tp tv) (hP : HP K P m) (hi : i ≤ m) (h2 : Dv K P V m tk tp tv 30 0 (tokS K 2 (tokS K 5 (.inr i))) s2 F2) (h3 : Dv K P V m tk tp tv 36 0 (s2) s3 F3) (h4 : Dv K P V m tk tp tv 38 0 (tokS K 18 (s3)) s4 F4) (hG : G.length ≤ P i) : Q K P V m tk tp tv [5, 33, 30, 36, 18, 38, 22, 62] [(i, G.length)] i 0 G [] [] [] (tokS K 22 (s4)) (.pow (.add (.add (.add (.add (.num 0) (lfF 9 (tokS K 5 (.inr i)))) (F2)) (F3)) (F4)) (2 + 32 * i)) 0 1 0 200 60 := by
  have q0 : Q K P V m tk tp tv [5, 33, 30, 36, 18, 38, 22, 62] [(i, G.length)] i 0 G [] [(i, G.length)] [5, 33, 30, 36, 18, 38, 22, 62] (.inr i) (.num 0) 0 0 0 0 60 := ⟨⟨hi, Nat.le_refl _, Nat.zero_le _⟩, 0, by omega, go_0⟩
  have q1 := q_tok (r := 5) (aw0 := 0) (ab0 := 5) h hP (d := 0) (by omega) (by decide) (by decide) hG (w := []) (by show 3 * 0 ≤ _; omega) (by show 5 * 1 ≤ _; omega) q0 (by decide) (by decide) (by decide)
  replace q1 := q_w (lb' := 1) (fl' := 0) (sv' := 100) (tt' := 10) q1 (by decide) (by decide) (by decide) (by decide)
  have q2 := q_step (aw0 := 0) (ab0 := 5) hG (w := []) (by show 3 * 0 ≤ _; omega) (by show 5 * 1 ≤ _; omega) q1 (d_leaf33 h hP (by omega)) (by decide) (by decide) (by decide) (by decide)
  replace q2 := q_w (lb' := 1) (fl' := 1) (sv' := 200) (tt' := 20) q2 (by decide) (by decide) (by decide) (by decide)
  have q3 := q_step (aw0 := 0) (ab0 := 5) hG (w := []) (by show 3 * 0 ≤ _; omega) (by show 5 * 1 ≤ _; omega) q2 h2 (by decide) (by decide) (by decide) (by decide)
  replace q3 := q_w (lb' := 1) (fl' := 1) (sv' := 200) (tt' := 30) q3 (by decide) (by decide) (by decide) (by decide)
  have q4 := q_step (aw0 := 0) (ab0 := 5) hG (w := []) (by show 3 * 0 ≤ _; omega) (by show 5 * 1 ≤ _; omega) q3 h3 (by decide) (by decide) (by decide) (by decide)
  replace q4 := q_w (lb' := 0) (fl' := 2) (sv' := 200) (tt' := 40) q4 (by decide) (by decide) (by decide) (by decide)
  have q5 := q_tok (r := 18) (aw0 := 0) (ab0 := 5) h hP (d := 0) (by omega) (by decide) (by decide) hG (w := []) (by show 3 * 0 ≤ _; omega) (by show 5 * 1 ≤ _; omega) q4 (by decide) (by decide) (by decide)
  replace q5 := q_w (lb' := 1) (fl' := 2) (sv' := 300) (tt' := 50) q5 (by decide) (by decide) (by decide) (by decide)
  have q6 := q_step (aw0 := 0) (ab0 := 5) hG (w := []) (by show 3 * 0 ≤ _; omega) (by show 5 * 1 ≤ _; omega) q5 h4 (by decide) (by decide) (by decide) (by decide)
  replace q6 := q_w (lb' := 1) (fl' := 3) (sv' := 310) (tt' := 60) q6 (by decide) (by decide) (by decide) (by decide)
  have q7 := q_tok (r := 22) (aw0 := 0) (ab0 := 5) h hP (d := 0) (by omega) (by decide) (by decide) hG (w := []) (by show 3 * 0 ≤ _; omega) (by show 5 * 1 ≤ _; omega) q6 (by decide) (by decide) (by decide)
  replace q7 := q_w (lb' := 2) (fl' := 3) (sv' := 410) (tt' := 70) q7 (by decide) (by decide) (by decide) (by decide)
  have q8 := q_fin (w := []) (b := []) (q := 2) hP hG (by decide) (by decide) (by decide) (by decide) (by decide) q7 (by decide)
  replace q8 := q_w (lb' := 1) (fl' := 4) (sv' := 410) (tt' := 71) q8 (by decide) (by decide) (by decide) (by decide)
  exact q_w q8 (by decide) (by decide) (by decide) (by decide)
theorem dd_lem {s2 s3 s4 : Nat ⊕ Nat} {F2 F3 F4 : Fo} (h : HT K P V m tk tp tv) (hP : HP K P m) (hi : i ≤ m) (h2 : Dv K P V m tk tp tv 30 0 (tokS K 2 (tokS K 6 (.inr i))) s2 F2) (h3 : Dv K P V m tk tp tv 38 0 (tokS K 17 (s2)) s3 F3) (h4 : Dv K P V m tk tp tv 38 0 (tokS K 18 (s3)) s4 F4) (hG : G.length ≤ P i) : Q K P V m tk tp tv [6, 33, 30, 17, 38, 18, 38, 22, 63] [(i, G.length)] i 0 G [] [] [] (tokS K 22 (s4)) (.pow (.add (.add (.add (.add (.num 0) (lfF 9 (tokS K 6 (.inr i)))) (F2)) (F3)) (F4)) (3 + 32 * i)) 0 1 0 200 60 := by
  have q0 : Q K P V m tk tp tv [6, 33, 30, 17, 38, 18, 38, 22, 63] [(i, G.length)] i 0 G [] [(i, G.length)] [6, 33, 30, 17, 38, 18, 38, 22, 63] (.inr i) (.num 0) 0 0 0 0 60 := ⟨⟨hi, Nat.le_refl _, Nat.zero_le _⟩, 0, by omega, go_0⟩
  have q1 := q_tok (r := 6) (aw0 := 0) (ab0 := 5) h hP (d := 0) (by omega) (by decide) (by decide) hG (w := []) (by show 3 * 0 ≤ _; omega) (by show 5 * 1 ≤ _; omega) q0 (by decide) (by decide) (by decide)
  replace q1 := q_w (lb' := 1) (fl' := 0) (sv' := 100) (tt' := 10) q1 (by decide) (by decide) (by decide) (by decide)
  have q2 := q_step (aw0 := 0) (ab0 := 5) hG (w := []) (by show 3 * 0 ≤ _; omega) (by show 5 * 1 ≤ _; omega) q1 (d_leaf33 h hP (by omega)) (by decide) (by decide) (by decide) (by decide)
  replace q2 := q_w (lb' := 1) (fl' := 1) (sv' := 200) (tt' := 20) q2 (by decide) (by decide) (by decide) (by decide)
  have q3 := q_step (aw0 := 0) (ab0 := 5) hG (w := []) (by show 3 * 0 ≤ _; omega) (by show 5 * 1 ≤ _; omega) q2 h2 (by decide) (by decide) (by decide) (by decide)
  replace q3 := q_w (lb' := 1) (fl' := 1) (sv' := 200) (tt' := 30) q3 (by decide) (by decide) (by decide) (by decide)
  have q4 := q_tok (r := 17) (aw0 := 0) (ab0 := 5) h hP (d := 0) (by omega) (by decide) (by decide) hG (w := []) (by show 3 * 0 ≤ _; omega) (by show 5 * 1 ≤ _; omega) q3 (by decide) (by decide) (by decide)
  replace q4 := q_w (lb' := 2) (fl' := 1) (sv' := 300) (tt' := 40) q4 (by decide) (by decide) (by decide) (by decide)
  have q5 := q_step (aw0 := 0) (ab0 := 5) hG (w := []) (by show 3 * 0 ≤ _; omega) (by show 5 * 1 ≤ _; omega) q4 h3 (by decide) (by decide) (by decide) (by decide)
  replace q5 := q_w (lb' := 2) (fl' := 2) (sv' := 310) (tt' := 50) q5 (by decide) (by decide) (by decide) (by decide)
  have q6 := q_tok (r := 18) (aw0 := 0) (ab0 := 5) h hP (d := 0) (by omega) (by decide) (by decide) hG (w := []) (by show 3 * 0 ≤ _; omega) (by show 5 * 1 ≤ _; omega) q5 (by decide) (by decide) (by decide)
  replace q6 := q_w (lb' := 3) (fl' := 2) (sv' := 410) (tt' := 60) q6 (by decide) (by decide) (by decide) (by decide)
  have q7 := q_step (aw0 := 0) (ab0 := 5) hG (w := []) (by show 3 * 0 ≤ _; omega) (by show 5 * 1 ≤ _; omega) q6 h4 (by decide) (by decide) (by decide) (by decide)
  replace q7 := q_w (lb' := 3) (fl' := 3) (sv' := 420) (tt' := 70) q7 (by decide) (by decide) (by decide) (by decide)
  have q8 := q_tok (r := 22) (aw0 := 0) (ab0 := 5) h hP (d := 0) (by omega) (by decide) (by decide) hG (w := []) (by show 3 * 0 ≤ _; omega) (by show 5 * 1 ≤ _; omega) q7 (by decide) (by decide) (by decide)
  replace q8 := q_w (lb' := 4) (fl' := 3) (sv' := 520) (tt' := 80) q8 (by decide) (by decide) (by decide) (by decide)
  have q9 := q_fin (w := []) (b := []) (q := 3) hP hG (by decide) (by decide) (by decide) (by decide) (by decide) q8 (by decide)
  replace q9 := q_w (lb' := 3) (fl' := 4) (sv' := 520) (tt' := 81) q9 (by decide) (by decide) (by decide) (by decide)
  exact q_w q9 (by decide) (by decide) (by decide) (by decide)
theorem dd_dat {s2 s3 s4 : Nat ⊕ Nat} {F2 F3 F4 : Fo} (h : HT K P V m tk tp tv) (hP : HP K P m) (hi : i ≤ m) (h2 : Dv K P V m tk tp tv 30 0 (tokS K 2 (tokS K 7 (.inr i))) s2 F2) (h3 : Dv K P V m tk tp tv 38 0 (tokS K 17 (s2)) s3 F3) (h4 : Dv K P V m tk tp tv 35 0 (s3) s4 F4) (hG : G.length ≤ P i) : Q K P V m tk tp tv [7, 33, 30, 17, 38, 35, 22, 64] [(i, G.length)] i 0 G [] [] [] (tokS K 22 (s4)) (.pow (.add (.add (.add (.add (.num 0) (lfF 9 (tokS K 7 (.inr i)))) (F2)) (F3)) (F4)) (4 + 32 * i)) 0 1 0 200 60 := by
  have q0 : Q K P V m tk tp tv [7, 33, 30, 17, 38, 35, 22, 64] [(i, G.length)] i 0 G [] [(i, G.length)] [7, 33, 30, 17, 38, 35, 22, 64] (.inr i) (.num 0) 0 0 0 0 60 := ⟨⟨hi, Nat.le_refl _, Nat.zero_le _⟩, 0, by omega, go_0⟩
  have q1 := q_tok (r := 7) (aw0 := 0) (ab0 := 5) h hP (d := 0) (by omega) (by decide) (by decide) hG (w := []) (by show 3 * 0 ≤ _; omega) (by show 5 * 1 ≤ _; omega) q0 (by decide) (by decide) (by decide)
  replace q1 := q_w (lb' := 1) (fl' := 0) (sv' := 100) (tt' := 10) q1 (by decide) (by decide) (by decide) (by decide)
  have q2 := q_step (aw0 := 0) (ab0 := 5) hG (w := []) (by show 3 * 0 ≤ _; omega) (by show 5 * 1 ≤ _; omega) q1 (d_leaf33 h hP (by omega)) (by decide) (by decide) (by decide) (by decide)
  replace q2 := q_w (lb' := 1) (fl' := 1) (sv' := 200) (tt' := 20) q2 (by decide) (by decide) (by decide) (by decide)
  have q3 := q_step (aw0 := 0) (ab0 := 5) hG (w := []) (by show 3 * 0 ≤ _; omega) (by show 5 * 1 ≤ _; omega) q2 h2 (by decide) (by decide) (by decide) (by decide)
  replace q3 := q_w (lb' := 1) (fl' := 1) (sv' := 200) (tt' := 30) q3 (by decide) (by decide) (by decide) (by decide)
  have q4 := q_tok (r := 17) (aw0 := 0) (ab0 := 5) h hP (d := 0) (by omega) (by decide) (by decide) hG (w := []) (by show 3 * 0 ≤ _; omega) (by show 5 * 1 ≤ _; omega) q3 (by decide) (by decide) (by decide)
  replace q4 := q_w (lb' := 2) (fl' := 1) (sv' := 300) (tt' := 40) q4 (by decide) (by decide) (by decide) (by decide)
  have q5 := q_step (aw0 := 0) (ab0 := 5) hG (w := []) (by show 3 * 0 ≤ _; omega) (by show 5 * 1 ≤ _; omega) q4 h3 (by decide) (by decide) (by decide) (by decide)
  replace q5 := q_w (lb' := 2) (fl' := 2) (sv' := 310) (tt' := 50) q5 (by decide) (by decide) (by decide) (by decide)
  have q6 := q_step (aw0 := 0) (ab0 := 5) hG (w := []) (by show 3 * 0 ≤ _; omega) (by show 5 * 1 ≤ _; omega) q5 h4 (by decide) (by decide) (by decide) (by decide)
  replace q6 := q_w (lb' := 2) (fl' := 2) (sv' := 310) (tt' := 60) q6 (by decide) (by decide) (by decide) (by decide)
  have q7 := q_tok (r := 22) (aw0 := 0) (ab0 := 5) h hP (d := 0) (by omega) (by decide) (by decide) hG (w := []) (by show 3 * 0 ≤ _; omega) (by show 5 * 1 ≤ _; omega) q6 (by decide) (by decide) (by decide)
  replace q7 := q_w (lb' := 3) (fl' := 2) (sv' := 410) (tt' := 70) q7 (by decide) (by decide) (by decide) (by decide)
  have q8 := q_fin (w := []) (b := []) (q := 4) hP hG (by decide) (by decide) (by decide) (by decide) (by decide) q7 (by decide)
  replace q8 := q_w (lb' := 2) (fl' := 3) (sv' := 410) (tt' := 71) q8 (by decide) (by decide) (by decide) (by decide)
  exact q_w q8 (by decide) (by decide) (by decide) (by decide)
theorem dd_chk {s1 s2 : Nat ⊕ Nat} {F1 F2 : Fo} (h : HT K P V m tk tp tv) (hP : HP K P m) (hi : i ≤ m) (h1 : Dv K P V m tk tp tv 38 0 (tokS K 8 (.inr i)) s1 F1) (h2 : Dv K P V m tk tp tv 36 0 (s1) s2 F2) (hG : G.length ≤ P i) : Q K P V m tk tp tv [8, 38, 36, 22, 66] [(i, G.length)] i 0 G [] [] [] (tokS K 22 (s2)) (.pow (.add (.add (.num 0) (F1)) (F2)) (6 + 32 * i)) 0 1 0 200 60 := by
  have q0 : Q K P V m tk tp tv [8, 38, 36, 22, 66] [(i, G.length)] i 0 G [] [(i, G.length)] [8, 38, 36, 22, 66] (.inr i) (.num 0) 0 0 0 0 60 := ⟨⟨hi, Nat.le_refl _, Nat.zero_le _⟩, 0, by omega, go_0⟩
  have q1 := q_tok (r := 8) (aw0 := 0) (ab0 := 5) h hP (d := 0) (by omega) (by decide) (by decide) hG (w := []) (by show 3 * 0 ≤ _; omega) (by show 5 * 1 ≤ _; omega) q0 (by decide) (by decide) (by decide)
  replace q1 := q_w (lb' := 1) (fl' := 0) (sv' := 100) (tt' := 10) q1 (by decide) (by decide) (by decide) (by decide)
  have q2 := q_step (aw0 := 0) (ab0 := 5) hG (w := []) (by show 3 * 0 ≤ _; omega) (by show 5 * 1 ≤ _; omega) q1 h1 (by decide) (by decide) (by decide) (by decide)
  replace q2 := q_w (lb' := 1) (fl' := 1) (sv' := 110) (tt' := 20) q2 (by decide) (by decide) (by decide) (by decide)
  have q3 := q_step (aw0 := 0) (ab0 := 5) hG (w := []) (by show 3 * 0 ≤ _; omega) (by show 5 * 1 ≤ _; omega) q2 h2 (by decide) (by decide) (by decide) (by decide)
  replace q3 := q_w (lb' := 0) (fl' := 2) (sv' := 110) (tt' := 30) q3 (by decide) (by decide) (by decide) (by decide)
  have q4 := q_tok (r := 22) (aw0 := 0) (ab0 := 5) h hP (d := 0) (by omega) (by decide) (by decide) hG (w := []) (by show 3 * 0 ≤ _; omega) (by show 5 * 1 ≤ _; omega) q3 (by decide) (by decide) (by decide)
  replace q4 := q_w (lb' := 1) (fl' := 2) (sv' := 210) (tt' := 40) q4 (by decide) (by decide) (by decide) (by decide)
  have q5 := q_fin (w := []) (b := []) (q := 6) hP hG (by decide) (by decide) (by decide) (by decide) (by decide) q4 (by decide)
  replace q5 := q_w (lb' := 0) (fl' := 3) (sv' := 210) (tt' := 41) q5 (by decide) (by decide) (by decide) (by decide)
  exact q_w q5 (by decide) (by decide) (by decide) (by decide)
theorem dd_nrm {s1 : Nat ⊕ Nat} {F1 : Fo} (h : HT K P V m tk tp tv) (hP : HP K P m) (hi : i ≤ m) (h1 : Dv K P V m tk tp tv 38 0 (tokS K 9 (.inr i)) s1 F1) (hG : G.length ≤ P i) : Q K P V m tk tp tv [9, 38, 22, 67] [(i, G.length)] i 0 G [] [] [] (tokS K 22 (s1)) (.pow (.add (.num 0) (F1)) (7 + 32 * i)) 0 1 0 200 60 := by
  have q0 : Q K P V m tk tp tv [9, 38, 22, 67] [(i, G.length)] i 0 G [] [(i, G.length)] [9, 38, 22, 67] (.inr i) (.num 0) 0 0 0 0 60 := ⟨⟨hi, Nat.le_refl _, Nat.zero_le _⟩, 0, by omega, go_0⟩
  have q1 := q_tok (r := 9) (aw0 := 0) (ab0 := 5) h hP (d := 0) (by omega) (by decide) (by decide) hG (w := []) (by show 3 * 0 ≤ _; omega) (by show 5 * 1 ≤ _; omega) q0 (by decide) (by decide) (by decide)
  replace q1 := q_w (lb' := 1) (fl' := 0) (sv' := 100) (tt' := 10) q1 (by decide) (by decide) (by decide) (by decide)
  have q2 := q_step (aw0 := 0) (ab0 := 5) hG (w := []) (by show 3 * 0 ≤ _; omega) (by show 5 * 1 ≤ _; omega) q1 h1 (by decide) (by decide) (by decide) (by decide)
  replace q2 := q_w (lb' := 1) (fl' := 1) (sv' := 110) (tt' := 20) q2 (by decide) (by decide) (by decide) (by decide)
  have q3 := q_tok (r := 22) (aw0 := 0) (ab0 := 5) h hP (d := 0) (by omega) (by decide) (by decide) hG (w := []) (by show 3 * 0 ≤ _; omega) (by show 5 * 1 ≤ _; omega) q2 (by decide) (by decide) (by decide)
  replace q3 := q_w (lb' := 2) (fl' := 1) (sv' := 210) (tt' := 30) q3 (by decide) (by decide) (by decide) (by decide)
  have q4 := q_fin (w := []) (b := []) (q := 7) hP hG (by decide) (by decide) (by decide) (by decide) (by decide) q3 (by decide)
  replace q4 := q_w (lb' := 1) (fl' := 2) (sv' := 210) (tt' := 31) q4 (by decide) (by decide) (by decide) (by decide)
  exact q_w q4 (by decide) (by decide) (by decide) (by decide)
/-- what the class makes of a declaration -/
def DC (K P V : Nat → Nat) (m : Nat) (tk tp tv : Nat → Int32) (i : Nat) (s : Nat ⊕ Nat) (F : Fo) : Prop := match s with
  | .inr i' => (i' ≤ m ∧ P i + fs F ≤ P i' ∧ 1 ≤ fs F) ∧ ∀ (G : List (Nat × Nat × Nat)) (gk gp gv gs gn wa : Nat → Int32) (wc : Int32) (bp bf : Nat → Int32) (bc dp : Int32), G.length ≤ P i → RG K i P V gk gp gv gs gn G → ∃ gk' gp' gv' gs' gn' wa' wc' bp' bf' bc' dp', f_Pa_takeDeclaration tk tp tv (nI (m + 1)) (nI i) gk gp gv gs gn (nI G.length) wa wc bp bf bc dp = some (1, nI i', gk', gp', gv', gs', gn', nI (fp F ++ G).length, wa', wc', bp', bf', bc', dp') ∧ RG K i' P V gk' gp' gv' gs' gn' (fp F ++ G)
  | .inl j => j ≤ m ∧ P i ≤ P j ∧ ∀ (G : List (Nat × Nat × Nat)) (gk gp gv gs gn wa : Nat → Int32) (wc : Int32) (bp bf : Nat → Int32) (bc dp : Int32), G.length ≤ P i → RG K i P V gk gp gv gs gn G → ∃ X gk' gp' gv' gs' gn' wa' wc' bp' bf' bc' dp', f_Pa_takeDeclaration tk tp tv (nI (m + 1)) (nI i) gk gp gv gs gn (nI G.length) wa wc bp bf bc dp = some (0, nI j, gk', gp', gv', gs', gn', nI (X ++ G).length, wa', wc', bp', bf', bc', dp') ∧ RG K j P V gk' gp' gv' gs' gn' (X ++ G) ∧ (X ++ G).length ≤ 8001
/-- the end of the machine -/
theorem go_end {c : Nat} {d : Int32} {N : Int32} (hc : c < 1000000) : jl (Pa_takeDeclaration_b22_b tk tp tv (nI (m + 1))) (nI i, gk, gp, gv, gs, gn, N, wa, 0, bp, bf, 0, d, 1, nI c) = some (1, nI i, gk, gp, gv, gs, gn, N, wa, 0, bp, bf, 0, d) := by
  apply jl_done
  show Pa_takeDeclaration_b22_s tk tp tv (nI (m + 1)) (nI i) gk gp gv gs gn N wa 0 bp bf 0 d 1 (nI c) = _
  unfold Pa_takeDeclaration_b22_s
  rw [if_neg (show ¬ (1000000 : Int32) ≤ nI c from nI_ge (b := 1000000) (by omega) (by omega)), if_neg (show ¬ (1 : Int32) = 0 by decide), if_pos (show (0 : Int32) ≤ 0 by decide)]
  unfold Pa_takeDeclaration_b69
  rw [if_neg (show ¬ (1 : Int32) = 0 by decide), if_pos (show (0 : Int32) = 0 from rfl), jm_some, nb1]
theorem dc_of {row : List Nat} (hP : HP K P m) (hi : i ≤ m) (hrow : row.length ≤ 9)
    (hb : ∀ (gl : Nat) (wa bp bf : Nat → Int32), ∃ wa', f_Pa_expandDeclaration tk tp (nI (m + 1)) (nI i) (nI gl) wa 0 bp bf 0 = some (1, wa', nI row.length, upd bp 0 (nI (P i)), upd bf 0 (nI gl), 1) ∧ RS nI wa' row)
    (hQ : ∀ G, G.length ≤ P i → Q K P V m tk tp tv row [(i, G.length)] i 0 G [] [] [] s F 0 1 0 200 60) : DC K P V m tk tp tv i s F := by
  have start : ∀ (G : List (Nat × Nat × Nat)) (gk gp gv gs gn wa : Nat → Int32) (wc : Int32) (bp bf : Nat → Int32) (bc dp : Int32), RG K i P V gk gp gv gs gn G → ∃ wa' bp' bf', f_Pa_takeDeclaration tk tp tv (nI (m + 1)) (nI i) gk gp gv gs gn (nI G.length) wa wc bp bf bc dp = jl (Pa_takeDeclaration_b22_b tk tp tv (nI (m + 1))) (nI i, gk, gp, gv, gs, gn, nI G.length, wa', nI row.length, bp', bf', nI [(i, G.length)].length, nI 0, 1, nI 0) ∧ RA K i P V gk gp gv gs gn wa' bp' bf' G row [(i, G.length)] := by
    intro G gk gp gv gs gn wa wc bp bf bc dp hR
    obtain ⟨wa', g1, g2⟩ := hb G.length wa bp bf
    refine ⟨wa', upd bp 0 (nI (P i)), upd bf 0 (nI G.length), ?_, hR, g2, ⟨pk_us, True.intro⟩, ⟨pk_us, True.intro⟩⟩
    unfold f_Pa_takeDeclaration
    rw [g1, jb_some]
    rfl
  have h0 := hQ [] (Nat.zero_le _)
  have hPi := hP.2.2.1
  cases s with
  | inl j =>
    obtain ⟨h1, h2, _⟩ := h0
    refine ⟨h1, h2, fun G gk gp gv gs gn wa wc bp bf bc dp hG hR => ?_⟩
    obtain ⟨wa', bp', bf', g1, g2⟩ := start G gk gp gv gs gn wa wc bp bf bc dp hR
    obtain ⟨_, _, n, g3, g4⟩ := hQ G hG
    have := hPi j h1
    obtain ⟨X, gk', gp', gv', gs', gn', wa2, wc2, bp2, bf2, bc2, dp2, g5, g6⟩ := g4 gk gp gv gs gn wa' bp' bf' g2 0 (by omega)
    exact ⟨X, gk', gp', gv', gs', gn', wa2, wc2, bp2, bf2, bc2, dp2, by rw [g1]; exact g5, g6⟩
  | inr i' =>
    obtain ⟨⟨h1, h2, h3⟩, _⟩ := h0
    refine ⟨⟨h1, by omega, h3⟩, fun G gk gp gv gs gn wa wc bp bf bc dp hG hR => ?_⟩
    obtain ⟨wa', bp', bf', g1, g2⟩ := start G gk gp gv gs gn wa wc bp bf bc dp hR
    obtain ⟨_, n, g3, g4⟩ := hQ G hG
    have := hPi i' h1
    obtain ⟨gk', gp', gv', gs', gn', wa2, bp2, bf2, g5, g6⟩ := g4 gk gp gv gs gn wa' bp' bf' g2 0 (by omega)
    refine ⟨gk', gp', gv', gs', gn', wa2, 0, bp2, bf2, 0, nI 0, ?_, g6.1⟩
    rw [g1, g5]
    exact go_end (by omega)
theorem x_axi (h : HT K P V m tk tp tv) (hi : i ≤ m) (hk : K i = 4) (gl : Nat) (wa bp bf : Nat → Int32) : ∃ wa', f_Pa_expandDeclaration tk tp (nI (m + 1)) (nI i) (nI gl) wa 0 bp bf 0 = some (1, wa', nI [4, 33, 30, 17, 38, 22, 61].length, upd bp 0 (nI (P i)), upd bf 0 (nI gl), 1) ∧ RS nI wa' [4, 33, 30, 17, 38, 22, 61] := by
  obtain ⟨wa', g1, g2⟩ := t_begin (k := 0) (rs := [4, 33, 30, 17, 38, 22, 61]) (w := []) (b := []) (wa := wa) (bp := bp) (bf := bf) h hi (by decide) rfl (by decide) (by decide) RS_nil gl
  refine ⟨wa', ?_, g2⟩
  unfold f_Pa_expandDeclaration
  rw [t_kind h hi, jb_some, if_pos (show nI (K i) = 4 by rw [hk]; rfl), show f_Pa_begin tp (nI (m + 1)) (nI i) (nI gl) wa 0 bp bf 0 0 = _ from g1, jb_some]
  exact fst_some nb1
theorem x_def (h : HT K P V m tk tp tv) (hi : i ≤ m) (hk : K i = 5) (gl : Nat) (wa bp bf : Nat → Int32) : ∃ wa', f_Pa_expandDeclaration tk tp (nI (m + 1)) (nI i) (nI gl) wa 0 bp bf 0 = some (1, wa', nI [5, 33, 30, 36, 18, 38, 22, 62].length, upd bp 0 (nI (P i)), upd bf 0 (nI gl), 1) ∧ RS nI wa' [5, 33, 30, 36, 18, 38, 22, 62] := by
  obtain ⟨wa', g1, g2⟩ := t_begin (k := 1) (rs := [5, 33, 30, 36, 18, 38, 22, 62]) (w := []) (b := []) (wa := wa) (bp := bp) (bf := bf) h hi (by decide) rfl (by decide) (by decide) RS_nil gl
  refine ⟨wa', ?_, g2⟩
  unfold f_Pa_expandDeclaration
  rw [t_kind h hi, jb_some, if_neg (show ¬ nI (K i) = 4 from k_ne (a := 4) h (by decide) (by omega)), if_pos (show nI (K i) = 5 by rw [hk]; rfl), show f_Pa_begin tp (nI (m + 1)) (nI i) (nI gl) wa 0 bp bf 0 1 = _ from g1, jb_some]
  exact fst_some nb1
theorem x_lem (h : HT K P V m tk tp tv) (hi : i ≤ m) (hk : K i = 6) (gl : Nat) (wa bp bf : Nat → Int32) : ∃ wa', f_Pa_expandDeclaration tk tp (nI (m + 1)) (nI i) (nI gl) wa 0 bp bf 0 = some (1, wa', nI [6, 33, 30, 17, 38, 18, 38, 22, 63].length, upd bp 0 (nI (P i)), upd bf 0 (nI gl), 1) ∧ RS nI wa' [6, 33, 30, 17, 38, 18, 38, 22, 63] := by
  obtain ⟨wa', g1, g2⟩ := t_begin (k := 2) (rs := [6, 33, 30, 17, 38, 18, 38, 22, 63]) (w := []) (b := []) (wa := wa) (bp := bp) (bf := bf) h hi (by decide) rfl (by decide) (by decide) RS_nil gl
  refine ⟨wa', ?_, g2⟩
  unfold f_Pa_expandDeclaration
  rw [t_kind h hi, jb_some, if_neg (show ¬ nI (K i) = 4 from k_ne (a := 4) h (by decide) (by omega)), if_neg (show ¬ nI (K i) = 5 from k_ne (a := 5) h (by decide) (by omega)), if_pos (show nI (K i) = 6 by rw [hk]; rfl), show f_Pa_begin tp (nI (m + 1)) (nI i) (nI gl) wa 0 bp bf 0 2 = _ from g1, jb_some]
  exact fst_some nb1
theorem x_dat (h : HT K P V m tk tp tv) (hi : i ≤ m) (hk : K i = 7) (gl : Nat) (wa bp bf : Nat → Int32) : ∃ wa', f_Pa_expandDeclaration tk tp (nI (m + 1)) (nI i) (nI gl) wa 0 bp bf 0 = some (1, wa', nI [7, 33, 30, 17, 38, 35, 22, 64].length, upd bp 0 (nI (P i)), upd bf 0 (nI gl), 1) ∧ RS nI wa' [7, 33, 30, 17, 38, 35, 22, 64] := by
  obtain ⟨wa', g1, g2⟩ := t_begin (k := 3) (rs := [7, 33, 30, 17, 38, 35, 22, 64]) (w := []) (b := []) (wa := wa) (bp := bp) (bf := bf) h hi (by decide) rfl (by decide) (by decide) RS_nil gl
  refine ⟨wa', ?_, g2⟩
  unfold f_Pa_expandDeclaration
  rw [t_kind h hi, jb_some, if_neg (show ¬ nI (K i) = 4 from k_ne (a := 4) h (by decide) (by omega)), if_neg (show ¬ nI (K i) = 5 from k_ne (a := 5) h (by decide) (by omega)), if_neg (show ¬ nI (K i) = 6 from k_ne (a := 6) h (by decide) (by omega)), if_pos (show nI (K i) = 7 by rw [hk]; rfl), show f_Pa_begin tp (nI (m + 1)) (nI i) (nI gl) wa 0 bp bf 0 3 = _ from g1, jb_some]
  exact fst_some nb1
theorem x_chk (h : HT K P V m tk tp tv) (hi : i ≤ m) (hk : K i = 8) (gl : Nat) (wa bp bf : Nat → Int32) : ∃ wa', f_Pa_expandDeclaration tk tp (nI (m + 1)) (nI i) (nI gl) wa 0 bp bf 0 = some (1, wa', nI [8, 38, 36, 22, 66].length, upd bp 0 (nI (P i)), upd bf 0 (nI gl), 1) ∧ RS nI wa' [8, 38, 36, 22, 66] := by
  obtain ⟨wa', g1, g2⟩ := t_begin (k := 4) (rs := [8, 38, 36, 22, 66]) (w := []) (b := []) (wa := wa) (bp := bp) (bf := bf) h hi (by decide) rfl (by decide) (by decide) RS_nil gl
  refine ⟨wa', ?_, g2⟩
  unfold f_Pa_expandDeclaration
  rw [t_kind h hi, jb_some, if_neg (show ¬ nI (K i) = 4 from k_ne (a := 4) h (by decide) (by omega)), if_neg (show ¬ nI (K i) = 5 from k_ne (a := 5) h (by decide) (by omega)), if_neg (show ¬ nI (K i) = 6 from k_ne (a := 6) h (by decide) (by omega)), if_neg (show ¬ nI (K i) = 7 from k_ne (a := 7) h (by decide) (by omega)), if_pos (show nI (K i) = 8 by rw [hk]; rfl), show f_Pa_begin tp (nI (m + 1)) (nI i) (nI gl) wa 0 bp bf 0 4 = _ from g1, jb_some]
  exact fst_some nb1
theorem x_nrm (h : HT K P V m tk tp tv) (hi : i ≤ m) (hk : K i = 9) (gl : Nat) (wa bp bf : Nat → Int32) : ∃ wa', f_Pa_expandDeclaration tk tp (nI (m + 1)) (nI i) (nI gl) wa 0 bp bf 0 = some (1, wa', nI [9, 38, 22, 67].length, upd bp 0 (nI (P i)), upd bf 0 (nI gl), 1) ∧ RS nI wa' [9, 38, 22, 67] := by
  obtain ⟨wa', g1, g2⟩ := t_begin (k := 5) (rs := [9, 38, 22, 67]) (w := []) (b := []) (wa := wa) (bp := bp) (bf := bf) h hi (by decide) rfl (by decide) (by decide) RS_nil gl
  refine ⟨wa', ?_, g2⟩
  unfold f_Pa_expandDeclaration
  rw [t_kind h hi, jb_some, if_neg (show ¬ nI (K i) = 4 from k_ne (a := 4) h (by decide) (by omega)), if_neg (show ¬ nI (K i) = 5 from k_ne (a := 5) h (by decide) (by omega)), if_neg (show ¬ nI (K i) = 6 from k_ne (a := 6) h (by decide) (by omega)), if_neg (show ¬ nI (K i) = 7 from k_ne (a := 7) h (by decide) (by omega)), if_neg (show ¬ nI (K i) = 8 from k_ne (a := 8) h (by decide) (by omega)), if_pos (show nI (K i) = 9 by rw [hk]; rfl), show f_Pa_begin tp (nI (m + 1)) (nI i) (nI gl) wa 0 bp bf 0 5 = _ from g1, jb_some]
  exact fst_some nb1
theorem dc_bad (h : HT K P V m tk tp tv) (hP : HP K P m) (hi : i ≤ m) (hk : K i < 4 ∨ 9 < K i) : DC K P V m tk tp tv i (.inl i) F := by
  refine ⟨hi, Nat.le_refl _, fun G gk gp gv gs gn wa wc bp bf bc dp hG hR => ?_⟩
  refine ⟨[], gk, gp, gv, gs, gn, wa, 0, bp, bf, 0, 0, ?_, hR, by have := hP.2.2.1 i hi; show G.length ≤ 8001; omega⟩
  unfold f_Pa_takeDeclaration f_Pa_expandDeclaration
  rw [t_kind h hi, jb_some, if_neg (show ¬ nI (K i) = 4 from k_ne (a := 4) h (by decide) (by omega)), if_neg (show ¬ nI (K i) = 5 from k_ne (a := 5) h (by decide) (by omega)), if_neg (show ¬ nI (K i) = 6 from k_ne (a := 6) h (by decide) (by omega)), if_neg (show ¬ nI (K i) = 7 from k_ne (a := 7) h (by decide) (by omega)), if_neg (show ¬ nI (K i) = 8 from k_ne (a := 8) h (by decide) (by omega)), if_neg (show ¬ nI (K i) = 9 from k_ne (a := 9) h (by decide) (by omega)), jb_some]
  apply jl_done
  show Pa_takeDeclaration_b22_s tk tp tv (nI (m + 1)) (nI i) gk gp gv gs gn (nI G.length) wa 0 bp bf 0 0 (vp_nar .boolean 0) 0 = _
  unfold Pa_takeDeclaration_b22_s
  rw [nb0, if_neg (show ¬ (1000000 : Int32) ≤ 0 by decide), if_pos (show (0 : Int32) = 0 from rfl)]
  unfold Pa_takeDeclaration_b69 Pa_takeDeclaration_b84
  rw [if_pos (show (0 : Int32) = 0 from rfl), jm_some, nb0]
  rfl
end AM
