-- read, when the arguments are not good
section OR
variable {row csp cst nw ol k0 p0 v0 gk gp gv gs gn nu wa bp bf fk fp' fv fz fn' fw dk dp dv ds dn dw : Nat → Int32} {len ov nc c0 nx0 gc wc bc de lf fc dc a1 a2 : Int32}
theorem c_readB (h : (¬ a1 = 0 ∧ ¬ a1 = 1) ∨ a2 < 0 ∨ ¬ a2 ≤ len) : f_TR_read row len ov csp cst nw ol nc fk fp' fv fz fn' fw fc dk dp dv ds dn dw dc k0 p0 v0 c0 nx0 gk gp gv gs gn nu gc wa wc bp bf bc de lf a1 a2 = some (-1, len, ov, csp, cst, nw, ol, nc, fk, fp', fv, fz, fn', fw, fc, dk, dp, dv, ds, dn, dw, dc, k0, p0, v0, c0, nx0, gk, gp, gv, gs, gn, nu, gc, wa, wc, bp, bf, bc, de, lf) := by
  unfold f_TR_read
  by_cases q0 : a1 = 0
  · have ht : f_TR_treeOf a1 = some 2 := by unfold f_TR_treeOf; rw [if_pos q0]
    refine (jb_ok ht).trans ?_
    rw [if_neg (show ¬ (2 : Nat) = 0 by decide), if_neg (show ¬ (2 : Nat) = 1 by decide)]
    by_cases q2 : a2 < 0
    · rw [if_pos q2]
    · rw [if_neg q2]
      have q3 : ¬ a2 ≤ len := by
        rcases h with g | g | g
        · exact absurd q0 g.1
        · exact absurd g q2
        · exact g
      rw [if_neg q3]
  · by_cases q1 : a1 = 1
    · have ht : f_TR_treeOf a1 = some 1 := by unfold f_TR_treeOf; rw [if_neg q0, if_pos q1]
      refine (jb_ok ht).trans ?_
      rw [if_neg (show ¬ (1 : Nat) = 0 by decide), if_pos (show (1 : Nat) = 1 from rfl)]
      by_cases q2 : a2 < 0
      · rw [if_pos q2]
      · rw [if_neg q2]
        have q3 : ¬ a2 ≤ len := by
          rcases h with g | g | g
          · exact absurd q1 g.2
          · exact absurd g q2
          · exact g
        rw [if_neg q3]
    · have ht : f_TR_treeOf a1 = some 0 := by unfold f_TR_treeOf; rw [if_neg q0, if_neg q1]
      refine (jb_ok ht).trans ?_
      rw [if_pos (show (0 : Nat) = 0 from rfl)]
variable {ys to0 pl0 le0 pile tk tw tv th ts tc mle mst : Nat → Int32} {size en tn0 at0 bd0 ft0 D0 mn : Int32} {A : AR}
theorem m_readB (h : a1 < 0 ∨ 1 < a1 ∨ a2 < 0 ∨ ¬ a2 ≤ size) : f_Mo_read ys size en to0 pl0 le0 tn0 at0 bd0 ft0 A.1 A.2.1 A.2.2.1 A.2.2.2.1 A.2.2.2.2.1 A.2.2.2.2.2 D0 pile tk tw tv th ts tc mle mst mn a1 a2 = some (-1, size, en, to0, pl0, le0, tn0, at0, bd0, ft0, A.1, A.2.1, A.2.2.1, A.2.2.2.1, A.2.2.2.2.1, A.2.2.2.2.2, D0, pile, tk, tw, tv, th, ts, tc, mle, mst, mn) := by
  unfold f_Mo_read
  by_cases q0 : a1 < 0
  · rw [if_pos q0]
  · rw [if_neg q0]
    by_cases q1 : 1 < a1
    · rw [if_pos q1]
    · rw [if_neg q1]
      by_cases q2 : a2 < 0
      · rw [if_pos q2]
      · rw [if_neg q2]
        have q3 : ¬ a2 ≤ size := by
          rcases h with g | g | g | g
          · exact absurd g q0
          · exact absurd g q1
          · exact absurd g q2
          · exact g
        rw [if_neg q3]
/-- the two trees' numbers -/
theorem tree_no (a : Int32) : (a = 0 ∨ a = 1) ∨ ((¬ a = 0 ∧ ¬ a = 1) ∧ (a < 0 ∨ 1 < a)) := by
  rcases pk_ix a (n := 2) (by omega) with q | q | ⟨j, hj, q⟩
  · right
    refine ⟨⟨fun e => ?_, fun e => ?_⟩, Or.inl q⟩
    · rw [e] at q; exact absurd q (by decide)
    · rw [e] at q; exact absurd q (by decide)
  · right
    refine ⟨⟨fun e => ?_, fun e => ?_⟩, Or.inr ?_⟩
    · rw [e] at q; exact absurd q (by decide)
    · rw [e] at q; exact absurd q (by decide)
    · exact Int32.lt_of_lt_of_le (show (1 : Int32) < nI 2 by decide) q
  · left
    have : j = 0 ∨ j = 1 := by omega
    rcases this with e | e
    · left; rw [q, e]; rfl
    · right; rw [q, e]; rfl
end OR
