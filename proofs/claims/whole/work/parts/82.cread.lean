-- the class's read, when the arguments are good
section OR
variable {row csp cst nw ol k0 p0 v0 gk gp gv gs gn nu wa bp bf k1 p1 v1 gk1 gp1 gv1 gs1 gn1 wa1 bp1 bf1 fk fp' fv fz fn' fw dk dp dv ds dn dw nu' ck' cp' cv' cs' cn' wo' cv2 csp2 cst2 nw2 ol2 : Nat → Int32} {len ov nc c0 nx0 gc wc bc de lf ft c1 nx1 wc1 bc1 de1 fc dc nc2 : Int32} {e n N : Nat}
theorem c_tell4 {ck cp cv cs cn : Nat → Int32} (hN : N < 8001) : f_Tr_tell ck cp cv cs cn (nI (N + 1)) 0 4 = some (cn 0) := by
  unfold f_Tr_tell
  refine (jb_ok (p_Trhas (nt := N + 1) (k := 0) (by omega) (by omega))).trans ?_
  rw [if_neg (show ¬ (1 : Int32) = 0 by decide), if_neg (show ¬ (4 : Int32) = 0 by decide), if_neg (show ¬ (4 : Int32) = 1 by decide), if_neg (show ¬ (4 : Int32) = 2 by decide), if_neg (show ¬ (4 : Int32) = 3 by decide), if_pos (show (4 : Int32) = 4 from rfl), if_neg (show ¬ ((0 : Int32) < 0 ∨ 8001 ≤ (0 : Int32).toNatClampNeg) by decide)]
  rfl
theorem c_read0 (hlen : len = nI n) (he : e ≤ n) (hn : n ≤ 8000) (hN : N < 8001) (h1 : f_Pa_parse row len k0 p0 v0 c0 nx0 gk gp gv gs gn gc wa wc bp bf bc de (nI e) = some (ft, k1, p1, v1, c1, nx1, gk1, gp1, gv1, gs1, gn1, nI (N + 1), wa1, wc1, bp1, bf1, bc1, de1)) (h2 : f_Gr_layOut gk1 gp1 gv1 gs1 gn1 (nI (N + 1)) nu fk fp' fv fz fn' fw fc = some (nu', ck', cp', cv', cs', cn', wo', nI (N + 1))) (h3 : f_Tr_numberNames ck' cp' (nI (N + 1)) row len cv' csp cst nw ol nc = some (cv2, csp2, cst2, nw2, ol2, nc2)) :
    f_TR_read row len ov csp cst nw ol nc fk fp' fv fz fn' fw fc dk dp dv ds dn dw dc k0 p0 v0 c0 nx0 gk gp gv gs gn nu gc wa wc bp bf bc de lf 0 (nI e) = some (cn' 0, 0, 0, csp2, cst2, nw2, ol2, nc2, ck', cp', cv2, cs', cn', wo', nI (N + 1), dk, dp, dv, ds, dn, dw, dc, k1, p1, v1, c1, nx1, gk1, gp1, gv1, gs1, gn1, nu', nI (N + 1), wa1, wc1, bp1, bf1, bc1, de1, ft) := by
  unfold f_TR_read
  have ht : f_TR_treeOf 0 = some 2 := by unfold f_TR_treeOf; rw [if_pos rfl]
  refine (jb_ok ht).trans ?_
  rw [if_neg (show ¬ (2 : Nat) = 0 by decide), if_neg (show ¬ (2 : Nat) = 1 by decide), if_neg (nI_pos (by omega)), if_pos (show nI e ≤ len by rw [hlen]; exact nI_le he (by omega))]
  exact (jb_ok h1).trans ((jb_ok h2).trans ((jb_ok h3).trans ((jb_ok (show f_By_clear len ov = some (0, 0) from rfl)).trans (jb_ok (c_tell4 hN)))))
theorem c_read1 (hlen : len = nI n) (he : e ≤ n) (hn : n ≤ 8000) (hN : N < 8001) (h1 : f_Pa_parse row len k0 p0 v0 c0 nx0 gk gp gv gs gn gc wa wc bp bf bc de (nI e) = some (ft, k1, p1, v1, c1, nx1, gk1, gp1, gv1, gs1, gn1, nI (N + 1), wa1, wc1, bp1, bf1, bc1, de1)) (h2 : f_Gr_layOut gk1 gp1 gv1 gs1 gn1 (nI (N + 1)) nu dk dp dv ds dn dw dc = some (nu', ck', cp', cv', cs', cn', wo', nI (N + 1))) (h3 : f_Tr_numberNames ck' cp' (nI (N + 1)) row len cv' csp cst nw ol nc = some (cv2, csp2, cst2, nw2, ol2, nc2)) :
    f_TR_read row len ov csp cst nw ol nc fk fp' fv fz fn' fw fc dk dp dv ds dn dw dc k0 p0 v0 c0 nx0 gk gp gv gs gn nu gc wa wc bp bf bc de lf 1 (nI e) = some (cn' 0, 0, 0, csp2, cst2, nw2, ol2, nc2, fk, fp', fv, fz, fn', fw, fc, ck', cp', cv2, cs', cn', wo', nI (N + 1), k1, p1, v1, c1, nx1, gk1, gp1, gv1, gs1, gn1, nu', nI (N + 1), wa1, wc1, bp1, bf1, bc1, de1, ft) := by
  unfold f_TR_read
  have ht : f_TR_treeOf 1 = some 1 := by unfold f_TR_treeOf; rw [if_neg (show ¬ (1 : Int32) = 0 by decide), if_pos rfl]
  refine (jb_ok ht).trans ?_
  rw [if_neg (show ¬ (1 : Nat) = 0 by decide), if_pos (show (1 : Nat) = 1 from rfl), if_neg (nI_pos (by omega)), if_pos (show nI e ≤ len by rw [hlen]; exact nI_le he (by omega))]
  exact (jb_ok h1).trans ((jb_ok h2).trans ((jb_ok h3).trans ((jb_ok (show f_By_clear len ov = some (0, 0) from rfl)).trans (jb_ok (c_tell4 hN)))))
end OR
