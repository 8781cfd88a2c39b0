-- a call of read leaves the other tree
section OR
variable {ck cp cv cs cn cw mk mp mv ms mw mc mk' mp' mv' ms' mw' mc' : Nat → Int32} {cc : Int32} {t : Nat}
theorem TRl_fr {nc nc' : Nat} (hn : nc ≤ nc') (h : TRl nc ck cp cv cs cn cw cc mk mp mv ms mw mc t) (hz : ∀ z, 9000 * t ≤ z → z < 9000 * t + 9000 → mk' z = mk z ∧ mp' z = mp z ∧ mv' z = mv z ∧ ms' z = ms z ∧ mw' z = mw z) (hc : mc' t = mc t) : TRl nc' ck cp cv cs cn cw cc mk' mp' mv' ms' mw' mc' t := by
  obtain ⟨P, X, h1, h2, h3, h4, h5, h6, h7⟩ := h
  refine ⟨P, X, h1, ⟨h2.1, h2.2.1, vl_w hn _ 0 h2.2.2⟩, h3, hc.trans h4, h5, h6, fun k hk => ?_⟩
  have a := h7 k hk
  have b := hz (9000 * t + k) (by omega) (by omega)
  exact ⟨b.1.trans a.1, b.2.1.trans a.2.1, b.2.2.1.trans a.2.2.1, b.2.2.2.1.trans a.2.2.2.1, b.2.2.2.2.trans a.2.2.2.2⟩
/-- the text is in no other node -/
theorem tr_w0 {nc : Nat} (h : TRl nc ck cp cv cs cn cw cc mk mp mv ms mw mc t) : cw 0 = -1 := by
  obtain ⟨P, X, h1, h2, h3, h4, h5, h6, h7⟩ := h
  exact h5.2.2.2.1
/-- the tree of an empty text -/
theorem TRl_0 {nc : Nat} (ht : t < 2) (hcc : cc = 1) (hmc : mc t = 1) (k1 : ck 0 = 0) (k2 : cp 0 = -1) (k3 : cv 0 = 0) (k4 : cs 0 = 1) (k5 : cn 0 = 0) (k6 : cw 0 = -1) (j1 : mk (9000 * t) = 0) (j2 : mp (9000 * t) = -1) (j3 : mv (9000 * t) = 0) (j4 : ms (9000 * t) = 1) (j5 : mw (9000 * t) = -1) : TRl nc ck cp cv cs cn cw cc mk mp mv ms mw mc t := by
  refine ⟨fun _ => 0, .num 0, ht, ⟨by show 0 + 1 ≤ 8001; omega, wX_0, fun q => absurd q (by decide), fun q => absurd q (by decide), True.intro⟩, hcc, hmc, ⟨k1, k2, k4, k6, True.intro⟩, ⟨k5, True.intro⟩, fun k hk => ?_⟩
  have hk' : k < 0 + 1 := hk
  have e : k = 0 := by omega
  subst e
  exact ⟨j1.trans k1.symm, j2.trans k2.symm, j3.trans k3.symm, j4.trans k4.symm, j5.trans k6.symm⟩
end OR
