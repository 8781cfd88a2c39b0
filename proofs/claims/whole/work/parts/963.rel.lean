-- what both hold between two calls
def REL (c : Nat) (x_fed_row : Nat → Int32) (x_fed_length : Int32) (x_known_spelling : Nat → Int32) (x_known_starts : Nat → Int32) (x_known_newest : Nat → Int32) (x_known_older : Nat → Int32) (x_known_count : Int32) (x_first_kinds : Nat → Int32) (x_first_places : Nat → Int32) (x_first_values : Nat → Int32) (x_first_sizes : Nat → Int32) (x_first_partCounts : Nat → Int32) (x_first_wholes : Nat → Int32) (x_first_count : Int32) (x_second_kinds : Nat → Int32) (x_second_places : Nat → Int32) (x_second_values : Nat → Int32) (x_second_sizes : Nat → Int32) (x_second_partCounts : Nat → Int32) (x_second_wholes : Nat → Int32) (x_second_count : Int32) (x_parser_growth_count : Int32) (x_writer_shown_row : Nat → Int32) (x_writer_shown_length : Int32) (x_lastFault : Int32) (m_bytes : Nat → Int32) (m_size : Int32) (m_written : Nat → Int32) (m_writtenSize : Int32) (m_fault : Int32) (m_kind : Nat → Int32) (m_where : Nat → Int32) (m_value : Nat → Int32) (m_whole : Nat → Int32) (m_sizes : Nat → Int32) (m_count : Nat → Int32) (m_letters : Nat → Int32) (m_starts : Nat → Int32) (m_names : Int32) : Prop :=
  ∃ (B : Nat → Nat) (n : Nat) (T : TBt) (W : Nat → Nat) (wn a gcn : Nat), RB x_fed_row x_fed_length B n ∧ RM m_bytes m_size B n ∧ TB T.1 T.2.1 T.2.2 ∧ RNc x_known_spelling x_known_starts x_known_newest x_known_older T.1 T.2.1 T.2.2 ∧ x_known_count = nI T.1 ∧ RNr m_letters m_starts T.1 T.2.1 T.2.2 ∧ m_names = nI T.1 ∧ TRl T.1 x_first_kinds x_first_places x_first_values x_first_sizes x_first_partCounts x_first_wholes x_first_count m_kind m_where m_value m_sizes m_whole m_count 0 ∧ TRl T.1 x_second_kinds x_second_places x_second_values x_second_sizes x_second_partCounts x_second_wholes x_second_count m_kind m_where m_value m_sizes m_whole m_count 1 ∧ (gcn ≤ 8001 ∧ x_parser_growth_count = nI gcn) ∧ RB x_writer_shown_row x_writer_shown_length W wn ∧ RM m_written m_writtenSize W wn ∧ x_lastFault = m_fault ∧ WKp W T wn ∧ WKp B T a ∧ a ≤ n ∧ wt T ≤ 20 * c ∧ wt T + n ≤ (a - 39) + 20 * (c + 1)
section RE
variable {c : Nat} {x_fed_row : Nat → Int32} {x_fed_length : Int32} {x_fed_overrun : Int32} {x_known_spelling : Nat → Int32} {x_known_starts : Nat → Int32} {x_known_newest : Nat → Int32} {x_known_older : Nat → Int32} {x_known_count : Int32} {x_first_kinds : Nat → Int32} {x_first_places : Nat → Int32} {x_first_values : Nat → Int32} {x_first_sizes : Nat → Int32} {x_first_partCounts : Nat → Int32} {x_first_wholes : Nat → Int32} {x_first_count : Int32} {x_second_kinds : Nat → Int32} {x_second_places : Nat → Int32} {x_second_values : Nat → Int32} {x_second_sizes : Nat → Int32} {x_second_partCounts : Nat → Int32} {x_second_wholes : Nat → Int32} {x_second_count : Int32} {x_parser_tokens_kinds : Nat → Int32} {x_parser_tokens_places : Nat → Int32} {x_parser_tokens_values : Nat → Int32} {x_parser_tokens_count : Int32} {x_parser_tokens_next : Int32} {x_parser_growth_kinds : Nat → Int32} {x_parser_growth_places : Nat → Int32} {x_parser_growth_values : Nat → Int32} {x_parser_growth_sizes : Nat → Int32} {x_parser_growth_partCounts : Nat → Int32} {x_parser_growth_numbers : Nat → Int32} {x_parser_growth_count : Int32} {x_parser_waiting : Nat → Int32} {x_parser_waitingCount : Int32} {x_parser_begunPlaces : Nat → Int32} {x_parser_begunFrom : Nat → Int32} {x_parser_begunCount : Int32} {x_parser_depth : Int32} {x_writer_shown_row : Nat → Int32} {x_writer_shown_length : Int32} {x_writer_shown_overrun : Int32} {x_writer_draft_row : Nat → Int32} {x_writer_draft_length : Int32} {x_writer_draft_overrun : Int32} {x_lastFault : Int32} {m_bytes : Nat → Int32} {m_size : Int32} {m_end : Int32} {m_written : Nat → Int32} {m_writtenSize : Int32} {m_out : Nat → Int32} {m_outSize : Int32} {m_token : Nat → Int32} {m_place : Nat → Int32} {m_length : Nat → Int32} {m_tokens : Int32} {m_at : Int32} {m_bad : Int32} {m_fault : Int32} {m_kindOf : Nat → Int32} {m_placeOf : Nat → Int32} {m_valueOf : Nat → Int32} {m_firstOf : Nat → Int32} {m_lastOf : Nat → Int32} {m_nextOf : Nat → Int32} {m_drafts : Int32} {m_pile : Nat → Int32} {m_kind : Nat → Int32} {m_where : Nat → Int32} {m_value : Nat → Int32} {m_whole : Nat → Int32} {m_sizes : Nat → Int32} {m_count : Nat → Int32} {m_letters : Nat → Int32} {m_starts : Nat → Int32} {m_names : Int32}
theorem so_cong {B B' : Nat → Nat} {p w : Nat} (h : ∀ j, j < w → B' (p + j) = B (p + j)) : soE B' p w = soE B p w := by
  have sp0 : ∀ k, spB B' p w k = spB B p w k := fun k => by
    have : spB B' p w k = true ↔ spB B p w k = true := by
      rw [spB_iff, spB_iff]
      exact ⟨fun z => ⟨z.1, fun j hj => by rw [← h j hj]; exact z.2 j hj⟩, fun z => ⟨z.1, fun j hj => by rw [h j hj]; exact z.2 j hj⟩⟩
    cases e1 : spB B' p w k with
    | true => exact (this.mp e1).symm
    | false =>
      cases e2 : spB B p w k with
      | true => rw [this.mpr e2] at e1; cases e1
      | false => rfl
  unfold soE
  rw [sp0 0]
  by_cases q : spB B p w 0 = true
  · rw [if_pos q, if_pos q]
  · rw [if_neg q, if_neg q]
    by_cases w4 : 4 ≤ w ∧ w ≤ 6
    · have sp1 : spB B' p 4 1 = true ↔ spB B p 4 1 = true := by
        rw [spB_iff, spB_iff]
        exact ⟨fun z => ⟨z.1, fun j hj => by rw [← h j (by omega)]; exact z.2 j hj⟩, fun z => ⟨z.1, fun j hj => by rw [h j (by omega)]; exact z.2 j hj⟩⟩
      by_cases r : spB B p 4 1 = true
      · rw [if_pos r, if_pos (sp1.mpr r)]
        by_cases c4 : w = 4
        · rw [if_pos c4, if_pos c4]
        · rw [if_neg c4, if_neg c4]
          by_cases c5 : w = 5
          · rw [if_pos c5, if_pos c5, h 4 (by omega)]
          · rw [if_neg c5, if_neg c5]
            by_cases c6 : w = 6
            · rw [if_pos c6, if_pos c6, h 4 (by omega), h 5 (by omega)]
            · rw [if_neg c6, if_neg c6]
      · rw [if_neg r, if_neg (fun z => r (sp1.mp z))]
    · have non : ∀ C : Nat → Nat, (if spB C p 4 1 = true then (if w = 4 then some 1 else if w = 5 then (if digB (C (p + 4)) = true then some (1 + (C (p + 4) - 48)) else none) else if w = 6 then (if digB (C (p + 4)) = true ∧ ¬ C (p + 4) = 48 ∧ digB (C (p + 5)) = true then some (1 + 10 * (C (p + 4) - 48) + (C (p + 5) - 48)) else none) else none) else none) = none := fun C => by
        by_cases r : spB C p 4 1 = true
        · rw [if_pos r, if_neg (by omega), if_neg (by omega), if_neg (by omega)]
        · rw [if_neg r]
      rw [non B', non B]
theorem wd_cong {B B' : Nat → Nat} {p w : Nat} (h : ∀ j, j < w → B' (p + j) = B (p + j)) : ∀ n k, wdF B' p w n k = wdF B p w n k := by
  intro n
  induction n with
  | zero => intro k; rfl
  | succ n ih =>
    intro k
    have : spB B' p w (2 + k) = true ↔ spB B p w (2 + k) = true := by
      rw [spB_iff, spB_iff]
      exact ⟨fun z => ⟨z.1, fun j hj => by rw [← h j hj]; exact z.2 j hj⟩, fun z => ⟨z.1, fun j hj => by rw [h j hj]; exact z.2 j hj⟩⟩
    show (if spB B' p w (2 + k) = true then 4 + k else wdF B' p w n (k + 1)) = (if spB B p w (2 + k) = true then 4 + k else wdF B p w n (k + 1))
    by_cases q : spB B p w (2 + k) = true
    · rw [if_pos q, if_pos (this.mpr q)]
    · rw [if_neg q, if_neg (fun z => q (this.mp z)), ih]
theorem WKp_cong {B B' : Nat → Nat} {T : TBt} {a : Nat} (h : ∀ i, i < a → B' i = B i) (hW : WKp B T a) : WKp B' T a := by
  intro p w h1 h2 h3 h4 h5
  have hj : ∀ j, j < w → B' (p + j) = B (p + j) := fun j hj => h _ (by omega)
  rcases hW p w h1 h2 (by
    rcases h3 with z | z
    · exact Or.inl z
    · by_cases q : p = 0
      · exact Or.inl q
      · exact Or.inr (by rw [← h (p - 1) (by omega)]; exact z)) (fun j q => by rw [← hj j q]; exact h4 j q) (fun q => by rw [← h (p + w) q]; exact h5 q) with z | z
  · obtain ⟨x, x1, x2, x3⟩ := z
    exact Or.inl ⟨x, x1, x2, fun j q => by rw [x3 j q, hj j q]⟩
  · right
    unfold wkE at z ⊢
    by_cases q : 40 < w
    · rw [if_pos q]; decide
    · rw [if_neg q] at z ⊢
      rw [so_cong hj, wd_cong hj]
      exact z
theorem R_skip (h : REL c x_fed_row x_fed_length x_known_spelling x_known_starts x_known_newest x_known_older x_known_count x_first_kinds x_first_places x_first_values x_first_sizes x_first_partCounts x_first_wholes x_first_count x_second_kinds x_second_places x_second_values x_second_sizes x_second_partCounts x_second_wholes x_second_count x_parser_growth_count x_writer_shown_row x_writer_shown_length x_lastFault m_bytes m_size m_written m_writtenSize m_fault m_kind m_where m_value m_whole m_sizes m_count m_letters m_starts m_names) : REL (c + 1) x_fed_row x_fed_length x_known_spelling x_known_starts x_known_newest x_known_older x_known_count x_first_kinds x_first_places x_first_values x_first_sizes x_first_partCounts x_first_wholes x_first_count x_second_kinds x_second_places x_second_values x_second_sizes x_second_partCounts x_second_wholes x_second_count x_parser_growth_count x_writer_shown_row x_writer_shown_length x_lastFault m_bytes m_size m_written m_writtenSize m_fault m_kind m_where m_value m_whole m_sizes m_count m_letters m_starts m_names := by
  obtain ⟨B, n, T, W, wn, a, gcn, h1, h2, h3, h4, h5, h6, h7, h8, h9, h10, h11, h12, h13, h14, h15, h16, h17, h18⟩ := h
  exact ⟨B, n, T, W, wn, a, gcn, h1, h2, h3, h4, h5, h6, h7, h8, h9, h10, h11, h12, h13, h14, h15, h16, by omega, by omega⟩
theorem R_feed (h : REL c x_fed_row x_fed_length x_known_spelling x_known_starts x_known_newest x_known_older x_known_count x_first_kinds x_first_places x_first_values x_first_sizes x_first_partCounts x_first_wholes x_first_count x_second_kinds x_second_places x_second_values x_second_sizes x_second_partCounts x_second_wholes x_second_count x_parser_growth_count x_writer_shown_row x_writer_shown_length x_lastFault m_bytes m_size m_written m_writtenSize m_fault m_kind m_where m_value m_whole m_sizes m_count m_letters m_starts m_names) (a1 a2 a3 a4 a5 : Int32) : ∃ o o', f_TR_feed x_fed_row x_fed_length x_fed_overrun a1 a2 a3 a4 a5 = some o ∧ f_Mo_feed m_bytes m_size a1 a2 a3 a4 a5 = some o' ∧ o.1 = o'.1 ∧ REL (c + 1) o.2.1 o.2.2.1 x_known_spelling x_known_starts x_known_newest x_known_older x_known_count x_first_kinds x_first_places x_first_values x_first_sizes x_first_partCounts x_first_wholes x_first_count x_second_kinds x_second_places x_second_values x_second_sizes x_second_partCounts x_second_wholes x_second_count x_parser_growth_count x_writer_shown_row x_writer_shown_length x_lastFault o'.2.1 o'.2.2 m_written m_writtenSize m_fault m_kind m_where m_value m_whole m_sizes m_count m_letters m_starts m_names := by
  obtain ⟨B, n, T, W, wn, a, gcn, h1, h2, h3, h4, h5, h6, h7, h8, h9, h10, h11, h12, h13, h14, h15, h16, h17, h18⟩ := h
  by_cases q : n ≤ 7980
  · obtain ⟨row', e1, f1⟩ := p_TR_feed (ov := x_fed_overrun) (a := a1) (b := a2) (c := a3) (d := a4) (e := a5) h1 q
    obtain ⟨by', e2, f2⟩ := p_Mo_feed (a := a1) (b := a2) (c := a3) (d := a4) (e := a5) h2 q
    exact ⟨_, _, e1, e2, rfl, fbyt B n a1 a2 a3 a4 a5, n + 20, T, W, wn, a, gcn, f1, f2, h3, h4, h5, h6, h7, h8, h9, h10, h11, h12, h13, h14, WKp_cong (fun i hi => fbyt_old (by omega)) h15, by omega, by omega, by omega⟩
  · exact ⟨_, _, p_TR_feed_no h1 (by omega), p_Mo_feed_no h2 (by omega), rfl, B, n, T, W, wn, a, gcn, h1, h2, h3, h4, h5, h6, h7, h8, h9, h10, h11, h12, h13, h14, h15, h16, by omega, by omega⟩
theorem R_again (h : REL c x_fed_row x_fed_length x_known_spelling x_known_starts x_known_newest x_known_older x_known_count x_first_kinds x_first_places x_first_values x_first_sizes x_first_partCounts x_first_wholes x_first_count x_second_kinds x_second_places x_second_values x_second_sizes x_second_partCounts x_second_wholes x_second_count x_parser_growth_count x_writer_shown_row x_writer_shown_length x_lastFault m_bytes m_size m_written m_writtenSize m_fault m_kind m_where m_value m_whole m_sizes m_count m_letters m_starts m_names) : ∃ o o', f_TR_again x_writer_shown_row x_writer_shown_length x_fed_row x_fed_length x_fed_overrun = some o ∧ f_Mo_again m_written m_writtenSize m_bytes m_size = some o' ∧ o.1 = o'.1 ∧ REL (c + 1) o.2.1 o.2.2.1 x_known_spelling x_known_starts x_known_newest x_known_older x_known_count x_first_kinds x_first_places x_first_values x_first_sizes x_first_partCounts x_first_wholes x_first_count x_second_kinds x_second_places x_second_values x_second_sizes x_second_partCounts x_second_wholes x_second_count x_parser_growth_count x_writer_shown_row x_writer_shown_length x_lastFault o'.2.1 o'.2.2 m_written m_writtenSize m_fault m_kind m_where m_value m_whole m_sizes m_count m_letters m_starts m_names := by
  obtain ⟨B, n, T, W, wn, a, gcn, h1, h2, h3, h4, h5, h6, h7, h8, h9, h10, h11, h12, h13, h14, h15, h16, h17, h18⟩ := h
  obtain ⟨row', e1, f1⟩ := p_TR_again (frow := x_fed_row) (flen := x_fed_length) (fov := x_fed_overrun) h11
  obtain ⟨by', e2, f2⟩ := p_Mo_again (bytes := m_bytes) (size := m_size) h12
  exact ⟨_, _, e1, e2, rfl, W, wn, T, W, wn, wn, gcn, f1, f2, h3, h4, h5, h6, h7, h8, h9, h10, h11, h12, h13, h14, h14, Nat.le_refl _, by omega, by omega⟩
theorem R_write (h : REL c x_fed_row x_fed_length x_known_spelling x_known_starts x_known_newest x_known_older x_known_count x_first_kinds x_first_places x_first_values x_first_sizes x_first_partCounts x_first_wholes x_first_count x_second_kinds x_second_places x_second_values x_second_sizes x_second_partCounts x_second_wholes x_second_count x_parser_growth_count x_writer_shown_row x_writer_shown_length x_lastFault m_bytes m_size m_written m_writtenSize m_fault m_kind m_where m_value m_whole m_sizes m_count m_letters m_starts m_names) (a1 a2 : Int32) : ∃ o o', f_TR_write x_known_spelling x_known_starts x_known_count x_first_kinds x_first_places x_first_values x_first_sizes x_first_partCounts x_first_wholes x_first_count x_second_kinds x_second_places x_second_values x_second_sizes x_second_partCounts x_second_wholes x_second_count x_writer_shown_row x_writer_shown_length x_writer_shown_overrun x_writer_draft_row x_writer_draft_length x_writer_draft_overrun a1 a2 = some o ∧ f_Mo_write m_kind m_value m_sizes m_count m_letters m_starts m_written m_writtenSize m_out m_outSize a1 a2 = some o' ∧ o.1 = o'.1 ∧ REL (c + 1) x_fed_row x_fed_length x_known_spelling x_known_starts x_known_newest x_known_older x_known_count x_first_kinds x_first_places x_first_values x_first_sizes x_first_partCounts x_first_wholes x_first_count x_second_kinds x_second_places x_second_values x_second_sizes x_second_partCounts x_second_wholes x_second_count x_parser_growth_count o.2.1 o.2.2.1 x_lastFault m_bytes m_size o'.2.1 o'.2.2.1 m_fault m_kind m_where m_value m_whole m_sizes m_count m_letters m_starts m_names := by
  obtain ⟨B, n, T, W, wn, a, gcn, h1, h2, h3, h4, h5, h6, h7, h8, h9, h10, h11, h12, h13, h14, h15, h16, h17, h18⟩ := h
  have bad : f_TR_write x_known_spelling x_known_starts x_known_count x_first_kinds x_first_places x_first_values x_first_sizes x_first_partCounts x_first_wholes x_first_count x_second_kinds x_second_places x_second_values x_second_sizes x_second_partCounts x_second_wholes x_second_count x_writer_shown_row x_writer_shown_length x_writer_shown_overrun x_writer_draft_row x_writer_draft_length x_writer_draft_overrun a1 a2 = some (-1, x_writer_shown_row, x_writer_shown_length, x_writer_shown_overrun, x_writer_draft_row, x_writer_draft_length, x_writer_draft_overrun) → f_Mo_write m_kind m_value m_sizes m_count m_letters m_starts m_written m_writtenSize m_out m_outSize a1 a2 = some (-1, m_written, m_writtenSize, m_out, m_outSize) → ∃ o o', f_TR_write x_known_spelling x_known_starts x_known_count x_first_kinds x_first_places x_first_values x_first_sizes x_first_partCounts x_first_wholes x_first_count x_second_kinds x_second_places x_second_values x_second_sizes x_second_partCounts x_second_wholes x_second_count x_writer_shown_row x_writer_shown_length x_writer_shown_overrun x_writer_draft_row x_writer_draft_length x_writer_draft_overrun a1 a2 = some o ∧ f_Mo_write m_kind m_value m_sizes m_count m_letters m_starts m_written m_writtenSize m_out m_outSize a1 a2 = some o' ∧ o.1 = o'.1 ∧ REL (c + 1) x_fed_row x_fed_length x_known_spelling x_known_starts x_known_newest x_known_older x_known_count x_first_kinds x_first_places x_first_values x_first_sizes x_first_partCounts x_first_wholes x_first_count x_second_kinds x_second_places x_second_values x_second_sizes x_second_partCounts x_second_wholes x_second_count x_parser_growth_count o.2.1 o.2.2.1 x_lastFault m_bytes m_size o'.2.1 o'.2.2.1 m_fault m_kind m_where m_value m_whole m_sizes m_count m_letters m_starts m_names := fun e1 e2 => ⟨_, _, e1, e2, rfl, B, n, T, W, wn, a, gcn, h1, h2, h3, h4, h5, h6, h7, h8, h9, h10, h11, h12, h13, h14, h15, h16, by omega, by omega⟩
  rcases a01 a1 with e | e | ⟨q1, q2, q3⟩
  · subst e
    obtain ⟨nt, sz, pn, wh, g1, g2⟩ := tr_RT h8
    obtain ⟨_, t1, t2, t3, t4, _⟩ := g1
    have e0 : f_TR_treeOf 0 = some 2 := by unfold f_TR_treeOf; rw [if_pos rfl]
    rcases pk_ix a2 (n := nt) (by omega) with q | q | ⟨k, hk, rfl⟩
    · exact bad (by
        unfold f_TR_write
        rw [e0, jb_some, if_neg (show ¬ (2 : Nat) = 0 by decide), if_neg (show ¬ (2 : Nat) = 1 by decide), t3, p_Trhas_out (Or.inl q), jb_some, if_pos rfl]
        rfl) (by
        unfold f_Mo_write
        rw [show f_Mo_has m_count 0 a2 = some 0 from p_Mohas_out (t := 0) (by decide) t4 (Or.inl q), jb_some, if_pos rfl])
    · exact bad (by
        unfold f_TR_write
        rw [e0, jb_some, if_neg (show ¬ (2 : Nat) = 0 by decide), if_neg (show ¬ (2 : Nat) = 1 by decide), t3, p_Trhas_out (Or.inr q), jb_some, if_pos rfl]
        rfl) (by
        unfold f_Mo_write
        rw [show f_Mo_has m_count 0 a2 = some 0 from p_Mohas_out (t := 0) (by decide) t4 (Or.inr q), jb_some, if_pos rfl])
    · obtain ⟨r, L, X, lc, dr, dl, do', o, os, w1, w2, w3⟩ := o_write (srow := x_writer_shown_row) (slen := x_writer_shown_length) (sov := x_writer_shown_overrun) (drow := x_writer_draft_row) (dlen := x_writer_draft_length) (dov := x_writer_draft_overrun) (wrow := m_written) (wlen := m_writtenSize) (out := m_out) (osz := m_outSize) h8 h3 h4 h6 t3 (by omega) hk
      have cl : ∀ z, f_Wr_show x_first_kinds x_first_places x_first_values x_first_sizes x_first_partCounts x_first_wholes x_first_count x_known_spelling x_known_starts (nI T.1) x_writer_shown_row x_writer_shown_length x_writer_shown_overrun x_writer_draft_row x_writer_draft_length x_writer_draft_overrun (nI k) = some z → f_TR_write x_known_spelling x_known_starts x_known_count x_first_kinds x_first_places x_first_values x_first_sizes x_first_partCounts x_first_wholes x_first_count x_second_kinds x_second_places x_second_values x_second_sizes x_second_partCounts x_second_wholes x_second_count x_writer_shown_row x_writer_shown_length x_writer_shown_overrun x_writer_draft_row x_writer_draft_length x_writer_draft_overrun 0 (nI k) = some z := fun z hz => by
        have hh := p_Trhas (nt := nt) (k := k) (by omega) hk
        rw [← t3] at hh
        unfold f_TR_write
        rw [e0, jb_some, if_neg (show ¬ (2 : Nat) = 0 by decide), if_neg (show ¬ (2 : Nat) = 1 by decide), hh, jb_some, if_neg n10, h5, hz, jb_some]
      rcases w3 with ⟨w4, w5, w6⟩ | ⟨sr, wr, so, w4, w5, w6, w7⟩
      · exact ⟨_, _, cl _ w5, w6, rfl, B, n, T, W, wn, a, gcn, h1, h2, h3, h4, h5, h6, h7, h8, h9, h10, h11, h12, h13, h14, h15, h16, by omega, by omega⟩
      · have wk : WKp (bo L) T L.length := WK_pos h3 (by rw [w2]; exact rd_wk h3 _ _ _ _ _ _ _ (Or.inr rfl) w1 wk_nil)
        exact ⟨_, _, cl _ w4, w5, rfl, B, n, T, bo L, L.length, a, gcn, h1, h2, h3, h4, h5, h6, h7, h8, h9, h10, w6, w7, h13, wk, h15, h16, by omega, by omega⟩
  · subst e
    obtain ⟨nt, sz, pn, wh, g1, g2⟩ := tr_RT h9
    obtain ⟨_, t1, t2, t3, t4, _⟩ := g1
    have e0 : f_TR_treeOf 1 = some 1 := by unfold f_TR_treeOf; rw [if_neg n10, if_pos rfl]
    rcases pk_ix a2 (n := nt) (by omega) with q | q | ⟨k, hk, rfl⟩
    · exact bad (by
        unfold f_TR_write
        rw [e0, jb_some, if_neg (show ¬ (1 : Nat) = 0 by decide), if_pos (show (1 : Nat) = 1 from rfl), t3, p_Trhas_out (Or.inl q), jb_some, if_pos rfl]
        rfl) (by
        unfold f_Mo_write
        rw [show f_Mo_has m_count 1 a2 = some 0 from p_Mohas_out (t := 1) (by decide) t4 (Or.inl q), jb_some, if_pos rfl])
    · exact bad (by
        unfold f_TR_write
        rw [e0, jb_some, if_neg (show ¬ (1 : Nat) = 0 by decide), if_pos (show (1 : Nat) = 1 from rfl), t3, p_Trhas_out (Or.inr q), jb_some, if_pos rfl]
        rfl) (by
        unfold f_Mo_write
        rw [show f_Mo_has m_count 1 a2 = some 0 from p_Mohas_out (t := 1) (by decide) t4 (Or.inr q), jb_some, if_pos rfl])
    · obtain ⟨r, L, X, lc, dr, dl, do', o, os, w1, w2, w3⟩ := o_write (srow := x_writer_shown_row) (slen := x_writer_shown_length) (sov := x_writer_shown_overrun) (drow := x_writer_draft_row) (dlen := x_writer_draft_length) (dov := x_writer_draft_overrun) (wrow := m_written) (wlen := m_writtenSize) (out := m_out) (osz := m_outSize) h9 h3 h4 h6 t3 (by omega) hk
      have cl : ∀ z, f_Wr_show x_second_kinds x_second_places x_second_values x_second_sizes x_second_partCounts x_second_wholes x_second_count x_known_spelling x_known_starts (nI T.1) x_writer_shown_row x_writer_shown_length x_writer_shown_overrun x_writer_draft_row x_writer_draft_length x_writer_draft_overrun (nI k) = some z → f_TR_write x_known_spelling x_known_starts x_known_count x_first_kinds x_first_places x_first_values x_first_sizes x_first_partCounts x_first_wholes x_first_count x_second_kinds x_second_places x_second_values x_second_sizes x_second_partCounts x_second_wholes x_second_count x_writer_shown_row x_writer_shown_length x_writer_shown_overrun x_writer_draft_row x_writer_draft_length x_writer_draft_overrun 1 (nI k) = some z := fun z hz => by
        have hh := p_Trhas (nt := nt) (k := k) (by omega) hk
        rw [← t3] at hh
        unfold f_TR_write
        rw [e0, jb_some, if_neg (show ¬ (1 : Nat) = 0 by decide), if_pos (show (1 : Nat) = 1 from rfl), hh, jb_some, if_neg n10, h5, hz, jb_some]
      rcases w3 with ⟨w4, w5, w6⟩ | ⟨sr, wr, so, w4, w5, w6, w7⟩
      · exact ⟨_, _, cl _ w5, w6, rfl, B, n, T, W, wn, a, gcn, h1, h2, h3, h4, h5, h6, h7, h8, h9, h10, h11, h12, h13, h14, h15, h16, by omega, by omega⟩
      · have wk : WKp (bo L) T L.length := WK_pos h3 (by rw [w2]; exact rd_wk h3 _ _ _ _ _ _ _ (Or.inr rfl) w1 wk_nil)
        exact ⟨_, _, cl _ w4, w5, rfl, B, n, T, bo L, L.length, a, gcn, h1, h2, h3, h4, h5, h6, h7, h8, h9, h10, w6, w7, h13, wk, h15, h16, by omega, by omega⟩
  · exact bad (by
      unfold f_TR_write
      have e0 : f_TR_treeOf a1 = some 0 := by unfold f_TR_treeOf; rw [if_neg q1, if_neg q2]
      rw [e0, jb_some, if_pos rfl]
      rfl) (by
      unfold f_Mo_write
      rw [p_Mohas_no q3, jb_some, if_pos rfl])
theorem R_read (h : REL c x_fed_row x_fed_length x_known_spelling x_known_starts x_known_newest x_known_older x_known_count x_first_kinds x_first_places x_first_values x_first_sizes x_first_partCounts x_first_wholes x_first_count x_second_kinds x_second_places x_second_values x_second_sizes x_second_partCounts x_second_wholes x_second_count x_parser_growth_count x_writer_shown_row x_writer_shown_length x_lastFault m_bytes m_size m_written m_writtenSize m_fault m_kind m_where m_value m_whole m_sizes m_count m_letters m_starts m_names) (hc : c + 1 ≤ 512) (a1 a2 : Int32) : ∃ o o', f_TR_read x_fed_row x_fed_length x_fed_overrun x_known_spelling x_known_starts x_known_newest x_known_older x_known_count x_first_kinds x_first_places x_first_values x_first_sizes x_first_partCounts x_first_wholes x_first_count x_second_kinds x_second_places x_second_values x_second_sizes x_second_partCounts x_second_wholes x_second_count x_parser_tokens_kinds x_parser_tokens_places x_parser_tokens_values x_parser_tokens_count x_parser_tokens_next x_parser_growth_kinds x_parser_growth_places x_parser_growth_values x_parser_growth_sizes x_parser_growth_partCounts x_parser_growth_numbers x_parser_growth_count x_parser_waiting x_parser_waitingCount x_parser_begunPlaces x_parser_begunFrom x_parser_begunCount x_parser_depth x_lastFault a1 a2 = some o ∧ f_Mo_read m_bytes m_size m_end m_token m_place m_length m_tokens m_at m_bad m_fault m_kindOf m_placeOf m_valueOf m_firstOf m_lastOf m_nextOf m_drafts m_pile m_kind m_where m_value m_whole m_sizes m_count m_letters m_starts m_names a1 a2 = some o' ∧ o.1 = o'.1 ∧ REL (c + 1) x_fed_row o.2.1 o.2.2.2.1 o.2.2.2.2.1 o.2.2.2.2.2.1 o.2.2.2.2.2.2.1 o.2.2.2.2.2.2.2.1 o.2.2.2.2.2.2.2.2.1 o.2.2.2.2.2.2.2.2.2.1 o.2.2.2.2.2.2.2.2.2.2.1 o.2.2.2.2.2.2.2.2.2.2.2.1 o.2.2.2.2.2.2.2.2.2.2.2.2.1 o.2.2.2.2.2.2.2.2.2.2.2.2.2.1 o.2.2.2.2.2.2.2.2.2.2.2.2.2.2.1 o.2.2.2.2.2.2.2.2.2.2.2.2.2.2.2.1 o.2.2.2.2.2.2.2.2.2.2.2.2.2.2.2.2.1 o.2.2.2.2.2.2.2.2.2.2.2.2.2.2.2.2.2.1 o.2.2.2.2.2.2.2.2.2.2.2.2.2.2.2.2.2.2.1 o.2.2.2.2.2.2.2.2.2.2.2.2.2.2.2.2.2.2.2.1 o.2.2.2.2.2.2.2.2.2.2.2.2.2.2.2.2.2.2.2.2.1 o.2.2.2.2.2.2.2.2.2.2.2.2.2.2.2.2.2.2.2.2.2.1 o.2.2.2.2.2.2.2.2.2.2.2.2.2.2.2.2.2.2.2.2.2.2.2.2.2.2.2.2.2.2.2.2.2.1 x_writer_shown_row x_writer_shown_length o.2.2.2.2.2.2.2.2.2.2.2.2.2.2.2.2.2.2.2.2.2.2.2.2.2.2.2.2.2.2.2.2.2.2.2.2.2.2.2.2 m_bytes o'.2.1 m_written m_writtenSize o'.2.2.2.2.2.2.2.2.2.1 o'.2.2.2.2.2.2.2.2.2.2.2.2.2.2.2.2.2.2.1 o'.2.2.2.2.2.2.2.2.2.2.2.2.2.2.2.2.2.2.2.1 o'.2.2.2.2.2.2.2.2.2.2.2.2.2.2.2.2.2.2.2.2.1 o'.2.2.2.2.2.2.2.2.2.2.2.2.2.2.2.2.2.2.2.2.2.1 o'.2.2.2.2.2.2.2.2.2.2.2.2.2.2.2.2.2.2.2.2.2.2.1 o'.2.2.2.2.2.2.2.2.2.2.2.2.2.2.2.2.2.2.2.2.2.2.2.1 o'.2.2.2.2.2.2.2.2.2.2.2.2.2.2.2.2.2.2.2.2.2.2.2.2.1 o'.2.2.2.2.2.2.2.2.2.2.2.2.2.2.2.2.2.2.2.2.2.2.2.2.2.1 o'.2.2.2.2.2.2.2.2.2.2.2.2.2.2.2.2.2.2.2.2.2.2.2.2.2.2 := by
  obtain ⟨B, n, T, W, wn, a, gcn, h1, h2, h3, h4, h5, h6, h7, h8, h9, h10, h11, h12, h13, h14, h15, h16, h17, h18⟩ := h
  have hn8 := h1.1
  have HB : wt T + n ≤ (a - 39) + 10240 := by omega
  have bad : ((¬ a1 = 0 ∧ ¬ a1 = 1) ∨ a2 < 0 ∨ ¬ a2 ≤ x_fed_length) → (a1 < 0 ∨ 1 < a1 ∨ a2 < 0 ∨ ¬ a2 ≤ m_size) → ∃ o o', f_TR_read x_fed_row x_fed_length x_fed_overrun x_known_spelling x_known_starts x_known_newest x_known_older x_known_count x_first_kinds x_first_places x_first_values x_first_sizes x_first_partCounts x_first_wholes x_first_count x_second_kinds x_second_places x_second_values x_second_sizes x_second_partCounts x_second_wholes x_second_count x_parser_tokens_kinds x_parser_tokens_places x_parser_tokens_values x_parser_tokens_count x_parser_tokens_next x_parser_growth_kinds x_parser_growth_places x_parser_growth_values x_parser_growth_sizes x_parser_growth_partCounts x_parser_growth_numbers x_parser_growth_count x_parser_waiting x_parser_waitingCount x_parser_begunPlaces x_parser_begunFrom x_parser_begunCount x_parser_depth x_lastFault a1 a2 = some o ∧ f_Mo_read m_bytes m_size m_end m_token m_place m_length m_tokens m_at m_bad m_fault m_kindOf m_placeOf m_valueOf m_firstOf m_lastOf m_nextOf m_drafts m_pile m_kind m_where m_value m_whole m_sizes m_count m_letters m_starts m_names a1 a2 = some o' ∧ o.1 = o'.1 ∧ REL (c + 1) x_fed_row o.2.1 o.2.2.2.1 o.2.2.2.2.1 o.2.2.2.2.2.1 o.2.2.2.2.2.2.1 o.2.2.2.2.2.2.2.1 o.2.2.2.2.2.2.2.2.1 o.2.2.2.2.2.2.2.2.2.1 o.2.2.2.2.2.2.2.2.2.2.1 o.2.2.2.2.2.2.2.2.2.2.2.1 o.2.2.2.2.2.2.2.2.2.2.2.2.1 o.2.2.2.2.2.2.2.2.2.2.2.2.2.1 o.2.2.2.2.2.2.2.2.2.2.2.2.2.2.1 o.2.2.2.2.2.2.2.2.2.2.2.2.2.2.2.1 o.2.2.2.2.2.2.2.2.2.2.2.2.2.2.2.2.1 o.2.2.2.2.2.2.2.2.2.2.2.2.2.2.2.2.2.1 o.2.2.2.2.2.2.2.2.2.2.2.2.2.2.2.2.2.2.1 o.2.2.2.2.2.2.2.2.2.2.2.2.2.2.2.2.2.2.2.1 o.2.2.2.2.2.2.2.2.2.2.2.2.2.2.2.2.2.2.2.2.1 o.2.2.2.2.2.2.2.2.2.2.2.2.2.2.2.2.2.2.2.2.2.1 o.2.2.2.2.2.2.2.2.2.2.2.2.2.2.2.2.2.2.2.2.2.2.2.2.2.2.2.2.2.2.2.2.2.1 x_writer_shown_row x_writer_shown_length o.2.2.2.2.2.2.2.2.2.2.2.2.2.2.2.2.2.2.2.2.2.2.2.2.2.2.2.2.2.2.2.2.2.2.2.2.2.2.2.2 m_bytes o'.2.1 m_written m_writtenSize o'.2.2.2.2.2.2.2.2.2.1 o'.2.2.2.2.2.2.2.2.2.2.2.2.2.2.2.2.2.2.1 o'.2.2.2.2.2.2.2.2.2.2.2.2.2.2.2.2.2.2.2.1 o'.2.2.2.2.2.2.2.2.2.2.2.2.2.2.2.2.2.2.2.2.1 o'.2.2.2.2.2.2.2.2.2.2.2.2.2.2.2.2.2.2.2.2.2.1 o'.2.2.2.2.2.2.2.2.2.2.2.2.2.2.2.2.2.2.2.2.2.2.1 o'.2.2.2.2.2.2.2.2.2.2.2.2.2.2.2.2.2.2.2.2.2.2.2.1 o'.2.2.2.2.2.2.2.2.2.2.2.2.2.2.2.2.2.2.2.2.2.2.2.2.1 o'.2.2.2.2.2.2.2.2.2.2.2.2.2.2.2.2.2.2.2.2.2.2.2.2.2.1 o'.2.2.2.2.2.2.2.2.2.2.2.2.2.2.2.2.2.2.2.2.2.2.2.2.2.2 := fun b1 b2 => ⟨_, _, c_readB b1, m_readB (A := (m_kindOf, m_placeOf, m_valueOf, m_firstOf, m_lastOf, m_nextOf)) b2, rfl, B, n, T, W, wn, a, gcn, h1, h2, h3, h4, h5, h6, h7, h8, h9, h10, h11, h12, h13, h14, h15, h16, by omega, by omega⟩
  rcases tree_no a1 with (e | e) | ⟨q1, q2⟩
  · subst e
    rcases pk_ix a2 (n := n + 1) (by omega) with q | q | ⟨e, he, rfl⟩
    · exact bad (Or.inr (Or.inl q)) (Or.inr (Or.inr (Or.inl q)))
    · have nq : ¬ a2 ≤ nI n := fun z => by
        have z2 := Int32.le_trans q z
        rw [nI_leI (by omega) (by omega)] at z2
        omega
      exact bad (Or.inr (Or.inr (by rw [h1.2.1]; exact nq))) (Or.inr (Or.inr (Or.inr (by rw [h2.2.1]; exact nq))))
    · obtain ⟨ft, nm, X, T1, k1, p1, v1, c1, nx1, gk1, gp1, gv1, gs1, gn1, wa1, wc1, bp1, bf1, bc1, dp1, to1, pl1, le1, tn1, at1, bd1, D1, A1, pile1, tk1, tw1, tv1, th1, ts1, tc1, mle1, mst1, d1, d2, d3, ⟨d4, m, F1, d5, d6, d7⟩, d8, d9, d10, d11, d12⟩ := rd_core (t := 0) (en := m_end) (to0 := m_token) (pl0 := m_place) (le0 := m_length) (tn0 := m_tokens) (at0 := m_at) (bd0 := m_bad) (ft0 := m_fault) (D0 := m_drafts) (A := (m_kindOf, m_placeOf, m_valueOf, m_firstOf, m_lastOf, m_nextOf)) (pile := m_pile) (tk := m_kind) (tw := m_where) (tv := m_value) (th := m_whole) (ts := m_sizes) (tc := m_count) (k0 := x_parser_tokens_kinds) (p0 := x_parser_tokens_places) (v0 := x_parser_tokens_values) (c0 := x_parser_tokens_count) (nx0 := x_parser_tokens_next) (gk := x_parser_growth_kinds) (gp := x_parser_growth_places) (gv := x_parser_growth_values) (gs := x_parser_growth_sizes) (gn := x_parser_growth_partCounts) (wa := x_parser_waiting) (wc := x_parser_waitingCount) (bp := x_parser_begunPlaces) (bf := x_parser_begunFrom) (bc := x_parser_begunCount) (dp := x_parser_depth) h1 h2 (show e ≤ n by omega) h3 h4 h6 (by decide) (fun m hm _ _ F hF => (rm_F (b := true) hm (show e ≤ n by omega) h16 h15 HB F T hF (fun z => by cases z) h3 (fun _ _ z => z) (Or.inl (Nat.le_add_right _ _))).1) h10.1
      obtain ⟨nu', ck', cp', cv', cs', cn', wo', cv2, csp2, cst2, nw2, ol2, l1, l2, l3, l4, l5⟩ := d12 x_parser_growth_numbers x_first_kinds x_first_places x_first_values x_first_sizes x_first_partCounts x_first_wholes x_first_count (tr_w0 h8)
      have act := rm_F (b := false) d5 (show e ≤ n by omega) h16 h15 HB F1 T (nk_w d6 (Nat.sub_le _ _)) (fun _ => nk_cut d5 d6) h3 (fun _ _ z => z) (Or.inl (Nat.le_add_right _ _))
      rw [← d7] at act
      have w1 : wt T1 ≤ wt T + SS B n a T1 := act.2.2.1.resolve_right (fun z => by cases z.1)
      have w2 := SS_le (B := B) h16 T1
      have ncm : T.1 ≤ T1.1 := by rw [d7]; exact nt_le F1 T
      rw [← h10.2] at d1
      rw [← h5] at l2
      have cr := c_read0 (ov := x_fed_overrun) (lf := x_lastFault) (dk := x_second_kinds) (dp := x_second_places) (dv := x_second_values) (ds := x_second_sizes) (dn := x_second_partCounts) (dw := x_second_wholes) (dc := x_second_count) h1.2.1 (show e ≤ n by omega) h1.1 (show fs X < 8001 by omega) d1 l1 l2
      rw [← h7] at d8
      refine ⟨_, _, cr, d8, ?_, B, 0, T1, W, wn, 0, fs X + 1, ⟨Nat.zero_le _, rfl, fun i hi => absurd hi (Nat.not_lt_zero _)⟩, ⟨Nat.zero_le _, rfl, fun i hi => absurd hi (Nat.not_lt_zero _)⟩, d4, l3, rfl, d9, rfl, l5, TRl_fr ncm h9 (fun z z1 z2 => by have g := d10 z (by omega); exact ⟨g.1, g.2.1, g.2.2.1, g.2.2.2.2, g.2.2.2.1⟩) (d11 1 (by decide)), ⟨d2, rfl⟩, h11, h12, rfl, WKp_mono (act.2.2.2 W) h14, fun p w z1 z2 => by omega, Nat.le_refl _, by omega, by omega⟩
      rw [l4, d3]
  · subst e
    rcases pk_ix a2 (n := n + 1) (by omega) with q | q | ⟨e, he, rfl⟩
    · exact bad (Or.inr (Or.inl q)) (Or.inr (Or.inr (Or.inl q)))
    · have nq : ¬ a2 ≤ nI n := fun z => by
        have z2 := Int32.le_trans q z
        rw [nI_leI (by omega) (by omega)] at z2
        omega
      exact bad (Or.inr (Or.inr (by rw [h1.2.1]; exact nq))) (Or.inr (Or.inr (Or.inr (by rw [h2.2.1]; exact nq))))
    · obtain ⟨ft, nm, X, T1, k1, p1, v1, c1, nx1, gk1, gp1, gv1, gs1, gn1, wa1, wc1, bp1, bf1, bc1, dp1, to1, pl1, le1, tn1, at1, bd1, D1, A1, pile1, tk1, tw1, tv1, th1, ts1, tc1, mle1, mst1, d1, d2, d3, ⟨d4, m, F1, d5, d6, d7⟩, d8, d9, d10, d11, d12⟩ := rd_core (t := 1) (en := m_end) (to0 := m_token) (pl0 := m_place) (le0 := m_length) (tn0 := m_tokens) (at0 := m_at) (bd0 := m_bad) (ft0 := m_fault) (D0 := m_drafts) (A := (m_kindOf, m_placeOf, m_valueOf, m_firstOf, m_lastOf, m_nextOf)) (pile := m_pile) (tk := m_kind) (tw := m_where) (tv := m_value) (th := m_whole) (ts := m_sizes) (tc := m_count) (k0 := x_parser_tokens_kinds) (p0 := x_parser_tokens_places) (v0 := x_parser_tokens_values) (c0 := x_parser_tokens_count) (nx0 := x_parser_tokens_next) (gk := x_parser_growth_kinds) (gp := x_parser_growth_places) (gv := x_parser_growth_values) (gs := x_parser_growth_sizes) (gn := x_parser_growth_partCounts) (wa := x_parser_waiting) (wc := x_parser_waitingCount) (bp := x_parser_begunPlaces) (bf := x_parser_begunFrom) (bc := x_parser_begunCount) (dp := x_parser_depth) h1 h2 (show e ≤ n by omega) h3 h4 h6 (by decide) (fun m hm _ _ F hF => (rm_F (b := true) hm (show e ≤ n by omega) h16 h15 HB F T hF (fun z => by cases z) h3 (fun _ _ z => z) (Or.inl (Nat.le_add_right _ _))).1) h10.1
      obtain ⟨nu', ck', cp', cv', cs', cn', wo', cv2, csp2, cst2, nw2, ol2, l1, l2, l3, l4, l5⟩ := d12 x_parser_growth_numbers x_second_kinds x_second_places x_second_values x_second_sizes x_second_partCounts x_second_wholes x_second_count (tr_w0 h9)
      have act := rm_F (b := false) d5 (show e ≤ n by omega) h16 h15 HB F1 T (nk_w d6 (Nat.sub_le _ _)) (fun _ => nk_cut d5 d6) h3 (fun _ _ z => z) (Or.inl (Nat.le_add_right _ _))
      rw [← d7] at act
      have w1 : wt T1 ≤ wt T + SS B n a T1 := act.2.2.1.resolve_right (fun z => by cases z.1)
      have w2 := SS_le (B := B) h16 T1
      have ncm : T.1 ≤ T1.1 := by rw [d7]; exact nt_le F1 T
      rw [← h10.2] at d1
      rw [← h5] at l2
      have cr := c_read1 (ov := x_fed_overrun) (lf := x_lastFault) (fk := x_first_kinds) (fp' := x_first_places) (fv := x_first_values) (fz := x_first_sizes) (fn' := x_first_partCounts) (fw := x_first_wholes) (fc := x_first_count) h1.2.1 (show e ≤ n by omega) h1.1 (show fs X < 8001 by omega) d1 l1 l2
      rw [← h7] at d8
      refine ⟨_, _, cr, d8, ?_, B, 0, T1, W, wn, 0, fs X + 1, ⟨Nat.zero_le _, rfl, fun i hi => absurd hi (Nat.not_lt_zero _)⟩, ⟨Nat.zero_le _, rfl, fun i hi => absurd hi (Nat.not_lt_zero _)⟩, d4, l3, rfl, d9, rfl, TRl_fr ncm h8 (fun z z1 z2 => by have g := d10 z (by omega); exact ⟨g.1, g.2.1, g.2.2.1, g.2.2.2.2, g.2.2.2.1⟩) (d11 0 (by decide)), l5, ⟨d2, rfl⟩, h11, h12, rfl, WKp_mono (act.2.2.2 W) h14, fun p w z1 z2 => by omega, Nat.le_refl _, by omega, by omega⟩
      rw [l4, d3]
  · exact bad (Or.inl q1) (by
      rcases q2 with z | z
      · exact Or.inl z
      · exact Or.inr (Or.inl z))
end RE
