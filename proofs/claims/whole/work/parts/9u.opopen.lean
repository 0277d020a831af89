section RFOP
variable {n : Nat → Nat} {c : Nat}
/-- the class's open, behind the rolling back -/
theorem rf_xopen {hp rcnt : Int32} {rbytes recorded : Nat → Int32} {up ncnt : Int32} {nbytes : Nat → Int32} {ht fc : Int32} {fb : Nat → Int32} {h' : Int32} {w : Nat → Int32} (hn : rf_bt n) (hw : rf_pg w n) (h1c : 1 ≤ c) (hc : c ≤ 24) (hup : up = 0) (hr : f_Disk_rollBack hp rcnt rbytes recorded ht fc fb = some (h', nI c, w))
    (rl rc : Int32) (rb rco rst : Nat → Int32) (cnt last leaf : Int32) (nb st sz tw tl : Nat → Int32) (ts : Int32) (arr tp lw hg : Nat → Int32) :
    (rf_P n c → ∃ (wn : Nat → Int32) (a1 a2 : Int32) (a3 a4 a5 : Nat → Int32) (a6 a7 a8 : Int32) (a9 a10 a11 a12 a13 : Nat → Int32) (a14 : Int32) (a15 a16 a17 a18 : Nat → Int32), f_RF_open hp rcnt rbytes recorded up ncnt nbytes ht fc fb rl rc rb rco rst cnt last leaf nb st sz tw tl ts arr tp lw hg = some (nI (rf_rs n c (rf_lv n c 23 (n 70))), 1, nI c, wn, h', nI c, w, a1, a2, a3, a4, a5, a6, a7, a8, a9, a10, a11, a12, a13, a14, a15, a16, a17, a18) ∧ rf_pg wn n) ∧
    (¬ rf_P n c → ∃ (a1 a2 : Int32) (a3 a4 a5 : Nat → Int32) (a6 a7 a8 : Int32) (a9 a10 a11 a12 a13 : Nat → Int32) (a14 : Int32) (a15 a16 a17 a18 : Nat → Int32), f_RF_open hp rcnt rbytes recorded up ncnt nbytes ht fc fb rl rc rb rco rst cnt last leaf nb st sz tw tl ts arr tp lw hg = some (-1, 0, ncnt, nbytes, h', nI c, w, a1, a2, a3, a4, a5, a6, a7, a8, a9, a10, a11, a12, a13, a14, a15, a16, a17, a18)) := by
  subst hup
  obtain ⟨y, ts', cnt', last', leaf', nb', st', sz', rl', rcnt', rb', rco', rst', arr', tp', lw', hg', q1, q2, q3⟩ := rf_holds (c := c) hn hw h1c hc ts cnt last leaf nb st sz rl rc rb rco rst arr tp lw hg
  obtain ⟨wn, q4, q5⟩ := rf_copyAll (c1 := nI c) (c2 := ncnt) (b2 := nbytes) hw
  refine ⟨fun P => ?_, fun P => ?_⟩
  · obtain ⟨D, t1, _, c1⟩ := rf_P_tree P
    obtain ⟨t23, _, np⟩ := rf_tr23 hc t1 c1
    obtain ⟨cnt2, last2, leaf2, b2, st2, sz2, w2, lv2, z1, z2, z3⟩ := rf_listLeaves (c := c) hn q5 h1c hc t23 np cnt' last' leaf' nb' st' sz' tw tl
    have hcr := rf_countRows (c := c) hn q5 hc (fun p hp => (rf_lv_mem t23 hp).1) z3 z2 cnt2 last2 leaf2 b2 st2 sz2 w2
    refine ⟨wn, rl', rcnt', rb', rco', rst', cnt2, last2, leaf2, b2, st2, sz2, w2, lv2, ts', arr', tp', lw', hg', ?_, q5⟩
    rw [f_RF_open, pu_br_t rfl, hr, pu_b3_s, q1, pu_b17_s, q2 P, pu_br_f (show ¬ (1 : Int32) = 0 by decide), q4, pu_b2_s, f_Tree_countRows, z1, pu_b9_s, hcr, pu_b9_s]
  · refine ⟨rl', rcnt', rb', rco', rst', cnt', last', leaf', nb', st', sz', tw, tl, ts', arr', tp', lw', hg', ?_⟩
    rw [f_RF_open, pu_br_t rfl, hr, pu_b3_s, q1, pu_b17_s, q3 P, pu_br_t rfl]
variable {WF : (Nat → Nat) → Prop}
theorem opp_open (hWF : ∀ n, WF n ↔ rf_wf n) : op_open (in_v WF) := by
  intro v_x_up v_x_armed v_x_draft_count v_x_draft_codes v_x_draft_numbers v_x_draft_blobs v_x_now_count v_x_now_bytes v_x_before_count v_x_before_bytes v_x_disk_headThere v_x_disk_headPages v_x_disk_headRecords v_x_disk_file_count v_x_disk_file_bytes v_x_disk_records_count v_x_disk_records_bytes v_x_disk_recorded v_x_disk_different v_x_row_length v_x_row_count v_x_row_bytes v_x_row_codes v_x_row_starts v_x_node_count v_x_node_last v_x_node_leaf v_x_node_bytes v_x_node_starts v_x_node_sizes v_x_tree_depth v_x_tree_slot v_x_tree_cellSize v_x_tree_path v_x_tree_slots v_x_tree_cell v_x_tree_waiting v_x_tree_leaves v_x_check_treeSize v_x_check_reached v_x_check_treePages v_x_check_lows v_x_check_highs v_m_onDisk v_m_head v_m_headPages v_m_records v_m_up v_m_armed v_m_columns v_m_length v_m_kind v_m_cells v_m_last v_m_made v_m_deep v_m_at v_m_bad v_m_now v_m_disk v_m_before v_m_recordPage v_m_recordBytes v_m_isBlob v_m_integer v_m_size v_m_blobs v_m_record v_m_cellLength v_m_row v_m_cell v_m_way v_m_turn v_m_used  hI
  obtain ⟨hdr, ⟨e1, e2, e3, e4⟩, c, d, h1, h2, h3, h4, h5, h6⟩ := hI
  subst e1; subst e3
  by_cases h0 : v_x_up = 0
  case neg =>
    refine ⟨-3, _, _, _, _, _, _, _, _, _, _, _, _, _, _, _, _, _, _, _, _, _, _, _, _, by rw [f_RF_open, pu_br_f h0], _, _, _, _, _, _, _, _, _, _, _, _, _, by rw [f_MD_open, pu_br_f h0], hdr, ⟨rfl, e2, rfl, e4⟩, c, d, h1, h2, h3, h4, h5, h6⟩
  -- both sides have the same file behind the rolling back
  have roll : ∃ (c' : Nat) (d' : Nat → Nat) (w mw : Nat → Int32), rf_bt d' ∧ 2 ≤ c' ∧ c' ≤ 24 ∧ rf_pg w d' ∧ rf_md mw d' ∧ f_Disk_rollBack v_x_disk_headPages v_x_disk_records_count v_x_disk_records_bytes v_x_disk_recorded v_x_disk_headThere v_x_disk_file_count v_x_disk_file_bytes = some (0, nI c', w) ∧ f_MD_open v_m_headPages v_m_records v_m_recordPage v_m_recordBytes v_m_onDisk v_m_head v_x_up v_m_length v_m_deep v_m_at v_m_bad v_m_now v_m_disk v_m_record v_m_way v_m_turn v_m_used = q_MD_open_87 v_m_headPages v_m_records v_m_recordPage v_m_recordBytes (nI c') 0 v_x_up v_m_length v_m_deep v_m_at v_m_bad v_m_now mw v_m_record v_m_way v_m_turn v_m_used := by
    by_cases hh : v_x_disk_headThere = 0
    · refine ⟨c, d, v_x_disk_file_bytes, v_m_disk, h1.1, h1.2.2.1, h1.2.2.2.1, h1.2.2.2.2.1, h1.2.2.2.2.2, ?_, ?_⟩
      · rw [f_Disk_rollBack, pu_br_t hh, hh, h1.2.1]
      · rw [f_MD_open, pu_br_t h0, pu_br_t (h3.trans hh), h3, hh, h2]
    · obtain ⟨hp, nr, pg, rb, j1, j2, j3, j4, j5, j6, j7, j8, j9, j10, j11, j12⟩ := h5 (h4.resolve_left hh)
      have c24 := h1.2.2.2.1
      obtain ⟨w, r1, r2⟩ := rf_rollBack (rb := rb) (fc := v_x_disk_file_count) h1.2.2.2.2.1 (show hp ≤ 24 by omega) (fun r hr => ⟨(j9 r hr).1, (j9 r hr).2.1⟩) j10 (fun r a hr ha => (j11 r a hr ha).2.2) j12 hh
      obtain ⟨mw, m1, m2⟩ := rf_mroll h1.2.2.2.2.2 (show hp ≤ 24 by omega) j8 j9 (fun r a hr ha => (j11 r a hr ha).2.1) (fun v_disk => q_MD_open_74 v_m_headPages v_m_records v_m_recordPage v_m_recordBytes v_m_onDisk v_m_head v_x_up v_m_length v_m_deep v_m_at v_m_bad v_m_now v_disk v_m_record v_m_way v_m_turn v_m_used) v_m_headPages v_m_onDisk v_m_head v_x_up v_m_length v_m_deep v_m_at v_m_bad v_m_now v_m_record v_m_way v_m_turn v_m_used
      refine ⟨hp, rf_rl d pg rb nr, w, mw, rf_rl_bt h1.1 (fun r a hr ha => (j11 r a hr ha).1) nr (Nat.le_refl _), j4, by omega, r2, m2, ?_, ?_⟩
      · rw [j1, j3]; exact r1
      · rw [← j7] at m1
        rw [f_MD_open, pu_br_t h0, pu_br_f (fun q => hh (h3.symm.trans q)), m1, q_MD_open_74, ← j2]
  obtain ⟨c', d', w, mw, r1, r2, r3, r4, r5, r6, r7⟩ := roll
  obtain ⟨x1, x2⟩ := rf_xopen (up := v_x_up) (ncnt := v_x_now_count) (nbytes := v_x_now_bytes) r1 r4 (by omega) r3 h0 r6 v_x_row_length v_x_row_count v_x_row_bytes v_x_row_codes v_x_row_starts v_x_node_count v_x_node_last v_x_node_leaf v_x_node_bytes v_x_node_starts v_x_node_sizes v_x_tree_waiting v_x_tree_leaves v_x_check_treeSize v_x_check_reached v_x_check_treePages v_x_check_lows v_x_check_highs
  obtain ⟨y1, y2⟩ := rf_mopen (c := c') (mn := v_m_now) r1 r5 r3 v_m_headPages v_m_records v_m_recordPage v_m_recordBytes 0 v_x_up v_m_length v_m_deep v_m_at v_m_bad v_m_record v_m_way v_m_turn v_m_used
  by_cases P : rf_P d' c'
  · obtain ⟨wn, a1, a2, a3, a4, a5, a6, a7, a8, a9, a10, a11, a12, a13, a14, a15, a16, a17, a18, b1, b2⟩ := x1 P
    obtain ⟨D, l', d2, a', b', mn', rec', way', turn', used', t1, t2, t3, t4⟩ := y1 P
    have e65 : d' 65 = c' := P.1.2.1
    have wf : WF d' := (hWF d').mpr (rf_P_wf P e65)
    refine ⟨nI (rf_rs d' c' (rf_lv d' c' 23 (d' 70))), 1, nI c', wn, 0, nI c', w, a1, a2, a3, a4, a5, a6, a7, a8, a9, a10, a11, a12, a13, a14, a15, a16, a17, a18, b1, nI c', 0, 1, l', d2, a', b', mn', mw, rec', way', turn', used', r7.trans t4, hdr, ⟨rfl, Or.inr rfl, rfl, e4⟩, c', d', ⟨r1, rfl, r2, r3, r4, r5⟩, rfl, rfl, Or.inl rfl, fun q => absurd q (by decide), fun _ => ⟨rfl, e65, wf, d', ⟨r1, by rw [e65], by omega, by omega, b2, t3⟩, by omega, wf⟩⟩
  · obtain ⟨a1, a2, a3, a4, a5, a6, a7, a8, a9, a10, a11, a12, a13, a14, a15, a16, a17, a18, b1⟩ := x2 P
    obtain ⟨l', d2, a', b', mn', rec', way', turn', used', t4⟩ := y2 P
    rw [h0] at t4 r7
    rw [h0]
    rw [h0] at b1
    refine ⟨-1, 0, v_x_now_count, v_x_now_bytes, 0, nI c', w, a1, a2, a3, a4, a5, a6, a7, a8, a9, a10, a11, a12, a13, a14, a15, a16, a17, a18, b1, nI c', 0, 0, l', d2, a', b', mn', mw, rec', way', turn', used', r7.trans t4, hdr, ⟨rfl, Or.inl rfl, rfl, e4⟩, c', d', ⟨r1, rfl, r2, r3, r4, r5⟩, rfl, rfl, Or.inl rfl, fun q => absurd q (by decide), fun q => absurd q (by decide)⟩
end RFOP
