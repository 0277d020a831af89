section RFOC
variable {WF : (Nat → Nat) → Prop}
theorem rf_rc_lt {n g : Nat → Nat} (hn : rf_bt n) (hg : ∀ k, g k < 256) (i j : Nat) : rf_rc n g i j < 256 := by
  unfold rf_rc
  split
  · exact hg _
  · exact hn _
theorem opp_columns (hWF : ∀ n, WF n → rf_wf n) : op_columns (in_v WF) := by
  intro v_x_up v_x_armed v_x_draft_count v_x_draft_codes v_x_draft_numbers v_x_draft_blobs v_x_now_count v_x_now_bytes v_x_before_count v_x_before_bytes v_x_disk_headThere v_x_disk_headPages v_x_disk_headRecords v_x_disk_file_count v_x_disk_file_bytes v_x_disk_records_count v_x_disk_records_bytes v_x_disk_recorded v_x_disk_different v_x_row_length v_x_row_count v_x_row_bytes v_x_row_codes v_x_row_starts v_x_node_count v_x_node_last v_x_node_leaf v_x_node_bytes v_x_node_starts v_x_node_sizes v_x_tree_depth v_x_tree_slot v_x_tree_cellSize v_x_tree_path v_x_tree_slots v_x_tree_cell v_x_tree_waiting v_x_tree_leaves v_x_check_treeSize v_x_check_reached v_x_check_treePages v_x_check_lows v_x_check_highs v_m_onDisk v_m_head v_m_headPages v_m_records v_m_up v_m_armed v_m_columns v_m_length v_m_kind v_m_cells v_m_last v_m_made v_m_deep v_m_at v_m_bad v_m_now v_m_disk v_m_before v_m_recordPage v_m_recordBytes v_m_isBlob v_m_integer v_m_size v_m_blobs v_m_record v_m_cellLength v_m_row v_m_cell v_m_way v_m_turn v_m_used a_1 hI
  obtain ⟨hdr, ⟨e1, e2, e3, e4⟩, c, d, h1, h2, h3, h4, h5, h6⟩ := hI
  subst e1; subst e3
  by_cases h0 : v_x_up = 0
  · refine ⟨-1, _, _, _, _, _, _, _, _, _, _, _, _, _, _, _, by rw [f_RF_columns, f_RF_load, pu_br_t h0, pu_b16_s, pu_br_t rfl], _, _, _, _, _, _, _, by rw [f_MD_columns, pu_br_t h0], hdr, ⟨rfl, e2, rfl, e4⟩, c, d, h1, h2, h3, h4, h5, h6⟩
  · have h7 := h6 (rf_up1 e2 h0)
    obtain ⟨i1, i2, i3, n, ⟨b1, b2, b3, b4, b5, b6⟩, i4, i5⟩ := h7
    have hw := rf_wf_nf (hWF n i5) b4
    obtain ⟨k, rl', rcnt', cnt', last', leaf', dep', slot', rb', rco', rst', b', st', sz', path', slots', q1, q2, q3, q4, q5⟩ := rf_xload b1 b5 (by omega) b4 a_1 hw.1 h0 v_x_row_length v_x_row_count v_x_node_count v_x_node_last v_x_node_leaf v_x_tree_depth v_x_tree_slot v_x_row_bytes v_x_row_codes v_x_row_starts v_x_node_bytes v_x_node_starts v_x_node_sizes v_x_tree_path v_x_tree_slots
    obtain ⟨a', bd', way', turn', p1, p2, p3, p4⟩ := rf_mfind b1 b6 (by omega) b4 a_1 hw.1 q1 q2 q3 v_m_length v_m_deep v_m_at v_m_bad v_m_record v_m_way v_m_turn
    by_cases hf : rf_fd (rf_gb n (n 65) (rf_way n (n 65) a_1 (n 70) k)) a_1 (rf_sl n (n 65) a_1 (rf_way n (n 65) a_1 (n 70) k))
    · obtain ⟨w, p5, p6⟩ := p3 hf
      obtain ⟨q6, q7, m, cd, z, q8, q9, q10⟩ := q5 hf
      rw [rf_dv_t hf] at q4
      have hrl := rf_rc_lt b1 (rf_gb_lt b1 (n 65) (rf_way n (n 65) a_1 (n 70) k)) (rf_sl n (n 65) a_1 (rf_way n (n 65) a_1 (n 70) k))
      have hm3 := q8.2.1
      have hl : ∃ a2 b2, q_MD_columns_19 v_x_up v_m_now (nI (rf_cL (rf_gb n (n 65) (rf_way n (n 65) a_1 (n 70) k)) (rf_sl n (n 65) a_1 (rf_way n (n 65) a_1 (n 70) k)))) (nI k) w way' turn' pu_fu a' bd' 0 = some (nI m, nI (rf_cL (rf_gb n (n 65) (rf_way n (n 65) a_1 (n 70) k)) (rf_sl n (n 65) a_1 (rf_way n (n 65) a_1 (n 70) k))), nI k, a2, b2, w, way', turn') := by
        generalize rf_cL (rf_gb n (n 65) (rf_way n (n 65) a_1 (n 70) k)) (rf_sl n (n 65) a_1 (rf_way n (n 65) a_1 (n 70) k)) = L at *
        refine rf_loop (fun f (st : Int32 × Int32) j => q_MD_columns_19 v_x_up v_m_now (nI L) (nI k) w way' turn' f st.1 st.2 (nI j)) (fun j st => True) (fun r => ∃ a2 b2, r = some (nI m, nI L, nI k, a2, b2, w, way', turn')) m ?_ ?_ m pu_fu (a', bd') 0 (by omega) (by rw [rf_fu]; omega) trivial
        · intro f st _
          obtain ⟨a3, r1, r2⟩ := rf_codeAt (rec := w) hrl q8 p6 (by omega) (i := m) (by omega) st.1 st.2
          refine ⟨a3, 0, ?_⟩
          show q_MD_columns_19 v_x_up v_m_now (nI L) (nI k) w way' turn' (f + 1) st.1 st.2 (nI m) = _
          rw [q_MD_columns_19, r1, pu_b3_s, if_neg (by omega), pu_br_t (by decide)]
        · intro f st j hj _
          obtain ⟨a3, r1, r2⟩ := rf_codeAt (rec := w) hrl q8 p6 (by omega) (i := j) (by omega) st.1 st.2
          have hvl := rf_vc_lt (q8.2.2.1 j hj).2.1
          refine Or.inl ⟨(a3, 0), trivial, ?_⟩
          show q_MD_columns_19 v_x_up v_m_now (nI L) (nI k) w way' turn' (f + 1) st.1 st.2 (nI j) = q_MD_columns_19 v_x_up v_m_now (nI L) (nI k) w way' turn' f a3 0 (nI (j + 1))
          rw [q_MD_columns_19, r1, pu_b3_s, if_pos hj, pu_br_f (nI_pos (by omega)), nI_1, pu_nm]
      obtain ⟨a2, b2', hl⟩ := hl
      refine ⟨nI m, rl', rcnt', rb', rco', rst', cnt', last', leaf', b', st', sz', dep', slot', path', slots', ?_, nI (rf_cL (rf_gb n (n 65) (rf_way n (n 65) a_1 (n 70) k)) (rf_sl n (n 65) a_1 (rf_way n (n 65) a_1 (n 70) k))), nI k, a2, b2', w, way', turn', ?_, hdr, ⟨rfl, e2, rfl, e4⟩, c, d, h1, h2, h3, h4, h5, h6⟩
      · rw [f_RF_columns, b2, q4, pu_b16_s, pu_br_f (by decide), q9]
      · rw [f_MD_columns, pu_br_f h0, p5, pu_b8_s, pu_br_f (by decide)]
        exact hl
    · have p5 := p4 hf
      rw [rf_dv_f hf] at q4
      refine ⟨-1, rl', rcnt', rb', rco', rst', cnt', last', leaf', b', st', sz', dep', slot', path', slots', ?_, v_m_length, nI k, a', bd', v_m_record, way', turn', ?_, hdr, ⟨rfl, e2, rfl, e4⟩, c, d, h1, h2, h3, h4, h5, h6⟩
      · rw [f_RF_columns, b2, q4, pu_b16_s, pu_br_t (show nI 0 = (0 : Int32) from rfl)]
      · rw [f_MD_columns, pu_br_f h0, p5, pu_b8_s, pu_br_t rfl]
theorem opp_code (hWF : ∀ n, WF n → rf_wf n) : op_code (in_v WF) := by
  intro v_x_up v_x_armed v_x_draft_count v_x_draft_codes v_x_draft_numbers v_x_draft_blobs v_x_now_count v_x_now_bytes v_x_before_count v_x_before_bytes v_x_disk_headThere v_x_disk_headPages v_x_disk_headRecords v_x_disk_file_count v_x_disk_file_bytes v_x_disk_records_count v_x_disk_records_bytes v_x_disk_recorded v_x_disk_different v_x_row_length v_x_row_count v_x_row_bytes v_x_row_codes v_x_row_starts v_x_node_count v_x_node_last v_x_node_leaf v_x_node_bytes v_x_node_starts v_x_node_sizes v_x_tree_depth v_x_tree_slot v_x_tree_cellSize v_x_tree_path v_x_tree_slots v_x_tree_cell v_x_tree_waiting v_x_tree_leaves v_x_check_treeSize v_x_check_reached v_x_check_treePages v_x_check_lows v_x_check_highs v_m_onDisk v_m_head v_m_headPages v_m_records v_m_up v_m_armed v_m_columns v_m_length v_m_kind v_m_cells v_m_last v_m_made v_m_deep v_m_at v_m_bad v_m_now v_m_disk v_m_before v_m_recordPage v_m_recordBytes v_m_isBlob v_m_integer v_m_size v_m_blobs v_m_record v_m_cellLength v_m_row v_m_cell v_m_way v_m_turn v_m_used a_1 a_2 hI
  obtain ⟨hdr, ⟨e1, e2, e3, e4⟩, c, d, h1, h2, h3, h4, h5, h6⟩ := hI
  subst e1; subst e3
  by_cases h0 : v_x_up = 0
  · refine ⟨-1, _, _, _, _, _, _, _, _, _, _, _, _, _, _, _, by rw [f_RF_code, f_RF_load, pu_br_t h0, pu_b16_s, pu_br_t rfl], _, _, _, _, _, _, _, by rw [f_MD_code, pu_br_t h0], hdr, ⟨rfl, e2, rfl, e4⟩, c, d, h1, h2, h3, h4, h5, h6⟩
  · have h7 := h6 (rf_up1 e2 h0)
    obtain ⟨i1, i2, i3, n, ⟨b1, b2, b3, b4, b5, b6⟩, i4, i5⟩ := h7
    have hw := rf_wf_nf (hWF n i5) b4
    obtain ⟨k, rl', rcnt', cnt', last', leaf', dep', slot', rb', rco', rst', b', st', sz', path', slots', q1, q2, q3, q4, q5⟩ := rf_xload b1 b5 (by omega) b4 a_1 hw.1 h0 v_x_row_length v_x_row_count v_x_node_count v_x_node_last v_x_node_leaf v_x_tree_depth v_x_tree_slot v_x_row_bytes v_x_row_codes v_x_row_starts v_x_node_bytes v_x_node_starts v_x_node_sizes v_x_tree_path v_x_tree_slots
    obtain ⟨a', bd', way', turn', p1, p2, p3, p4⟩ := rf_mfind b1 b6 (by omega) b4 a_1 hw.1 q1 q2 q3 v_m_length v_m_deep v_m_at v_m_bad v_m_record v_m_way v_m_turn
    by_cases hf : rf_fd (rf_gb n (n 65) (rf_way n (n 65) a_1 (n 70) k)) a_1 (rf_sl n (n 65) a_1 (rf_way n (n 65) a_1 (n 70) k))
    · obtain ⟨w, p5, p6⟩ := p3 hf
      obtain ⟨q6, q7, m, cd, z, q8, q9, q10⟩ := q5 hf
      rw [rf_dv_t hf] at q4
      have hrl := rf_rc_lt b1 (rf_gb_lt b1 (n 65) (rf_way n (n 65) a_1 (n 70) k)) (rf_sl n (n 65) a_1 (rf_way n (n 65) a_1 (n 70) k))
      have hm3 := q8.2.1
      by_cases hneg : a_2 < 0
      · refine ⟨-1, rl', rcnt', rb', rco', rst', cnt', last', leaf', b', st', sz', dep', slot', path', slots', ?_, nI (rf_cL (rf_gb n (n 65) (rf_way n (n 65) a_1 (n 70) k)) (rf_sl n (n 65) a_1 (rf_way n (n 65) a_1 (n 70) k))), nI k, a', bd', w, way', turn', ?_, hdr, ⟨rfl, e2, rfl, e4⟩, c, d, h1, h2, h3, h4, h5, h6⟩
        · rw [f_RF_code, b2, q4, pu_b16_s, pu_br_f (by decide), f_Rec_hasColumn, pu_br_t hneg, pu_b1_s, pu_br_t rfl]
        · rw [f_MD_code, pu_br_f h0, p5, pu_b8_s, pu_br_f (by decide), pu_br_t hneg]
      · obtain ⟨i, hi, rfl⟩ := rf_int hneg
        obtain ⟨a3, r1, r2⟩ := rf_codeAt (rec := w) hrl q8 p6 (by omega) (i := i) hi a' bd'
        refine ⟨if i < m then nI (cd i) else -1, rl', rcnt', rb', rco', rst', cnt', last', leaf', b', st', sz', dep', slot', path', slots', ?_, nI (rf_cL (rf_gb n (n 65) (rf_way n (n 65) a_1 (n 70) k)) (rf_sl n (n 65) a_1 (rf_way n (n 65) a_1 (n 70) k))), nI k, a3, 0, w, way', turn', ?_, hdr, ⟨rfl, e2, rfl, e4⟩, c, d, h1, h2, h3, h4, h5, h6⟩
        · rw [f_RF_code, b2, q4, pu_b16_s, pu_br_f (by decide), f_Rec_hasColumn, pu_br_f hneg, q9]
          by_cases e : i < m
          · rw [if_pos e, pu_br_f (nI_ge e (by omega)), pu_b1_s, pu_br_f (by decide), pu_ck_t (vp_in_nI (by omega) (by decide)), nI_clamp (by omega), (q10 i e).1]
          · rw [if_neg e, pu_br_t (nI_le (by omega) hi), pu_b1_s, pu_br_t rfl]
        · rw [f_MD_code, pu_br_f h0, p5, pu_b8_s, pu_br_f (by decide), pu_br_f hneg, r1, pu_b3_s]
    · have p5 := p4 hf
      rw [rf_dv_f hf] at q4
      refine ⟨-1, rl', rcnt', rb', rco', rst', cnt', last', leaf', b', st', sz', dep', slot', path', slots', ?_, v_m_length, nI k, a', bd', v_m_record, way', turn', ?_, hdr, ⟨rfl, e2, rfl, e4⟩, c, d, h1, h2, h3, h4, h5, h6⟩
      · rw [f_RF_code, b2, q4, pu_b16_s, pu_br_t (show nI 0 = (0 : Int32) from rfl)]
      · rw [f_MD_code, pu_br_f h0, p5, pu_b8_s, pu_br_t rfl]
theorem opp_value (hWF : ∀ n, WF n → rf_wf n) : op_value (in_v WF) := by
  intro v_x_up v_x_armed v_x_draft_count v_x_draft_codes v_x_draft_numbers v_x_draft_blobs v_x_now_count v_x_now_bytes v_x_before_count v_x_before_bytes v_x_disk_headThere v_x_disk_headPages v_x_disk_headRecords v_x_disk_file_count v_x_disk_file_bytes v_x_disk_records_count v_x_disk_records_bytes v_x_disk_recorded v_x_disk_different v_x_row_length v_x_row_count v_x_row_bytes v_x_row_codes v_x_row_starts v_x_node_count v_x_node_last v_x_node_leaf v_x_node_bytes v_x_node_starts v_x_node_sizes v_x_tree_depth v_x_tree_slot v_x_tree_cellSize v_x_tree_path v_x_tree_slots v_x_tree_cell v_x_tree_waiting v_x_tree_leaves v_x_check_treeSize v_x_check_reached v_x_check_treePages v_x_check_lows v_x_check_highs v_m_onDisk v_m_head v_m_headPages v_m_records v_m_up v_m_armed v_m_columns v_m_length v_m_kind v_m_cells v_m_last v_m_made v_m_deep v_m_at v_m_bad v_m_now v_m_disk v_m_before v_m_recordPage v_m_recordBytes v_m_isBlob v_m_integer v_m_size v_m_blobs v_m_record v_m_cellLength v_m_row v_m_cell v_m_way v_m_turn v_m_used a_1 a_2 a_3 hI
  obtain ⟨hdr, ⟨e1, e2, e3, e4⟩, c, d, h1, h2, h3, h4, h5, h6⟩ := hI
  subst e1; subst e3
  by_cases h0 : v_x_up = 0
  · refine ⟨0, _, _, _, _, _, _, _, _, _, _, _, _, _, _, _, by rw [f_RF_value, f_RF_load, pu_br_t h0, pu_b16_s, pu_br_t rfl], _, _, _, _, _, _, _, by rw [f_MD_value, f_MD_code, pu_br_t h0, pu_b8_s, pu_br_f (by decide)], hdr, ⟨rfl, e2, rfl, e4⟩, c, d, h1, h2, h3, h4, h5, h6⟩
  · have h7 := h6 (rf_up1 e2 h0)
    obtain ⟨i1, i2, i3, n, ⟨b1, b2, b3, b4, b5, b6⟩, i4, i5⟩ := h7
    have hw := rf_wf_nf (hWF n i5) b4
    obtain ⟨k, rl', rcnt', cnt', last', leaf', dep', slot', rb', rco', rst', b', st', sz', path', slots', q1, q2, q3, q4, q5⟩ := rf_xload b1 b5 (by omega) b4 a_1 hw.1 h0 v_x_row_length v_x_row_count v_x_node_count v_x_node_last v_x_node_leaf v_x_tree_depth v_x_tree_slot v_x_row_bytes v_x_row_codes v_x_row_starts v_x_node_bytes v_x_node_starts v_x_node_sizes v_x_tree_path v_x_tree_slots
    obtain ⟨a', bd', way', turn', p1, p2, p3, p4⟩ := rf_mfind b1 b6 (by omega) b4 a_1 hw.1 q1 q2 q3 v_m_length v_m_deep v_m_at v_m_bad v_m_record v_m_way v_m_turn
    by_cases hf : rf_fd (rf_gb n (n 65) (rf_way n (n 65) a_1 (n 70) k)) a_1 (rf_sl n (n 65) a_1 (rf_way n (n 65) a_1 (n 70) k))
    · obtain ⟨w, p5, p6⟩ := p3 hf
      obtain ⟨q6, q7, m, cd, z, q8, q9, q10⟩ := q5 hf
      rw [rf_dv_t hf] at q4
      have hrl := rf_rc_lt b1 (rf_gb_lt b1 (n 65) (rf_way n (n 65) a_1 (n 70) k)) (rf_sl n (n 65) a_1 (rf_way n (n 65) a_1 (n 70) k))
      have hm3 := q8.2.1
      by_cases hneg : a_2 < 0
      · refine ⟨0, rl', rcnt', rb', rco', rst', cnt', last', leaf', b', st', sz', dep', slot', path', slots', ?_, nI (rf_cL (rf_gb n (n 65) (rf_way n (n 65) a_1 (n 70) k)) (rf_sl n (n 65) a_1 (rf_way n (n 65) a_1 (n 70) k))), nI k, a', bd', w, way', turn', ?_, hdr, ⟨rfl, e2, rfl, e4⟩, c, d, h1, h2, h3, h4, h5, h6⟩
        · rw [f_RF_value, b2, q4, pu_b16_s, pu_br_f (by decide), f_Rec_hasColumn, pu_br_t hneg, pu_b1_s, pu_br_t rfl]
        · rw [f_MD_value, f_MD_code, pu_br_f h0, p5, pu_b8_s, pu_br_f (by decide), pu_br_t hneg, pu_b8_s, pu_br_f (by decide)]
      · obtain ⟨i, hi, rfl⟩ := rf_int hneg
        obtain ⟨a3, r1, r2⟩ := rf_codeAt (rec := w) hrl q8 p6 (by omega) (i := i) hi a' bd'
        have hmc : f_MD_code v_x_up v_m_now v_m_length v_m_deep v_m_at v_m_bad v_m_record v_m_way v_m_turn a_1 (nI i) = some (if i < m then nI (cd i) else -1, nI (rf_cL (rf_gb n (n 65) (rf_way n (n 65) a_1 (n 70) k)) (rf_sl n (n 65) a_1 (rf_way n (n 65) a_1 (n 70) k))), nI k, a3, 0, w, way', turn') := by
          rw [f_MD_code, pu_br_f h0, p5, pu_b8_s, pu_br_f (by decide), pu_br_f hneg, r1, pu_b3_s]
        by_cases e : i < m
        · obtain ⟨v1, v2, v3, v4, v5, v6⟩ := rf_wq_iff.mp q8
          have hvc := (v3 i e).2
          have hvl := rf_vc_lt hvc
          have hvf := (v4 i e).1
          rw [rf_su, ← Nat.add_assoc] at hvf
          have ha3 := r2 e
          have hi3 : vp_in (nI i) 3 := vp_in_nI (by omega) (by decide)
          rw [if_pos e] at hmc
          have hxv : ∀ q : Int64, pu_br (nI (cd i) < (12 : Int32)) (f_Rec_integer rb' rco' rst' (nI i)) (pu_b1 (f_Rec_blobByte rb' rco' rst' (nI i) a_3) (fun r19 => some r19.toInt64)) = some q → f_RF_value v_x_up v_x_now_count v_x_now_bytes v_x_row_length v_x_row_count v_x_row_bytes v_x_row_codes v_x_row_starts v_x_node_count v_x_node_last v_x_node_leaf v_x_node_bytes v_x_node_starts v_x_node_sizes v_x_tree_depth v_x_tree_slot v_x_tree_path v_x_tree_slots a_1 (nI i) a_3 = some (q, rl', rcnt', rb', rco', rst', cnt', last', leaf', b', st', sz', dep', slot', path', slots') := by
            intro q hq
            rw [f_RF_value, b2, q4, pu_b16_s, pu_br_f (by decide), f_Rec_hasColumn, pu_br_f hneg, q9, pu_br_f (nI_ge e (by omega)), pu_b1_s, pu_br_f (by decide), pu_ck_t hi3, nI_clamp (by omega), (q10 i e).1]
            by_cases e12 : nI (cd i) < (12 : Int32)
            · rw [pu_br_t e12] at hq ⊢
              rw [hq, pu_b1_s]
            · rw [pu_br_f e12] at hq ⊢
              cases hbb : f_Rec_blobByte rb' rco' rst' (nI i) a_3 with
              | none => rw [hbb] at hq; cases hq
              | some v =>
                rw [hbb, pu_b1_s] at hq
                have hq := Option.some.inj hq
                rw [pu_b1_s, hq]
          by_cases e12 : cd i < 12
          · have hint := rf_integer hrl q7 q6 (by omega) (q10 i e).1 (q10 i e).2 hvc hvf
            refine ⟨_, rl', rcnt', rb', rco', rst', cnt', last', leaf', b', st', sz', dep', slot', path', slots', hxv _ (by rw [pu_br_t (show nI (cd i) < (12 : Int32) from nI_lt (b := 12) e12 (by decide))]; exact hint), nI (rf_cL (rf_gb n (n 65) (rf_way n (n 65) a_1 (n 70) k)) (rf_sl n (n 65) a_1 (rf_way n (n 65) a_1 (n 70) k))), nI k, a3, 0, w, way', turn', ?_, hdr, ⟨rfl, e2, rfl, e4⟩, c, d, h1, h2, h3, h4, h5, h6⟩
            rw [f_MD_value, hmc, pu_b8_s, pu_br_t (nI_pos' (by omega)), pu_br_t (show nI (cd i) ≤ (11 : Int32) from nI_le (b := 11) (by omega) (by decide))]
            by_cases e7 : cd i ≤ 7
            · have hva := rf_valueAt (rec := w) (s := rf_rc n (rf_gb n (n 65) (rf_way n (n 65) a_1 (n 70) k)) (rf_sl n (n 65) a_1 (rf_way n (n 65) a_1 (n 70) k)) 0 + rf_su (fun j => rf_sz (cd j)) i) (k := rf_sz (cd i)) hrl p6 (by omega) hvf
              have hnz : rf_sz (cd i) ≠ 0 := by
                unfold rf_sz
                unfold rf_vc at hvc
                rw [if_neg (by omega), if_neg (by omega)]
                split <;> omega
              rw [pu_br_t (show nI (cd i) ≤ (7 : Int32) from nI_le (b := 7) e7 (by decide)), rf_bytesOf (by omega), pu_b1_s, ha3, hva, pu_b1_s, if_neg hnz, if_neg hnz]
            · have hz : rf_sz (cd i) = 0 := by unfold rf_sz; rw [if_neg (by omega), if_pos (by omega)]
              rw [pu_br_f (show ¬ nI (cd i) ≤ (7 : Int32) from nI_ge (a := 7) (by omega) (by omega)), if_pos hz]
              have h89 : cd i = 8 ∨ cd i = 9 := by unfold rf_vc at hvc; omega
              rcases h89 with h89 | h89
              · rw [h89, if_neg (by decide)]; rfl
              · rw [h89, if_pos rfl]; rfl
          · by_cases hx3 : a_3 < 0
            · refine ⟨0, rl', rcnt', rb', rco', rst', cnt', last', leaf', b', st', sz', dep', slot', path', slots', hxv _ (by rw [pu_br_f (show ¬ nI (cd i) < (12 : Int32) from nI_nlt (b := 12) (by omega) (by omega)), f_Rec_blobByte, pu_br_t hx3, pu_b1_s]; rfl), nI (rf_cL (rf_gb n (n 65) (rf_way n (n 65) a_1 (n 70) k)) (rf_sl n (n 65) a_1 (rf_way n (n 65) a_1 (n 70) k))), nI k, a3, 0, w, way', turn', ?_, hdr, ⟨rfl, e2, rfl, e4⟩, c, d, h1, h2, h3, h4, h5, h6⟩
              rw [f_MD_value, hmc, pu_b8_s, pu_br_t (nI_pos' (by omega)), pu_br_f (show ¬ nI (cd i) ≤ (11 : Int32) from nI_ge (a := 11) (by omega) (by omega)), pu_br_t hx3]
            · obtain ⟨t, ht, rfl⟩ := rf_int hx3
              by_cases et : rf_sz (cd i) ≤ t
              · refine ⟨0, rl', rcnt', rb', rco', rst', cnt', last', leaf', b', st', sz', dep', slot', path', slots', hxv _ (by rw [pu_br_f (show ¬ nI (cd i) < (12 : Int32) from nI_nlt (b := 12) (by omega) (by omega)), f_Rec_blobByte, pu_br_f hx3, pu_ck_t hi3, nI_clamp (by omega), (q10 i e).1, (rf_valueSize (by omega)).1 hvc, pu_b1_s, pu_br_t (nI_le et ht), pu_b1_s]; rfl), nI (rf_cL (rf_gb n (n 65) (rf_way n (n 65) a_1 (n 70) k)) (rf_sl n (n 65) a_1 (rf_way n (n 65) a_1 (n 70) k))), nI k, a3, 0, w, way', turn', ?_, hdr, ⟨rfl, e2, rfl, e4⟩, c, d, h1, h2, h3, h4, h5, h6⟩
                rw [f_MD_value, hmc, pu_b8_s, pu_br_t (nI_pos' (by omega)), pu_br_f (show ¬ nI (cd i) ≤ (11 : Int32) from nI_ge (a := 11) (by omega) (by omega)), pu_br_f hx3, rf_bytesOf (by omega), pu_b1_s, pu_br_t (nI_le et ht)]
              · refine ⟨(nI (rf_rc n (rf_gb n (n 65) (rf_way n (n 65) a_1 (n 70) k)) (rf_sl n (n 65) a_1 (rf_way n (n 65) a_1 (n 70) k)) (rf_rc n (rf_gb n (n 65) (rf_way n (n 65) a_1 (n 70) k)) (rf_sl n (n 65) a_1 (rf_way n (n 65) a_1 (n 70) k)) 0 + rf_su (fun j => rf_sz (cd j)) i + t))).toInt64, rl', rcnt', rb', rco', rst', cnt', last', leaf', b', st', sz', dep', slot', path', slots', hxv _ ?_, nI (rf_cL (rf_gb n (n 65) (rf_way n (n 65) a_1 (n 70) k)) (rf_sl n (n 65) a_1 (rf_way n (n 65) a_1 (n 70) k))), nI k, a3, 0, w, way', turn', ?_, hdr, ⟨rfl, e2, rfl, e4⟩, c, d, h1, h2, h3, h4, h5, h6⟩
                · rw [pu_br_f (show ¬ nI (cd i) < (12 : Int32) from nI_nlt (b := 12) (by omega) (by omega)), f_Rec_blobByte, pu_br_f hx3, pu_ck_t hi3, nI_clamp (n := i) (by omega), (q10 i e).1, (rf_valueSize (by omega)).1 hvc, pu_b1_s, pu_br_f (nI_ge (by omega) (by omega)), pu_ck_t hi3, (q10 i e).2, nI_add]
                  rw [pu_br_t (show nI (rf_rc n (rf_gb n (n 65) (rf_way n (n 65) a_1 (n 70) k)) (rf_sl n (n 65) a_1 (rf_way n (n 65) a_1 (n 70) k)) 0 + rf_su (fun j => rf_sz (cd j)) i + t) < (307 : Int32) from nI_lt (b := 307) (by omega) (by decide)), pu_ck_t hi3, pu_ck_t (vp_in_nI (by omega) (by decide)), nI_clamp (by omega), q7 _ (by omega), rf_sx_and (hrl _), pu_b1_s]
                · rw [f_MD_value, hmc, pu_b8_s, pu_br_t (nI_pos' (by omega)), pu_br_f (show ¬ nI (cd i) ≤ (11 : Int32) from nI_ge (a := 11) (by omega) (by omega)), pu_br_f hx3, rf_bytesOf (by omega), pu_b1_s, pu_br_f (nI_ge (by omega) (by omega)), ha3, nI_add, pu_ck_t (vp_in_nI (by omega) (by decide)), nI_clamp (by omega), p6 _ (by omega)]
        · rw [if_neg e] at hmc
          refine ⟨0, rl', rcnt', rb', rco', rst', cnt', last', leaf', b', st', sz', dep', slot', path', slots', ?_, nI (rf_cL (rf_gb n (n 65) (rf_way n (n 65) a_1 (n 70) k)) (rf_sl n (n 65) a_1 (rf_way n (n 65) a_1 (n 70) k))), nI k, a3, 0, w, way', turn', ?_, hdr, ⟨rfl, e2, rfl, e4⟩, c, d, h1, h2, h3, h4, h5, h6⟩
          · rw [f_RF_value, b2, q4, pu_b16_s, pu_br_f (by decide), f_Rec_hasColumn, pu_br_f hneg, q9, pu_br_t (nI_le (by omega) hi), pu_b1_s, pu_br_t rfl]
          · rw [f_MD_value, hmc, pu_b8_s, pu_br_f (by decide)]
    · have p5 := p4 hf
      rw [rf_dv_f hf] at q4
      refine ⟨0, rl', rcnt', rb', rco', rst', cnt', last', leaf', b', st', sz', dep', slot', path', slots', ?_, v_m_length, nI k, a', bd', v_m_record, way', turn', ?_, hdr, ⟨rfl, e2, rfl, e4⟩, c, d, h1, h2, h3, h4, h5, h6⟩
      · rw [f_RF_value, b2, q4, pu_b16_s, pu_br_t (show nI 0 = (0 : Int32) from rfl)]
      · rw [f_MD_value, f_MD_code, pu_br_f h0, p5, pu_b8_s, pu_br_t rfl, pu_b8_s, pu_br_f (by decide)]
end RFOC
