section RFOR
variable {WF : (Nat → Nat) → Prop}
theorem opp_remove (hWF : ∀ n, WF n ↔ rf_wf n) : op_remove (in_v WF) := by
  intro v_x_up v_x_armed v_x_draft_count v_x_draft_codes v_x_draft_numbers v_x_draft_blobs v_x_now_count v_x_now_bytes v_x_before_count v_x_before_bytes v_x_disk_headThere v_x_disk_headPages v_x_disk_headRecords v_x_disk_file_count v_x_disk_file_bytes v_x_disk_records_count v_x_disk_records_bytes v_x_disk_recorded v_x_disk_different v_x_row_length v_x_row_count v_x_row_bytes v_x_row_codes v_x_row_starts v_x_node_count v_x_node_last v_x_node_leaf v_x_node_bytes v_x_node_starts v_x_node_sizes v_x_tree_depth v_x_tree_slot v_x_tree_cellSize v_x_tree_path v_x_tree_slots v_x_tree_cell v_x_tree_waiting v_x_tree_leaves v_x_check_treeSize v_x_check_reached v_x_check_treePages v_x_check_lows v_x_check_highs v_m_onDisk v_m_head v_m_headPages v_m_records v_m_up v_m_armed v_m_columns v_m_length v_m_kind v_m_cells v_m_last v_m_made v_m_deep v_m_at v_m_bad v_m_now v_m_disk v_m_before v_m_recordPage v_m_recordBytes v_m_isBlob v_m_integer v_m_size v_m_blobs v_m_record v_m_cellLength v_m_row v_m_cell v_m_way v_m_turn v_m_used a_1 hI
  obtain ⟨hdr, ⟨e1, e2, e3, e4⟩, c, d, h1, h2, h3, h4, h5, h6⟩ := hI
  subst e1; subst e3
  by_cases h0 : v_x_up = 0
  · refine ⟨-3, _, _, _, _, _, _, _, _, _, _, _, by rw [f_RF_remove, pu_br_t h0], _, _, _, _, _, _, _, _, _, _, _, _, _, by rw [f_MD_remove, pu_br_t h0], hdr, ⟨rfl, e2, rfl, e4⟩, c, d, h1, h2, h3, h4, h5, h6⟩
  · have h7 := h6 (rf_up1 e2 h0)
    obtain ⟨i1, i2, i3, n, ⟨b1, b2, b3, b4, b5, b6⟩, i4, i5⟩ := h7
    have hw := rf_wf_nf ((hWF n).mp i5) b4
    obtain ⟨k, cnt', last', leaf', b', st', sz', path', slots', q1, q2, q3, q4, q5, q6, q7, q8⟩ := rf_find b1 b5 (by omega) b4 a_1 (D := 23) (by omega) (rf_tr_gd hw.1) v_x_tree_depth v_x_tree_slot v_x_node_count v_x_node_last v_x_node_leaf v_x_node_bytes v_x_node_starts v_x_node_sizes v_x_tree_path v_x_tree_slots
    obtain ⟨a', bd', way', turn', p1, p2, p3, p4⟩ := rf_mfind b1 b6 (by omega) b4 a_1 hw.1 q1 q2 q3 v_m_length v_m_deep v_m_at v_m_bad v_m_record v_m_way v_m_turn
    by_cases hf : rf_fd (rf_gb n (n 65) (rf_way n (n 65) a_1 (n 70) k)) a_1 (rf_sl n (n 65) a_1 (rf_way n (n 65) a_1 (n 70) k))
    · obtain ⟨w, p5, p6⟩ := p3 hf
      rw [rf_dv_t hf] at q5
      have H : rf_hy n (n 65) a_1 (n 70) k := ⟨b1, b3, b4, hw.1, q1, q2, q3, hw.2.2.1, hw.2.2.2⟩
      obtain ⟨nw, cnt2, last2, leaf2, nb2, st2, sz2, t1, t2⟩ := rf_takeOut H b5 hf.2.1 q6 q7 q8
      obtain ⟨k', a1, bb1, way2, turn2, r1, r2, r3, r4, r5, r6, r7⟩ := rf_goto b1 b6 (by omega) b4 a_1 (D := 23) (by omega) (rf_tr_gd hw.1) (nI k) a' bd' way' turn'
      have hkk : k' = k := rf_way_end r2 r3 q2 q3
      subst hkk
      obtain ⟨z1, z2, z3⟩ := rf_hy_pg H (Nat.le_refl k')
      obtain ⟨a3, rec3, f1, f2⟩ := rf_fetchRecord b1 b6 (p := rf_way n (n 65) a_1 (n 70) k') (c := n 65) (by omega) z2 b4 z3 hf.2.1 (rf_cl_c0 (rf_hy_cl H hf.2.1)).1 (nI (rf_cL (rf_gb n (n 65) (rf_way n (n 65) a_1 (n 70) k')) (rf_sl n (n 65) a_1 (rf_way n (n 65) a_1 (n 70) k')))) a1 bb1 w
      obtain ⟨mw, kind2, cells2, mlast2, cl2, row2, u1, u2⟩ := rf_mremove H b6 hf.2.1 v_x_up (nI (rf_cL (rf_gb n (n 65) (rf_way n (n 65) a_1 (n 70) k')) (rf_sl n (n 65) a_1 (rf_way n (n 65) a_1 (n 70) k')))) v_m_kind v_m_cells v_m_last a3 0 (rec := rec3) (cl := v_m_cellLength) (row := v_m_row) r6 r7
      obtain ⟨w1, w2, w3⟩ := rf_rm_wf H hf.2.1
      refine ⟨1, nw, cnt2, last2, leaf2, nb2, st2, sz2, nI k', nI (rf_sl n (n 65) a_1 (rf_way n (n 65) a_1 (n 70) k')), path', slots', ?_, nI (rf_cL (rf_gb n (n 65) (rf_way n (n 65) a_1 (n 70) k')) (rf_sl n (n 65) a_1 (rf_way n (n 65) a_1 (n 70) k'))), kind2, cells2, mlast2, nI k', a3, 0, mw, rec3, cl2, row2, way2, turn2, ?_, hdr, ⟨rfl, e2, rfl, e4⟩, c, d, h1, h2, h3, h4, h5, fun hu => ⟨i1, i2, i3, rf_rm n (n 65) a_1 (n 70) k', ⟨w1, by rw [w2]; exact b2, by omega, by omega, t2, u2⟩, by omega, (hWF _).mpr w3⟩⟩
      · rw [f_RF_remove, pu_br_f h0, b2, q5, pu_b11_s, pu_br_f (by decide), t1, pu_b7_s]
      · rw [f_MD_remove, pu_br_f h0, p5, pu_b8_s, pu_br_f (by decide), r5, pu_b6_s, pu_ck_t (vp_in_nI (by omega) (by decide)), nI_clamp (by omega), r6 k' (Nat.le_refl _), pu_nm, f1, pu_b5_s]
        exact u1
    · have p5 := p4 hf
      rw [rf_dv_f hf] at q5
      refine ⟨0, v_x_now_bytes, cnt', last', leaf', b', st', sz', nI k, nI (rf_sl n (n 65) a_1 (rf_way n (n 65) a_1 (n 70) k)), path', slots', ?_, v_m_length, v_m_kind, v_m_cells, v_m_last, nI k, a', bd', v_m_now, v_m_record, v_m_cellLength, v_m_row, way', turn', ?_, hdr, ⟨rfl, e2, rfl, e4⟩, c, d, h1, h2, h3, h4, h5, h6⟩
      · rw [f_RF_remove, pu_br_f h0, b2, q5, pu_b11_s, pu_br_t (show nI 0 = (0 : Int32) from rfl)]
      · rw [f_MD_remove, pu_br_f h0, p5, pu_b8_s, pu_br_t rfl]
end RFOR
