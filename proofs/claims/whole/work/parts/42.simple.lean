section RFS
variable {WF : (Nat → Nat) → Prop}
theorem rf_up1 {x : Int32} (h : x = 0 ∨ x = 1) (h0 : ¬ x = 0) : x = 1 := h.resolve_left h0
theorem opp_clear  : op_clear (in_v WF) := by
  intro v_x_up v_x_armed v_x_draft_count v_x_draft_codes v_x_draft_numbers v_x_draft_blobs v_x_now_count v_x_now_bytes v_x_before_count v_x_before_bytes v_x_disk_headThere v_x_disk_headPages v_x_disk_headRecords v_x_disk_file_count v_x_disk_file_bytes v_x_disk_records_count v_x_disk_records_bytes v_x_disk_recorded v_x_disk_different v_x_row_length v_x_row_count v_x_row_bytes v_x_row_codes v_x_row_starts v_x_node_count v_x_node_last v_x_node_leaf v_x_node_bytes v_x_node_starts v_x_node_sizes v_x_tree_depth v_x_tree_slot v_x_tree_cellSize v_x_tree_path v_x_tree_slots v_x_tree_cell v_x_tree_waiting v_x_tree_leaves v_x_check_treeSize v_x_check_reached v_x_check_treePages v_x_check_lows v_x_check_highs v_m_onDisk v_m_head v_m_headPages v_m_records v_m_up v_m_armed v_m_columns v_m_length v_m_kind v_m_cells v_m_last v_m_made v_m_deep v_m_at v_m_bad v_m_now v_m_disk v_m_before v_m_recordPage v_m_recordBytes v_m_isBlob v_m_integer v_m_size v_m_blobs v_m_record v_m_cellLength v_m_row v_m_cell v_m_way v_m_turn v_m_used  hI
  obtain ⟨hdr, hua, hdk⟩ := hI
  refine ⟨0, rfl, 0, rfl, ⟨0, by omega, rfl, rfl, fun j hj => by omega⟩, hua, hdk⟩
theorem opp_crash  : op_crash (in_v WF) := by
  intro v_x_up v_x_armed v_x_draft_count v_x_draft_codes v_x_draft_numbers v_x_draft_blobs v_x_now_count v_x_now_bytes v_x_before_count v_x_before_bytes v_x_disk_headThere v_x_disk_headPages v_x_disk_headRecords v_x_disk_file_count v_x_disk_file_bytes v_x_disk_records_count v_x_disk_records_bytes v_x_disk_recorded v_x_disk_different v_x_row_length v_x_row_count v_x_row_bytes v_x_row_codes v_x_row_starts v_x_node_count v_x_node_last v_x_node_leaf v_x_node_bytes v_x_node_starts v_x_node_sizes v_x_tree_depth v_x_tree_slot v_x_tree_cellSize v_x_tree_path v_x_tree_slots v_x_tree_cell v_x_tree_waiting v_x_tree_leaves v_x_check_treeSize v_x_check_reached v_x_check_treePages v_x_check_lows v_x_check_highs v_m_onDisk v_m_head v_m_headPages v_m_records v_m_up v_m_armed v_m_columns v_m_length v_m_kind v_m_cells v_m_last v_m_made v_m_deep v_m_at v_m_bad v_m_now v_m_disk v_m_before v_m_recordPage v_m_recordBytes v_m_isBlob v_m_integer v_m_size v_m_blobs v_m_record v_m_cellLength v_m_row v_m_cell v_m_way v_m_turn v_m_used  hI
  obtain ⟨hdr, hua, hdk⟩ := hI
  obtain ⟨e1, e2, e3, e4⟩ := hua
  subst e1; subst e3
  by_cases h0 : v_x_up = 0
  · refine ⟨0, v_x_up, v_x_armed, ?_, v_x_up, v_x_armed, ?_, hdr, ⟨rfl, e2, rfl, e4⟩, hdk⟩
    · rw [f_RF_crash, pu_br_t h0]
    · rw [f_MD_crash, pu_br_t h0]
  · refine ⟨1, 0, -1, ?_, 0, -1, ?_, hdr, ⟨rfl, Or.inl rfl, rfl, 0, by omega, by decide⟩, ?_⟩
    · rw [f_RF_crash, pu_br_f h0]; rfl
    · rw [f_MD_crash, pu_br_f h0]
    · obtain ⟨c, d, h1, h2, h3, h4, h5, h6⟩ := hdk
      exact ⟨c, d, h1, h2, h3, h4, h5, fun h => absurd h (by decide)⟩
theorem opp_arm  : op_arm (in_v WF) := by
  intro v_x_up v_x_armed v_x_draft_count v_x_draft_codes v_x_draft_numbers v_x_draft_blobs v_x_now_count v_x_now_bytes v_x_before_count v_x_before_bytes v_x_disk_headThere v_x_disk_headPages v_x_disk_headRecords v_x_disk_file_count v_x_disk_file_bytes v_x_disk_records_count v_x_disk_records_bytes v_x_disk_recorded v_x_disk_different v_x_row_length v_x_row_count v_x_row_bytes v_x_row_codes v_x_row_starts v_x_node_count v_x_node_last v_x_node_leaf v_x_node_bytes v_x_node_starts v_x_node_sizes v_x_tree_depth v_x_tree_slot v_x_tree_cellSize v_x_tree_path v_x_tree_slots v_x_tree_cell v_x_tree_waiting v_x_tree_leaves v_x_check_treeSize v_x_check_reached v_x_check_treePages v_x_check_lows v_x_check_highs v_m_onDisk v_m_head v_m_headPages v_m_records v_m_up v_m_armed v_m_columns v_m_length v_m_kind v_m_cells v_m_last v_m_made v_m_deep v_m_at v_m_bad v_m_now v_m_disk v_m_before v_m_recordPage v_m_recordBytes v_m_isBlob v_m_integer v_m_size v_m_blobs v_m_record v_m_cellLength v_m_row v_m_cell v_m_way v_m_turn v_m_used a_1 hI
  obtain ⟨hdr, hua, hdk⟩ := hI
  obtain ⟨e1, e2, e3, e4⟩ := hua
  subst e1; subst e3
  have hE : f_MD_arm v_x_up v_x_armed a_1 = f_RF_arm v_x_up v_x_armed a_1 := rfl
  rw [hE]
  by_cases h0 : v_x_up = 0
  · exact ⟨0, v_x_armed, by rw [f_RF_arm, pu_br_t h0], v_x_armed, by rw [f_RF_arm, pu_br_t h0], hdr, ⟨rfl, e2, rfl, e4⟩, hdk⟩
  by_cases h1 : a_1 < 0
  · exact ⟨0, v_x_armed, by rw [f_RF_arm, pu_br_f h0, pu_br_t h1], v_x_armed, by rw [f_RF_arm, pu_br_f h0, pu_br_t h1], hdr, ⟨rfl, e2, rfl, e4⟩, hdk⟩
  by_cases h2 : a_1 ≤ 60
  · refine ⟨1, a_1, by rw [f_RF_arm, pu_br_f h0, pu_br_f h1, pu_br_t h2], a_1, by rw [f_RF_arm, pu_br_f h0, pu_br_f h1, pu_br_t h2], hdr, ⟨rfl, e2, rfl, ?_⟩, hdk⟩
    obtain ⟨j, hj, e⟩ := nI_of2 (M := 60) (n := 60) (by decide) h1 h2
    exact ⟨j + 1, by omega, by rw [e, nI_1]⟩
  · exact ⟨0, v_x_armed, by rw [f_RF_arm, pu_br_f h0, pu_br_f h1, pu_br_f h2], v_x_armed, by rw [f_RF_arm, pu_br_f h0, pu_br_f h1, pu_br_f h2], hdr, ⟨rfl, e2, rfl, e4⟩, hdk⟩
theorem opp_journal  : op_journal (in_v WF) := by
  intro v_x_up v_x_armed v_x_draft_count v_x_draft_codes v_x_draft_numbers v_x_draft_blobs v_x_now_count v_x_now_bytes v_x_before_count v_x_before_bytes v_x_disk_headThere v_x_disk_headPages v_x_disk_headRecords v_x_disk_file_count v_x_disk_file_bytes v_x_disk_records_count v_x_disk_records_bytes v_x_disk_recorded v_x_disk_different v_x_row_length v_x_row_count v_x_row_bytes v_x_row_codes v_x_row_starts v_x_node_count v_x_node_last v_x_node_leaf v_x_node_bytes v_x_node_starts v_x_node_sizes v_x_tree_depth v_x_tree_slot v_x_tree_cellSize v_x_tree_path v_x_tree_slots v_x_tree_cell v_x_tree_waiting v_x_tree_leaves v_x_check_treeSize v_x_check_reached v_x_check_treePages v_x_check_lows v_x_check_highs v_m_onDisk v_m_head v_m_headPages v_m_records v_m_up v_m_armed v_m_columns v_m_length v_m_kind v_m_cells v_m_last v_m_made v_m_deep v_m_at v_m_bad v_m_now v_m_disk v_m_before v_m_recordPage v_m_recordBytes v_m_isBlob v_m_integer v_m_size v_m_blobs v_m_record v_m_cellLength v_m_row v_m_cell v_m_way v_m_turn v_m_used a_1 hI
  obtain ⟨hdr, hua, c, d, h1, h2, h3, h4, h5, h6⟩ := hI
  have hin := (⟨hdr, hua, c, d, h1, h2, h3, h4, h5, h6⟩ : in_v WF v_x_up v_x_armed v_x_draft_count v_x_draft_codes v_x_draft_numbers v_x_draft_blobs v_x_now_count v_x_now_bytes v_x_before_count v_x_before_bytes v_x_disk_headThere v_x_disk_headPages v_x_disk_headRecords v_x_disk_file_count v_x_disk_file_bytes v_x_disk_records_count v_x_disk_records_bytes v_x_disk_recorded v_x_disk_different v_x_row_length v_x_row_count v_x_row_bytes v_x_row_codes v_x_row_starts v_x_node_count v_x_node_last v_x_node_leaf v_x_node_bytes v_x_node_starts v_x_node_sizes v_x_tree_depth v_x_tree_slot v_x_tree_cellSize v_x_tree_path v_x_tree_slots v_x_tree_cell v_x_tree_waiting v_x_tree_leaves v_x_check_treeSize v_x_check_reached v_x_check_treePages v_x_check_lows v_x_check_highs v_m_onDisk v_m_head v_m_headPages v_m_records v_m_up v_m_armed v_m_columns v_m_length v_m_kind v_m_cells v_m_last v_m_made v_m_deep v_m_at v_m_bad v_m_now v_m_disk v_m_before v_m_recordPage v_m_recordBytes v_m_isBlob v_m_integer v_m_size v_m_blobs v_m_record v_m_cellLength v_m_row v_m_cell v_m_way v_m_turn v_m_used)
  have hcnt : v_x_disk_file_count = v_m_onDisk := by rw [h2]; exact h1.2.1
  have h3 := h3.symm
  subst h3
  by_cases k0 : a_1 = 0
  · by_cases g : v_x_disk_headThere = 0
    · exact ⟨0, by rw [f_RF_journal, pu_br_t k0, pu_br_t g], by rw [f_MD_journal, pu_br_t k0, pu_br_t g], hin⟩
    · exact ⟨1, by rw [f_RF_journal, pu_br_t k0, pu_br_f g], by rw [f_MD_journal, pu_br_t k0, pu_br_f g], hin⟩
  by_cases k1 : a_1 = 1
  · by_cases g : v_x_disk_headThere = 0
    · exact ⟨0, by rw [f_RF_journal, pu_br_f k0, pu_br_t k1, pu_br_t g], by rw [f_MD_journal, pu_br_f k0, pu_br_t k1, pu_br_t g], hin⟩
    · obtain ⟨hp, nr, pg, rb, j1, j2, j3, j4⟩ := h5 (h4.resolve_left g)
      exact ⟨v_x_disk_headPages, by rw [f_RF_journal, pu_br_f k0, pu_br_t k1, pu_br_f g], by rw [f_MD_journal, pu_br_f k0, pu_br_t k1, pu_br_f g, j1, j2], hin⟩
  by_cases k2 : a_1 = 2
  · by_cases g : v_x_disk_headThere = 0
    · exact ⟨0, by rw [f_RF_journal, pu_br_f k0, pu_br_f k1, pu_br_t k2, pu_br_t g], by rw [f_MD_journal, pu_br_f k0, pu_br_f k1, pu_br_t k2, pu_br_t g], hin⟩
    · obtain ⟨hp, nr, pg, rb, j1, j2, j3, j4, j5, j6, j7, j8⟩ := h5 (h4.resolve_left g)
      exact ⟨v_x_disk_headRecords, by rw [f_RF_journal, pu_br_f k0, pu_br_f k1, pu_br_t k2, pu_br_f g], by rw [f_MD_journal, pu_br_f k0, pu_br_f k1, pu_br_t k2, pu_br_f g, j6, j7], hin⟩
  by_cases k3 : a_1 = 3
  · exact ⟨v_x_disk_file_count, by rw [f_RF_journal, pu_br_f k0, pu_br_f k1, pu_br_f k2, pu_br_t k3], by rw [f_MD_journal, pu_br_f k0, pu_br_f k1, pu_br_f k2, pu_br_t k3, hcnt], hin⟩
  · exact ⟨-1, by rw [f_RF_journal, pu_br_f k0, pu_br_f k1, pu_br_f k2, pu_br_f k3], by rw [f_MD_journal, pu_br_f k0, pu_br_f k1, pu_br_f k2, pu_br_f k3], hin⟩
/-- copyAll: the bytes and the number of pages -/
theorem rf_copyAll {c1 c2 : Int32} {b1 b2 : Nat → Int32} {d : Nat → Nat} (h : rf_pg b1 d) : ∃ w, f_Pages_copyAll c1 b1 c2 b2 = some (c1, w) ∧ rf_pg w d := by
  refine ⟨va_cpy b1 b2 0 0 1536, ?_, fun k hk => ?_⟩
  · have hcp : pu_cp .byte b1 0 0 1536 1536 1536 := ⟨by decide, by decide, by decide, by decide, by decide, fun i hi => by
      have e : b1 ((0 : Int32).toNatClampNeg + i) = rf_sx (d (i + 64)) := by
        have : (0 : Int32).toNatClampNeg + i = i := by show 0 + i = i; omega
        rw [this]; exact h i hi
      rw [e]; exact rf_sx_fits _⟩
    rw [f_Pages_copyAll, pu_ck_t hcp]
    rfl
  · rw [pk_cpy_in (by omega) (by omega)]
    have : 0 + (k - 0) = k := by omega
    rw [this]; exact h k hk
theorem opp_undo  : op_undo (in_v WF) := by
  intro v_x_up v_x_armed v_x_draft_count v_x_draft_codes v_x_draft_numbers v_x_draft_blobs v_x_now_count v_x_now_bytes v_x_before_count v_x_before_bytes v_x_disk_headThere v_x_disk_headPages v_x_disk_headRecords v_x_disk_file_count v_x_disk_file_bytes v_x_disk_records_count v_x_disk_records_bytes v_x_disk_recorded v_x_disk_different v_x_row_length v_x_row_count v_x_row_bytes v_x_row_codes v_x_row_starts v_x_node_count v_x_node_last v_x_node_leaf v_x_node_bytes v_x_node_starts v_x_node_sizes v_x_tree_depth v_x_tree_slot v_x_tree_cellSize v_x_tree_path v_x_tree_slots v_x_tree_cell v_x_tree_waiting v_x_tree_leaves v_x_check_treeSize v_x_check_reached v_x_check_treePages v_x_check_lows v_x_check_highs v_m_onDisk v_m_head v_m_headPages v_m_records v_m_up v_m_armed v_m_columns v_m_length v_m_kind v_m_cells v_m_last v_m_made v_m_deep v_m_at v_m_bad v_m_now v_m_disk v_m_before v_m_recordPage v_m_recordBytes v_m_isBlob v_m_integer v_m_size v_m_blobs v_m_record v_m_cellLength v_m_row v_m_cell v_m_way v_m_turn v_m_used  hI
  obtain ⟨hdr, ⟨e1, e2, e3, e4⟩, c, d, h1, h2, h3, h4, h5, h6⟩ := hI
  subst e1; subst e3
  by_cases h0 : v_x_up = 0
  · refine ⟨0, v_x_now_count, v_x_now_bytes, ?_, v_m_now, ?_, hdr, ⟨rfl, e2, rfl, e4⟩, c, d, h1, h2, h3, h4, h5, h6⟩
    · rw [f_RF_undo, pu_br_t h0]
    · rw [f_MD_undo, pu_br_t h0]
  · have h7 := h6 (rf_up1 e2 h0)
    obtain ⟨w, q1, q2⟩ := rf_copyAll (c1 := v_x_disk_file_count) (c2 := v_x_now_count) (b2 := v_x_now_bytes) h1.2.2.2.2.1
    obtain ⟨w', q3, q4⟩ := rf_fetch v_m_disk v_m_now
    refine ⟨1, v_x_disk_file_count, w, ?_, w', ?_, hdr, ⟨rfl, e2, rfl, e4⟩, c, d, h1, h2, h3, h4, h5, fun _ => ⟨h7.1, h7.2.1, h7.2.2.1, d, ⟨h1.1, ?_, ?_, ?_, q2, fun k hk => ?_⟩, ?_, h7.2.2.1⟩⟩
    · rw [f_RF_undo, pu_br_f h0, q1]; rfl
    · rw [f_MD_undo, pu_br_f h0, q3]; rfl
    · rw [h7.2.1]; exact h1.2.1
    · rw [h7.2.1]; exact h1.2.2.1
    · rw [h7.2.1]; exact h1.2.2.2.1
    · rw [q4 k hk]; exact h1.2.2.2.2.2 k hk
    · rw [h7.2.1]; exact Nat.le_refl c
end RFS
