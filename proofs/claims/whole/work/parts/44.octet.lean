section RFO
variable {WF : (Nat → Nat) → Prop}
theorem rf_1 {x : Int32} (h : x < 1) : x ≤ 0 := by
  have := Int32.lt_iff_toInt_lt.mp h
  refine Int32.le_iff_toInt_le.mpr ?_
  have e : (1 : Int32).toInt = 1 := by decide
  have e0 : (0 : Int32).toInt = 0 := by decide
  omega
theorem rf_63 {y : Int32} : (y ≤ 63) ↔ ¬ 64 ≤ y := by
  rw [Int32.le_iff_toInt_le, Int32.le_iff_toInt_le]
  have e : (63 : Int32).toInt = 63 := by decide
  have e0 : (64 : Int32).toInt = 64 := by decide
  omega
theorem rf_0lt {x : Int32} (h : ¬ x < 1) : 0 < x := by
  rw [Int32.lt_iff_toInt_lt] at h ⊢
  have e : (1 : Int32).toInt = 1 := by decide
  have e0 : (0 : Int32).toInt = 0 := by decide
  omega
/-- what both sides answer of one file's byte -/
theorem rf_oct {c : Nat} {d : Nat → Nat} {cnt : Int32} {b arr : Nat → Int32} (h : rf_fl cnt b arr c d) (x y : Int32) :
    ∃ z, pu_b1 (f_Pages_has cnt x y) (fun r1 => pu_br (r1 = 0) (some (-1 : Int32)) (pu_b1 (f_Pages_get cnt b x y) (fun r2 => some r2))) = some z ∧
      pu_br (x < 1) (some (-1 : Int32)) (pu_br (nI c < x) (some (-1 : Int32)) (pu_br (y < 0) (some (-1 : Int32)) (pu_br (y ≤ 63) (pu_ck (vp_in ((64 * x) + y) 1600) (some (arr ((64 * x) + y).toNatClampNeg))) (some (-1 : Int32))))) = some z := by
  obtain ⟨hbt, rfl, h2, h24, hpg, hmd⟩ := h
  rcases rf_has c h24 x y with ⟨h1, p, a, rfl, rfl, q1, q2, q3⟩ | ⟨h1, hq⟩
  · refine ⟨nI (d (64 * p + a)), ?_, ?_⟩
    · rw [h1, rf_get hbt hpg h24 (by omega) (by omega), pu_b1_s, pu_b1_s, pu_br_f (by decide), rf_gb, if_pos ⟨q1, q2, q3⟩]
    · simp (disch := omega) only [rf_lit, nI_add, pk_mul, pk_sub, nI_ltI, nI_leI, nI_eq, rf_in, nI_clamp, pu_br_t, pu_br_f, pu_ck_t, pu_brT, pu_brF, pu_ckT, pu_nm, pu_b0_s, pu_b1_s, pu_b2_s, pu_b3_s, pu_b4_s, pu_b5_s, pu_b6_s, pu_b7_s, pu_b8_s, pu_b9_s, pu_b10_s, pu_b11_s, pu_b12_s, pu_b13_s, pu_b14_s, pu_b15_s, pu_b16_s, pu_b17_s, pu_b18_s, pu_b19_s, pu_b20_s, pu_b21_s, pu_b22_s, pu_b23_s, pu_b24_s, pu_b25_s]
      rw [hmd _ (by omega)]
  · refine ⟨-1, ?_, ?_⟩
    · rw [h1, pu_b1_s, pu_br_t rfl]
    · by_cases g1 : x < 1
      · rw [pu_br_t g1]
      rw [pu_br_f g1]
      by_cases g2 : nI c < x
      · rw [pu_br_t g2]
      rw [pu_br_f g2]
      by_cases g3 : y < 0
      · rw [pu_br_t g3]
      rw [pu_br_f g3, pu_br_f (fun g => (rf_63.mp g) ((hq.resolve_left g1).resolve_left g2 |>.resolve_left g3))]
theorem opp_octet  : op_octet (in_v WF) := by
  intro v_x_up v_x_armed v_x_draft_count v_x_draft_codes v_x_draft_numbers v_x_draft_blobs v_x_now_count v_x_now_bytes v_x_before_count v_x_before_bytes v_x_disk_headThere v_x_disk_headPages v_x_disk_headRecords v_x_disk_file_count v_x_disk_file_bytes v_x_disk_records_count v_x_disk_records_bytes v_x_disk_recorded v_x_disk_different v_x_row_length v_x_row_count v_x_row_bytes v_x_row_codes v_x_row_starts v_x_node_count v_x_node_last v_x_node_leaf v_x_node_bytes v_x_node_starts v_x_node_sizes v_x_tree_depth v_x_tree_slot v_x_tree_cellSize v_x_tree_path v_x_tree_slots v_x_tree_cell v_x_tree_waiting v_x_tree_leaves v_x_check_treeSize v_x_check_reached v_x_check_treePages v_x_check_lows v_x_check_highs v_m_onDisk v_m_head v_m_headPages v_m_records v_m_up v_m_armed v_m_columns v_m_length v_m_kind v_m_cells v_m_last v_m_made v_m_deep v_m_at v_m_bad v_m_now v_m_disk v_m_before v_m_recordPage v_m_recordBytes v_m_isBlob v_m_integer v_m_size v_m_blobs v_m_record v_m_cellLength v_m_row v_m_cell v_m_way v_m_turn v_m_used a_1 a_2 a_3 hI
  obtain ⟨hdr, ⟨e1, e2, e3, e4⟩, c, d, h1, h2, h3, h4, h5, h6⟩ := hI
  have hin := (⟨hdr, ⟨e1, e2, e3, e4⟩, c, d, h1, h2, h3, h4, h5, h6⟩ : in_v WF v_x_up v_x_armed v_x_draft_count v_x_draft_codes v_x_draft_numbers v_x_draft_blobs v_x_now_count v_x_now_bytes v_x_before_count v_x_before_bytes v_x_disk_headThere v_x_disk_headPages v_x_disk_headRecords v_x_disk_file_count v_x_disk_file_bytes v_x_disk_records_count v_x_disk_records_bytes v_x_disk_recorded v_x_disk_different v_x_row_length v_x_row_count v_x_row_bytes v_x_row_codes v_x_row_starts v_x_node_count v_x_node_last v_x_node_leaf v_x_node_bytes v_x_node_starts v_x_node_sizes v_x_tree_depth v_x_tree_slot v_x_tree_cellSize v_x_tree_path v_x_tree_slots v_x_tree_cell v_x_tree_waiting v_x_tree_leaves v_x_check_treeSize v_x_check_reached v_x_check_treePages v_x_check_lows v_x_check_highs v_m_onDisk v_m_head v_m_headPages v_m_records v_m_up v_m_armed v_m_columns v_m_length v_m_kind v_m_cells v_m_last v_m_made v_m_deep v_m_at v_m_bad v_m_now v_m_disk v_m_before v_m_recordPage v_m_recordBytes v_m_isBlob v_m_integer v_m_size v_m_blobs v_m_record v_m_cellLength v_m_row v_m_cell v_m_way v_m_turn v_m_used)
  subst e1; subst h2
  by_cases g : a_3 = 0
  · by_cases u : v_x_up = 0
    · refine ⟨-1, ?_, ?_, hin⟩
      · rw [f_RF_octet, pu_br_t g, pu_br_t u]
      · rw [f_MD_octet, pu_br_t g, pu_br_t u, q_MD_octet_26]
        by_cases g1 : a_1 < 1
        · rw [pu_br_t g1]
        · rw [pu_br_f g1, pu_br_t (rf_0lt g1)]
    · obtain ⟨j1, j2, j3, n, j4, j5, j6⟩ := h6 (rf_up1 e2 u)
      obtain ⟨z, z1, z2⟩ := rf_oct j4 a_1 a_2
      refine ⟨z, ?_, ?_, hin⟩
      · rw [f_RF_octet, pu_br_t g, pu_br_f u, q_RF_octet_13, pu_br_t g, z1]
      · have e5 : f_MD_pages v_m_now = some (nI (n 65)) := by
          simp (disch := omega) only [f_MD_pages, rf_lit, nI_add, pk_mul, pk_sub, nI_ltI, nI_leI, nI_eq, rf_in, nI_clamp, pu_br_t, pu_br_f, pu_ck_t, pu_brT, pu_brF, pu_ckT, pu_nm, pu_b0_s, pu_b1_s, pu_b2_s, pu_b3_s, pu_b4_s, pu_b5_s, pu_b6_s, pu_b7_s, pu_b8_s, pu_b9_s, pu_b10_s, pu_b11_s, pu_b12_s, pu_b13_s, pu_b14_s, pu_b15_s, pu_b16_s, pu_b17_s, pu_b18_s, pu_b19_s, pu_b20_s, pu_b21_s, pu_b22_s, pu_b23_s, pu_b24_s, pu_b25_s]
          rw [j4.2.2.2.2.2 65 (by omega)]
        rw [f_MD_octet, pu_br_t g, pu_br_f u, e5, pu_b1_s, q_MD_octet_26]
        simp only [pu_br_t g]
        exact z2
  · obtain ⟨z, z1, z2⟩ := rf_oct h1 a_1 a_2
    refine ⟨z, ?_, ?_, hin⟩
    · rw [f_RF_octet, pu_br_f g, q_RF_octet_13, pu_br_f g, z1]
    · rw [f_MD_octet, pu_br_f g, q_MD_octet_26]
      simp only [pu_br_f g]
      exact z2
theorem opp_spoil (hWF : True) : op_spoil (in_v WF) := by
  intro v_x_up v_x_armed v_x_draft_count v_x_draft_codes v_x_draft_numbers v_x_draft_blobs v_x_now_count v_x_now_bytes v_x_before_count v_x_before_bytes v_x_disk_headThere v_x_disk_headPages v_x_disk_headRecords v_x_disk_file_count v_x_disk_file_bytes v_x_disk_records_count v_x_disk_records_bytes v_x_disk_recorded v_x_disk_different v_x_row_length v_x_row_count v_x_row_bytes v_x_row_codes v_x_row_starts v_x_node_count v_x_node_last v_x_node_leaf v_x_node_bytes v_x_node_starts v_x_node_sizes v_x_tree_depth v_x_tree_slot v_x_tree_cellSize v_x_tree_path v_x_tree_slots v_x_tree_cell v_x_tree_waiting v_x_tree_leaves v_x_check_treeSize v_x_check_reached v_x_check_treePages v_x_check_lows v_x_check_highs v_m_onDisk v_m_head v_m_headPages v_m_records v_m_up v_m_armed v_m_columns v_m_length v_m_kind v_m_cells v_m_last v_m_made v_m_deep v_m_at v_m_bad v_m_now v_m_disk v_m_before v_m_recordPage v_m_recordBytes v_m_isBlob v_m_integer v_m_size v_m_blobs v_m_record v_m_cellLength v_m_row v_m_cell v_m_way v_m_turn v_m_used a_1 a_2 a_3 hI
  obtain ⟨hdr, ⟨e1, e2, e3, e4⟩, c, d, h1, h2, h3, h4, h5, h6⟩ := hI
  have hin := (⟨hdr, ⟨e1, e2, e3, e4⟩, c, d, h1, h2, h3, h4, h5, h6⟩ : in_v WF v_x_up v_x_armed v_x_draft_count v_x_draft_codes v_x_draft_numbers v_x_draft_blobs v_x_now_count v_x_now_bytes v_x_before_count v_x_before_bytes v_x_disk_headThere v_x_disk_headPages v_x_disk_headRecords v_x_disk_file_count v_x_disk_file_bytes v_x_disk_records_count v_x_disk_records_bytes v_x_disk_recorded v_x_disk_different v_x_row_length v_x_row_count v_x_row_bytes v_x_row_codes v_x_row_starts v_x_node_count v_x_node_last v_x_node_leaf v_x_node_bytes v_x_node_starts v_x_node_sizes v_x_tree_depth v_x_tree_slot v_x_tree_cellSize v_x_tree_path v_x_tree_slots v_x_tree_cell v_x_tree_waiting v_x_tree_leaves v_x_check_treeSize v_x_check_reached v_x_check_treePages v_x_check_lows v_x_check_highs v_m_onDisk v_m_head v_m_headPages v_m_records v_m_up v_m_armed v_m_columns v_m_length v_m_kind v_m_cells v_m_last v_m_made v_m_deep v_m_at v_m_bad v_m_now v_m_disk v_m_before v_m_recordPage v_m_recordBytes v_m_isBlob v_m_integer v_m_size v_m_blobs v_m_record v_m_cellLength v_m_row v_m_cell v_m_way v_m_turn v_m_used)
  subst e1; subst h2
  by_cases u : v_x_up = 0
  · obtain ⟨hbt, hcn, h2', h24, hpg, hmd⟩ := h1
    rcases rf_has c h24 a_1 a_2 with ⟨k1, p, a, rfl, rfl, q1, q2, q3⟩ | ⟨k1, hq⟩
    · by_cases v0 : a_3 < 0
      · refine ⟨0, v_x_disk_file_bytes, ?_, v_m_disk, ?_, hin⟩
        · rw [f_RF_spoil, pu_br_t u, hcn, k1, pu_b1_s, pu_br_f (by decide), pu_br_t v0]
        · simp (disch := omega) only [f_MD_spoil, u, rf_lit, nI_add, pk_mul, pk_sub, nI_ltI, nI_leI, nI_eq, rf_in, nI_clamp, pu_br_t, pu_br_f, pu_ck_t, pu_brT, pu_brF, pu_ckT, pu_nm, pu_b0_s, pu_b1_s, pu_b2_s, pu_b3_s, pu_b4_s, pu_b5_s, pu_b6_s, pu_b7_s, pu_b8_s, pu_b9_s, pu_b10_s, pu_b11_s, pu_b12_s, pu_b13_s, pu_b14_s, pu_b15_s, pu_b16_s, pu_b17_s, pu_b18_s, pu_b19_s, pu_b20_s, pu_b21_s, pu_b22_s, pu_b23_s, pu_b24_s, pu_b25_s]
          have v0' : a_3 < nI 0 := v0
          simp only [pu_br_t v0']
      by_cases v1 : a_3 ≤ 255
      · obtain ⟨v, hv, rfl⟩ := nI_of2 (M := 255) (n := 255) (by decide) v0 v1
        obtain ⟨w, w1, w2⟩ := rf_put hpg (c := c) (p := p) (a := a) (v := v) h24 (by omega) (by omega) (x := nI v) rfl
        refine ⟨1, w, ?_, upd v_m_disk (64 * p + a) (nI v), ?_, hdr, ⟨rfl, e2, e3, e4⟩, c, rf_pt d c p a v, ⟨?_, hcn, h2', h24, w2, ?_⟩, rfl, h3, h4, h5, fun hu => ?_⟩
        · rw [f_RF_spoil, pu_br_t u, hcn, k1, pu_b1_s, pu_br_f (by decide), pu_br_f v0, pu_br_t v1, w1, pu_b1_s]
        · simp (disch := omega) only [f_MD_spoil, u, rf_lit, nI_add, pk_mul, pk_sub, nI_ltI, nI_leI, nI_eq, rf_in, nI_clamp, pu_br_t, pu_br_f, pu_ck_t, pu_brT, pu_brF, pu_ckT, pu_nm, pu_b0_s, pu_b1_s, pu_b2_s, pu_b3_s, pu_b4_s, pu_b5_s, pu_b6_s, pu_b7_s, pu_b8_s, pu_b9_s, pu_b10_s, pu_b11_s, pu_b12_s, pu_b13_s, pu_b14_s, pu_b15_s, pu_b16_s, pu_b17_s, pu_b18_s, pu_b19_s, pu_b20_s, pu_b21_s, pu_b22_s, pu_b23_s, pu_b24_s, pu_b25_s]
        · intro k
          unfold rf_pt
          split
          · omega
          · exact hbt k
        · intro k hk
          unfold rf_pt
          by_cases e : k = 64 * p + a
          · rw [if_pos ⟨q1, q2, q3, e⟩, e, pk_us]
          · rw [if_neg (fun q => e q.2.2.2), pk_un e]
            exact hmd k hk
        · rw [u] at hu; exact absurd hu (by decide)
      · refine ⟨0, v_x_disk_file_bytes, ?_, v_m_disk, ?_, hin⟩
        · rw [f_RF_spoil, pu_br_t u, hcn, k1, pu_b1_s, pu_br_f (by decide), pu_br_f v0, pu_br_f v1]
        · simp (disch := omega) only [f_MD_spoil, u, rf_lit, nI_add, pk_mul, pk_sub, nI_ltI, nI_leI, nI_eq, rf_in, nI_clamp, pu_br_t, pu_br_f, pu_ck_t, pu_brT, pu_brF, pu_ckT, pu_nm, pu_b0_s, pu_b1_s, pu_b2_s, pu_b3_s, pu_b4_s, pu_b5_s, pu_b6_s, pu_b7_s, pu_b8_s, pu_b9_s, pu_b10_s, pu_b11_s, pu_b12_s, pu_b13_s, pu_b14_s, pu_b15_s, pu_b16_s, pu_b17_s, pu_b18_s, pu_b19_s, pu_b20_s, pu_b21_s, pu_b22_s, pu_b23_s, pu_b24_s, pu_b25_s]
          have v1' : ¬ a_3 ≤ nI 255 := v1
          have v0' : ¬ a_3 < nI 0 := v0
          simp only [pu_br_f v0', pu_br_f v1']
    · refine ⟨0, v_x_disk_file_bytes, ?_, v_m_disk, ?_, hin⟩
      · rw [f_RF_spoil, pu_br_t u, hcn, k1, pu_b1_s, pu_br_t rfl]
      · rw [f_MD_spoil, pu_br_t u]
        by_cases g1 : a_1 < 1
        · rw [pu_br_t g1]
        rw [pu_br_f g1]
        by_cases g2 : nI c < a_1
        · rw [pu_br_t g2]
        rw [pu_br_f g2]
        by_cases g3 : a_2 < 0
        · rw [pu_br_t g3]
        have g4 : (63 : Int32) < a_2 := Int32.not_le.mp (fun g => (rf_63.mp g) ((hq.resolve_left g1).resolve_left g2 |>.resolve_left g3))
        rw [pu_br_f g3, pu_br_t g4]
  · refine ⟨0, v_x_disk_file_bytes, ?_, v_m_disk, ?_, hin⟩
    · rw [f_RF_spoil, pu_br_f u]
    · rw [f_MD_spoil, pu_br_f u]
end RFO
