section RFT
variable {WF : (Nat → Nat) → Prop}
theorem rf_jr_of {d : Nat → Nat} {c od : Nat} {st : Int32 × Int32 × (Nat → Int32) × (Nat → Int32)} {st' : Int32 × (Nat → Int32) × (Nat → Int32) × Int32} (hd : rf_bt d) (h : rf_J d (c + 1) st st') (h2 : 2 ≤ c) (h24 : c ≤ 24) (ho : c ≤ od) : rf_jr (nI c) st.2.1 (nI c) st.2.2.1 st.2.2.2 (nI c) st'.2.2.2 st'.2.1 st'.2.2.1 od := by
  obtain ⟨h1, _, h3, nr, pg, k1, k2, k3, k4, k5, k6, k7, k8⟩ := h
  refine ⟨c, nr, pg, fun r a => d (64 * pg r + a), rfl, rfl, rfl, h2, ho, k2, k3, by omega, fun r hr => ?_, k5, fun r a hr ha => ⟨hd _, k6 r a hr ha⟩, fun p p1 p2 => ?_⟩
  · have := k4 r hr
    exact ⟨this.1, by omega, this.2.2⟩
  · by_cases e : p < c + 1
    · exact k7 p p1 e
    · exact Or.inr ⟨k8 p (by omega) p2, fun r hr q => by have := (k4 r hr).2.1; omega⟩
theorem rf_mcc {mn : Nat → Int32} {n : Nat → Nat} (hn : rf_bt n) (h : rf_md mn n) : ∃ a4, rf_md a4 (rf_cc n) ∧ ∀ (β : Type) (k : (Nat → Int32) → Option β), pu_ck (vp_in (68 : Int32) 1600) (pu_ck (vp_in (69 : Int32) 1600) (pu_nm (((((mn (68 : Int32).toNatClampNeg) * (256 : Int32)) + (mn (69 : Int32).toNatClampNeg)) + (1 : Int32)) &&& (65535 : Int32)) (fun t2 => pu_ck (vp_in (68 : Int32) 1600) (pu_nm (upd mn (68 : Int32).toNatClampNeg (t2 / (256 : Int32))) (fun a3 => pu_ck (vp_in (69 : Int32) 1600) (pu_nm (upd a3 (69 : Int32).toNatClampNeg (t2 - t2 / (256 : Int32) * (256 : Int32))) k)))))) = k a4 := by
  have e8 : (68 : Int32).toNatClampNeg = 68 := by decide
  have e9 : (69 : Int32).toNatClampNeg = 69 := by decide
  have i8 : vp_in (68 : Int32) 1600 := by unfold vp_in; decide
  have i9 : vp_in (69 : Int32) 1600 := by unfold vp_in; decide
  have b8 := hn 68
  have b9 := hn 69
  have hlt : rf_ch n < 65536 := Nat.mod_lt _ (by decide)
  have e1 : ((nI (n 68) * (256 : Int32) + nI (n 69)) + (1 : Int32)) &&& (65535 : Int32) = nI (rf_ch n) := by
    rw [show nI (n 68) * (256 : Int32) = nI (n 68 * 256) from pk_mul _ 256, nI_add, nI_1]
    exact pk_andN (by omega) 16 (by decide)
  have e2 : nI (rf_ch n) / (256 : Int32) = nI (rf_ch n / 256) := pk_div (d := 256) (by omega) (by omega) (by omega)
  have e3 : nI (rf_ch n) - nI (rf_ch n) / (256 : Int32) * (256 : Int32) = nI (rf_ch n % 256) := pk_rem (d := 256) (by omega) (by omega) (by omega)
  refine ⟨upd (upd mn 68 (nI (rf_ch n / 256))) 69 (nI (rf_ch n % 256)), fun k hk => ?_, fun β k => ?_⟩
  · unfold rf_cc
    by_cases g9 : k = 69
    · subst g9; rw [pk_us, if_neg (by decide), if_pos rfl]
    · rw [pk_un g9]
      by_cases g8 : k = 68
      · subst g8; rw [pk_us, if_pos rfl]
      · rw [pk_un g8, if_neg g8, if_neg g9]; exact h k hk
  · rw [pu_ck_t i8, pu_ck_t i9, e8, e9, h 68 (by omega), h 69 (by omega), e1, pu_nm, pu_ck_t i8, pu_nm, pu_ck_t i9, pu_nm, e3, e2]
theorem rf_ne0 {k : Nat} (h : ¬ k = 0) (hk : k ≤ 24) : ¬ nI k = 0 := nI_ne0 (by omega) (by omega)
theorem opp_commit (hWc : ∀ n n' : Nat → Nat, (∀ k, 64 ≤ k → k < 64 * (n 65 + 1) → k ≠ 68 → k ≠ 69 → n' k = n k) → WF n → WF n') : op_commit (in_v WF) := by
  intro v_x_up v_x_armed v_x_draft_count v_x_draft_codes v_x_draft_numbers v_x_draft_blobs v_x_now_count v_x_now_bytes v_x_before_count v_x_before_bytes v_x_disk_headThere v_x_disk_headPages v_x_disk_headRecords v_x_disk_file_count v_x_disk_file_bytes v_x_disk_records_count v_x_disk_records_bytes v_x_disk_recorded v_x_disk_different v_x_row_length v_x_row_count v_x_row_bytes v_x_row_codes v_x_row_starts v_x_node_count v_x_node_last v_x_node_leaf v_x_node_bytes v_x_node_starts v_x_node_sizes v_x_tree_depth v_x_tree_slot v_x_tree_cellSize v_x_tree_path v_x_tree_slots v_x_tree_cell v_x_tree_waiting v_x_tree_leaves v_x_check_treeSize v_x_check_reached v_x_check_treePages v_x_check_lows v_x_check_highs v_m_onDisk v_m_head v_m_headPages v_m_records v_m_up v_m_armed v_m_columns v_m_length v_m_kind v_m_cells v_m_last v_m_made v_m_deep v_m_at v_m_bad v_m_now v_m_disk v_m_before v_m_recordPage v_m_recordBytes v_m_isBlob v_m_integer v_m_size v_m_blobs v_m_record v_m_cellLength v_m_row v_m_cell v_m_way v_m_turn v_m_used  hI
  obtain ⟨hdr, ⟨e1, e2, e3, e4⟩, c, d, h1, h2, h3, h4, h5, h6⟩ := hI
  have hin := (⟨hdr, ⟨e1, e2, e3, e4⟩, c, d, h1, h2, h3, h4, h5, h6⟩ : in_v WF v_x_up v_x_armed v_x_draft_count v_x_draft_codes v_x_draft_numbers v_x_draft_blobs v_x_now_count v_x_now_bytes v_x_before_count v_x_before_bytes v_x_disk_headThere v_x_disk_headPages v_x_disk_headRecords v_x_disk_file_count v_x_disk_file_bytes v_x_disk_records_count v_x_disk_records_bytes v_x_disk_recorded v_x_disk_different v_x_row_length v_x_row_count v_x_row_bytes v_x_row_codes v_x_row_starts v_x_node_count v_x_node_last v_x_node_leaf v_x_node_bytes v_x_node_starts v_x_node_sizes v_x_tree_depth v_x_tree_slot v_x_tree_cellSize v_x_tree_path v_x_tree_slots v_x_tree_cell v_x_tree_waiting v_x_tree_leaves v_x_check_treeSize v_x_check_reached v_x_check_treePages v_x_check_lows v_x_check_highs v_m_onDisk v_m_head v_m_headPages v_m_records v_m_up v_m_armed v_m_columns v_m_length v_m_kind v_m_cells v_m_last v_m_made v_m_deep v_m_at v_m_bad v_m_now v_m_disk v_m_before v_m_recordPage v_m_recordBytes v_m_isBlob v_m_integer v_m_size v_m_blobs v_m_record v_m_cellLength v_m_row v_m_cell v_m_way v_m_turn v_m_used)
  subst e1; subst e3; subst h2
  by_cases u : v_x_up = 0
  · refine ⟨-3, v_x_up, v_x_armed, v_x_now_bytes, v_x_disk_headThere, v_x_disk_headPages, v_x_disk_headRecords, v_x_disk_file_count, v_x_disk_file_bytes, v_x_disk_records_count, v_x_disk_records_bytes, v_x_disk_recorded, v_x_disk_different, ?_, nI c, v_m_head, v_m_headPages, v_m_records, v_x_up, v_x_armed, v_m_now, v_m_disk, v_m_recordPage, v_m_recordBytes, ?_, hin⟩
    · rw [f_RF_commit, pu_br_t u]
    · rw [f_MD_commit, pu_br_t u]
  obtain ⟨j1, j2, j3, n, j4, j5, j6⟩ := h6 (rf_up1 e2 u)
  obtain ⟨hbt, hcn, h2', h24, hpg, hmd⟩ := h1
  obtain ⟨nbt, ncn, n2, n24, npg, nmd⟩ := j4
  subst hcn; subst ncn
  obtain ⟨w2, m1, m2⟩ := rf_mark (df := v_x_disk_different) nbt hbt npg hpg j5 n24
  have m3 := rf_mdifferent nbt hbt nmd hmd h24 n24
  have hle := rf_cn_le (rf_df n d c (n 65)) 24
  by_cases z0 : rf_cn (rf_df n d c (n 65)) 24 = 0
  · rw [z0] at m1 m3
    refine ⟨0, v_x_up, v_x_armed, v_x_now_bytes, v_x_disk_headThere, v_x_disk_headPages, v_x_disk_headRecords, nI c, v_x_disk_file_bytes, v_x_disk_records_count, v_x_disk_records_bytes, v_x_disk_recorded, w2, ?_, nI c, v_m_head, v_m_headPages, v_m_records, v_x_up, v_x_armed, v_m_now, v_m_disk, v_m_recordPage, v_m_recordBytes, ?_, hin⟩
    · rw [f_RF_commit, pu_br_f u, m1, pu_b2_s, pu_br_t (show nI 0 = 0 from rfl)]
    · rw [f_MD_commit, pu_br_f u, m3, pu_b1_s, pu_br_t (show nI 0 = 0 from rfl)]
  have z0' : ¬ nI (rf_cn (rf_df n d c (n 65)) 24) = 0 := rf_ne0 z0 hle
  obtain ⟨w4, q1, q2⟩ := rf_countChange nbt npg (nc := n 65) (by omega) n24
  obtain ⟨a4, b1, b2⟩ := rf_mcc nbt nmd
  have cbt := rf_cc_bt nbt
  have c65 : rf_cc n 65 = n 65 := by unfold rf_cc; rw [if_neg (by decide), if_neg (by decide)]
  obtain ⟨w6, p1, p2⟩ := rf_mark (df := w2) cbt hbt q2 hpg j5 n24
  have p3 := rf_mdifferent cbt hbt b1 hmd h24 (by rw [c65]; exact n24)
  rw [c65] at p3
  obtain ⟨cn', hcn'⟩ : ∃ x, x = rf_cn (rf_df (rf_cc n) d c (n 65)) 24 := ⟨_, rfl⟩
  rw [← hcn'] at p1 p3
  have wfn : WF (rf_cc n) := hWc n (rf_cc n) (fun k _ _ k8 k9 => by unfold rf_cc; rw [if_neg k8, if_neg k9]) j6
  -- the head of each side
  have hX : ∀ z, (pu_b6 (f_RF_writeRecords (nI c) v_x_disk_file_bytes w6 v_x_armed v_x_disk_headRecords v_x_disk_records_count v_x_disk_records_bytes v_x_disk_recorded) (fun r7 w8 w9 w10 w11 w12 => pu_br (r7 = 0) (q_RF_commit_75 (nI (n 65)) v_x_up w8 w4 v_x_disk_headThere v_x_disk_headPages w9 (nI c) v_x_disk_file_bytes w10 w11 w12 w6) (pu_b4 (f_RF_writeHead (nI c) w8 v_x_disk_headThere v_x_disk_headPages) (fun r16 w17 w18 w19 => pu_br (r16 = 0) (q_RF_commit_75 (nI (n 65)) v_x_up w17 w4 w18 w19 w9 (nI c) v_x_disk_file_bytes w10 w11 w12 w6) (pu_b4 (f_RF_writePages (nI (n 65)) w4 w6 w17 (nI c) v_x_disk_file_bytes) (fun r20 w21 w22 w23 => pu_br (r20 = 0) (q_RF_commit_75 (nI (n 65)) v_x_up w21 w4 w18 w19 w9 w22 w23 w10 w11 w12 w6) (pu_b3 (f_RF_dropHead w21 w18) (fun r24 w25 w26 => pu_br (r24 = 0) (q_RF_commit_75 (nI (n 65)) v_x_up w25 w4 w26 w19 w9 w22 w23 w10 w11 w12 w6) (some (nI cn', v_x_up, w25, w4, w26, w19, w9, w22, w23, w10, w11, w12, w6)))))))))) = z → f_RF_commit (nI (n 65)) v_x_up v_x_armed v_x_now_bytes v_x_disk_headThere v_x_disk_headPages v_x_disk_headRecords (nI c) v_x_disk_file_bytes v_x_disk_records_count v_x_disk_records_bytes v_x_disk_recorded v_x_disk_different = z := by
    intro z hz
    rw [f_RF_commit, pu_br_f u, m1, pu_b2_s, pu_br_f z0', q1, pu_b1_s, p1, pu_b2_s]
    exact hz
  have hM : ∀ z, pu_b10 (f_MD_write a4 (nI c) v_m_head v_m_headPages v_m_records v_x_up v_x_armed v_m_disk v_m_recordPage v_m_recordBytes) (fun r6 w7 w8 w9 w10 w11 w12 w13 w14 w15 => pu_br (r6 = 0) (some ((-3 : Int32), w7, w8, w9, w10, w11, w12, a4, w13, w14, w15)) (some (nI cn', w7, w8, w9, w10, w11, w12, a4, w13, w14, w15))) = z → f_MD_commit (nI c) v_m_head v_m_headPages v_m_records v_x_up v_x_armed v_m_now v_m_disk v_m_recordPage v_m_recordBytes = z := by
    intro z hz
    rw [f_MD_commit, pu_br_f u, m3, pu_b1_s, pu_br_f z0', b2, p3, pu_b1_s]
    exact hz
  have h3' := h3.symm
  subst h3'
  have fc : rf_fl (nI c) v_x_disk_file_bytes v_m_disk c d := ⟨hbt, rfl, h2', h24, hpg, hmd⟩
  have ua0 : rf_ua 0 (-1) 0 (-1) := ⟨rfl, Or.inl rfl, rfl, 0, by omega, by decide⟩
  have nd0 : ∀ X : Prop, (0 : Int32) = 1 → X := fun X h => absurd h (by decide)
  rcases rf_phase1 (fb := v_x_disk_file_bytes) (diff := w6) (rb := v_x_disk_records_bytes) (rec := v_x_disk_recorded) (mn := a4) (mdisk := v_m_disk) (rp := v_m_recordPage) (mrb := v_m_recordBytes) (n := rf_cc n) (d := d) (c := c) (nc := n 65) (ar := v_x_armed) (hr := v_x_disk_headRecords) (rc := v_x_disk_records_count) (hd := v_x_disk_headThere) (hp := v_m_headPages) (rs := v_m_records) (up := v_x_up)
    (kx32 := fun v_armed v_recordPage v_recordBytes => q_MD_write_32 a4 (nI c) v_x_disk_headThere v_m_headPages v_m_records v_x_up v_armed v_m_disk v_recordPage v_recordBytes) (kx93 := fun v_armed v_recordPage v_recordBytes x_2 => q_MD_write_93 a4 (nI c) v_x_disk_headThere v_m_headPages v_m_records v_x_up v_armed v_m_disk v_recordPage v_recordBytes (nI c) x_2) cbt hbt hpg b1 hmd j5 n24 p2 e4 with ⟨ar', hr', rb', rec', rp', mrb', y1, y2⟩ | ⟨⟨sa, sh, sb, sr⟩, ⟨ta, tp, tb, tx⟩, hJ, y1, y2⟩
  · refine ⟨-3, 0, -1, w4, v_x_disk_headThere, v_x_disk_headPages, hr', nI c, v_x_disk_file_bytes, nI c, rb', rec', w6, hX _ ?_, nI c, v_x_disk_headThere, v_m_headPages, v_m_records, 0, -1, a4, v_m_disk, rp', mrb', hM _ ?_, hdr, ua0, c, d, fc, rfl, rfl, Or.inl j1, fun h => by rw [j1] at h; exact nd0 _ h, nd0 _⟩
    · rw [y1, pu_b6_s, pu_br_t rfl, q_RF_commit_75, f_RF_goDown, pu_b2_s]
    · rw [f_MD_write, y2, q_MD_write_32, f_MD_fall, pu_b3_s, pu_ck_t pu_bz0, pu_b10_s, pu_br_t rfl]
  dsimp only at y1 y2
  have hsa : sa = ta := hJ.1
  subst hsa
  rcases rf_cut hJ.2.1 with ⟨c1, c2⟩ | ⟨ar2, c1, c2, c3⟩
  · refine ⟨-3, 0, -1, w4, v_x_disk_headThere, v_x_disk_headPages, sh, nI c, v_x_disk_file_bytes, nI c, sb, sr, w6, hX _ ?_, nI c, v_x_disk_headThere, v_m_headPages, v_m_records, 0, -1, a4, v_m_disk, tp, tb, hM _ ?_, hdr, ua0, c, d, fc, rfl, rfl, Or.inl j1, fun h => by rw [j1] at h; exact nd0 _ h, nd0 _⟩
    · rw [y1, pu_b6_s, pu_br_f (by decide), f_RF_writeHead, c1, pu_b2_s, pu_br_f (by decide), pu_b4_s, pu_br_t rfl, q_RF_commit_75, f_RF_goDown, pu_b2_s]
    · rw [f_MD_write, y2, q_MD_write_93, c2, pu_b2_s, pu_br_f (by decide), f_MD_fall, pu_b3_s, pu_ck_t pu_bz0, pu_b10_s, pu_br_t rfl]
  have hXh : f_RF_writeHead (nI c) sa v_x_disk_headThere v_x_disk_headPages = some (1, ar2, 1, nI c) := by
    rw [f_RF_writeHead, c1, pu_b2_s, pu_br_t rfl]
  rcases rf_phase2 (nb := w4) (diff := w6) (fb := v_x_disk_file_bytes) (mn := a4) (mdisk := v_m_disk) (rp := tp) (rb := tb) (n := rf_cc n) (d := d) (c := c) (nc := n 65) (ar := ar2) (hd := 1) (hp := nI c) (rs := tx) (up := v_x_up)
    (kx157 := fun v_onDisk v_armed v_disk => q_MD_write_157 a4 v_onDisk (1 : Int32) (nI c) tx v_x_up v_armed v_disk tp tb) (kx217 := fun v_onDisk v_armed v_disk => q_MD_write_217 a4 v_onDisk (1 : Int32) (nI c) tx v_x_up v_armed v_disk tp tb) (kx248 := fun v_onDisk v_armed v_disk => q_MD_write_248 a4 v_onDisk (1 : Int32) (nI c) tx v_x_up v_armed v_disk tp tb) cbt hbt q2 hpg b1 hmd c65 h2' j5 n24 p2 c3 with ⟨ar', c', w, md', ee, g1, g2, g3, g4, g5, g6, g7⟩ | ⟨ar', w, md', g1, g2, g3, g4, g5⟩
  · have hfin : f_MD_write a4 (nI c) v_x_disk_headThere v_m_headPages v_m_records v_x_up v_x_armed v_m_disk v_m_recordPage v_m_recordBytes = some (0, nI c', 1, nI c, tx, 0, -1, md', tp, tb) := by
      rw [f_MD_write, y2, q_MD_write_93, c2, pu_b2_s, pu_br_t rfl]
      rcases g7 with g7 | g7
      · rw [g7, q_MD_write_157, f_MD_fall, pu_b3_s, pu_ck_t pu_bz0]
      · rw [g7, q_MD_write_217, f_MD_fall, pu_b3_s, pu_ck_t pu_bz0]
    refine ⟨-3, 0, -1, w4, 1, nI c, sh, nI c', w, nI c, sb, sr, w6, hX _ ?_, nI c', 1, nI c, tx, 0, -1, a4, md', tp, tb, hM _ ?_, hdr, ua0, c', ee, ⟨g3, rfl, by omega, by omega, g4, g5⟩, rfl, rfl, Or.inr rfl, fun _ => rf_jr_of hbt hJ h2' h24 g1, nd0 _⟩
    · rw [y1, pu_b6_s, pu_br_f (by decide), hXh, pu_b4_s, pu_br_f (by decide), g6, pu_b4_s, pu_br_t rfl, q_RF_commit_75, f_RF_goDown, pu_b2_s]
    · rw [hfin, pu_b10_s, pu_br_t rfl]
  have mbt := rf_mix_bt cbt hbt (n 65 + 1)
  rcases rf_cut g1 with ⟨d1, d2⟩ | ⟨ar3, d1, d2, d3⟩
  · have hfin : f_MD_write a4 (nI c) v_x_disk_headThere v_m_headPages v_m_records v_x_up v_x_armed v_m_disk v_m_recordPage v_m_recordBytes = some (0, nI (n 65), 1, nI c, tx, 0, -1, md', tp, tb) := by
      rw [f_MD_write, y2, q_MD_write_93, c2, pu_b2_s, pu_br_t rfl, g5, q_MD_write_248, d2, pu_b2_s, pu_br_f (by decide), f_MD_fall, pu_b3_s, pu_ck_t pu_bz0]
    refine ⟨-3, 0, -1, w4, 1, nI c, sh, nI (n 65), w, nI c, sb, sr, w6, hX _ ?_, nI (n 65), 1, nI c, tx, 0, -1, a4, md', tp, tb, hM _ ?_, hdr, ua0, n 65, rf_mix (rf_cc n) d (n 65 + 1), ⟨mbt, rfl, by omega, by omega, g2, g3⟩, rfl, rfl, Or.inr rfl, fun _ => rf_jr_of hbt hJ h2' h24 j5, nd0 _⟩
    · rw [y1, pu_b6_s, pu_br_f (by decide), hXh, pu_b4_s, pu_br_f (by decide), g4, pu_b4_s, pu_br_f (by decide), f_RF_dropHead, d1, pu_b2_s, pu_br_f (by decide), pu_b3_s, pu_br_t rfl, q_RF_commit_75, f_RF_goDown, pu_b2_s]
    · rw [hfin, pu_b10_s, pu_br_t rfl]
  · have hfin : f_MD_write a4 (nI c) v_x_disk_headThere v_m_headPages v_m_records v_x_up v_x_armed v_m_disk v_m_recordPage v_m_recordBytes = some (1, nI (n 65), 0, nI c, tx, v_x_up, ar3, md', tp, tb) := by
      rw [f_MD_write, y2, q_MD_write_93, c2, pu_b2_s, pu_br_t rfl, g5, q_MD_write_248, d2, pu_b2_s, pu_br_t rfl]
    have mix65 : rf_mix (rf_cc n) d (n 65 + 1) 65 = n 65 := by
      unfold rf_mix
      rw [if_pos ⟨by omega, by omega⟩]; exact c65
    have wfd : WF (rf_mix (rf_cc n) d (n 65 + 1)) := hWc n _ (fun k k1 k2 k8 k9 => by
      unfold rf_mix
      rw [if_pos ⟨k1, k2⟩]
      unfold rf_cc
      rw [if_neg k8, if_neg k9]) j6
    refine ⟨nI cn', v_x_up, ar3, w4, 0, nI c, sh, nI (n 65), w, nI c, sb, sr, w6, hX _ ?_, nI (n 65), 0, nI c, tx, v_x_up, ar3, a4, md', tp, tb, hM _ ?_, hdr, ⟨rfl, e2, rfl, d3⟩, n 65, rf_mix (rf_cc n) d (n 65 + 1), ⟨mbt, rfl, by omega, by omega, g2, g3⟩, rfl, rfl, Or.inl rfl, nd0 _, fun _ => ⟨rfl, mix65, wfd, rf_cc n, ⟨cbt, by rw [c65], by rw [c65]; exact n2, by rw [c65]; exact n24, q2, b1⟩, by rw [c65]; exact Nat.le_refl _, wfn⟩⟩
    · rw [y1, pu_b6_s, pu_br_f (by decide), hXh, pu_b4_s, pu_br_f (by decide), g4, pu_b4_s, pu_br_f (by decide), f_RF_dropHead, d1, pu_b2_s, pu_br_t rfl, pu_b3_s, pu_br_f (by decide)]
    · rw [hfin, pu_b10_s, pu_br_f (by decide)]
end RFT
