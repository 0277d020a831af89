section RFOI
theorem rf_mbefore {n : Nat → Nat} {mn before : Nat → Int32} (hmn : rf_md mn n) (kx : (Nat → Int32) → Option (Int32 × Int32 × Int32 × Int32 × Int32 × Int32 × Int32 × Int32 × Int32 × (Nat → Int32) × (Nat → Int32) × (Nat → Int32) × (Nat → Int32) × (Nat → Int32) × (Nat → Int32) × (Nat → Int32) × (Nat → Int32))) (up cols : Int32) (isb : Nat → Int32) (int : Nat → Int64) (size blobs : Nat → Int32) (len kind cells last made deep at' bad : Int32) (rec cl row cell way turn : Nat → Int32) (x1 : Int32) :
    ∃ w, q_MD_insert_41 kx up cols isb int size blobs len kind cells last made deep at' bad mn rec cl row cell way turn x1 pu_fu before 0 = kx w ∧ rf_md w n := by
  refine rf_loop (fun f x i => q_MD_insert_41 kx up cols isb int size blobs len kind cells last made deep at' bad mn rec cl row cell way turn x1 f x (nI i)) (fun i x => ∀ j, j < i → x j = nI (n j)) (fun r => ∃ w, r = kx w ∧ rf_md w n) 1600 ?_ ?_ 1600 pu_fu before 0 (by omega) (by rw [rf_fu]; omega) (fun j hj => by omega)
  · intro f x hx
    refine ⟨x, ?_, hx⟩
    show q_MD_insert_41 kx up cols isb int size blobs len kind cells last made deep at' bad mn rec cl row cell way turn x1 (f + 1) x (nI 1600) = _
    rw [q_MD_insert_41, pu_br_t (show (1600 : Int32) ≤ nI 1600 by decide)]
  · intro f x i hi hx
    refine Or.inl ⟨upd x i (nI (n i)), fun j hj => ?_, ?_⟩
    · by_cases e : j = i
      · subst e; rw [pk_us]
      · rw [pk_un e]; exact hx j (by omega)
    · show q_MD_insert_41 kx up cols isb int size blobs len kind cells last made deep at' bad mn rec cl row cell way turn x1 (f + 1) x (nI i) = q_MD_insert_41 kx up cols isb int size blobs len kind cells last made deep at' bad mn rec cl row cell way turn x1 f (upd x i (nI (n i))) (nI (i + 1))
      rw [q_MD_insert_41, pu_br_f (show ¬ (1600 : Int32) ≤ nI i from nI_ge (b := 1600) hi (by omega)), pu_ck_t (vp_in_nI hi (by decide)), pu_ck_t (vp_in_nI hi (by decide)), nI_clamp (by omega), hmn i hi, pu_nm, nI_1, pu_nm]
variable {WF : (Nat → Nat) → Prop}
theorem opp_insert (hWF : ∀ n, WF n ↔ rf_wf n) : op_insert (in_v WF) := by
  intro v_x_up v_x_armed v_x_draft_count v_x_draft_codes v_x_draft_numbers v_x_draft_blobs v_x_now_count v_x_now_bytes v_x_before_count v_x_before_bytes v_x_disk_headThere v_x_disk_headPages v_x_disk_headRecords v_x_disk_file_count v_x_disk_file_bytes v_x_disk_records_count v_x_disk_records_bytes v_x_disk_recorded v_x_disk_different v_x_row_length v_x_row_count v_x_row_bytes v_x_row_codes v_x_row_starts v_x_node_count v_x_node_last v_x_node_leaf v_x_node_bytes v_x_node_starts v_x_node_sizes v_x_tree_depth v_x_tree_slot v_x_tree_cellSize v_x_tree_path v_x_tree_slots v_x_tree_cell v_x_tree_waiting v_x_tree_leaves v_x_check_treeSize v_x_check_reached v_x_check_treePages v_x_check_lows v_x_check_highs v_m_onDisk v_m_head v_m_headPages v_m_records v_m_up v_m_armed v_m_columns v_m_length v_m_kind v_m_cells v_m_last v_m_made v_m_deep v_m_at v_m_bad v_m_now v_m_disk v_m_before v_m_recordPage v_m_recordBytes v_m_isBlob v_m_integer v_m_size v_m_blobs v_m_record v_m_cellLength v_m_row v_m_cell v_m_way v_m_turn v_m_used a_1 hI
  obtain ⟨hdr, ⟨e1, e2, e3, e4⟩, c, d, h1, h2, h3, h4, h5, h6⟩ := hI
  subst e1; subst e3
  by_cases h0 : v_x_up = 0
  · refine ⟨-3, _, _, _, _, _, _, _, _, _, _, _, _, _, _, _, _, _, _, by rw [f_RF_insert, pu_br_t h0], _, _, _, _, _, _, _, _, _, _, _, _, _, _, _, _, by rw [f_MD_insert, pu_br_t h0], hdr, ⟨rfl, e2, rfl, e4⟩, c, d, h1, h2, h3, h4, h5, h6⟩
  have h7 := h6 (rf_up1 e2 h0)
  have hdr0 := hdr
  obtain ⟨K, hK, ec, em, hcol⟩ := hdr
  by_cases hK0 : K = 0
  · have ec0 : v_x_draft_count = 0 := by rw [ec, hK0]; rfl
    have em0 : v_m_columns = 0 := by rw [em, hK0]; rfl
    refine ⟨-1, _, _, _, _, _, _, _, _, _, _, _, _, _, _, _, _, _, _, by rw [f_RF_insert, pu_br_f h0, pu_br_t ec0], _, _, _, _, _, _, _, _, _, _, _, _, _, _, _, _, by rw [f_MD_insert, pu_br_f h0, pu_br_t em0], hdr0, ⟨rfl, e2, rfl, e4⟩, c, d, h1, h2, h3, h4, h5, h6⟩
  have ec0 : ¬ v_x_draft_count = 0 := by rw [ec]; exact nI_ne0 (by omega) (by omega)
  have em0 : ¬ v_m_columns = 0 := by rw [em]; exact nI_ne0 (by omega) (by omega)
  by_cases hk0 : a_1 < 0
  · refine ⟨-1, _, _, _, _, _, _, _, _, _, _, _, _, _, _, _, _, _, _, by rw [f_RF_insert, pu_br_f h0, pu_br_f ec0, pu_br_t hk0], _, _, _, _, _, _, _, _, _, _, _, _, _, _, _, _, by rw [f_MD_insert, pu_br_f h0, pu_br_f em0, pu_br_t hk0], hdr0, ⟨rfl, e2, rfl, e4⟩, c, d, h1, h2, h3, h4, h5, h6⟩
  by_cases hk1 : a_1 ≤ 1000000
  case neg =>
    refine ⟨-1, _, _, _, _, _, _, _, _, _, _, _, _, _, _, _, _, _, _, by rw [f_RF_insert, pu_br_f h0, pu_br_f ec0, pu_br_f hk0, pu_br_f hk1], _, _, _, _, _, _, _, _, _, _, _, _, _, _, _, _, by rw [f_MD_insert, pu_br_f h0, pu_br_f em0, pu_br_f hk0, pu_br_f hk1], hdr0, ⟨rfl, e2, rfl, e4⟩, c, d, h1, h2, h3, h4, h5, h6⟩
  obtain ⟨kk, hkk, ek⟩ := nI_of2 (M := (1000000 : Int32)) (n := 1000000) (by decide) hk0 hk1
  subst ek
  obtain ⟨i1, i2, i3, n, ⟨b1, b2, b3, b4, b5, b6⟩, i4, i5⟩ := h7
  have hw := rf_wf_nf ((hWF n).mp i5) b4
  obtain ⟨k, cnt', last', leaf', b', st', sz', path', slots', q1, q2, q3, q4, q5, q6, q7, q8⟩ := rf_find b1 b5 (by omega) b4 (nI kk) (D := 23) (by omega) (rf_tr_gd hw.1) v_x_tree_depth v_x_tree_slot v_x_node_count v_x_node_last v_x_node_leaf v_x_node_bytes v_x_node_starts v_x_node_sizes v_x_tree_path v_x_tree_slots
  obtain ⟨a', bd', way', turn', p1, p2, p3, p4⟩ := rf_mfind b1 b6 (by omega) b4 (nI kk) hw.1 q1 q2 q3 v_m_length v_m_deep v_m_at v_m_bad v_m_record v_m_way v_m_turn
  by_cases hf : rf_fd (rf_gb n (n 65) (rf_way n (n 65) (nI kk) (n 70) k)) (nI kk) (rf_sl n (n 65) (nI kk) (rf_way n (n 65) (nI kk) (n 70) k))
  · obtain ⟨w, p5, p6⟩ := p3 hf
    rw [rf_dv_t hf] at q5
    refine ⟨0, v_x_now_count, v_x_now_bytes, v_x_before_count, v_x_before_bytes, v_x_row_length, v_x_row_bytes, cnt', last', leaf', b', st', sz', nI k, nI (rf_sl n (n 65) (nI kk) (rf_way n (n 65) (nI kk) (n 70) k)), v_x_tree_cellSize, path', slots', v_x_tree_cell, ?_, nI (rf_cL (rf_gb n (n 65) (rf_way n (n 65) (nI kk) (n 70) k)) (rf_sl n (n 65) (nI kk) (rf_way n (n 65) (nI kk) (n 70) k))), v_m_kind, v_m_cells, v_m_last, v_m_made, nI k, a', bd', v_m_now, v_m_before, w, v_m_cellLength, v_m_row, v_m_cell, way', turn', ?_, hdr0, ⟨rfl, e2, rfl, e4⟩, c, d, h1, h2, h3, h4, h5, h6⟩
    · rw [f_RF_insert, pu_br_f h0, pu_br_f ec0, pu_br_f hk0, pu_br_t hk1, b2, q5, pu_b11_s, pu_br_f (by decide)]
    · rw [f_MD_insert, pu_br_f h0, pu_br_f em0, pu_br_f hk0, pu_br_t hk1, p5, pu_b8_s, pu_br_f (by decide)]
  · have p5 := p4 hf
    rw [rf_dv_f hf] at q5
    have H : rf_hy n (n 65) (nI kk) (n 70) k := ⟨b1, b3, b4, hw.1, q1, q2, q3, hw.2.2.1, hw.2.2.2⟩
    obtain ⟨cd, hcd⟩ := Classical.skolem.mp (fun j => show ∃ cd, ∃ vv, j < K → rf_cq j cd vv v_x_draft_codes v_x_draft_numbers v_x_draft_blobs v_m_isBlob v_m_integer v_m_size v_m_blobs from by
      by_cases e : j < K
      · obtain ⟨cd, vv, h⟩ := rf_col_cq (hcol j e)
        exact ⟨cd, vv, fun _ => h⟩
      · exact ⟨0, fun _ => 0, fun q => absurd q e⟩)
    obtain ⟨vv0, hvv⟩ := Classical.skolem.mp hcd
    -- bytes everywhere
    obtain ⟨vv, hq, hvl⟩ : ∃ vv : Nat → Nat → Nat, (∀ j, j < K → rf_cq j (cd j) (vv j) v_x_draft_codes v_x_draft_numbers v_x_draft_blobs v_m_isBlob v_m_integer v_m_size v_m_blobs) ∧ ∀ j i, vv j i < 256 := by
      refine ⟨fun j => if j < K then vv0 j else fun _ => 0, fun j hj => by dsimp only; rw [if_pos hj]; exact hvv j hj, fun j i => ?_⟩
      dsimp only
      by_cases e : j < K
      · rw [if_pos e]; exact (hvv j e).2.2.1 i
      · rw [if_neg e]; omega
    have hvc : ∀ j, j < K → rf_vc (cd j) := fun j hj => (hq j hj).2.1
    obtain ⟨f1, f2⟩ := rf_er_f hvc hK
    have wq := rf_er_wq (by omega) hK hq
    obtain ⟨rb, r1, r2⟩ := rf_encode (by omega) hK hq v_x_row_length v_x_row_bytes
    obtain ⟨rec, s1, s2⟩ := rf_mencode (by omega) hK hq v_m_length v_m_record
    obtain ⟨bf, t1, t2⟩ := rf_copyAll (c1 := v_x_now_count) (c2 := v_x_before_count) (b2 := v_x_before_bytes) b5
    obtain ⟨mbf, u1, u2⟩ := rf_mbefore (before := v_m_before) b6 (fun v_before => q_MD_insert_66 v_x_up v_m_columns v_m_isBlob v_m_integer v_m_size v_m_blobs v_m_length v_m_kind v_m_cells v_m_last v_m_made (nI k) a' bd' v_m_now v_before v_m_record v_m_cellLength v_m_row v_m_cell way' turn' (nI kk)) v_x_up v_m_columns v_m_isBlob v_m_integer v_m_size v_m_blobs v_m_length v_m_kind v_m_cells v_m_last v_m_made (nI k) a' bd' v_m_record v_m_cellLength v_m_row v_m_cell way' turn' (nI kk)
    have fin := rf_place H (by omega) (rf_er_lt hK hvc hvl) f2 ⟨K, cd, _, wq⟩ (cs := v_x_tree_cellSize) (cell := v_x_tree_cell) b5 r2 q6 q7 q8 (rec0 := v_m_record) (mcell := v_m_cell) (cl := v_m_cellLength) (row := v_m_row) (way := way') (turn := turn') b6 s2 u2 v_x_up (nI K) v_m_isBlob v_m_integer v_m_size v_m_blobs v_m_length v_m_kind v_m_cells v_m_last v_m_made (nI k) a' bd' s1
    have xh : ∀ q, pu_b13 (f_Tree_place (nI k) (nI (rf_sl n (n 65) (nI kk) (rf_way n (n 65) (nI kk) (n 70) k))) (nI (rf_hh K cd + rf_su (fun j => rf_sz (cd j)) K)) rb v_x_tree_cellSize (nI (n 65)) v_x_now_bytes cnt' last' leaf' b' st' sz' path' slots' v_x_tree_cell (nI kk)) (fun r18 w19 w20 w21 w22 w23 w24 w25 w26 w27 w28 w29 w30 => pu_br (r18 = 0) (pu_b2 (f_Pages_copyAll v_x_now_count bf w20 w21) (fun w32 w33 => some (-2, w32, w33, v_x_now_count, bf, nI (rf_hh K cd + rf_su (fun j => rf_sz (cd j)) K), rb, w22, w23, w24, w25, w26, w27, nI k, nI (rf_sl n (n 65) (nI kk) (rf_way n (n 65) (nI kk) (n 70) k)), w19, w28, w29, w30))) (some (1, w20, w21, v_x_now_count, bf, nI (rf_hh K cd + rf_su (fun j => rf_sz (cd j)) K), rb, w22, w23, w24, w25, w26, w27, nI k, nI (rf_sl n (n 65) (nI kk) (rf_way n (n 65) (nI kk) (n 70) k)), w19, w28, w29, w30))) = q → f_RF_insert v_x_up v_x_draft_count v_x_draft_codes v_x_draft_numbers v_x_draft_blobs v_x_now_count v_x_now_bytes v_x_before_count v_x_before_bytes v_x_row_length v_x_row_bytes v_x_node_count v_x_node_last v_x_node_leaf v_x_node_bytes v_x_node_starts v_x_node_sizes v_x_tree_depth v_x_tree_slot v_x_tree_cellSize v_x_tree_path v_x_tree_slots v_x_tree_cell (nI kk) = q := by
      intro q hq
      rw [f_RF_insert, pu_br_f h0, pu_br_f ec0, pu_br_f hk0, pu_br_t hk1]
      rw [ec] at ec0 ⊢
      rw [← b2] at q5
      rw [q5, pu_b11_s, pu_br_t (show nI 0 = (0 : Int32) from rfl), t1, pu_b2_s, r1, pu_b2_s]
      rw [← b2] at hq
      exact hq
    have mh : ∀ q, q_MD_insert_66 v_x_up v_m_columns v_m_isBlob v_m_integer v_m_size v_m_blobs v_m_length v_m_kind v_m_cells v_m_last v_m_made (nI k) a' bd' v_m_now mbf v_m_record v_m_cellLength v_m_row v_m_cell way' turn' (nI kk) = q → f_MD_insert v_x_up v_m_columns v_m_isBlob v_m_integer v_m_size v_m_blobs v_m_length v_m_kind v_m_cells v_m_last v_m_made v_m_deep v_m_at v_m_bad v_m_now v_m_before v_m_record v_m_cellLength v_m_row v_m_cell v_m_way v_m_turn (nI kk) = q := by
      intro q hq
      rw [f_MD_insert, pu_br_f h0, pu_br_f em0, pu_br_f hk0, pu_br_t hk1, p5, pu_b8_s, pu_br_t rfl, u1]
      exact hq
    rw [← em] at fin
    rcases fin with ⟨cs, pc, pb, cnt, last, leaf, nb, st, sz, path, slots, cell, x1, kind, cells, mlast, made, deep, at', bad, now, cl, row, mcell, way, turn, y1, y2⟩ | ⟨m', cs, pb, cnt, last, leaf, nb, st, sz, path, slots, cell, x1, x2, x3, x4, x5, x6, kind, cells, mlast, made, deep, at', bad, now, cl, row, mcell, way, turn, y1, y2⟩
    · obtain ⟨nw, z1, z2⟩ := rf_copyAll (c1 := v_x_now_count) (c2 := pc) (b2 := pb) t2
      refine ⟨-2, v_x_now_count, nw, v_x_now_count, bf, nI (rf_hh K cd + rf_su (fun j => rf_sz (cd j)) K), rb, cnt, last, leaf, nb, st, sz, nI k, nI (rf_sl n (n 65) (nI kk) (rf_way n (n 65) (nI kk) (n 70) k)), cs, path, slots, cell, xh _ ?_, nI (rf_hh K cd + rf_su (fun j => rf_sz (cd j)) K), kind, cells, mlast, made, deep, at', bad, now, mbf, rec, cl, row, mcell, way, turn, mh _ y1, hdr0, ⟨rfl, e2, rfl, e4⟩, c, d, h1, h2, h3, h4, h5, fun _ => ⟨i1, i2, i3, n, ⟨b1, b2, b3, b4, z2, y2⟩, i4, i5⟩⟩
      rw [x1, pu_b13_s, pu_br_t rfl, z1, pu_b2_s]
    · refine ⟨1, nI (m' 65), pb, v_x_now_count, bf, nI (rf_hh K cd + rf_su (fun j => rf_sz (cd j)) K), rb, cnt, last, leaf, nb, st, sz, nI k, nI (rf_sl n (n 65) (nI kk) (rf_way n (n 65) (nI kk) (n 70) k)), cs, path, slots, cell, xh _ ?_, nI (rf_hh K cd + rf_su (fun j => rf_sz (cd j)) K), kind, cells, mlast, made, deep, at', bad, now, mbf, rec, cl, row, mcell, way, turn, mh _ y1, hdr0, ⟨rfl, e2, rfl, e4⟩, c, d, h1, h2, h3, h4, h5, fun _ => ⟨i1, i2, i3, m', ⟨x3, rfl, by omega, x6, x2, y2⟩, by omega, (hWF m').mpr x4⟩⟩
      rw [x1, pu_b13_s, pu_br_f (by decide)]
end RFOI
