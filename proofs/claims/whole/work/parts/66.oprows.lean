section RFRX
variable {n : Nat → Nat} {c : Nat}
theorem rf_rs_le : ∀ {L : List Nat}, (∀ p ∈ L, rf_gd n c 1 p) → rf_rs n c L ≤ 30 * L.length
  | [], _ => Nat.le_refl _
  | p :: L, h => by
    have h1 := (h p List.mem_cons_self).2.2.1.2.2.2.1
    have h2 := rf_rs_le (L := L) (fun q hq => h q (List.mem_cons_of_mem _ hq))
    show rf_gb n c p 1 + rf_rs n c L ≤ 30 * (L.length + 1)
    omega
theorem rf_lev0 {p : Nat} (h : rf_tr n c 23 p) : [(p, 0)].flatMap (rf_lev n c) = rf_lv n c 23 p := by
  rw [List.flatMap_singleton]
  unfold rf_lev
  dsimp only
  rw [rf_lv]
  by_cases k : rf_gb n c p 0 = 13
  · rw [if_pos k, if_pos k]
  · rw [if_neg k, if_neg k, Nat.sub_zero]
    exact rf_ls_congr _ _ (fun i _ hi => (rf_mono1 ((h.2.2.2.2 (h.2.2.1.1.resolve_left k)).2.2 i (by omega))).2.2.2)
theorem rf_mu0 {p : Nat} (h : rf_tr n c 23 p) (hp : rf_np n c 23 p ≤ 23) : rf_mu n c [(p, 0)] < 2000 := by
  rw [rf_mu, rf_mu]
  dsimp only
  by_cases k : rf_gb n c p 0 = 13
  · rw [if_pos k]; omega
  · rw [if_neg k, rf_ws_kd]
    rw [rf_np, if_neg k] at hp
    have : rf_su (fun i => rf_np n c 23 (rf_kid (rf_gb n c p) (0 + i))) (rf_gb n c p 1 + 1 - 0) = rf_su (fun i => rf_np n c 22 (rf_kid (rf_gb n c p) i)) (rf_gb n c p 1 + 1) := rf_su_congr _ (fun i hi => by
      rw [Nat.zero_add]; exact (rf_mono1 ((h.2.2.2.2 (h.2.2.1.1.resolve_left k)).2.2 i (by omega))).2.2.1)
    omega
theorem rf_walk {mn : Nat → Int32} (hn : rf_bt n) (hmn : rf_md mn n) (hc : c ≤ 24) (ht : rf_tr n c 23 (n 70)) (hp : rf_np n c 23 (n 70) ≤ 23) (h23 : (rf_lv n c 23 (n 70)).length ≤ 23) (deep at' bad x1 : Int32) (way turn : Nat → Int32) (hx : x1 = -1 ∨ ∃ i, i < 2 ^ 31 ∧ x1 = nI i) :
    ∃ r d' a' b' w' t', f_MD_walk mn deep at' bad way turn x1 = some (r, d', a', b', w', t') ∧ (x1 = -1 → r = nI (rf_rs n c (rf_lv n c 23 (n 70)))) ∧ ∀ i, i < 2 ^ 31 → x1 = nI i → r = rf_ka n c (rf_lv n c 23 (n 70)) i := by
  have hL : ∀ p ∈ rf_lv n c 23 (n 70), rf_gd n c 1 p := fun p hp => (rf_lv_mem ht hp).1
  have hrs := rf_rs_le hL
  have e0 : (0 : Int32).toNatClampNeg = 0 := by decide
  have hF : f_MD_walk mn deep at' bad way turn x1 = q_MD_walk_24 (fun v_deep v_way v_turn x_2 x_3 => q_MD_walk_105 mn v_deep at' bad v_way v_turn x1 x_2 x_3) (fun v_deep v_way v_turn x_2 => q_MD_walk_191 mn v_deep at' bad v_way v_turn x1 x_2) mn at' bad x1 pu_fu (nI [(n 70, 0)].length + -1) (upd way 0 (nI (n 70))) (upd turn 0 0) (nI 0) := by
    rw [f_MD_walk, rf_mroot hmn, pu_b1_s, pu_ck_t (by unfold vp_in; decide), e0, pu_nm, pu_ck_t (by unfold vp_in; decide), pu_nm, show nI [(n 70, 0)].length + -1 = (0 : Int32) from (by decide : nI 1 + -1 = (0 : Int32)), show nI 0 = (0 : Int32) from rfl]
  have hgo := rf_walk_go (n := n) (c := c) hn hmn hc (kx105 := fun v_deep v_way v_turn x_2 x_3 => q_MD_walk_105 mn v_deep at' bad v_way v_turn x1 x_2 x_3) (kx191 := fun v_deep v_way v_turn x_2 => q_MD_walk_191 mn v_deep at' bad v_way v_turn x1 x_2) (at' := at') (bad := bad) (x1 := x1) (rf_mu n c [(n 70, 0)]) pu_fu 0 [(n 70, 0)] (upd way 0 (nI (n 70))) (upd turn 0 0) rfl (by rw [rf_fu]; exact rf_mu0 ht hp) ⟨ht, Nat.zero_le _, trivial⟩ ⟨pk_us, pk_us, trivial⟩ (by rw [rf_lev0 ht]; omega) (by
    rcases hx with h | ⟨i, h1, h2⟩
    · exact Or.inl h
    · exact Or.inr ⟨i, h1, h2, Nat.zero_le _⟩)
  rw [← hF, rf_lev0 ht, Nat.zero_add] at hgo
  have hneg : ∀ i, i < 2 ^ 31 → ¬ (-1 : Int32) = nI i := fun i hi q => by
    have := congrArg Int32.toInt q
    rw [nI_toInt hi, show (-1 : Int32).toInt = -1 by decide] at this
    omega
  rcases hgo with ⟨d', w', t', q1, q2⟩ | ⟨i, d', w', t', r', p, q1, q2, q3, q4, q5, q6, q7⟩
  · rw [q_MD_walk_191] at q1
    rcases hx with h | ⟨i, h1, h2⟩
    · refine ⟨_, _, _, _, _, _, by rw [q1, pu_br_f (by rw [h]; decide)], fun _ => rfl, fun i hi e => absurd (h.symm.trans e) (hneg i hi)⟩
    · refine ⟨_, _, _, _, _, _, by rw [q1, pu_br_t (by rw [h2]; exact nI_pos' h1)], fun e => absurd (e.symm.trans h2) (hneg i h1), fun j hj e => ?_⟩
      have := q2 j hj e
      rw [Nat.sub_zero] at this
      exact this.symm
  · obtain ⟨kk, z, hky⟩ := q5.2.2.2.1 (i - r') q4
    obtain ⟨a', ha'⟩ := rf_keyAt hn hmn (p := p) (c := c) (by have := q5.1; omega) q5.2.1 hc q5.2.2.1 q4 hky at' bad
    rw [q_MD_walk_105, q2, pk_sub q3, ha', pu_b3_s] at q7
    rw [q2]
    refine ⟨_, _, _, _, _, _, q7, fun e => absurd e.symm (hneg i q1), fun j hj e => ?_⟩
    have : i = j := (nI_eq q1 hj).mp e
    subst this
    rw [Nat.sub_zero] at q6
    rw [q6, hky]
    rfl
variable {WF : (Nat → Nat) → Prop}
theorem opp_rows (hWF : ∀ n, WF n → rf_wf n) : op_rows (in_v WF) := by
  intro v_x_up v_x_armed v_x_draft_count v_x_draft_codes v_x_draft_numbers v_x_draft_blobs v_x_now_count v_x_now_bytes v_x_before_count v_x_before_bytes v_x_disk_headThere v_x_disk_headPages v_x_disk_headRecords v_x_disk_file_count v_x_disk_file_bytes v_x_disk_records_count v_x_disk_records_bytes v_x_disk_recorded v_x_disk_different v_x_row_length v_x_row_count v_x_row_bytes v_x_row_codes v_x_row_starts v_x_node_count v_x_node_last v_x_node_leaf v_x_node_bytes v_x_node_starts v_x_node_sizes v_x_tree_depth v_x_tree_slot v_x_tree_cellSize v_x_tree_path v_x_tree_slots v_x_tree_cell v_x_tree_waiting v_x_tree_leaves v_x_check_treeSize v_x_check_reached v_x_check_treePages v_x_check_lows v_x_check_highs v_m_onDisk v_m_head v_m_headPages v_m_records v_m_up v_m_armed v_m_columns v_m_length v_m_kind v_m_cells v_m_last v_m_made v_m_deep v_m_at v_m_bad v_m_now v_m_disk v_m_before v_m_recordPage v_m_recordBytes v_m_isBlob v_m_integer v_m_size v_m_blobs v_m_record v_m_cellLength v_m_row v_m_cell v_m_way v_m_turn v_m_used  hI
  obtain ⟨hdr, ⟨e1, e2, e3, e4⟩, c, d, h1, h2, h3, h4, h5, h6⟩ := hI
  subst e1; subst e3
  by_cases h0 : v_x_up = 0
  · refine ⟨-3, _, _, _, _, _, _, _, _, by rw [f_RF_rows, pu_br_t h0], _, _, _, _, _, by rw [f_MD_rows, pu_br_t h0], hdr, ⟨rfl, e2, rfl, e4⟩, c, d, h1, h2, h3, h4, h5, h6⟩
  · have h7 := h6 (rf_up1 e2 h0)
    obtain ⟨i1, i2, i3, n, ⟨b1, b2, b3, b4, b5, b6⟩, i4, i5⟩ := h7
    have hw := rf_wf_nf (hWF n i5) b4
    obtain ⟨cnt', last', leaf', b', st', sz', w', lv', q1, q2, q3⟩ := rf_listLeaves b1 b5 (by omega) b4 hw.1 hw.2.1 v_x_node_count v_x_node_last v_x_node_leaf v_x_node_bytes v_x_node_starts v_x_node_sizes v_x_tree_waiting v_x_tree_leaves
    have hcr := rf_countRows b1 b5 b4 (fun p hp => (rf_lv_mem hw.1 hp).1) q3 q2 cnt' last' leaf' b' st' sz' w'
    obtain ⟨r, d', a', bd', w2, t2, k1, k2, k3⟩ := rf_walk b1 b6 b4 hw.1 hw.2.1 q3 v_m_deep v_m_at v_m_bad (-1) v_m_way v_m_turn (Or.inl rfl)
    refine ⟨nI (rf_rs n (n 65) (rf_lv n (n 65) 23 (n 70))), cnt', last', leaf', b', st', sz', w', lv', ?_, d', a', bd', w2, t2, ?_, hdr, ⟨rfl, e2, rfl, e4⟩, c, d, h1, h2, h3, h4, h5, h6⟩
    · rw [f_RF_rows, pu_br_f h0, f_Tree_countRows, b2, q1, pu_b9_s, hcr, pu_b9_s]
    · rw [f_MD_rows, pu_br_f h0, k1, pu_b6_s, k2 rfl]
theorem opp_key (hWF : ∀ n, WF n → rf_wf n) : op_key (in_v WF) := by
  intro v_x_up v_x_armed v_x_draft_count v_x_draft_codes v_x_draft_numbers v_x_draft_blobs v_x_now_count v_x_now_bytes v_x_before_count v_x_before_bytes v_x_disk_headThere v_x_disk_headPages v_x_disk_headRecords v_x_disk_file_count v_x_disk_file_bytes v_x_disk_records_count v_x_disk_records_bytes v_x_disk_recorded v_x_disk_different v_x_row_length v_x_row_count v_x_row_bytes v_x_row_codes v_x_row_starts v_x_node_count v_x_node_last v_x_node_leaf v_x_node_bytes v_x_node_starts v_x_node_sizes v_x_tree_depth v_x_tree_slot v_x_tree_cellSize v_x_tree_path v_x_tree_slots v_x_tree_cell v_x_tree_waiting v_x_tree_leaves v_x_check_treeSize v_x_check_reached v_x_check_treePages v_x_check_lows v_x_check_highs v_m_onDisk v_m_head v_m_headPages v_m_records v_m_up v_m_armed v_m_columns v_m_length v_m_kind v_m_cells v_m_last v_m_made v_m_deep v_m_at v_m_bad v_m_now v_m_disk v_m_before v_m_recordPage v_m_recordBytes v_m_isBlob v_m_integer v_m_size v_m_blobs v_m_record v_m_cellLength v_m_row v_m_cell v_m_way v_m_turn v_m_used a_1 hI
  obtain ⟨hdr, ⟨e1, e2, e3, e4⟩, c, d, h1, h2, h3, h4, h5, h6⟩ := hI
  subst e1; subst e3
  by_cases h0 : v_x_up = 0
  · refine ⟨-1, _, _, _, _, _, _, _, _, by rw [f_RF_key, pu_br_t h0], _, _, _, _, _, by rw [f_MD_key, pu_br_t h0], hdr, ⟨rfl, e2, rfl, e4⟩, c, d, h1, h2, h3, h4, h5, h6⟩
  · have h7 := h6 (rf_up1 e2 h0)
    obtain ⟨i1, i2, i3, n, ⟨b1, b2, b3, b4, b5, b6⟩, i4, i5⟩ := h7
    have hw := rf_wf_nf (hWF n i5) b4
    obtain ⟨cnt', last', leaf', b', st', sz', w', lv', q1, q2, q3⟩ := rf_listLeaves b1 b5 (by omega) b4 hw.1 hw.2.1 v_x_node_count v_x_node_last v_x_node_leaf v_x_node_bytes v_x_node_starts v_x_node_sizes v_x_tree_waiting v_x_tree_leaves
    by_cases hn : a_1 < 0
    · refine ⟨-1, cnt', last', leaf', b', st', sz', w', lv', ?_, v_m_deep, v_m_at, v_m_bad, v_m_way, v_m_turn, ?_, hdr, ⟨rfl, e2, rfl, e4⟩, c, d, h1, h2, h3, h4, h5, h6⟩
      · rw [f_RF_key, pu_br_f h0, f_Tree_keyOfRow, b2, q1, pu_b9_s, show pu_fu = 1999 + 1 from rfl, q_Tree_keyOfRow_10]
        by_cases e : nI (rf_lv n (n 65) 23 (n 70)).length ≤ (0 : Int32)
        · rw [pu_br_t e, pu_b9_s]
        · rw [pu_br_f e, pu_br_t hn, pu_b9_s]
      · rw [f_MD_key, pu_br_f h0, pu_br_t hn]
    · obtain ⟨i, hi, rfl⟩ := rf_int hn
      obtain ⟨cn2, la2, le2, bb2, ss2, sz2, hk⟩ := rf_keyOf b1 b5 b4 (fun p hp => (rf_lv_mem hw.1 hp).1) q3 q2 cnt' last' leaf' b' st' sz' w' (rf_lv n (n 65) 23 (n 70)) 0 i pu_fu (by omega) (fun j => by rw [Nat.zero_add]) (by rw [rf_fu]; omega) hi
      obtain ⟨r, d', a', bd', w2, t2, k1, k2, k3⟩ := rf_walk b1 b6 b4 hw.1 hw.2.1 q3 v_m_deep v_m_at v_m_bad (nI i) v_m_way v_m_turn (Or.inr ⟨i, hi, rfl⟩)
      have hk' : q_Tree_keyOfRow_10 (fun x_2 x_4 => q_Tree_keyOfRow_43 (nI (n 65)) v_x_now_bytes cnt' last' leaf' b' st' sz' w' lv' x_2 x_4) (nI (n 65)) v_x_now_bytes cnt' last' leaf' b' st' sz' w' lv' (nI (rf_lv n (n 65) 23 (n 70)).length) pu_fu (nI i) 0 = _ := hk
      refine ⟨rf_ka n (n 65) (rf_lv n (n 65) 23 (n 70)) i, cn2, la2, le2, bb2, ss2, sz2, w', lv', ?_, d', a', bd', w2, t2, ?_, hdr, ⟨rfl, e2, rfl, e4⟩, c, d, h1, h2, h3, h4, h5, h6⟩
      · rw [f_RF_key, pu_br_f h0, f_Tree_keyOfRow, b2, q1, pu_b9_s, hk', pu_b9_s]
      · rw [f_MD_key, pu_br_f h0, pu_br_f hn, k1, pu_b6_s, k3 i hi rfl]
end RFRX
