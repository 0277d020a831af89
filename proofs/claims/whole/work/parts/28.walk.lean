theorem d_MD_journal_0 : decode b_MD_journal 0 = .ok (.iload_n 1, 1) := by decide +kernel
theorem d_MD_journal_1 : decode b_MD_journal 1 = .ok (.tableswitch 81 0 3 #[31, 44, 60, 76], 31) := by decide +kernel
theorem d_MD_journal_32 : decode b_MD_journal 32 = .ok (.aload_n 0, 1) := by decide +kernel
theorem d_MD_journal_33 : decode b_MD_journal 33 = .ok (.getfield 223, 3) := by decide +kernel
theorem d_MD_journal_36 : decode b_MD_journal 36 = .ok (.ifCond .eq 7, 3) := by decide +kernel
theorem d_MD_journal_39 : decode b_MD_journal 39 = .ok (.iconst 1, 1) := by decide +kernel
theorem d_MD_journal_40 : decode b_MD_journal 40 = .ok (.goto 4, 3) := by decide +kernel
theorem d_MD_journal_43 : decode b_MD_journal 43 = .ok (.iconst 0, 1) := by decide +kernel
theorem d_MD_journal_44 : decode b_MD_journal 44 = .ok (.ireturn, 1) := by decide +kernel
theorem d_MD_journal_45 : decode b_MD_journal 45 = .ok (.aload_n 0, 1) := by decide +kernel
theorem d_MD_journal_46 : decode b_MD_journal 46 = .ok (.getfield 223, 3) := by decide +kernel
theorem d_MD_journal_49 : decode b_MD_journal 49 = .ok (.ifCond .eq 10, 3) := by decide +kernel
theorem d_MD_journal_52 : decode b_MD_journal 52 = .ok (.aload_n 0, 1) := by decide +kernel
theorem d_MD_journal_53 : decode b_MD_journal 53 = .ok (.getfield 226, 3) := by decide +kernel
theorem d_MD_journal_56 : decode b_MD_journal 56 = .ok (.goto 4, 3) := by decide +kernel
theorem d_MD_journal_59 : decode b_MD_journal 59 = .ok (.iconst 0, 1) := by decide +kernel
theorem d_MD_journal_60 : decode b_MD_journal 60 = .ok (.ireturn, 1) := by decide +kernel
theorem d_MD_journal_61 : decode b_MD_journal 61 = .ok (.aload_n 0, 1) := by decide +kernel
theorem d_MD_journal_62 : decode b_MD_journal 62 = .ok (.getfield 223, 3) := by decide +kernel
theorem d_MD_journal_65 : decode b_MD_journal 65 = .ok (.ifCond .eq 10, 3) := by decide +kernel
theorem d_MD_journal_68 : decode b_MD_journal 68 = .ok (.aload_n 0, 1) := by decide +kernel
theorem d_MD_journal_69 : decode b_MD_journal 69 = .ok (.getfield 229, 3) := by decide +kernel
theorem d_MD_journal_72 : decode b_MD_journal 72 = .ok (.goto 4, 3) := by decide +kernel
theorem d_MD_journal_75 : decode b_MD_journal 75 = .ok (.iconst 0, 1) := by decide +kernel
theorem d_MD_journal_76 : decode b_MD_journal 76 = .ok (.ireturn, 1) := by decide +kernel
theorem d_MD_journal_77 : decode b_MD_journal 77 = .ok (.aload_n 0, 1) := by decide +kernel
theorem d_MD_journal_78 : decode b_MD_journal 78 = .ok (.getfield 19, 3) := by decide +kernel
theorem d_MD_journal_81 : decode b_MD_journal 81 = .ok (.ireturn, 1) := by decide +kernel
theorem d_MD_journal_82 : decode b_MD_journal 82 = .ok (.iconst (-1), 1) := by decide +kernel
theorem d_MD_journal_83 : decode b_MD_journal 83 = .ok (.ireturn, 1) := by decide +kernel
noncomputable def f_MD_journal (v_onDisk : Int32) (v_head : Int32) (v_headPages : Int32) (v_records : Int32) (x_1 : Int32) : Option (Int32) :=
  pu_br (x_1 = 0) (pu_br (v_head = 0) (some (0 : Int32)) (some (1 : Int32))) (pu_br (x_1 = 1) (pu_br (v_head = 0) (some (0 : Int32)) (some v_headPages)) (pu_br (x_1 = 2) (pu_br (v_head = 0) (some (0 : Int32)) (some v_records)) (pu_br (x_1 = 3) (some v_onDisk) (some (-1 : Int32)))))
abbrev rm_MD_journal : Room := { frames := 0, cells := 0, slots := 0, locals := 0 }
set_option maxHeartbeats 8000000 in
set_option maxRecDepth 100000 in
theorem c_MD_journal (l : Launch) (D : va_G) (cI cJ cB cZ : ClassId) (sz : Nat) (q_this : Nat) (q_now : Nat) (q_disk : Nat) (q_before : Nat) (q_recordPage : Nat) (q_recordBytes : Nat) (q_isBlob : Nat) (q_integer : Nat) (q_size : Nat) (q_blobs : Nat) (q_record : Nat) (q_cellLength : Nat) (q_row : Nat) (q_cell : Nat) (q_way : Nat) (q_turn : Nat) (q_used : Nat) (v_onDisk : Int32) (v_head : Int32) (v_headPages : Int32) (v_records : Int32) (v_up : Int32) (v_armed : Int32) (v_columns : Int32) (v_length : Int32) (v_kind : Int32) (v_cells : Int32) (v_last : Int32) (v_made : Int32) (v_deep : Int32) (v_at : Int32) (v_bad : Int32) (x_1 : Int32) (o_r : Int32) (hf : f_MD_journal v_onDisk v_head v_headPages v_records x_1 = some o_r) : Met l y_MD_journal (.code y_MD_journal b_MD_journal 2 (some .int) :: pu_wA) rm_MD_journal (pu_pc D pu_cl (pu_ty cI cJ cB cZ) [.ref q_this, .int x_1] [(q_this, .inr (8, [.ref q_now, .ref q_disk, .ref q_before, .int v_onDisk, .int v_head, .int v_headPages, .int v_records, .ref q_recordPage, .ref q_recordBytes, .int v_up, .int v_armed, .int v_columns, .ref q_isBlob, .ref q_integer, .ref q_size, .ref q_blobs, .int v_length, .ref q_record, .int v_kind, .int v_cells, .int v_last, .ref q_cellLength, .ref q_row, .int v_made, .ref q_cell, .int v_deep, .ref q_way, .ref q_turn, .int v_at, .int v_bad, .ref q_used]))] sz) (pu_qi D pu_cl (pu_ty cI cJ cB cZ) [(q_this, .inr (8, [.ref q_now, .ref q_disk, .ref q_before, .int v_onDisk, .int v_head, .int v_headPages, .int v_records, .ref q_recordPage, .ref q_recordBytes, .int v_up, .int v_armed, .int v_columns, .ref q_isBlob, .ref q_integer, .ref q_size, .ref q_blobs, .int v_length, .ref q_record, .int v_kind, .int v_cells, .int v_last, .ref q_cellLength, .ref q_row, .int v_made, .ref q_cell, .int v_deep, .ref q_way, .ref q_turn, .int v_at, .int v_bad, .ref q_used]))] [(q_this, .inr (8, [.ref q_now, .ref q_disk, .ref q_before, .int v_onDisk, .int v_head, .int v_headPages, .int v_records, .ref q_recordPage, .ref q_recordBytes, .int v_up, .int v_armed, .int v_columns, .ref q_isBlob, .ref q_integer, .ref q_size, .ref q_blobs, .int v_length, .ref q_record, .int v_kind, .int v_cells, .int v_last, .ref q_cellLength, .ref q_row, .int v_made, .ref q_cell, .int v_deep, .ref q_way, .ref q_turn, .int v_at, .int v_bad, .ref q_used]))] sz o_r) 0 0 (va_A [(q_this, .inr (8, [.ref q_now, .ref q_disk, .ref q_before, .int v_onDisk, .int v_head, .int v_headPages, .int v_records, .ref q_recordPage, .ref q_recordBytes, .int v_up, .int v_armed, .int v_columns, .ref q_isBlob, .ref q_integer, .ref q_size, .ref q_blobs, .int v_length, .ref q_record, .int v_kind, .int v_cells, .int v_last, .ref q_cellLength, .ref q_row, .int v_made, .ref q_cell, .int v_deep, .ref q_way, .ref q_turn, .int v_at, .int v_bad, .ref q_used]))] sz) := by
  refine pu_mti [.ref q_this, .int x_1] [(q_this, .inr (8, [.ref q_now, .ref q_disk, .ref q_before, .int v_onDisk, .int v_head, .int v_headPages, .int v_records, .ref q_recordPage, .ref q_recordBytes, .int v_up, .int v_armed, .int v_columns, .ref q_isBlob, .ref q_integer, .ref q_size, .ref q_blobs, .int v_length, .ref q_record, .int v_kind, .int v_cells, .int v_last, .ref q_cellLength, .ref q_row, .int v_made, .ref q_cell, .int v_deep, .ref q_way, .ref q_turn, .int v_at, .int v_bad, .ref q_used]))] [(q_this, .inr (8, [.ref q_now, .ref q_disk, .ref q_before, .int v_onDisk, .int v_head, .int v_headPages, .int v_records, .ref q_recordPage, .ref q_recordBytes, .int v_up, .int v_armed, .int v_columns, .ref q_isBlob, .ref q_integer, .ref q_size, .ref q_blobs, .int v_length, .ref q_record, .int v_kind, .int v_cells, .int v_last, .ref q_cellLength, .ref q_row, .int v_made, .ref q_cell, .int v_deep, .ref q_way, .ref q_turn, .int v_at, .int v_bad, .ref q_used]))] o_r (by decide) (Nat.le_of_ble_eq_true rfl) ?_
  intro p e s m args below meth c A Q ls hx hb hml hts hN hown hK hA hP hD hl hret0
  have hS : va_S A s.heap s.heap [] := va_S.rf
  have hl : lv_has ls 2 [(0, .ref q_this), (1, .int x_1)] := hl
  have hret : ∀ (pc : Nat) (ls : Array Slot) (H : Heap) (locs : List Loc) (y_0 : Int32), decode b_MD_journal pc = .ok (.ireturn, 1) → va_P D pu_cl [(q_this, .inr (8, [.ref q_now, .ref q_disk, .ref q_before, .int v_onDisk, .int v_head, .int v_headPages, .int v_records, .ref q_recordPage, .ref q_recordBytes, .int v_up, .int v_armed, .int v_columns, .ref q_isBlob, .ref q_integer, .ref q_size, .ref q_blobs, .int v_length, .ref q_record, .int v_kind, .int v_cells, .int v_last, .ref q_cellLength, .ref q_row, .int v_made, .ref q_cell, .int v_deep, .ref q_way, .ref q_turn, .int v_at, .int v_bad, .ref q_used]))] H → va_D A [(q_this, .inr (8, [.ref q_now, .ref q_disk, .ref q_before, .int v_onDisk, .int v_head, .int v_headPages, .int v_records, .ref q_recordPage, .ref q_recordBytes, .int v_up, .int v_armed, .int v_columns, .ref q_isBlob, .ref q_integer, .ref q_size, .ref q_blobs, .int v_length, .ref q_record, .int v_kind, .int v_cells, .int v_last, .ref q_cellLength, .ref q_row, .int v_made, .ref q_cell, .int v_deep, .ref q_way, .ref q_turn, .int v_at, .int v_bad, .ref q_used]))] → va_S A s.heap H locs → some y_0 = some o_r → W p l e rm_MD_journal s m args below meth c H locs 0 0 Q (F0 m pc ls [.int y_0]) := by
    intro pc ls H locs y_0 hd hP hD hS hf
    cases hf
    exact hret0 pc ls H locs hd hP hD hS
  clear hret0
  unfold f_MD_journal at hf
  skip
  obtain ⟨H, hH⟩ : ∃ H, H = s.heap := ⟨_, rfl⟩
  obtain ⟨locs, hlocs⟩ : ∃ locs : List Loc, locs = [] := ⟨_, rfl⟩
  have hP : va_P D pu_cl [(q_this, .inr (8, [.ref q_now, .ref q_disk, .ref q_before, .int v_onDisk, .int v_head, .int v_headPages, .int v_records, .ref q_recordPage, .ref q_recordBytes, .int v_up, .int v_armed, .int v_columns, .ref q_isBlob, .ref q_integer, .ref q_size, .ref q_blobs, .int v_length, .ref q_record, .int v_kind, .int v_cells, .int v_last, .ref q_cellLength, .ref q_row, .int v_made, .ref q_cell, .int v_deep, .ref q_way, .ref q_turn, .int v_at, .int v_bad, .ref q_used]))] H := by rw [hH]; exact hP
  have hS : va_S A s.heap H locs := by rw [hH, hlocs]; exact hS
  have goal : W p l e rm_MD_journal s m args below meth c H locs 0 0 Q (F0 m 0 ls []) := by
    clear hH hlocs
    refine lv_iload_n hx hb d_MD_journal_0 rfl (lv_at hl 1 rfl) ?_
    by_cases hn0 : x_1 = 0
    · have hf := pu_br_pos hf hn0
      refine lv_tableIn (tgt := 32) hx hb d_MD_journal_1 (by rw [hn0]; decide) (by rw [hn0]; decide) (by rw [hn0]; rfl) rfl ?_
      refine lv_aload_n hx hb d_MD_journal_32 rfl (lv_at hl 0 rfl) ?_
      refine gf_MD_223 (v := .int v_head) hx hb hts hN hown hK hP 0 rfl rfl d_MD_journal_33 ?_
      refine lv_if_eq (tgt := 43) hx hb d_MD_journal_36 rfl (fun hc => ?_) (fun hc => ?_)
      · have hf := pu_br_pos hf hc
        refine lv_iconst (v := 0) hx hb d_MD_journal_43 rfl ?_
        exact hret _ _ _ _ (0 : Int32)  d_MD_journal_44 hP hD hS hf
      have hf := pu_br_neg hf hc
      refine lv_iconst (v := 1) hx hb d_MD_journal_39 rfl ?_
      refine lv_goto (tgt := 44) hx hb d_MD_journal_40 rfl ?_
      exact hret _ _ _ _ (1 : Int32)  d_MD_journal_44 hP hD hS hf
    have hf := pu_br_neg hf hn0
    by_cases hn1 : x_1 = 1
    · have hf := pu_br_pos hf hn1
      refine lv_tableIn (tgt := 45) hx hb d_MD_journal_1 (by rw [hn1]; decide) (by rw [hn1]; decide) (by rw [hn1]; rfl) rfl ?_
      refine lv_aload_n hx hb d_MD_journal_45 rfl (lv_at hl 0 rfl) ?_
      refine gf_MD_223 (v := .int v_head) hx hb hts hN hown hK hP 0 rfl rfl d_MD_journal_46 ?_
      refine lv_if_eq (tgt := 59) hx hb d_MD_journal_49 rfl (fun hc => ?_) (fun hc => ?_)
      · have hf := pu_br_pos hf hc
        refine lv_iconst (v := 0) hx hb d_MD_journal_59 rfl ?_
        exact hret _ _ _ _ (0 : Int32)  d_MD_journal_60 hP hD hS hf
      have hf := pu_br_neg hf hc
      refine lv_aload_n hx hb d_MD_journal_52 rfl (lv_at hl 0 rfl) ?_
      refine gf_MD_226 (v := .int v_headPages) hx hb hts hN hown hK hP 0 rfl rfl d_MD_journal_53 ?_
      refine lv_goto (tgt := 60) hx hb d_MD_journal_56 rfl ?_
      exact hret _ _ _ _ v_headPages  d_MD_journal_60 hP hD hS hf
    have hf := pu_br_neg hf hn1
    by_cases hn2 : x_1 = 2
    · have hf := pu_br_pos hf hn2
      refine lv_tableIn (tgt := 61) hx hb d_MD_journal_1 (by rw [hn2]; decide) (by rw [hn2]; decide) (by rw [hn2]; rfl) rfl ?_
      refine lv_aload_n hx hb d_MD_journal_61 rfl (lv_at hl 0 rfl) ?_
      refine gf_MD_223 (v := .int v_head) hx hb hts hN hown hK hP 0 rfl rfl d_MD_journal_62 ?_
      refine lv_if_eq (tgt := 75) hx hb d_MD_journal_65 rfl (fun hc => ?_) (fun hc => ?_)
      · have hf := pu_br_pos hf hc
        refine lv_iconst (v := 0) hx hb d_MD_journal_75 rfl ?_
        exact hret _ _ _ _ (0 : Int32)  d_MD_journal_76 hP hD hS hf
      have hf := pu_br_neg hf hc
      refine lv_aload_n hx hb d_MD_journal_68 rfl (lv_at hl 0 rfl) ?_
      refine gf_MD_229 (v := .int v_records) hx hb hts hN hown hK hP 0 rfl rfl d_MD_journal_69 ?_
      refine lv_goto (tgt := 76) hx hb d_MD_journal_72 rfl ?_
      exact hret _ _ _ _ v_records  d_MD_journal_76 hP hD hS hf
    have hf := pu_br_neg hf hn2
    by_cases hn3 : x_1 = 3
    · have hf := pu_br_pos hf hn3
      refine lv_tableIn (tgt := 77) hx hb d_MD_journal_1 (by rw [hn3]; decide) (by rw [hn3]; decide) (by rw [hn3]; rfl) rfl ?_
      refine lv_aload_n hx hb d_MD_journal_77 rfl (lv_at hl 0 rfl) ?_
      refine gf_MD_19 (v := .int v_onDisk) hx hb hts hN hown hK hP 0 rfl rfl d_MD_journal_78 ?_
      exact hret _ _ _ _ v_onDisk  d_MD_journal_81 hP hD hS hf
    have hf := pu_br_neg hf hn3
    refine lv_tableOut (tgt := 82) hx hb d_MD_journal_1 (by have ghn0 := lv_neT hn0 (a := 0) rfl; have ghn1 := lv_neT hn1 (a := 1) rfl; have ghn2 := lv_neT hn2 (a := 2) rfl; have ghn3 := lv_neT hn3 (a := 3) rfl; omega) rfl ?_
    refine lv_iconst (v := -1) hx hb d_MD_journal_82 rfl ?_
    exact hret _ _ _ _ (-1 : Int32)  d_MD_journal_83 hP hD hS hf
  rw [hH, hlocs] at goal
  exact goal
theorem d_Pages_makeEmptyFile_0 : decode b_Pages_makeEmptyFile 0 = .ok (.aload_n 0, 1) := by decide +kernel
theorem d_Pages_makeEmptyFile_1 : decode b_Pages_makeEmptyFile 1 = .ok (.iconst 2, 1) := by decide +kernel
theorem d_Pages_makeEmptyFile_2 : decode b_Pages_makeEmptyFile 2 = .ok (.putfield 15, 3) := by decide +kernel
theorem d_Pages_makeEmptyFile_5 : decode b_Pages_makeEmptyFile 5 = .ok (.aload_n 0, 1) := by decide +kernel
theorem d_Pages_makeEmptyFile_6 : decode b_Pages_makeEmptyFile 6 = .ok (.iconst 1, 1) := by decide +kernel
theorem d_Pages_makeEmptyFile_7 : decode b_Pages_makeEmptyFile 7 = .ok (.iconst 0, 1) := by decide +kernel
theorem d_Pages_makeEmptyFile_8 : decode b_Pages_makeEmptyFile 8 = .ok (.bipush 83, 2) := by decide +kernel
theorem d_Pages_makeEmptyFile_10 : decode b_Pages_makeEmptyFile 10 = .ok (.invokevirtual 19, 3) := by decide +kernel
theorem d_Pages_makeEmptyFile_13 : decode b_Pages_makeEmptyFile 13 = .ok (.aload_n 0, 1) := by decide +kernel
theorem d_Pages_makeEmptyFile_14 : decode b_Pages_makeEmptyFile 14 = .ok (.iconst 1, 1) := by decide +kernel
theorem d_Pages_makeEmptyFile_15 : decode b_Pages_makeEmptyFile 15 = .ok (.iconst 1, 1) := by decide +kernel
theorem d_Pages_makeEmptyFile_16 : decode b_Pages_makeEmptyFile 16 = .ok (.iconst 2, 1) := by decide +kernel
theorem d_Pages_makeEmptyFile_17 : decode b_Pages_makeEmptyFile 17 = .ok (.invokevirtual 19, 3) := by decide +kernel
theorem d_Pages_makeEmptyFile_20 : decode b_Pages_makeEmptyFile 20 = .ok (.aload_n 0, 1) := by decide +kernel
theorem d_Pages_makeEmptyFile_21 : decode b_Pages_makeEmptyFile 21 = .ok (.iconst 1, 1) := by decide +kernel
theorem d_Pages_makeEmptyFile_22 : decode b_Pages_makeEmptyFile 22 = .ok (.bipush 6, 2) := by decide +kernel
theorem d_Pages_makeEmptyFile_24 : decode b_Pages_makeEmptyFile 24 = .ok (.iconst 2, 1) := by decide +kernel
theorem d_Pages_makeEmptyFile_25 : decode b_Pages_makeEmptyFile 25 = .ok (.invokevirtual 19, 3) := by decide +kernel
theorem d_Pages_makeEmptyFile_28 : decode b_Pages_makeEmptyFile 28 = .ok (.aload_n 0, 1) := by decide +kernel
theorem d_Pages_makeEmptyFile_29 : decode b_Pages_makeEmptyFile 29 = .ok (.iconst 2, 1) := by decide +kernel
theorem d_Pages_makeEmptyFile_30 : decode b_Pages_makeEmptyFile 30 = .ok (.iconst 0, 1) := by decide +kernel
theorem d_Pages_makeEmptyFile_31 : decode b_Pages_makeEmptyFile 31 = .ok (.bipush 13, 2) := by decide +kernel
theorem d_Pages_makeEmptyFile_33 : decode b_Pages_makeEmptyFile 33 = .ok (.invokevirtual 19, 3) := by decide +kernel
theorem d_Pages_makeEmptyFile_36 : decode b_Pages_makeEmptyFile 36 = .ok (.return_, 1) := by decide +kernel
noncomputable def f_Pages_makeEmptyFile (v_count : Int32) (v_bytes : Nat → Int32) : Option (Int32 × (Nat → Int32)) :=
  pu_b1 (f_Pages_put (2 : Int32) v_bytes (1 : Int32) (0 : Int32) (83 : Int32)) (fun w2 => pu_b1 (f_Pages_put (2 : Int32) w2 (1 : Int32) (1 : Int32) (2 : Int32)) (fun w4 => pu_b1 (f_Pages_put (2 : Int32) w4 (1 : Int32) (6 : Int32) (2 : Int32)) (fun w6 => pu_b1 (f_Pages_put (2 : Int32) w6 (2 : Int32) (0 : Int32) (13 : Int32)) (fun w8 => some ((2 : Int32), w8)))))
abbrev rm_Pages_makeEmptyFile : Room := { frames := 2, cells := 0, slots := 0, locals := 45 }
set_option maxHeartbeats 8000000 in
set_option maxRecDepth 100000 in
theorem c_Pages_makeEmptyFile (l : Launch) (D : va_G) (cI cJ cB cZ : ClassId) (sz : Nat) (q_this : Nat) (q_bytes : Nat) (v_count : Int32) (v_bytes : Nat → Int32) (o_count : Int32) (o_bytes : Nat → Int32) (hf : f_Pages_makeEmptyFile v_count v_bytes = some (o_count, o_bytes)) : Met l y_Pages_makeEmptyFile (.code y_Pages_makeEmptyFile b_Pages_makeEmptyFile 1 none :: pu_wA) rm_Pages_makeEmptyFile (pu_pc D pu_cl (pu_ty cI cJ cB cZ) [.ref q_this] [(q_this, .inr (0, [.ref q_bytes, .int v_count])), (q_bytes, .inl (cB, 1536, .inl v_bytes))] sz) (pu_qv D pu_cl (pu_ty cI cJ cB cZ) [(q_this, .inr (0, [.ref q_bytes, .int v_count])), (q_bytes, .inl (cB, 1536, .inl v_bytes))] [(q_this, .inr (0, [.ref q_bytes, .int o_count])), (q_bytes, .inl (cB, 1536, .inl o_bytes))] sz) 0 0 (va_A [(q_this, .inr (0, [.ref q_bytes, .int v_count])), (q_bytes, .inl (cB, 1536, .inl v_bytes))] sz) := by
  refine pu_mtv [.ref q_this] [(q_this, .inr (0, [.ref q_bytes, .int v_count])), (q_bytes, .inl (cB, 1536, .inl v_bytes))] [(q_this, .inr (0, [.ref q_bytes, .int o_count])), (q_bytes, .inl (cB, 1536, .inl o_bytes))] (by decide) (Nat.le_of_ble_eq_true rfl) ?_
  intro p e s m args below meth c A Q ls hx hb hml hts hN hown hK hA hP hD hl hret0
  have hS : va_S A s.heap s.heap [] := va_S.rf
  have hl : lv_has ls 1 [(0, .ref q_this)] := hl
  have hret : ∀ (pc : Nat) (ls : Array Slot) (H : Heap) (locs : List Loc) (y_0 : Int32) (y_1 : Nat → Int32), decode b_Pages_makeEmptyFile pc = .ok (.return_, 1) → va_P D pu_cl [(q_this, .inr (0, [.ref q_bytes, .int y_0])), (q_bytes, .inl (cB, 1536, .inl y_1))] H → va_D A [(q_this, .inr (0, [.ref q_bytes, .int y_0])), (q_bytes, .inl (cB, 1536, .inl y_1))] → va_S A s.heap H locs → some (y_0, y_1) = some (o_count, o_bytes) → W p l e rm_Pages_makeEmptyFile s m args below meth c H locs 0 0 Q (F0 m pc ls []) := by
    intro pc ls H locs y_0 y_1 hd hP hD hS hf
    cases hf
    exact hret0 pc ls H locs hd hP hD hS
  clear hret0
  unfold f_Pages_makeEmptyFile at hf
  skip
  obtain ⟨H, hH⟩ : ∃ H, H = s.heap := ⟨_, rfl⟩
  obtain ⟨locs, hlocs⟩ : ∃ locs : List Loc, locs = [] := ⟨_, rfl⟩
  have hP : va_P D pu_cl [(q_this, .inr (0, [.ref q_bytes, .int v_count])), (q_bytes, .inl (cB, 1536, .inl v_bytes))] H := by rw [hH]; exact hP
  have hS : va_S A s.heap H locs := by rw [hH, hlocs]; exact hS
  have goal : W p l e rm_Pages_makeEmptyFile s m args below meth c H locs 0 0 Q (F0 m 0 ls []) := by
    clear hH hlocs
    refine lv_aload_n hx hb d_Pages_makeEmptyFile_0 rfl (lv_at hl 0 rfl) ?_
    refine lv_iconst (v := 2) hx hb d_Pages_makeEmptyFile_1 rfl ?_
    refine pf_Pages_15 (v := .int (2 : Int32)) hx hb hts hN hown hK hP hD hS 0 rfl rfl rfl (Nat.le_of_ble_eq_true rfl) d_Pages_makeEmptyFile_2 (fun H locs hP hD hS => ?_)
    have hP : va_P D pu_cl [(q_this, .inr (0, [.ref q_bytes, .int (2 : Int32)])), (q_bytes, .inl (cB, 1536, .inl v_bytes))] H := hP
    have hD : va_D A [(q_this, .inr (0, [.ref q_bytes, .int (2 : Int32)])), (q_bytes, .inl (cB, 1536, .inl v_bytes))] := hD
    refine lv_aload_n hx hb d_Pages_makeEmptyFile_5 rfl (lv_at hl 0 rfl) ?_
    refine lv_iconst (v := 1) hx hb d_Pages_makeEmptyFile_6 rfl ?_
    refine lv_iconst (v := 0) hx hb d_Pages_makeEmptyFile_7 rfl ?_
    refine lv_bipush (v := 83) hx hb d_Pages_makeEmptyFile_8 rfl ?_
    obtain ⟨w2, hc, hf⟩ := pu_b1_some hf
    refine cl_v (WC := [(q_this, .inr (0, [.ref q_bytes, .int (2 : Int32)])), (q_bytes, .inl (cB, 1536, .inl v_bytes))]) (WC2 := [(q_this, .inr (0, [.ref q_bytes, .int (2 : Int32)])), (q_bytes, .inl (cB, 1536, .inl w2))]) (WR := []) (WS2 := [(q_this, .inr (0, [.ref q_bytes, .int (2 : Int32)])), (q_bytes, .inl (cB, 1536, .inl w2))]) (pu_rv (cl := pu_cl) (pu_in2 _ (List.mem_of_getElem? (i := 25) rfl)) (pu_in2 _ (List.mem_of_getElem? (i := 26) rfl)) (pu_in2 _ (List.mem_of_getElem? (i := 27) rfl)) (pu_in0 _ (List.mem_of_getElem? (i := 3) rfl)) (pu_in2 _ (List.mem_of_getElem? (i := 28) rfl)) (ci := 0) rfl hd_Pages_put (by decide) ⟨rfl, rfl⟩ rfl rfl (Nat.le_of_ble_eq_true rfl) rfl (As := [.int (1 : Int32), .int (0 : Int32), .int (83 : Int32)]) (rest := []) (WC := [(q_this, .inr (0, [.ref q_bytes, .int (2 : Int32)])), (q_bytes, .inl (cB, 1536, .inl v_bytes))]) hx hb hml hown hts hN hK hP hD (c_Pages_put l D cI cJ cB cZ H.size q_this q_bytes (2 : Int32) v_bytes (1 : Int32) (0 : Int32) (83 : Int32) w2 hc) [0, 1] rfl rfl hl.1 d_Pages_makeEmptyFile_10) hP hD hS hA [0, 1] [] [0, 1] rfl rfl rfl (by decide) rfl rfl (fun H locs hP hD hS => ?_)
    refine lv_aload_n hx hb d_Pages_makeEmptyFile_13 rfl (lv_at hl 0 rfl) ?_
    refine lv_iconst (v := 1) hx hb d_Pages_makeEmptyFile_14 rfl ?_
    refine lv_iconst (v := 1) hx hb d_Pages_makeEmptyFile_15 rfl ?_
    refine lv_iconst (v := 2) hx hb d_Pages_makeEmptyFile_16 rfl ?_
    obtain ⟨w4, hc, hf⟩ := pu_b1_some hf
    refine cl_v (WC := [(q_this, .inr (0, [.ref q_bytes, .int (2 : Int32)])), (q_bytes, .inl (cB, 1536, .inl w2))]) (WC2 := [(q_this, .inr (0, [.ref q_bytes, .int (2 : Int32)])), (q_bytes, .inl (cB, 1536, .inl w4))]) (WR := []) (WS2 := [(q_this, .inr (0, [.ref q_bytes, .int (2 : Int32)])), (q_bytes, .inl (cB, 1536, .inl w4))]) (pu_rv (cl := pu_cl) (pu_in2 _ (List.mem_of_getElem? (i := 25) rfl)) (pu_in2 _ (List.mem_of_getElem? (i := 26) rfl)) (pu_in2 _ (List.mem_of_getElem? (i := 27) rfl)) (pu_in0 _ (List.mem_of_getElem? (i := 3) rfl)) (pu_in2 _ (List.mem_of_getElem? (i := 28) rfl)) (ci := 0) rfl hd_Pages_put (by decide) ⟨rfl, rfl⟩ rfl rfl (Nat.le_of_ble_eq_true rfl) rfl (As := [.int (1 : Int32), .int (1 : Int32), .int (2 : Int32)]) (rest := []) (WC := [(q_this, .inr (0, [.ref q_bytes, .int (2 : Int32)])), (q_bytes, .inl (cB, 1536, .inl w2))]) hx hb hml hown hts hN hK hP hD (c_Pages_put l D cI cJ cB cZ H.size q_this q_bytes (2 : Int32) w2 (1 : Int32) (1 : Int32) (2 : Int32) w4 hc) [0, 1] rfl rfl hl.1 d_Pages_makeEmptyFile_17) hP hD hS hA [0, 1] [] [0, 1] rfl rfl rfl (by decide) rfl rfl (fun H locs hP hD hS => ?_)
    refine lv_aload_n hx hb d_Pages_makeEmptyFile_20 rfl (lv_at hl 0 rfl) ?_
    refine lv_iconst (v := 1) hx hb d_Pages_makeEmptyFile_21 rfl ?_
    refine lv_bipush (v := 6) hx hb d_Pages_makeEmptyFile_22 rfl ?_
    refine lv_iconst (v := 2) hx hb d_Pages_makeEmptyFile_24 rfl ?_
    obtain ⟨w6, hc, hf⟩ := pu_b1_some hf
    refine cl_v (WC := [(q_this, .inr (0, [.ref q_bytes, .int (2 : Int32)])), (q_bytes, .inl (cB, 1536, .inl w4))]) (WC2 := [(q_this, .inr (0, [.ref q_bytes, .int (2 : Int32)])), (q_bytes, .inl (cB, 1536, .inl w6))]) (WR := []) (WS2 := [(q_this, .inr (0, [.ref q_bytes, .int (2 : Int32)])), (q_bytes, .inl (cB, 1536, .inl w6))]) (pu_rv (cl := pu_cl) (pu_in2 _ (List.mem_of_getElem? (i := 25) rfl)) (pu_in2 _ (List.mem_of_getElem? (i := 26) rfl)) (pu_in2 _ (List.mem_of_getElem? (i := 27) rfl)) (pu_in0 _ (List.mem_of_getElem? (i := 3) rfl)) (pu_in2 _ (List.mem_of_getElem? (i := 28) rfl)) (ci := 0) rfl hd_Pages_put (by decide) ⟨rfl, rfl⟩ rfl rfl (Nat.le_of_ble_eq_true rfl) rfl (As := [.int (1 : Int32), .int (6 : Int32), .int (2 : Int32)]) (rest := []) (WC := [(q_this, .inr (0, [.ref q_bytes, .int (2 : Int32)])), (q_bytes, .inl (cB, 1536, .inl w4))]) hx hb hml hown hts hN hK hP hD (c_Pages_put l D cI cJ cB cZ H.size q_this q_bytes (2 : Int32) w4 (1 : Int32) (6 : Int32) (2 : Int32) w6 hc) [0, 1] rfl rfl hl.1 d_Pages_makeEmptyFile_25) hP hD hS hA [0, 1] [] [0, 1] rfl rfl rfl (by decide) rfl rfl (fun H locs hP hD hS => ?_)
    refine lv_aload_n hx hb d_Pages_makeEmptyFile_28 rfl (lv_at hl 0 rfl) ?_
    refine lv_iconst (v := 2) hx hb d_Pages_makeEmptyFile_29 rfl ?_
    refine lv_iconst (v := 0) hx hb d_Pages_makeEmptyFile_30 rfl ?_
    refine lv_bipush (v := 13) hx hb d_Pages_makeEmptyFile_31 rfl ?_
    obtain ⟨w8, hc, hf⟩ := pu_b1_some hf
    refine cl_v (WC := [(q_this, .inr (0, [.ref q_bytes, .int (2 : Int32)])), (q_bytes, .inl (cB, 1536, .inl w6))]) (WC2 := [(q_this, .inr (0, [.ref q_bytes, .int (2 : Int32)])), (q_bytes, .inl (cB, 1536, .inl w8))]) (WR := []) (WS2 := [(q_this, .inr (0, [.ref q_bytes, .int (2 : Int32)])), (q_bytes, .inl (cB, 1536, .inl w8))]) (pu_rv (cl := pu_cl) (pu_in2 _ (List.mem_of_getElem? (i := 25) rfl)) (pu_in2 _ (List.mem_of_getElem? (i := 26) rfl)) (pu_in2 _ (List.mem_of_getElem? (i := 27) rfl)) (pu_in0 _ (List.mem_of_getElem? (i := 3) rfl)) (pu_in2 _ (List.mem_of_getElem? (i := 28) rfl)) (ci := 0) rfl hd_Pages_put (by decide) ⟨rfl, rfl⟩ rfl rfl (Nat.le_of_ble_eq_true rfl) rfl (As := [.int (2 : Int32), .int (0 : Int32), .int (13 : Int32)]) (rest := []) (WC := [(q_this, .inr (0, [.ref q_bytes, .int (2 : Int32)])), (q_bytes, .inl (cB, 1536, .inl w6))]) hx hb hml hown hts hN hK hP hD (c_Pages_put l D cI cJ cB cZ H.size q_this q_bytes (2 : Int32) w6 (2 : Int32) (0 : Int32) (13 : Int32) w8 hc) [0, 1] rfl rfl hl.1 d_Pages_makeEmptyFile_33) hP hD hS hA [0, 1] [] [0, 1] rfl rfl rfl (by decide) rfl rfl (fun H locs hP hD hS => ?_)
    exact hret _ _ _ _ (2 : Int32) w8 d_Pages_makeEmptyFile_36 hP hD hS hf
  rw [hH, hlocs] at goal
  exact goal
