theorem d_MD_read_0 : decode b_MD_read 0 = .ok (.iconst 0, 1) := by decide +kernel
theorem d_MD_read_1 : decode b_MD_read 1 = .ok (.istore_n 3, 1) := by decide +kernel
theorem d_MD_read_2 : decode b_MD_read 2 = .ok (.iconst 0, 1) := by decide +kernel
theorem d_MD_read_3 : decode b_MD_read 3 = .ok (.istore 4, 2) := by decide +kernel
theorem d_MD_read_5 : decode b_MD_read 5 = .ok (.iconst 1, 1) := by decide +kernel
theorem d_MD_read_6 : decode b_MD_read 6 = .ok (.istore 5, 2) := by decide +kernel
theorem d_MD_read_8 : decode b_MD_read 8 = .ok (.iload 5, 2) := by decide +kernel
theorem d_MD_read_10 : decode b_MD_read 10 = .ok (.ifCond .eq 108, 3) := by decide +kernel
theorem d_MD_read_13 : decode b_MD_read 13 = .ok (.aload_n 0, 1) := by decide +kernel
theorem d_MD_read_14 : decode b_MD_read 14 = .ok (.getfield 129, 3) := by decide +kernel
theorem d_MD_read_17 : decode b_MD_read 17 = .ok (.ifCond .ne 101, 3) := by decide +kernel
theorem d_MD_read_20 : decode b_MD_read 20 = .ok (.aload_n 0, 1) := by decide +kernel
theorem d_MD_read_21 : decode b_MD_read 21 = .ok (.aload_n 0, 1) := by decide +kernel
theorem d_MD_read_22 : decode b_MD_read 22 = .ok (.getfield 132, 3) := by decide +kernel
theorem d_MD_read_25 : decode b_MD_read 25 = .ok (.iload_n 2, 1) := by decide +kernel
theorem d_MD_read_26 : decode b_MD_read 26 = .ok (.if_icmp .ge 26, 3) := by decide +kernel
theorem d_MD_read_29 : decode b_MD_read 29 = .ok (.iload 4, 2) := by decide +kernel
theorem d_MD_read_31 : decode b_MD_read 31 = .ok (.iconst 4, 1) := by decide +kernel
theorem d_MD_read_32 : decode b_MD_read 32 = .ok (.if_icmp .eq 20, 3) := by decide +kernel
theorem d_MD_read_35 : decode b_MD_read 35 = .ok (.iload 4, 2) := by decide +kernel
theorem d_MD_read_37 : decode b_MD_read 37 = .ok (.ifCond .ne 19, 3) := by decide +kernel
theorem d_MD_read_40 : decode b_MD_read 40 = .ok (.aload_n 1, 1) := by decide +kernel
theorem d_MD_read_41 : decode b_MD_read 41 = .ok (.aload_n 0, 1) := by decide +kernel
theorem d_MD_read_42 : decode b_MD_read 42 = .ok (.getfield 132, 3) := by decide +kernel
theorem d_MD_read_45 : decode b_MD_read 45 = .ok (.iaload, 1) := by decide +kernel
theorem d_MD_read_46 : decode b_MD_read 46 = .ok (.sipush 128, 3) := by decide +kernel
theorem d_MD_read_49 : decode b_MD_read 49 = .ok (.if_icmp .ne 7, 3) := by decide +kernel
theorem d_MD_read_52 : decode b_MD_read 52 = .ok (.iconst 1, 1) := by decide +kernel
theorem d_MD_read_53 : decode b_MD_read 53 = .ok (.goto 4, 3) := by decide +kernel
theorem d_MD_read_56 : decode b_MD_read 56 = .ok (.iconst 0, 1) := by decide +kernel
theorem d_MD_read_57 : decode b_MD_read 57 = .ok (.putfield 129, 3) := by decide +kernel
theorem d_MD_read_60 : decode b_MD_read 60 = .ok (.aload_n 0, 1) := by decide +kernel
theorem d_MD_read_61 : decode b_MD_read 61 = .ok (.getfield 129, 3) := by decide +kernel
theorem d_MD_read_64 : decode b_MD_read 64 = .ok (.ifCond .eq 5, 3) := by decide +kernel
theorem d_MD_read_67 : decode b_MD_read 67 = .ok (.iconst 0, 1) := by decide +kernel
theorem d_MD_read_68 : decode b_MD_read 68 = .ok (.ireturn, 1) := by decide +kernel
theorem d_MD_read_69 : decode b_MD_read 69 = .ok (.iload_n 3, 1) := by decide +kernel
theorem d_MD_read_70 : decode b_MD_read 70 = .ok (.bipush 7, 2) := by decide +kernel
theorem d_MD_read_72 : decode b_MD_read 72 = .ok (.ishl, 1) := by decide +kernel
theorem d_MD_read_73 : decode b_MD_read 73 = .ok (.aload_n 1, 1) := by decide +kernel
theorem d_MD_read_74 : decode b_MD_read 74 = .ok (.aload_n 0, 1) := by decide +kernel
theorem d_MD_read_75 : decode b_MD_read 75 = .ok (.getfield 132, 3) := by decide +kernel
theorem d_MD_read_78 : decode b_MD_read 78 = .ok (.iaload, 1) := by decide +kernel
theorem d_MD_read_79 : decode b_MD_read 79 = .ok (.bipush 127, 2) := by decide +kernel
theorem d_MD_read_81 : decode b_MD_read 81 = .ok (.iand, 1) := by decide +kernel
theorem d_MD_read_82 : decode b_MD_read 82 = .ok (.ior, 1) := by decide +kernel
theorem d_MD_read_83 : decode b_MD_read 83 = .ok (.istore_n 3, 1) := by decide +kernel
theorem d_MD_read_84 : decode b_MD_read 84 = .ok (.aload_n 1, 1) := by decide +kernel
theorem d_MD_read_85 : decode b_MD_read 85 = .ok (.aload_n 0, 1) := by decide +kernel
theorem d_MD_read_86 : decode b_MD_read 86 = .ok (.getfield 132, 3) := by decide +kernel
theorem d_MD_read_89 : decode b_MD_read 89 = .ok (.iaload, 1) := by decide +kernel
theorem d_MD_read_90 : decode b_MD_read 90 = .ok (.bipush 127, 2) := by decide +kernel
theorem d_MD_read_92 : decode b_MD_read 92 = .ok (.if_icmp .le 7, 3) := by decide +kernel
theorem d_MD_read_95 : decode b_MD_read 95 = .ok (.iconst 1, 1) := by decide +kernel
theorem d_MD_read_96 : decode b_MD_read 96 = .ok (.goto 4, 3) := by decide +kernel
theorem d_MD_read_99 : decode b_MD_read 99 = .ok (.iconst 0, 1) := by decide +kernel
theorem d_MD_read_100 : decode b_MD_read 100 = .ok (.istore 5, 2) := by decide +kernel
theorem d_MD_read_102 : decode b_MD_read 102 = .ok (.iinc 4 1, 3) := by decide +kernel
theorem d_MD_read_105 : decode b_MD_read 105 = .ok (.aload_n 0, 1) := by decide +kernel
theorem d_MD_read_106 : decode b_MD_read 106 = .ok (.dup, 1) := by decide +kernel
theorem d_MD_read_107 : decode b_MD_read 107 = .ok (.getfield 132, 3) := by decide +kernel
theorem d_MD_read_110 : decode b_MD_read 110 = .ok (.iconst 1, 1) := by decide +kernel
theorem d_MD_read_111 : decode b_MD_read 111 = .ok (.iadd, 1) := by decide +kernel
theorem d_MD_read_112 : decode b_MD_read 112 = .ok (.putfield 132, 3) := by decide +kernel
theorem d_MD_read_115 : decode b_MD_read 115 = .ok (.goto (-107), 3) := by decide +kernel
theorem d_MD_read_118 : decode b_MD_read 118 = .ok (.iload_n 3, 1) := by decide +kernel
theorem d_MD_read_119 : decode b_MD_read 119 = .ok (.ireturn, 1) := by decide +kernel
noncomputable def q_MD_read_100 (kb : Int32 → Int32 → Int32 → Int32 → Int32 → Option (Int32 × Int32 × Int32)) (n_p1 : Nat) (v_p1 : Nat → Int32) (v_at : Int32) (v_bad : Int32) (x_2 : Int32) (x_3 : Int32) (x_4 : Int32) (s_0 : Int32) : Option (Int32 × Int32 × Int32) :=
  pu_nm (x_4 + (1 : Int32)) (fun t2 => pu_nm (v_at + (1 : Int32)) (fun t3 => kb t3 v_bad x_3 t2 s_0))
noncomputable def q_MD_read_57 (kb : Int32 → Int32 → Int32 → Int32 → Int32 → Option (Int32 × Int32 × Int32)) (n_p1 : Nat) (v_p1 : Nat → Int32) (v_at : Int32) (v_bad : Int32) (x_2 : Int32) (x_3 : Int32) (x_4 : Int32) (s_1 : Int32) : Option (Int32 × Int32 × Int32) :=
  pu_ck (pu_bz s_1) (pu_br (s_1 = 0) (pu_ck (vp_in v_at n_p1) (pu_nm ((x_3 <<< ((7 : Int32) &&& 31)) ||| ((v_p1 v_at.toNatClampNeg) &&& (127 : Int32))) (fun t1 => pu_ck (vp_in v_at n_p1) (pu_br ((v_p1 v_at.toNatClampNeg) ≤ (127 : Int32)) (q_MD_read_100 kb n_p1 v_p1 v_at s_1 x_2 t1 x_4 (0 : Int32)) (q_MD_read_100 kb n_p1 v_p1 v_at s_1 x_2 t1 x_4 (1 : Int32)))))) (some ((0 : Int32), v_at, s_1)))
noncomputable def q_MD_read_52 (kb : Int32 → Int32 → Int32 → Int32 → Int32 → Option (Int32 × Int32 × Int32)) (n_p1 : Nat) (v_p1 : Nat → Int32) (v_at : Int32) (v_bad : Int32) (x_2 : Int32) (x_3 : Int32) (x_4 : Int32) : Option (Int32 × Int32 × Int32) :=
  q_MD_read_57 kb n_p1 v_p1 v_at v_bad x_2 x_3 x_4 (1 : Int32)
noncomputable def q_MD_read_56 (kb : Int32 → Int32 → Int32 → Int32 → Int32 → Option (Int32 × Int32 × Int32)) (n_p1 : Nat) (v_p1 : Nat → Int32) (v_at : Int32) (v_bad : Int32) (x_2 : Int32) (x_3 : Int32) (x_4 : Int32) : Option (Int32 × Int32 × Int32) :=
  q_MD_read_57 kb n_p1 v_p1 v_at v_bad x_2 x_3 x_4 (0 : Int32)
noncomputable def q_MD_read_8 (n_p1 : Nat) (v_p1 : Nat → Int32) (x_2 : Int32) : Nat → Int32 → Int32 → Int32 → Int32 → Int32 → Option (Int32 × Int32 × Int32)
  | 0, _, _, _, _, _ => none
  | n + 1, v_at, v_bad, x_3, x_4, x_5 => pu_br (x_5 = 0) (some (x_3, v_at, v_bad)) (pu_br (v_bad = 0) (pu_br (x_2 ≤ v_at) (q_MD_read_52 (q_MD_read_8 n_p1 v_p1 x_2 n) n_p1 v_p1 v_at v_bad x_2 x_3 x_4) (pu_br (x_4 = (4 : Int32)) (q_MD_read_52 (q_MD_read_8 n_p1 v_p1 x_2 n) n_p1 v_p1 v_at v_bad x_2 x_3 x_4) (pu_br (x_4 = 0) (pu_ck (vp_in v_at n_p1) (pu_br ((v_p1 v_at.toNatClampNeg) = (128 : Int32)) (q_MD_read_52 (q_MD_read_8 n_p1 v_p1 x_2 n) n_p1 v_p1 v_at v_bad x_2 x_3 x_4) (q_MD_read_56 (q_MD_read_8 n_p1 v_p1 x_2 n) n_p1 v_p1 v_at v_bad x_2 x_3 x_4))) (q_MD_read_56 (q_MD_read_8 n_p1 v_p1 x_2 n) n_p1 v_p1 v_at v_bad x_2 x_3 x_4)))) (some (x_3, v_at, v_bad)))
noncomputable def f_MD_read (n_p1 : Nat) (v_p1 : Nat → Int32) (v_at : Int32) (v_bad : Int32) (x_2 : Int32) : Option (Int32 × Int32 × Int32) :=
  q_MD_read_8 n_p1 v_p1 x_2 pu_fu v_at v_bad (0 : Int32) (0 : Int32) (1 : Int32)
abbrev rm_MD_read : Room := { frames := 0, cells := 0, slots := 0, locals := 0 }
set_option maxHeartbeats 8000000 in
set_option maxRecDepth 100000 in
theorem c_MD_read (l : Launch) (D : va_G) (cI cJ cB cZ : ClassId) (sz : Nat) (q_this : Nat) (q_now : Nat) (q_disk : Nat) (q_before : Nat) (q_recordPage : Nat) (q_recordBytes : Nat) (q_isBlob : Nat) (q_integer : Nat) (q_size : Nat) (q_blobs : Nat) (q_record : Nat) (q_cellLength : Nat) (q_row : Nat) (q_cell : Nat) (q_way : Nat) (q_turn : Nat) (q_used : Nat) (q_p1 : Nat) (n_p1 : Nat) (v_onDisk : Int32) (v_head : Int32) (v_headPages : Int32) (v_records : Int32) (v_up : Int32) (v_armed : Int32) (v_columns : Int32) (v_length : Int32) (v_kind : Int32) (v_cells : Int32) (v_last : Int32) (v_made : Int32) (v_deep : Int32) (v_at : Int32) (v_bad : Int32) (v_p1 : Nat → Int32) (x_2 : Int32) (o_r : Int32) (o_at : Int32) (o_bad : Int32) (hf : f_MD_read n_p1 v_p1 v_at v_bad x_2 = some (o_r, o_at, o_bad)) : Met l y_MD_read (.code y_MD_read b_MD_read 6 (some .int) :: pu_wA) rm_MD_read (pu_pc D pu_cl (pu_ty cI cJ cB cZ) [.ref q_this, .ref q_p1, .int x_2] [(q_this, .inr (8, [.ref q_now, .ref q_disk, .ref q_before, .int v_onDisk, .int v_head, .int v_headPages, .int v_records, .ref q_recordPage, .ref q_recordBytes, .int v_up, .int v_armed, .int v_columns, .ref q_isBlob, .ref q_integer, .ref q_size, .ref q_blobs, .int v_length, .ref q_record, .int v_kind, .int v_cells, .int v_last, .ref q_cellLength, .ref q_row, .int v_made, .ref q_cell, .int v_deep, .ref q_way, .ref q_turn, .int v_at, .int v_bad, .ref q_used])), (q_p1, .inl (cI, n_p1, .inl v_p1))] sz) (pu_qi D pu_cl (pu_ty cI cJ cB cZ) [(q_this, .inr (8, [.ref q_now, .ref q_disk, .ref q_before, .int v_onDisk, .int v_head, .int v_headPages, .int v_records, .ref q_recordPage, .ref q_recordBytes, .int v_up, .int v_armed, .int v_columns, .ref q_isBlob, .ref q_integer, .ref q_size, .ref q_blobs, .int v_length, .ref q_record, .int v_kind, .int v_cells, .int v_last, .ref q_cellLength, .ref q_row, .int v_made, .ref q_cell, .int v_deep, .ref q_way, .ref q_turn, .int v_at, .int v_bad, .ref q_used])), (q_p1, .inl (cI, n_p1, .inl v_p1))] [(q_this, .inr (8, [.ref q_now, .ref q_disk, .ref q_before, .int v_onDisk, .int v_head, .int v_headPages, .int v_records, .ref q_recordPage, .ref q_recordBytes, .int v_up, .int v_armed, .int v_columns, .ref q_isBlob, .ref q_integer, .ref q_size, .ref q_blobs, .int v_length, .ref q_record, .int v_kind, .int v_cells, .int v_last, .ref q_cellLength, .ref q_row, .int v_made, .ref q_cell, .int v_deep, .ref q_way, .ref q_turn, .int o_at, .int o_bad, .ref q_used])), (q_p1, .inl (cI, n_p1, .inl v_p1))] sz o_r) 0 0 (va_A [(q_this, .inr (8, [.ref q_now, .ref q_disk, .ref q_before, .int v_onDisk, .int v_head, .int v_headPages, .int v_records, .ref q_recordPage, .ref q_recordBytes, .int v_up, .int v_armed, .int v_columns, .ref q_isBlob, .ref q_integer, .ref q_size, .ref q_blobs, .int v_length, .ref q_record, .int v_kind, .int v_cells, .int v_last, .ref q_cellLength, .ref q_row, .int v_made, .ref q_cell, .int v_deep, .ref q_way, .ref q_turn, .int v_at, .int v_bad, .ref q_used])), (q_p1, .inl (cI, n_p1, .inl v_p1))] sz) := by
  refine pu_mti [.ref q_this, .ref q_p1, .int x_2] [(q_this, .inr (8, [.ref q_now, .ref q_disk, .ref q_before, .int v_onDisk, .int v_head, .int v_headPages, .int v_records, .ref q_recordPage, .ref q_recordBytes, .int v_up, .int v_armed, .int v_columns, .ref q_isBlob, .ref q_integer, .ref q_size, .ref q_blobs, .int v_length, .ref q_record, .int v_kind, .int v_cells, .int v_last, .ref q_cellLength, .ref q_row, .int v_made, .ref q_cell, .int v_deep, .ref q_way, .ref q_turn, .int v_at, .int v_bad, .ref q_used])), (q_p1, .inl (cI, n_p1, .inl v_p1))] [(q_this, .inr (8, [.ref q_now, .ref q_disk, .ref q_before, .int v_onDisk, .int v_head, .int v_headPages, .int v_records, .ref q_recordPage, .ref q_recordBytes, .int v_up, .int v_armed, .int v_columns, .ref q_isBlob, .ref q_integer, .ref q_size, .ref q_blobs, .int v_length, .ref q_record, .int v_kind, .int v_cells, .int v_last, .ref q_cellLength, .ref q_row, .int v_made, .ref q_cell, .int v_deep, .ref q_way, .ref q_turn, .int o_at, .int o_bad, .ref q_used])), (q_p1, .inl (cI, n_p1, .inl v_p1))] o_r (by decide) (Nat.le_of_ble_eq_true rfl) ?_
  intro p e s m args below meth c A Q ls hx hb hml hts hN hown hK hA hP hD hl hret0
  have hS : va_S A s.heap s.heap [] := va_S.rf
  have hl : lv_has ls 6 [(0, .ref q_this), (1, .ref q_p1), (2, .int x_2)] := hl
  have hret : ∀ (pc : Nat) (ls : Array Slot) (H : Heap) (locs : List Loc) (y_0 : Int32) (y_1 : Int32) (y_2 : Int32), decode b_MD_read pc = .ok (.ireturn, 1) → va_P D pu_cl [(q_this, .inr (8, [.ref q_now, .ref q_disk, .ref q_before, .int v_onDisk, .int v_head, .int v_headPages, .int v_records, .ref q_recordPage, .ref q_recordBytes, .int v_up, .int v_armed, .int v_columns, .ref q_isBlob, .ref q_integer, .ref q_size, .ref q_blobs, .int v_length, .ref q_record, .int v_kind, .int v_cells, .int v_last, .ref q_cellLength, .ref q_row, .int v_made, .ref q_cell, .int v_deep, .ref q_way, .ref q_turn, .int y_1, .int y_2, .ref q_used])), (q_p1, .inl (cI, n_p1, .inl v_p1))] H → va_D A [(q_this, .inr (8, [.ref q_now, .ref q_disk, .ref q_before, .int v_onDisk, .int v_head, .int v_headPages, .int v_records, .ref q_recordPage, .ref q_recordBytes, .int v_up, .int v_armed, .int v_columns, .ref q_isBlob, .ref q_integer, .ref q_size, .ref q_blobs, .int v_length, .ref q_record, .int v_kind, .int v_cells, .int v_last, .ref q_cellLength, .ref q_row, .int v_made, .ref q_cell, .int v_deep, .ref q_way, .ref q_turn, .int y_1, .int y_2, .ref q_used])), (q_p1, .inl (cI, n_p1, .inl v_p1))] → va_S A s.heap H locs → some (y_0, y_1, y_2) = some (o_r, o_at, o_bad) → W p l e rm_MD_read s m args below meth c H locs 0 0 Q (F0 m pc ls [.int y_0]) := by
    intro pc ls H locs y_0 y_1 y_2 hd hP hD hS hf
    cases hf
    exact hret0 pc ls H locs hd hP hD hS
  clear hret0
  unfold f_MD_read at hf
  skip
  have lp_8 : ∀ (x_2 : Int32) (n8 : Nat) (v_at : Int32) (v_bad : Int32) (x_3 : Int32) (x_4 : Int32) (x_5 : Int32) (H : Heap) (locs : List Loc) (ls : Array Slot), va_P D pu_cl [(q_this, .inr (8, [.ref q_now, .ref q_disk, .ref q_before, .int v_onDisk, .int v_head, .int v_headPages, .int v_records, .ref q_recordPage, .ref q_recordBytes, .int v_up, .int v_armed, .int v_columns, .ref q_isBlob, .ref q_integer, .ref q_size, .ref q_blobs, .int v_length, .ref q_record, .int v_kind, .int v_cells, .int v_last, .ref q_cellLength, .ref q_row, .int v_made, .ref q_cell, .int v_deep, .ref q_way, .ref q_turn, .int v_at, .int v_bad, .ref q_used])), (q_p1, .inl (cI, n_p1, .inl v_p1))] H → va_D A [(q_this, .inr (8, [.ref q_now, .ref q_disk, .ref q_before, .int v_onDisk, .int v_head, .int v_headPages, .int v_records, .ref q_recordPage, .ref q_recordBytes, .int v_up, .int v_armed, .int v_columns, .ref q_isBlob, .ref q_integer, .ref q_size, .ref q_blobs, .int v_length, .ref q_record, .int v_kind, .int v_cells, .int v_last, .ref q_cellLength, .ref q_row, .int v_made, .ref q_cell, .int v_deep, .ref q_way, .ref q_turn, .int v_at, .int v_bad, .ref q_used])), (q_p1, .inl (cI, n_p1, .inl v_p1))] → va_S A s.heap H locs → lv_has ls 6 [(0, .ref q_this), (1, .ref q_p1), (2, .int x_2), (3, .int x_3), (4, .int x_4), (5, .int x_5)] → q_MD_read_8 n_p1 v_p1 x_2 n8 v_at v_bad x_3 x_4 x_5 = some (o_r, o_at, o_bad) → W p l e rm_MD_read s m args below meth c H locs 0 0 Q (F0 m 8 ls []) := by
    intro x_2 n8
    induction n8 with
    | zero =>
      intro v_at v_bad x_3 x_4 x_5 H locs ls hP hD hS hl hf
      rw [q_MD_read_8] at hf
      cases hf
    | succ n8 ih_8 =>
      have lb_100 : ∀ (v_at : Int32) (v_bad : Int32) (x_3 : Int32) (x_4 : Int32) (s_0 : Int32) (H : Heap) (locs : List Loc) (ls : Array Slot), va_P D pu_cl [(q_this, .inr (8, [.ref q_now, .ref q_disk, .ref q_before, .int v_onDisk, .int v_head, .int v_headPages, .int v_records, .ref q_recordPage, .ref q_recordBytes, .int v_up, .int v_armed, .int v_columns, .ref q_isBlob, .ref q_integer, .ref q_size, .ref q_blobs, .int v_length, .ref q_record, .int v_kind, .int v_cells, .int v_last, .ref q_cellLength, .ref q_row, .int v_made, .ref q_cell, .int v_deep, .ref q_way, .ref q_turn, .int v_at, .int v_bad, .ref q_used])), (q_p1, .inl (cI, n_p1, .inl v_p1))] H → va_D A [(q_this, .inr (8, [.ref q_now, .ref q_disk, .ref q_before, .int v_onDisk, .int v_head, .int v_headPages, .int v_records, .ref q_recordPage, .ref q_recordBytes, .int v_up, .int v_armed, .int v_columns, .ref q_isBlob, .ref q_integer, .ref q_size, .ref q_blobs, .int v_length, .ref q_record, .int v_kind, .int v_cells, .int v_last, .ref q_cellLength, .ref q_row, .int v_made, .ref q_cell, .int v_deep, .ref q_way, .ref q_turn, .int v_at, .int v_bad, .ref q_used])), (q_p1, .inl (cI, n_p1, .inl v_p1))] → va_S A s.heap H locs → lv_has ls 6 [(0, .ref q_this), (1, .ref q_p1), (2, .int x_2), (3, .int x_3), (4, .int x_4)] → q_MD_read_100 (q_MD_read_8 n_p1 v_p1 x_2 n8) n_p1 v_p1 v_at v_bad x_2 x_3 x_4 s_0 = some (o_r, o_at, o_bad) → W p l e rm_MD_read s m args below meth c H locs 0 0 Q (F0 m 100 ls [.int s_0]) := by
        intro v_at v_bad x_3 x_4 s_0 H locs ls hP hD hS hl hf
        rw [q_MD_read_100] at hf
        refine lv_istore hx hb d_MD_read_100 hl (by decide) rfl (fun ls hl => ?_)
        have hl : lv_has ls 6 [(5, .int s_0), (0, .ref q_this), (1, .ref q_p1), (2, .int x_2), (3, .int x_3), (4, .int x_4)] := hl
        obtain ⟨t2, e_t2, hf⟩ := pu_nm_some hf
        refine lv_iinc (k := 5) (v := t2) hx hb d_MD_read_102 hl rfl e_t2.symm (by decide) rfl (fun ls hl => ?_)
        have hl : lv_has ls 6 [(4, .int t2), (5, .int s_0), (0, .ref q_this), (1, .ref q_p1), (2, .int x_2), (3, .int x_3)] := hl
        refine lv_aload_n hx hb d_MD_read_105 rfl (lv_at hl 2 rfl) ?_
        refine lv_dup hx hb d_MD_read_106 rfl ?_
        refine gf_MD_132 (v := .int v_at) hx hb hts hN hown hK hP 0 rfl rfl d_MD_read_107 ?_
        refine lv_iconst (v := 1) hx hb d_MD_read_110 rfl ?_
        refine lv_iadd hx hb d_MD_read_111 ?_
        obtain ⟨t3, e_t3, hf⟩ := pu_nm_some hf
        refine pu_ti e_t3 ?_
        refine pf_MD_132 (v := .int t3) hx hb hts hN hown hK hP hD hS 0 rfl rfl rfl (Nat.le_of_ble_eq_true rfl) d_MD_read_112 (fun H locs hP hD hS => ?_)
        have hP : va_P D pu_cl [(q_this, .inr (8, [.ref q_now, .ref q_disk, .ref q_before, .int v_onDisk, .int v_head, .int v_headPages, .int v_records, .ref q_recordPage, .ref q_recordBytes, .int v_up, .int v_armed, .int v_columns, .ref q_isBlob, .ref q_integer, .ref q_size, .ref q_blobs, .int v_length, .ref q_record, .int v_kind, .int v_cells, .int v_last, .ref q_cellLength, .ref q_row, .int v_made, .ref q_cell, .int v_deep, .ref q_way, .ref q_turn, .int t3, .int v_bad, .ref q_used])), (q_p1, .inl (cI, n_p1, .inl v_p1))] H := hP
        have hD : va_D A [(q_this, .inr (8, [.ref q_now, .ref q_disk, .ref q_before, .int v_onDisk, .int v_head, .int v_headPages, .int v_records, .ref q_recordPage, .ref q_recordBytes, .int v_up, .int v_armed, .int v_columns, .ref q_isBlob, .ref q_integer, .ref q_size, .ref q_blobs, .int v_length, .ref q_record, .int v_kind, .int v_cells, .int v_last, .ref q_cellLength, .ref q_row, .int v_made, .ref q_cell, .int v_deep, .ref q_way, .ref q_turn, .int t3, .int v_bad, .ref q_used])), (q_p1, .inl (cI, n_p1, .inl v_p1))] := hD
        refine lv_goto (tgt := 8) hx hb d_MD_read_115 rfl ?_
        exact ih_8 t3 v_bad x_3 t2 s_0 H locs ls hP hD hS (lv_sub hl [2, 3, 4, 5, 0, 1] rfl) hf
      have lb_57 : ∀ (v_at : Int32) (v_bad : Int32) (x_3 : Int32) (x_4 : Int32) (s_1 : Int32) (H : Heap) (locs : List Loc) (ls : Array Slot), va_P D pu_cl [(q_this, .inr (8, [.ref q_now, .ref q_disk, .ref q_before, .int v_onDisk, .int v_head, .int v_headPages, .int v_records, .ref q_recordPage, .ref q_recordBytes, .int v_up, .int v_armed, .int v_columns, .ref q_isBlob, .ref q_integer, .ref q_size, .ref q_blobs, .int v_length, .ref q_record, .int v_kind, .int v_cells, .int v_last, .ref q_cellLength, .ref q_row, .int v_made, .ref q_cell, .int v_deep, .ref q_way, .ref q_turn, .int v_at, .int v_bad, .ref q_used])), (q_p1, .inl (cI, n_p1, .inl v_p1))] H → va_D A [(q_this, .inr (8, [.ref q_now, .ref q_disk, .ref q_before, .int v_onDisk, .int v_head, .int v_headPages, .int v_records, .ref q_recordPage, .ref q_recordBytes, .int v_up, .int v_armed, .int v_columns, .ref q_isBlob, .ref q_integer, .ref q_size, .ref q_blobs, .int v_length, .ref q_record, .int v_kind, .int v_cells, .int v_last, .ref q_cellLength, .ref q_row, .int v_made, .ref q_cell, .int v_deep, .ref q_way, .ref q_turn, .int v_at, .int v_bad, .ref q_used])), (q_p1, .inl (cI, n_p1, .inl v_p1))] → va_S A s.heap H locs → lv_has ls 6 [(0, .ref q_this), (1, .ref q_p1), (2, .int x_2), (3, .int x_3), (4, .int x_4)] → q_MD_read_57 (q_MD_read_8 n_p1 v_p1 x_2 n8) n_p1 v_p1 v_at v_bad x_2 x_3 x_4 s_1 = some (o_r, o_at, o_bad) → W p l e rm_MD_read s m args below meth c H locs 0 0 Q (F0 m 57 ls [.int s_1, .ref q_this]) := by
        intro v_at v_bad x_3 x_4 s_1 H locs ls hP hD hS hl hf
        rw [q_MD_read_57] at hf
        obtain ⟨hz, hf⟩ := pu_ck_some hf
        refine pf_MD_129 (v := .int s_1) hx hb hts hN hown hK hP hD hS 0 rfl hz (pu_bz_fits hz) (Nat.le_of_ble_eq_true rfl) d_MD_read_57 (fun H locs hP hD hS => ?_)
        have hP : va_P D pu_cl [(q_this, .inr (8, [.ref q_now, .ref q_disk, .ref q_before, .int v_onDisk, .int v_head, .int v_headPages, .int v_records, .ref q_recordPage, .ref q_recordBytes, .int v_up, .int v_armed, .int v_columns, .ref q_isBlob, .ref q_integer, .ref q_size, .ref q_blobs, .int v_length, .ref q_record, .int v_kind, .int v_cells, .int v_last, .ref q_cellLength, .ref q_row, .int v_made, .ref q_cell, .int v_deep, .ref q_way, .ref q_turn, .int v_at, .int s_1, .ref q_used])), (q_p1, .inl (cI, n_p1, .inl v_p1))] H := hP
        have hD : va_D A [(q_this, .inr (8, [.ref q_now, .ref q_disk, .ref q_before, .int v_onDisk, .int v_head, .int v_headPages, .int v_records, .ref q_recordPage, .ref q_recordBytes, .int v_up, .int v_armed, .int v_columns, .ref q_isBlob, .ref q_integer, .ref q_size, .ref q_blobs, .int v_length, .ref q_record, .int v_kind, .int v_cells, .int v_last, .ref q_cellLength, .ref q_row, .int v_made, .ref q_cell, .int v_deep, .ref q_way, .ref q_turn, .int v_at, .int s_1, .ref q_used])), (q_p1, .inl (cI, n_p1, .inl v_p1))] := hD
        refine lv_aload_n hx hb d_MD_read_60 rfl (lv_at hl 0 rfl) ?_
        refine gf_MD_129 (v := .int s_1) hx hb hts hN hown hK hP 0 rfl rfl d_MD_read_61 ?_
        refine lv_if_eq (tgt := 69) hx hb d_MD_read_64 rfl (fun hc => ?_) (fun hc => ?_)
        · have hf := pu_br_pos hf hc
          refine lv_iload_n hx hb d_MD_read_69 rfl (lv_at hl 3 rfl) ?_
          refine lv_bipush (v := 7) hx hb d_MD_read_70 rfl ?_
          refine lv_ishl hx hb d_MD_read_72 ?_
          refine lv_aload_n hx hb d_MD_read_73 rfl (lv_at hl 1 rfl) ?_
          refine lv_aload_n hx hb d_MD_read_74 rfl (lv_at hl 0 rfl) ?_
          refine gf_MD_132 (v := .int v_at) hx hb hts hN hown hK hP 0 rfl rfl d_MD_read_75 ?_
          obtain ⟨hin, hf⟩ := pu_ck_some hf
          refine va_iald hx hb hK hP 1 0 rfl rfl hin d_MD_read_78 ?_
          refine lv_bipush (v := 127) hx hb d_MD_read_79 rfl ?_
          refine lv_iand hx hb d_MD_read_81 ?_
          refine lv_ior hx hb d_MD_read_82 ?_
          obtain ⟨t1, e_t1, hf⟩ := pu_nm_some hf
          refine pu_ti e_t1 ?_
          refine lv_istore_n hx hb d_MD_read_83 rfl hl (by decide) rfl (fun ls hl => ?_)
          have hl : lv_has ls 6 [(3, .int t1), (0, .ref q_this), (1, .ref q_p1), (2, .int x_2), (4, .int x_4)] := hl
          refine lv_aload_n hx hb d_MD_read_84 rfl (lv_at hl 2 rfl) ?_
          refine lv_aload_n hx hb d_MD_read_85 rfl (lv_at hl 1 rfl) ?_
          refine gf_MD_132 (v := .int v_at) hx hb hts hN hown hK hP 0 rfl rfl d_MD_read_86 ?_
          obtain ⟨hin, hf⟩ := pu_ck_some hf
          refine va_iald hx hb hK hP 1 0 rfl rfl hin d_MD_read_89 ?_
          refine lv_bipush (v := 127) hx hb d_MD_read_90 rfl ?_
          refine lv_icmp_le (tgt := 99) hx hb d_MD_read_92 rfl (fun hc => ?_) (fun hc => ?_)
          · have hf := pu_br_pos hf hc
            refine lv_iconst (v := 0) hx hb d_MD_read_99 rfl ?_
            exact lb_100 v_at s_1 t1 x_4 (0 : Int32) H locs ls hP hD hS (lv_sub hl [1, 2, 3, 0, 4] rfl) hf
          have hf := pu_br_neg hf hc
          refine lv_iconst (v := 1) hx hb d_MD_read_95 rfl ?_
          refine lv_goto (tgt := 100) hx hb d_MD_read_96 rfl ?_
          exact lb_100 v_at s_1 t1 x_4 (1 : Int32) H locs ls hP hD hS (lv_sub hl [1, 2, 3, 0, 4] rfl) hf
        have hf := pu_br_neg hf hc
        refine lv_iconst (v := 0) hx hb d_MD_read_67 rfl ?_
        exact hret _ _ _ _ (0 : Int32) v_at s_1 d_MD_read_68 hP hD hS hf
      have lb_52 : ∀ (v_at : Int32) (v_bad : Int32) (x_3 : Int32) (x_4 : Int32) (H : Heap) (locs : List Loc) (ls : Array Slot), va_P D pu_cl [(q_this, .inr (8, [.ref q_now, .ref q_disk, .ref q_before, .int v_onDisk, .int v_head, .int v_headPages, .int v_records, .ref q_recordPage, .ref q_recordBytes, .int v_up, .int v_armed, .int v_columns, .ref q_isBlob, .ref q_integer, .ref q_size, .ref q_blobs, .int v_length, .ref q_record, .int v_kind, .int v_cells, .int v_last, .ref q_cellLength, .ref q_row, .int v_made, .ref q_cell, .int v_deep, .ref q_way, .ref q_turn, .int v_at, .int v_bad, .ref q_used])), (q_p1, .inl (cI, n_p1, .inl v_p1))] H → va_D A [(q_this, .inr (8, [.ref q_now, .ref q_disk, .ref q_before, .int v_onDisk, .int v_head, .int v_headPages, .int v_records, .ref q_recordPage, .ref q_recordBytes, .int v_up, .int v_armed, .int v_columns, .ref q_isBlob, .ref q_integer, .ref q_size, .ref q_blobs, .int v_length, .ref q_record, .int v_kind, .int v_cells, .int v_last, .ref q_cellLength, .ref q_row, .int v_made, .ref q_cell, .int v_deep, .ref q_way, .ref q_turn, .int v_at, .int v_bad, .ref q_used])), (q_p1, .inl (cI, n_p1, .inl v_p1))] → va_S A s.heap H locs → lv_has ls 6 [(0, .ref q_this), (1, .ref q_p1), (2, .int x_2), (3, .int x_3), (4, .int x_4)] → q_MD_read_52 (q_MD_read_8 n_p1 v_p1 x_2 n8) n_p1 v_p1 v_at v_bad x_2 x_3 x_4 = some (o_r, o_at, o_bad) → W p l e rm_MD_read s m args below meth c H locs 0 0 Q (F0 m 52 ls [.ref q_this]) := by
        intro v_at v_bad x_3 x_4 H locs ls hP hD hS hl hf
        rw [q_MD_read_52] at hf
        refine lv_iconst (v := 1) hx hb d_MD_read_52 rfl ?_
        refine lv_goto (tgt := 57) hx hb d_MD_read_53 rfl ?_
        exact lb_57 v_at v_bad x_3 x_4 (1 : Int32) H locs ls hP hD hS (lv_sub hl [0, 1, 2, 3, 4] rfl) hf
      have lb_56 : ∀ (v_at : Int32) (v_bad : Int32) (x_3 : Int32) (x_4 : Int32) (H : Heap) (locs : List Loc) (ls : Array Slot), va_P D pu_cl [(q_this, .inr (8, [.ref q_now, .ref q_disk, .ref q_before, .int v_onDisk, .int v_head, .int v_headPages, .int v_records, .ref q_recordPage, .ref q_recordBytes, .int v_up, .int v_armed, .int v_columns, .ref q_isBlob, .ref q_integer, .ref q_size, .ref q_blobs, .int v_length, .ref q_record, .int v_kind, .int v_cells, .int v_last, .ref q_cellLength, .ref q_row, .int v_made, .ref q_cell, .int v_deep, .ref q_way, .ref q_turn, .int v_at, .int v_bad, .ref q_used])), (q_p1, .inl (cI, n_p1, .inl v_p1))] H → va_D A [(q_this, .inr (8, [.ref q_now, .ref q_disk, .ref q_before, .int v_onDisk, .int v_head, .int v_headPages, .int v_records, .ref q_recordPage, .ref q_recordBytes, .int v_up, .int v_armed, .int v_columns, .ref q_isBlob, .ref q_integer, .ref q_size, .ref q_blobs, .int v_length, .ref q_record, .int v_kind, .int v_cells, .int v_last, .ref q_cellLength, .ref q_row, .int v_made, .ref q_cell, .int v_deep, .ref q_way, .ref q_turn, .int v_at, .int v_bad, .ref q_used])), (q_p1, .inl (cI, n_p1, .inl v_p1))] → va_S A s.heap H locs → lv_has ls 6 [(0, .ref q_this), (1, .ref q_p1), (2, .int x_2), (3, .int x_3), (4, .int x_4)] → q_MD_read_56 (q_MD_read_8 n_p1 v_p1 x_2 n8) n_p1 v_p1 v_at v_bad x_2 x_3 x_4 = some (o_r, o_at, o_bad) → W p l e rm_MD_read s m args below meth c H locs 0 0 Q (F0 m 56 ls [.ref q_this]) := by
        intro v_at v_bad x_3 x_4 H locs ls hP hD hS hl hf
        rw [q_MD_read_56] at hf
        refine lv_iconst (v := 0) hx hb d_MD_read_56 rfl ?_
        exact lb_57 v_at v_bad x_3 x_4 (0 : Int32) H locs ls hP hD hS (lv_sub hl [0, 1, 2, 3, 4] rfl) hf
      intro v_at v_bad x_3 x_4 x_5 H locs ls hP hD hS hl hf
      rw [q_MD_read_8] at hf
      refine lv_iload hx hb d_MD_read_8 (lv_at hl 5 rfl) ?_
      refine lv_if_eq (tgt := 118) hx hb d_MD_read_10 rfl (fun hc => ?_) (fun hc => ?_)
      · have hf := pu_br_pos hf hc
        refine lv_iload_n hx hb d_MD_read_118 rfl (lv_at hl 3 rfl) ?_
        exact hret _ _ _ _ x_3 v_at v_bad d_MD_read_119 hP hD hS hf
      have hf := pu_br_neg hf hc
      refine lv_aload_n hx hb d_MD_read_13 rfl (lv_at hl 0 rfl) ?_
      refine gf_MD_129 (v := .int v_bad) hx hb hts hN hown hK hP 0 rfl rfl d_MD_read_14 ?_
      refine lv_if_ne (tgt := 118) hx hb d_MD_read_17 rfl (fun hc => ?_) (fun hc => ?_)
      · have hf := pu_br_neg hf hc
        refine lv_iload_n hx hb d_MD_read_118 rfl (lv_at hl 3 rfl) ?_
        exact hret _ _ _ _ x_3 v_at v_bad d_MD_read_119 hP hD hS hf
      have hf := pu_br_pos hf hc
      refine lv_aload_n hx hb d_MD_read_20 rfl (lv_at hl 0 rfl) ?_
      refine lv_aload_n hx hb d_MD_read_21 rfl (lv_at hl 0 rfl) ?_
      refine gf_MD_132 (v := .int v_at) hx hb hts hN hown hK hP 0 rfl rfl d_MD_read_22 ?_
      refine lv_iload_n hx hb d_MD_read_25 rfl (lv_at hl 2 rfl) ?_
      refine lv_icmp_ge (tgt := 52) hx hb d_MD_read_26 rfl (fun hc => ?_) (fun hc => ?_)
      · have hf := pu_br_pos hf hc
        exact lb_52 v_at v_bad x_3 x_4 H locs ls hP hD hS (lv_sub hl [0, 1, 2, 3, 4] rfl) hf
      have hf := pu_br_neg hf hc
      refine lv_iload hx hb d_MD_read_29 (lv_at hl 4 rfl) ?_
      refine lv_iconst (v := 4) hx hb d_MD_read_31 rfl ?_
      refine lv_icmp_eq (tgt := 52) hx hb d_MD_read_32 rfl (fun hc => ?_) (fun hc => ?_)
      · have hf := pu_br_pos hf hc
        exact lb_52 v_at v_bad x_3 x_4 H locs ls hP hD hS (lv_sub hl [0, 1, 2, 3, 4] rfl) hf
      have hf := pu_br_neg hf hc
      refine lv_iload hx hb d_MD_read_35 (lv_at hl 4 rfl) ?_
      refine lv_if_ne (tgt := 56) hx hb d_MD_read_37 rfl (fun hc => ?_) (fun hc => ?_)
      · have hf := pu_br_neg hf hc
        exact lb_56 v_at v_bad x_3 x_4 H locs ls hP hD hS (lv_sub hl [0, 1, 2, 3, 4] rfl) hf
      have hf := pu_br_pos hf hc
      refine lv_aload_n hx hb d_MD_read_40 rfl (lv_at hl 1 rfl) ?_
      refine lv_aload_n hx hb d_MD_read_41 rfl (lv_at hl 0 rfl) ?_
      refine gf_MD_132 (v := .int v_at) hx hb hts hN hown hK hP 0 rfl rfl d_MD_read_42 ?_
      obtain ⟨hin, hf⟩ := pu_ck_some hf
      refine va_iald hx hb hK hP 1 0 rfl rfl hin d_MD_read_45 ?_
      refine lv_sipush (v := 128) hx hb d_MD_read_46 rfl ?_
      refine lv_icmp_ne (tgt := 56) hx hb d_MD_read_49 rfl (fun hc => ?_) (fun hc => ?_)
      · have hf := pu_br_neg hf hc
        exact lb_56 v_at v_bad x_3 x_4 H locs ls hP hD hS (lv_sub hl [0, 1, 2, 3, 4] rfl) hf
      have hf := pu_br_pos hf hc
      exact lb_52 v_at v_bad x_3 x_4 H locs ls hP hD hS (lv_sub hl [0, 1, 2, 3, 4] rfl) hf
  obtain ⟨H, hH⟩ : ∃ H, H = s.heap := ⟨_, rfl⟩
  obtain ⟨locs, hlocs⟩ : ∃ locs : List Loc, locs = [] := ⟨_, rfl⟩
  have hP : va_P D pu_cl [(q_this, .inr (8, [.ref q_now, .ref q_disk, .ref q_before, .int v_onDisk, .int v_head, .int v_headPages, .int v_records, .ref q_recordPage, .ref q_recordBytes, .int v_up, .int v_armed, .int v_columns, .ref q_isBlob, .ref q_integer, .ref q_size, .ref q_blobs, .int v_length, .ref q_record, .int v_kind, .int v_cells, .int v_last, .ref q_cellLength, .ref q_row, .int v_made, .ref q_cell, .int v_deep, .ref q_way, .ref q_turn, .int v_at, .int v_bad, .ref q_used])), (q_p1, .inl (cI, n_p1, .inl v_p1))] H := by rw [hH]; exact hP
  have hS : va_S A s.heap H locs := by rw [hH, hlocs]; exact hS
  have goal : W p l e rm_MD_read s m args below meth c H locs 0 0 Q (F0 m 0 ls []) := by
    clear hH hlocs
    refine lv_iconst (v := 0) hx hb d_MD_read_0 rfl ?_
    refine lv_istore_n hx hb d_MD_read_1 rfl hl (by decide) rfl (fun ls hl => ?_)
    have hl : lv_has ls 6 [(3, .int (0 : Int32)), (0, .ref q_this), (1, .ref q_p1), (2, .int x_2)] := hl
    refine lv_iconst (v := 0) hx hb d_MD_read_2 rfl ?_
    refine lv_istore hx hb d_MD_read_3 hl (by decide) rfl (fun ls hl => ?_)
    have hl : lv_has ls 6 [(4, .int (0 : Int32)), (3, .int (0 : Int32)), (0, .ref q_this), (1, .ref q_p1), (2, .int x_2)] := hl
    refine lv_iconst (v := 1) hx hb d_MD_read_5 rfl ?_
    refine lv_istore hx hb d_MD_read_6 hl (by decide) rfl (fun ls hl => ?_)
    have hl : lv_has ls 6 [(5, .int (1 : Int32)), (4, .int (0 : Int32)), (3, .int (0 : Int32)), (0, .ref q_this), (1, .ref q_p1), (2, .int x_2)] := hl
    exact lp_8 x_2 _ v_at v_bad (0 : Int32) (0 : Int32) (1 : Int32) H locs ls hP hD hS (lv_sub hl [3, 4, 5, 2, 1, 0] rfl) hf
  rw [hH, hlocs] at goal
  exact goal
theorem d_MD_keyAt_0 : decode b_MD_keyAt 0 = .ok (.aload_n 0, 1) := by decide +kernel
theorem d_MD_keyAt_1 : decode b_MD_keyAt 1 = .ok (.bipush 64, 2) := by decide +kernel
theorem d_MD_keyAt_3 : decode b_MD_keyAt 3 = .ok (.iload_n 1, 1) := by decide +kernel
theorem d_MD_keyAt_4 : decode b_MD_keyAt 4 = .ok (.imul, 1) := by decide +kernel
theorem d_MD_keyAt_5 : decode b_MD_keyAt 5 = .ok (.aload_n 0, 1) := by decide +kernel
theorem d_MD_keyAt_6 : decode b_MD_keyAt 6 = .ok (.iload_n 1, 1) := by decide +kernel
theorem d_MD_keyAt_7 : decode b_MD_keyAt 7 = .ok (.iload_n 2, 1) := by decide +kernel
theorem d_MD_keyAt_8 : decode b_MD_keyAt 8 = .ok (.invokevirtual 115, 3) := by decide +kernel
theorem d_MD_keyAt_11 : decode b_MD_keyAt 11 = .ok (.iadd, 1) := by decide +kernel
theorem d_MD_keyAt_12 : decode b_MD_keyAt 12 = .ok (.aload_n 0, 1) := by decide +kernel
theorem d_MD_keyAt_13 : decode b_MD_keyAt 13 = .ok (.getfield 7, 3) := by decide +kernel
theorem d_MD_keyAt_16 : decode b_MD_keyAt 16 = .ok (.bipush 64, 2) := by decide +kernel
theorem d_MD_keyAt_18 : decode b_MD_keyAt 18 = .ok (.iload_n 1, 1) := by decide +kernel
theorem d_MD_keyAt_19 : decode b_MD_keyAt 19 = .ok (.imul, 1) := by decide +kernel
theorem d_MD_keyAt_20 : decode b_MD_keyAt 20 = .ok (.iaload, 1) := by decide +kernel
theorem d_MD_keyAt_21 : decode b_MD_keyAt 21 = .ok (.iconst 5, 1) := by decide +kernel
theorem d_MD_keyAt_22 : decode b_MD_keyAt 22 = .ok (.if_icmp .ne 7, 3) := by decide +kernel
theorem d_MD_keyAt_25 : decode b_MD_keyAt 25 = .ok (.iconst 1, 1) := by decide +kernel
theorem d_MD_keyAt_26 : decode b_MD_keyAt 26 = .ok (.goto 4, 3) := by decide +kernel
theorem d_MD_keyAt_29 : decode b_MD_keyAt 29 = .ok (.iconst 0, 1) := by decide +kernel
theorem d_MD_keyAt_30 : decode b_MD_keyAt 30 = .ok (.iadd, 1) := by decide +kernel
theorem d_MD_keyAt_31 : decode b_MD_keyAt 31 = .ok (.putfield 132, 3) := by decide +kernel
theorem d_MD_keyAt_34 : decode b_MD_keyAt 34 = .ok (.aload_n 0, 1) := by decide +kernel
theorem d_MD_keyAt_35 : decode b_MD_keyAt 35 = .ok (.iconst 0, 1) := by decide +kernel
theorem d_MD_keyAt_36 : decode b_MD_keyAt 36 = .ok (.putfield 129, 3) := by decide +kernel
theorem d_MD_keyAt_39 : decode b_MD_keyAt 39 = .ok (.aload_n 0, 1) := by decide +kernel
theorem d_MD_keyAt_40 : decode b_MD_keyAt 40 = .ok (.getfield 7, 3) := by decide +kernel
theorem d_MD_keyAt_43 : decode b_MD_keyAt 43 = .ok (.bipush 64, 2) := by decide +kernel
theorem d_MD_keyAt_45 : decode b_MD_keyAt 45 = .ok (.iload_n 1, 1) := by decide +kernel
theorem d_MD_keyAt_46 : decode b_MD_keyAt 46 = .ok (.imul, 1) := by decide +kernel
theorem d_MD_keyAt_47 : decode b_MD_keyAt 47 = .ok (.iaload, 1) := by decide +kernel
theorem d_MD_keyAt_48 : decode b_MD_keyAt 48 = .ok (.bipush 13, 2) := by decide +kernel
theorem d_MD_keyAt_50 : decode b_MD_keyAt 50 = .ok (.if_icmp .ne 17, 3) := by decide +kernel
theorem d_MD_keyAt_53 : decode b_MD_keyAt 53 = .ok (.aload_n 0, 1) := by decide +kernel
theorem d_MD_keyAt_54 : decode b_MD_keyAt 54 = .ok (.aload_n 0, 1) := by decide +kernel
theorem d_MD_keyAt_55 : decode b_MD_keyAt 55 = .ok (.getfield 7, 3) := by decide +kernel
theorem d_MD_keyAt_58 : decode b_MD_keyAt 58 = .ok (.sipush 1600, 3) := by decide +kernel
theorem d_MD_keyAt_61 : decode b_MD_keyAt 61 = .ok (.invokevirtual 135, 3) := by decide +kernel
theorem d_MD_keyAt_64 : decode b_MD_keyAt 64 = .ok (.goto 4, 3) := by decide +kernel
theorem d_MD_keyAt_67 : decode b_MD_keyAt 67 = .ok (.iconst 0, 1) := by decide +kernel
theorem d_MD_keyAt_68 : decode b_MD_keyAt 68 = .ok (.istore_n 3, 1) := by decide +kernel
theorem d_MD_keyAt_69 : decode b_MD_keyAt 69 = .ok (.aload_n 0, 1) := by decide +kernel
theorem d_MD_keyAt_70 : decode b_MD_keyAt 70 = .ok (.aload_n 0, 1) := by decide +kernel
theorem d_MD_keyAt_71 : decode b_MD_keyAt 71 = .ok (.getfield 7, 3) := by decide +kernel
theorem d_MD_keyAt_74 : decode b_MD_keyAt 74 = .ok (.sipush 1600, 3) := by decide +kernel
theorem d_MD_keyAt_77 : decode b_MD_keyAt 77 = .ok (.invokevirtual 135, 3) := by decide +kernel
theorem d_MD_keyAt_80 : decode b_MD_keyAt 80 = .ok (.ireturn, 1) := by decide +kernel
noncomputable def q_MD_keyAt_68 (v_now : Nat → Int32) (v_at : Int32) (v_bad : Int32) (s_0 : Int32) : Option (Int32 × Int32 × Int32) :=
  pu_b3 (f_MD_read 1600 v_now v_at v_bad (1600 : Int32)) (fun r3 w4 w5 => some (r3, w4, w5))
noncomputable def q_MD_keyAt_30 (v_now : Nat → Int32) (v_at : Int32) (v_bad : Int32) (x_1 : Int32) (s_1 : Int32) (s_2 : Int32) : Option (Int32 × Int32 × Int32) :=
  pu_nm (s_1 + s_2) (fun t2 => pu_ck (vp_in ((64 : Int32) * x_1) 1600) (pu_br ((v_now ((64 : Int32) * x_1).toNatClampNeg) = (13 : Int32)) (pu_b3 (f_MD_read 1600 v_now t2 (0 : Int32) (1600 : Int32)) (fun r6 w7 w8 => q_MD_keyAt_68 v_now w7 w8 r6)) (q_MD_keyAt_68 v_now t2 (0 : Int32) (0 : Int32))))
noncomputable def f_MD_keyAt (v_now : Nat → Int32) (v_at : Int32) (v_bad : Int32) (x_1 : Int32) (x_2 : Int32) : Option (Int32 × Int32 × Int32) :=
  pu_b1 (f_MD_begin v_now x_1 x_2) (fun r1 => pu_ck (vp_in ((64 : Int32) * x_1) 1600) (pu_br ((v_now ((64 : Int32) * x_1).toNatClampNeg) = (5 : Int32)) (q_MD_keyAt_30 v_now v_at v_bad x_1 (((64 : Int32) * x_1) + r1) (1 : Int32)) (q_MD_keyAt_30 v_now v_at v_bad x_1 (((64 : Int32) * x_1) + r1) (0 : Int32))))
abbrev rm_MD_keyAt : Room := { frames := 1, cells := 0, slots := 0, locals := 25 }
set_option maxHeartbeats 8000000 in
set_option maxRecDepth 100000 in
theorem c_MD_keyAt (l : Launch) (D : va_G) (cI cJ cB cZ : ClassId) (sz : Nat) (q_this : Nat) (q_now : Nat) (q_disk : Nat) (q_before : Nat) (q_recordPage : Nat) (q_recordBytes : Nat) (q_isBlob : Nat) (q_integer : Nat) (q_size : Nat) (q_blobs : Nat) (q_record : Nat) (q_cellLength : Nat) (q_row : Nat) (q_cell : Nat) (q_way : Nat) (q_turn : Nat) (q_used : Nat) (v_onDisk : Int32) (v_head : Int32) (v_headPages : Int32) (v_records : Int32) (v_up : Int32) (v_armed : Int32) (v_columns : Int32) (v_length : Int32) (v_kind : Int32) (v_cells : Int32) (v_last : Int32) (v_made : Int32) (v_deep : Int32) (v_at : Int32) (v_bad : Int32) (v_now : Nat → Int32) (x_1 : Int32) (x_2 : Int32) (o_r : Int32) (o_at : Int32) (o_bad : Int32) (hf : f_MD_keyAt v_now v_at v_bad x_1 x_2 = some (o_r, o_at, o_bad)) : Met l y_MD_keyAt (.code y_MD_keyAt b_MD_keyAt 4 (some .int) :: pu_wA) rm_MD_keyAt (pu_pc D pu_cl (pu_ty cI cJ cB cZ) [.ref q_this, .int x_1, .int x_2] [(q_this, .inr (8, [.ref q_now, .ref q_disk, .ref q_before, .int v_onDisk, .int v_head, .int v_headPages, .int v_records, .ref q_recordPage, .ref q_recordBytes, .int v_up, .int v_armed, .int v_columns, .ref q_isBlob, .ref q_integer, .ref q_size, .ref q_blobs, .int v_length, .ref q_record, .int v_kind, .int v_cells, .int v_last, .ref q_cellLength, .ref q_row, .int v_made, .ref q_cell, .int v_deep, .ref q_way, .ref q_turn, .int v_at, .int v_bad, .ref q_used])), (q_now, .inl (cI, 1600, .inl v_now))] sz) (pu_qi D pu_cl (pu_ty cI cJ cB cZ) [(q_this, .inr (8, [.ref q_now, .ref q_disk, .ref q_before, .int v_onDisk, .int v_head, .int v_headPages, .int v_records, .ref q_recordPage, .ref q_recordBytes, .int v_up, .int v_armed, .int v_columns, .ref q_isBlob, .ref q_integer, .ref q_size, .ref q_blobs, .int v_length, .ref q_record, .int v_kind, .int v_cells, .int v_last, .ref q_cellLength, .ref q_row, .int v_made, .ref q_cell, .int v_deep, .ref q_way, .ref q_turn, .int v_at, .int v_bad, .ref q_used])), (q_now, .inl (cI, 1600, .inl v_now))] [(q_this, .inr (8, [.ref q_now, .ref q_disk, .ref q_before, .int v_onDisk, .int v_head, .int v_headPages, .int v_records, .ref q_recordPage, .ref q_recordBytes, .int v_up, .int v_armed, .int v_columns, .ref q_isBlob, .ref q_integer, .ref q_size, .ref q_blobs, .int v_length, .ref q_record, .int v_kind, .int v_cells, .int v_last, .ref q_cellLength, .ref q_row, .int v_made, .ref q_cell, .int v_deep, .ref q_way, .ref q_turn, .int o_at, .int o_bad, .ref q_used])), (q_now, .inl (cI, 1600, .inl v_now))] sz o_r) 0 0 (va_A [(q_this, .inr (8, [.ref q_now, .ref q_disk, .ref q_before, .int v_onDisk, .int v_head, .int v_headPages, .int v_records, .ref q_recordPage, .ref q_recordBytes, .int v_up, .int v_armed, .int v_columns, .ref q_isBlob, .ref q_integer, .ref q_size, .ref q_blobs, .int v_length, .ref q_record, .int v_kind, .int v_cells, .int v_last, .ref q_cellLength, .ref q_row, .int v_made, .ref q_cell, .int v_deep, .ref q_way, .ref q_turn, .int v_at, .int v_bad, .ref q_used])), (q_now, .inl (cI, 1600, .inl v_now))] sz) := by
  refine pu_mti [.ref q_this, .int x_1, .int x_2] [(q_this, .inr (8, [.ref q_now, .ref q_disk, .ref q_before, .int v_onDisk, .int v_head, .int v_headPages, .int v_records, .ref q_recordPage, .ref q_recordBytes, .int v_up, .int v_armed, .int v_columns, .ref q_isBlob, .ref q_integer, .ref q_size, .ref q_blobs, .int v_length, .ref q_record, .int v_kind, .int v_cells, .int v_last, .ref q_cellLength, .ref q_row, .int v_made, .ref q_cell, .int v_deep, .ref q_way, .ref q_turn, .int v_at, .int v_bad, .ref q_used])), (q_now, .inl (cI, 1600, .inl v_now))] [(q_this, .inr (8, [.ref q_now, .ref q_disk, .ref q_before, .int v_onDisk, .int v_head, .int v_headPages, .int v_records, .ref q_recordPage, .ref q_recordBytes, .int v_up, .int v_armed, .int v_columns, .ref q_isBlob, .ref q_integer, .ref q_size, .ref q_blobs, .int v_length, .ref q_record, .int v_kind, .int v_cells, .int v_last, .ref q_cellLength, .ref q_row, .int v_made, .ref q_cell, .int v_deep, .ref q_way, .ref q_turn, .int o_at, .int o_bad, .ref q_used])), (q_now, .inl (cI, 1600, .inl v_now))] o_r (by decide) (Nat.le_of_ble_eq_true rfl) ?_
  intro p e s m args below meth c A Q ls hx hb hml hts hN hown hK hA hP hD hl hret0
  have hS : va_S A s.heap s.heap [] := va_S.rf
  have hl : lv_has ls 4 [(0, .ref q_this), (1, .int x_1), (2, .int x_2)] := hl
  have hret : ∀ (pc : Nat) (ls : Array Slot) (H : Heap) (locs : List Loc) (y_0 : Int32) (y_1 : Int32) (y_2 : Int32), decode b_MD_keyAt pc = .ok (.ireturn, 1) → va_P D pu_cl [(q_this, .inr (8, [.ref q_now, .ref q_disk, .ref q_before, .int v_onDisk, .int v_head, .int v_headPages, .int v_records, .ref q_recordPage, .ref q_recordBytes, .int v_up, .int v_armed, .int v_columns, .ref q_isBlob, .ref q_integer, .ref q_size, .ref q_blobs, .int v_length, .ref q_record, .int v_kind, .int v_cells, .int v_last, .ref q_cellLength, .ref q_row, .int v_made, .ref q_cell, .int v_deep, .ref q_way, .ref q_turn, .int y_1, .int y_2, .ref q_used])), (q_now, .inl (cI, 1600, .inl v_now))] H → va_D A [(q_this, .inr (8, [.ref q_now, .ref q_disk, .ref q_before, .int v_onDisk, .int v_head, .int v_headPages, .int v_records, .ref q_recordPage, .ref q_recordBytes, .int v_up, .int v_armed, .int v_columns, .ref q_isBlob, .ref q_integer, .ref q_size, .ref q_blobs, .int v_length, .ref q_record, .int v_kind, .int v_cells, .int v_last, .ref q_cellLength, .ref q_row, .int v_made, .ref q_cell, .int v_deep, .ref q_way, .ref q_turn, .int y_1, .int y_2, .ref q_used])), (q_now, .inl (cI, 1600, .inl v_now))] → va_S A s.heap H locs → some (y_0, y_1, y_2) = some (o_r, o_at, o_bad) → W p l e rm_MD_keyAt s m args below meth c H locs 0 0 Q (F0 m pc ls [.int y_0]) := by
    intro pc ls H locs y_0 y_1 y_2 hd hP hD hS hf
    cases hf
    exact hret0 pc ls H locs hd hP hD hS
  clear hret0
  unfold f_MD_keyAt at hf
  skip
  have lb_68 : ∀ (v_at : Int32) (v_bad : Int32) (s_0 : Int32) (H : Heap) (locs : List Loc) (ls : Array Slot), va_P D pu_cl [(q_this, .inr (8, [.ref q_now, .ref q_disk, .ref q_before, .int v_onDisk, .int v_head, .int v_headPages, .int v_records, .ref q_recordPage, .ref q_recordBytes, .int v_up, .int v_armed, .int v_columns, .ref q_isBlob, .ref q_integer, .ref q_size, .ref q_blobs, .int v_length, .ref q_record, .int v_kind, .int v_cells, .int v_last, .ref q_cellLength, .ref q_row, .int v_made, .ref q_cell, .int v_deep, .ref q_way, .ref q_turn, .int v_at, .int v_bad, .ref q_used])), (q_now, .inl (cI, 1600, .inl v_now))] H → va_D A [(q_this, .inr (8, [.ref q_now, .ref q_disk, .ref q_before, .int v_onDisk, .int v_head, .int v_headPages, .int v_records, .ref q_recordPage, .ref q_recordBytes, .int v_up, .int v_armed, .int v_columns, .ref q_isBlob, .ref q_integer, .ref q_size, .ref q_blobs, .int v_length, .ref q_record, .int v_kind, .int v_cells, .int v_last, .ref q_cellLength, .ref q_row, .int v_made, .ref q_cell, .int v_deep, .ref q_way, .ref q_turn, .int v_at, .int v_bad, .ref q_used])), (q_now, .inl (cI, 1600, .inl v_now))] → va_S A s.heap H locs → lv_has ls 4 [(0, .ref q_this)] → q_MD_keyAt_68 v_now v_at v_bad s_0 = some (o_r, o_at, o_bad) → W p l e rm_MD_keyAt s m args below meth c H locs 0 0 Q (F0 m 68 ls [.int s_0]) := by
    intro v_at v_bad s_0 H locs ls hP hD hS hl hf
    rw [q_MD_keyAt_68] at hf
    refine lv_istore_n hx hb d_MD_keyAt_68 rfl hl (by decide) rfl (fun ls hl => ?_)
    have hl : lv_has ls 4 [(3, .int s_0), (0, .ref q_this)] := hl
    refine lv_aload_n hx hb d_MD_keyAt_69 rfl (lv_at hl 1 rfl) ?_
    refine lv_aload_n hx hb d_MD_keyAt_70 rfl (lv_at hl 1 rfl) ?_
    refine gf_MD_7 (v := .ref q_now) hx hb hts hN hown hK hP 0 rfl rfl d_MD_keyAt_71 ?_
    refine lv_sipush (v := 1600) hx hb d_MD_keyAt_74 rfl ?_
    obtain ⟨r3, w4, w5, hc, hf⟩ := pu_b3_some hf
    refine cl_i (WC := [(q_this, .inr (8, [.ref q_now, .ref q_disk, .ref q_before, .int v_onDisk, .int v_head, .int v_headPages, .int v_records, .ref q_recordPage, .ref q_recordBytes, .int v_up, .int v_armed, .int v_columns, .ref q_isBlob, .ref q_integer, .ref q_size, .ref q_blobs, .int v_length, .ref q_record, .int v_kind, .int v_cells, .int v_last, .ref q_cellLength, .ref q_row, .int v_made, .ref q_cell, .int v_deep, .ref q_way, .ref q_turn, .int v_at, .int v_bad, .ref q_used])), (q_now, .inl (cI, 1600, .inl v_now))]) (WC2 := [(q_this, .inr (8, [.ref q_now, .ref q_disk, .ref q_before, .int v_onDisk, .int v_head, .int v_headPages, .int v_records, .ref q_recordPage, .ref q_recordBytes, .int v_up, .int v_armed, .int v_columns, .ref q_isBlob, .ref q_integer, .ref q_size, .ref q_blobs, .int v_length, .ref q_record, .int v_kind, .int v_cells, .int v_last, .ref q_cellLength, .ref q_row, .int v_made, .ref q_cell, .int v_deep, .ref q_way, .ref q_turn, .int w4, .int w5, .ref q_used])), (q_now, .inl (cI, 1600, .inl v_now))]) (WR := []) (WS2 := [(q_this, .inr (8, [.ref q_now, .ref q_disk, .ref q_before, .int v_onDisk, .int v_head, .int v_headPages, .int v_records, .ref q_recordPage, .ref q_recordBytes, .int v_up, .int v_armed, .int v_columns, .ref q_isBlob, .ref q_integer, .ref q_size, .ref q_blobs, .int v_length, .ref q_record, .int v_kind, .int v_cells, .int v_last, .ref q_cellLength, .ref q_row, .int v_made, .ref q_cell, .int v_deep, .ref q_way, .ref q_turn, .int w4, .int w5, .ref q_used])), (q_now, .inl (cI, 1600, .inl v_now))]) (pu_rv (cl := pu_cl) (pu_in10 _ (List.mem_of_getElem? (i := 57) rfl)) (pu_in10 _ (List.mem_of_getElem? (i := 58) rfl)) (pu_in14 _ (List.mem_of_getElem? (i := 16) rfl)) (pu_in0 _ (List.mem_of_getElem? (i := 10) rfl)) (pu_in10 _ (List.mem_of_getElem? (i := 59) rfl)) (ci := 8) rfl hd_MD_read (by decide) ⟨rfl, rfl⟩ rfl rfl (Nat.le_of_ble_eq_true rfl) rfl (As := [.ref q_now, .int (1600 : Int32)]) (rest := []) (WC := [(q_this, .inr (8, [.ref q_now, .ref q_disk, .ref q_before, .int v_onDisk, .int v_head, .int v_headPages, .int v_records, .ref q_recordPage, .ref q_recordBytes, .int v_up, .int v_armed, .int v_columns, .ref q_isBlob, .ref q_integer, .ref q_size, .ref q_blobs, .int v_length, .ref q_record, .int v_kind, .int v_cells, .int v_last, .ref q_cellLength, .ref q_row, .int v_made, .ref q_cell, .int v_deep, .ref q_way, .ref q_turn, .int v_at, .int v_bad, .ref q_used])), (q_now, .inl (cI, 1600, .inl v_now))]) hx hb hml hown hts hN hK hP hD (c_MD_read l D cI cJ cB cZ H.size q_this q_now q_disk q_before q_recordPage q_recordBytes q_isBlob q_integer q_size q_blobs q_record q_cellLength q_row q_cell q_way q_turn q_used q_now 1600 v_onDisk v_head v_headPages v_records v_up v_armed v_columns v_length v_kind v_cells v_last v_made v_deep v_at v_bad v_now (1600 : Int32) r3 w4 w5 hc) [0, 1] rfl rfl hl.1 d_MD_keyAt_77) hP hD hS hA [0, 1] [] [0, 1] rfl rfl rfl (by decide) rfl rfl (fun H locs hP hD hS => ?_)
    exact hret _ _ _ _ r3 w4 w5 d_MD_keyAt_80 hP hD hS hf
  have lb_30 : ∀ (v_at : Int32) (v_bad : Int32) (x_1 : Int32) (s_1 : Int32) (s_2 : Int32) (H : Heap) (locs : List Loc) (ls : Array Slot), va_P D pu_cl [(q_this, .inr (8, [.ref q_now, .ref q_disk, .ref q_before, .int v_onDisk, .int v_head, .int v_headPages, .int v_records, .ref q_recordPage, .ref q_recordBytes, .int v_up, .int v_armed, .int v_columns, .ref q_isBlob, .ref q_integer, .ref q_size, .ref q_blobs, .int v_length, .ref q_record, .int v_kind, .int v_cells, .int v_last, .ref q_cellLength, .ref q_row, .int v_made, .ref q_cell, .int v_deep, .ref q_way, .ref q_turn, .int v_at, .int v_bad, .ref q_used])), (q_now, .inl (cI, 1600, .inl v_now))] H → va_D A [(q_this, .inr (8, [.ref q_now, .ref q_disk, .ref q_before, .int v_onDisk, .int v_head, .int v_headPages, .int v_records, .ref q_recordPage, .ref q_recordBytes, .int v_up, .int v_armed, .int v_columns, .ref q_isBlob, .ref q_integer, .ref q_size, .ref q_blobs, .int v_length, .ref q_record, .int v_kind, .int v_cells, .int v_last, .ref q_cellLength, .ref q_row, .int v_made, .ref q_cell, .int v_deep, .ref q_way, .ref q_turn, .int v_at, .int v_bad, .ref q_used])), (q_now, .inl (cI, 1600, .inl v_now))] → va_S A s.heap H locs → lv_has ls 4 [(0, .ref q_this), (1, .int x_1)] → q_MD_keyAt_30 v_now v_at v_bad x_1 s_1 s_2 = some (o_r, o_at, o_bad) → W p l e rm_MD_keyAt s m args below meth c H locs 0 0 Q (F0 m 30 ls [.int s_2, .int s_1, .ref q_this]) := by
    intro v_at v_bad x_1 s_1 s_2 H locs ls hP hD hS hl hf
    rw [q_MD_keyAt_30] at hf
    refine lv_iadd hx hb d_MD_keyAt_30 ?_
    obtain ⟨t2, e_t2, hf⟩ := pu_nm_some hf
    refine pu_ti e_t2 ?_
    refine pf_MD_132 (v := .int t2) hx hb hts hN hown hK hP hD hS 0 rfl rfl rfl (Nat.le_of_ble_eq_true rfl) d_MD_keyAt_31 (fun H locs hP hD hS => ?_)
    have hP : va_P D pu_cl [(q_this, .inr (8, [.ref q_now, .ref q_disk, .ref q_before, .int v_onDisk, .int v_head, .int v_headPages, .int v_records, .ref q_recordPage, .ref q_recordBytes, .int v_up, .int v_armed, .int v_columns, .ref q_isBlob, .ref q_integer, .ref q_size, .ref q_blobs, .int v_length, .ref q_record, .int v_kind, .int v_cells, .int v_last, .ref q_cellLength, .ref q_row, .int v_made, .ref q_cell, .int v_deep, .ref q_way, .ref q_turn, .int t2, .int v_bad, .ref q_used])), (q_now, .inl (cI, 1600, .inl v_now))] H := hP
    have hD : va_D A [(q_this, .inr (8, [.ref q_now, .ref q_disk, .ref q_before, .int v_onDisk, .int v_head, .int v_headPages, .int v_records, .ref q_recordPage, .ref q_recordBytes, .int v_up, .int v_armed, .int v_columns, .ref q_isBlob, .ref q_integer, .ref q_size, .ref q_blobs, .int v_length, .ref q_record, .int v_kind, .int v_cells, .int v_last, .ref q_cellLength, .ref q_row, .int v_made, .ref q_cell, .int v_deep, .ref q_way, .ref q_turn, .int t2, .int v_bad, .ref q_used])), (q_now, .inl (cI, 1600, .inl v_now))] := hD
    refine lv_aload_n hx hb d_MD_keyAt_34 rfl (lv_at hl 0 rfl) ?_
    refine lv_iconst (v := 0) hx hb d_MD_keyAt_35 rfl ?_
    refine pf_MD_129 (v := .int (0 : Int32)) hx hb hts hN hown hK hP hD hS 0 rfl (by decide) (by decide) (Nat.le_of_ble_eq_true rfl) d_MD_keyAt_36 (fun H locs hP hD hS => ?_)
    have hP : va_P D pu_cl [(q_this, .inr (8, [.ref q_now, .ref q_disk, .ref q_before, .int v_onDisk, .int v_head, .int v_headPages, .int v_records, .ref q_recordPage, .ref q_recordBytes, .int v_up, .int v_armed, .int v_columns, .ref q_isBlob, .ref q_integer, .ref q_size, .ref q_blobs, .int v_length, .ref q_record, .int v_kind, .int v_cells, .int v_last, .ref q_cellLength, .ref q_row, .int v_made, .ref q_cell, .int v_deep, .ref q_way, .ref q_turn, .int t2, .int (0 : Int32), .ref q_used])), (q_now, .inl (cI, 1600, .inl v_now))] H := hP
    have hD : va_D A [(q_this, .inr (8, [.ref q_now, .ref q_disk, .ref q_before, .int v_onDisk, .int v_head, .int v_headPages, .int v_records, .ref q_recordPage, .ref q_recordBytes, .int v_up, .int v_armed, .int v_columns, .ref q_isBlob, .ref q_integer, .ref q_size, .ref q_blobs, .int v_length, .ref q_record, .int v_kind, .int v_cells, .int v_last, .ref q_cellLength, .ref q_row, .int v_made, .ref q_cell, .int v_deep, .ref q_way, .ref q_turn, .int t2, .int (0 : Int32), .ref q_used])), (q_now, .inl (cI, 1600, .inl v_now))] := hD
    refine lv_aload_n hx hb d_MD_keyAt_39 rfl (lv_at hl 0 rfl) ?_
    refine gf_MD_7 (v := .ref q_now) hx hb hts hN hown hK hP 0 rfl rfl d_MD_keyAt_40 ?_
    refine lv_bipush (v := 64) hx hb d_MD_keyAt_43 rfl ?_
    refine lv_iload_n hx hb d_MD_keyAt_45 rfl (lv_at hl 1 rfl) ?_
    refine lv_imul hx hb d_MD_keyAt_46 ?_
    obtain ⟨hin, hf⟩ := pu_ck_some hf
    refine va_iald hx hb hK hP 1 0 rfl rfl hin d_MD_keyAt_47 ?_
    refine lv_bipush (v := 13) hx hb d_MD_keyAt_48 rfl ?_
    refine lv_icmp_ne (tgt := 67) hx hb d_MD_keyAt_50 rfl (fun hc => ?_) (fun hc => ?_)
    · have hf := pu_br_neg hf hc
      refine lv_iconst (v := 0) hx hb d_MD_keyAt_67 rfl ?_
      exact lb_68 t2 (0 : Int32) (0 : Int32) H locs ls hP hD hS (lv_sub hl [0] rfl) hf
    have hf := pu_br_pos hf hc
    refine lv_aload_n hx hb d_MD_keyAt_53 rfl (lv_at hl 0 rfl) ?_
    refine lv_aload_n hx hb d_MD_keyAt_54 rfl (lv_at hl 0 rfl) ?_
    refine gf_MD_7 (v := .ref q_now) hx hb hts hN hown hK hP 0 rfl rfl d_MD_keyAt_55 ?_
    refine lv_sipush (v := 1600) hx hb d_MD_keyAt_58 rfl ?_
    obtain ⟨r6, w7, w8, hc, hf⟩ := pu_b3_some hf
    refine cl_i (WC := [(q_this, .inr (8, [.ref q_now, .ref q_disk, .ref q_before, .int v_onDisk, .int v_head, .int v_headPages, .int v_records, .ref q_recordPage, .ref q_recordBytes, .int v_up, .int v_armed, .int v_columns, .ref q_isBlob, .ref q_integer, .ref q_size, .ref q_blobs, .int v_length, .ref q_record, .int v_kind, .int v_cells, .int v_last, .ref q_cellLength, .ref q_row, .int v_made, .ref q_cell, .int v_deep, .ref q_way, .ref q_turn, .int t2, .int (0 : Int32), .ref q_used])), (q_now, .inl (cI, 1600, .inl v_now))]) (WC2 := [(q_this, .inr (8, [.ref q_now, .ref q_disk, .ref q_before, .int v_onDisk, .int v_head, .int v_headPages, .int v_records, .ref q_recordPage, .ref q_recordBytes, .int v_up, .int v_armed, .int v_columns, .ref q_isBlob, .ref q_integer, .ref q_size, .ref q_blobs, .int v_length, .ref q_record, .int v_kind, .int v_cells, .int v_last, .ref q_cellLength, .ref q_row, .int v_made, .ref q_cell, .int v_deep, .ref q_way, .ref q_turn, .int w7, .int w8, .ref q_used])), (q_now, .inl (cI, 1600, .inl v_now))]) (WR := []) (WS2 := [(q_this, .inr (8, [.ref q_now, .ref q_disk, .ref q_before, .int v_onDisk, .int v_head, .int v_headPages, .int v_records, .ref q_recordPage, .ref q_recordBytes, .int v_up, .int v_armed, .int v_columns, .ref q_isBlob, .ref q_integer, .ref q_size, .ref q_blobs, .int v_length, .ref q_record, .int v_kind, .int v_cells, .int v_last, .ref q_cellLength, .ref q_row, .int v_made, .ref q_cell, .int v_deep, .ref q_way, .ref q_turn, .int w7, .int w8, .ref q_used])), (q_now, .inl (cI, 1600, .inl v_now))]) (pu_rv (cl := pu_cl) (pu_in10 _ (List.mem_of_getElem? (i := 57) rfl)) (pu_in10 _ (List.mem_of_getElem? (i := 58) rfl)) (pu_in14 _ (List.mem_of_getElem? (i := 16) rfl)) (pu_in0 _ (List.mem_of_getElem? (i := 10) rfl)) (pu_in10 _ (List.mem_of_getElem? (i := 59) rfl)) (ci := 8) rfl hd_MD_read (by decide) ⟨rfl, rfl⟩ rfl rfl (Nat.le_of_ble_eq_true rfl) rfl (As := [.ref q_now, .int (1600 : Int32)]) (rest := []) (WC := [(q_this, .inr (8, [.ref q_now, .ref q_disk, .ref q_before, .int v_onDisk, .int v_head, .int v_headPages, .int v_records, .ref q_recordPage, .ref q_recordBytes, .int v_up, .int v_armed, .int v_columns, .ref q_isBlob, .ref q_integer, .ref q_size, .ref q_blobs, .int v_length, .ref q_record, .int v_kind, .int v_cells, .int v_last, .ref q_cellLength, .ref q_row, .int v_made, .ref q_cell, .int v_deep, .ref q_way, .ref q_turn, .int t2, .int (0 : Int32), .ref q_used])), (q_now, .inl (cI, 1600, .inl v_now))]) hx hb hml hown hts hN hK hP hD (c_MD_read l D cI cJ cB cZ H.size q_this q_now q_disk q_before q_recordPage q_recordBytes q_isBlob q_integer q_size q_blobs q_record q_cellLength q_row q_cell q_way q_turn q_used q_now 1600 v_onDisk v_head v_headPages v_records v_up v_armed v_columns v_length v_kind v_cells v_last v_made v_deep t2 (0 : Int32) v_now (1600 : Int32) r6 w7 w8 hc) [0, 1] rfl rfl hl.1 d_MD_keyAt_61) hP hD hS hA [0, 1] [] [0, 1] rfl rfl rfl (by decide) rfl rfl (fun H locs hP hD hS => ?_)
    refine lv_goto (tgt := 68) hx hb d_MD_keyAt_64 rfl ?_
    exact lb_68 w7 w8 r6 H locs ls hP hD hS (lv_sub hl [0] rfl) hf
  obtain ⟨H, hH⟩ : ∃ H, H = s.heap := ⟨_, rfl⟩
  obtain ⟨locs, hlocs⟩ : ∃ locs : List Loc, locs = [] := ⟨_, rfl⟩
  have hP : va_P D pu_cl [(q_this, .inr (8, [.ref q_now, .ref q_disk, .ref q_before, .int v_onDisk, .int v_head, .int v_headPages, .int v_records, .ref q_recordPage, .ref q_recordBytes, .int v_up, .int v_armed, .int v_columns, .ref q_isBlob, .ref q_integer, .ref q_size, .ref q_blobs, .int v_length, .ref q_record, .int v_kind, .int v_cells, .int v_last, .ref q_cellLength, .ref q_row, .int v_made, .ref q_cell, .int v_deep, .ref q_way, .ref q_turn, .int v_at, .int v_bad, .ref q_used])), (q_now, .inl (cI, 1600, .inl v_now))] H := by rw [hH]; exact hP
  have hS : va_S A s.heap H locs := by rw [hH, hlocs]; exact hS
  have goal : W p l e rm_MD_keyAt s m args below meth c H locs 0 0 Q (F0 m 0 ls []) := by
    clear hH hlocs
    refine lv_aload_n hx hb d_MD_keyAt_0 rfl (lv_at hl 0 rfl) ?_
    refine lv_bipush (v := 64) hx hb d_MD_keyAt_1 rfl ?_
    refine lv_iload_n hx hb d_MD_keyAt_3 rfl (lv_at hl 1 rfl) ?_
    refine lv_imul hx hb d_MD_keyAt_4 ?_
    refine lv_aload_n hx hb d_MD_keyAt_5 rfl (lv_at hl 0 rfl) ?_
    refine lv_iload_n hx hb d_MD_keyAt_6 rfl (lv_at hl 1 rfl) ?_
    refine lv_iload_n hx hb d_MD_keyAt_7 rfl (lv_at hl 2 rfl) ?_
    obtain ⟨r1, hc, hf⟩ := pu_b1_some hf
    refine cl_i (WC := [(q_this, .inr (8, [.ref q_now, .ref q_disk, .ref q_before, .int v_onDisk, .int v_head, .int v_headPages, .int v_records, .ref q_recordPage, .ref q_recordBytes, .int v_up, .int v_armed, .int v_columns, .ref q_isBlob, .ref q_integer, .ref q_size, .ref q_blobs, .int v_length, .ref q_record, .int v_kind, .int v_cells, .int v_last, .ref q_cellLength, .ref q_row, .int v_made, .ref q_cell, .int v_deep, .ref q_way, .ref q_turn, .int v_at, .int v_bad, .ref q_used])), (q_now, .inl (cI, 1600, .inl v_now))]) (WC2 := [(q_this, .inr (8, [.ref q_now, .ref q_disk, .ref q_before, .int v_onDisk, .int v_head, .int v_headPages, .int v_records, .ref q_recordPage, .ref q_recordBytes, .int v_up, .int v_armed, .int v_columns, .ref q_isBlob, .ref q_integer, .ref q_size, .ref q_blobs, .int v_length, .ref q_record, .int v_kind, .int v_cells, .int v_last, .ref q_cellLength, .ref q_row, .int v_made, .ref q_cell, .int v_deep, .ref q_way, .ref q_turn, .int v_at, .int v_bad, .ref q_used])), (q_now, .inl (cI, 1600, .inl v_now))]) (WR := []) (WS2 := [(q_this, .inr (8, [.ref q_now, .ref q_disk, .ref q_before, .int v_onDisk, .int v_head, .int v_headPages, .int v_records, .ref q_recordPage, .ref q_recordBytes, .int v_up, .int v_armed, .int v_columns, .ref q_isBlob, .ref q_integer, .ref q_size, .ref q_blobs, .int v_length, .ref q_record, .int v_kind, .int v_cells, .int v_last, .ref q_cellLength, .ref q_row, .int v_made, .ref q_cell, .int v_deep, .ref q_way, .ref q_turn, .int v_at, .int v_bad, .ref q_used])), (q_now, .inl (cI, 1600, .inl v_now))]) (pu_rv (cl := pu_cl) (pu_in10 _ (List.mem_of_getElem? (i := 54) rfl)) (pu_in10 _ (List.mem_of_getElem? (i := 55) rfl)) (pu_in14 _ (List.mem_of_getElem? (i := 15) rfl)) (pu_in0 _ (List.mem_of_getElem? (i := 10) rfl)) (pu_in10 _ (List.mem_of_getElem? (i := 56) rfl)) (ci := 8) rfl hd_MD_begin (by decide) ⟨rfl, rfl⟩ rfl rfl (Nat.le_of_ble_eq_true rfl) rfl (As := [.int x_1, .int x_2]) (rest := [.int ((64 : Int32) * x_1), .ref q_this]) (WC := [(q_this, .inr (8, [.ref q_now, .ref q_disk, .ref q_before, .int v_onDisk, .int v_head, .int v_headPages, .int v_records, .ref q_recordPage, .ref q_recordBytes, .int v_up, .int v_armed, .int v_columns, .ref q_isBlob, .ref q_integer, .ref q_size, .ref q_blobs, .int v_length, .ref q_record, .int v_kind, .int v_cells, .int v_last, .ref q_cellLength, .ref q_row, .int v_made, .ref q_cell, .int v_deep, .ref q_way, .ref q_turn, .int v_at, .int v_bad, .ref q_used])), (q_now, .inl (cI, 1600, .inl v_now))]) hx hb hml hown hts hN hK hP hD (c_MD_begin l D cI cJ cB cZ H.size q_this q_now q_disk q_before q_recordPage q_recordBytes q_isBlob q_integer q_size q_blobs q_record q_cellLength q_row q_cell q_way q_turn q_used v_onDisk v_head v_headPages v_records v_up v_armed v_columns v_length v_kind v_cells v_last v_made v_deep v_at v_bad v_now x_1 x_2 r1 hc) [0, 1] rfl rfl hl.1 d_MD_keyAt_8) hP hD hS hA [0, 1] [] [0, 1] rfl rfl rfl (by decide) rfl rfl (fun H locs hP hD hS => ?_)
    refine lv_iadd hx hb d_MD_keyAt_11 ?_
    refine lv_aload_n hx hb d_MD_keyAt_12 rfl (lv_at hl 0 rfl) ?_
    refine gf_MD_7 (v := .ref q_now) hx hb hts hN hown hK hP 0 rfl rfl d_MD_keyAt_13 ?_
    refine lv_bipush (v := 64) hx hb d_MD_keyAt_16 rfl ?_
    refine lv_iload_n hx hb d_MD_keyAt_18 rfl (lv_at hl 1 rfl) ?_
    refine lv_imul hx hb d_MD_keyAt_19 ?_
    obtain ⟨hin, hf⟩ := pu_ck_some hf
    refine va_iald hx hb hK hP 1 0 rfl rfl hin d_MD_keyAt_20 ?_
    refine lv_iconst (v := 5) hx hb d_MD_keyAt_21 rfl ?_
    refine lv_icmp_ne (tgt := 29) hx hb d_MD_keyAt_22 rfl (fun hc => ?_) (fun hc => ?_)
    · have hf := pu_br_neg hf hc
      refine lv_iconst (v := 0) hx hb d_MD_keyAt_29 rfl ?_
      exact lb_30 v_at v_bad x_1 (((64 : Int32) * x_1) + r1) (0 : Int32) H locs ls hP hD hS (lv_sub hl [0, 1] rfl) hf
    have hf := pu_br_pos hf hc
    refine lv_iconst (v := 1) hx hb d_MD_keyAt_25 rfl ?_
    refine lv_goto (tgt := 30) hx hb d_MD_keyAt_26 rfl ?_
    exact lb_30 v_at v_bad x_1 (((64 : Int32) * x_1) + r1) (1 : Int32) H locs ls hP hD hS (lv_sub hl [0, 1] rfl) hf
  rw [hH, hlocs] at goal
  exact goal
theorem d_MD_child_0 : decode b_MD_child 0 = .ok (.iload_n 2, 1) := by decide +kernel
theorem d_MD_child_1 : decode b_MD_child 1 = .ok (.aload_n 0, 1) := by decide +kernel
theorem d_MD_child_2 : decode b_MD_child 2 = .ok (.getfield 7, 3) := by decide +kernel
theorem d_MD_child_5 : decode b_MD_child 5 = .ok (.bipush 64, 2) := by decide +kernel
theorem d_MD_child_7 : decode b_MD_child 7 = .ok (.iload_n 1, 1) := by decide +kernel
theorem d_MD_child_8 : decode b_MD_child 8 = .ok (.imul, 1) := by decide +kernel
theorem d_MD_child_9 : decode b_MD_child 9 = .ok (.iconst 1, 1) := by decide +kernel
theorem d_MD_child_10 : decode b_MD_child 10 = .ok (.iadd, 1) := by decide +kernel
theorem d_MD_child_11 : decode b_MD_child 11 = .ok (.iaload, 1) := by decide +kernel
theorem d_MD_child_12 : decode b_MD_child 12 = .ok (.if_icmp .ne 17, 3) := by decide +kernel
theorem d_MD_child_15 : decode b_MD_child 15 = .ok (.aload_n 0, 1) := by decide +kernel
theorem d_MD_child_16 : decode b_MD_child 16 = .ok (.getfield 7, 3) := by decide +kernel
theorem d_MD_child_19 : decode b_MD_child 19 = .ok (.bipush 64, 2) := by decide +kernel
theorem d_MD_child_21 : decode b_MD_child 21 = .ok (.iload_n 1, 1) := by decide +kernel
theorem d_MD_child_22 : decode b_MD_child 22 = .ok (.imul, 1) := by decide +kernel
theorem d_MD_child_23 : decode b_MD_child 23 = .ok (.iconst 2, 1) := by decide +kernel
theorem d_MD_child_24 : decode b_MD_child 24 = .ok (.iadd, 1) := by decide +kernel
theorem d_MD_child_25 : decode b_MD_child 25 = .ok (.iaload, 1) := by decide +kernel
theorem d_MD_child_26 : decode b_MD_child 26 = .ok (.goto 19, 3) := by decide +kernel
theorem d_MD_child_29 : decode b_MD_child 29 = .ok (.aload_n 0, 1) := by decide +kernel
theorem d_MD_child_30 : decode b_MD_child 30 = .ok (.getfield 7, 3) := by decide +kernel
theorem d_MD_child_33 : decode b_MD_child 33 = .ok (.bipush 64, 2) := by decide +kernel
theorem d_MD_child_35 : decode b_MD_child 35 = .ok (.iload_n 1, 1) := by decide +kernel
theorem d_MD_child_36 : decode b_MD_child 36 = .ok (.imul, 1) := by decide +kernel
theorem d_MD_child_37 : decode b_MD_child 37 = .ok (.aload_n 0, 1) := by decide +kernel
theorem d_MD_child_38 : decode b_MD_child 38 = .ok (.iload_n 1, 1) := by decide +kernel
theorem d_MD_child_39 : decode b_MD_child 39 = .ok (.iload_n 2, 1) := by decide +kernel
theorem d_MD_child_40 : decode b_MD_child 40 = .ok (.invokevirtual 115, 3) := by decide +kernel
theorem d_MD_child_43 : decode b_MD_child 43 = .ok (.iadd, 1) := by decide +kernel
theorem d_MD_child_44 : decode b_MD_child 44 = .ok (.iaload, 1) := by decide +kernel
theorem d_MD_child_45 : decode b_MD_child 45 = .ok (.ireturn, 1) := by decide +kernel
noncomputable def f_MD_child (v_now : Nat → Int32) (x_1 : Int32) (x_2 : Int32) : Option (Int32) :=
  pu_ck (vp_in (((64 : Int32) * x_1) + (1 : Int32)) 1600) (pu_br (x_2 = (v_now (((64 : Int32) * x_1) + (1 : Int32)).toNatClampNeg)) (pu_ck (vp_in (((64 : Int32) * x_1) + (2 : Int32)) 1600) (some (v_now (((64 : Int32) * x_1) + (2 : Int32)).toNatClampNeg))) (pu_b1 (f_MD_begin v_now x_1 x_2) (fun r1 => pu_ck (vp_in (((64 : Int32) * x_1) + r1) 1600) (some (v_now (((64 : Int32) * x_1) + r1).toNatClampNeg)))))
abbrev rm_MD_child : Room := { frames := 1, cells := 0, slots := 0, locals := 22 }
set_option maxHeartbeats 8000000 in
set_option maxRecDepth 100000 in
theorem c_MD_child (l : Launch) (D : va_G) (cI cJ cB cZ : ClassId) (sz : Nat) (q_this : Nat) (q_now : Nat) (q_disk : Nat) (q_before : Nat) (q_recordPage : Nat) (q_recordBytes : Nat) (q_isBlob : Nat) (q_integer : Nat) (q_size : Nat) (q_blobs : Nat) (q_record : Nat) (q_cellLength : Nat) (q_row : Nat) (q_cell : Nat) (q_way : Nat) (q_turn : Nat) (q_used : Nat) (v_onDisk : Int32) (v_head : Int32) (v_headPages : Int32) (v_records : Int32) (v_up : Int32) (v_armed : Int32) (v_columns : Int32) (v_length : Int32) (v_kind : Int32) (v_cells : Int32) (v_last : Int32) (v_made : Int32) (v_deep : Int32) (v_at : Int32) (v_bad : Int32) (v_now : Nat → Int32) (x_1 : Int32) (x_2 : Int32) (o_r : Int32) (hf : f_MD_child v_now x_1 x_2 = some o_r) : Met l y_MD_child (.code y_MD_child b_MD_child 3 (some .int) :: pu_wA) rm_MD_child (pu_pc D pu_cl (pu_ty cI cJ cB cZ) [.ref q_this, .int x_1, .int x_2] [(q_this, .inr (8, [.ref q_now, .ref q_disk, .ref q_before, .int v_onDisk, .int v_head, .int v_headPages, .int v_records, .ref q_recordPage, .ref q_recordBytes, .int v_up, .int v_armed, .int v_columns, .ref q_isBlob, .ref q_integer, .ref q_size, .ref q_blobs, .int v_length, .ref q_record, .int v_kind, .int v_cells, .int v_last, .ref q_cellLength, .ref q_row, .int v_made, .ref q_cell, .int v_deep, .ref q_way, .ref q_turn, .int v_at, .int v_bad, .ref q_used])), (q_now, .inl (cI, 1600, .inl v_now))] sz) (pu_qi D pu_cl (pu_ty cI cJ cB cZ) [(q_this, .inr (8, [.ref q_now, .ref q_disk, .ref q_before, .int v_onDisk, .int v_head, .int v_headPages, .int v_records, .ref q_recordPage, .ref q_recordBytes, .int v_up, .int v_armed, .int v_columns, .ref q_isBlob, .ref q_integer, .ref q_size, .ref q_blobs, .int v_length, .ref q_record, .int v_kind, .int v_cells, .int v_last, .ref q_cellLength, .ref q_row, .int v_made, .ref q_cell, .int v_deep, .ref q_way, .ref q_turn, .int v_at, .int v_bad, .ref q_used])), (q_now, .inl (cI, 1600, .inl v_now))] [(q_this, .inr (8, [.ref q_now, .ref q_disk, .ref q_before, .int v_onDisk, .int v_head, .int v_headPages, .int v_records, .ref q_recordPage, .ref q_recordBytes, .int v_up, .int v_armed, .int v_columns, .ref q_isBlob, .ref q_integer, .ref q_size, .ref q_blobs, .int v_length, .ref q_record, .int v_kind, .int v_cells, .int v_last, .ref q_cellLength, .ref q_row, .int v_made, .ref q_cell, .int v_deep, .ref q_way, .ref q_turn, .int v_at, .int v_bad, .ref q_used])), (q_now, .inl (cI, 1600, .inl v_now))] sz o_r) 0 0 (va_A [(q_this, .inr (8, [.ref q_now, .ref q_disk, .ref q_before, .int v_onDisk, .int v_head, .int v_headPages, .int v_records, .ref q_recordPage, .ref q_recordBytes, .int v_up, .int v_armed, .int v_columns, .ref q_isBlob, .ref q_integer, .ref q_size, .ref q_blobs, .int v_length, .ref q_record, .int v_kind, .int v_cells, .int v_last, .ref q_cellLength, .ref q_row, .int v_made, .ref q_cell, .int v_deep, .ref q_way, .ref q_turn, .int v_at, .int v_bad, .ref q_used])), (q_now, .inl (cI, 1600, .inl v_now))] sz) := by
  refine pu_mti [.ref q_this, .int x_1, .int x_2] [(q_this, .inr (8, [.ref q_now, .ref q_disk, .ref q_before, .int v_onDisk, .int v_head, .int v_headPages, .int v_records, .ref q_recordPage, .ref q_recordBytes, .int v_up, .int v_armed, .int v_columns, .ref q_isBlob, .ref q_integer, .ref q_size, .ref q_blobs, .int v_length, .ref q_record, .int v_kind, .int v_cells, .int v_last, .ref q_cellLength, .ref q_row, .int v_made, .ref q_cell, .int v_deep, .ref q_way, .ref q_turn, .int v_at, .int v_bad, .ref q_used])), (q_now, .inl (cI, 1600, .inl v_now))] [(q_this, .inr (8, [.ref q_now, .ref q_disk, .ref q_before, .int v_onDisk, .int v_head, .int v_headPages, .int v_records, .ref q_recordPage, .ref q_recordBytes, .int v_up, .int v_armed, .int v_columns, .ref q_isBlob, .ref q_integer, .ref q_size, .ref q_blobs, .int v_length, .ref q_record, .int v_kind, .int v_cells, .int v_last, .ref q_cellLength, .ref q_row, .int v_made, .ref q_cell, .int v_deep, .ref q_way, .ref q_turn, .int v_at, .int v_bad, .ref q_used])), (q_now, .inl (cI, 1600, .inl v_now))] o_r (by decide) (Nat.le_of_ble_eq_true rfl) ?_
  intro p e s m args below meth c A Q ls hx hb hml hts hN hown hK hA hP hD hl hret0
  have hS : va_S A s.heap s.heap [] := va_S.rf
  have hl : lv_has ls 3 [(0, .ref q_this), (1, .int x_1), (2, .int x_2)] := hl
  have hret : ∀ (pc : Nat) (ls : Array Slot) (H : Heap) (locs : List Loc) (y_0 : Int32), decode b_MD_child pc = .ok (.ireturn, 1) → va_P D pu_cl [(q_this, .inr (8, [.ref q_now, .ref q_disk, .ref q_before, .int v_onDisk, .int v_head, .int v_headPages, .int v_records, .ref q_recordPage, .ref q_recordBytes, .int v_up, .int v_armed, .int v_columns, .ref q_isBlob, .ref q_integer, .ref q_size, .ref q_blobs, .int v_length, .ref q_record, .int v_kind, .int v_cells, .int v_last, .ref q_cellLength, .ref q_row, .int v_made, .ref q_cell, .int v_deep, .ref q_way, .ref q_turn, .int v_at, .int v_bad, .ref q_used])), (q_now, .inl (cI, 1600, .inl v_now))] H → va_D A [(q_this, .inr (8, [.ref q_now, .ref q_disk, .ref q_before, .int v_onDisk, .int v_head, .int v_headPages, .int v_records, .ref q_recordPage, .ref q_recordBytes, .int v_up, .int v_armed, .int v_columns, .ref q_isBlob, .ref q_integer, .ref q_size, .ref q_blobs, .int v_length, .ref q_record, .int v_kind, .int v_cells, .int v_last, .ref q_cellLength, .ref q_row, .int v_made, .ref q_cell, .int v_deep, .ref q_way, .ref q_turn, .int v_at, .int v_bad, .ref q_used])), (q_now, .inl (cI, 1600, .inl v_now))] → va_S A s.heap H locs → some y_0 = some o_r → W p l e rm_MD_child s m args below meth c H locs 0 0 Q (F0 m pc ls [.int y_0]) := by
    intro pc ls H locs y_0 hd hP hD hS hf
    cases hf
    exact hret0 pc ls H locs hd hP hD hS
  clear hret0
  unfold f_MD_child at hf
  skip
  obtain ⟨H, hH⟩ : ∃ H, H = s.heap := ⟨_, rfl⟩
  obtain ⟨locs, hlocs⟩ : ∃ locs : List Loc, locs = [] := ⟨_, rfl⟩
  have hP : va_P D pu_cl [(q_this, .inr (8, [.ref q_now, .ref q_disk, .ref q_before, .int v_onDisk, .int v_head, .int v_headPages, .int v_records, .ref q_recordPage, .ref q_recordBytes, .int v_up, .int v_armed, .int v_columns, .ref q_isBlob, .ref q_integer, .ref q_size, .ref q_blobs, .int v_length, .ref q_record, .int v_kind, .int v_cells, .int v_last, .ref q_cellLength, .ref q_row, .int v_made, .ref q_cell, .int v_deep, .ref q_way, .ref q_turn, .int v_at, .int v_bad, .ref q_used])), (q_now, .inl (cI, 1600, .inl v_now))] H := by rw [hH]; exact hP
  have hS : va_S A s.heap H locs := by rw [hH, hlocs]; exact hS
  have goal : W p l e rm_MD_child s m args below meth c H locs 0 0 Q (F0 m 0 ls []) := by
    clear hH hlocs
    refine lv_iload_n hx hb d_MD_child_0 rfl (lv_at hl 2 rfl) ?_
    refine lv_aload_n hx hb d_MD_child_1 rfl (lv_at hl 0 rfl) ?_
    refine gf_MD_7 (v := .ref q_now) hx hb hts hN hown hK hP 0 rfl rfl d_MD_child_2 ?_
    refine lv_bipush (v := 64) hx hb d_MD_child_5 rfl ?_
    refine lv_iload_n hx hb d_MD_child_7 rfl (lv_at hl 1 rfl) ?_
    refine lv_imul hx hb d_MD_child_8 ?_
    refine lv_iconst (v := 1) hx hb d_MD_child_9 rfl ?_
    refine lv_iadd hx hb d_MD_child_10 ?_
    obtain ⟨hin, hf⟩ := pu_ck_some hf
    refine va_iald hx hb hK hP 1 0 rfl rfl hin d_MD_child_11 ?_
    refine lv_icmp_ne (tgt := 29) hx hb d_MD_child_12 rfl (fun hc => ?_) (fun hc => ?_)
    · have hf := pu_br_neg hf hc
      refine lv_aload_n hx hb d_MD_child_29 rfl (lv_at hl 0 rfl) ?_
      refine gf_MD_7 (v := .ref q_now) hx hb hts hN hown hK hP 0 rfl rfl d_MD_child_30 ?_
      refine lv_bipush (v := 64) hx hb d_MD_child_33 rfl ?_
      refine lv_iload_n hx hb d_MD_child_35 rfl (lv_at hl 1 rfl) ?_
      refine lv_imul hx hb d_MD_child_36 ?_
      refine lv_aload_n hx hb d_MD_child_37 rfl (lv_at hl 0 rfl) ?_
      refine lv_iload_n hx hb d_MD_child_38 rfl (lv_at hl 1 rfl) ?_
      refine lv_iload_n hx hb d_MD_child_39 rfl (lv_at hl 2 rfl) ?_
      obtain ⟨r1, hc, hf⟩ := pu_b1_some hf
      refine cl_i (WC := [(q_this, .inr (8, [.ref q_now, .ref q_disk, .ref q_before, .int v_onDisk, .int v_head, .int v_headPages, .int v_records, .ref q_recordPage, .ref q_recordBytes, .int v_up, .int v_armed, .int v_columns, .ref q_isBlob, .ref q_integer, .ref q_size, .ref q_blobs, .int v_length, .ref q_record, .int v_kind, .int v_cells, .int v_last, .ref q_cellLength, .ref q_row, .int v_made, .ref q_cell, .int v_deep, .ref q_way, .ref q_turn, .int v_at, .int v_bad, .ref q_used])), (q_now, .inl (cI, 1600, .inl v_now))]) (WC2 := [(q_this, .inr (8, [.ref q_now, .ref q_disk, .ref q_before, .int v_onDisk, .int v_head, .int v_headPages, .int v_records, .ref q_recordPage, .ref q_recordBytes, .int v_up, .int v_armed, .int v_columns, .ref q_isBlob, .ref q_integer, .ref q_size, .ref q_blobs, .int v_length, .ref q_record, .int v_kind, .int v_cells, .int v_last, .ref q_cellLength, .ref q_row, .int v_made, .ref q_cell, .int v_deep, .ref q_way, .ref q_turn, .int v_at, .int v_bad, .ref q_used])), (q_now, .inl (cI, 1600, .inl v_now))]) (WR := []) (WS2 := [(q_this, .inr (8, [.ref q_now, .ref q_disk, .ref q_before, .int v_onDisk, .int v_head, .int v_headPages, .int v_records, .ref q_recordPage, .ref q_recordBytes, .int v_up, .int v_armed, .int v_columns, .ref q_isBlob, .ref q_integer, .ref q_size, .ref q_blobs, .int v_length, .ref q_record, .int v_kind, .int v_cells, .int v_last, .ref q_cellLength, .ref q_row, .int v_made, .ref q_cell, .int v_deep, .ref q_way, .ref q_turn, .int v_at, .int v_bad, .ref q_used])), (q_now, .inl (cI, 1600, .inl v_now))]) (pu_rv (cl := pu_cl) (pu_in10 _ (List.mem_of_getElem? (i := 54) rfl)) (pu_in10 _ (List.mem_of_getElem? (i := 55) rfl)) (pu_in14 _ (List.mem_of_getElem? (i := 15) rfl)) (pu_in0 _ (List.mem_of_getElem? (i := 10) rfl)) (pu_in10 _ (List.mem_of_getElem? (i := 56) rfl)) (ci := 8) rfl hd_MD_begin (by decide) ⟨rfl, rfl⟩ rfl rfl (Nat.le_of_ble_eq_true rfl) rfl (As := [.int x_1, .int x_2]) (rest := [.int ((64 : Int32) * x_1), .ref q_now]) (WC := [(q_this, .inr (8, [.ref q_now, .ref q_disk, .ref q_before, .int v_onDisk, .int v_head, .int v_headPages, .int v_records, .ref q_recordPage, .ref q_recordBytes, .int v_up, .int v_armed, .int v_columns, .ref q_isBlob, .ref q_integer, .ref q_size, .ref q_blobs, .int v_length, .ref q_record, .int v_kind, .int v_cells, .int v_last, .ref q_cellLength, .ref q_row, .int v_made, .ref q_cell, .int v_deep, .ref q_way, .ref q_turn, .int v_at, .int v_bad, .ref q_used])), (q_now, .inl (cI, 1600, .inl v_now))]) hx hb hml hown hts hN hK hP hD (c_MD_begin l D cI cJ cB cZ H.size q_this q_now q_disk q_before q_recordPage q_recordBytes q_isBlob q_integer q_size q_blobs q_record q_cellLength q_row q_cell q_way q_turn q_used v_onDisk v_head v_headPages v_records v_up v_armed v_columns v_length v_kind v_cells v_last v_made v_deep v_at v_bad v_now x_1 x_2 r1 hc) [0, 1] rfl rfl hl.1 d_MD_child_40) hP hD hS hA [0, 1] [] [0, 1] rfl rfl rfl (by decide) rfl rfl (fun H locs hP hD hS => ?_)
      refine lv_iadd hx hb d_MD_child_43 ?_
      obtain ⟨hin, hf⟩ := pu_ck_some hf
      refine va_iald hx hb hK hP 1 0 rfl rfl hin d_MD_child_44 ?_
      exact hret _ _ _ _ (v_now (((64 : Int32) * x_1) + r1).toNatClampNeg)  d_MD_child_45 hP hD hS hf
    have hf := pu_br_pos hf hc
    refine lv_aload_n hx hb d_MD_child_15 rfl (lv_at hl 0 rfl) ?_
    refine gf_MD_7 (v := .ref q_now) hx hb hts hN hown hK hP 0 rfl rfl d_MD_child_16 ?_
    refine lv_bipush (v := 64) hx hb d_MD_child_19 rfl ?_
    refine lv_iload_n hx hb d_MD_child_21 rfl (lv_at hl 1 rfl) ?_
    refine lv_imul hx hb d_MD_child_22 ?_
    refine lv_iconst (v := 2) hx hb d_MD_child_23 rfl ?_
    refine lv_iadd hx hb d_MD_child_24 ?_
    obtain ⟨hin, hf⟩ := pu_ck_some hf
    refine va_iald hx hb hK hP 1 0 rfl rfl hin d_MD_child_25 ?_
    refine lv_goto (tgt := 45) hx hb d_MD_child_26 rfl ?_
    exact hret _ _ _ _ (v_now (((64 : Int32) * x_1) + (2 : Int32)).toNatClampNeg)  d_MD_child_45 hP hD hS hf
  rw [hH, hlocs] at goal
  exact goal
theorem d_MD_seek_0 : decode b_MD_seek 0 = .ok (.iconst 0, 1) := by decide +kernel
theorem d_MD_seek_1 : decode b_MD_seek 1 = .ok (.istore_n 3, 1) := by decide +kernel
theorem d_MD_seek_2 : decode b_MD_seek 2 = .ok (.iload_n 3, 1) := by decide +kernel
theorem d_MD_seek_3 : decode b_MD_seek 3 = .ok (.aload_n 0, 1) := by decide +kernel
theorem d_MD_seek_4 : decode b_MD_seek 4 = .ok (.getfield 7, 3) := by decide +kernel
theorem d_MD_seek_7 : decode b_MD_seek 7 = .ok (.bipush 64, 2) := by decide +kernel
theorem d_MD_seek_9 : decode b_MD_seek 9 = .ok (.iload_n 1, 1) := by decide +kernel
theorem d_MD_seek_10 : decode b_MD_seek 10 = .ok (.imul, 1) := by decide +kernel
theorem d_MD_seek_11 : decode b_MD_seek 11 = .ok (.iconst 1, 1) := by decide +kernel
theorem d_MD_seek_12 : decode b_MD_seek 12 = .ok (.iadd, 1) := by decide +kernel
theorem d_MD_seek_13 : decode b_MD_seek 13 = .ok (.iaload, 1) := by decide +kernel
theorem d_MD_seek_14 : decode b_MD_seek 14 = .ok (.if_icmp .ge 19, 3) := by decide +kernel
theorem d_MD_seek_17 : decode b_MD_seek 17 = .ok (.aload_n 0, 1) := by decide +kernel
theorem d_MD_seek_18 : decode b_MD_seek 18 = .ok (.iload_n 1, 1) := by decide +kernel
theorem d_MD_seek_19 : decode b_MD_seek 19 = .ok (.iload_n 3, 1) := by decide +kernel
theorem d_MD_seek_20 : decode b_MD_seek 20 = .ok (.invokevirtual 139, 3) := by decide +kernel
theorem d_MD_seek_23 : decode b_MD_seek 23 = .ok (.iload_n 2, 1) := by decide +kernel
theorem d_MD_seek_24 : decode b_MD_seek 24 = .ok (.if_icmp .ge 9, 3) := by decide +kernel
theorem d_MD_seek_27 : decode b_MD_seek 27 = .ok (.iinc 3 1, 3) := by decide +kernel
theorem d_MD_seek_30 : decode b_MD_seek 30 = .ok (.goto (-28), 3) := by decide +kernel
theorem d_MD_seek_33 : decode b_MD_seek 33 = .ok (.iload_n 3, 1) := by decide +kernel
theorem d_MD_seek_34 : decode b_MD_seek 34 = .ok (.ireturn, 1) := by decide +kernel
noncomputable def q_MD_seek_2 (v_now : Nat → Int32) (x_1 : Int32) (x_2 : Int32) : Nat → Int32 → Int32 → Int32 → Option (Int32 × Int32 × Int32)
  | 0, _, _, _ => none
  | n + 1, v_at, v_bad, x_3 => pu_ck (vp_in (((64 : Int32) * x_1) + (1 : Int32)) 1600) (pu_br ((v_now (((64 : Int32) * x_1) + (1 : Int32)).toNatClampNeg) ≤ x_3) (some (x_3, v_at, v_bad)) (pu_b3 (f_MD_keyAt v_now v_at v_bad x_1 x_3) (fun r1 w2 w3 => pu_br (x_2 ≤ r1) (some (x_3, w2, w3)) (pu_nm (x_3 + (1 : Int32)) (fun t4 => q_MD_seek_2 v_now x_1 x_2 n w2 w3 t4)))))
noncomputable def f_MD_seek (v_now : Nat → Int32) (v_at : Int32) (v_bad : Int32) (x_1 : Int32) (x_2 : Int32) : Option (Int32 × Int32 × Int32) :=
  q_MD_seek_2 v_now x_1 x_2 pu_fu v_at v_bad (0 : Int32)
abbrev rm_MD_seek : Room := { frames := 2, cells := 0, slots := 0, locals := 48 }
set_option maxHeartbeats 8000000 in
set_option maxRecDepth 100000 in
theorem c_MD_seek (l : Launch) (D : va_G) (cI cJ cB cZ : ClassId) (sz : Nat) (q_this : Nat) (q_now : Nat) (q_disk : Nat) (q_before : Nat) (q_recordPage : Nat) (q_recordBytes : Nat) (q_isBlob : Nat) (q_integer : Nat) (q_size : Nat) (q_blobs : Nat) (q_record : Nat) (q_cellLength : Nat) (q_row : Nat) (q_cell : Nat) (q_way : Nat) (q_turn : Nat) (q_used : Nat) (v_onDisk : Int32) (v_head : Int32) (v_headPages : Int32) (v_records : Int32) (v_up : Int32) (v_armed : Int32) (v_columns : Int32) (v_length : Int32) (v_kind : Int32) (v_cells : Int32) (v_last : Int32) (v_made : Int32) (v_deep : Int32) (v_at : Int32) (v_bad : Int32) (v_now : Nat → Int32) (x_1 : Int32) (x_2 : Int32) (o_r : Int32) (o_at : Int32) (o_bad : Int32) (hf : f_MD_seek v_now v_at v_bad x_1 x_2 = some (o_r, o_at, o_bad)) : Met l y_MD_seek (.code y_MD_seek b_MD_seek 4 (some .int) :: pu_wA) rm_MD_seek (pu_pc D pu_cl (pu_ty cI cJ cB cZ) [.ref q_this, .int x_1, .int x_2] [(q_this, .inr (8, [.ref q_now, .ref q_disk, .ref q_before, .int v_onDisk, .int v_head, .int v_headPages, .int v_records, .ref q_recordPage, .ref q_recordBytes, .int v_up, .int v_armed, .int v_columns, .ref q_isBlob, .ref q_integer, .ref q_size, .ref q_blobs, .int v_length, .ref q_record, .int v_kind, .int v_cells, .int v_last, .ref q_cellLength, .ref q_row, .int v_made, .ref q_cell, .int v_deep, .ref q_way, .ref q_turn, .int v_at, .int v_bad, .ref q_used])), (q_now, .inl (cI, 1600, .inl v_now))] sz) (pu_qi D pu_cl (pu_ty cI cJ cB cZ) [(q_this, .inr (8, [.ref q_now, .ref q_disk, .ref q_before, .int v_onDisk, .int v_head, .int v_headPages, .int v_records, .ref q_recordPage, .ref q_recordBytes, .int v_up, .int v_armed, .int v_columns, .ref q_isBlob, .ref q_integer, .ref q_size, .ref q_blobs, .int v_length, .ref q_record, .int v_kind, .int v_cells, .int v_last, .ref q_cellLength, .ref q_row, .int v_made, .ref q_cell, .int v_deep, .ref q_way, .ref q_turn, .int v_at, .int v_bad, .ref q_used])), (q_now, .inl (cI, 1600, .inl v_now))] [(q_this, .inr (8, [.ref q_now, .ref q_disk, .ref q_before, .int v_onDisk, .int v_head, .int v_headPages, .int v_records, .ref q_recordPage, .ref q_recordBytes, .int v_up, .int v_armed, .int v_columns, .ref q_isBlob, .ref q_integer, .ref q_size, .ref q_blobs, .int v_length, .ref q_record, .int v_kind, .int v_cells, .int v_last, .ref q_cellLength, .ref q_row, .int v_made, .ref q_cell, .int v_deep, .ref q_way, .ref q_turn, .int o_at, .int o_bad, .ref q_used])), (q_now, .inl (cI, 1600, .inl v_now))] sz o_r) 0 0 (va_A [(q_this, .inr (8, [.ref q_now, .ref q_disk, .ref q_before, .int v_onDisk, .int v_head, .int v_headPages, .int v_records, .ref q_recordPage, .ref q_recordBytes, .int v_up, .int v_armed, .int v_columns, .ref q_isBlob, .ref q_integer, .ref q_size, .ref q_blobs, .int v_length, .ref q_record, .int v_kind, .int v_cells, .int v_last, .ref q_cellLength, .ref q_row, .int v_made, .ref q_cell, .int v_deep, .ref q_way, .ref q_turn, .int v_at, .int v_bad, .ref q_used])), (q_now, .inl (cI, 1600, .inl v_now))] sz) := by
  refine pu_mti [.ref q_this, .int x_1, .int x_2] [(q_this, .inr (8, [.ref q_now, .ref q_disk, .ref q_before, .int v_onDisk, .int v_head, .int v_headPages, .int v_records, .ref q_recordPage, .ref q_recordBytes, .int v_up, .int v_armed, .int v_columns, .ref q_isBlob, .ref q_integer, .ref q_size, .ref q_blobs, .int v_length, .ref q_record, .int v_kind, .int v_cells, .int v_last, .ref q_cellLength, .ref q_row, .int v_made, .ref q_cell, .int v_deep, .ref q_way, .ref q_turn, .int v_at, .int v_bad, .ref q_used])), (q_now, .inl (cI, 1600, .inl v_now))] [(q_this, .inr (8, [.ref q_now, .ref q_disk, .ref q_before, .int v_onDisk, .int v_head, .int v_headPages, .int v_records, .ref q_recordPage, .ref q_recordBytes, .int v_up, .int v_armed, .int v_columns, .ref q_isBlob, .ref q_integer, .ref q_size, .ref q_blobs, .int v_length, .ref q_record, .int v_kind, .int v_cells, .int v_last, .ref q_cellLength, .ref q_row, .int v_made, .ref q_cell, .int v_deep, .ref q_way, .ref q_turn, .int o_at, .int o_bad, .ref q_used])), (q_now, .inl (cI, 1600, .inl v_now))] o_r (by decide) (Nat.le_of_ble_eq_true rfl) ?_
  intro p e s m args below meth c A Q ls hx hb hml hts hN hown hK hA hP hD hl hret0
  have hS : va_S A s.heap s.heap [] := va_S.rf
  have hl : lv_has ls 4 [(0, .ref q_this), (1, .int x_1), (2, .int x_2)] := hl
  have hret : ∀ (pc : Nat) (ls : Array Slot) (H : Heap) (locs : List Loc) (y_0 : Int32) (y_1 : Int32) (y_2 : Int32), decode b_MD_seek pc = .ok (.ireturn, 1) → va_P D pu_cl [(q_this, .inr (8, [.ref q_now, .ref q_disk, .ref q_before, .int v_onDisk, .int v_head, .int v_headPages, .int v_records, .ref q_recordPage, .ref q_recordBytes, .int v_up, .int v_armed, .int v_columns, .ref q_isBlob, .ref q_integer, .ref q_size, .ref q_blobs, .int v_length, .ref q_record, .int v_kind, .int v_cells, .int v_last, .ref q_cellLength, .ref q_row, .int v_made, .ref q_cell, .int v_deep, .ref q_way, .ref q_turn, .int y_1, .int y_2, .ref q_used])), (q_now, .inl (cI, 1600, .inl v_now))] H → va_D A [(q_this, .inr (8, [.ref q_now, .ref q_disk, .ref q_before, .int v_onDisk, .int v_head, .int v_headPages, .int v_records, .ref q_recordPage, .ref q_recordBytes, .int v_up, .int v_armed, .int v_columns, .ref q_isBlob, .ref q_integer, .ref q_size, .ref q_blobs, .int v_length, .ref q_record, .int v_kind, .int v_cells, .int v_last, .ref q_cellLength, .ref q_row, .int v_made, .ref q_cell, .int v_deep, .ref q_way, .ref q_turn, .int y_1, .int y_2, .ref q_used])), (q_now, .inl (cI, 1600, .inl v_now))] → va_S A s.heap H locs → some (y_0, y_1, y_2) = some (o_r, o_at, o_bad) → W p l e rm_MD_seek s m args below meth c H locs 0 0 Q (F0 m pc ls [.int y_0]) := by
    intro pc ls H locs y_0 y_1 y_2 hd hP hD hS hf
    cases hf
    exact hret0 pc ls H locs hd hP hD hS
  clear hret0
  unfold f_MD_seek at hf
  skip
  have lp_2 : ∀ (x_1 : Int32) (x_2 : Int32) (n2 : Nat) (v_at : Int32) (v_bad : Int32) (x_3 : Int32) (H : Heap) (locs : List Loc) (ls : Array Slot), va_P D pu_cl [(q_this, .inr (8, [.ref q_now, .ref q_disk, .ref q_before, .int v_onDisk, .int v_head, .int v_headPages, .int v_records, .ref q_recordPage, .ref q_recordBytes, .int v_up, .int v_armed, .int v_columns, .ref q_isBlob, .ref q_integer, .ref q_size, .ref q_blobs, .int v_length, .ref q_record, .int v_kind, .int v_cells, .int v_last, .ref q_cellLength, .ref q_row, .int v_made, .ref q_cell, .int v_deep, .ref q_way, .ref q_turn, .int v_at, .int v_bad, .ref q_used])), (q_now, .inl (cI, 1600, .inl v_now))] H → va_D A [(q_this, .inr (8, [.ref q_now, .ref q_disk, .ref q_before, .int v_onDisk, .int v_head, .int v_headPages, .int v_records, .ref q_recordPage, .ref q_recordBytes, .int v_up, .int v_armed, .int v_columns, .ref q_isBlob, .ref q_integer, .ref q_size, .ref q_blobs, .int v_length, .ref q_record, .int v_kind, .int v_cells, .int v_last, .ref q_cellLength, .ref q_row, .int v_made, .ref q_cell, .int v_deep, .ref q_way, .ref q_turn, .int v_at, .int v_bad, .ref q_used])), (q_now, .inl (cI, 1600, .inl v_now))] → va_S A s.heap H locs → lv_has ls 4 [(0, .ref q_this), (1, .int x_1), (2, .int x_2), (3, .int x_3)] → q_MD_seek_2 v_now x_1 x_2 n2 v_at v_bad x_3 = some (o_r, o_at, o_bad) → W p l e rm_MD_seek s m args below meth c H locs 0 0 Q (F0 m 2 ls []) := by
    intro x_1 x_2 n2
    induction n2 with
    | zero =>
      intro v_at v_bad x_3 H locs ls hP hD hS hl hf
      rw [q_MD_seek_2] at hf
      cases hf
    | succ n2 ih_2 =>
      intro v_at v_bad x_3 H locs ls hP hD hS hl hf
      rw [q_MD_seek_2] at hf
      refine lv_iload_n hx hb d_MD_seek_2 rfl (lv_at hl 3 rfl) ?_
      refine lv_aload_n hx hb d_MD_seek_3 rfl (lv_at hl 0 rfl) ?_
      refine gf_MD_7 (v := .ref q_now) hx hb hts hN hown hK hP 0 rfl rfl d_MD_seek_4 ?_
      refine lv_bipush (v := 64) hx hb d_MD_seek_7 rfl ?_
      refine lv_iload_n hx hb d_MD_seek_9 rfl (lv_at hl 1 rfl) ?_
      refine lv_imul hx hb d_MD_seek_10 ?_
      refine lv_iconst (v := 1) hx hb d_MD_seek_11 rfl ?_
      refine lv_iadd hx hb d_MD_seek_12 ?_
      obtain ⟨hin, hf⟩ := pu_ck_some hf
      refine va_iald hx hb hK hP 1 0 rfl rfl hin d_MD_seek_13 ?_
      refine lv_icmp_ge (tgt := 33) hx hb d_MD_seek_14 rfl (fun hc => ?_) (fun hc => ?_)
      · have hf := pu_br_pos hf hc
        refine lv_iload_n hx hb d_MD_seek_33 rfl (lv_at hl 3 rfl) ?_
        exact hret _ _ _ _ x_3 v_at v_bad d_MD_seek_34 hP hD hS hf
      have hf := pu_br_neg hf hc
      refine lv_aload_n hx hb d_MD_seek_17 rfl (lv_at hl 0 rfl) ?_
      refine lv_iload_n hx hb d_MD_seek_18 rfl (lv_at hl 1 rfl) ?_
      refine lv_iload_n hx hb d_MD_seek_19 rfl (lv_at hl 3 rfl) ?_
      obtain ⟨r1, w2, w3, hc, hf⟩ := pu_b3_some hf
      refine cl_i (WC := [(q_this, .inr (8, [.ref q_now, .ref q_disk, .ref q_before, .int v_onDisk, .int v_head, .int v_headPages, .int v_records, .ref q_recordPage, .ref q_recordBytes, .int v_up, .int v_armed, .int v_columns, .ref q_isBlob, .ref q_integer, .ref q_size, .ref q_blobs, .int v_length, .ref q_record, .int v_kind, .int v_cells, .int v_last, .ref q_cellLength, .ref q_row, .int v_made, .ref q_cell, .int v_deep, .ref q_way, .ref q_turn, .int v_at, .int v_bad, .ref q_used])), (q_now, .inl (cI, 1600, .inl v_now))]) (WC2 := [(q_this, .inr (8, [.ref q_now, .ref q_disk, .ref q_before, .int v_onDisk, .int v_head, .int v_headPages, .int v_records, .ref q_recordPage, .ref q_recordBytes, .int v_up, .int v_armed, .int v_columns, .ref q_isBlob, .ref q_integer, .ref q_size, .ref q_blobs, .int v_length, .ref q_record, .int v_kind, .int v_cells, .int v_last, .ref q_cellLength, .ref q_row, .int v_made, .ref q_cell, .int v_deep, .ref q_way, .ref q_turn, .int w2, .int w3, .ref q_used])), (q_now, .inl (cI, 1600, .inl v_now))]) (WR := []) (WS2 := [(q_this, .inr (8, [.ref q_now, .ref q_disk, .ref q_before, .int v_onDisk, .int v_head, .int v_headPages, .int v_records, .ref q_recordPage, .ref q_recordBytes, .int v_up, .int v_armed, .int v_columns, .ref q_isBlob, .ref q_integer, .ref q_size, .ref q_blobs, .int v_length, .ref q_record, .int v_kind, .int v_cells, .int v_last, .ref q_cellLength, .ref q_row, .int v_made, .ref q_cell, .int v_deep, .ref q_way, .ref q_turn, .int w2, .int w3, .ref q_used])), (q_now, .inl (cI, 1600, .inl v_now))]) (pu_rv (cl := pu_cl) (pu_in10 _ (List.mem_of_getElem? (i := 51) rfl)) (pu_in10 _ (List.mem_of_getElem? (i := 52) rfl)) (pu_in14 _ (List.mem_of_getElem? (i := 14) rfl)) (pu_in0 _ (List.mem_of_getElem? (i := 10) rfl)) (pu_in10 _ (List.mem_of_getElem? (i := 53) rfl)) (ci := 8) rfl hd_MD_keyAt (by decide) ⟨rfl, rfl⟩ rfl rfl (Nat.le_of_ble_eq_true rfl) rfl (As := [.int x_1, .int x_3]) (rest := []) (WC := [(q_this, .inr (8, [.ref q_now, .ref q_disk, .ref q_before, .int v_onDisk, .int v_head, .int v_headPages, .int v_records, .ref q_recordPage, .ref q_recordBytes, .int v_up, .int v_armed, .int v_columns, .ref q_isBlob, .ref q_integer, .ref q_size, .ref q_blobs, .int v_length, .ref q_record, .int v_kind, .int v_cells, .int v_last, .ref q_cellLength, .ref q_row, .int v_made, .ref q_cell, .int v_deep, .ref q_way, .ref q_turn, .int v_at, .int v_bad, .ref q_used])), (q_now, .inl (cI, 1600, .inl v_now))]) hx hb hml hown hts hN hK hP hD (c_MD_keyAt l D cI cJ cB cZ H.size q_this q_now q_disk q_before q_recordPage q_recordBytes q_isBlob q_integer q_size q_blobs q_record q_cellLength q_row q_cell q_way q_turn q_used v_onDisk v_head v_headPages v_records v_up v_armed v_columns v_length v_kind v_cells v_last v_made v_deep v_at v_bad v_now x_1 x_3 r1 w2 w3 hc) [0, 1] rfl rfl hl.1 d_MD_seek_20) hP hD hS hA [0, 1] [] [0, 1] rfl rfl rfl (by decide) rfl rfl (fun H locs hP hD hS => ?_)
      refine lv_iload_n hx hb d_MD_seek_23 rfl (lv_at hl 2 rfl) ?_
      refine lv_icmp_ge (tgt := 33) hx hb d_MD_seek_24 rfl (fun hc => ?_) (fun hc => ?_)
      · have hf := pu_br_pos hf hc
        refine lv_iload_n hx hb d_MD_seek_33 rfl (lv_at hl 3 rfl) ?_
        exact hret _ _ _ _ x_3 w2 w3 d_MD_seek_34 hP hD hS hf
      have hf := pu_br_neg hf hc
      obtain ⟨t4, e_t4, hf⟩ := pu_nm_some hf
      refine lv_iinc (k := 3) (v := t4) hx hb d_MD_seek_27 hl rfl e_t4.symm (by decide) rfl (fun ls hl => ?_)
      have hl : lv_has ls 4 [(3, .int t4), (0, .ref q_this), (1, .int x_1), (2, .int x_2)] := hl
      refine lv_goto (tgt := 2) hx hb d_MD_seek_30 rfl ?_
      exact ih_2 w2 w3 t4 H locs ls hP hD hS (lv_sub hl [1, 2, 3, 0] rfl) hf
  obtain ⟨H, hH⟩ : ∃ H, H = s.heap := ⟨_, rfl⟩
  obtain ⟨locs, hlocs⟩ : ∃ locs : List Loc, locs = [] := ⟨_, rfl⟩
  have hP : va_P D pu_cl [(q_this, .inr (8, [.ref q_now, .ref q_disk, .ref q_before, .int v_onDisk, .int v_head, .int v_headPages, .int v_records, .ref q_recordPage, .ref q_recordBytes, .int v_up, .int v_armed, .int v_columns, .ref q_isBlob, .ref q_integer, .ref q_size, .ref q_blobs, .int v_length, .ref q_record, .int v_kind, .int v_cells, .int v_last, .ref q_cellLength, .ref q_row, .int v_made, .ref q_cell, .int v_deep, .ref q_way, .ref q_turn, .int v_at, .int v_bad, .ref q_used])), (q_now, .inl (cI, 1600, .inl v_now))] H := by rw [hH]; exact hP
  have hS : va_S A s.heap H locs := by rw [hH, hlocs]; exact hS
  have goal : W p l e rm_MD_seek s m args below meth c H locs 0 0 Q (F0 m 0 ls []) := by
    clear hH hlocs
    refine lv_iconst (v := 0) hx hb d_MD_seek_0 rfl ?_
    refine lv_istore_n hx hb d_MD_seek_1 rfl hl (by decide) rfl (fun ls hl => ?_)
    have hl : lv_has ls 4 [(3, .int (0 : Int32)), (0, .ref q_this), (1, .int x_1), (2, .int x_2)] := hl
    exact lp_2 x_1 x_2 _ v_at v_bad (0 : Int32) H locs ls hP hD hS (lv_sub hl [1, 2, 3, 0] rfl) hf
  rw [hH, hlocs] at goal
  exact goal
theorem d_MD_goTo_0 : decode b_MD_goTo 0 = .ok (.aload_n 0, 1) := by decide +kernel
theorem d_MD_goTo_1 : decode b_MD_goTo 1 = .ok (.iconst 0, 1) := by decide +kernel
theorem d_MD_goTo_2 : decode b_MD_goTo 2 = .ok (.putfield 142, 3) := by decide +kernel
theorem d_MD_goTo_5 : decode b_MD_goTo 5 = .ok (.aload_n 0, 1) := by decide +kernel
theorem d_MD_goTo_6 : decode b_MD_goTo 6 = .ok (.getfield 62, 3) := by decide +kernel
theorem d_MD_goTo_9 : decode b_MD_goTo 9 = .ok (.iconst 0, 1) := by decide +kernel
theorem d_MD_goTo_10 : decode b_MD_goTo 10 = .ok (.aload_n 0, 1) := by decide +kernel
theorem d_MD_goTo_11 : decode b_MD_goTo 11 = .ok (.invokevirtual 145, 3) := by decide +kernel
theorem d_MD_goTo_14 : decode b_MD_goTo 14 = .ok (.iastore, 1) := by decide +kernel
theorem d_MD_goTo_15 : decode b_MD_goTo 15 = .ok (.aload_n 0, 1) := by decide +kernel
theorem d_MD_goTo_16 : decode b_MD_goTo 16 = .ok (.getfield 7, 3) := by decide +kernel
theorem d_MD_goTo_19 : decode b_MD_goTo 19 = .ok (.bipush 64, 2) := by decide +kernel
theorem d_MD_goTo_21 : decode b_MD_goTo 21 = .ok (.aload_n 0, 1) := by decide +kernel
theorem d_MD_goTo_22 : decode b_MD_goTo 22 = .ok (.getfield 62, 3) := by decide +kernel
theorem d_MD_goTo_25 : decode b_MD_goTo 25 = .ok (.aload_n 0, 1) := by decide +kernel
theorem d_MD_goTo_26 : decode b_MD_goTo 26 = .ok (.getfield 142, 3) := by decide +kernel
theorem d_MD_goTo_29 : decode b_MD_goTo 29 = .ok (.iaload, 1) := by decide +kernel
theorem d_MD_goTo_30 : decode b_MD_goTo 30 = .ok (.imul, 1) := by decide +kernel
theorem d_MD_goTo_31 : decode b_MD_goTo 31 = .ok (.iaload, 1) := by decide +kernel
theorem d_MD_goTo_32 : decode b_MD_goTo 32 = .ok (.iconst 5, 1) := by decide +kernel
theorem d_MD_goTo_33 : decode b_MD_goTo 33 = .ok (.if_icmp .ne 72, 3) := by decide +kernel
theorem d_MD_goTo_36 : decode b_MD_goTo 36 = .ok (.aload_n 0, 1) := by decide +kernel
theorem d_MD_goTo_37 : decode b_MD_goTo 37 = .ok (.getfield 65, 3) := by decide +kernel
theorem d_MD_goTo_40 : decode b_MD_goTo 40 = .ok (.aload_n 0, 1) := by decide +kernel
theorem d_MD_goTo_41 : decode b_MD_goTo 41 = .ok (.getfield 142, 3) := by decide +kernel
theorem d_MD_goTo_44 : decode b_MD_goTo 44 = .ok (.aload_n 0, 1) := by decide +kernel
theorem d_MD_goTo_45 : decode b_MD_goTo 45 = .ok (.aload_n 0, 1) := by decide +kernel
theorem d_MD_goTo_46 : decode b_MD_goTo 46 = .ok (.getfield 62, 3) := by decide +kernel
theorem d_MD_goTo_49 : decode b_MD_goTo 49 = .ok (.aload_n 0, 1) := by decide +kernel
theorem d_MD_goTo_50 : decode b_MD_goTo 50 = .ok (.getfield 142, 3) := by decide +kernel
theorem d_MD_goTo_53 : decode b_MD_goTo 53 = .ok (.iaload, 1) := by decide +kernel
theorem d_MD_goTo_54 : decode b_MD_goTo 54 = .ok (.iload_n 1, 1) := by decide +kernel
theorem d_MD_goTo_55 : decode b_MD_goTo 55 = .ok (.invokevirtual 149, 3) := by decide +kernel
theorem d_MD_goTo_58 : decode b_MD_goTo 58 = .ok (.iastore, 1) := by decide +kernel
theorem d_MD_goTo_59 : decode b_MD_goTo 59 = .ok (.aload_n 0, 1) := by decide +kernel
theorem d_MD_goTo_60 : decode b_MD_goTo 60 = .ok (.getfield 62, 3) := by decide +kernel
theorem d_MD_goTo_63 : decode b_MD_goTo 63 = .ok (.aload_n 0, 1) := by decide +kernel
theorem d_MD_goTo_64 : decode b_MD_goTo 64 = .ok (.getfield 142, 3) := by decide +kernel
theorem d_MD_goTo_67 : decode b_MD_goTo 67 = .ok (.iconst 1, 1) := by decide +kernel
theorem d_MD_goTo_68 : decode b_MD_goTo 68 = .ok (.iadd, 1) := by decide +kernel
theorem d_MD_goTo_69 : decode b_MD_goTo 69 = .ok (.aload_n 0, 1) := by decide +kernel
theorem d_MD_goTo_70 : decode b_MD_goTo 70 = .ok (.aload_n 0, 1) := by decide +kernel
theorem d_MD_goTo_71 : decode b_MD_goTo 71 = .ok (.getfield 62, 3) := by decide +kernel
theorem d_MD_goTo_74 : decode b_MD_goTo 74 = .ok (.aload_n 0, 1) := by decide +kernel
theorem d_MD_goTo_75 : decode b_MD_goTo 75 = .ok (.getfield 142, 3) := by decide +kernel
theorem d_MD_goTo_78 : decode b_MD_goTo 78 = .ok (.iaload, 1) := by decide +kernel
theorem d_MD_goTo_79 : decode b_MD_goTo 79 = .ok (.aload_n 0, 1) := by decide +kernel
theorem d_MD_goTo_80 : decode b_MD_goTo 80 = .ok (.getfield 65, 3) := by decide +kernel
theorem d_MD_goTo_83 : decode b_MD_goTo 83 = .ok (.aload_n 0, 1) := by decide +kernel
theorem d_MD_goTo_84 : decode b_MD_goTo 84 = .ok (.getfield 142, 3) := by decide +kernel
theorem d_MD_goTo_87 : decode b_MD_goTo 87 = .ok (.iaload, 1) := by decide +kernel
theorem d_MD_goTo_88 : decode b_MD_goTo 88 = .ok (.invokevirtual 152, 3) := by decide +kernel
theorem d_MD_goTo_91 : decode b_MD_goTo 91 = .ok (.iastore, 1) := by decide +kernel
theorem d_MD_goTo_92 : decode b_MD_goTo 92 = .ok (.aload_n 0, 1) := by decide +kernel
theorem d_MD_goTo_93 : decode b_MD_goTo 93 = .ok (.dup, 1) := by decide +kernel
theorem d_MD_goTo_94 : decode b_MD_goTo 94 = .ok (.getfield 142, 3) := by decide +kernel
theorem d_MD_goTo_97 : decode b_MD_goTo 97 = .ok (.iconst 1, 1) := by decide +kernel
theorem d_MD_goTo_98 : decode b_MD_goTo 98 = .ok (.iadd, 1) := by decide +kernel
theorem d_MD_goTo_99 : decode b_MD_goTo 99 = .ok (.putfield 142, 3) := by decide +kernel
theorem d_MD_goTo_102 : decode b_MD_goTo 102 = .ok (.goto (-87), 3) := by decide +kernel
theorem d_MD_goTo_105 : decode b_MD_goTo 105 = .ok (.aload_n 0, 1) := by decide +kernel
theorem d_MD_goTo_106 : decode b_MD_goTo 106 = .ok (.aload_n 0, 1) := by decide +kernel
theorem d_MD_goTo_107 : decode b_MD_goTo 107 = .ok (.getfield 62, 3) := by decide +kernel
theorem d_MD_goTo_110 : decode b_MD_goTo 110 = .ok (.aload_n 0, 1) := by decide +kernel
theorem d_MD_goTo_111 : decode b_MD_goTo 111 = .ok (.getfield 142, 3) := by decide +kernel
theorem d_MD_goTo_114 : decode b_MD_goTo 114 = .ok (.iaload, 1) := by decide +kernel
theorem d_MD_goTo_115 : decode b_MD_goTo 115 = .ok (.iload_n 1, 1) := by decide +kernel
theorem d_MD_goTo_116 : decode b_MD_goTo 116 = .ok (.invokevirtual 149, 3) := by decide +kernel
theorem d_MD_goTo_119 : decode b_MD_goTo 119 = .ok (.ireturn, 1) := by decide +kernel
noncomputable def q_MD_goTo_105 (v_now : Nat → Int32) (v_deep : Int32) (v_at : Int32) (v_bad : Int32) (v_way : Nat → Int32) (v_turn : Nat → Int32) (x_1 : Int32) : Option (Int32 × Int32 × Int32 × Int32 × (Nat → Int32) × (Nat → Int32)) :=
  pu_ck (vp_in v_deep 40) (pu_b3 (f_MD_seek v_now v_at v_bad (v_way v_deep.toNatClampNeg) x_1) (fun r3 w4 w5 => some (r3, v_deep, w4, w5, v_way, v_turn)))
noncomputable def q_MD_goTo_15 (kx_105 : Int32 → Int32 → Int32 → (Nat → Int32) → (Nat → Int32) → Option (Int32 × Int32 × Int32 × Int32 × (Nat → Int32) × (Nat → Int32))) (v_now : Nat → Int32) (x_1 : Int32) : Nat → Int32 → Int32 → Int32 → (Nat → Int32) → (Nat → Int32) → Option (Int32 × Int32 × Int32 × Int32 × (Nat → Int32) × (Nat → Int32))
  | 0, _, _, _, _, _ => none
  | n + 1, v_deep, v_at, v_bad, v_way, v_turn => pu_ck (vp_in v_deep 40) (pu_ck (vp_in ((64 : Int32) * (v_way v_deep.toNatClampNeg)) 1600) (pu_br ((v_now ((64 : Int32) * (v_way v_deep.toNatClampNeg)).toNatClampNeg) = (5 : Int32)) (pu_ck (vp_in v_deep 40) (pu_b3 (f_MD_seek v_now v_at v_bad (v_way v_deep.toNatClampNeg) x_1) (fun r6 w7 w8 => pu_ck (vp_in v_deep 40) (pu_nm (upd v_turn v_deep.toNatClampNeg r6) (fun a9 => pu_ck (vp_in v_deep 40) (pu_ck (vp_in v_deep 40) (pu_b1 (f_MD_child v_now (v_way v_deep.toNatClampNeg) (a9 v_deep.toNatClampNeg)) (fun r10 => pu_ck (vp_in (v_deep + (1 : Int32)) 40) (pu_nm (upd v_way (v_deep + (1 : Int32)).toNatClampNeg r10) (fun a11 => pu_nm (v_deep + (1 : Int32)) (fun t12 => q_MD_goTo_15 kx_105 v_now x_1 n t12 w7 w8 a11 a9))))))))))) (kx_105 v_deep v_at v_bad v_way v_turn)))
noncomputable def f_MD_goTo (v_now : Nat → Int32) (v_deep : Int32) (v_at : Int32) (v_bad : Int32) (v_way : Nat → Int32) (v_turn : Nat → Int32) (x_1 : Int32) : Option (Int32 × Int32 × Int32 × Int32 × (Nat → Int32) × (Nat → Int32)) :=
  pu_b1 (f_MD_root v_now) (fun r1 => pu_ck (vp_in (0 : Int32) 40) (pu_nm (upd v_way (0 : Int32).toNatClampNeg r1) (fun a2 => q_MD_goTo_15 (fun v_deep v_at v_bad v_way v_turn => q_MD_goTo_105 v_now v_deep v_at v_bad v_way v_turn x_1) v_now x_1 pu_fu (0 : Int32) v_at v_bad a2 v_turn)))
abbrev rm_MD_goTo : Room := { frames := 3, cells := 0, slots := 0, locals := 71 }
set_option maxHeartbeats 8000000 in
set_option maxRecDepth 100000 in
theorem c_MD_goTo (l : Launch) (D : va_G) (cI cJ cB cZ : ClassId) (sz : Nat) (q_this : Nat) (q_now : Nat) (q_disk : Nat) (q_before : Nat) (q_recordPage : Nat) (q_recordBytes : Nat) (q_isBlob : Nat) (q_integer : Nat) (q_size : Nat) (q_blobs : Nat) (q_record : Nat) (q_cellLength : Nat) (q_row : Nat) (q_cell : Nat) (q_way : Nat) (q_turn : Nat) (q_used : Nat) (v_onDisk : Int32) (v_head : Int32) (v_headPages : Int32) (v_records : Int32) (v_up : Int32) (v_armed : Int32) (v_columns : Int32) (v_length : Int32) (v_kind : Int32) (v_cells : Int32) (v_last : Int32) (v_made : Int32) (v_deep : Int32) (v_at : Int32) (v_bad : Int32) (v_now : Nat → Int32) (v_way : Nat → Int32) (v_turn : Nat → Int32) (x_1 : Int32) (o_r : Int32) (o_deep : Int32) (o_at : Int32) (o_bad : Int32) (o_way : Nat → Int32) (o_turn : Nat → Int32) (hf : f_MD_goTo v_now v_deep v_at v_bad v_way v_turn x_1 = some (o_r, o_deep, o_at, o_bad, o_way, o_turn)) : Met l y_MD_goTo (.code y_MD_goTo b_MD_goTo 2 (some .int) :: pu_wA) rm_MD_goTo (pu_pc D pu_cl (pu_ty cI cJ cB cZ) [.ref q_this, .int x_1] [(q_this, .inr (8, [.ref q_now, .ref q_disk, .ref q_before, .int v_onDisk, .int v_head, .int v_headPages, .int v_records, .ref q_recordPage, .ref q_recordBytes, .int v_up, .int v_armed, .int v_columns, .ref q_isBlob, .ref q_integer, .ref q_size, .ref q_blobs, .int v_length, .ref q_record, .int v_kind, .int v_cells, .int v_last, .ref q_cellLength, .ref q_row, .int v_made, .ref q_cell, .int v_deep, .ref q_way, .ref q_turn, .int v_at, .int v_bad, .ref q_used])), (q_now, .inl (cI, 1600, .inl v_now)), (q_way, .inl (cI, 40, .inl v_way)), (q_turn, .inl (cI, 40, .inl v_turn))] sz) (pu_qi D pu_cl (pu_ty cI cJ cB cZ) [(q_this, .inr (8, [.ref q_now, .ref q_disk, .ref q_before, .int v_onDisk, .int v_head, .int v_headPages, .int v_records, .ref q_recordPage, .ref q_recordBytes, .int v_up, .int v_armed, .int v_columns, .ref q_isBlob, .ref q_integer, .ref q_size, .ref q_blobs, .int v_length, .ref q_record, .int v_kind, .int v_cells, .int v_last, .ref q_cellLength, .ref q_row, .int v_made, .ref q_cell, .int v_deep, .ref q_way, .ref q_turn, .int v_at, .int v_bad, .ref q_used])), (q_now, .inl (cI, 1600, .inl v_now)), (q_way, .inl (cI, 40, .inl v_way)), (q_turn, .inl (cI, 40, .inl v_turn))] [(q_this, .inr (8, [.ref q_now, .ref q_disk, .ref q_before, .int v_onDisk, .int v_head, .int v_headPages, .int v_records, .ref q_recordPage, .ref q_recordBytes, .int v_up, .int v_armed, .int v_columns, .ref q_isBlob, .ref q_integer, .ref q_size, .ref q_blobs, .int v_length, .ref q_record, .int v_kind, .int v_cells, .int v_last, .ref q_cellLength, .ref q_row, .int v_made, .ref q_cell, .int o_deep, .ref q_way, .ref q_turn, .int o_at, .int o_bad, .ref q_used])), (q_now, .inl (cI, 1600, .inl v_now)), (q_way, .inl (cI, 40, .inl o_way)), (q_turn, .inl (cI, 40, .inl o_turn))] sz o_r) 0 0 (va_A [(q_this, .inr (8, [.ref q_now, .ref q_disk, .ref q_before, .int v_onDisk, .int v_head, .int v_headPages, .int v_records, .ref q_recordPage, .ref q_recordBytes, .int v_up, .int v_armed, .int v_columns, .ref q_isBlob, .ref q_integer, .ref q_size, .ref q_blobs, .int v_length, .ref q_record, .int v_kind, .int v_cells, .int v_last, .ref q_cellLength, .ref q_row, .int v_made, .ref q_cell, .int v_deep, .ref q_way, .ref q_turn, .int v_at, .int v_bad, .ref q_used])), (q_now, .inl (cI, 1600, .inl v_now)), (q_way, .inl (cI, 40, .inl v_way)), (q_turn, .inl (cI, 40, .inl v_turn))] sz) := by
  refine pu_mti [.ref q_this, .int x_1] [(q_this, .inr (8, [.ref q_now, .ref q_disk, .ref q_before, .int v_onDisk, .int v_head, .int v_headPages, .int v_records, .ref q_recordPage, .ref q_recordBytes, .int v_up, .int v_armed, .int v_columns, .ref q_isBlob, .ref q_integer, .ref q_size, .ref q_blobs, .int v_length, .ref q_record, .int v_kind, .int v_cells, .int v_last, .ref q_cellLength, .ref q_row, .int v_made, .ref q_cell, .int v_deep, .ref q_way, .ref q_turn, .int v_at, .int v_bad, .ref q_used])), (q_now, .inl (cI, 1600, .inl v_now)), (q_way, .inl (cI, 40, .inl v_way)), (q_turn, .inl (cI, 40, .inl v_turn))] [(q_this, .inr (8, [.ref q_now, .ref q_disk, .ref q_before, .int v_onDisk, .int v_head, .int v_headPages, .int v_records, .ref q_recordPage, .ref q_recordBytes, .int v_up, .int v_armed, .int v_columns, .ref q_isBlob, .ref q_integer, .ref q_size, .ref q_blobs, .int v_length, .ref q_record, .int v_kind, .int v_cells, .int v_last, .ref q_cellLength, .ref q_row, .int v_made, .ref q_cell, .int o_deep, .ref q_way, .ref q_turn, .int o_at, .int o_bad, .ref q_used])), (q_now, .inl (cI, 1600, .inl v_now)), (q_way, .inl (cI, 40, .inl o_way)), (q_turn, .inl (cI, 40, .inl o_turn))] o_r (by decide) (Nat.le_of_ble_eq_true rfl) ?_
  intro p e s m args below meth c A Q ls hx hb hml hts hN hown hK hA hP hD hl hret0
  have hS : va_S A s.heap s.heap [] := va_S.rf
  have hl : lv_has ls 2 [(0, .ref q_this), (1, .int x_1)] := hl
  have hret : ∀ (pc : Nat) (ls : Array Slot) (H : Heap) (locs : List Loc) (y_0 : Int32) (y_1 : Int32) (y_2 : Int32) (y_3 : Int32) (y_4 : Nat → Int32) (y_5 : Nat → Int32), decode b_MD_goTo pc = .ok (.ireturn, 1) → va_P D pu_cl [(q_this, .inr (8, [.ref q_now, .ref q_disk, .ref q_before, .int v_onDisk, .int v_head, .int v_headPages, .int v_records, .ref q_recordPage, .ref q_recordBytes, .int v_up, .int v_armed, .int v_columns, .ref q_isBlob, .ref q_integer, .ref q_size, .ref q_blobs, .int v_length, .ref q_record, .int v_kind, .int v_cells, .int v_last, .ref q_cellLength, .ref q_row, .int v_made, .ref q_cell, .int y_1, .ref q_way, .ref q_turn, .int y_2, .int y_3, .ref q_used])), (q_now, .inl (cI, 1600, .inl v_now)), (q_way, .inl (cI, 40, .inl y_4)), (q_turn, .inl (cI, 40, .inl y_5))] H → va_D A [(q_this, .inr (8, [.ref q_now, .ref q_disk, .ref q_before, .int v_onDisk, .int v_head, .int v_headPages, .int v_records, .ref q_recordPage, .ref q_recordBytes, .int v_up, .int v_armed, .int v_columns, .ref q_isBlob, .ref q_integer, .ref q_size, .ref q_blobs, .int v_length, .ref q_record, .int v_kind, .int v_cells, .int v_last, .ref q_cellLength, .ref q_row, .int v_made, .ref q_cell, .int y_1, .ref q_way, .ref q_turn, .int y_2, .int y_3, .ref q_used])), (q_now, .inl (cI, 1600, .inl v_now)), (q_way, .inl (cI, 40, .inl y_4)), (q_turn, .inl (cI, 40, .inl y_5))] → va_S A s.heap H locs → some (y_0, y_1, y_2, y_3, y_4, y_5) = some (o_r, o_deep, o_at, o_bad, o_way, o_turn) → W p l e rm_MD_goTo s m args below meth c H locs 0 0 Q (F0 m pc ls [.int y_0]) := by
    intro pc ls H locs y_0 y_1 y_2 y_3 y_4 y_5 hd hP hD hS hf
    cases hf
    exact hret0 pc ls H locs hd hP hD hS
  clear hret0
  unfold f_MD_goTo at hf
  skip
  have lb_105 : ∀ (v_deep : Int32) (v_at : Int32) (v_bad : Int32) (v_way : Nat → Int32) (v_turn : Nat → Int32) (x_1 : Int32) (H : Heap) (locs : List Loc) (ls : Array Slot), va_P D pu_cl [(q_this, .inr (8, [.ref q_now, .ref q_disk, .ref q_before, .int v_onDisk, .int v_head, .int v_headPages, .int v_records, .ref q_recordPage, .ref q_recordBytes, .int v_up, .int v_armed, .int v_columns, .ref q_isBlob, .ref q_integer, .ref q_size, .ref q_blobs, .int v_length, .ref q_record, .int v_kind, .int v_cells, .int v_last, .ref q_cellLength, .ref q_row, .int v_made, .ref q_cell, .int v_deep, .ref q_way, .ref q_turn, .int v_at, .int v_bad, .ref q_used])), (q_now, .inl (cI, 1600, .inl v_now)), (q_way, .inl (cI, 40, .inl v_way)), (q_turn, .inl (cI, 40, .inl v_turn))] H → va_D A [(q_this, .inr (8, [.ref q_now, .ref q_disk, .ref q_before, .int v_onDisk, .int v_head, .int v_headPages, .int v_records, .ref q_recordPage, .ref q_recordBytes, .int v_up, .int v_armed, .int v_columns, .ref q_isBlob, .ref q_integer, .ref q_size, .ref q_blobs, .int v_length, .ref q_record, .int v_kind, .int v_cells, .int v_last, .ref q_cellLength, .ref q_row, .int v_made, .ref q_cell, .int v_deep, .ref q_way, .ref q_turn, .int v_at, .int v_bad, .ref q_used])), (q_now, .inl (cI, 1600, .inl v_now)), (q_way, .inl (cI, 40, .inl v_way)), (q_turn, .inl (cI, 40, .inl v_turn))] → va_S A s.heap H locs → lv_has ls 2 [(0, .ref q_this), (1, .int x_1)] → q_MD_goTo_105 v_now v_deep v_at v_bad v_way v_turn x_1 = some (o_r, o_deep, o_at, o_bad, o_way, o_turn) → W p l e rm_MD_goTo s m args below meth c H locs 0 0 Q (F0 m 105 ls []) := by
    intro v_deep v_at v_bad v_way v_turn x_1 H locs ls hP hD hS hl hf
    rw [q_MD_goTo_105] at hf
    refine lv_aload_n hx hb d_MD_goTo_105 rfl (lv_at hl 0 rfl) ?_
    refine lv_aload_n hx hb d_MD_goTo_106 rfl (lv_at hl 0 rfl) ?_
    refine gf_MD_62 (v := .ref q_way) hx hb hts hN hown hK hP 0 rfl rfl d_MD_goTo_107 ?_
    refine lv_aload_n hx hb d_MD_goTo_110 rfl (lv_at hl 0 rfl) ?_
    refine gf_MD_142 (v := .int v_deep) hx hb hts hN hown hK hP 0 rfl rfl d_MD_goTo_111 ?_
    obtain ⟨hin, hf⟩ := pu_ck_some hf
    refine va_iald hx hb hK hP 2 0 rfl rfl hin d_MD_goTo_114 ?_
    refine lv_iload_n hx hb d_MD_goTo_115 rfl (lv_at hl 1 rfl) ?_
    obtain ⟨r3, w4, w5, hc, hf⟩ := pu_b3_some hf
    refine cl_i (WC := [(q_this, .inr (8, [.ref q_now, .ref q_disk, .ref q_before, .int v_onDisk, .int v_head, .int v_headPages, .int v_records, .ref q_recordPage, .ref q_recordBytes, .int v_up, .int v_armed, .int v_columns, .ref q_isBlob, .ref q_integer, .ref q_size, .ref q_blobs, .int v_length, .ref q_record, .int v_kind, .int v_cells, .int v_last, .ref q_cellLength, .ref q_row, .int v_made, .ref q_cell, .int v_deep, .ref q_way, .ref q_turn, .int v_at, .int v_bad, .ref q_used])), (q_now, .inl (cI, 1600, .inl v_now))]) (WC2 := [(q_this, .inr (8, [.ref q_now, .ref q_disk, .ref q_before, .int v_onDisk, .int v_head, .int v_headPages, .int v_records, .ref q_recordPage, .ref q_recordBytes, .int v_up, .int v_armed, .int v_columns, .ref q_isBlob, .ref q_integer, .ref q_size, .ref q_blobs, .int v_length, .ref q_record, .int v_kind, .int v_cells, .int v_last, .ref q_cellLength, .ref q_row, .int v_made, .ref q_cell, .int v_deep, .ref q_way, .ref q_turn, .int w4, .int w5, .ref q_used])), (q_now, .inl (cI, 1600, .inl v_now))]) (WR := [(q_way, .inl (cI, 40, .inl v_way)), (q_turn, .inl (cI, 40, .inl v_turn))]) (WS2 := [(q_this, .inr (8, [.ref q_now, .ref q_disk, .ref q_before, .int v_onDisk, .int v_head, .int v_headPages, .int v_records, .ref q_recordPage, .ref q_recordBytes, .int v_up, .int v_armed, .int v_columns, .ref q_isBlob, .ref q_integer, .ref q_size, .ref q_blobs, .int v_length, .ref q_record, .int v_kind, .int v_cells, .int v_last, .ref q_cellLength, .ref q_row, .int v_made, .ref q_cell, .int v_deep, .ref q_way, .ref q_turn, .int w4, .int w5, .ref q_used])), (q_now, .inl (cI, 1600, .inl v_now)), (q_way, .inl (cI, 40, .inl v_way)), (q_turn, .inl (cI, 40, .inl v_turn))]) (pu_rv (cl := pu_cl) (pu_in10 _ (List.mem_of_getElem? (i := 48) rfl)) (pu_in10 _ (List.mem_of_getElem? (i := 49) rfl)) (pu_in14 _ (List.mem_of_getElem? (i := 13) rfl)) (pu_in0 _ (List.mem_of_getElem? (i := 10) rfl)) (pu_in10 _ (List.mem_of_getElem? (i := 50) rfl)) (ci := 8) rfl hd_MD_seek (by decide) ⟨rfl, rfl⟩ rfl rfl (Nat.le_of_ble_eq_true rfl) rfl (As := [.int (v_way v_deep.toNatClampNeg), .int x_1]) (rest := []) (WC := [(q_this, .inr (8, [.ref q_now, .ref q_disk, .ref q_before, .int v_onDisk, .int v_head, .int v_headPages, .int v_records, .ref q_recordPage, .ref q_recordBytes, .int v_up, .int v_armed, .int v_columns, .ref q_isBlob, .ref q_integer, .ref q_size, .ref q_blobs, .int v_length, .ref q_record, .int v_kind, .int v_cells, .int v_last, .ref q_cellLength, .ref q_row, .int v_made, .ref q_cell, .int v_deep, .ref q_way, .ref q_turn, .int v_at, .int v_bad, .ref q_used])), (q_now, .inl (cI, 1600, .inl v_now))]) hx hb hml hown hts hN hK hP hD (c_MD_seek l D cI cJ cB cZ H.size q_this q_now q_disk q_before q_recordPage q_recordBytes q_isBlob q_integer q_size q_blobs q_record q_cellLength q_row q_cell q_way q_turn q_used v_onDisk v_head v_headPages v_records v_up v_armed v_columns v_length v_kind v_cells v_last v_made v_deep v_at v_bad v_now (v_way v_deep.toNatClampNeg) x_1 r3 w4 w5 hc) [0, 1] rfl rfl hl.1 d_MD_goTo_116) hP hD hS hA [0, 1] [2, 3] [2, 3, 0, 1] rfl rfl rfl (by decide) rfl rfl (fun H locs hP hD hS => ?_)
    exact hret _ _ _ _ r3 v_deep w4 w5 v_way v_turn d_MD_goTo_119 hP hD hS hf
  have lp_15 : ∀ (x_1 : Int32) (n15 : Nat) (v_deep : Int32) (v_at : Int32) (v_bad : Int32) (v_way : Nat → Int32) (v_turn : Nat → Int32) (H : Heap) (locs : List Loc) (ls : Array Slot), va_P D pu_cl [(q_this, .inr (8, [.ref q_now, .ref q_disk, .ref q_before, .int v_onDisk, .int v_head, .int v_headPages, .int v_records, .ref q_recordPage, .ref q_recordBytes, .int v_up, .int v_armed, .int v_columns, .ref q_isBlob, .ref q_integer, .ref q_size, .ref q_blobs, .int v_length, .ref q_record, .int v_kind, .int v_cells, .int v_last, .ref q_cellLength, .ref q_row, .int v_made, .ref q_cell, .int v_deep, .ref q_way, .ref q_turn, .int v_at, .int v_bad, .ref q_used])), (q_now, .inl (cI, 1600, .inl v_now)), (q_way, .inl (cI, 40, .inl v_way)), (q_turn, .inl (cI, 40, .inl v_turn))] H → va_D A [(q_this, .inr (8, [.ref q_now, .ref q_disk, .ref q_before, .int v_onDisk, .int v_head, .int v_headPages, .int v_records, .ref q_recordPage, .ref q_recordBytes, .int v_up, .int v_armed, .int v_columns, .ref q_isBlob, .ref q_integer, .ref q_size, .ref q_blobs, .int v_length, .ref q_record, .int v_kind, .int v_cells, .int v_last, .ref q_cellLength, .ref q_row, .int v_made, .ref q_cell, .int v_deep, .ref q_way, .ref q_turn, .int v_at, .int v_bad, .ref q_used])), (q_now, .inl (cI, 1600, .inl v_now)), (q_way, .inl (cI, 40, .inl v_way)), (q_turn, .inl (cI, 40, .inl v_turn))] → va_S A s.heap H locs → lv_has ls 2 [(0, .ref q_this), (1, .int x_1)] → q_MD_goTo_15 (fun v_deep v_at v_bad v_way v_turn => q_MD_goTo_105 v_now v_deep v_at v_bad v_way v_turn x_1) v_now x_1 n15 v_deep v_at v_bad v_way v_turn = some (o_r, o_deep, o_at, o_bad, o_way, o_turn) → W p l e rm_MD_goTo s m args below meth c H locs 0 0 Q (F0 m 15 ls []) := by
    intro x_1 n15
    induction n15 with
    | zero =>
      intro v_deep v_at v_bad v_way v_turn H locs ls hP hD hS hl hf
      rw [q_MD_goTo_15] at hf
      cases hf
    | succ n15 ih_15 =>
      intro v_deep v_at v_bad v_way v_turn H locs ls hP hD hS hl hf
      rw [q_MD_goTo_15] at hf
      refine lv_aload_n hx hb d_MD_goTo_15 rfl (lv_at hl 0 rfl) ?_
      refine gf_MD_7 (v := .ref q_now) hx hb hts hN hown hK hP 0 rfl rfl d_MD_goTo_16 ?_
      refine lv_bipush (v := 64) hx hb d_MD_goTo_19 rfl ?_
      refine lv_aload_n hx hb d_MD_goTo_21 rfl (lv_at hl 0 rfl) ?_
      refine gf_MD_62 (v := .ref q_way) hx hb hts hN hown hK hP 0 rfl rfl d_MD_goTo_22 ?_
      refine lv_aload_n hx hb d_MD_goTo_25 rfl (lv_at hl 0 rfl) ?_
      refine gf_MD_142 (v := .int v_deep) hx hb hts hN hown hK hP 0 rfl rfl d_MD_goTo_26 ?_
      obtain ⟨hin, hf⟩ := pu_ck_some hf
      refine va_iald hx hb hK hP 2 0 rfl rfl hin d_MD_goTo_29 ?_
      refine lv_imul hx hb d_MD_goTo_30 ?_
      obtain ⟨hin, hf⟩ := pu_ck_some hf
      refine va_iald hx hb hK hP 1 0 rfl rfl hin d_MD_goTo_31 ?_
      refine lv_iconst (v := 5) hx hb d_MD_goTo_32 rfl ?_
      refine lv_icmp_ne (tgt := 105) hx hb d_MD_goTo_33 rfl (fun hc => ?_) (fun hc => ?_)
      · have hf := pu_br_neg hf hc
        exact lb_105 v_deep v_at v_bad v_way v_turn x_1 H locs ls hP hD hS (lv_sub hl [0, 1] rfl) hf
      have hf := pu_br_pos hf hc
      refine lv_aload_n hx hb d_MD_goTo_36 rfl (lv_at hl 0 rfl) ?_
      refine gf_MD_65 (v := .ref q_turn) hx hb hts hN hown hK hP 0 rfl rfl d_MD_goTo_37 ?_
      refine lv_aload_n hx hb d_MD_goTo_40 rfl (lv_at hl 0 rfl) ?_
      refine gf_MD_142 (v := .int v_deep) hx hb hts hN hown hK hP 0 rfl rfl d_MD_goTo_41 ?_
      refine lv_aload_n hx hb d_MD_goTo_44 rfl (lv_at hl 0 rfl) ?_
      refine lv_aload_n hx hb d_MD_goTo_45 rfl (lv_at hl 0 rfl) ?_
      refine gf_MD_62 (v := .ref q_way) hx hb hts hN hown hK hP 0 rfl rfl d_MD_goTo_46 ?_
      refine lv_aload_n hx hb d_MD_goTo_49 rfl (lv_at hl 0 rfl) ?_
      refine gf_MD_142 (v := .int v_deep) hx hb hts hN hown hK hP 0 rfl rfl d_MD_goTo_50 ?_
      obtain ⟨hin, hf⟩ := pu_ck_some hf
      refine va_iald hx hb hK hP 2 0 rfl rfl hin d_MD_goTo_53 ?_
      refine lv_iload_n hx hb d_MD_goTo_54 rfl (lv_at hl 1 rfl) ?_
      obtain ⟨r6, w7, w8, hc, hf⟩ := pu_b3_some hf
      refine cl_i (WC := [(q_this, .inr (8, [.ref q_now, .ref q_disk, .ref q_before, .int v_onDisk, .int v_head, .int v_headPages, .int v_records, .ref q_recordPage, .ref q_recordBytes, .int v_up, .int v_armed, .int v_columns, .ref q_isBlob, .ref q_integer, .ref q_size, .ref q_blobs, .int v_length, .ref q_record, .int v_kind, .int v_cells, .int v_last, .ref q_cellLength, .ref q_row, .int v_made, .ref q_cell, .int v_deep, .ref q_way, .ref q_turn, .int v_at, .int v_bad, .ref q_used])), (q_now, .inl (cI, 1600, .inl v_now))]) (WC2 := [(q_this, .inr (8, [.ref q_now, .ref q_disk, .ref q_before, .int v_onDisk, .int v_head, .int v_headPages, .int v_records, .ref q_recordPage, .ref q_recordBytes, .int v_up, .int v_armed, .int v_columns, .ref q_isBlob, .ref q_integer, .ref q_size, .ref q_blobs, .int v_length, .ref q_record, .int v_kind, .int v_cells, .int v_last, .ref q_cellLength, .ref q_row, .int v_made, .ref q_cell, .int v_deep, .ref q_way, .ref q_turn, .int w7, .int w8, .ref q_used])), (q_now, .inl (cI, 1600, .inl v_now))]) (WR := [(q_way, .inl (cI, 40, .inl v_way)), (q_turn, .inl (cI, 40, .inl v_turn))]) (WS2 := [(q_this, .inr (8, [.ref q_now, .ref q_disk, .ref q_before, .int v_onDisk, .int v_head, .int v_headPages, .int v_records, .ref q_recordPage, .ref q_recordBytes, .int v_up, .int v_armed, .int v_columns, .ref q_isBlob, .ref q_integer, .ref q_size, .ref q_blobs, .int v_length, .ref q_record, .int v_kind, .int v_cells, .int v_last, .ref q_cellLength, .ref q_row, .int v_made, .ref q_cell, .int v_deep, .ref q_way, .ref q_turn, .int w7, .int w8, .ref q_used])), (q_now, .inl (cI, 1600, .inl v_now)), (q_way, .inl (cI, 40, .inl v_way)), (q_turn, .inl (cI, 40, .inl v_turn))]) (pu_rv (cl := pu_cl) (pu_in10 _ (List.mem_of_getElem? (i := 48) rfl)) (pu_in10 _ (List.mem_of_getElem? (i := 49) rfl)) (pu_in14 _ (List.mem_of_getElem? (i := 13) rfl)) (pu_in0 _ (List.mem_of_getElem? (i := 10) rfl)) (pu_in10 _ (List.mem_of_getElem? (i := 50) rfl)) (ci := 8) rfl hd_MD_seek (by decide) ⟨rfl, rfl⟩ rfl rfl (Nat.le_of_ble_eq_true rfl) rfl (As := [.int (v_way v_deep.toNatClampNeg), .int x_1]) (rest := [.int v_deep, .ref q_turn]) (WC := [(q_this, .inr (8, [.ref q_now, .ref q_disk, .ref q_before, .int v_onDisk, .int v_head, .int v_headPages, .int v_records, .ref q_recordPage, .ref q_recordBytes, .int v_up, .int v_armed, .int v_columns, .ref q_isBlob, .ref q_integer, .ref q_size, .ref q_blobs, .int v_length, .ref q_record, .int v_kind, .int v_cells, .int v_last, .ref q_cellLength, .ref q_row, .int v_made, .ref q_cell, .int v_deep, .ref q_way, .ref q_turn, .int v_at, .int v_bad, .ref q_used])), (q_now, .inl (cI, 1600, .inl v_now))]) hx hb hml hown hts hN hK hP hD (c_MD_seek l D cI cJ cB cZ H.size q_this q_now q_disk q_before q_recordPage q_recordBytes q_isBlob q_integer q_size q_blobs q_record q_cellLength q_row q_cell q_way q_turn q_used v_onDisk v_head v_headPages v_records v_up v_armed v_columns v_length v_kind v_cells v_last v_made v_deep v_at v_bad v_now (v_way v_deep.toNatClampNeg) x_1 r6 w7 w8 hc) [0, 1] rfl rfl hl.1 d_MD_goTo_55) hP hD hS hA [0, 1] [2, 3] [2, 3, 0, 1] rfl rfl rfl (by decide) rfl rfl (fun H locs hP hD hS => ?_)
      obtain ⟨hin, hf⟩ := pu_ck_some hf
      obtain ⟨a9, e_a9, hf⟩ := pu_nm_some hf
      refine va_iast hx hb hK hP hD hS 3 0 rfl rfl hin d_MD_goTo_58 (fun H locs hP hD hS => ?_)
      have hP : va_P D pu_cl [(q_this, .inr (8, [.ref q_now, .ref q_disk, .ref q_before, .int v_onDisk, .int v_head, .int v_headPages, .int v_records, .ref q_recordPage, .ref q_recordBytes, .int v_up, .int v_armed, .int v_columns, .ref q_isBlob, .ref q_integer, .ref q_size, .ref q_blobs, .int v_length, .ref q_record, .int v_kind, .int v_cells, .int v_last, .ref q_cellLength, .ref q_row, .int v_made, .ref q_cell, .int v_deep, .ref q_way, .ref q_turn, .int w7, .int w8, .ref q_used])), (q_now, .inl (cI, 1600, .inl v_now)), (q_way, .inl (cI, 40, .inl v_way)), (q_turn, .inl (cI, 40, .inl a9))] H := by rw [e_a9]; exact hP
      have hD : va_D A [(q_this, .inr (8, [.ref q_now, .ref q_disk, .ref q_before, .int v_onDisk, .int v_head, .int v_headPages, .int v_records, .ref q_recordPage, .ref q_recordBytes, .int v_up, .int v_armed, .int v_columns, .ref q_isBlob, .ref q_integer, .ref q_size, .ref q_blobs, .int v_length, .ref q_record, .int v_kind, .int v_cells, .int v_last, .ref q_cellLength, .ref q_row, .int v_made, .ref q_cell, .int v_deep, .ref q_way, .ref q_turn, .int w7, .int w8, .ref q_used])), (q_now, .inl (cI, 1600, .inl v_now)), (q_way, .inl (cI, 40, .inl v_way)), (q_turn, .inl (cI, 40, .inl a9))] := by rw [e_a9]; exact hD
      refine lv_aload_n hx hb d_MD_goTo_59 rfl (lv_at hl 0 rfl) ?_
      refine gf_MD_62 (v := .ref q_way) hx hb hts hN hown hK hP 0 rfl rfl d_MD_goTo_60 ?_
      refine lv_aload_n hx hb d_MD_goTo_63 rfl (lv_at hl 0 rfl) ?_
      refine gf_MD_142 (v := .int v_deep) hx hb hts hN hown hK hP 0 rfl rfl d_MD_goTo_64 ?_
      refine lv_iconst (v := 1) hx hb d_MD_goTo_67 rfl ?_
      refine lv_iadd hx hb d_MD_goTo_68 ?_
      refine lv_aload_n hx hb d_MD_goTo_69 rfl (lv_at hl 0 rfl) ?_
      refine lv_aload_n hx hb d_MD_goTo_70 rfl (lv_at hl 0 rfl) ?_
      refine gf_MD_62 (v := .ref q_way) hx hb hts hN hown hK hP 0 rfl rfl d_MD_goTo_71 ?_
      refine lv_aload_n hx hb d_MD_goTo_74 rfl (lv_at hl 0 rfl) ?_
      refine gf_MD_142 (v := .int v_deep) hx hb hts hN hown hK hP 0 rfl rfl d_MD_goTo_75 ?_
      obtain ⟨hin, hf⟩ := pu_ck_some hf
      refine va_iald hx hb hK hP 2 0 rfl rfl hin d_MD_goTo_78 ?_
      refine lv_aload_n hx hb d_MD_goTo_79 rfl (lv_at hl 0 rfl) ?_
      refine gf_MD_65 (v := .ref q_turn) hx hb hts hN hown hK hP 0 rfl rfl d_MD_goTo_80 ?_
      refine lv_aload_n hx hb d_MD_goTo_83 rfl (lv_at hl 0 rfl) ?_
      refine gf_MD_142 (v := .int v_deep) hx hb hts hN hown hK hP 0 rfl rfl d_MD_goTo_84 ?_
      obtain ⟨hin, hf⟩ := pu_ck_some hf
      refine va_iald hx hb hK hP 3 0 rfl rfl hin d_MD_goTo_87 ?_
      obtain ⟨r10, hc, hf⟩ := pu_b1_some hf
      refine cl_i (WC := [(q_this, .inr (8, [.ref q_now, .ref q_disk, .ref q_before, .int v_onDisk, .int v_head, .int v_headPages, .int v_records, .ref q_recordPage, .ref q_recordBytes, .int v_up, .int v_armed, .int v_columns, .ref q_isBlob, .ref q_integer, .ref q_size, .ref q_blobs, .int v_length, .ref q_record, .int v_kind, .int v_cells, .int v_last, .ref q_cellLength, .ref q_row, .int v_made, .ref q_cell, .int v_deep, .ref q_way, .ref q_turn, .int w7, .int w8, .ref q_used])), (q_now, .inl (cI, 1600, .inl v_now))]) (WC2 := [(q_this, .inr (8, [.ref q_now, .ref q_disk, .ref q_before, .int v_onDisk, .int v_head, .int v_headPages, .int v_records, .ref q_recordPage, .ref q_recordBytes, .int v_up, .int v_armed, .int v_columns, .ref q_isBlob, .ref q_integer, .ref q_size, .ref q_blobs, .int v_length, .ref q_record, .int v_kind, .int v_cells, .int v_last, .ref q_cellLength, .ref q_row, .int v_made, .ref q_cell, .int v_deep, .ref q_way, .ref q_turn, .int w7, .int w8, .ref q_used])), (q_now, .inl (cI, 1600, .inl v_now))]) (WR := [(q_way, .inl (cI, 40, .inl v_way)), (q_turn, .inl (cI, 40, .inl a9))]) (WS2 := [(q_this, .inr (8, [.ref q_now, .ref q_disk, .ref q_before, .int v_onDisk, .int v_head, .int v_headPages, .int v_records, .ref q_recordPage, .ref q_recordBytes, .int v_up, .int v_armed, .int v_columns, .ref q_isBlob, .ref q_integer, .ref q_size, .ref q_blobs, .int v_length, .ref q_record, .int v_kind, .int v_cells, .int v_last, .ref q_cellLength, .ref q_row, .int v_made, .ref q_cell, .int v_deep, .ref q_way, .ref q_turn, .int w7, .int w8, .ref q_used])), (q_now, .inl (cI, 1600, .inl v_now)), (q_way, .inl (cI, 40, .inl v_way)), (q_turn, .inl (cI, 40, .inl a9))]) (pu_rv (cl := pu_cl) (pu_in10 _ (List.mem_of_getElem? (i := 60) rfl)) (pu_in10 _ (List.mem_of_getElem? (i := 61) rfl)) (pu_in14 _ (List.mem_of_getElem? (i := 17) rfl)) (pu_in0 _ (List.mem_of_getElem? (i := 10) rfl)) (pu_in10 _ (List.mem_of_getElem? (i := 62) rfl)) (ci := 8) rfl hd_MD_child (by decide) ⟨rfl, rfl⟩ rfl rfl (Nat.le_of_ble_eq_true rfl) rfl (As := [.int (v_way v_deep.toNatClampNeg), .int (a9 v_deep.toNatClampNeg)]) (rest := [.int (v_deep + (1 : Int32)), .ref q_way]) (WC := [(q_this, .inr (8, [.ref q_now, .ref q_disk, .ref q_before, .int v_onDisk, .int v_head, .int v_headPages, .int v_records, .ref q_recordPage, .ref q_recordBytes, .int v_up, .int v_armed, .int v_columns, .ref q_isBlob, .ref q_integer, .ref q_size, .ref q_blobs, .int v_length, .ref q_record, .int v_kind, .int v_cells, .int v_last, .ref q_cellLength, .ref q_row, .int v_made, .ref q_cell, .int v_deep, .ref q_way, .ref q_turn, .int w7, .int w8, .ref q_used])), (q_now, .inl (cI, 1600, .inl v_now))]) hx hb hml hown hts hN hK hP hD (c_MD_child l D cI cJ cB cZ H.size q_this q_now q_disk q_before q_recordPage q_recordBytes q_isBlob q_integer q_size q_blobs q_record q_cellLength q_row q_cell q_way q_turn q_used v_onDisk v_head v_headPages v_records v_up v_armed v_columns v_length v_kind v_cells v_last v_made v_deep w7 w8 v_now (v_way v_deep.toNatClampNeg) (a9 v_deep.toNatClampNeg) r10 hc) [0, 1] rfl rfl hl.1 d_MD_goTo_88) hP hD hS hA [0, 1] [2, 3] [2, 3, 0, 1] rfl rfl rfl (by decide) rfl rfl (fun H locs hP hD hS => ?_)
      obtain ⟨hin, hf⟩ := pu_ck_some hf
      obtain ⟨a11, e_a11, hf⟩ := pu_nm_some hf
      refine va_iast hx hb hK hP hD hS 2 0 rfl rfl hin d_MD_goTo_91 (fun H locs hP hD hS => ?_)
      have hP : va_P D pu_cl [(q_this, .inr (8, [.ref q_now, .ref q_disk, .ref q_before, .int v_onDisk, .int v_head, .int v_headPages, .int v_records, .ref q_recordPage, .ref q_recordBytes, .int v_up, .int v_armed, .int v_columns, .ref q_isBlob, .ref q_integer, .ref q_size, .ref q_blobs, .int v_length, .ref q_record, .int v_kind, .int v_cells, .int v_last, .ref q_cellLength, .ref q_row, .int v_made, .ref q_cell, .int v_deep, .ref q_way, .ref q_turn, .int w7, .int w8, .ref q_used])), (q_now, .inl (cI, 1600, .inl v_now)), (q_way, .inl (cI, 40, .inl a11)), (q_turn, .inl (cI, 40, .inl a9))] H := by rw [e_a11]; exact hP
      have hD : va_D A [(q_this, .inr (8, [.ref q_now, .ref q_disk, .ref q_before, .int v_onDisk, .int v_head, .int v_headPages, .int v_records, .ref q_recordPage, .ref q_recordBytes, .int v_up, .int v_armed, .int v_columns, .ref q_isBlob, .ref q_integer, .ref q_size, .ref q_blobs, .int v_length, .ref q_record, .int v_kind, .int v_cells, .int v_last, .ref q_cellLength, .ref q_row, .int v_made, .ref q_cell, .int v_deep, .ref q_way, .ref q_turn, .int w7, .int w8, .ref q_used])), (q_now, .inl (cI, 1600, .inl v_now)), (q_way, .inl (cI, 40, .inl a11)), (q_turn, .inl (cI, 40, .inl a9))] := by rw [e_a11]; exact hD
      refine lv_aload_n hx hb d_MD_goTo_92 rfl (lv_at hl 0 rfl) ?_
      refine lv_dup hx hb d_MD_goTo_93 rfl ?_
      refine gf_MD_142 (v := .int v_deep) hx hb hts hN hown hK hP 0 rfl rfl d_MD_goTo_94 ?_
      refine lv_iconst (v := 1) hx hb d_MD_goTo_97 rfl ?_
      refine lv_iadd hx hb d_MD_goTo_98 ?_
      obtain ⟨t12, e_t12, hf⟩ := pu_nm_some hf
      refine pu_ti e_t12 ?_
      refine pf_MD_142 (v := .int t12) hx hb hts hN hown hK hP hD hS 0 rfl rfl rfl (Nat.le_of_ble_eq_true rfl) d_MD_goTo_99 (fun H locs hP hD hS => ?_)
      have hP : va_P D pu_cl [(q_this, .inr (8, [.ref q_now, .ref q_disk, .ref q_before, .int v_onDisk, .int v_head, .int v_headPages, .int v_records, .ref q_recordPage, .ref q_recordBytes, .int v_up, .int v_armed, .int v_columns, .ref q_isBlob, .ref q_integer, .ref q_size, .ref q_blobs, .int v_length, .ref q_record, .int v_kind, .int v_cells, .int v_last, .ref q_cellLength, .ref q_row, .int v_made, .ref q_cell, .int t12, .ref q_way, .ref q_turn, .int w7, .int w8, .ref q_used])), (q_now, .inl (cI, 1600, .inl v_now)), (q_way, .inl (cI, 40, .inl a11)), (q_turn, .inl (cI, 40, .inl a9))] H := hP
      have hD : va_D A [(q_this, .inr (8, [.ref q_now, .ref q_disk, .ref q_before, .int v_onDisk, .int v_head, .int v_headPages, .int v_records, .ref q_recordPage, .ref q_recordBytes, .int v_up, .int v_armed, .int v_columns, .ref q_isBlob, .ref q_integer, .ref q_size, .ref q_blobs, .int v_length, .ref q_record, .int v_kind, .int v_cells, .int v_last, .ref q_cellLength, .ref q_row, .int v_made, .ref q_cell, .int t12, .ref q_way, .ref q_turn, .int w7, .int w8, .ref q_used])), (q_now, .inl (cI, 1600, .inl v_now)), (q_way, .inl (cI, 40, .inl a11)), (q_turn, .inl (cI, 40, .inl a9))] := hD
      refine lv_goto (tgt := 15) hx hb d_MD_goTo_102 rfl ?_
      exact ih_15 t12 w7 w8 a11 a9 H locs ls hP hD hS (lv_sub hl [0, 1] rfl) hf
  obtain ⟨H, hH⟩ : ∃ H, H = s.heap := ⟨_, rfl⟩
  obtain ⟨locs, hlocs⟩ : ∃ locs : List Loc, locs = [] := ⟨_, rfl⟩
  have hP : va_P D pu_cl [(q_this, .inr (8, [.ref q_now, .ref q_disk, .ref q_before, .int v_onDisk, .int v_head, .int v_headPages, .int v_records, .ref q_recordPage, .ref q_recordBytes, .int v_up, .int v_armed, .int v_columns, .ref q_isBlob, .ref q_integer, .ref q_size, .ref q_blobs, .int v_length, .ref q_record, .int v_kind, .int v_cells, .int v_last, .ref q_cellLength, .ref q_row, .int v_made, .ref q_cell, .int v_deep, .ref q_way, .ref q_turn, .int v_at, .int v_bad, .ref q_used])), (q_now, .inl (cI, 1600, .inl v_now)), (q_way, .inl (cI, 40, .inl v_way)), (q_turn, .inl (cI, 40, .inl v_turn))] H := by rw [hH]; exact hP
  have hS : va_S A s.heap H locs := by rw [hH, hlocs]; exact hS
  have goal : W p l e rm_MD_goTo s m args below meth c H locs 0 0 Q (F0 m 0 ls []) := by
    clear hH hlocs
    refine lv_aload_n hx hb d_MD_goTo_0 rfl (lv_at hl 0 rfl) ?_
    refine lv_iconst (v := 0) hx hb d_MD_goTo_1 rfl ?_
    refine pf_MD_142 (v := .int (0 : Int32)) hx hb hts hN hown hK hP hD hS 0 rfl rfl rfl (Nat.le_of_ble_eq_true rfl) d_MD_goTo_2 (fun H locs hP hD hS => ?_)
    have hP : va_P D pu_cl [(q_this, .inr (8, [.ref q_now, .ref q_disk, .ref q_before, .int v_onDisk, .int v_head, .int v_headPages, .int v_records, .ref q_recordPage, .ref q_recordBytes, .int v_up, .int v_armed, .int v_columns, .ref q_isBlob, .ref q_integer, .ref q_size, .ref q_blobs, .int v_length, .ref q_record, .int v_kind, .int v_cells, .int v_last, .ref q_cellLength, .ref q_row, .int v_made, .ref q_cell, .int (0 : Int32), .ref q_way, .ref q_turn, .int v_at, .int v_bad, .ref q_used])), (q_now, .inl (cI, 1600, .inl v_now)), (q_way, .inl (cI, 40, .inl v_way)), (q_turn, .inl (cI, 40, .inl v_turn))] H := hP
    have hD : va_D A [(q_this, .inr (8, [.ref q_now, .ref q_disk, .ref q_before, .int v_onDisk, .int v_head, .int v_headPages, .int v_records, .ref q_recordPage, .ref q_recordBytes, .int v_up, .int v_armed, .int v_columns, .ref q_isBlob, .ref q_integer, .ref q_size, .ref q_blobs, .int v_length, .ref q_record, .int v_kind, .int v_cells, .int v_last, .ref q_cellLength, .ref q_row, .int v_made, .ref q_cell, .int (0 : Int32), .ref q_way, .ref q_turn, .int v_at, .int v_bad, .ref q_used])), (q_now, .inl (cI, 1600, .inl v_now)), (q_way, .inl (cI, 40, .inl v_way)), (q_turn, .inl (cI, 40, .inl v_turn))] := hD
    refine lv_aload_n hx hb d_MD_goTo_5 rfl (lv_at hl 0 rfl) ?_
    refine gf_MD_62 (v := .ref q_way) hx hb hts hN hown hK hP 0 rfl rfl d_MD_goTo_6 ?_
    refine lv_iconst (v := 0) hx hb d_MD_goTo_9 rfl ?_
    refine lv_aload_n hx hb d_MD_goTo_10 rfl (lv_at hl 0 rfl) ?_
    obtain ⟨r1, hc, hf⟩ := pu_b1_some hf
    refine cl_i (WC := [(q_this, .inr (8, [.ref q_now, .ref q_disk, .ref q_before, .int v_onDisk, .int v_head, .int v_headPages, .int v_records, .ref q_recordPage, .ref q_recordBytes, .int v_up, .int v_armed, .int v_columns, .ref q_isBlob, .ref q_integer, .ref q_size, .ref q_blobs, .int v_length, .ref q_record, .int v_kind, .int v_cells, .int v_last, .ref q_cellLength, .ref q_row, .int v_made, .ref q_cell, .int (0 : Int32), .ref q_way, .ref q_turn, .int v_at, .int v_bad, .ref q_used])), (q_now, .inl (cI, 1600, .inl v_now))]) (WC2 := [(q_this, .inr (8, [.ref q_now, .ref q_disk, .ref q_before, .int v_onDisk, .int v_head, .int v_headPages, .int v_records, .ref q_recordPage, .ref q_recordBytes, .int v_up, .int v_armed, .int v_columns, .ref q_isBlob, .ref q_integer, .ref q_size, .ref q_blobs, .int v_length, .ref q_record, .int v_kind, .int v_cells, .int v_last, .ref q_cellLength, .ref q_row, .int v_made, .ref q_cell, .int (0 : Int32), .ref q_way, .ref q_turn, .int v_at, .int v_bad, .ref q_used])), (q_now, .inl (cI, 1600, .inl v_now))]) (WR := [(q_way, .inl (cI, 40, .inl v_way)), (q_turn, .inl (cI, 40, .inl v_turn))]) (WS2 := [(q_this, .inr (8, [.ref q_now, .ref q_disk, .ref q_before, .int v_onDisk, .int v_head, .int v_headPages, .int v_records, .ref q_recordPage, .ref q_recordBytes, .int v_up, .int v_armed, .int v_columns, .ref q_isBlob, .ref q_integer, .ref q_size, .ref q_blobs, .int v_length, .ref q_record, .int v_kind, .int v_cells, .int v_last, .ref q_cellLength, .ref q_row, .int v_made, .ref q_cell, .int (0 : Int32), .ref q_way, .ref q_turn, .int v_at, .int v_bad, .ref q_used])), (q_now, .inl (cI, 1600, .inl v_now)), (q_way, .inl (cI, 40, .inl v_way)), (q_turn, .inl (cI, 40, .inl v_turn))]) (pu_rv (cl := pu_cl) (pu_in10 _ (List.mem_of_getElem? (i := 45) rfl)) (pu_in10 _ (List.mem_of_getElem? (i := 46) rfl)) (pu_in14 _ (List.mem_of_getElem? (i := 12) rfl)) (pu_in0 _ (List.mem_of_getElem? (i := 10) rfl)) (pu_in10 _ (List.mem_of_getElem? (i := 47) rfl)) (ci := 8) rfl hd_MD_root (by decide) ⟨rfl, rfl⟩ rfl rfl (Nat.le_of_ble_eq_true rfl) rfl (As := []) (rest := [.int (0 : Int32), .ref q_way]) (WC := [(q_this, .inr (8, [.ref q_now, .ref q_disk, .ref q_before, .int v_onDisk, .int v_head, .int v_headPages, .int v_records, .ref q_recordPage, .ref q_recordBytes, .int v_up, .int v_armed, .int v_columns, .ref q_isBlob, .ref q_integer, .ref q_size, .ref q_blobs, .int v_length, .ref q_record, .int v_kind, .int v_cells, .int v_last, .ref q_cellLength, .ref q_row, .int v_made, .ref q_cell, .int (0 : Int32), .ref q_way, .ref q_turn, .int v_at, .int v_bad, .ref q_used])), (q_now, .inl (cI, 1600, .inl v_now))]) hx hb hml hown hts hN hK hP hD (c_MD_root l D cI cJ cB cZ H.size q_this q_now q_disk q_before q_recordPage q_recordBytes q_isBlob q_integer q_size q_blobs q_record q_cellLength q_row q_cell q_way q_turn q_used v_onDisk v_head v_headPages v_records v_up v_armed v_columns v_length v_kind v_cells v_last v_made (0 : Int32) v_at v_bad v_now r1 hc) [0, 1] rfl rfl hl.1 d_MD_goTo_11) hP hD hS hA [0, 1] [2, 3] [2, 3, 0, 1] rfl rfl rfl (by decide) rfl rfl (fun H locs hP hD hS => ?_)
    obtain ⟨hin, hf⟩ := pu_ck_some hf
    obtain ⟨a2, e_a2, hf⟩ := pu_nm_some hf
    refine va_iast hx hb hK hP hD hS 2 0 rfl rfl hin d_MD_goTo_14 (fun H locs hP hD hS => ?_)
    have hP : va_P D pu_cl [(q_this, .inr (8, [.ref q_now, .ref q_disk, .ref q_before, .int v_onDisk, .int v_head, .int v_headPages, .int v_records, .ref q_recordPage, .ref q_recordBytes, .int v_up, .int v_armed, .int v_columns, .ref q_isBlob, .ref q_integer, .ref q_size, .ref q_blobs, .int v_length, .ref q_record, .int v_kind, .int v_cells, .int v_last, .ref q_cellLength, .ref q_row, .int v_made, .ref q_cell, .int (0 : Int32), .ref q_way, .ref q_turn, .int v_at, .int v_bad, .ref q_used])), (q_now, .inl (cI, 1600, .inl v_now)), (q_way, .inl (cI, 40, .inl a2)), (q_turn, .inl (cI, 40, .inl v_turn))] H := by rw [e_a2]; exact hP
    have hD : va_D A [(q_this, .inr (8, [.ref q_now, .ref q_disk, .ref q_before, .int v_onDisk, .int v_head, .int v_headPages, .int v_records, .ref q_recordPage, .ref q_recordBytes, .int v_up, .int v_armed, .int v_columns, .ref q_isBlob, .ref q_integer, .ref q_size, .ref q_blobs, .int v_length, .ref q_record, .int v_kind, .int v_cells, .int v_last, .ref q_cellLength, .ref q_row, .int v_made, .ref q_cell, .int (0 : Int32), .ref q_way, .ref q_turn, .int v_at, .int v_bad, .ref q_used])), (q_now, .inl (cI, 1600, .inl v_now)), (q_way, .inl (cI, 40, .inl a2)), (q_turn, .inl (cI, 40, .inl v_turn))] := by rw [e_a2]; exact hD
    exact lp_15 x_1 _ (0 : Int32) v_at v_bad a2 v_turn H locs ls hP hD hS (lv_sub hl [0, 1] rfl) hf
  rw [hH, hlocs] at goal
  exact goal
theorem d_MD_fetchRecord_0 : decode b_MD_fetchRecord 0 = .ok (.aload_n 0, 1) := by decide +kernel
theorem d_MD_fetchRecord_1 : decode b_MD_fetchRecord 1 = .ok (.bipush 64, 2) := by decide +kernel
theorem d_MD_fetchRecord_3 : decode b_MD_fetchRecord 3 = .ok (.iload_n 1, 1) := by decide +kernel
theorem d_MD_fetchRecord_4 : decode b_MD_fetchRecord 4 = .ok (.imul, 1) := by decide +kernel
theorem d_MD_fetchRecord_5 : decode b_MD_fetchRecord 5 = .ok (.aload_n 0, 1) := by decide +kernel
theorem d_MD_fetchRecord_6 : decode b_MD_fetchRecord 6 = .ok (.iload_n 1, 1) := by decide +kernel
theorem d_MD_fetchRecord_7 : decode b_MD_fetchRecord 7 = .ok (.iload_n 2, 1) := by decide +kernel
theorem d_MD_fetchRecord_8 : decode b_MD_fetchRecord 8 = .ok (.invokevirtual 115, 3) := by decide +kernel
theorem d_MD_fetchRecord_11 : decode b_MD_fetchRecord 11 = .ok (.iadd, 1) := by decide +kernel
theorem d_MD_fetchRecord_12 : decode b_MD_fetchRecord 12 = .ok (.putfield 132, 3) := by decide +kernel
theorem d_MD_fetchRecord_15 : decode b_MD_fetchRecord 15 = .ok (.aload_n 0, 1) := by decide +kernel
theorem d_MD_fetchRecord_16 : decode b_MD_fetchRecord 16 = .ok (.iconst 0, 1) := by decide +kernel
theorem d_MD_fetchRecord_17 : decode b_MD_fetchRecord 17 = .ok (.putfield 129, 3) := by decide +kernel
theorem d_MD_fetchRecord_20 : decode b_MD_fetchRecord 20 = .ok (.aload_n 0, 1) := by decide +kernel
theorem d_MD_fetchRecord_21 : decode b_MD_fetchRecord 21 = .ok (.aload_n 0, 1) := by decide +kernel
theorem d_MD_fetchRecord_22 : decode b_MD_fetchRecord 22 = .ok (.aload_n 0, 1) := by decide +kernel
theorem d_MD_fetchRecord_23 : decode b_MD_fetchRecord 23 = .ok (.getfield 7, 3) := by decide +kernel
theorem d_MD_fetchRecord_26 : decode b_MD_fetchRecord 26 = .ok (.sipush 1600, 3) := by decide +kernel
theorem d_MD_fetchRecord_29 : decode b_MD_fetchRecord 29 = .ok (.invokevirtual 135, 3) := by decide +kernel
theorem d_MD_fetchRecord_32 : decode b_MD_fetchRecord 32 = .ok (.putfield 91, 3) := by decide +kernel
theorem d_MD_fetchRecord_35 : decode b_MD_fetchRecord 35 = .ok (.aload_n 0, 1) := by decide +kernel
theorem d_MD_fetchRecord_36 : decode b_MD_fetchRecord 36 = .ok (.aload_n 0, 1) := by decide +kernel
theorem d_MD_fetchRecord_37 : decode b_MD_fetchRecord 37 = .ok (.getfield 7, 3) := by decide +kernel
theorem d_MD_fetchRecord_40 : decode b_MD_fetchRecord 40 = .ok (.sipush 1600, 3) := by decide +kernel
theorem d_MD_fetchRecord_43 : decode b_MD_fetchRecord 43 = .ok (.invokevirtual 135, 3) := by decide +kernel
theorem d_MD_fetchRecord_46 : decode b_MD_fetchRecord 46 = .ok (.istore_n 3, 1) := by decide +kernel
theorem d_MD_fetchRecord_47 : decode b_MD_fetchRecord 47 = .ok (.aload_n 0, 1) := by decide +kernel
theorem d_MD_fetchRecord_48 : decode b_MD_fetchRecord 48 = .ok (.getfield 91, 3) := by decide +kernel
theorem d_MD_fetchRecord_51 : decode b_MD_fetchRecord 51 = .ok (.bipush 24, 2) := by decide +kernel
theorem d_MD_fetchRecord_53 : decode b_MD_fetchRecord 53 = .ok (.if_icmp .le 8, 3) := by decide +kernel
theorem d_MD_fetchRecord_56 : decode b_MD_fetchRecord 56 = .ok (.bipush 16, 2) := by decide +kernel
theorem d_MD_fetchRecord_58 : decode b_MD_fetchRecord 58 = .ok (.goto 7, 3) := by decide +kernel
theorem d_MD_fetchRecord_61 : decode b_MD_fetchRecord 61 = .ok (.aload_n 0, 1) := by decide +kernel
theorem d_MD_fetchRecord_62 : decode b_MD_fetchRecord 62 = .ok (.getfield 91, 3) := by decide +kernel
theorem d_MD_fetchRecord_65 : decode b_MD_fetchRecord 65 = .ok (.istore 4, 2) := by decide +kernel
theorem d_MD_fetchRecord_67 : decode b_MD_fetchRecord 67 = .ok (.iconst 0, 1) := by decide +kernel
theorem d_MD_fetchRecord_68 : decode b_MD_fetchRecord 68 = .ok (.istore 5, 2) := by decide +kernel
theorem d_MD_fetchRecord_70 : decode b_MD_fetchRecord 70 = .ok (.iload 5, 2) := by decide +kernel
theorem d_MD_fetchRecord_72 : decode b_MD_fetchRecord 72 = .ok (.iload 4, 2) := by decide +kernel
theorem d_MD_fetchRecord_74 : decode b_MD_fetchRecord 74 = .ok (.if_icmp .ge 28, 3) := by decide +kernel
theorem d_MD_fetchRecord_77 : decode b_MD_fetchRecord 77 = .ok (.aload_n 0, 1) := by decide +kernel
theorem d_MD_fetchRecord_78 : decode b_MD_fetchRecord 78 = .ok (.getfield 50, 3) := by decide +kernel
theorem d_MD_fetchRecord_81 : decode b_MD_fetchRecord 81 = .ok (.iload 5, 2) := by decide +kernel
theorem d_MD_fetchRecord_83 : decode b_MD_fetchRecord 83 = .ok (.aload_n 0, 1) := by decide +kernel
theorem d_MD_fetchRecord_84 : decode b_MD_fetchRecord 84 = .ok (.getfield 7, 3) := by decide +kernel
theorem d_MD_fetchRecord_87 : decode b_MD_fetchRecord 87 = .ok (.aload_n 0, 1) := by decide +kernel
theorem d_MD_fetchRecord_88 : decode b_MD_fetchRecord 88 = .ok (.getfield 132, 3) := by decide +kernel
theorem d_MD_fetchRecord_91 : decode b_MD_fetchRecord 91 = .ok (.iload 5, 2) := by decide +kernel
theorem d_MD_fetchRecord_93 : decode b_MD_fetchRecord 93 = .ok (.iadd, 1) := by decide +kernel
theorem d_MD_fetchRecord_94 : decode b_MD_fetchRecord 94 = .ok (.iaload, 1) := by decide +kernel
theorem d_MD_fetchRecord_95 : decode b_MD_fetchRecord 95 = .ok (.iastore, 1) := by decide +kernel
theorem d_MD_fetchRecord_96 : decode b_MD_fetchRecord 96 = .ok (.iinc 5 1, 3) := by decide +kernel
theorem d_MD_fetchRecord_99 : decode b_MD_fetchRecord 99 = .ok (.goto (-29), 3) := by decide +kernel
theorem d_MD_fetchRecord_102 : decode b_MD_fetchRecord 102 = .ok (.iload 4, 2) := by decide +kernel
theorem d_MD_fetchRecord_104 : decode b_MD_fetchRecord 104 = .ok (.aload_n 0, 1) := by decide +kernel
theorem d_MD_fetchRecord_105 : decode b_MD_fetchRecord 105 = .ok (.getfield 91, 3) := by decide +kernel
theorem d_MD_fetchRecord_108 : decode b_MD_fetchRecord 108 = .ok (.if_icmp .ne 5, 3) := by decide +kernel
theorem d_MD_fetchRecord_111 : decode b_MD_fetchRecord 111 = .ok (.iconst 0, 1) := by decide +kernel
theorem d_MD_fetchRecord_112 : decode b_MD_fetchRecord 112 = .ok (.ireturn, 1) := by decide +kernel
theorem d_MD_fetchRecord_113 : decode b_MD_fetchRecord 113 = .ok (.aload_n 0, 1) := by decide +kernel
theorem d_MD_fetchRecord_114 : decode b_MD_fetchRecord 114 = .ok (.getfield 7, 3) := by decide +kernel
theorem d_MD_fetchRecord_117 : decode b_MD_fetchRecord 117 = .ok (.aload_n 0, 1) := by decide +kernel
theorem d_MD_fetchRecord_118 : decode b_MD_fetchRecord 118 = .ok (.getfield 132, 3) := by decide +kernel
theorem d_MD_fetchRecord_121 : decode b_MD_fetchRecord 121 = .ok (.bipush 16, 2) := by decide +kernel
theorem d_MD_fetchRecord_123 : decode b_MD_fetchRecord 123 = .ok (.iadd, 1) := by decide +kernel
theorem d_MD_fetchRecord_124 : decode b_MD_fetchRecord 124 = .ok (.iaload, 1) := by decide +kernel
theorem d_MD_fetchRecord_125 : decode b_MD_fetchRecord 125 = .ok (.istore 5, 2) := by decide +kernel
theorem d_MD_fetchRecord_127 : decode b_MD_fetchRecord 127 = .ok (.iload 5, 2) := by decide +kernel
theorem d_MD_fetchRecord_129 : decode b_MD_fetchRecord 129 = .ok (.istore 6, 2) := by decide +kernel
theorem d_MD_fetchRecord_131 : decode b_MD_fetchRecord 131 = .ok (.iload 4, 2) := by decide +kernel
theorem d_MD_fetchRecord_133 : decode b_MD_fetchRecord 133 = .ok (.aload_n 0, 1) := by decide +kernel
theorem d_MD_fetchRecord_134 : decode b_MD_fetchRecord 134 = .ok (.getfield 91, 3) := by decide +kernel
theorem d_MD_fetchRecord_137 : decode b_MD_fetchRecord 137 = .ok (.if_icmp .ge 66, 3) := by decide +kernel
theorem d_MD_fetchRecord_140 : decode b_MD_fetchRecord 140 = .ok (.iconst 1, 1) := by decide +kernel
theorem d_MD_fetchRecord_141 : decode b_MD_fetchRecord 141 = .ok (.istore 7, 2) := by decide +kernel
theorem d_MD_fetchRecord_143 : decode b_MD_fetchRecord 143 = .ok (.iload 7, 2) := by decide +kernel
theorem d_MD_fetchRecord_145 : decode b_MD_fetchRecord 145 = .ok (.bipush 64, 2) := by decide +kernel
theorem d_MD_fetchRecord_147 : decode b_MD_fetchRecord 147 = .ok (.if_icmp .ge 41, 3) := by decide +kernel
theorem d_MD_fetchRecord_150 : decode b_MD_fetchRecord 150 = .ok (.iload 4, 2) := by decide +kernel
theorem d_MD_fetchRecord_152 : decode b_MD_fetchRecord 152 = .ok (.aload_n 0, 1) := by decide +kernel
theorem d_MD_fetchRecord_153 : decode b_MD_fetchRecord 153 = .ok (.getfield 91, 3) := by decide +kernel
theorem d_MD_fetchRecord_156 : decode b_MD_fetchRecord 156 = .ok (.if_icmp .ge 32, 3) := by decide +kernel
theorem d_MD_fetchRecord_159 : decode b_MD_fetchRecord 159 = .ok (.aload_n 0, 1) := by decide +kernel
theorem d_MD_fetchRecord_160 : decode b_MD_fetchRecord 160 = .ok (.getfield 50, 3) := by decide +kernel
theorem d_MD_fetchRecord_163 : decode b_MD_fetchRecord 163 = .ok (.iload 4, 2) := by decide +kernel
theorem d_MD_fetchRecord_165 : decode b_MD_fetchRecord 165 = .ok (.aload_n 0, 1) := by decide +kernel
theorem d_MD_fetchRecord_166 : decode b_MD_fetchRecord 166 = .ok (.getfield 7, 3) := by decide +kernel
theorem d_MD_fetchRecord_169 : decode b_MD_fetchRecord 169 = .ok (.bipush 64, 2) := by decide +kernel
theorem d_MD_fetchRecord_171 : decode b_MD_fetchRecord 171 = .ok (.iload 6, 2) := by decide +kernel
theorem d_MD_fetchRecord_173 : decode b_MD_fetchRecord 173 = .ok (.imul, 1) := by decide +kernel
theorem d_MD_fetchRecord_174 : decode b_MD_fetchRecord 174 = .ok (.iload 7, 2) := by decide +kernel
theorem d_MD_fetchRecord_176 : decode b_MD_fetchRecord 176 = .ok (.iadd, 1) := by decide +kernel
theorem d_MD_fetchRecord_177 : decode b_MD_fetchRecord 177 = .ok (.iaload, 1) := by decide +kernel
theorem d_MD_fetchRecord_178 : decode b_MD_fetchRecord 178 = .ok (.iastore, 1) := by decide +kernel
theorem d_MD_fetchRecord_179 : decode b_MD_fetchRecord 179 = .ok (.iinc 4 1, 3) := by decide +kernel
theorem d_MD_fetchRecord_182 : decode b_MD_fetchRecord 182 = .ok (.iinc 7 1, 3) := by decide +kernel
theorem d_MD_fetchRecord_185 : decode b_MD_fetchRecord 185 = .ok (.goto (-42), 3) := by decide +kernel
theorem d_MD_fetchRecord_188 : decode b_MD_fetchRecord 188 = .ok (.aload_n 0, 1) := by decide +kernel
theorem d_MD_fetchRecord_189 : decode b_MD_fetchRecord 189 = .ok (.getfield 7, 3) := by decide +kernel
theorem d_MD_fetchRecord_192 : decode b_MD_fetchRecord 192 = .ok (.bipush 64, 2) := by decide +kernel
theorem d_MD_fetchRecord_194 : decode b_MD_fetchRecord 194 = .ok (.iload 6, 2) := by decide +kernel
theorem d_MD_fetchRecord_196 : decode b_MD_fetchRecord 196 = .ok (.imul, 1) := by decide +kernel
theorem d_MD_fetchRecord_197 : decode b_MD_fetchRecord 197 = .ok (.iaload, 1) := by decide +kernel
theorem d_MD_fetchRecord_198 : decode b_MD_fetchRecord 198 = .ok (.istore 6, 2) := by decide +kernel
theorem d_MD_fetchRecord_200 : decode b_MD_fetchRecord 200 = .ok (.goto (-69), 3) := by decide +kernel
theorem d_MD_fetchRecord_203 : decode b_MD_fetchRecord 203 = .ok (.iload 5, 2) := by decide +kernel
theorem d_MD_fetchRecord_205 : decode b_MD_fetchRecord 205 = .ok (.ireturn, 1) := by decide +kernel
noncomputable def q_MD_fetchRecord_188 (kb : (Nat → Int32) → Int32 → Int32 → Option (Int32 × Int32 × Int32 × Int32 × (Nat → Int32))) (v_now : Nat → Int32) (v_length : Int32) (v_at : Int32) (v_bad : Int32) (v_record : Nat → Int32) (x_4 : Int32) (x_5 : Int32) (x_6 : Int32) : Option (Int32 × Int32 × Int32 × Int32 × (Nat → Int32)) :=
  pu_ck (vp_in ((64 : Int32) * x_6) 1600) (pu_nm (v_now ((64 : Int32) * x_6).toNatClampNeg) (fun t10 => kb v_record x_4 t10))
noncomputable def q_MD_fetchRecord_143 (kx_188 : (Nat → Int32) → Int32 → Option (Int32 × Int32 × Int32 × Int32 × (Nat → Int32))) (v_now : Nat → Int32) (v_length : Int32) (v_at : Int32) (v_bad : Int32) (x_5 : Int32) (x_6 : Int32) : Nat → (Nat → Int32) → Int32 → Int32 → Option (Int32 × Int32 × Int32 × Int32 × (Nat → Int32))
  | 0, _, _, _ => none
  | n + 1, v_record, x_4, x_7 => pu_br ((64 : Int32) ≤ x_7) (kx_188 v_record x_4) (pu_br (v_length ≤ x_4) (kx_188 v_record x_4) (pu_ck (vp_in (((64 : Int32) * x_6) + x_7) 1600) (pu_ck (vp_in x_4 700) (pu_nm (upd v_record x_4.toNatClampNeg (v_now (((64 : Int32) * x_6) + x_7).toNatClampNeg)) (fun a11 => pu_nm (x_4 + (1 : Int32)) (fun t12 => pu_nm (x_7 + (1 : Int32)) (fun t13 => q_MD_fetchRecord_143 kx_188 v_now v_length v_at v_bad x_5 x_6 n a11 t12 t13)))))))
noncomputable def q_MD_fetchRecord_131 (v_now : Nat → Int32) (v_length : Int32) (v_at : Int32) (v_bad : Int32) (x_5 : Int32) : Nat → (Nat → Int32) → Int32 → Int32 → Option (Int32 × Int32 × Int32 × Int32 × (Nat → Int32))
  | 0, _, _, _ => none
  | n + 1, v_record, x_4, x_6 => pu_br (v_length ≤ x_4) (some (x_5, v_length, v_at, v_bad, v_record)) (q_MD_fetchRecord_143 (fun v_record x_4 => q_MD_fetchRecord_188 (q_MD_fetchRecord_131 v_now v_length v_at v_bad x_5 n) v_now v_length v_at v_bad v_record x_4 x_5 x_6) v_now v_length v_at v_bad x_5 x_6 pu_fu v_record x_4 (1 : Int32))
noncomputable def q_MD_fetchRecord_102 (v_now : Nat → Int32) (v_length : Int32) (v_at : Int32) (v_bad : Int32) (v_record : Nat → Int32) (x_4 : Int32) : Option (Int32 × Int32 × Int32 × Int32 × (Nat → Int32)) :=
  pu_br (x_4 = v_length) (some ((0 : Int32), v_length, v_at, v_bad, v_record)) (pu_ck (vp_in (v_at + (16 : Int32)) 1600) (pu_nm (v_now (v_at + (16 : Int32)).toNatClampNeg) (fun t9 => q_MD_fetchRecord_131 v_now v_length v_at v_bad t9 pu_fu v_record x_4 t9)))
noncomputable def q_MD_fetchRecord_70 (kx_102 : (Nat → Int32) → Option (Int32 × Int32 × Int32 × Int32 × (Nat → Int32))) (v_now : Nat → Int32) (v_length : Int32) (v_at : Int32) (v_bad : Int32) (x_4 : Int32) : Nat → (Nat → Int32) → Int32 → Option (Int32 × Int32 × Int32 × Int32 × (Nat → Int32))
  | 0, _, _ => none
  | n + 1, v_record, x_5 => pu_br (x_4 ≤ x_5) (kx_102 v_record) (pu_ck (vp_in (v_at + x_5) 1600) (pu_ck (vp_in x_5 700) (pu_nm (upd v_record x_5.toNatClampNeg (v_now (v_at + x_5).toNatClampNeg)) (fun a14 => pu_nm (x_5 + (1 : Int32)) (fun t15 => q_MD_fetchRecord_70 kx_102 v_now v_length v_at v_bad x_4 n a14 t15)))))
noncomputable def q_MD_fetchRecord_65 (v_now : Nat → Int32) (v_length : Int32) (v_at : Int32) (v_bad : Int32) (v_record : Nat → Int32) (s_0 : Int32) : Option (Int32 × Int32 × Int32 × Int32 × (Nat → Int32)) :=
  q_MD_fetchRecord_70 (fun v_record => q_MD_fetchRecord_102 v_now v_length v_at v_bad v_record s_0) v_now v_length v_at v_bad s_0 pu_fu v_record (0 : Int32)
noncomputable def f_MD_fetchRecord (v_now : Nat → Int32) (v_length : Int32) (v_at : Int32) (v_bad : Int32) (v_record : Nat → Int32) (x_1 : Int32) (x_2 : Int32) : Option (Int32 × Int32 × Int32 × Int32 × (Nat → Int32)) :=
  pu_b1 (f_MD_begin v_now x_1 x_2) (fun r1 => pu_nm (((64 : Int32) * x_1) + r1) (fun t2 => pu_b3 (f_MD_read 1600 v_now t2 (0 : Int32) (1600 : Int32)) (fun r3 w4 w5 => pu_b3 (f_MD_read 1600 v_now w4 w5 (1600 : Int32)) (fun r6 w7 w8 => pu_br (r3 ≤ (24 : Int32)) (q_MD_fetchRecord_65 v_now r3 w7 w8 v_record r3) (q_MD_fetchRecord_65 v_now r3 w7 w8 v_record (16 : Int32))))))
abbrev rm_MD_fetchRecord : Room := { frames := 1, cells := 0, slots := 0, locals := 25 }
set_option maxHeartbeats 8000000 in
set_option maxRecDepth 100000 in
theorem c_MD_fetchRecord (l : Launch) (D : va_G) (cI cJ cB cZ : ClassId) (sz : Nat) (q_this : Nat) (q_now : Nat) (q_disk : Nat) (q_before : Nat) (q_recordPage : Nat) (q_recordBytes : Nat) (q_isBlob : Nat) (q_integer : Nat) (q_size : Nat) (q_blobs : Nat) (q_record : Nat) (q_cellLength : Nat) (q_row : Nat) (q_cell : Nat) (q_way : Nat) (q_turn : Nat) (q_used : Nat) (v_onDisk : Int32) (v_head : Int32) (v_headPages : Int32) (v_records : Int32) (v_up : Int32) (v_armed : Int32) (v_columns : Int32) (v_length : Int32) (v_kind : Int32) (v_cells : Int32) (v_last : Int32) (v_made : Int32) (v_deep : Int32) (v_at : Int32) (v_bad : Int32) (v_now : Nat → Int32) (v_record : Nat → Int32) (x_1 : Int32) (x_2 : Int32) (o_r : Int32) (o_length : Int32) (o_at : Int32) (o_bad : Int32) (o_record : Nat → Int32) (hf : f_MD_fetchRecord v_now v_length v_at v_bad v_record x_1 x_2 = some (o_r, o_length, o_at, o_bad, o_record)) : Met l y_MD_fetchRecord (.code y_MD_fetchRecord b_MD_fetchRecord 8 (some .int) :: pu_wA) rm_MD_fetchRecord (pu_pc D pu_cl (pu_ty cI cJ cB cZ) [.ref q_this, .int x_1, .int x_2] [(q_this, .inr (8, [.ref q_now, .ref q_disk, .ref q_before, .int v_onDisk, .int v_head, .int v_headPages, .int v_records, .ref q_recordPage, .ref q_recordBytes, .int v_up, .int v_armed, .int v_columns, .ref q_isBlob, .ref q_integer, .ref q_size, .ref q_blobs, .int v_length, .ref q_record, .int v_kind, .int v_cells, .int v_last, .ref q_cellLength, .ref q_row, .int v_made, .ref q_cell, .int v_deep, .ref q_way, .ref q_turn, .int v_at, .int v_bad, .ref q_used])), (q_now, .inl (cI, 1600, .inl v_now)), (q_record, .inl (cI, 700, .inl v_record))] sz) (pu_qi D pu_cl (pu_ty cI cJ cB cZ) [(q_this, .inr (8, [.ref q_now, .ref q_disk, .ref q_before, .int v_onDisk, .int v_head, .int v_headPages, .int v_records, .ref q_recordPage, .ref q_recordBytes, .int v_up, .int v_armed, .int v_columns, .ref q_isBlob, .ref q_integer, .ref q_size, .ref q_blobs, .int v_length, .ref q_record, .int v_kind, .int v_cells, .int v_last, .ref q_cellLength, .ref q_row, .int v_made, .ref q_cell, .int v_deep, .ref q_way, .ref q_turn, .int v_at, .int v_bad, .ref q_used])), (q_now, .inl (cI, 1600, .inl v_now)), (q_record, .inl (cI, 700, .inl v_record))] [(q_this, .inr (8, [.ref q_now, .ref q_disk, .ref q_before, .int v_onDisk, .int v_head, .int v_headPages, .int v_records, .ref q_recordPage, .ref q_recordBytes, .int v_up, .int v_armed, .int v_columns, .ref q_isBlob, .ref q_integer, .ref q_size, .ref q_blobs, .int o_length, .ref q_record, .int v_kind, .int v_cells, .int v_last, .ref q_cellLength, .ref q_row, .int v_made, .ref q_cell, .int v_deep, .ref q_way, .ref q_turn, .int o_at, .int o_bad, .ref q_used])), (q_now, .inl (cI, 1600, .inl v_now)), (q_record, .inl (cI, 700, .inl o_record))] sz o_r) 0 0 (va_A [(q_this, .inr (8, [.ref q_now, .ref q_disk, .ref q_before, .int v_onDisk, .int v_head, .int v_headPages, .int v_records, .ref q_recordPage, .ref q_recordBytes, .int v_up, .int v_armed, .int v_columns, .ref q_isBlob, .ref q_integer, .ref q_size, .ref q_blobs, .int v_length, .ref q_record, .int v_kind, .int v_cells, .int v_last, .ref q_cellLength, .ref q_row, .int v_made, .ref q_cell, .int v_deep, .ref q_way, .ref q_turn, .int v_at, .int v_bad, .ref q_used])), (q_now, .inl (cI, 1600, .inl v_now)), (q_record, .inl (cI, 700, .inl v_record))] sz) := by
  refine pu_mti [.ref q_this, .int x_1, .int x_2] [(q_this, .inr (8, [.ref q_now, .ref q_disk, .ref q_before, .int v_onDisk, .int v_head, .int v_headPages, .int v_records, .ref q_recordPage, .ref q_recordBytes, .int v_up, .int v_armed, .int v_columns, .ref q_isBlob, .ref q_integer, .ref q_size, .ref q_blobs, .int v_length, .ref q_record, .int v_kind, .int v_cells, .int v_last, .ref q_cellLength, .ref q_row, .int v_made, .ref q_cell, .int v_deep, .ref q_way, .ref q_turn, .int v_at, .int v_bad, .ref q_used])), (q_now, .inl (cI, 1600, .inl v_now)), (q_record, .inl (cI, 700, .inl v_record))] [(q_this, .inr (8, [.ref q_now, .ref q_disk, .ref q_before, .int v_onDisk, .int v_head, .int v_headPages, .int v_records, .ref q_recordPage, .ref q_recordBytes, .int v_up, .int v_armed, .int v_columns, .ref q_isBlob, .ref q_integer, .ref q_size, .ref q_blobs, .int o_length, .ref q_record, .int v_kind, .int v_cells, .int v_last, .ref q_cellLength, .ref q_row, .int v_made, .ref q_cell, .int v_deep, .ref q_way, .ref q_turn, .int o_at, .int o_bad, .ref q_used])), (q_now, .inl (cI, 1600, .inl v_now)), (q_record, .inl (cI, 700, .inl o_record))] o_r (by decide) (Nat.le_of_ble_eq_true rfl) ?_
  intro p e s m args below meth c A Q ls hx hb hml hts hN hown hK hA hP hD hl hret0
  have hS : va_S A s.heap s.heap [] := va_S.rf
  have hl : lv_has ls 8 [(0, .ref q_this), (1, .int x_1), (2, .int x_2)] := hl
  have hret : ∀ (pc : Nat) (ls : Array Slot) (H : Heap) (locs : List Loc) (y_0 : Int32) (y_1 : Int32) (y_2 : Int32) (y_3 : Int32) (y_4 : Nat → Int32), decode b_MD_fetchRecord pc = .ok (.ireturn, 1) → va_P D pu_cl [(q_this, .inr (8, [.ref q_now, .ref q_disk, .ref q_before, .int v_onDisk, .int v_head, .int v_headPages, .int v_records, .ref q_recordPage, .ref q_recordBytes, .int v_up, .int v_armed, .int v_columns, .ref q_isBlob, .ref q_integer, .ref q_size, .ref q_blobs, .int y_1, .ref q_record, .int v_kind, .int v_cells, .int v_last, .ref q_cellLength, .ref q_row, .int v_made, .ref q_cell, .int v_deep, .ref q_way, .ref q_turn, .int y_2, .int y_3, .ref q_used])), (q_now, .inl (cI, 1600, .inl v_now)), (q_record, .inl (cI, 700, .inl y_4))] H → va_D A [(q_this, .inr (8, [.ref q_now, .ref q_disk, .ref q_before, .int v_onDisk, .int v_head, .int v_headPages, .int v_records, .ref q_recordPage, .ref q_recordBytes, .int v_up, .int v_armed, .int v_columns, .ref q_isBlob, .ref q_integer, .ref q_size, .ref q_blobs, .int y_1, .ref q_record, .int v_kind, .int v_cells, .int v_last, .ref q_cellLength, .ref q_row, .int v_made, .ref q_cell, .int v_deep, .ref q_way, .ref q_turn, .int y_2, .int y_3, .ref q_used])), (q_now, .inl (cI, 1600, .inl v_now)), (q_record, .inl (cI, 700, .inl y_4))] → va_S A s.heap H locs → some (y_0, y_1, y_2, y_3, y_4) = some (o_r, o_length, o_at, o_bad, o_record) → W p l e rm_MD_fetchRecord s m args below meth c H locs 0 0 Q (F0 m pc ls [.int y_0]) := by
    intro pc ls H locs y_0 y_1 y_2 y_3 y_4 hd hP hD hS hf
    cases hf
    exact hret0 pc ls H locs hd hP hD hS
  clear hret0
  unfold f_MD_fetchRecord at hf
  skip
  have lp_131 : ∀ (v_length : Int32) (v_at : Int32) (v_bad : Int32) (x_5 : Int32) (n131 : Nat) (v_record : Nat → Int32) (x_4 : Int32) (x_6 : Int32) (H : Heap) (locs : List Loc) (ls : Array Slot), va_P D pu_cl [(q_this, .inr (8, [.ref q_now, .ref q_disk, .ref q_before, .int v_onDisk, .int v_head, .int v_headPages, .int v_records, .ref q_recordPage, .ref q_recordBytes, .int v_up, .int v_armed, .int v_columns, .ref q_isBlob, .ref q_integer, .ref q_size, .ref q_blobs, .int v_length, .ref q_record, .int v_kind, .int v_cells, .int v_last, .ref q_cellLength, .ref q_row, .int v_made, .ref q_cell, .int v_deep, .ref q_way, .ref q_turn, .int v_at, .int v_bad, .ref q_used])), (q_now, .inl (cI, 1600, .inl v_now)), (q_record, .inl (cI, 700, .inl v_record))] H → va_D A [(q_this, .inr (8, [.ref q_now, .ref q_disk, .ref q_before, .int v_onDisk, .int v_head, .int v_headPages, .int v_records, .ref q_recordPage, .ref q_recordBytes, .int v_up, .int v_armed, .int v_columns, .ref q_isBlob, .ref q_integer, .ref q_size, .ref q_blobs, .int v_length, .ref q_record, .int v_kind, .int v_cells, .int v_last, .ref q_cellLength, .ref q_row, .int v_made, .ref q_cell, .int v_deep, .ref q_way, .ref q_turn, .int v_at, .int v_bad, .ref q_used])), (q_now, .inl (cI, 1600, .inl v_now)), (q_record, .inl (cI, 700, .inl v_record))] → va_S A s.heap H locs → lv_has ls 8 [(0, .ref q_this), (4, .int x_4), (5, .int x_5), (6, .int x_6)] → q_MD_fetchRecord_131 v_now v_length v_at v_bad x_5 n131 v_record x_4 x_6 = some (o_r, o_length, o_at, o_bad, o_record) → W p l e rm_MD_fetchRecord s m args below meth c H locs 0 0 Q (F0 m 131 ls []) := by
    intro v_length v_at v_bad x_5 n131
    induction n131 with
    | zero =>
      intro v_record x_4 x_6 H locs ls hP hD hS hl hf
      rw [q_MD_fetchRecord_131] at hf
      cases hf
    | succ n131 ih_131 =>
      have lb_188 : ∀ (v_record : Nat → Int32) (x_4 : Int32) (x_6 : Int32) (H : Heap) (locs : List Loc) (ls : Array Slot), va_P D pu_cl [(q_this, .inr (8, [.ref q_now, .ref q_disk, .ref q_before, .int v_onDisk, .int v_head, .int v_headPages, .int v_records, .ref q_recordPage, .ref q_recordBytes, .int v_up, .int v_armed, .int v_columns, .ref q_isBlob, .ref q_integer, .ref q_size, .ref q_blobs, .int v_length, .ref q_record, .int v_kind, .int v_cells, .int v_last, .ref q_cellLength, .ref q_row, .int v_made, .ref q_cell, .int v_deep, .ref q_way, .ref q_turn, .int v_at, .int v_bad, .ref q_used])), (q_now, .inl (cI, 1600, .inl v_now)), (q_record, .inl (cI, 700, .inl v_record))] H → va_D A [(q_this, .inr (8, [.ref q_now, .ref q_disk, .ref q_before, .int v_onDisk, .int v_head, .int v_headPages, .int v_records, .ref q_recordPage, .ref q_recordBytes, .int v_up, .int v_armed, .int v_columns, .ref q_isBlob, .ref q_integer, .ref q_size, .ref q_blobs, .int v_length, .ref q_record, .int v_kind, .int v_cells, .int v_last, .ref q_cellLength, .ref q_row, .int v_made, .ref q_cell, .int v_deep, .ref q_way, .ref q_turn, .int v_at, .int v_bad, .ref q_used])), (q_now, .inl (cI, 1600, .inl v_now)), (q_record, .inl (cI, 700, .inl v_record))] → va_S A s.heap H locs → lv_has ls 8 [(0, .ref q_this), (4, .int x_4), (5, .int x_5), (6, .int x_6)] → q_MD_fetchRecord_188 (q_MD_fetchRecord_131 v_now v_length v_at v_bad x_5 n131) v_now v_length v_at v_bad v_record x_4 x_5 x_6 = some (o_r, o_length, o_at, o_bad, o_record) → W p l e rm_MD_fetchRecord s m args below meth c H locs 0 0 Q (F0 m 188 ls []) := by
        intro v_record x_4 x_6 H locs ls hP hD hS hl hf
        rw [q_MD_fetchRecord_188] at hf
        refine lv_aload_n hx hb d_MD_fetchRecord_188 rfl (lv_at hl 0 rfl) ?_
        refine gf_MD_7 (v := .ref q_now) hx hb hts hN hown hK hP 0 rfl rfl d_MD_fetchRecord_189 ?_
        refine lv_bipush (v := 64) hx hb d_MD_fetchRecord_192 rfl ?_
        refine lv_iload hx hb d_MD_fetchRecord_194 (lv_at hl 3 rfl) ?_
        refine lv_imul hx hb d_MD_fetchRecord_196 ?_
        obtain ⟨hin, hf⟩ := pu_ck_some hf
        refine va_iald hx hb hK hP 1 0 rfl rfl hin d_MD_fetchRecord_197 ?_
        obtain ⟨t10, e_t10, hf⟩ := pu_nm_some hf
        refine pu_ti e_t10 ?_
        refine lv_istore hx hb d_MD_fetchRecord_198 hl (by decide) rfl (fun ls hl => ?_)
        have hl : lv_has ls 8 [(6, .int t10), (0, .ref q_this), (4, .int x_4), (5, .int x_5)] := hl
        refine lv_goto (tgt := 131) hx hb d_MD_fetchRecord_200 rfl ?_
        exact ih_131 v_record x_4 t10 H locs ls hP hD hS (lv_sub hl [1, 2, 3, 0] rfl) hf
      have lp_143 : ∀ (x_6 : Int32) (n143 : Nat) (v_record : Nat → Int32) (x_4 : Int32) (x_7 : Int32) (H : Heap) (locs : List Loc) (ls : Array Slot), va_P D pu_cl [(q_this, .inr (8, [.ref q_now, .ref q_disk, .ref q_before, .int v_onDisk, .int v_head, .int v_headPages, .int v_records, .ref q_recordPage, .ref q_recordBytes, .int v_up, .int v_armed, .int v_columns, .ref q_isBlob, .ref q_integer, .ref q_size, .ref q_blobs, .int v_length, .ref q_record, .int v_kind, .int v_cells, .int v_last, .ref q_cellLength, .ref q_row, .int v_made, .ref q_cell, .int v_deep, .ref q_way, .ref q_turn, .int v_at, .int v_bad, .ref q_used])), (q_now, .inl (cI, 1600, .inl v_now)), (q_record, .inl (cI, 700, .inl v_record))] H → va_D A [(q_this, .inr (8, [.ref q_now, .ref q_disk, .ref q_before, .int v_onDisk, .int v_head, .int v_headPages, .int v_records, .ref q_recordPage, .ref q_recordBytes, .int v_up, .int v_armed, .int v_columns, .ref q_isBlob, .ref q_integer, .ref q_size, .ref q_blobs, .int v_length, .ref q_record, .int v_kind, .int v_cells, .int v_last, .ref q_cellLength, .ref q_row, .int v_made, .ref q_cell, .int v_deep, .ref q_way, .ref q_turn, .int v_at, .int v_bad, .ref q_used])), (q_now, .inl (cI, 1600, .inl v_now)), (q_record, .inl (cI, 700, .inl v_record))] → va_S A s.heap H locs → lv_has ls 8 [(0, .ref q_this), (4, .int x_4), (5, .int x_5), (6, .int x_6), (7, .int x_7)] → q_MD_fetchRecord_143 (fun v_record x_4 => q_MD_fetchRecord_188 (q_MD_fetchRecord_131 v_now v_length v_at v_bad x_5 n131) v_now v_length v_at v_bad v_record x_4 x_5 x_6) v_now v_length v_at v_bad x_5 x_6 n143 v_record x_4 x_7 = some (o_r, o_length, o_at, o_bad, o_record) → W p l e rm_MD_fetchRecord s m args below meth c H locs 0 0 Q (F0 m 143 ls []) := by
        intro x_6 n143
        induction n143 with
        | zero =>
          intro v_record x_4 x_7 H locs ls hP hD hS hl hf
          rw [q_MD_fetchRecord_143] at hf
          cases hf
        | succ n143 ih_143 =>
          intro v_record x_4 x_7 H locs ls hP hD hS hl hf
          rw [q_MD_fetchRecord_143] at hf
          refine lv_iload hx hb d_MD_fetchRecord_143 (lv_at hl 4 rfl) ?_
          refine lv_bipush (v := 64) hx hb d_MD_fetchRecord_145 rfl ?_
          refine lv_icmp_ge (tgt := 188) hx hb d_MD_fetchRecord_147 rfl (fun hc => ?_) (fun hc => ?_)
          · have hf := pu_br_pos hf hc
            exact lb_188 v_record x_4 x_6 H locs ls hP hD hS (lv_sub hl [0, 1, 2, 3] rfl) hf
          have hf := pu_br_neg hf hc
          refine lv_iload hx hb d_MD_fetchRecord_150 (lv_at hl 1 rfl) ?_
          refine lv_aload_n hx hb d_MD_fetchRecord_152 rfl (lv_at hl 0 rfl) ?_
          refine gf_MD_91 (v := .int v_length) hx hb hts hN hown hK hP 0 rfl rfl d_MD_fetchRecord_153 ?_
          refine lv_icmp_ge (tgt := 188) hx hb d_MD_fetchRecord_156 rfl (fun hc => ?_) (fun hc => ?_)
          · have hf := pu_br_pos hf hc
            exact lb_188 v_record x_4 x_6 H locs ls hP hD hS (lv_sub hl [0, 1, 2, 3] rfl) hf
          have hf := pu_br_neg hf hc
          refine lv_aload_n hx hb d_MD_fetchRecord_159 rfl (lv_at hl 0 rfl) ?_
          refine gf_MD_50 (v := .ref q_record) hx hb hts hN hown hK hP 0 rfl rfl d_MD_fetchRecord_160 ?_
          refine lv_iload hx hb d_MD_fetchRecord_163 (lv_at hl 1 rfl) ?_
          refine lv_aload_n hx hb d_MD_fetchRecord_165 rfl (lv_at hl 0 rfl) ?_
          refine gf_MD_7 (v := .ref q_now) hx hb hts hN hown hK hP 0 rfl rfl d_MD_fetchRecord_166 ?_
          refine lv_bipush (v := 64) hx hb d_MD_fetchRecord_169 rfl ?_
          refine lv_iload hx hb d_MD_fetchRecord_171 (lv_at hl 3 rfl) ?_
          refine lv_imul hx hb d_MD_fetchRecord_173 ?_
          refine lv_iload hx hb d_MD_fetchRecord_174 (lv_at hl 4 rfl) ?_
          refine lv_iadd hx hb d_MD_fetchRecord_176 ?_
          obtain ⟨hin, hf⟩ := pu_ck_some hf
          refine va_iald hx hb hK hP 1 0 rfl rfl hin d_MD_fetchRecord_177 ?_
          obtain ⟨hin, hf⟩ := pu_ck_some hf
          obtain ⟨a11, e_a11, hf⟩ := pu_nm_some hf
          refine va_iast hx hb hK hP hD hS 2 0 rfl rfl hin d_MD_fetchRecord_178 (fun H locs hP hD hS => ?_)
          have hP : va_P D pu_cl [(q_this, .inr (8, [.ref q_now, .ref q_disk, .ref q_before, .int v_onDisk, .int v_head, .int v_headPages, .int v_records, .ref q_recordPage, .ref q_recordBytes, .int v_up, .int v_armed, .int v_columns, .ref q_isBlob, .ref q_integer, .ref q_size, .ref q_blobs, .int v_length, .ref q_record, .int v_kind, .int v_cells, .int v_last, .ref q_cellLength, .ref q_row, .int v_made, .ref q_cell, .int v_deep, .ref q_way, .ref q_turn, .int v_at, .int v_bad, .ref q_used])), (q_now, .inl (cI, 1600, .inl v_now)), (q_record, .inl (cI, 700, .inl a11))] H := by rw [e_a11]; exact hP
          have hD : va_D A [(q_this, .inr (8, [.ref q_now, .ref q_disk, .ref q_before, .int v_onDisk, .int v_head, .int v_headPages, .int v_records, .ref q_recordPage, .ref q_recordBytes, .int v_up, .int v_armed, .int v_columns, .ref q_isBlob, .ref q_integer, .ref q_size, .ref q_blobs, .int v_length, .ref q_record, .int v_kind, .int v_cells, .int v_last, .ref q_cellLength, .ref q_row, .int v_made, .ref q_cell, .int v_deep, .ref q_way, .ref q_turn, .int v_at, .int v_bad, .ref q_used])), (q_now, .inl (cI, 1600, .inl v_now)), (q_record, .inl (cI, 700, .inl a11))] := by rw [e_a11]; exact hD
          obtain ⟨t12, e_t12, hf⟩ := pu_nm_some hf
          refine lv_iinc (k := 1) (v := t12) hx hb d_MD_fetchRecord_179 hl rfl e_t12.symm (by decide) rfl (fun ls hl => ?_)
          have hl : lv_has ls 8 [(4, .int t12), (0, .ref q_this), (5, .int x_5), (6, .int x_6), (7, .int x_7)] := hl
          obtain ⟨t13, e_t13, hf⟩ := pu_nm_some hf
          refine lv_iinc (k := 4) (v := t13) hx hb d_MD_fetchRecord_182 hl rfl e_t13.symm (by decide) rfl (fun ls hl => ?_)
          have hl : lv_has ls 8 [(7, .int t13), (4, .int t12), (0, .ref q_this), (5, .int x_5), (6, .int x_6)] := hl
          refine lv_goto (tgt := 143) hx hb d_MD_fetchRecord_185 rfl ?_
          exact ih_143 a11 t12 t13 H locs ls hP hD hS (lv_sub hl [2, 1, 3, 4, 0] rfl) hf
      intro v_record x_4 x_6 H locs ls hP hD hS hl hf
      rw [q_MD_fetchRecord_131] at hf
      refine lv_iload hx hb d_MD_fetchRecord_131 (lv_at hl 1 rfl) ?_
      refine lv_aload_n hx hb d_MD_fetchRecord_133 rfl (lv_at hl 0 rfl) ?_
      refine gf_MD_91 (v := .int v_length) hx hb hts hN hown hK hP 0 rfl rfl d_MD_fetchRecord_134 ?_
      refine lv_icmp_ge (tgt := 203) hx hb d_MD_fetchRecord_137 rfl (fun hc => ?_) (fun hc => ?_)
      · have hf := pu_br_pos hf hc
        refine lv_iload hx hb d_MD_fetchRecord_203 (lv_at hl 2 rfl) ?_
        exact hret _ _ _ _ x_5 v_length v_at v_bad v_record d_MD_fetchRecord_205 hP hD hS hf
      have hf := pu_br_neg hf hc
      refine lv_iconst (v := 1) hx hb d_MD_fetchRecord_140 rfl ?_
      refine lv_istore hx hb d_MD_fetchRecord_141 hl (by decide) rfl (fun ls hl => ?_)
      have hl : lv_has ls 8 [(7, .int (1 : Int32)), (0, .ref q_this), (4, .int x_4), (5, .int x_5), (6, .int x_6)] := hl
      exact lp_143 x_6 _ v_record x_4 (1 : Int32) H locs ls hP hD hS (lv_sub hl [1, 2, 3, 4, 0] rfl) hf
  have lb_102 : ∀ (v_length : Int32) (v_at : Int32) (v_bad : Int32) (v_record : Nat → Int32) (x_4 : Int32) (H : Heap) (locs : List Loc) (ls : Array Slot), va_P D pu_cl [(q_this, .inr (8, [.ref q_now, .ref q_disk, .ref q_before, .int v_onDisk, .int v_head, .int v_headPages, .int v_records, .ref q_recordPage, .ref q_recordBytes, .int v_up, .int v_armed, .int v_columns, .ref q_isBlob, .ref q_integer, .ref q_size, .ref q_blobs, .int v_length, .ref q_record, .int v_kind, .int v_cells, .int v_last, .ref q_cellLength, .ref q_row, .int v_made, .ref q_cell, .int v_deep, .ref q_way, .ref q_turn, .int v_at, .int v_bad, .ref q_used])), (q_now, .inl (cI, 1600, .inl v_now)), (q_record, .inl (cI, 700, .inl v_record))] H → va_D A [(q_this, .inr (8, [.ref q_now, .ref q_disk, .ref q_before, .int v_onDisk, .int v_head, .int v_headPages, .int v_records, .ref q_recordPage, .ref q_recordBytes, .int v_up, .int v_armed, .int v_columns, .ref q_isBlob, .ref q_integer, .ref q_size, .ref q_blobs, .int v_length, .ref q_record, .int v_kind, .int v_cells, .int v_last, .ref q_cellLength, .ref q_row, .int v_made, .ref q_cell, .int v_deep, .ref q_way, .ref q_turn, .int v_at, .int v_bad, .ref q_used])), (q_now, .inl (cI, 1600, .inl v_now)), (q_record, .inl (cI, 700, .inl v_record))] → va_S A s.heap H locs → lv_has ls 8 [(0, .ref q_this), (4, .int x_4)] → q_MD_fetchRecord_102 v_now v_length v_at v_bad v_record x_4 = some (o_r, o_length, o_at, o_bad, o_record) → W p l e rm_MD_fetchRecord s m args below meth c H locs 0 0 Q (F0 m 102 ls []) := by
    intro v_length v_at v_bad v_record x_4 H locs ls hP hD hS hl hf
    rw [q_MD_fetchRecord_102] at hf
    refine lv_iload hx hb d_MD_fetchRecord_102 (lv_at hl 1 rfl) ?_
    refine lv_aload_n hx hb d_MD_fetchRecord_104 rfl (lv_at hl 0 rfl) ?_
    refine gf_MD_91 (v := .int v_length) hx hb hts hN hown hK hP 0 rfl rfl d_MD_fetchRecord_105 ?_
    refine lv_icmp_ne (tgt := 113) hx hb d_MD_fetchRecord_108 rfl (fun hc => ?_) (fun hc => ?_)
    · have hf := pu_br_neg hf hc
      refine lv_aload_n hx hb d_MD_fetchRecord_113 rfl (lv_at hl 0 rfl) ?_
      refine gf_MD_7 (v := .ref q_now) hx hb hts hN hown hK hP 0 rfl rfl d_MD_fetchRecord_114 ?_
      refine lv_aload_n hx hb d_MD_fetchRecord_117 rfl (lv_at hl 0 rfl) ?_
      refine gf_MD_132 (v := .int v_at) hx hb hts hN hown hK hP 0 rfl rfl d_MD_fetchRecord_118 ?_
      refine lv_bipush (v := 16) hx hb d_MD_fetchRecord_121 rfl ?_
      refine lv_iadd hx hb d_MD_fetchRecord_123 ?_
      obtain ⟨hin, hf⟩ := pu_ck_some hf
      refine va_iald hx hb hK hP 1 0 rfl rfl hin d_MD_fetchRecord_124 ?_
      obtain ⟨t9, e_t9, hf⟩ := pu_nm_some hf
      refine pu_ti e_t9 ?_
      refine lv_istore hx hb d_MD_fetchRecord_125 hl (by decide) rfl (fun ls hl => ?_)
      have hl : lv_has ls 8 [(5, .int t9), (0, .ref q_this), (4, .int x_4)] := hl
      refine lv_iload hx hb d_MD_fetchRecord_127 (lv_at hl 0 rfl) ?_
      refine lv_istore hx hb d_MD_fetchRecord_129 hl (by decide) rfl (fun ls hl => ?_)
      have hl : lv_has ls 8 [(6, .int t9), (5, .int t9), (0, .ref q_this), (4, .int x_4)] := hl
      exact lp_131 v_length v_at v_bad t9 _ v_record x_4 t9 H locs ls hP hD hS (lv_sub hl [2, 3, 1, 0] rfl) hf
    have hf := pu_br_pos hf hc
    refine lv_iconst (v := 0) hx hb d_MD_fetchRecord_111 rfl ?_
    exact hret _ _ _ _ (0 : Int32) v_length v_at v_bad v_record d_MD_fetchRecord_112 hP hD hS hf
  have lp_70 : ∀ (v_length : Int32) (v_at : Int32) (v_bad : Int32) (x_4 : Int32) (n70 : Nat) (v_record : Nat → Int32) (x_5 : Int32) (H : Heap) (locs : List Loc) (ls : Array Slot), va_P D pu_cl [(q_this, .inr (8, [.ref q_now, .ref q_disk, .ref q_before, .int v_onDisk, .int v_head, .int v_headPages, .int v_records, .ref q_recordPage, .ref q_recordBytes, .int v_up, .int v_armed, .int v_columns, .ref q_isBlob, .ref q_integer, .ref q_size, .ref q_blobs, .int v_length, .ref q_record, .int v_kind, .int v_cells, .int v_last, .ref q_cellLength, .ref q_row, .int v_made, .ref q_cell, .int v_deep, .ref q_way, .ref q_turn, .int v_at, .int v_bad, .ref q_used])), (q_now, .inl (cI, 1600, .inl v_now)), (q_record, .inl (cI, 700, .inl v_record))] H → va_D A [(q_this, .inr (8, [.ref q_now, .ref q_disk, .ref q_before, .int v_onDisk, .int v_head, .int v_headPages, .int v_records, .ref q_recordPage, .ref q_recordBytes, .int v_up, .int v_armed, .int v_columns, .ref q_isBlob, .ref q_integer, .ref q_size, .ref q_blobs, .int v_length, .ref q_record, .int v_kind, .int v_cells, .int v_last, .ref q_cellLength, .ref q_row, .int v_made, .ref q_cell, .int v_deep, .ref q_way, .ref q_turn, .int v_at, .int v_bad, .ref q_used])), (q_now, .inl (cI, 1600, .inl v_now)), (q_record, .inl (cI, 700, .inl v_record))] → va_S A s.heap H locs → lv_has ls 8 [(0, .ref q_this), (4, .int x_4), (5, .int x_5)] → q_MD_fetchRecord_70 (fun v_record => q_MD_fetchRecord_102 v_now v_length v_at v_bad v_record x_4) v_now v_length v_at v_bad x_4 n70 v_record x_5 = some (o_r, o_length, o_at, o_bad, o_record) → W p l e rm_MD_fetchRecord s m args below meth c H locs 0 0 Q (F0 m 70 ls []) := by
    intro v_length v_at v_bad x_4 n70
    induction n70 with
    | zero =>
      intro v_record x_5 H locs ls hP hD hS hl hf
      rw [q_MD_fetchRecord_70] at hf
      cases hf
    | succ n70 ih_70 =>
      intro v_record x_5 H locs ls hP hD hS hl hf
      rw [q_MD_fetchRecord_70] at hf
      refine lv_iload hx hb d_MD_fetchRecord_70 (lv_at hl 2 rfl) ?_
      refine lv_iload hx hb d_MD_fetchRecord_72 (lv_at hl 1 rfl) ?_
      refine lv_icmp_ge (tgt := 102) hx hb d_MD_fetchRecord_74 rfl (fun hc => ?_) (fun hc => ?_)
      · have hf := pu_br_pos hf hc
        exact lb_102 v_length v_at v_bad v_record x_4 H locs ls hP hD hS (lv_sub hl [0, 1] rfl) hf
      have hf := pu_br_neg hf hc
      refine lv_aload_n hx hb d_MD_fetchRecord_77 rfl (lv_at hl 0 rfl) ?_
      refine gf_MD_50 (v := .ref q_record) hx hb hts hN hown hK hP 0 rfl rfl d_MD_fetchRecord_78 ?_
      refine lv_iload hx hb d_MD_fetchRecord_81 (lv_at hl 2 rfl) ?_
      refine lv_aload_n hx hb d_MD_fetchRecord_83 rfl (lv_at hl 0 rfl) ?_
      refine gf_MD_7 (v := .ref q_now) hx hb hts hN hown hK hP 0 rfl rfl d_MD_fetchRecord_84 ?_
      refine lv_aload_n hx hb d_MD_fetchRecord_87 rfl (lv_at hl 0 rfl) ?_
      refine gf_MD_132 (v := .int v_at) hx hb hts hN hown hK hP 0 rfl rfl d_MD_fetchRecord_88 ?_
      refine lv_iload hx hb d_MD_fetchRecord_91 (lv_at hl 2 rfl) ?_
      refine lv_iadd hx hb d_MD_fetchRecord_93 ?_
      obtain ⟨hin, hf⟩ := pu_ck_some hf
      refine va_iald hx hb hK hP 1 0 rfl rfl hin d_MD_fetchRecord_94 ?_
      obtain ⟨hin, hf⟩ := pu_ck_some hf
      obtain ⟨a14, e_a14, hf⟩ := pu_nm_some hf
      refine va_iast hx hb hK hP hD hS 2 0 rfl rfl hin d_MD_fetchRecord_95 (fun H locs hP hD hS => ?_)
      have hP : va_P D pu_cl [(q_this, .inr (8, [.ref q_now, .ref q_disk, .ref q_before, .int v_onDisk, .int v_head, .int v_headPages, .int v_records, .ref q_recordPage, .ref q_recordBytes, .int v_up, .int v_armed, .int v_columns, .ref q_isBlob, .ref q_integer, .ref q_size, .ref q_blobs, .int v_length, .ref q_record, .int v_kind, .int v_cells, .int v_last, .ref q_cellLength, .ref q_row, .int v_made, .ref q_cell, .int v_deep, .ref q_way, .ref q_turn, .int v_at, .int v_bad, .ref q_used])), (q_now, .inl (cI, 1600, .inl v_now)), (q_record, .inl (cI, 700, .inl a14))] H := by rw [e_a14]; exact hP
      have hD : va_D A [(q_this, .inr (8, [.ref q_now, .ref q_disk, .ref q_before, .int v_onDisk, .int v_head, .int v_headPages, .int v_records, .ref q_recordPage, .ref q_recordBytes, .int v_up, .int v_armed, .int v_columns, .ref q_isBlob, .ref q_integer, .ref q_size, .ref q_blobs, .int v_length, .ref q_record, .int v_kind, .int v_cells, .int v_last, .ref q_cellLength, .ref q_row, .int v_made, .ref q_cell, .int v_deep, .ref q_way, .ref q_turn, .int v_at, .int v_bad, .ref q_used])), (q_now, .inl (cI, 1600, .inl v_now)), (q_record, .inl (cI, 700, .inl a14))] := by rw [e_a14]; exact hD
      obtain ⟨t15, e_t15, hf⟩ := pu_nm_some hf
      refine lv_iinc (k := 2) (v := t15) hx hb d_MD_fetchRecord_96 hl rfl e_t15.symm (by decide) rfl (fun ls hl => ?_)
      have hl : lv_has ls 8 [(5, .int t15), (0, .ref q_this), (4, .int x_4)] := hl
      refine lv_goto (tgt := 70) hx hb d_MD_fetchRecord_99 rfl ?_
      exact ih_70 a14 t15 H locs ls hP hD hS (lv_sub hl [1, 2, 0] rfl) hf
  have lb_65 : ∀ (v_length : Int32) (v_at : Int32) (v_bad : Int32) (v_record : Nat → Int32) (s_0 : Int32) (H : Heap) (locs : List Loc) (ls : Array Slot), va_P D pu_cl [(q_this, .inr (8, [.ref q_now, .ref q_disk, .ref q_before, .int v_onDisk, .int v_head, .int v_headPages, .int v_records, .ref q_recordPage, .ref q_recordBytes, .int v_up, .int v_armed, .int v_columns, .ref q_isBlob, .ref q_integer, .ref q_size, .ref q_blobs, .int v_length, .ref q_record, .int v_kind, .int v_cells, .int v_last, .ref q_cellLength, .ref q_row, .int v_made, .ref q_cell, .int v_deep, .ref q_way, .ref q_turn, .int v_at, .int v_bad, .ref q_used])), (q_now, .inl (cI, 1600, .inl v_now)), (q_record, .inl (cI, 700, .inl v_record))] H → va_D A [(q_this, .inr (8, [.ref q_now, .ref q_disk, .ref q_before, .int v_onDisk, .int v_head, .int v_headPages, .int v_records, .ref q_recordPage, .ref q_recordBytes, .int v_up, .int v_armed, .int v_columns, .ref q_isBlob, .ref q_integer, .ref q_size, .ref q_blobs, .int v_length, .ref q_record, .int v_kind, .int v_cells, .int v_last, .ref q_cellLength, .ref q_row, .int v_made, .ref q_cell, .int v_deep, .ref q_way, .ref q_turn, .int v_at, .int v_bad, .ref q_used])), (q_now, .inl (cI, 1600, .inl v_now)), (q_record, .inl (cI, 700, .inl v_record))] → va_S A s.heap H locs → lv_has ls 8 [(0, .ref q_this)] → q_MD_fetchRecord_65 v_now v_length v_at v_bad v_record s_0 = some (o_r, o_length, o_at, o_bad, o_record) → W p l e rm_MD_fetchRecord s m args below meth c H locs 0 0 Q (F0 m 65 ls [.int s_0]) := by
    intro v_length v_at v_bad v_record s_0 H locs ls hP hD hS hl hf
    rw [q_MD_fetchRecord_65] at hf
    refine lv_istore hx hb d_MD_fetchRecord_65 hl (by decide) rfl (fun ls hl => ?_)
    have hl : lv_has ls 8 [(4, .int s_0), (0, .ref q_this)] := hl
    refine lv_iconst (v := 0) hx hb d_MD_fetchRecord_67 rfl ?_
    refine lv_istore hx hb d_MD_fetchRecord_68 hl (by decide) rfl (fun ls hl => ?_)
    have hl : lv_has ls 8 [(5, .int (0 : Int32)), (4, .int s_0), (0, .ref q_this)] := hl
    exact lp_70 v_length v_at v_bad s_0 _ v_record (0 : Int32) H locs ls hP hD hS (lv_sub hl [2, 1, 0] rfl) hf
  obtain ⟨H, hH⟩ : ∃ H, H = s.heap := ⟨_, rfl⟩
  obtain ⟨locs, hlocs⟩ : ∃ locs : List Loc, locs = [] := ⟨_, rfl⟩
  have hP : va_P D pu_cl [(q_this, .inr (8, [.ref q_now, .ref q_disk, .ref q_before, .int v_onDisk, .int v_head, .int v_headPages, .int v_records, .ref q_recordPage, .ref q_recordBytes, .int v_up, .int v_armed, .int v_columns, .ref q_isBlob, .ref q_integer, .ref q_size, .ref q_blobs, .int v_length, .ref q_record, .int v_kind, .int v_cells, .int v_last, .ref q_cellLength, .ref q_row, .int v_made, .ref q_cell, .int v_deep, .ref q_way, .ref q_turn, .int v_at, .int v_bad, .ref q_used])), (q_now, .inl (cI, 1600, .inl v_now)), (q_record, .inl (cI, 700, .inl v_record))] H := by rw [hH]; exact hP
  have hS : va_S A s.heap H locs := by rw [hH, hlocs]; exact hS
  have goal : W p l e rm_MD_fetchRecord s m args below meth c H locs 0 0 Q (F0 m 0 ls []) := by
    clear hH hlocs
    refine lv_aload_n hx hb d_MD_fetchRecord_0 rfl (lv_at hl 0 rfl) ?_
    refine lv_bipush (v := 64) hx hb d_MD_fetchRecord_1 rfl ?_
    refine lv_iload_n hx hb d_MD_fetchRecord_3 rfl (lv_at hl 1 rfl) ?_
    refine lv_imul hx hb d_MD_fetchRecord_4 ?_
    refine lv_aload_n hx hb d_MD_fetchRecord_5 rfl (lv_at hl 0 rfl) ?_
    refine lv_iload_n hx hb d_MD_fetchRecord_6 rfl (lv_at hl 1 rfl) ?_
    refine lv_iload_n hx hb d_MD_fetchRecord_7 rfl (lv_at hl 2 rfl) ?_
    obtain ⟨r1, hc, hf⟩ := pu_b1_some hf
    refine cl_i (WC := [(q_this, .inr (8, [.ref q_now, .ref q_disk, .ref q_before, .int v_onDisk, .int v_head, .int v_headPages, .int v_records, .ref q_recordPage, .ref q_recordBytes, .int v_up, .int v_armed, .int v_columns, .ref q_isBlob, .ref q_integer, .ref q_size, .ref q_blobs, .int v_length, .ref q_record, .int v_kind, .int v_cells, .int v_last, .ref q_cellLength, .ref q_row, .int v_made, .ref q_cell, .int v_deep, .ref q_way, .ref q_turn, .int v_at, .int v_bad, .ref q_used])), (q_now, .inl (cI, 1600, .inl v_now))]) (WC2 := [(q_this, .inr (8, [.ref q_now, .ref q_disk, .ref q_before, .int v_onDisk, .int v_head, .int v_headPages, .int v_records, .ref q_recordPage, .ref q_recordBytes, .int v_up, .int v_armed, .int v_columns, .ref q_isBlob, .ref q_integer, .ref q_size, .ref q_blobs, .int v_length, .ref q_record, .int v_kind, .int v_cells, .int v_last, .ref q_cellLength, .ref q_row, .int v_made, .ref q_cell, .int v_deep, .ref q_way, .ref q_turn, .int v_at, .int v_bad, .ref q_used])), (q_now, .inl (cI, 1600, .inl v_now))]) (WR := [(q_record, .inl (cI, 700, .inl v_record))]) (WS2 := [(q_this, .inr (8, [.ref q_now, .ref q_disk, .ref q_before, .int v_onDisk, .int v_head, .int v_headPages, .int v_records, .ref q_recordPage, .ref q_recordBytes, .int v_up, .int v_armed, .int v_columns, .ref q_isBlob, .ref q_integer, .ref q_size, .ref q_blobs, .int v_length, .ref q_record, .int v_kind, .int v_cells, .int v_last, .ref q_cellLength, .ref q_row, .int v_made, .ref q_cell, .int v_deep, .ref q_way, .ref q_turn, .int v_at, .int v_bad, .ref q_used])), (q_now, .inl (cI, 1600, .inl v_now)), (q_record, .inl (cI, 700, .inl v_record))]) (pu_rv (cl := pu_cl) (pu_in10 _ (List.mem_of_getElem? (i := 54) rfl)) (pu_in10 _ (List.mem_of_getElem? (i := 55) rfl)) (pu_in14 _ (List.mem_of_getElem? (i := 15) rfl)) (pu_in0 _ (List.mem_of_getElem? (i := 10) rfl)) (pu_in10 _ (List.mem_of_getElem? (i := 56) rfl)) (ci := 8) rfl hd_MD_begin (by decide) ⟨rfl, rfl⟩ rfl rfl (Nat.le_of_ble_eq_true rfl) rfl (As := [.int x_1, .int x_2]) (rest := [.int ((64 : Int32) * x_1), .ref q_this]) (WC := [(q_this, .inr (8, [.ref q_now, .ref q_disk, .ref q_before, .int v_onDisk, .int v_head, .int v_headPages, .int v_records, .ref q_recordPage, .ref q_recordBytes, .int v_up, .int v_armed, .int v_columns, .ref q_isBlob, .ref q_integer, .ref q_size, .ref q_blobs, .int v_length, .ref q_record, .int v_kind, .int v_cells, .int v_last, .ref q_cellLength, .ref q_row, .int v_made, .ref q_cell, .int v_deep, .ref q_way, .ref q_turn, .int v_at, .int v_bad, .ref q_used])), (q_now, .inl (cI, 1600, .inl v_now))]) hx hb hml hown hts hN hK hP hD (c_MD_begin l D cI cJ cB cZ H.size q_this q_now q_disk q_before q_recordPage q_recordBytes q_isBlob q_integer q_size q_blobs q_record q_cellLength q_row q_cell q_way q_turn q_used v_onDisk v_head v_headPages v_records v_up v_armed v_columns v_length v_kind v_cells v_last v_made v_deep v_at v_bad v_now x_1 x_2 r1 hc) [0, 1] rfl rfl hl.1 d_MD_fetchRecord_8) hP hD hS hA [0, 1] [2] [1, 2, 0] rfl rfl rfl (by decide) rfl rfl (fun H locs hP hD hS => ?_)
    refine lv_iadd hx hb d_MD_fetchRecord_11 ?_
    obtain ⟨t2, e_t2, hf⟩ := pu_nm_some hf
    refine pu_ti e_t2 ?_
    refine pf_MD_132 (v := .int t2) hx hb hts hN hown hK hP hD hS 0 rfl rfl rfl (Nat.le_of_ble_eq_true rfl) d_MD_fetchRecord_12 (fun H locs hP hD hS => ?_)
    have hP : va_P D pu_cl [(q_this, .inr (8, [.ref q_now, .ref q_disk, .ref q_before, .int v_onDisk, .int v_head, .int v_headPages, .int v_records, .ref q_recordPage, .ref q_recordBytes, .int v_up, .int v_armed, .int v_columns, .ref q_isBlob, .ref q_integer, .ref q_size, .ref q_blobs, .int v_length, .ref q_record, .int v_kind, .int v_cells, .int v_last, .ref q_cellLength, .ref q_row, .int v_made, .ref q_cell, .int v_deep, .ref q_way, .ref q_turn, .int t2, .int v_bad, .ref q_used])), (q_now, .inl (cI, 1600, .inl v_now)), (q_record, .inl (cI, 700, .inl v_record))] H := hP
    have hD : va_D A [(q_this, .inr (8, [.ref q_now, .ref q_disk, .ref q_before, .int v_onDisk, .int v_head, .int v_headPages, .int v_records, .ref q_recordPage, .ref q_recordBytes, .int v_up, .int v_armed, .int v_columns, .ref q_isBlob, .ref q_integer, .ref q_size, .ref q_blobs, .int v_length, .ref q_record, .int v_kind, .int v_cells, .int v_last, .ref q_cellLength, .ref q_row, .int v_made, .ref q_cell, .int v_deep, .ref q_way, .ref q_turn, .int t2, .int v_bad, .ref q_used])), (q_now, .inl (cI, 1600, .inl v_now)), (q_record, .inl (cI, 700, .inl v_record))] := hD
    refine lv_aload_n hx hb d_MD_fetchRecord_15 rfl (lv_at hl 0 rfl) ?_
    refine lv_iconst (v := 0) hx hb d_MD_fetchRecord_16 rfl ?_
    refine pf_MD_129 (v := .int (0 : Int32)) hx hb hts hN hown hK hP hD hS 0 rfl (by decide) (by decide) (Nat.le_of_ble_eq_true rfl) d_MD_fetchRecord_17 (fun H locs hP hD hS => ?_)
    have hP : va_P D pu_cl [(q_this, .inr (8, [.ref q_now, .ref q_disk, .ref q_before, .int v_onDisk, .int v_head, .int v_headPages, .int v_records, .ref q_recordPage, .ref q_recordBytes, .int v_up, .int v_armed, .int v_columns, .ref q_isBlob, .ref q_integer, .ref q_size, .ref q_blobs, .int v_length, .ref q_record, .int v_kind, .int v_cells, .int v_last, .ref q_cellLength, .ref q_row, .int v_made, .ref q_cell, .int v_deep, .ref q_way, .ref q_turn, .int t2, .int (0 : Int32), .ref q_used])), (q_now, .inl (cI, 1600, .inl v_now)), (q_record, .inl (cI, 700, .inl v_record))] H := hP
    have hD : va_D A [(q_this, .inr (8, [.ref q_now, .ref q_disk, .ref q_before, .int v_onDisk, .int v_head, .int v_headPages, .int v_records, .ref q_recordPage, .ref q_recordBytes, .int v_up, .int v_armed, .int v_columns, .ref q_isBlob, .ref q_integer, .ref q_size, .ref q_blobs, .int v_length, .ref q_record, .int v_kind, .int v_cells, .int v_last, .ref q_cellLength, .ref q_row, .int v_made, .ref q_cell, .int v_deep, .ref q_way, .ref q_turn, .int t2, .int (0 : Int32), .ref q_used])), (q_now, .inl (cI, 1600, .inl v_now)), (q_record, .inl (cI, 700, .inl v_record))] := hD
    refine lv_aload_n hx hb d_MD_fetchRecord_20 rfl (lv_at hl 0 rfl) ?_
    refine lv_aload_n hx hb d_MD_fetchRecord_21 rfl (lv_at hl 0 rfl) ?_
    refine lv_aload_n hx hb d_MD_fetchRecord_22 rfl (lv_at hl 0 rfl) ?_
    refine gf_MD_7 (v := .ref q_now) hx hb hts hN hown hK hP 0 rfl rfl d_MD_fetchRecord_23 ?_
    refine lv_sipush (v := 1600) hx hb d_MD_fetchRecord_26 rfl ?_
    obtain ⟨r3, w4, w5, hc, hf⟩ := pu_b3_some hf
    refine cl_i (WC := [(q_this, .inr (8, [.ref q_now, .ref q_disk, .ref q_before, .int v_onDisk, .int v_head, .int v_headPages, .int v_records, .ref q_recordPage, .ref q_recordBytes, .int v_up, .int v_armed, .int v_columns, .ref q_isBlob, .ref q_integer, .ref q_size, .ref q_blobs, .int v_length, .ref q_record, .int v_kind, .int v_cells, .int v_last, .ref q_cellLength, .ref q_row, .int v_made, .ref q_cell, .int v_deep, .ref q_way, .ref q_turn, .int t2, .int (0 : Int32), .ref q_used])), (q_now, .inl (cI, 1600, .inl v_now))]) (WC2 := [(q_this, .inr (8, [.ref q_now, .ref q_disk, .ref q_before, .int v_onDisk, .int v_head, .int v_headPages, .int v_records, .ref q_recordPage, .ref q_recordBytes, .int v_up, .int v_armed, .int v_columns, .ref q_isBlob, .ref q_integer, .ref q_size, .ref q_blobs, .int v_length, .ref q_record, .int v_kind, .int v_cells, .int v_last, .ref q_cellLength, .ref q_row, .int v_made, .ref q_cell, .int v_deep, .ref q_way, .ref q_turn, .int w4, .int w5, .ref q_used])), (q_now, .inl (cI, 1600, .inl v_now))]) (WR := [(q_record, .inl (cI, 700, .inl v_record))]) (WS2 := [(q_this, .inr (8, [.ref q_now, .ref q_disk, .ref q_before, .int v_onDisk, .int v_head, .int v_headPages, .int v_records, .ref q_recordPage, .ref q_recordBytes, .int v_up, .int v_armed, .int v_columns, .ref q_isBlob, .ref q_integer, .ref q_size, .ref q_blobs, .int v_length, .ref q_record, .int v_kind, .int v_cells, .int v_last, .ref q_cellLength, .ref q_row, .int v_made, .ref q_cell, .int v_deep, .ref q_way, .ref q_turn, .int w4, .int w5, .ref q_used])), (q_now, .inl (cI, 1600, .inl v_now)), (q_record, .inl (cI, 700, .inl v_record))]) (pu_rv (cl := pu_cl) (pu_in10 _ (List.mem_of_getElem? (i := 57) rfl)) (pu_in10 _ (List.mem_of_getElem? (i := 58) rfl)) (pu_in14 _ (List.mem_of_getElem? (i := 16) rfl)) (pu_in0 _ (List.mem_of_getElem? (i := 10) rfl)) (pu_in10 _ (List.mem_of_getElem? (i := 59) rfl)) (ci := 8) rfl hd_MD_read (by decide) ⟨rfl, rfl⟩ rfl rfl (Nat.le_of_ble_eq_true rfl) rfl (As := [.ref q_now, .int (1600 : Int32)]) (rest := [.ref q_this]) (WC := [(q_this, .inr (8, [.ref q_now, .ref q_disk, .ref q_before, .int v_onDisk, .int v_head, .int v_headPages, .int v_records, .ref q_recordPage, .ref q_recordBytes, .int v_up, .int v_armed, .int v_columns, .ref q_isBlob, .ref q_integer, .ref q_size, .ref q_blobs, .int v_length, .ref q_record, .int v_kind, .int v_cells, .int v_last, .ref q_cellLength, .ref q_row, .int v_made, .ref q_cell, .int v_deep, .ref q_way, .ref q_turn, .int t2, .int (0 : Int32), .ref q_used])), (q_now, .inl (cI, 1600, .inl v_now))]) hx hb hml hown hts hN hK hP hD (c_MD_read l D cI cJ cB cZ H.size q_this q_now q_disk q_before q_recordPage q_recordBytes q_isBlob q_integer q_size q_blobs q_record q_cellLength q_row q_cell q_way q_turn q_used q_now 1600 v_onDisk v_head v_headPages v_records v_up v_armed v_columns v_length v_kind v_cells v_last v_made v_deep t2 (0 : Int32) v_now (1600 : Int32) r3 w4 w5 hc) [0, 1] rfl rfl hl.1 d_MD_fetchRecord_29) hP hD hS hA [0, 1] [2] [1, 2, 0] rfl rfl rfl (by decide) rfl rfl (fun H locs hP hD hS => ?_)
    refine pf_MD_91 (v := .int r3) hx hb hts hN hown hK hP hD hS 0 rfl rfl rfl (Nat.le_of_ble_eq_true rfl) d_MD_fetchRecord_32 (fun H locs hP hD hS => ?_)
    have hP : va_P D pu_cl [(q_this, .inr (8, [.ref q_now, .ref q_disk, .ref q_before, .int v_onDisk, .int v_head, .int v_headPages, .int v_records, .ref q_recordPage, .ref q_recordBytes, .int v_up, .int v_armed, .int v_columns, .ref q_isBlob, .ref q_integer, .ref q_size, .ref q_blobs, .int r3, .ref q_record, .int v_kind, .int v_cells, .int v_last, .ref q_cellLength, .ref q_row, .int v_made, .ref q_cell, .int v_deep, .ref q_way, .ref q_turn, .int w4, .int w5, .ref q_used])), (q_now, .inl (cI, 1600, .inl v_now)), (q_record, .inl (cI, 700, .inl v_record))] H := hP
    have hD : va_D A [(q_this, .inr (8, [.ref q_now, .ref q_disk, .ref q_before, .int v_onDisk, .int v_head, .int v_headPages, .int v_records, .ref q_recordPage, .ref q_recordBytes, .int v_up, .int v_armed, .int v_columns, .ref q_isBlob, .ref q_integer, .ref q_size, .ref q_blobs, .int r3, .ref q_record, .int v_kind, .int v_cells, .int v_last, .ref q_cellLength, .ref q_row, .int v_made, .ref q_cell, .int v_deep, .ref q_way, .ref q_turn, .int w4, .int w5, .ref q_used])), (q_now, .inl (cI, 1600, .inl v_now)), (q_record, .inl (cI, 700, .inl v_record))] := hD
    refine lv_aload_n hx hb d_MD_fetchRecord_35 rfl (lv_at hl 0 rfl) ?_
    refine lv_aload_n hx hb d_MD_fetchRecord_36 rfl (lv_at hl 0 rfl) ?_
    refine gf_MD_7 (v := .ref q_now) hx hb hts hN hown hK hP 0 rfl rfl d_MD_fetchRecord_37 ?_
    refine lv_sipush (v := 1600) hx hb d_MD_fetchRecord_40 rfl ?_
    obtain ⟨r6, w7, w8, hc, hf⟩ := pu_b3_some hf
    refine cl_i (WC := [(q_this, .inr (8, [.ref q_now, .ref q_disk, .ref q_before, .int v_onDisk, .int v_head, .int v_headPages, .int v_records, .ref q_recordPage, .ref q_recordBytes, .int v_up, .int v_armed, .int v_columns, .ref q_isBlob, .ref q_integer, .ref q_size, .ref q_blobs, .int r3, .ref q_record, .int v_kind, .int v_cells, .int v_last, .ref q_cellLength, .ref q_row, .int v_made, .ref q_cell, .int v_deep, .ref q_way, .ref q_turn, .int w4, .int w5, .ref q_used])), (q_now, .inl (cI, 1600, .inl v_now))]) (WC2 := [(q_this, .inr (8, [.ref q_now, .ref q_disk, .ref q_before, .int v_onDisk, .int v_head, .int v_headPages, .int v_records, .ref q_recordPage, .ref q_recordBytes, .int v_up, .int v_armed, .int v_columns, .ref q_isBlob, .ref q_integer, .ref q_size, .ref q_blobs, .int r3, .ref q_record, .int v_kind, .int v_cells, .int v_last, .ref q_cellLength, .ref q_row, .int v_made, .ref q_cell, .int v_deep, .ref q_way, .ref q_turn, .int w7, .int w8, .ref q_used])), (q_now, .inl (cI, 1600, .inl v_now))]) (WR := [(q_record, .inl (cI, 700, .inl v_record))]) (WS2 := [(q_this, .inr (8, [.ref q_now, .ref q_disk, .ref q_before, .int v_onDisk, .int v_head, .int v_headPages, .int v_records, .ref q_recordPage, .ref q_recordBytes, .int v_up, .int v_armed, .int v_columns, .ref q_isBlob, .ref q_integer, .ref q_size, .ref q_blobs, .int r3, .ref q_record, .int v_kind, .int v_cells, .int v_last, .ref q_cellLength, .ref q_row, .int v_made, .ref q_cell, .int v_deep, .ref q_way, .ref q_turn, .int w7, .int w8, .ref q_used])), (q_now, .inl (cI, 1600, .inl v_now)), (q_record, .inl (cI, 700, .inl v_record))]) (pu_rv (cl := pu_cl) (pu_in10 _ (List.mem_of_getElem? (i := 57) rfl)) (pu_in10 _ (List.mem_of_getElem? (i := 58) rfl)) (pu_in14 _ (List.mem_of_getElem? (i := 16) rfl)) (pu_in0 _ (List.mem_of_getElem? (i := 10) rfl)) (pu_in10 _ (List.mem_of_getElem? (i := 59) rfl)) (ci := 8) rfl hd_MD_read (by decide) ⟨rfl, rfl⟩ rfl rfl (Nat.le_of_ble_eq_true rfl) rfl (As := [.ref q_now, .int (1600 : Int32)]) (rest := []) (WC := [(q_this, .inr (8, [.ref q_now, .ref q_disk, .ref q_before, .int v_onDisk, .int v_head, .int v_headPages, .int v_records, .ref q_recordPage, .ref q_recordBytes, .int v_up, .int v_armed, .int v_columns, .ref q_isBlob, .ref q_integer, .ref q_size, .ref q_blobs, .int r3, .ref q_record, .int v_kind, .int v_cells, .int v_last, .ref q_cellLength, .ref q_row, .int v_made, .ref q_cell, .int v_deep, .ref q_way, .ref q_turn, .int w4, .int w5, .ref q_used])), (q_now, .inl (cI, 1600, .inl v_now))]) hx hb hml hown hts hN hK hP hD (c_MD_read l D cI cJ cB cZ H.size q_this q_now q_disk q_before q_recordPage q_recordBytes q_isBlob q_integer q_size q_blobs q_record q_cellLength q_row q_cell q_way q_turn q_used q_now 1600 v_onDisk v_head v_headPages v_records v_up v_armed v_columns r3 v_kind v_cells v_last v_made v_deep w4 w5 v_now (1600 : Int32) r6 w7 w8 hc) [0, 1] rfl rfl hl.1 d_MD_fetchRecord_43) hP hD hS hA [0, 1] [2] [1, 2, 0] rfl rfl rfl (by decide) rfl rfl (fun H locs hP hD hS => ?_)
    refine lv_istore_n hx hb d_MD_fetchRecord_46 rfl hl (by decide) rfl (fun ls hl => ?_)
    have hl : lv_has ls 8 [(3, .int r6), (0, .ref q_this), (1, .int x_1), (2, .int x_2)] := hl
    refine lv_aload_n hx hb d_MD_fetchRecord_47 rfl (lv_at hl 1 rfl) ?_
    refine gf_MD_91 (v := .int r3) hx hb hts hN hown hK hP 0 rfl rfl d_MD_fetchRecord_48 ?_
    refine lv_bipush (v := 24) hx hb d_MD_fetchRecord_51 rfl ?_
    refine lv_icmp_le (tgt := 61) hx hb d_MD_fetchRecord_53 rfl (fun hc => ?_) (fun hc => ?_)
    · have hf := pu_br_pos hf hc
      refine lv_aload_n hx hb d_MD_fetchRecord_61 rfl (lv_at hl 1 rfl) ?_
      refine gf_MD_91 (v := .int r3) hx hb hts hN hown hK hP 0 rfl rfl d_MD_fetchRecord_62 ?_
      exact lb_65 r3 w7 w8 v_record r3 H locs ls hP hD hS (lv_sub hl [1] rfl) hf
    have hf := pu_br_neg hf hc
    refine lv_bipush (v := 16) hx hb d_MD_fetchRecord_56 rfl ?_
    refine lv_goto (tgt := 65) hx hb d_MD_fetchRecord_58 rfl ?_
    exact lb_65 r3 w7 w8 v_record (16 : Int32) H locs ls hP hD hS (lv_sub hl [1] rfl) hf
  rw [hH, hlocs] at goal
  exact goal
theorem d_MD_find_0 : decode b_MD_find 0 = .ok (.aload_n 0, 1) := by decide +kernel
theorem d_MD_find_1 : decode b_MD_find 1 = .ok (.iload_n 1, 1) := by decide +kernel
theorem d_MD_find_2 : decode b_MD_find 2 = .ok (.invokevirtual 155, 3) := by decide +kernel
theorem d_MD_find_5 : decode b_MD_find 5 = .ok (.istore_n 2, 1) := by decide +kernel
theorem d_MD_find_6 : decode b_MD_find 6 = .ok (.aload_n 0, 1) := by decide +kernel
theorem d_MD_find_7 : decode b_MD_find 7 = .ok (.getfield 62, 3) := by decide +kernel
theorem d_MD_find_10 : decode b_MD_find 10 = .ok (.aload_n 0, 1) := by decide +kernel
theorem d_MD_find_11 : decode b_MD_find 11 = .ok (.getfield 142, 3) := by decide +kernel
theorem d_MD_find_14 : decode b_MD_find 14 = .ok (.iaload, 1) := by decide +kernel
theorem d_MD_find_15 : decode b_MD_find 15 = .ok (.istore_n 3, 1) := by decide +kernel
theorem d_MD_find_16 : decode b_MD_find 16 = .ok (.iload_n 2, 1) := by decide +kernel
theorem d_MD_find_17 : decode b_MD_find 17 = .ok (.aload_n 0, 1) := by decide +kernel
theorem d_MD_find_18 : decode b_MD_find 18 = .ok (.getfield 7, 3) := by decide +kernel
theorem d_MD_find_21 : decode b_MD_find 21 = .ok (.bipush 64, 2) := by decide +kernel
theorem d_MD_find_23 : decode b_MD_find 23 = .ok (.iload_n 3, 1) := by decide +kernel
theorem d_MD_find_24 : decode b_MD_find 24 = .ok (.imul, 1) := by decide +kernel
theorem d_MD_find_25 : decode b_MD_find 25 = .ok (.iconst 1, 1) := by decide +kernel
theorem d_MD_find_26 : decode b_MD_find 26 = .ok (.iadd, 1) := by decide +kernel
theorem d_MD_find_27 : decode b_MD_find 27 = .ok (.iaload, 1) := by decide +kernel
theorem d_MD_find_28 : decode b_MD_find 28 = .ok (.if_icmp .eq 13, 3) := by decide +kernel
theorem d_MD_find_31 : decode b_MD_find 31 = .ok (.aload_n 0, 1) := by decide +kernel
theorem d_MD_find_32 : decode b_MD_find 32 = .ok (.iload_n 3, 1) := by decide +kernel
theorem d_MD_find_33 : decode b_MD_find 33 = .ok (.iload_n 2, 1) := by decide +kernel
theorem d_MD_find_34 : decode b_MD_find 34 = .ok (.invokevirtual 139, 3) := by decide +kernel
theorem d_MD_find_37 : decode b_MD_find 37 = .ok (.iload_n 1, 1) := by decide +kernel
theorem d_MD_find_38 : decode b_MD_find 38 = .ok (.if_icmp .eq 5, 3) := by decide +kernel
theorem d_MD_find_41 : decode b_MD_find 41 = .ok (.iconst 0, 1) := by decide +kernel
theorem d_MD_find_42 : decode b_MD_find 42 = .ok (.ireturn, 1) := by decide +kernel
theorem d_MD_find_43 : decode b_MD_find 43 = .ok (.aload_n 0, 1) := by decide +kernel
theorem d_MD_find_44 : decode b_MD_find 44 = .ok (.iload_n 3, 1) := by decide +kernel
theorem d_MD_find_45 : decode b_MD_find 45 = .ok (.iload_n 2, 1) := by decide +kernel
theorem d_MD_find_46 : decode b_MD_find 46 = .ok (.invokevirtual 158, 3) := by decide +kernel
theorem d_MD_find_49 : decode b_MD_find 49 = .ok (.pop, 1) := by decide +kernel
theorem d_MD_find_50 : decode b_MD_find 50 = .ok (.iconst 1, 1) := by decide +kernel
theorem d_MD_find_51 : decode b_MD_find 51 = .ok (.ireturn, 1) := by decide +kernel
noncomputable def f_MD_find (v_now : Nat → Int32) (v_length : Int32) (v_deep : Int32) (v_at : Int32) (v_bad : Int32) (v_record : Nat → Int32) (v_way : Nat → Int32) (v_turn : Nat → Int32) (x_1 : Int32) : Option (Int32 × Int32 × Int32 × Int32 × Int32 × (Nat → Int32) × (Nat → Int32) × (Nat → Int32)) :=
  pu_b6 (f_MD_goTo v_now v_deep v_at v_bad v_way v_turn x_1) (fun r1 w2 w3 w4 w5 w6 => pu_ck (vp_in w2 40) (pu_nm (w5 w2.toNatClampNeg) (fun t7 => pu_ck (vp_in (((64 : Int32) * t7) + (1 : Int32)) 1600) (pu_br (r1 = (v_now (((64 : Int32) * t7) + (1 : Int32)).toNatClampNeg)) (some ((0 : Int32), v_length, w2, w3, w4, v_record, w5, w6)) (pu_b3 (f_MD_keyAt v_now w3 w4 t7 r1) (fun r8 w9 w10 => pu_br (r8 = x_1) (pu_b5 (f_MD_fetchRecord v_now v_length w9 w10 v_record t7 r1) (fun r11 w12 w13 w14 w15 => some ((1 : Int32), w12, w2, w13, w14, w15, w5, w6))) (some ((0 : Int32), v_length, w2, w9, w10, v_record, w5, w6))))))))
abbrev rm_MD_find : Room := { frames := 4, cells := 0, slots := 0, locals := 92 }
set_option maxHeartbeats 8000000 in
set_option maxRecDepth 100000 in
theorem c_MD_find (l : Launch) (D : va_G) (cI cJ cB cZ : ClassId) (sz : Nat) (q_this : Nat) (q_now : Nat) (q_disk : Nat) (q_before : Nat) (q_recordPage : Nat) (q_recordBytes : Nat) (q_isBlob : Nat) (q_integer : Nat) (q_size : Nat) (q_blobs : Nat) (q_record : Nat) (q_cellLength : Nat) (q_row : Nat) (q_cell : Nat) (q_way : Nat) (q_turn : Nat) (q_used : Nat) (v_onDisk : Int32) (v_head : Int32) (v_headPages : Int32) (v_records : Int32) (v_up : Int32) (v_armed : Int32) (v_columns : Int32) (v_length : Int32) (v_kind : Int32) (v_cells : Int32) (v_last : Int32) (v_made : Int32) (v_deep : Int32) (v_at : Int32) (v_bad : Int32) (v_now : Nat → Int32) (v_record : Nat → Int32) (v_way : Nat → Int32) (v_turn : Nat → Int32) (x_1 : Int32) (o_r : Int32) (o_length : Int32) (o_deep : Int32) (o_at : Int32) (o_bad : Int32) (o_record : Nat → Int32) (o_way : Nat → Int32) (o_turn : Nat → Int32) (hf : f_MD_find v_now v_length v_deep v_at v_bad v_record v_way v_turn x_1 = some (o_r, o_length, o_deep, o_at, o_bad, o_record, o_way, o_turn)) : Met l y_MD_find (.code y_MD_find b_MD_find 4 (some .boolean) :: pu_wA) rm_MD_find (pu_pc D pu_cl (pu_ty cI cJ cB cZ) [.ref q_this, .int x_1] [(q_this, .inr (8, [.ref q_now, .ref q_disk, .ref q_before, .int v_onDisk, .int v_head, .int v_headPages, .int v_records, .ref q_recordPage, .ref q_recordBytes, .int v_up, .int v_armed, .int v_columns, .ref q_isBlob, .ref q_integer, .ref q_size, .ref q_blobs, .int v_length, .ref q_record, .int v_kind, .int v_cells, .int v_last, .ref q_cellLength, .ref q_row, .int v_made, .ref q_cell, .int v_deep, .ref q_way, .ref q_turn, .int v_at, .int v_bad, .ref q_used])), (q_now, .inl (cI, 1600, .inl v_now)), (q_record, .inl (cI, 700, .inl v_record)), (q_way, .inl (cI, 40, .inl v_way)), (q_turn, .inl (cI, 40, .inl v_turn))] sz) (pu_qi D pu_cl (pu_ty cI cJ cB cZ) [(q_this, .inr (8, [.ref q_now, .ref q_disk, .ref q_before, .int v_onDisk, .int v_head, .int v_headPages, .int v_records, .ref q_recordPage, .ref q_recordBytes, .int v_up, .int v_armed, .int v_columns, .ref q_isBlob, .ref q_integer, .ref q_size, .ref q_blobs, .int v_length, .ref q_record, .int v_kind, .int v_cells, .int v_last, .ref q_cellLength, .ref q_row, .int v_made, .ref q_cell, .int v_deep, .ref q_way, .ref q_turn, .int v_at, .int v_bad, .ref q_used])), (q_now, .inl (cI, 1600, .inl v_now)), (q_record, .inl (cI, 700, .inl v_record)), (q_way, .inl (cI, 40, .inl v_way)), (q_turn, .inl (cI, 40, .inl v_turn))] [(q_this, .inr (8, [.ref q_now, .ref q_disk, .ref q_before, .int v_onDisk, .int v_head, .int v_headPages, .int v_records, .ref q_recordPage, .ref q_recordBytes, .int v_up, .int v_armed, .int v_columns, .ref q_isBlob, .ref q_integer, .ref q_size, .ref q_blobs, .int o_length, .ref q_record, .int v_kind, .int v_cells, .int v_last, .ref q_cellLength, .ref q_row, .int v_made, .ref q_cell, .int o_deep, .ref q_way, .ref q_turn, .int o_at, .int o_bad, .ref q_used])), (q_now, .inl (cI, 1600, .inl v_now)), (q_record, .inl (cI, 700, .inl o_record)), (q_way, .inl (cI, 40, .inl o_way)), (q_turn, .inl (cI, 40, .inl o_turn))] sz o_r) 0 0 (va_A [(q_this, .inr (8, [.ref q_now, .ref q_disk, .ref q_before, .int v_onDisk, .int v_head, .int v_headPages, .int v_records, .ref q_recordPage, .ref q_recordBytes, .int v_up, .int v_armed, .int v_columns, .ref q_isBlob, .ref q_integer, .ref q_size, .ref q_blobs, .int v_length, .ref q_record, .int v_kind, .int v_cells, .int v_last, .ref q_cellLength, .ref q_row, .int v_made, .ref q_cell, .int v_deep, .ref q_way, .ref q_turn, .int v_at, .int v_bad, .ref q_used])), (q_now, .inl (cI, 1600, .inl v_now)), (q_record, .inl (cI, 700, .inl v_record)), (q_way, .inl (cI, 40, .inl v_way)), (q_turn, .inl (cI, 40, .inl v_turn))] sz) := by
  refine pu_mtz [.ref q_this, .int x_1] [(q_this, .inr (8, [.ref q_now, .ref q_disk, .ref q_before, .int v_onDisk, .int v_head, .int v_headPages, .int v_records, .ref q_recordPage, .ref q_recordBytes, .int v_up, .int v_armed, .int v_columns, .ref q_isBlob, .ref q_integer, .ref q_size, .ref q_blobs, .int v_length, .ref q_record, .int v_kind, .int v_cells, .int v_last, .ref q_cellLength, .ref q_row, .int v_made, .ref q_cell, .int v_deep, .ref q_way, .ref q_turn, .int v_at, .int v_bad, .ref q_used])), (q_now, .inl (cI, 1600, .inl v_now)), (q_record, .inl (cI, 700, .inl v_record)), (q_way, .inl (cI, 40, .inl v_way)), (q_turn, .inl (cI, 40, .inl v_turn))] [(q_this, .inr (8, [.ref q_now, .ref q_disk, .ref q_before, .int v_onDisk, .int v_head, .int v_headPages, .int v_records, .ref q_recordPage, .ref q_recordBytes, .int v_up, .int v_armed, .int v_columns, .ref q_isBlob, .ref q_integer, .ref q_size, .ref q_blobs, .int o_length, .ref q_record, .int v_kind, .int v_cells, .int v_last, .ref q_cellLength, .ref q_row, .int v_made, .ref q_cell, .int o_deep, .ref q_way, .ref q_turn, .int o_at, .int o_bad, .ref q_used])), (q_now, .inl (cI, 1600, .inl v_now)), (q_record, .inl (cI, 700, .inl o_record)), (q_way, .inl (cI, 40, .inl o_way)), (q_turn, .inl (cI, 40, .inl o_turn))] o_r (by decide) (Nat.le_of_ble_eq_true rfl) ?_
  intro p e s m args below meth c A Q ls hx hb hml hts hN hown hK hA hP hD hl hret0
  have hS : va_S A s.heap s.heap [] := va_S.rf
  have hl : lv_has ls 4 [(0, .ref q_this), (1, .int x_1)] := hl
  have hret : ∀ (pc : Nat) (ls : Array Slot) (H : Heap) (locs : List Loc) (y_0 : Int32) (y_1 : Int32) (y_2 : Int32) (y_3 : Int32) (y_4 : Int32) (y_5 : Nat → Int32) (y_6 : Nat → Int32) (y_7 : Nat → Int32), decode b_MD_find pc = .ok (.ireturn, 1) → narrow .boolean (.int y_0) = .int y_0 → va_P D pu_cl [(q_this, .inr (8, [.ref q_now, .ref q_disk, .ref q_before, .int v_onDisk, .int v_head, .int v_headPages, .int v_records, .ref q_recordPage, .ref q_recordBytes, .int v_up, .int v_armed, .int v_columns, .ref q_isBlob, .ref q_integer, .ref q_size, .ref q_blobs, .int y_1, .ref q_record, .int v_kind, .int v_cells, .int v_last, .ref q_cellLength, .ref q_row, .int v_made, .ref q_cell, .int y_2, .ref q_way, .ref q_turn, .int y_3, .int y_4, .ref q_used])), (q_now, .inl (cI, 1600, .inl v_now)), (q_record, .inl (cI, 700, .inl y_5)), (q_way, .inl (cI, 40, .inl y_6)), (q_turn, .inl (cI, 40, .inl y_7))] H → va_D A [(q_this, .inr (8, [.ref q_now, .ref q_disk, .ref q_before, .int v_onDisk, .int v_head, .int v_headPages, .int v_records, .ref q_recordPage, .ref q_recordBytes, .int v_up, .int v_armed, .int v_columns, .ref q_isBlob, .ref q_integer, .ref q_size, .ref q_blobs, .int y_1, .ref q_record, .int v_kind, .int v_cells, .int v_last, .ref q_cellLength, .ref q_row, .int v_made, .ref q_cell, .int y_2, .ref q_way, .ref q_turn, .int y_3, .int y_4, .ref q_used])), (q_now, .inl (cI, 1600, .inl v_now)), (q_record, .inl (cI, 700, .inl y_5)), (q_way, .inl (cI, 40, .inl y_6)), (q_turn, .inl (cI, 40, .inl y_7))] → va_S A s.heap H locs → some (y_0, y_1, y_2, y_3, y_4, y_5, y_6, y_7) = some (o_r, o_length, o_deep, o_at, o_bad, o_record, o_way, o_turn) → W p l e rm_MD_find s m args below meth c H locs 0 0 Q (F0 m pc ls [.int y_0]) := by
    intro pc ls H locs y_0 y_1 y_2 y_3 y_4 y_5 y_6 y_7 hd hz hP hD hS hf
    cases hf
    exact hret0 pc ls H locs hd hz hP hD hS
  clear hret0
  unfold f_MD_find at hf
  skip
  obtain ⟨H, hH⟩ : ∃ H, H = s.heap := ⟨_, rfl⟩
  obtain ⟨locs, hlocs⟩ : ∃ locs : List Loc, locs = [] := ⟨_, rfl⟩
  have hP : va_P D pu_cl [(q_this, .inr (8, [.ref q_now, .ref q_disk, .ref q_before, .int v_onDisk, .int v_head, .int v_headPages, .int v_records, .ref q_recordPage, .ref q_recordBytes, .int v_up, .int v_armed, .int v_columns, .ref q_isBlob, .ref q_integer, .ref q_size, .ref q_blobs, .int v_length, .ref q_record, .int v_kind, .int v_cells, .int v_last, .ref q_cellLength, .ref q_row, .int v_made, .ref q_cell, .int v_deep, .ref q_way, .ref q_turn, .int v_at, .int v_bad, .ref q_used])), (q_now, .inl (cI, 1600, .inl v_now)), (q_record, .inl (cI, 700, .inl v_record)), (q_way, .inl (cI, 40, .inl v_way)), (q_turn, .inl (cI, 40, .inl v_turn))] H := by rw [hH]; exact hP
  have hS : va_S A s.heap H locs := by rw [hH, hlocs]; exact hS
  have goal : W p l e rm_MD_find s m args below meth c H locs 0 0 Q (F0 m 0 ls []) := by
    clear hH hlocs
    refine lv_aload_n hx hb d_MD_find_0 rfl (lv_at hl 0 rfl) ?_
    refine lv_iload_n hx hb d_MD_find_1 rfl (lv_at hl 1 rfl) ?_
    obtain ⟨r1, w2, w3, w4, w5, w6, hc, hf⟩ := pu_b6_some hf
    refine cl_i (WC := [(q_this, .inr (8, [.ref q_now, .ref q_disk, .ref q_before, .int v_onDisk, .int v_head, .int v_headPages, .int v_records, .ref q_recordPage, .ref q_recordBytes, .int v_up, .int v_armed, .int v_columns, .ref q_isBlob, .ref q_integer, .ref q_size, .ref q_blobs, .int v_length, .ref q_record, .int v_kind, .int v_cells, .int v_last, .ref q_cellLength, .ref q_row, .int v_made, .ref q_cell, .int v_deep, .ref q_way, .ref q_turn, .int v_at, .int v_bad, .ref q_used])), (q_now, .inl (cI, 1600, .inl v_now)), (q_way, .inl (cI, 40, .inl v_way)), (q_turn, .inl (cI, 40, .inl v_turn))]) (WC2 := [(q_this, .inr (8, [.ref q_now, .ref q_disk, .ref q_before, .int v_onDisk, .int v_head, .int v_headPages, .int v_records, .ref q_recordPage, .ref q_recordBytes, .int v_up, .int v_armed, .int v_columns, .ref q_isBlob, .ref q_integer, .ref q_size, .ref q_blobs, .int v_length, .ref q_record, .int v_kind, .int v_cells, .int v_last, .ref q_cellLength, .ref q_row, .int v_made, .ref q_cell, .int w2, .ref q_way, .ref q_turn, .int w3, .int w4, .ref q_used])), (q_now, .inl (cI, 1600, .inl v_now)), (q_way, .inl (cI, 40, .inl w5)), (q_turn, .inl (cI, 40, .inl w6))]) (WR := [(q_record, .inl (cI, 700, .inl v_record))]) (WS2 := [(q_this, .inr (8, [.ref q_now, .ref q_disk, .ref q_before, .int v_onDisk, .int v_head, .int v_headPages, .int v_records, .ref q_recordPage, .ref q_recordBytes, .int v_up, .int v_armed, .int v_columns, .ref q_isBlob, .ref q_integer, .ref q_size, .ref q_blobs, .int v_length, .ref q_record, .int v_kind, .int v_cells, .int v_last, .ref q_cellLength, .ref q_row, .int v_made, .ref q_cell, .int w2, .ref q_way, .ref q_turn, .int w3, .int w4, .ref q_used])), (q_now, .inl (cI, 1600, .inl v_now)), (q_record, .inl (cI, 700, .inl v_record)), (q_way, .inl (cI, 40, .inl w5)), (q_turn, .inl (cI, 40, .inl w6))]) (pu_rv (cl := pu_cl) (pu_in10 _ (List.mem_of_getElem? (i := 42) rfl)) (pu_in10 _ (List.mem_of_getElem? (i := 43) rfl)) (pu_in14 _ (List.mem_of_getElem? (i := 11) rfl)) (pu_in0 _ (List.mem_of_getElem? (i := 10) rfl)) (pu_in10 _ (List.mem_of_getElem? (i := 44) rfl)) (ci := 8) rfl hd_MD_goTo (by decide) ⟨rfl, rfl⟩ rfl rfl (Nat.le_of_ble_eq_true rfl) rfl (As := [.int x_1]) (rest := []) (WC := [(q_this, .inr (8, [.ref q_now, .ref q_disk, .ref q_before, .int v_onDisk, .int v_head, .int v_headPages, .int v_records, .ref q_recordPage, .ref q_recordBytes, .int v_up, .int v_armed, .int v_columns, .ref q_isBlob, .ref q_integer, .ref q_size, .ref q_blobs, .int v_length, .ref q_record, .int v_kind, .int v_cells, .int v_last, .ref q_cellLength, .ref q_row, .int v_made, .ref q_cell, .int v_deep, .ref q_way, .ref q_turn, .int v_at, .int v_bad, .ref q_used])), (q_now, .inl (cI, 1600, .inl v_now)), (q_way, .inl (cI, 40, .inl v_way)), (q_turn, .inl (cI, 40, .inl v_turn))]) hx hb hml hown hts hN hK hP hD (c_MD_goTo l D cI cJ cB cZ H.size q_this q_now q_disk q_before q_recordPage q_recordBytes q_isBlob q_integer q_size q_blobs q_record q_cellLength q_row q_cell q_way q_turn q_used v_onDisk v_head v_headPages v_records v_up v_armed v_columns v_length v_kind v_cells v_last v_made v_deep v_at v_bad v_now v_way v_turn x_1 r1 w2 w3 w4 w5 w6 hc) [0, 1, 3, 4] rfl rfl hl.1 d_MD_find_2) hP hD hS hA [0, 1, 3, 4] [2] [1, 2, 0, 3, 4] rfl rfl rfl (by decide) rfl rfl (fun H locs hP hD hS => ?_)
    refine lv_istore_n hx hb d_MD_find_5 rfl hl (by decide) rfl (fun ls hl => ?_)
    have hl : lv_has ls 4 [(2, .int r1), (0, .ref q_this), (1, .int x_1)] := hl
    refine lv_aload_n hx hb d_MD_find_6 rfl (lv_at hl 1 rfl) ?_
    refine gf_MD_62 (v := .ref q_way) hx hb hts hN hown hK hP 0 rfl rfl d_MD_find_7 ?_
    refine lv_aload_n hx hb d_MD_find_10 rfl (lv_at hl 1 rfl) ?_
    refine gf_MD_142 (v := .int w2) hx hb hts hN hown hK hP 0 rfl rfl d_MD_find_11 ?_
    obtain ⟨hin, hf⟩ := pu_ck_some hf
    refine va_iald hx hb hK hP 3 0 rfl rfl hin d_MD_find_14 ?_
    obtain ⟨t7, e_t7, hf⟩ := pu_nm_some hf
    refine pu_ti e_t7 ?_
    refine lv_istore_n hx hb d_MD_find_15 rfl hl (by decide) rfl (fun ls hl => ?_)
    have hl : lv_has ls 4 [(3, .int t7), (2, .int r1), (0, .ref q_this), (1, .int x_1)] := hl
    refine lv_iload_n hx hb d_MD_find_16 rfl (lv_at hl 1 rfl) ?_
    refine lv_aload_n hx hb d_MD_find_17 rfl (lv_at hl 2 rfl) ?_
    refine gf_MD_7 (v := .ref q_now) hx hb hts hN hown hK hP 0 rfl rfl d_MD_find_18 ?_
    refine lv_bipush (v := 64) hx hb d_MD_find_21 rfl ?_
    refine lv_iload_n hx hb d_MD_find_23 rfl (lv_at hl 0 rfl) ?_
    refine lv_imul hx hb d_MD_find_24 ?_
    refine lv_iconst (v := 1) hx hb d_MD_find_25 rfl ?_
    refine lv_iadd hx hb d_MD_find_26 ?_
    obtain ⟨hin, hf⟩ := pu_ck_some hf
    refine va_iald hx hb hK hP 1 0 rfl rfl hin d_MD_find_27 ?_
    refine lv_icmp_eq (tgt := 41) hx hb d_MD_find_28 rfl (fun hc => ?_) (fun hc => ?_)
    · have hf := pu_br_pos hf hc
      refine lv_iconst (v := 0) hx hb d_MD_find_41 rfl ?_
      exact hret _ _ _ _ (0 : Int32) v_length w2 w3 w4 v_record w5 w6 d_MD_find_42 (by decide) hP hD hS hf
    have hf := pu_br_neg hf hc
    refine lv_aload_n hx hb d_MD_find_31 rfl (lv_at hl 2 rfl) ?_
    refine lv_iload_n hx hb d_MD_find_32 rfl (lv_at hl 0 rfl) ?_
    refine lv_iload_n hx hb d_MD_find_33 rfl (lv_at hl 1 rfl) ?_
    obtain ⟨r8, w9, w10, hc, hf⟩ := pu_b3_some hf
    refine cl_i (WC := [(q_this, .inr (8, [.ref q_now, .ref q_disk, .ref q_before, .int v_onDisk, .int v_head, .int v_headPages, .int v_records, .ref q_recordPage, .ref q_recordBytes, .int v_up, .int v_armed, .int v_columns, .ref q_isBlob, .ref q_integer, .ref q_size, .ref q_blobs, .int v_length, .ref q_record, .int v_kind, .int v_cells, .int v_last, .ref q_cellLength, .ref q_row, .int v_made, .ref q_cell, .int w2, .ref q_way, .ref q_turn, .int w3, .int w4, .ref q_used])), (q_now, .inl (cI, 1600, .inl v_now))]) (WC2 := [(q_this, .inr (8, [.ref q_now, .ref q_disk, .ref q_before, .int v_onDisk, .int v_head, .int v_headPages, .int v_records, .ref q_recordPage, .ref q_recordBytes, .int v_up, .int v_armed, .int v_columns, .ref q_isBlob, .ref q_integer, .ref q_size, .ref q_blobs, .int v_length, .ref q_record, .int v_kind, .int v_cells, .int v_last, .ref q_cellLength, .ref q_row, .int v_made, .ref q_cell, .int w2, .ref q_way, .ref q_turn, .int w9, .int w10, .ref q_used])), (q_now, .inl (cI, 1600, .inl v_now))]) (WR := [(q_record, .inl (cI, 700, .inl v_record)), (q_way, .inl (cI, 40, .inl w5)), (q_turn, .inl (cI, 40, .inl w6))]) (WS2 := [(q_this, .inr (8, [.ref q_now, .ref q_disk, .ref q_before, .int v_onDisk, .int v_head, .int v_headPages, .int v_records, .ref q_recordPage, .ref q_recordBytes, .int v_up, .int v_armed, .int v_columns, .ref q_isBlob, .ref q_integer, .ref q_size, .ref q_blobs, .int v_length, .ref q_record, .int v_kind, .int v_cells, .int v_last, .ref q_cellLength, .ref q_row, .int v_made, .ref q_cell, .int w2, .ref q_way, .ref q_turn, .int w9, .int w10, .ref q_used])), (q_now, .inl (cI, 1600, .inl v_now)), (q_record, .inl (cI, 700, .inl v_record)), (q_way, .inl (cI, 40, .inl w5)), (q_turn, .inl (cI, 40, .inl w6))]) (pu_rv (cl := pu_cl) (pu_in10 _ (List.mem_of_getElem? (i := 51) rfl)) (pu_in10 _ (List.mem_of_getElem? (i := 52) rfl)) (pu_in14 _ (List.mem_of_getElem? (i := 14) rfl)) (pu_in0 _ (List.mem_of_getElem? (i := 10) rfl)) (pu_in10 _ (List.mem_of_getElem? (i := 53) rfl)) (ci := 8) rfl hd_MD_keyAt (by decide) ⟨rfl, rfl⟩ rfl rfl (Nat.le_of_ble_eq_true rfl) rfl (As := [.int t7, .int r1]) (rest := []) (WC := [(q_this, .inr (8, [.ref q_now, .ref q_disk, .ref q_before, .int v_onDisk, .int v_head, .int v_headPages, .int v_records, .ref q_recordPage, .ref q_recordBytes, .int v_up, .int v_armed, .int v_columns, .ref q_isBlob, .ref q_integer, .ref q_size, .ref q_blobs, .int v_length, .ref q_record, .int v_kind, .int v_cells, .int v_last, .ref q_cellLength, .ref q_row, .int v_made, .ref q_cell, .int w2, .ref q_way, .ref q_turn, .int w3, .int w4, .ref q_used])), (q_now, .inl (cI, 1600, .inl v_now))]) hx hb hml hown hts hN hK hP hD (c_MD_keyAt l D cI cJ cB cZ H.size q_this q_now q_disk q_before q_recordPage q_recordBytes q_isBlob q_integer q_size q_blobs q_record q_cellLength q_row q_cell q_way q_turn q_used v_onDisk v_head v_headPages v_records v_up v_armed v_columns v_length v_kind v_cells v_last v_made w2 w3 w4 v_now t7 r1 r8 w9 w10 hc) [0, 1] rfl rfl hl.1 d_MD_find_34) hP hD hS hA [0, 1] [2, 3, 4] [3, 4, 0, 1, 2] rfl rfl rfl (by decide) rfl rfl (fun H locs hP hD hS => ?_)
    refine lv_iload_n hx hb d_MD_find_37 rfl (lv_at hl 3 rfl) ?_
    refine lv_icmp_eq (tgt := 43) hx hb d_MD_find_38 rfl (fun hc => ?_) (fun hc => ?_)
    · have hf := pu_br_pos hf hc
      refine lv_aload_n hx hb d_MD_find_43 rfl (lv_at hl 2 rfl) ?_
      refine lv_iload_n hx hb d_MD_find_44 rfl (lv_at hl 0 rfl) ?_
      refine lv_iload_n hx hb d_MD_find_45 rfl (lv_at hl 1 rfl) ?_
      obtain ⟨r11, w12, w13, w14, w15, hc, hf⟩ := pu_b5_some hf
      refine cl_i (WC := [(q_this, .inr (8, [.ref q_now, .ref q_disk, .ref q_before, .int v_onDisk, .int v_head, .int v_headPages, .int v_records, .ref q_recordPage, .ref q_recordBytes, .int v_up, .int v_armed, .int v_columns, .ref q_isBlob, .ref q_integer, .ref q_size, .ref q_blobs, .int v_length, .ref q_record, .int v_kind, .int v_cells, .int v_last, .ref q_cellLength, .ref q_row, .int v_made, .ref q_cell, .int w2, .ref q_way, .ref q_turn, .int w9, .int w10, .ref q_used])), (q_now, .inl (cI, 1600, .inl v_now)), (q_record, .inl (cI, 700, .inl v_record))]) (WC2 := [(q_this, .inr (8, [.ref q_now, .ref q_disk, .ref q_before, .int v_onDisk, .int v_head, .int v_headPages, .int v_records, .ref q_recordPage, .ref q_recordBytes, .int v_up, .int v_armed, .int v_columns, .ref q_isBlob, .ref q_integer, .ref q_size, .ref q_blobs, .int w12, .ref q_record, .int v_kind, .int v_cells, .int v_last, .ref q_cellLength, .ref q_row, .int v_made, .ref q_cell, .int w2, .ref q_way, .ref q_turn, .int w13, .int w14, .ref q_used])), (q_now, .inl (cI, 1600, .inl v_now)), (q_record, .inl (cI, 700, .inl w15))]) (WR := [(q_way, .inl (cI, 40, .inl w5)), (q_turn, .inl (cI, 40, .inl w6))]) (WS2 := [(q_this, .inr (8, [.ref q_now, .ref q_disk, .ref q_before, .int v_onDisk, .int v_head, .int v_headPages, .int v_records, .ref q_recordPage, .ref q_recordBytes, .int v_up, .int v_armed, .int v_columns, .ref q_isBlob, .ref q_integer, .ref q_size, .ref q_blobs, .int w12, .ref q_record, .int v_kind, .int v_cells, .int v_last, .ref q_cellLength, .ref q_row, .int v_made, .ref q_cell, .int w2, .ref q_way, .ref q_turn, .int w13, .int w14, .ref q_used])), (q_now, .inl (cI, 1600, .inl v_now)), (q_record, .inl (cI, 700, .inl w15)), (q_way, .inl (cI, 40, .inl w5)), (q_turn, .inl (cI, 40, .inl w6))]) (pu_rv (cl := pu_cl) (pu_in10 _ (List.mem_of_getElem? (i := 63) rfl)) (pu_in11 _ (List.mem_of_getElem? (i := 0) rfl)) (pu_in14 _ (List.mem_of_getElem? (i := 18) rfl)) (pu_in0 _ (List.mem_of_getElem? (i := 10) rfl)) (pu_in11 _ (List.mem_of_getElem? (i := 1) rfl)) (ci := 8) rfl hd_MD_fetchRecord (by decide) ⟨rfl, rfl⟩ rfl rfl (Nat.le_of_ble_eq_true rfl) rfl (As := [.int t7, .int r1]) (rest := []) (WC := [(q_this, .inr (8, [.ref q_now, .ref q_disk, .ref q_before, .int v_onDisk, .int v_head, .int v_headPages, .int v_records, .ref q_recordPage, .ref q_recordBytes, .int v_up, .int v_armed, .int v_columns, .ref q_isBlob, .ref q_integer, .ref q_size, .ref q_blobs, .int v_length, .ref q_record, .int v_kind, .int v_cells, .int v_last, .ref q_cellLength, .ref q_row, .int v_made, .ref q_cell, .int w2, .ref q_way, .ref q_turn, .int w9, .int w10, .ref q_used])), (q_now, .inl (cI, 1600, .inl v_now)), (q_record, .inl (cI, 700, .inl v_record))]) hx hb hml hown hts hN hK hP hD (c_MD_fetchRecord l D cI cJ cB cZ H.size q_this q_now q_disk q_before q_recordPage q_recordBytes q_isBlob q_integer q_size q_blobs q_record q_cellLength q_row q_cell q_way q_turn q_used v_onDisk v_head v_headPages v_records v_up v_armed v_columns v_length v_kind v_cells v_last v_made w2 w9 w10 v_now v_record t7 r1 r11 w12 w13 w14 w15 hc) [0, 1, 2] rfl rfl hl.1 d_MD_find_46) hP hD hS hA [0, 1, 2] [3, 4] [2, 3, 4, 0, 1] rfl rfl rfl (by decide) rfl rfl (fun H locs hP hD hS => ?_)
      refine lv_pop hx hb d_MD_find_49 rfl ?_
      refine lv_iconst (v := 1) hx hb d_MD_find_50 rfl ?_
      exact hret _ _ _ _ (1 : Int32) w12 w2 w13 w14 w15 w5 w6 d_MD_find_51 (by decide) hP hD hS hf
    have hf := pu_br_neg hf hc
    refine lv_iconst (v := 0) hx hb d_MD_find_41 rfl ?_
    exact hret _ _ _ _ (0 : Int32) v_length w2 w9 w10 v_record w5 w6 d_MD_find_42 (by decide) hP hD hS hf
  rw [hH, hlocs] at goal
  exact goal
