theorem d_MD_blob_0 : decode b_MD_blob 0 = .ok (.iload_n 2, 1) := by decide +kernel
theorem d_MD_blob_1 : decode b_MD_blob 1 = .ok (.ifCond .lt 9, 3) := by decide +kernel
theorem d_MD_blob_4 : decode b_MD_blob 4 = .ok (.iload_n 2, 1) := by decide +kernel
theorem d_MD_blob_5 : decode b_MD_blob 5 = .ok (.bipush 8, 2) := by decide +kernel
theorem d_MD_blob_7 : decode b_MD_blob 7 = .ok (.if_icmp .le 5, 3) := by decide +kernel
theorem d_MD_blob_10 : decode b_MD_blob 10 = .ok (.iconst 0, 1) := by decide +kernel
theorem d_MD_blob_11 : decode b_MD_blob 11 = .ok (.ireturn, 1) := by decide +kernel
theorem d_MD_blob_12 : decode b_MD_blob 12 = .ok (.iload_n 1, 1) := by decide +kernel
theorem d_MD_blob_13 : decode b_MD_blob 13 = .ok (.ifCond .ne 11, 3) := by decide +kernel
theorem d_MD_blob_16 : decode b_MD_blob 16 = .ok (.aload_n 0, 1) := by decide +kernel
theorem d_MD_blob_17 : decode b_MD_blob 17 = .ok (.getfield 74, 3) := by decide +kernel
theorem d_MD_blob_20 : decode b_MD_blob 20 = .ok (.iconst 3, 1) := by decide +kernel
theorem d_MD_blob_21 : decode b_MD_blob 21 = .ok (.if_icmp .eq 46, 3) := by decide +kernel
theorem d_MD_blob_24 : decode b_MD_blob 24 = .ok (.iload_n 1, 1) := by decide +kernel
theorem d_MD_blob_25 : decode b_MD_blob 25 = .ok (.ifCond .eq 44, 3) := by decide +kernel
theorem d_MD_blob_28 : decode b_MD_blob 28 = .ok (.aload_n 0, 1) := by decide +kernel
theorem d_MD_blob_29 : decode b_MD_blob 29 = .ok (.getfield 74, 3) := by decide +kernel
theorem d_MD_blob_32 : decode b_MD_blob 32 = .ok (.ifCond .eq 35, 3) := by decide +kernel
theorem d_MD_blob_35 : decode b_MD_blob 35 = .ok (.aload_n 0, 1) := by decide +kernel
theorem d_MD_blob_36 : decode b_MD_blob 36 = .ok (.getfield 36, 3) := by decide +kernel
theorem d_MD_blob_39 : decode b_MD_blob 39 = .ok (.aload_n 0, 1) := by decide +kernel
theorem d_MD_blob_40 : decode b_MD_blob 40 = .ok (.getfield 74, 3) := by decide +kernel
theorem d_MD_blob_43 : decode b_MD_blob 43 = .ok (.iconst 1, 1) := by decide +kernel
theorem d_MD_blob_44 : decode b_MD_blob 44 = .ok (.isub, 1) := by decide +kernel
theorem d_MD_blob_45 : decode b_MD_blob 45 = .ok (.baload, 1) := by decide +kernel
theorem d_MD_blob_46 : decode b_MD_blob 46 = .ok (.ifCond .eq 21, 3) := by decide +kernel
theorem d_MD_blob_49 : decode b_MD_blob 49 = .ok (.aload_n 0, 1) := by decide +kernel
theorem d_MD_blob_50 : decode b_MD_blob 50 = .ok (.getfield 44, 3) := by decide +kernel
theorem d_MD_blob_53 : decode b_MD_blob 53 = .ok (.aload_n 0, 1) := by decide +kernel
theorem d_MD_blob_54 : decode b_MD_blob 54 = .ok (.getfield 74, 3) := by decide +kernel
theorem d_MD_blob_57 : decode b_MD_blob 57 = .ok (.iconst 1, 1) := by decide +kernel
theorem d_MD_blob_58 : decode b_MD_blob 58 = .ok (.isub, 1) := by decide +kernel
theorem d_MD_blob_59 : decode b_MD_blob 59 = .ok (.iaload, 1) := by decide +kernel
theorem d_MD_blob_60 : decode b_MD_blob 60 = .ok (.iload_n 2, 1) := by decide +kernel
theorem d_MD_blob_61 : decode b_MD_blob 61 = .ok (.iadd, 1) := by decide +kernel
theorem d_MD_blob_62 : decode b_MD_blob 62 = .ok (.bipush 100, 2) := by decide +kernel
theorem d_MD_blob_64 : decode b_MD_blob 64 = .ok (.if_icmp .le 5, 3) := by decide +kernel
theorem d_MD_blob_67 : decode b_MD_blob 67 = .ok (.iconst 0, 1) := by decide +kernel
theorem d_MD_blob_68 : decode b_MD_blob 68 = .ok (.ireturn, 1) := by decide +kernel
theorem d_MD_blob_69 : decode b_MD_blob 69 = .ok (.iload_n 1, 1) := by decide +kernel
theorem d_MD_blob_70 : decode b_MD_blob 70 = .ok (.ifCond .ne 33, 3) := by decide +kernel
theorem d_MD_blob_73 : decode b_MD_blob 73 = .ok (.aload_n 0, 1) := by decide +kernel
theorem d_MD_blob_74 : decode b_MD_blob 74 = .ok (.getfield 36, 3) := by decide +kernel
theorem d_MD_blob_77 : decode b_MD_blob 77 = .ok (.aload_n 0, 1) := by decide +kernel
theorem d_MD_blob_78 : decode b_MD_blob 78 = .ok (.getfield 74, 3) := by decide +kernel
theorem d_MD_blob_81 : decode b_MD_blob 81 = .ok (.iconst 1, 1) := by decide +kernel
theorem d_MD_blob_82 : decode b_MD_blob 82 = .ok (.bastore, 1) := by decide +kernel
theorem d_MD_blob_83 : decode b_MD_blob 83 = .ok (.aload_n 0, 1) := by decide +kernel
theorem d_MD_blob_84 : decode b_MD_blob 84 = .ok (.getfield 44, 3) := by decide +kernel
theorem d_MD_blob_87 : decode b_MD_blob 87 = .ok (.aload_n 0, 1) := by decide +kernel
theorem d_MD_blob_88 : decode b_MD_blob 88 = .ok (.getfield 74, 3) := by decide +kernel
theorem d_MD_blob_91 : decode b_MD_blob 91 = .ok (.iconst 0, 1) := by decide +kernel
theorem d_MD_blob_92 : decode b_MD_blob 92 = .ok (.iastore, 1) := by decide +kernel
theorem d_MD_blob_93 : decode b_MD_blob 93 = .ok (.aload_n 0, 1) := by decide +kernel
theorem d_MD_blob_94 : decode b_MD_blob 94 = .ok (.dup, 1) := by decide +kernel
theorem d_MD_blob_95 : decode b_MD_blob 95 = .ok (.getfield 74, 3) := by decide +kernel
theorem d_MD_blob_98 : decode b_MD_blob 98 = .ok (.iconst 1, 1) := by decide +kernel
theorem d_MD_blob_99 : decode b_MD_blob 99 = .ok (.iadd, 1) := by decide +kernel
theorem d_MD_blob_100 : decode b_MD_blob 100 = .ok (.putfield 74, 3) := by decide +kernel
theorem d_MD_blob_103 : decode b_MD_blob 103 = .ok (.aload_n 0, 1) := by decide +kernel
theorem d_MD_blob_104 : decode b_MD_blob 104 = .ok (.getfield 74, 3) := by decide +kernel
theorem d_MD_blob_107 : decode b_MD_blob 107 = .ok (.iconst 1, 1) := by decide +kernel
theorem d_MD_blob_108 : decode b_MD_blob 108 = .ok (.isub, 1) := by decide +kernel
theorem d_MD_blob_109 : decode b_MD_blob 109 = .ok (.istore 5, 2) := by decide +kernel
theorem d_MD_blob_111 : decode b_MD_blob 111 = .ok (.iload_n 2, 1) := by decide +kernel
theorem d_MD_blob_112 : decode b_MD_blob 112 = .ok (.iconst 1, 1) := by decide +kernel
theorem d_MD_blob_113 : decode b_MD_blob 113 = .ok (.isub, 1) := by decide +kernel
theorem d_MD_blob_114 : decode b_MD_blob 114 = .ok (.istore 6, 2) := by decide +kernel
theorem d_MD_blob_116 : decode b_MD_blob 116 = .ok (.iload 6, 2) := by decide +kernel
theorem d_MD_blob_118 : decode b_MD_blob 118 = .ok (.ifCond .lt 50, 3) := by decide +kernel
theorem d_MD_blob_121 : decode b_MD_blob 121 = .ok (.aload_n 0, 1) := by decide +kernel
theorem d_MD_blob_122 : decode b_MD_blob 122 = .ok (.getfield 47, 3) := by decide +kernel
theorem d_MD_blob_125 : decode b_MD_blob 125 = .ok (.bipush 100, 2) := by decide +kernel
theorem d_MD_blob_127 : decode b_MD_blob 127 = .ok (.iload 5, 2) := by decide +kernel
theorem d_MD_blob_129 : decode b_MD_blob 129 = .ok (.imul, 1) := by decide +kernel
theorem d_MD_blob_130 : decode b_MD_blob 130 = .ok (.aload_n 0, 1) := by decide +kernel
theorem d_MD_blob_131 : decode b_MD_blob 131 = .ok (.getfield 44, 3) := by decide +kernel
theorem d_MD_blob_134 : decode b_MD_blob 134 = .ok (.iload 5, 2) := by decide +kernel
theorem d_MD_blob_136 : decode b_MD_blob 136 = .ok (.iaload, 1) := by decide +kernel
theorem d_MD_blob_137 : decode b_MD_blob 137 = .ok (.iadd, 1) := by decide +kernel
theorem d_MD_blob_138 : decode b_MD_blob 138 = .ok (.lload_n 3, 1) := by decide +kernel
theorem d_MD_blob_139 : decode b_MD_blob 139 = .ok (.bipush 8, 2) := by decide +kernel
theorem d_MD_blob_141 : decode b_MD_blob 141 = .ok (.iload 6, 2) := by decide +kernel
theorem d_MD_blob_143 : decode b_MD_blob 143 = .ok (.imul, 1) := by decide +kernel
theorem d_MD_blob_144 : decode b_MD_blob 144 = .ok (.lushr, 1) := by decide +kernel
theorem d_MD_blob_145 : decode b_MD_blob 145 = .ok (.ldc2_w 77, 3) := by decide +kernel
theorem d_MD_blob_148 : decode b_MD_blob 148 = .ok (.land, 1) := by decide +kernel
theorem d_MD_blob_149 : decode b_MD_blob 149 = .ok (.l2i, 1) := by decide +kernel
theorem d_MD_blob_150 : decode b_MD_blob 150 = .ok (.iastore, 1) := by decide +kernel
theorem d_MD_blob_151 : decode b_MD_blob 151 = .ok (.aload_n 0, 1) := by decide +kernel
theorem d_MD_blob_152 : decode b_MD_blob 152 = .ok (.getfield 44, 3) := by decide +kernel
theorem d_MD_blob_155 : decode b_MD_blob 155 = .ok (.iload 5, 2) := by decide +kernel
theorem d_MD_blob_157 : decode b_MD_blob 157 = .ok (.dup2, 1) := by decide +kernel
theorem d_MD_blob_158 : decode b_MD_blob 158 = .ok (.iaload, 1) := by decide +kernel
theorem d_MD_blob_159 : decode b_MD_blob 159 = .ok (.iconst 1, 1) := by decide +kernel
theorem d_MD_blob_160 : decode b_MD_blob 160 = .ok (.iadd, 1) := by decide +kernel
theorem d_MD_blob_161 : decode b_MD_blob 161 = .ok (.iastore, 1) := by decide +kernel
theorem d_MD_blob_162 : decode b_MD_blob 162 = .ok (.iinc 6 (-1), 3) := by decide +kernel
theorem d_MD_blob_165 : decode b_MD_blob 165 = .ok (.goto (-49), 3) := by decide +kernel
theorem d_MD_blob_168 : decode b_MD_blob 168 = .ok (.iconst 1, 1) := by decide +kernel
theorem d_MD_blob_169 : decode b_MD_blob 169 = .ok (.ireturn, 1) := by decide +kernel
noncomputable def q_MD_blob_116 (v_columns : Int32) (v_isBlob : Nat → Int32) (x_3 : Int64) (x_5 : Int32) : Nat → (Nat → Int32) → (Nat → Int32) → Int32 → Option (Int32 × Int32 × (Nat → Int32) × (Nat → Int32) × (Nat → Int32))
  | 0, _, _, _ => none
  | n + 1, v_size, v_blobs, x_6 => pu_br (x_6 < 0) (some ((1 : Int32), v_columns, v_isBlob, v_size, v_blobs)) (pu_ck (vp_in x_5 3) (pu_ck (vp_in (((100 : Int32) * x_5) + (v_size x_5.toNatClampNeg)) 300) (pu_nm (upd v_blobs (((100 : Int32) * x_5) + (v_size x_5.toNatClampNeg)).toNatClampNeg ((((x_3.toUInt64 >>> (((8 : Int32) * x_6).toInt64.toUInt64 &&& Int64.toUInt64 63)).toInt64) &&& (255 : Int64)).toInt32)) (fun a3 => pu_ck (vp_in x_5 3) (pu_ck (vp_in x_5 3) (pu_nm (upd v_size x_5.toNatClampNeg ((v_size x_5.toNatClampNeg) + (1 : Int32))) (fun a4 => pu_nm (x_6 + (-1 : Int32)) (fun t5 => q_MD_blob_116 v_columns v_isBlob x_3 x_5 n a4 a3 t5))))))))
noncomputable def q_MD_blob_103 (v_columns : Int32) (v_isBlob : Nat → Int32) (v_size : Nat → Int32) (v_blobs : Nat → Int32) (x_2 : Int32) (x_3 : Int64) : Option (Int32 × Int32 × (Nat → Int32) × (Nat → Int32) × (Nat → Int32)) :=
  pu_nm (v_columns - (1 : Int32)) (fun t1 => pu_nm (x_2 - (1 : Int32)) (fun t2 => q_MD_blob_116 v_columns v_isBlob x_3 t1 pu_fu v_size v_blobs t2))
noncomputable def q_MD_blob_69 (v_columns : Int32) (v_isBlob : Nat → Int32) (v_size : Nat → Int32) (v_blobs : Nat → Int32) (x_1 : Int32) (x_2 : Int32) (x_3 : Int64) : Option (Int32 × Int32 × (Nat → Int32) × (Nat → Int32) × (Nat → Int32)) :=
  pu_br (x_1 = 0) (pu_ck (vp_in v_columns 3) (pu_nm (upd v_isBlob v_columns.toNatClampNeg (vp_nar .boolean (1 : Int32))) (fun a6 => pu_ck (vp_in v_columns 3) (pu_nm (upd v_size v_columns.toNatClampNeg (0 : Int32)) (fun a7 => pu_nm (v_columns + (1 : Int32)) (fun t8 => q_MD_blob_103 t8 a6 a7 v_blobs x_2 x_3)))))) (q_MD_blob_103 v_columns v_isBlob v_size v_blobs x_2 x_3)
noncomputable def q_MD_blob_24 (v_columns : Int32) (v_isBlob : Nat → Int32) (v_size : Nat → Int32) (v_blobs : Nat → Int32) (x_1 : Int32) (x_2 : Int32) (x_3 : Int64) : Option (Int32 × Int32 × (Nat → Int32) × (Nat → Int32) × (Nat → Int32)) :=
  pu_br (x_1 = 0) (q_MD_blob_69 v_columns v_isBlob v_size v_blobs x_1 x_2 x_3) (pu_br (v_columns = 0) (some ((0 : Int32), v_columns, v_isBlob, v_size, v_blobs)) (pu_ck (vp_in (v_columns - (1 : Int32)) 3) (pu_br ((v_isBlob (v_columns - (1 : Int32)).toNatClampNeg) = 0) (some ((0 : Int32), v_columns, v_isBlob, v_size, v_blobs)) (pu_ck (vp_in (v_columns - (1 : Int32)) 3) (pu_br (((v_size (v_columns - (1 : Int32)).toNatClampNeg) + x_2) ≤ (100 : Int32)) (q_MD_blob_69 v_columns v_isBlob v_size v_blobs x_1 x_2 x_3) (some ((0 : Int32), v_columns, v_isBlob, v_size, v_blobs)))))))
noncomputable def f_MD_blob (v_columns : Int32) (v_isBlob : Nat → Int32) (v_size : Nat → Int32) (v_blobs : Nat → Int32) (x_1 : Int32) (x_2 : Int32) (x_3 : Int64) : Option (Int32 × Int32 × (Nat → Int32) × (Nat → Int32) × (Nat → Int32)) :=
  pu_br (x_2 < 0) (some ((0 : Int32), v_columns, v_isBlob, v_size, v_blobs)) (pu_br (x_2 ≤ (8 : Int32)) (pu_br (x_1 = 0) (pu_br (v_columns = (3 : Int32)) (some ((0 : Int32), v_columns, v_isBlob, v_size, v_blobs)) (q_MD_blob_24 v_columns v_isBlob v_size v_blobs x_1 x_2 x_3)) (q_MD_blob_24 v_columns v_isBlob v_size v_blobs x_1 x_2 x_3)) (some ((0 : Int32), v_columns, v_isBlob, v_size, v_blobs)))
abbrev rm_MD_blob : Room := { frames := 0, cells := 0, slots := 0, locals := 0 }
set_option maxHeartbeats 8000000 in
set_option maxRecDepth 100000 in
theorem c_MD_blob (l : Launch) (D : va_G) (cI cJ cB cZ : ClassId) (sz : Nat) (q_this : Nat) (q_now : Nat) (q_disk : Nat) (q_before : Nat) (q_recordPage : Nat) (q_recordBytes : Nat) (q_isBlob : Nat) (q_integer : Nat) (q_size : Nat) (q_blobs : Nat) (q_record : Nat) (q_cellLength : Nat) (q_row : Nat) (q_cell : Nat) (q_way : Nat) (q_turn : Nat) (q_used : Nat) (v_onDisk : Int32) (v_head : Int32) (v_headPages : Int32) (v_records : Int32) (v_up : Int32) (v_armed : Int32) (v_columns : Int32) (v_length : Int32) (v_kind : Int32) (v_cells : Int32) (v_last : Int32) (v_made : Int32) (v_deep : Int32) (v_at : Int32) (v_bad : Int32) (v_isBlob : Nat → Int32) (v_size : Nat → Int32) (v_blobs : Nat → Int32) (x_1 : Int32) (x_2 : Int32) (x_3 : Int64) (o_r : Int32) (o_columns : Int32) (o_isBlob : Nat → Int32) (o_size : Nat → Int32) (o_blobs : Nat → Int32) (hf : f_MD_blob v_columns v_isBlob v_size v_blobs x_1 x_2 x_3 = some (o_r, o_columns, o_isBlob, o_size, o_blobs)) : Met l y_MD_blob (.code y_MD_blob b_MD_blob 7 (some .boolean) :: pu_wA) rm_MD_blob (pu_pc D pu_cl (pu_ty cI cJ cB cZ) [.ref q_this, .int x_1, .int x_2, .long x_3] [(q_this, .inr (8, [.ref q_now, .ref q_disk, .ref q_before, .int v_onDisk, .int v_head, .int v_headPages, .int v_records, .ref q_recordPage, .ref q_recordBytes, .int v_up, .int v_armed, .int v_columns, .ref q_isBlob, .ref q_integer, .ref q_size, .ref q_blobs, .int v_length, .ref q_record, .int v_kind, .int v_cells, .int v_last, .ref q_cellLength, .ref q_row, .int v_made, .ref q_cell, .int v_deep, .ref q_way, .ref q_turn, .int v_at, .int v_bad, .ref q_used])), (q_isBlob, .inl (cZ, 3, .inl v_isBlob)), (q_size, .inl (cI, 3, .inl v_size)), (q_blobs, .inl (cI, 300, .inl v_blobs))] sz) (pu_qi D pu_cl (pu_ty cI cJ cB cZ) [(q_this, .inr (8, [.ref q_now, .ref q_disk, .ref q_before, .int v_onDisk, .int v_head, .int v_headPages, .int v_records, .ref q_recordPage, .ref q_recordBytes, .int v_up, .int v_armed, .int v_columns, .ref q_isBlob, .ref q_integer, .ref q_size, .ref q_blobs, .int v_length, .ref q_record, .int v_kind, .int v_cells, .int v_last, .ref q_cellLength, .ref q_row, .int v_made, .ref q_cell, .int v_deep, .ref q_way, .ref q_turn, .int v_at, .int v_bad, .ref q_used])), (q_isBlob, .inl (cZ, 3, .inl v_isBlob)), (q_size, .inl (cI, 3, .inl v_size)), (q_blobs, .inl (cI, 300, .inl v_blobs))] [(q_this, .inr (8, [.ref q_now, .ref q_disk, .ref q_before, .int v_onDisk, .int v_head, .int v_headPages, .int v_records, .ref q_recordPage, .ref q_recordBytes, .int v_up, .int v_armed, .int o_columns, .ref q_isBlob, .ref q_integer, .ref q_size, .ref q_blobs, .int v_length, .ref q_record, .int v_kind, .int v_cells, .int v_last, .ref q_cellLength, .ref q_row, .int v_made, .ref q_cell, .int v_deep, .ref q_way, .ref q_turn, .int v_at, .int v_bad, .ref q_used])), (q_isBlob, .inl (cZ, 3, .inl o_isBlob)), (q_size, .inl (cI, 3, .inl o_size)), (q_blobs, .inl (cI, 300, .inl o_blobs))] sz o_r) 0 0 (va_A [(q_this, .inr (8, [.ref q_now, .ref q_disk, .ref q_before, .int v_onDisk, .int v_head, .int v_headPages, .int v_records, .ref q_recordPage, .ref q_recordBytes, .int v_up, .int v_armed, .int v_columns, .ref q_isBlob, .ref q_integer, .ref q_size, .ref q_blobs, .int v_length, .ref q_record, .int v_kind, .int v_cells, .int v_last, .ref q_cellLength, .ref q_row, .int v_made, .ref q_cell, .int v_deep, .ref q_way, .ref q_turn, .int v_at, .int v_bad, .ref q_used])), (q_isBlob, .inl (cZ, 3, .inl v_isBlob)), (q_size, .inl (cI, 3, .inl v_size)), (q_blobs, .inl (cI, 300, .inl v_blobs))] sz) := by
  refine pu_mtz [.ref q_this, .int x_1, .int x_2, .long x_3] [(q_this, .inr (8, [.ref q_now, .ref q_disk, .ref q_before, .int v_onDisk, .int v_head, .int v_headPages, .int v_records, .ref q_recordPage, .ref q_recordBytes, .int v_up, .int v_armed, .int v_columns, .ref q_isBlob, .ref q_integer, .ref q_size, .ref q_blobs, .int v_length, .ref q_record, .int v_kind, .int v_cells, .int v_last, .ref q_cellLength, .ref q_row, .int v_made, .ref q_cell, .int v_deep, .ref q_way, .ref q_turn, .int v_at, .int v_bad, .ref q_used])), (q_isBlob, .inl (cZ, 3, .inl v_isBlob)), (q_size, .inl (cI, 3, .inl v_size)), (q_blobs, .inl (cI, 300, .inl v_blobs))] [(q_this, .inr (8, [.ref q_now, .ref q_disk, .ref q_before, .int v_onDisk, .int v_head, .int v_headPages, .int v_records, .ref q_recordPage, .ref q_recordBytes, .int v_up, .int v_armed, .int o_columns, .ref q_isBlob, .ref q_integer, .ref q_size, .ref q_blobs, .int v_length, .ref q_record, .int v_kind, .int v_cells, .int v_last, .ref q_cellLength, .ref q_row, .int v_made, .ref q_cell, .int v_deep, .ref q_way, .ref q_turn, .int v_at, .int v_bad, .ref q_used])), (q_isBlob, .inl (cZ, 3, .inl o_isBlob)), (q_size, .inl (cI, 3, .inl o_size)), (q_blobs, .inl (cI, 300, .inl o_blobs))] o_r (by decide) (Nat.le_of_ble_eq_true rfl) ?_
  intro p e s m args below meth c A Q ls hx hb hml hts hN hown hK hA hP hD hl hret0
  have hS : va_S A s.heap s.heap [] := va_S.rf
  have hl : lv_has ls 7 [(0, .ref q_this), (1, .int x_1), (2, .int x_2), (3, .long x_3)] := hl
  have hret : ∀ (pc : Nat) (ls : Array Slot) (H : Heap) (locs : List Loc) (y_0 : Int32) (y_1 : Int32) (y_2 : Nat → Int32) (y_3 : Nat → Int32) (y_4 : Nat → Int32), decode b_MD_blob pc = .ok (.ireturn, 1) → narrow .boolean (.int y_0) = .int y_0 → va_P D pu_cl [(q_this, .inr (8, [.ref q_now, .ref q_disk, .ref q_before, .int v_onDisk, .int v_head, .int v_headPages, .int v_records, .ref q_recordPage, .ref q_recordBytes, .int v_up, .int v_armed, .int y_1, .ref q_isBlob, .ref q_integer, .ref q_size, .ref q_blobs, .int v_length, .ref q_record, .int v_kind, .int v_cells, .int v_last, .ref q_cellLength, .ref q_row, .int v_made, .ref q_cell, .int v_deep, .ref q_way, .ref q_turn, .int v_at, .int v_bad, .ref q_used])), (q_isBlob, .inl (cZ, 3, .inl y_2)), (q_size, .inl (cI, 3, .inl y_3)), (q_blobs, .inl (cI, 300, .inl y_4))] H → va_D A [(q_this, .inr (8, [.ref q_now, .ref q_disk, .ref q_before, .int v_onDisk, .int v_head, .int v_headPages, .int v_records, .ref q_recordPage, .ref q_recordBytes, .int v_up, .int v_armed, .int y_1, .ref q_isBlob, .ref q_integer, .ref q_size, .ref q_blobs, .int v_length, .ref q_record, .int v_kind, .int v_cells, .int v_last, .ref q_cellLength, .ref q_row, .int v_made, .ref q_cell, .int v_deep, .ref q_way, .ref q_turn, .int v_at, .int v_bad, .ref q_used])), (q_isBlob, .inl (cZ, 3, .inl y_2)), (q_size, .inl (cI, 3, .inl y_3)), (q_blobs, .inl (cI, 300, .inl y_4))] → va_S A s.heap H locs → some (y_0, y_1, y_2, y_3, y_4) = some (o_r, o_columns, o_isBlob, o_size, o_blobs) → W p l e rm_MD_blob s m args below meth c H locs 0 0 Q (F0 m pc ls [.int y_0]) := by
    intro pc ls H locs y_0 y_1 y_2 y_3 y_4 hd hz hP hD hS hf
    cases hf
    exact hret0 pc ls H locs hd hz hP hD hS
  clear hret0
  unfold f_MD_blob at hf
  skip
  have lp_116 : ∀ (v_columns : Int32) (v_isBlob : Nat → Int32) (x_3 : Int64) (x_5 : Int32) (n116 : Nat) (v_size : Nat → Int32) (v_blobs : Nat → Int32) (x_6 : Int32) (H : Heap) (locs : List Loc) (ls : Array Slot), va_P D pu_cl [(q_this, .inr (8, [.ref q_now, .ref q_disk, .ref q_before, .int v_onDisk, .int v_head, .int v_headPages, .int v_records, .ref q_recordPage, .ref q_recordBytes, .int v_up, .int v_armed, .int v_columns, .ref q_isBlob, .ref q_integer, .ref q_size, .ref q_blobs, .int v_length, .ref q_record, .int v_kind, .int v_cells, .int v_last, .ref q_cellLength, .ref q_row, .int v_made, .ref q_cell, .int v_deep, .ref q_way, .ref q_turn, .int v_at, .int v_bad, .ref q_used])), (q_isBlob, .inl (cZ, 3, .inl v_isBlob)), (q_size, .inl (cI, 3, .inl v_size)), (q_blobs, .inl (cI, 300, .inl v_blobs))] H → va_D A [(q_this, .inr (8, [.ref q_now, .ref q_disk, .ref q_before, .int v_onDisk, .int v_head, .int v_headPages, .int v_records, .ref q_recordPage, .ref q_recordBytes, .int v_up, .int v_armed, .int v_columns, .ref q_isBlob, .ref q_integer, .ref q_size, .ref q_blobs, .int v_length, .ref q_record, .int v_kind, .int v_cells, .int v_last, .ref q_cellLength, .ref q_row, .int v_made, .ref q_cell, .int v_deep, .ref q_way, .ref q_turn, .int v_at, .int v_bad, .ref q_used])), (q_isBlob, .inl (cZ, 3, .inl v_isBlob)), (q_size, .inl (cI, 3, .inl v_size)), (q_blobs, .inl (cI, 300, .inl v_blobs))] → va_S A s.heap H locs → lv_has ls 7 [(0, .ref q_this), (3, .long x_3), (5, .int x_5), (6, .int x_6)] → q_MD_blob_116 v_columns v_isBlob x_3 x_5 n116 v_size v_blobs x_6 = some (o_r, o_columns, o_isBlob, o_size, o_blobs) → W p l e rm_MD_blob s m args below meth c H locs 0 0 Q (F0 m 116 ls []) := by
    intro v_columns v_isBlob x_3 x_5 n116
    induction n116 with
    | zero =>
      intro v_size v_blobs x_6 H locs ls hP hD hS hl hf
      rw [q_MD_blob_116] at hf
      cases hf
    | succ n116 ih_116 =>
      intro v_size v_blobs x_6 H locs ls hP hD hS hl hf
      rw [q_MD_blob_116] at hf
      refine lv_iload hx hb d_MD_blob_116 (lv_at hl 3 rfl) ?_
      refine lv_if_lt (tgt := 168) hx hb d_MD_blob_118 rfl (fun hc => ?_) (fun hc => ?_)
      · have hf := pu_br_pos hf hc
        refine lv_iconst (v := 1) hx hb d_MD_blob_168 rfl ?_
        exact hret _ _ _ _ (1 : Int32) v_columns v_isBlob v_size v_blobs d_MD_blob_169 (by decide) hP hD hS hf
      have hf := pu_br_neg hf hc
      refine lv_aload_n hx hb d_MD_blob_121 rfl (lv_at hl 0 rfl) ?_
      refine gf_MD_47 (v := .ref q_blobs) hx hb hts hN hown hK hP 0 rfl rfl d_MD_blob_122 ?_
      refine lv_bipush (v := 100) hx hb d_MD_blob_125 rfl ?_
      refine lv_iload hx hb d_MD_blob_127 (lv_at hl 2 rfl) ?_
      refine lv_imul hx hb d_MD_blob_129 ?_
      refine lv_aload_n hx hb d_MD_blob_130 rfl (lv_at hl 0 rfl) ?_
      refine gf_MD_44 (v := .ref q_size) hx hb hts hN hown hK hP 0 rfl rfl d_MD_blob_131 ?_
      refine lv_iload hx hb d_MD_blob_134 (lv_at hl 2 rfl) ?_
      obtain ⟨hin, hf⟩ := pu_ck_some hf
      refine va_iald hx hb hK hP 2 0 rfl rfl hin d_MD_blob_136 ?_
      refine lv_iadd hx hb d_MD_blob_137 ?_
      refine lv_lload_n hx hb d_MD_blob_138 rfl (lv_at hl 1 rfl) ?_
      refine lv_bipush (v := 8) hx hb d_MD_blob_139 rfl ?_
      refine lv_iload hx hb d_MD_blob_141 (lv_at hl 3 rfl) ?_
      refine lv_imul hx hb d_MD_blob_143 ?_
      refine lv_lushr hx hb d_MD_blob_144 rfl ?_
      refine lv_ldc2 (v := 255) hx hb hown (hts _ (pu_in10 _ (List.mem_of_getElem? (i := 29) rfl))) d_MD_blob_145 ?_
      refine lv_land hx hb d_MD_blob_148 ?_
      refine lv_l2i hx hb d_MD_blob_149 rfl ?_
      obtain ⟨hin, hf⟩ := pu_ck_some hf
      obtain ⟨a3, e_a3, hf⟩ := pu_nm_some hf
      refine va_iast hx hb hK hP hD hS 3 0 rfl rfl hin d_MD_blob_150 (fun H locs hP hD hS => ?_)
      have hP : va_P D pu_cl [(q_this, .inr (8, [.ref q_now, .ref q_disk, .ref q_before, .int v_onDisk, .int v_head, .int v_headPages, .int v_records, .ref q_recordPage, .ref q_recordBytes, .int v_up, .int v_armed, .int v_columns, .ref q_isBlob, .ref q_integer, .ref q_size, .ref q_blobs, .int v_length, .ref q_record, .int v_kind, .int v_cells, .int v_last, .ref q_cellLength, .ref q_row, .int v_made, .ref q_cell, .int v_deep, .ref q_way, .ref q_turn, .int v_at, .int v_bad, .ref q_used])), (q_isBlob, .inl (cZ, 3, .inl v_isBlob)), (q_size, .inl (cI, 3, .inl v_size)), (q_blobs, .inl (cI, 300, .inl a3))] H := by rw [e_a3]; exact hP
      have hD : va_D A [(q_this, .inr (8, [.ref q_now, .ref q_disk, .ref q_before, .int v_onDisk, .int v_head, .int v_headPages, .int v_records, .ref q_recordPage, .ref q_recordBytes, .int v_up, .int v_armed, .int v_columns, .ref q_isBlob, .ref q_integer, .ref q_size, .ref q_blobs, .int v_length, .ref q_record, .int v_kind, .int v_cells, .int v_last, .ref q_cellLength, .ref q_row, .int v_made, .ref q_cell, .int v_deep, .ref q_way, .ref q_turn, .int v_at, .int v_bad, .ref q_used])), (q_isBlob, .inl (cZ, 3, .inl v_isBlob)), (q_size, .inl (cI, 3, .inl v_size)), (q_blobs, .inl (cI, 300, .inl a3))] := by rw [e_a3]; exact hD
      refine lv_aload_n hx hb d_MD_blob_151 rfl (lv_at hl 0 rfl) ?_
      refine gf_MD_44 (v := .ref q_size) hx hb hts hN hown hK hP 0 rfl rfl d_MD_blob_152 ?_
      refine lv_iload hx hb d_MD_blob_155 (lv_at hl 2 rfl) ?_
      refine lv_dup2_11 hx hb d_MD_blob_157 rfl rfl ?_
      obtain ⟨hin, hf⟩ := pu_ck_some hf
      refine va_iald hx hb hK hP 2 0 rfl rfl hin d_MD_blob_158 ?_
      refine lv_iconst (v := 1) hx hb d_MD_blob_159 rfl ?_
      refine lv_iadd hx hb d_MD_blob_160 ?_
      obtain ⟨hin, hf⟩ := pu_ck_some hf
      obtain ⟨a4, e_a4, hf⟩ := pu_nm_some hf
      refine va_iast hx hb hK hP hD hS 2 0 rfl rfl hin d_MD_blob_161 (fun H locs hP hD hS => ?_)
      have hP : va_P D pu_cl [(q_this, .inr (8, [.ref q_now, .ref q_disk, .ref q_before, .int v_onDisk, .int v_head, .int v_headPages, .int v_records, .ref q_recordPage, .ref q_recordBytes, .int v_up, .int v_armed, .int v_columns, .ref q_isBlob, .ref q_integer, .ref q_size, .ref q_blobs, .int v_length, .ref q_record, .int v_kind, .int v_cells, .int v_last, .ref q_cellLength, .ref q_row, .int v_made, .ref q_cell, .int v_deep, .ref q_way, .ref q_turn, .int v_at, .int v_bad, .ref q_used])), (q_isBlob, .inl (cZ, 3, .inl v_isBlob)), (q_size, .inl (cI, 3, .inl a4)), (q_blobs, .inl (cI, 300, .inl a3))] H := by rw [e_a4]; exact hP
      have hD : va_D A [(q_this, .inr (8, [.ref q_now, .ref q_disk, .ref q_before, .int v_onDisk, .int v_head, .int v_headPages, .int v_records, .ref q_recordPage, .ref q_recordBytes, .int v_up, .int v_armed, .int v_columns, .ref q_isBlob, .ref q_integer, .ref q_size, .ref q_blobs, .int v_length, .ref q_record, .int v_kind, .int v_cells, .int v_last, .ref q_cellLength, .ref q_row, .int v_made, .ref q_cell, .int v_deep, .ref q_way, .ref q_turn, .int v_at, .int v_bad, .ref q_used])), (q_isBlob, .inl (cZ, 3, .inl v_isBlob)), (q_size, .inl (cI, 3, .inl a4)), (q_blobs, .inl (cI, 300, .inl a3))] := by rw [e_a4]; exact hD
      obtain ⟨t5, e_t5, hf⟩ := pu_nm_some hf
      refine lv_iinc (k := 3) (v := t5) hx hb d_MD_blob_162 hl rfl e_t5.symm (by decide) rfl (fun ls hl => ?_)
      have hl : lv_has ls 7 [(6, .int t5), (0, .ref q_this), (3, .long x_3), (5, .int x_5)] := hl
      refine lv_goto (tgt := 116) hx hb d_MD_blob_165 rfl ?_
      exact ih_116 a4 a3 t5 H locs ls hP hD hS (lv_sub hl [1, 2, 3, 0] rfl) hf
  have lb_103 : ∀ (v_columns : Int32) (v_isBlob : Nat → Int32) (v_size : Nat → Int32) (v_blobs : Nat → Int32) (x_2 : Int32) (x_3 : Int64) (H : Heap) (locs : List Loc) (ls : Array Slot), va_P D pu_cl [(q_this, .inr (8, [.ref q_now, .ref q_disk, .ref q_before, .int v_onDisk, .int v_head, .int v_headPages, .int v_records, .ref q_recordPage, .ref q_recordBytes, .int v_up, .int v_armed, .int v_columns, .ref q_isBlob, .ref q_integer, .ref q_size, .ref q_blobs, .int v_length, .ref q_record, .int v_kind, .int v_cells, .int v_last, .ref q_cellLength, .ref q_row, .int v_made, .ref q_cell, .int v_deep, .ref q_way, .ref q_turn, .int v_at, .int v_bad, .ref q_used])), (q_isBlob, .inl (cZ, 3, .inl v_isBlob)), (q_size, .inl (cI, 3, .inl v_size)), (q_blobs, .inl (cI, 300, .inl v_blobs))] H → va_D A [(q_this, .inr (8, [.ref q_now, .ref q_disk, .ref q_before, .int v_onDisk, .int v_head, .int v_headPages, .int v_records, .ref q_recordPage, .ref q_recordBytes, .int v_up, .int v_armed, .int v_columns, .ref q_isBlob, .ref q_integer, .ref q_size, .ref q_blobs, .int v_length, .ref q_record, .int v_kind, .int v_cells, .int v_last, .ref q_cellLength, .ref q_row, .int v_made, .ref q_cell, .int v_deep, .ref q_way, .ref q_turn, .int v_at, .int v_bad, .ref q_used])), (q_isBlob, .inl (cZ, 3, .inl v_isBlob)), (q_size, .inl (cI, 3, .inl v_size)), (q_blobs, .inl (cI, 300, .inl v_blobs))] → va_S A s.heap H locs → lv_has ls 7 [(0, .ref q_this), (2, .int x_2), (3, .long x_3)] → q_MD_blob_103 v_columns v_isBlob v_size v_blobs x_2 x_3 = some (o_r, o_columns, o_isBlob, o_size, o_blobs) → W p l e rm_MD_blob s m args below meth c H locs 0 0 Q (F0 m 103 ls []) := by
    intro v_columns v_isBlob v_size v_blobs x_2 x_3 H locs ls hP hD hS hl hf
    rw [q_MD_blob_103] at hf
    refine lv_aload_n hx hb d_MD_blob_103 rfl (lv_at hl 0 rfl) ?_
    refine gf_MD_74 (v := .int v_columns) hx hb hts hN hown hK hP 0 rfl rfl d_MD_blob_104 ?_
    refine lv_iconst (v := 1) hx hb d_MD_blob_107 rfl ?_
    refine lv_isub hx hb d_MD_blob_108 ?_
    obtain ⟨t1, e_t1, hf⟩ := pu_nm_some hf
    refine pu_ti e_t1 ?_
    refine lv_istore hx hb d_MD_blob_109 hl (by decide) rfl (fun ls hl => ?_)
    have hl : lv_has ls 7 [(5, .int t1), (0, .ref q_this), (2, .int x_2), (3, .long x_3)] := hl
    refine lv_iload_n hx hb d_MD_blob_111 rfl (lv_at hl 2 rfl) ?_
    refine lv_iconst (v := 1) hx hb d_MD_blob_112 rfl ?_
    refine lv_isub hx hb d_MD_blob_113 ?_
    obtain ⟨t2, e_t2, hf⟩ := pu_nm_some hf
    refine pu_ti e_t2 ?_
    refine lv_istore hx hb d_MD_blob_114 hl (by decide) rfl (fun ls hl => ?_)
    have hl : lv_has ls 7 [(6, .int t2), (5, .int t1), (0, .ref q_this), (2, .int x_2), (3, .long x_3)] := hl
    exact lp_116 v_columns v_isBlob x_3 t1 _ v_size v_blobs t2 H locs ls hP hD hS (lv_sub hl [2, 4, 1, 0] rfl) hf
  have lb_69 : ∀ (v_columns : Int32) (v_isBlob : Nat → Int32) (v_size : Nat → Int32) (v_blobs : Nat → Int32) (x_1 : Int32) (x_2 : Int32) (x_3 : Int64) (H : Heap) (locs : List Loc) (ls : Array Slot), va_P D pu_cl [(q_this, .inr (8, [.ref q_now, .ref q_disk, .ref q_before, .int v_onDisk, .int v_head, .int v_headPages, .int v_records, .ref q_recordPage, .ref q_recordBytes, .int v_up, .int v_armed, .int v_columns, .ref q_isBlob, .ref q_integer, .ref q_size, .ref q_blobs, .int v_length, .ref q_record, .int v_kind, .int v_cells, .int v_last, .ref q_cellLength, .ref q_row, .int v_made, .ref q_cell, .int v_deep, .ref q_way, .ref q_turn, .int v_at, .int v_bad, .ref q_used])), (q_isBlob, .inl (cZ, 3, .inl v_isBlob)), (q_size, .inl (cI, 3, .inl v_size)), (q_blobs, .inl (cI, 300, .inl v_blobs))] H → va_D A [(q_this, .inr (8, [.ref q_now, .ref q_disk, .ref q_before, .int v_onDisk, .int v_head, .int v_headPages, .int v_records, .ref q_recordPage, .ref q_recordBytes, .int v_up, .int v_armed, .int v_columns, .ref q_isBlob, .ref q_integer, .ref q_size, .ref q_blobs, .int v_length, .ref q_record, .int v_kind, .int v_cells, .int v_last, .ref q_cellLength, .ref q_row, .int v_made, .ref q_cell, .int v_deep, .ref q_way, .ref q_turn, .int v_at, .int v_bad, .ref q_used])), (q_isBlob, .inl (cZ, 3, .inl v_isBlob)), (q_size, .inl (cI, 3, .inl v_size)), (q_blobs, .inl (cI, 300, .inl v_blobs))] → va_S A s.heap H locs → lv_has ls 7 [(0, .ref q_this), (1, .int x_1), (2, .int x_2), (3, .long x_3)] → q_MD_blob_69 v_columns v_isBlob v_size v_blobs x_1 x_2 x_3 = some (o_r, o_columns, o_isBlob, o_size, o_blobs) → W p l e rm_MD_blob s m args below meth c H locs 0 0 Q (F0 m 69 ls []) := by
    intro v_columns v_isBlob v_size v_blobs x_1 x_2 x_3 H locs ls hP hD hS hl hf
    rw [q_MD_blob_69] at hf
    refine lv_iload_n hx hb d_MD_blob_69 rfl (lv_at hl 1 rfl) ?_
    refine lv_if_ne (tgt := 103) hx hb d_MD_blob_70 rfl (fun hc => ?_) (fun hc => ?_)
    · have hf := pu_br_neg hf hc
      exact lb_103 v_columns v_isBlob v_size v_blobs x_2 x_3 H locs ls hP hD hS (lv_sub hl [0, 2, 3] rfl) hf
    have hf := pu_br_pos hf hc
    refine lv_aload_n hx hb d_MD_blob_73 rfl (lv_at hl 0 rfl) ?_
    refine gf_MD_36 (v := .ref q_isBlob) hx hb hts hN hown hK hP 0 rfl rfl d_MD_blob_74 ?_
    refine lv_aload_n hx hb d_MD_blob_77 rfl (lv_at hl 0 rfl) ?_
    refine gf_MD_74 (v := .int v_columns) hx hb hts hN hown hK hP 0 rfl rfl d_MD_blob_78 ?_
    refine lv_iconst (v := 1) hx hb d_MD_blob_81 rfl ?_
    obtain ⟨hin, hf⟩ := pu_ck_some hf
    obtain ⟨a6, e_a6, hf⟩ := pu_nm_some hf
    refine va_zast hx hb hK hP hD hS 1 3 rfl rfl hin d_MD_blob_82 (fun H locs hP hD hS => ?_)
    have hP : va_P D pu_cl [(q_this, .inr (8, [.ref q_now, .ref q_disk, .ref q_before, .int v_onDisk, .int v_head, .int v_headPages, .int v_records, .ref q_recordPage, .ref q_recordBytes, .int v_up, .int v_armed, .int v_columns, .ref q_isBlob, .ref q_integer, .ref q_size, .ref q_blobs, .int v_length, .ref q_record, .int v_kind, .int v_cells, .int v_last, .ref q_cellLength, .ref q_row, .int v_made, .ref q_cell, .int v_deep, .ref q_way, .ref q_turn, .int v_at, .int v_bad, .ref q_used])), (q_isBlob, .inl (cZ, 3, .inl a6)), (q_size, .inl (cI, 3, .inl v_size)), (q_blobs, .inl (cI, 300, .inl v_blobs))] H := by rw [e_a6]; exact hP
    have hD : va_D A [(q_this, .inr (8, [.ref q_now, .ref q_disk, .ref q_before, .int v_onDisk, .int v_head, .int v_headPages, .int v_records, .ref q_recordPage, .ref q_recordBytes, .int v_up, .int v_armed, .int v_columns, .ref q_isBlob, .ref q_integer, .ref q_size, .ref q_blobs, .int v_length, .ref q_record, .int v_kind, .int v_cells, .int v_last, .ref q_cellLength, .ref q_row, .int v_made, .ref q_cell, .int v_deep, .ref q_way, .ref q_turn, .int v_at, .int v_bad, .ref q_used])), (q_isBlob, .inl (cZ, 3, .inl a6)), (q_size, .inl (cI, 3, .inl v_size)), (q_blobs, .inl (cI, 300, .inl v_blobs))] := by rw [e_a6]; exact hD
    refine lv_aload_n hx hb d_MD_blob_83 rfl (lv_at hl 0 rfl) ?_
    refine gf_MD_44 (v := .ref q_size) hx hb hts hN hown hK hP 0 rfl rfl d_MD_blob_84 ?_
    refine lv_aload_n hx hb d_MD_blob_87 rfl (lv_at hl 0 rfl) ?_
    refine gf_MD_74 (v := .int v_columns) hx hb hts hN hown hK hP 0 rfl rfl d_MD_blob_88 ?_
    refine lv_iconst (v := 0) hx hb d_MD_blob_91 rfl ?_
    obtain ⟨hin, hf⟩ := pu_ck_some hf
    obtain ⟨a7, e_a7, hf⟩ := pu_nm_some hf
    refine va_iast hx hb hK hP hD hS 2 0 rfl rfl hin d_MD_blob_92 (fun H locs hP hD hS => ?_)
    have hP : va_P D pu_cl [(q_this, .inr (8, [.ref q_now, .ref q_disk, .ref q_before, .int v_onDisk, .int v_head, .int v_headPages, .int v_records, .ref q_recordPage, .ref q_recordBytes, .int v_up, .int v_armed, .int v_columns, .ref q_isBlob, .ref q_integer, .ref q_size, .ref q_blobs, .int v_length, .ref q_record, .int v_kind, .int v_cells, .int v_last, .ref q_cellLength, .ref q_row, .int v_made, .ref q_cell, .int v_deep, .ref q_way, .ref q_turn, .int v_at, .int v_bad, .ref q_used])), (q_isBlob, .inl (cZ, 3, .inl a6)), (q_size, .inl (cI, 3, .inl a7)), (q_blobs, .inl (cI, 300, .inl v_blobs))] H := by rw [e_a7]; exact hP
    have hD : va_D A [(q_this, .inr (8, [.ref q_now, .ref q_disk, .ref q_before, .int v_onDisk, .int v_head, .int v_headPages, .int v_records, .ref q_recordPage, .ref q_recordBytes, .int v_up, .int v_armed, .int v_columns, .ref q_isBlob, .ref q_integer, .ref q_size, .ref q_blobs, .int v_length, .ref q_record, .int v_kind, .int v_cells, .int v_last, .ref q_cellLength, .ref q_row, .int v_made, .ref q_cell, .int v_deep, .ref q_way, .ref q_turn, .int v_at, .int v_bad, .ref q_used])), (q_isBlob, .inl (cZ, 3, .inl a6)), (q_size, .inl (cI, 3, .inl a7)), (q_blobs, .inl (cI, 300, .inl v_blobs))] := by rw [e_a7]; exact hD
    refine lv_aload_n hx hb d_MD_blob_93 rfl (lv_at hl 0 rfl) ?_
    refine lv_dup hx hb d_MD_blob_94 rfl ?_
    refine gf_MD_74 (v := .int v_columns) hx hb hts hN hown hK hP 0 rfl rfl d_MD_blob_95 ?_
    refine lv_iconst (v := 1) hx hb d_MD_blob_98 rfl ?_
    refine lv_iadd hx hb d_MD_blob_99 ?_
    obtain ⟨t8, e_t8, hf⟩ := pu_nm_some hf
    refine pu_ti e_t8 ?_
    refine pf_MD_74 (v := .int t8) hx hb hts hN hown hK hP hD hS 0 rfl rfl rfl (Nat.le_of_ble_eq_true rfl) d_MD_blob_100 (fun H locs hP hD hS => ?_)
    have hP : va_P D pu_cl [(q_this, .inr (8, [.ref q_now, .ref q_disk, .ref q_before, .int v_onDisk, .int v_head, .int v_headPages, .int v_records, .ref q_recordPage, .ref q_recordBytes, .int v_up, .int v_armed, .int t8, .ref q_isBlob, .ref q_integer, .ref q_size, .ref q_blobs, .int v_length, .ref q_record, .int v_kind, .int v_cells, .int v_last, .ref q_cellLength, .ref q_row, .int v_made, .ref q_cell, .int v_deep, .ref q_way, .ref q_turn, .int v_at, .int v_bad, .ref q_used])), (q_isBlob, .inl (cZ, 3, .inl a6)), (q_size, .inl (cI, 3, .inl a7)), (q_blobs, .inl (cI, 300, .inl v_blobs))] H := hP
    have hD : va_D A [(q_this, .inr (8, [.ref q_now, .ref q_disk, .ref q_before, .int v_onDisk, .int v_head, .int v_headPages, .int v_records, .ref q_recordPage, .ref q_recordBytes, .int v_up, .int v_armed, .int t8, .ref q_isBlob, .ref q_integer, .ref q_size, .ref q_blobs, .int v_length, .ref q_record, .int v_kind, .int v_cells, .int v_last, .ref q_cellLength, .ref q_row, .int v_made, .ref q_cell, .int v_deep, .ref q_way, .ref q_turn, .int v_at, .int v_bad, .ref q_used])), (q_isBlob, .inl (cZ, 3, .inl a6)), (q_size, .inl (cI, 3, .inl a7)), (q_blobs, .inl (cI, 300, .inl v_blobs))] := hD
    exact lb_103 t8 a6 a7 v_blobs x_2 x_3 H locs ls hP hD hS (lv_sub hl [0, 2, 3] rfl) hf
  have lb_24 : ∀ (v_columns : Int32) (v_isBlob : Nat → Int32) (v_size : Nat → Int32) (v_blobs : Nat → Int32) (x_1 : Int32) (x_2 : Int32) (x_3 : Int64) (H : Heap) (locs : List Loc) (ls : Array Slot), va_P D pu_cl [(q_this, .inr (8, [.ref q_now, .ref q_disk, .ref q_before, .int v_onDisk, .int v_head, .int v_headPages, .int v_records, .ref q_recordPage, .ref q_recordBytes, .int v_up, .int v_armed, .int v_columns, .ref q_isBlob, .ref q_integer, .ref q_size, .ref q_blobs, .int v_length, .ref q_record, .int v_kind, .int v_cells, .int v_last, .ref q_cellLength, .ref q_row, .int v_made, .ref q_cell, .int v_deep, .ref q_way, .ref q_turn, .int v_at, .int v_bad, .ref q_used])), (q_isBlob, .inl (cZ, 3, .inl v_isBlob)), (q_size, .inl (cI, 3, .inl v_size)), (q_blobs, .inl (cI, 300, .inl v_blobs))] H → va_D A [(q_this, .inr (8, [.ref q_now, .ref q_disk, .ref q_before, .int v_onDisk, .int v_head, .int v_headPages, .int v_records, .ref q_recordPage, .ref q_recordBytes, .int v_up, .int v_armed, .int v_columns, .ref q_isBlob, .ref q_integer, .ref q_size, .ref q_blobs, .int v_length, .ref q_record, .int v_kind, .int v_cells, .int v_last, .ref q_cellLength, .ref q_row, .int v_made, .ref q_cell, .int v_deep, .ref q_way, .ref q_turn, .int v_at, .int v_bad, .ref q_used])), (q_isBlob, .inl (cZ, 3, .inl v_isBlob)), (q_size, .inl (cI, 3, .inl v_size)), (q_blobs, .inl (cI, 300, .inl v_blobs))] → va_S A s.heap H locs → lv_has ls 7 [(0, .ref q_this), (1, .int x_1), (2, .int x_2), (3, .long x_3)] → q_MD_blob_24 v_columns v_isBlob v_size v_blobs x_1 x_2 x_3 = some (o_r, o_columns, o_isBlob, o_size, o_blobs) → W p l e rm_MD_blob s m args below meth c H locs 0 0 Q (F0 m 24 ls []) := by
    intro v_columns v_isBlob v_size v_blobs x_1 x_2 x_3 H locs ls hP hD hS hl hf
    rw [q_MD_blob_24] at hf
    refine lv_iload_n hx hb d_MD_blob_24 rfl (lv_at hl 1 rfl) ?_
    refine lv_if_eq (tgt := 69) hx hb d_MD_blob_25 rfl (fun hc => ?_) (fun hc => ?_)
    · have hf := pu_br_pos hf hc
      exact lb_69 v_columns v_isBlob v_size v_blobs x_1 x_2 x_3 H locs ls hP hD hS (lv_sub hl [0, 1, 2, 3] rfl) hf
    have hf := pu_br_neg hf hc
    refine lv_aload_n hx hb d_MD_blob_28 rfl (lv_at hl 0 rfl) ?_
    refine gf_MD_74 (v := .int v_columns) hx hb hts hN hown hK hP 0 rfl rfl d_MD_blob_29 ?_
    refine lv_if_eq (tgt := 67) hx hb d_MD_blob_32 rfl (fun hc => ?_) (fun hc => ?_)
    · have hf := pu_br_pos hf hc
      refine lv_iconst (v := 0) hx hb d_MD_blob_67 rfl ?_
      exact hret _ _ _ _ (0 : Int32) v_columns v_isBlob v_size v_blobs d_MD_blob_68 (by decide) hP hD hS hf
    have hf := pu_br_neg hf hc
    refine lv_aload_n hx hb d_MD_blob_35 rfl (lv_at hl 0 rfl) ?_
    refine gf_MD_36 (v := .ref q_isBlob) hx hb hts hN hown hK hP 0 rfl rfl d_MD_blob_36 ?_
    refine lv_aload_n hx hb d_MD_blob_39 rfl (lv_at hl 0 rfl) ?_
    refine gf_MD_74 (v := .int v_columns) hx hb hts hN hown hK hP 0 rfl rfl d_MD_blob_40 ?_
    refine lv_iconst (v := 1) hx hb d_MD_blob_43 rfl ?_
    refine lv_isub hx hb d_MD_blob_44 ?_
    obtain ⟨hin, hf⟩ := pu_ck_some hf
    refine va_zald hx hb hK hP 1 3 rfl rfl hin d_MD_blob_45 ?_
    refine lv_if_eq (tgt := 67) hx hb d_MD_blob_46 rfl (fun hc => ?_) (fun hc => ?_)
    · have hf := pu_br_pos hf hc
      refine lv_iconst (v := 0) hx hb d_MD_blob_67 rfl ?_
      exact hret _ _ _ _ (0 : Int32) v_columns v_isBlob v_size v_blobs d_MD_blob_68 (by decide) hP hD hS hf
    have hf := pu_br_neg hf hc
    refine lv_aload_n hx hb d_MD_blob_49 rfl (lv_at hl 0 rfl) ?_
    refine gf_MD_44 (v := .ref q_size) hx hb hts hN hown hK hP 0 rfl rfl d_MD_blob_50 ?_
    refine lv_aload_n hx hb d_MD_blob_53 rfl (lv_at hl 0 rfl) ?_
    refine gf_MD_74 (v := .int v_columns) hx hb hts hN hown hK hP 0 rfl rfl d_MD_blob_54 ?_
    refine lv_iconst (v := 1) hx hb d_MD_blob_57 rfl ?_
    refine lv_isub hx hb d_MD_blob_58 ?_
    obtain ⟨hin, hf⟩ := pu_ck_some hf
    refine va_iald hx hb hK hP 2 0 rfl rfl hin d_MD_blob_59 ?_
    refine lv_iload_n hx hb d_MD_blob_60 rfl (lv_at hl 2 rfl) ?_
    refine lv_iadd hx hb d_MD_blob_61 ?_
    refine lv_bipush (v := 100) hx hb d_MD_blob_62 rfl ?_
    refine lv_icmp_le (tgt := 69) hx hb d_MD_blob_64 rfl (fun hc => ?_) (fun hc => ?_)
    · have hf := pu_br_pos hf hc
      exact lb_69 v_columns v_isBlob v_size v_blobs x_1 x_2 x_3 H locs ls hP hD hS (lv_sub hl [0, 1, 2, 3] rfl) hf
    have hf := pu_br_neg hf hc
    refine lv_iconst (v := 0) hx hb d_MD_blob_67 rfl ?_
    exact hret _ _ _ _ (0 : Int32) v_columns v_isBlob v_size v_blobs d_MD_blob_68 (by decide) hP hD hS hf
  obtain ⟨H, hH⟩ : ∃ H, H = s.heap := ⟨_, rfl⟩
  obtain ⟨locs, hlocs⟩ : ∃ locs : List Loc, locs = [] := ⟨_, rfl⟩
  have hP : va_P D pu_cl [(q_this, .inr (8, [.ref q_now, .ref q_disk, .ref q_before, .int v_onDisk, .int v_head, .int v_headPages, .int v_records, .ref q_recordPage, .ref q_recordBytes, .int v_up, .int v_armed, .int v_columns, .ref q_isBlob, .ref q_integer, .ref q_size, .ref q_blobs, .int v_length, .ref q_record, .int v_kind, .int v_cells, .int v_last, .ref q_cellLength, .ref q_row, .int v_made, .ref q_cell, .int v_deep, .ref q_way, .ref q_turn, .int v_at, .int v_bad, .ref q_used])), (q_isBlob, .inl (cZ, 3, .inl v_isBlob)), (q_size, .inl (cI, 3, .inl v_size)), (q_blobs, .inl (cI, 300, .inl v_blobs))] H := by rw [hH]; exact hP
  have hS : va_S A s.heap H locs := by rw [hH, hlocs]; exact hS
  have goal : W p l e rm_MD_blob s m args below meth c H locs 0 0 Q (F0 m 0 ls []) := by
    clear hH hlocs
    refine lv_iload_n hx hb d_MD_blob_0 rfl (lv_at hl 2 rfl) ?_
    refine lv_if_lt (tgt := 10) hx hb d_MD_blob_1 rfl (fun hc => ?_) (fun hc => ?_)
    · have hf := pu_br_pos hf hc
      refine lv_iconst (v := 0) hx hb d_MD_blob_10 rfl ?_
      exact hret _ _ _ _ (0 : Int32) v_columns v_isBlob v_size v_blobs d_MD_blob_11 (by decide) hP hD hS hf
    have hf := pu_br_neg hf hc
    refine lv_iload_n hx hb d_MD_blob_4 rfl (lv_at hl 2 rfl) ?_
    refine lv_bipush (v := 8) hx hb d_MD_blob_5 rfl ?_
    refine lv_icmp_le (tgt := 12) hx hb d_MD_blob_7 rfl (fun hc => ?_) (fun hc => ?_)
    · have hf := pu_br_pos hf hc
      refine lv_iload_n hx hb d_MD_blob_12 rfl (lv_at hl 1 rfl) ?_
      refine lv_if_ne (tgt := 24) hx hb d_MD_blob_13 rfl (fun hc => ?_) (fun hc => ?_)
      · have hf := pu_br_neg hf hc
        exact lb_24 v_columns v_isBlob v_size v_blobs x_1 x_2 x_3 H locs ls hP hD hS (lv_sub hl [0, 1, 2, 3] rfl) hf
      have hf := pu_br_pos hf hc
      refine lv_aload_n hx hb d_MD_blob_16 rfl (lv_at hl 0 rfl) ?_
      refine gf_MD_74 (v := .int v_columns) hx hb hts hN hown hK hP 0 rfl rfl d_MD_blob_17 ?_
      refine lv_iconst (v := 3) hx hb d_MD_blob_20 rfl ?_
      refine lv_icmp_eq (tgt := 67) hx hb d_MD_blob_21 rfl (fun hc => ?_) (fun hc => ?_)
      · have hf := pu_br_pos hf hc
        refine lv_iconst (v := 0) hx hb d_MD_blob_67 rfl ?_
        exact hret _ _ _ _ (0 : Int32) v_columns v_isBlob v_size v_blobs d_MD_blob_68 (by decide) hP hD hS hf
      have hf := pu_br_neg hf hc
      exact lb_24 v_columns v_isBlob v_size v_blobs x_1 x_2 x_3 H locs ls hP hD hS (lv_sub hl [0, 1, 2, 3] rfl) hf
    have hf := pu_br_neg hf hc
    refine lv_iconst (v := 0) hx hb d_MD_blob_10 rfl ?_
    exact hret _ _ _ _ (0 : Int32) v_columns v_isBlob v_size v_blobs d_MD_blob_11 (by decide) hP hD hS hf
  rw [hH, hlocs] at goal
  exact goal
theorem d_MD_clear_0 : decode b_MD_clear 0 = .ok (.aload_n 0, 1) := by decide +kernel
theorem d_MD_clear_1 : decode b_MD_clear 1 = .ok (.iconst 0, 1) := by decide +kernel
theorem d_MD_clear_2 : decode b_MD_clear 2 = .ok (.putfield 74, 3) := by decide +kernel
theorem d_MD_clear_5 : decode b_MD_clear 5 = .ok (.return_, 1) := by decide +kernel
noncomputable def f_MD_clear (v_columns : Int32) : Option (Int32) :=
  some (0 : Int32)
abbrev rm_MD_clear : Room := { frames := 0, cells := 0, slots := 0, locals := 0 }
set_option maxHeartbeats 8000000 in
set_option maxRecDepth 100000 in
theorem c_MD_clear (l : Launch) (D : va_G) (cI cJ cB cZ : ClassId) (sz : Nat) (q_this : Nat) (q_now : Nat) (q_disk : Nat) (q_before : Nat) (q_recordPage : Nat) (q_recordBytes : Nat) (q_isBlob : Nat) (q_integer : Nat) (q_size : Nat) (q_blobs : Nat) (q_record : Nat) (q_cellLength : Nat) (q_row : Nat) (q_cell : Nat) (q_way : Nat) (q_turn : Nat) (q_used : Nat) (v_onDisk : Int32) (v_head : Int32) (v_headPages : Int32) (v_records : Int32) (v_up : Int32) (v_armed : Int32) (v_columns : Int32) (v_length : Int32) (v_kind : Int32) (v_cells : Int32) (v_last : Int32) (v_made : Int32) (v_deep : Int32) (v_at : Int32) (v_bad : Int32) (o_columns : Int32) (hf : f_MD_clear v_columns = some o_columns) : Met l y_MD_clear (.code y_MD_clear b_MD_clear 1 none :: pu_wA) rm_MD_clear (pu_pc D pu_cl (pu_ty cI cJ cB cZ) [.ref q_this] [(q_this, .inr (8, [.ref q_now, .ref q_disk, .ref q_before, .int v_onDisk, .int v_head, .int v_headPages, .int v_records, .ref q_recordPage, .ref q_recordBytes, .int v_up, .int v_armed, .int v_columns, .ref q_isBlob, .ref q_integer, .ref q_size, .ref q_blobs, .int v_length, .ref q_record, .int v_kind, .int v_cells, .int v_last, .ref q_cellLength, .ref q_row, .int v_made, .ref q_cell, .int v_deep, .ref q_way, .ref q_turn, .int v_at, .int v_bad, .ref q_used]))] sz) (pu_qv D pu_cl (pu_ty cI cJ cB cZ) [(q_this, .inr (8, [.ref q_now, .ref q_disk, .ref q_before, .int v_onDisk, .int v_head, .int v_headPages, .int v_records, .ref q_recordPage, .ref q_recordBytes, .int v_up, .int v_armed, .int v_columns, .ref q_isBlob, .ref q_integer, .ref q_size, .ref q_blobs, .int v_length, .ref q_record, .int v_kind, .int v_cells, .int v_last, .ref q_cellLength, .ref q_row, .int v_made, .ref q_cell, .int v_deep, .ref q_way, .ref q_turn, .int v_at, .int v_bad, .ref q_used]))] [(q_this, .inr (8, [.ref q_now, .ref q_disk, .ref q_before, .int v_onDisk, .int v_head, .int v_headPages, .int v_records, .ref q_recordPage, .ref q_recordBytes, .int v_up, .int v_armed, .int o_columns, .ref q_isBlob, .ref q_integer, .ref q_size, .ref q_blobs, .int v_length, .ref q_record, .int v_kind, .int v_cells, .int v_last, .ref q_cellLength, .ref q_row, .int v_made, .ref q_cell, .int v_deep, .ref q_way, .ref q_turn, .int v_at, .int v_bad, .ref q_used]))] sz) 0 0 (va_A [(q_this, .inr (8, [.ref q_now, .ref q_disk, .ref q_before, .int v_onDisk, .int v_head, .int v_headPages, .int v_records, .ref q_recordPage, .ref q_recordBytes, .int v_up, .int v_armed, .int v_columns, .ref q_isBlob, .ref q_integer, .ref q_size, .ref q_blobs, .int v_length, .ref q_record, .int v_kind, .int v_cells, .int v_last, .ref q_cellLength, .ref q_row, .int v_made, .ref q_cell, .int v_deep, .ref q_way, .ref q_turn, .int v_at, .int v_bad, .ref q_used]))] sz) := by
  refine pu_mtv [.ref q_this] [(q_this, .inr (8, [.ref q_now, .ref q_disk, .ref q_before, .int v_onDisk, .int v_head, .int v_headPages, .int v_records, .ref q_recordPage, .ref q_recordBytes, .int v_up, .int v_armed, .int v_columns, .ref q_isBlob, .ref q_integer, .ref q_size, .ref q_blobs, .int v_length, .ref q_record, .int v_kind, .int v_cells, .int v_last, .ref q_cellLength, .ref q_row, .int v_made, .ref q_cell, .int v_deep, .ref q_way, .ref q_turn, .int v_at, .int v_bad, .ref q_used]))] [(q_this, .inr (8, [.ref q_now, .ref q_disk, .ref q_before, .int v_onDisk, .int v_head, .int v_headPages, .int v_records, .ref q_recordPage, .ref q_recordBytes, .int v_up, .int v_armed, .int o_columns, .ref q_isBlob, .ref q_integer, .ref q_size, .ref q_blobs, .int v_length, .ref q_record, .int v_kind, .int v_cells, .int v_last, .ref q_cellLength, .ref q_row, .int v_made, .ref q_cell, .int v_deep, .ref q_way, .ref q_turn, .int v_at, .int v_bad, .ref q_used]))] (by decide) (Nat.le_of_ble_eq_true rfl) ?_
  intro p e s m args below meth c A Q ls hx hb hml hts hN hown hK hA hP hD hl hret0
  have hS : va_S A s.heap s.heap [] := va_S.rf
  have hl : lv_has ls 1 [(0, .ref q_this)] := hl
  have hret : ∀ (pc : Nat) (ls : Array Slot) (H : Heap) (locs : List Loc) (y_0 : Int32), decode b_MD_clear pc = .ok (.return_, 1) → va_P D pu_cl [(q_this, .inr (8, [.ref q_now, .ref q_disk, .ref q_before, .int v_onDisk, .int v_head, .int v_headPages, .int v_records, .ref q_recordPage, .ref q_recordBytes, .int v_up, .int v_armed, .int y_0, .ref q_isBlob, .ref q_integer, .ref q_size, .ref q_blobs, .int v_length, .ref q_record, .int v_kind, .int v_cells, .int v_last, .ref q_cellLength, .ref q_row, .int v_made, .ref q_cell, .int v_deep, .ref q_way, .ref q_turn, .int v_at, .int v_bad, .ref q_used]))] H → va_D A [(q_this, .inr (8, [.ref q_now, .ref q_disk, .ref q_before, .int v_onDisk, .int v_head, .int v_headPages, .int v_records, .ref q_recordPage, .ref q_recordBytes, .int v_up, .int v_armed, .int y_0, .ref q_isBlob, .ref q_integer, .ref q_size, .ref q_blobs, .int v_length, .ref q_record, .int v_kind, .int v_cells, .int v_last, .ref q_cellLength, .ref q_row, .int v_made, .ref q_cell, .int v_deep, .ref q_way, .ref q_turn, .int v_at, .int v_bad, .ref q_used]))] → va_S A s.heap H locs → some y_0 = some o_columns → W p l e rm_MD_clear s m args below meth c H locs 0 0 Q (F0 m pc ls []) := by
    intro pc ls H locs y_0 hd hP hD hS hf
    cases hf
    exact hret0 pc ls H locs hd hP hD hS
  clear hret0
  unfold f_MD_clear at hf
  skip
  obtain ⟨H, hH⟩ : ∃ H, H = s.heap := ⟨_, rfl⟩
  obtain ⟨locs, hlocs⟩ : ∃ locs : List Loc, locs = [] := ⟨_, rfl⟩
  have hP : va_P D pu_cl [(q_this, .inr (8, [.ref q_now, .ref q_disk, .ref q_before, .int v_onDisk, .int v_head, .int v_headPages, .int v_records, .ref q_recordPage, .ref q_recordBytes, .int v_up, .int v_armed, .int v_columns, .ref q_isBlob, .ref q_integer, .ref q_size, .ref q_blobs, .int v_length, .ref q_record, .int v_kind, .int v_cells, .int v_last, .ref q_cellLength, .ref q_row, .int v_made, .ref q_cell, .int v_deep, .ref q_way, .ref q_turn, .int v_at, .int v_bad, .ref q_used]))] H := by rw [hH]; exact hP
  have hS : va_S A s.heap H locs := by rw [hH, hlocs]; exact hS
  have goal : W p l e rm_MD_clear s m args below meth c H locs 0 0 Q (F0 m 0 ls []) := by
    clear hH hlocs
    refine lv_aload_n hx hb d_MD_clear_0 rfl (lv_at hl 0 rfl) ?_
    refine lv_iconst (v := 0) hx hb d_MD_clear_1 rfl ?_
    refine pf_MD_74 (v := .int (0 : Int32)) hx hb hts hN hown hK hP hD hS 0 rfl rfl rfl (Nat.le_of_ble_eq_true rfl) d_MD_clear_2 (fun H locs hP hD hS => ?_)
    have hP : va_P D pu_cl [(q_this, .inr (8, [.ref q_now, .ref q_disk, .ref q_before, .int v_onDisk, .int v_head, .int v_headPages, .int v_records, .ref q_recordPage, .ref q_recordBytes, .int v_up, .int v_armed, .int (0 : Int32), .ref q_isBlob, .ref q_integer, .ref q_size, .ref q_blobs, .int v_length, .ref q_record, .int v_kind, .int v_cells, .int v_last, .ref q_cellLength, .ref q_row, .int v_made, .ref q_cell, .int v_deep, .ref q_way, .ref q_turn, .int v_at, .int v_bad, .ref q_used]))] H := hP
    have hD : va_D A [(q_this, .inr (8, [.ref q_now, .ref q_disk, .ref q_before, .int v_onDisk, .int v_head, .int v_headPages, .int v_records, .ref q_recordPage, .ref q_recordBytes, .int v_up, .int v_armed, .int (0 : Int32), .ref q_isBlob, .ref q_integer, .ref q_size, .ref q_blobs, .int v_length, .ref q_record, .int v_kind, .int v_cells, .int v_last, .ref q_cellLength, .ref q_row, .int v_made, .ref q_cell, .int v_deep, .ref q_way, .ref q_turn, .int v_at, .int v_bad, .ref q_used]))] := hD
    exact hret _ _ _ _ (0 : Int32) d_MD_clear_5 hP hD hS hf
  rw [hH, hlocs] at goal
  exact goal
theorem d_MD_codeOf_0 : decode b_MD_codeOf 0 = .ok (.lload_n 0, 1) := by decide +kernel
theorem d_MD_codeOf_1 : decode b_MD_codeOf 1 = .ok (.lconst 0, 1) := by decide +kernel
theorem d_MD_codeOf_2 : decode b_MD_codeOf 2 = .ok (.lcmp, 1) := by decide +kernel
theorem d_MD_codeOf_3 : decode b_MD_codeOf 3 = .ok (.ifCond .ne 6, 3) := by decide +kernel
theorem d_MD_codeOf_6 : decode b_MD_codeOf 6 = .ok (.bipush 8, 2) := by decide +kernel
theorem d_MD_codeOf_8 : decode b_MD_codeOf 8 = .ok (.ireturn, 1) := by decide +kernel
theorem d_MD_codeOf_9 : decode b_MD_codeOf 9 = .ok (.lload_n 0, 1) := by decide +kernel
theorem d_MD_codeOf_10 : decode b_MD_codeOf 10 = .ok (.lconst 1, 1) := by decide +kernel
theorem d_MD_codeOf_11 : decode b_MD_codeOf 11 = .ok (.lcmp, 1) := by decide +kernel
theorem d_MD_codeOf_12 : decode b_MD_codeOf 12 = .ok (.ifCond .ne 6, 3) := by decide +kernel
theorem d_MD_codeOf_15 : decode b_MD_codeOf 15 = .ok (.bipush 9, 2) := by decide +kernel
theorem d_MD_codeOf_17 : decode b_MD_codeOf 17 = .ok (.ireturn, 1) := by decide +kernel
theorem d_MD_codeOf_18 : decode b_MD_codeOf 18 = .ok (.lload_n 0, 1) := by decide +kernel
theorem d_MD_codeOf_19 : decode b_MD_codeOf 19 = .ok (.ldc2_w 79, 3) := by decide +kernel
theorem d_MD_codeOf_22 : decode b_MD_codeOf 22 = .ok (.lcmp, 1) := by decide +kernel
theorem d_MD_codeOf_23 : decode b_MD_codeOf 23 = .ok (.ifCond .lt 15, 3) := by decide +kernel
theorem d_MD_codeOf_26 : decode b_MD_codeOf 26 = .ok (.lload_n 0, 1) := by decide +kernel
theorem d_MD_codeOf_27 : decode b_MD_codeOf 27 = .ok (.ldc2_w 81, 3) := by decide +kernel
theorem d_MD_codeOf_30 : decode b_MD_codeOf 30 = .ok (.lcmp, 1) := by decide +kernel
theorem d_MD_codeOf_31 : decode b_MD_codeOf 31 = .ok (.ifCond .gt 7, 3) := by decide +kernel
theorem d_MD_codeOf_34 : decode b_MD_codeOf 34 = .ok (.iconst 1, 1) := by decide +kernel
theorem d_MD_codeOf_35 : decode b_MD_codeOf 35 = .ok (.goto 45, 3) := by decide +kernel
theorem d_MD_codeOf_38 : decode b_MD_codeOf 38 = .ok (.lload_n 0, 1) := by decide +kernel
theorem d_MD_codeOf_39 : decode b_MD_codeOf 39 = .ok (.ldc2_w 83, 3) := by decide +kernel
theorem d_MD_codeOf_42 : decode b_MD_codeOf 42 = .ok (.lcmp, 1) := by decide +kernel
theorem d_MD_codeOf_43 : decode b_MD_codeOf 43 = .ok (.ifCond .lt 15, 3) := by decide +kernel
theorem d_MD_codeOf_46 : decode b_MD_codeOf 46 = .ok (.lload_n 0, 1) := by decide +kernel
theorem d_MD_codeOf_47 : decode b_MD_codeOf 47 = .ok (.ldc2_w 85, 3) := by decide +kernel
theorem d_MD_codeOf_50 : decode b_MD_codeOf 50 = .ok (.lcmp, 1) := by decide +kernel
theorem d_MD_codeOf_51 : decode b_MD_codeOf 51 = .ok (.ifCond .gt 7, 3) := by decide +kernel
theorem d_MD_codeOf_54 : decode b_MD_codeOf 54 = .ok (.iconst 2, 1) := by decide +kernel
theorem d_MD_codeOf_55 : decode b_MD_codeOf 55 = .ok (.goto 25, 3) := by decide +kernel
theorem d_MD_codeOf_58 : decode b_MD_codeOf 58 = .ok (.lload_n 0, 1) := by decide +kernel
theorem d_MD_codeOf_59 : decode b_MD_codeOf 59 = .ok (.ldc2_w 87, 3) := by decide +kernel
theorem d_MD_codeOf_62 : decode b_MD_codeOf 62 = .ok (.lcmp, 1) := by decide +kernel
theorem d_MD_codeOf_63 : decode b_MD_codeOf 63 = .ok (.ifCond .lt 15, 3) := by decide +kernel
theorem d_MD_codeOf_66 : decode b_MD_codeOf 66 = .ok (.lload_n 0, 1) := by decide +kernel
theorem d_MD_codeOf_67 : decode b_MD_codeOf 67 = .ok (.ldc2_w 89, 3) := by decide +kernel
theorem d_MD_codeOf_70 : decode b_MD_codeOf 70 = .ok (.lcmp, 1) := by decide +kernel
theorem d_MD_codeOf_71 : decode b_MD_codeOf 71 = .ok (.ifCond .gt 7, 3) := by decide +kernel
theorem d_MD_codeOf_74 : decode b_MD_codeOf 74 = .ok (.iconst 4, 1) := by decide +kernel
theorem d_MD_codeOf_75 : decode b_MD_codeOf 75 = .ok (.goto 5, 3) := by decide +kernel
theorem d_MD_codeOf_78 : decode b_MD_codeOf 78 = .ok (.bipush 6, 2) := by decide +kernel
theorem d_MD_codeOf_80 : decode b_MD_codeOf 80 = .ok (.ireturn, 1) := by decide +kernel
noncomputable def q_MD_codeOf_58 (x_0 : Int64) : Option (Int32) :=
  pu_br ((lg_cmp x_0 (-2147483648 : Int64)) < 0) (some (6 : Int32)) (pu_br (0 < (lg_cmp x_0 (2147483647 : Int64))) (some (6 : Int32)) (some (4 : Int32)))
noncomputable def q_MD_codeOf_38 (x_0 : Int64) : Option (Int32) :=
  pu_br ((lg_cmp x_0 (-32768 : Int64)) < 0) (q_MD_codeOf_58 x_0) (pu_br (0 < (lg_cmp x_0 (32767 : Int64))) (q_MD_codeOf_58 x_0) (some (2 : Int32)))
noncomputable def f_MD_codeOf (x_0 : Int64) : Option (Int32) :=
  pu_br ((lg_cmp x_0 (0 : Int64)) = 0) (some (8 : Int32)) (pu_br ((lg_cmp x_0 (1 : Int64)) = 0) (some (9 : Int32)) (pu_br ((lg_cmp x_0 (-128 : Int64)) < 0) (q_MD_codeOf_38 x_0) (pu_br (0 < (lg_cmp x_0 (127 : Int64))) (q_MD_codeOf_38 x_0) (some (1 : Int32)))))
abbrev rm_MD_codeOf : Room := { frames := 0, cells := 0, slots := 0, locals := 0 }
set_option maxHeartbeats 8000000 in
set_option maxRecDepth 100000 in
theorem c_MD_codeOf (l : Launch) (D : va_G) (cI cJ cB cZ : ClassId) (sz : Nat) (x_0 : Int64) (o_r : Int32) (hf : f_MD_codeOf x_0 = some o_r) : Met l y_MD_codeOf (.code y_MD_codeOf b_MD_codeOf 2 (some .int) :: pu_wA) rm_MD_codeOf (pu_pc D pu_cl (pu_ty cI cJ cB cZ) [.long x_0] [] sz) (pu_qi D pu_cl (pu_ty cI cJ cB cZ) [] [] sz o_r) 0 0 (va_A [] sz) := by
  refine pu_mti [.long x_0] [] [] o_r (by decide) (Nat.le_of_ble_eq_true rfl) ?_
  intro p e s m args below meth c A Q ls hx hb hml hts hN hown hK hA hP hD hl hret0
  have hS : va_S A s.heap s.heap [] := va_S.rf
  have hl : lv_has ls 2 [(0, .long x_0)] := hl
  have hret : ∀ (pc : Nat) (ls : Array Slot) (H : Heap) (locs : List Loc) (y_0 : Int32), decode b_MD_codeOf pc = .ok (.ireturn, 1) → va_P D pu_cl [] H → va_D A [] → va_S A s.heap H locs → some y_0 = some o_r → W p l e rm_MD_codeOf s m args below meth c H locs 0 0 Q (F0 m pc ls [.int y_0]) := by
    intro pc ls H locs y_0 hd hP hD hS hf
    cases hf
    exact hret0 pc ls H locs hd hP hD hS
  clear hret0
  unfold f_MD_codeOf at hf
  skip
  have lb_58 : ∀ (x_0 : Int64) (H : Heap) (locs : List Loc) (ls : Array Slot), va_P D pu_cl [] H → va_D A [] → va_S A s.heap H locs → lv_has ls 2 [(0, .long x_0)] → q_MD_codeOf_58 x_0 = some o_r → W p l e rm_MD_codeOf s m args below meth c H locs 0 0 Q (F0 m 58 ls []) := by
    intro x_0 H locs ls hP hD hS hl hf
    rw [q_MD_codeOf_58] at hf
    refine lv_lload_n hx hb d_MD_codeOf_58 rfl (lv_at hl 0 rfl) ?_
    refine lv_ldc2 (v := -2147483648) hx hb hown (hts _ (pu_in11 _ (List.mem_of_getElem? (i := 12) rfl))) d_MD_codeOf_59 ?_
    refine W.lcmp hx hb d_MD_codeOf_62 ?_
    refine lv_if_lt (tgt := 78) hx hb d_MD_codeOf_63 rfl (fun hc => ?_) (fun hc => ?_)
    · have hf := pu_br_pos hf hc
      refine lv_bipush (v := 6) hx hb d_MD_codeOf_78 rfl ?_
      exact hret _ _ _ _ (6 : Int32)  d_MD_codeOf_80 hP hD hS hf
    have hf := pu_br_neg hf hc
    refine lv_lload_n hx hb d_MD_codeOf_66 rfl (lv_at hl 0 rfl) ?_
    refine lv_ldc2 (v := 2147483647) hx hb hown (hts _ (pu_in11 _ (List.mem_of_getElem? (i := 13) rfl))) d_MD_codeOf_67 ?_
    refine W.lcmp hx hb d_MD_codeOf_70 ?_
    refine lv_if_gt (tgt := 78) hx hb d_MD_codeOf_71 rfl (fun hc => ?_) (fun hc => ?_)
    · have hf := pu_br_pos hf hc
      refine lv_bipush (v := 6) hx hb d_MD_codeOf_78 rfl ?_
      exact hret _ _ _ _ (6 : Int32)  d_MD_codeOf_80 hP hD hS hf
    have hf := pu_br_neg hf hc
    refine lv_iconst (v := 4) hx hb d_MD_codeOf_74 rfl ?_
    refine lv_goto (tgt := 80) hx hb d_MD_codeOf_75 rfl ?_
    exact hret _ _ _ _ (4 : Int32)  d_MD_codeOf_80 hP hD hS hf
  have lb_38 : ∀ (x_0 : Int64) (H : Heap) (locs : List Loc) (ls : Array Slot), va_P D pu_cl [] H → va_D A [] → va_S A s.heap H locs → lv_has ls 2 [(0, .long x_0)] → q_MD_codeOf_38 x_0 = some o_r → W p l e rm_MD_codeOf s m args below meth c H locs 0 0 Q (F0 m 38 ls []) := by
    intro x_0 H locs ls hP hD hS hl hf
    rw [q_MD_codeOf_38] at hf
    refine lv_lload_n hx hb d_MD_codeOf_38 rfl (lv_at hl 0 rfl) ?_
    refine lv_ldc2 (v := -32768) hx hb hown (hts _ (pu_in11 _ (List.mem_of_getElem? (i := 10) rfl))) d_MD_codeOf_39 ?_
    refine W.lcmp hx hb d_MD_codeOf_42 ?_
    refine lv_if_lt (tgt := 58) hx hb d_MD_codeOf_43 rfl (fun hc => ?_) (fun hc => ?_)
    · have hf := pu_br_pos hf hc
      exact lb_58 x_0 H locs ls hP hD hS (lv_sub hl [0] rfl) hf
    have hf := pu_br_neg hf hc
    refine lv_lload_n hx hb d_MD_codeOf_46 rfl (lv_at hl 0 rfl) ?_
    refine lv_ldc2 (v := 32767) hx hb hown (hts _ (pu_in11 _ (List.mem_of_getElem? (i := 11) rfl))) d_MD_codeOf_47 ?_
    refine W.lcmp hx hb d_MD_codeOf_50 ?_
    refine lv_if_gt (tgt := 58) hx hb d_MD_codeOf_51 rfl (fun hc => ?_) (fun hc => ?_)
    · have hf := pu_br_pos hf hc
      exact lb_58 x_0 H locs ls hP hD hS (lv_sub hl [0] rfl) hf
    have hf := pu_br_neg hf hc
    refine lv_iconst (v := 2) hx hb d_MD_codeOf_54 rfl ?_
    refine lv_goto (tgt := 80) hx hb d_MD_codeOf_55 rfl ?_
    exact hret _ _ _ _ (2 : Int32)  d_MD_codeOf_80 hP hD hS hf
  obtain ⟨H, hH⟩ : ∃ H, H = s.heap := ⟨_, rfl⟩
  obtain ⟨locs, hlocs⟩ : ∃ locs : List Loc, locs = [] := ⟨_, rfl⟩
  have hP : va_P D pu_cl [] H := by rw [hH]; exact hP
  have hS : va_S A s.heap H locs := by rw [hH, hlocs]; exact hS
  have goal : W p l e rm_MD_codeOf s m args below meth c H locs 0 0 Q (F0 m 0 ls []) := by
    clear hH hlocs
    refine lv_lload_n hx hb d_MD_codeOf_0 rfl (lv_at hl 0 rfl) ?_
    refine lv_lconst (v := 0) hx hb d_MD_codeOf_1 rfl ?_
    refine W.lcmp hx hb d_MD_codeOf_2 ?_
    refine lv_if_ne (tgt := 9) hx hb d_MD_codeOf_3 rfl (fun hc => ?_) (fun hc => ?_)
    · have hf := pu_br_neg hf hc
      refine lv_lload_n hx hb d_MD_codeOf_9 rfl (lv_at hl 0 rfl) ?_
      refine lv_lconst (v := 1) hx hb d_MD_codeOf_10 rfl ?_
      refine W.lcmp hx hb d_MD_codeOf_11 ?_
      refine lv_if_ne (tgt := 18) hx hb d_MD_codeOf_12 rfl (fun hc => ?_) (fun hc => ?_)
      · have hf := pu_br_neg hf hc
        refine lv_lload_n hx hb d_MD_codeOf_18 rfl (lv_at hl 0 rfl) ?_
        refine lv_ldc2 (v := -128) hx hb hown (hts _ (pu_in11 _ (List.mem_of_getElem? (i := 8) rfl))) d_MD_codeOf_19 ?_
        refine W.lcmp hx hb d_MD_codeOf_22 ?_
        refine lv_if_lt (tgt := 38) hx hb d_MD_codeOf_23 rfl (fun hc => ?_) (fun hc => ?_)
        · have hf := pu_br_pos hf hc
          exact lb_38 x_0 H locs ls hP hD hS (lv_sub hl [0] rfl) hf
        have hf := pu_br_neg hf hc
        refine lv_lload_n hx hb d_MD_codeOf_26 rfl (lv_at hl 0 rfl) ?_
        refine lv_ldc2 (v := 127) hx hb hown (hts _ (pu_in11 _ (List.mem_of_getElem? (i := 9) rfl))) d_MD_codeOf_27 ?_
        refine W.lcmp hx hb d_MD_codeOf_30 ?_
        refine lv_if_gt (tgt := 38) hx hb d_MD_codeOf_31 rfl (fun hc => ?_) (fun hc => ?_)
        · have hf := pu_br_pos hf hc
          exact lb_38 x_0 H locs ls hP hD hS (lv_sub hl [0] rfl) hf
        have hf := pu_br_neg hf hc
        refine lv_iconst (v := 1) hx hb d_MD_codeOf_34 rfl ?_
        refine lv_goto (tgt := 80) hx hb d_MD_codeOf_35 rfl ?_
        exact hret _ _ _ _ (1 : Int32)  d_MD_codeOf_80 hP hD hS hf
      have hf := pu_br_pos hf hc
      refine lv_bipush (v := 9) hx hb d_MD_codeOf_15 rfl ?_
      exact hret _ _ _ _ (9 : Int32)  d_MD_codeOf_17 hP hD hS hf
    have hf := pu_br_pos hf hc
    refine lv_bipush (v := 8) hx hb d_MD_codeOf_6 rfl ?_
    exact hret _ _ _ _ (8 : Int32)  d_MD_codeOf_8 hP hD hS hf
  rw [hH, hlocs] at goal
  exact goal
theorem d_MD_bytesOf_0 : decode b_MD_bytesOf 0 = .ok (.iload_n 0, 1) := by decide +kernel
theorem d_MD_bytesOf_1 : decode b_MD_bytesOf 1 = .ok (.bipush 11, 2) := by decide +kernel
theorem d_MD_bytesOf_3 : decode b_MD_bytesOf 3 = .ok (.if_icmp .le 12, 3) := by decide +kernel
theorem d_MD_bytesOf_6 : decode b_MD_bytesOf 6 = .ok (.iload_n 0, 1) := by decide +kernel
theorem d_MD_bytesOf_7 : decode b_MD_bytesOf 7 = .ok (.bipush 12, 2) := by decide +kernel
theorem d_MD_bytesOf_9 : decode b_MD_bytesOf 9 = .ok (.isub, 1) := by decide +kernel
theorem d_MD_bytesOf_10 : decode b_MD_bytesOf 10 = .ok (.iconst 2, 1) := by decide +kernel
theorem d_MD_bytesOf_11 : decode b_MD_bytesOf 11 = .ok (.idiv, 1) := by decide +kernel
theorem d_MD_bytesOf_12 : decode b_MD_bytesOf 12 = .ok (.goto 25, 3) := by decide +kernel
theorem d_MD_bytesOf_15 : decode b_MD_bytesOf 15 = .ok (.iload_n 0, 1) := by decide +kernel
theorem d_MD_bytesOf_16 : decode b_MD_bytesOf 16 = .ok (.bipush 7, 2) := by decide +kernel
theorem d_MD_bytesOf_18 : decode b_MD_bytesOf 18 = .ok (.if_icmp .le 7, 3) := by decide +kernel
theorem d_MD_bytesOf_21 : decode b_MD_bytesOf 21 = .ok (.iconst 0, 1) := by decide +kernel
theorem d_MD_bytesOf_22 : decode b_MD_bytesOf 22 = .ok (.goto 15, 3) := by decide +kernel
theorem d_MD_bytesOf_25 : decode b_MD_bytesOf 25 = .ok (.iload_n 0, 1) := by decide +kernel
theorem d_MD_bytesOf_26 : decode b_MD_bytesOf 26 = .ok (.bipush 6, 2) := by decide +kernel
theorem d_MD_bytesOf_28 : decode b_MD_bytesOf 28 = .ok (.if_icmp .ne 8, 3) := by decide +kernel
theorem d_MD_bytesOf_31 : decode b_MD_bytesOf 31 = .ok (.bipush 8, 2) := by decide +kernel
theorem d_MD_bytesOf_33 : decode b_MD_bytesOf 33 = .ok (.goto 4, 3) := by decide +kernel
theorem d_MD_bytesOf_36 : decode b_MD_bytesOf 36 = .ok (.iload_n 0, 1) := by decide +kernel
theorem d_MD_bytesOf_37 : decode b_MD_bytesOf 37 = .ok (.ireturn, 1) := by decide +kernel
noncomputable def f_MD_bytesOf (x_0 : Int32) : Option (Int32) :=
  pu_br (x_0 ≤ (11 : Int32)) (pu_br (x_0 ≤ (7 : Int32)) (pu_br (x_0 = (6 : Int32)) (some (8 : Int32)) (some x_0)) (some (0 : Int32))) (some ((x_0 - (12 : Int32)) / (2 : Int32)))
abbrev rm_MD_bytesOf : Room := { frames := 0, cells := 0, slots := 0, locals := 0 }
set_option maxHeartbeats 8000000 in
set_option maxRecDepth 100000 in
theorem c_MD_bytesOf (l : Launch) (D : va_G) (cI cJ cB cZ : ClassId) (sz : Nat) (x_0 : Int32) (o_r : Int32) (hf : f_MD_bytesOf x_0 = some o_r) : Met l y_MD_bytesOf (.code y_MD_bytesOf b_MD_bytesOf 1 (some .int) :: pu_wA) rm_MD_bytesOf (pu_pc D pu_cl (pu_ty cI cJ cB cZ) [.int x_0] [] sz) (pu_qi D pu_cl (pu_ty cI cJ cB cZ) [] [] sz o_r) 0 0 (va_A [] sz) := by
  refine pu_mti [.int x_0] [] [] o_r (by decide) (Nat.le_of_ble_eq_true rfl) ?_
  intro p e s m args below meth c A Q ls hx hb hml hts hN hown hK hA hP hD hl hret0
  have hS : va_S A s.heap s.heap [] := va_S.rf
  have hl : lv_has ls 1 [(0, .int x_0)] := hl
  have hret : ∀ (pc : Nat) (ls : Array Slot) (H : Heap) (locs : List Loc) (y_0 : Int32), decode b_MD_bytesOf pc = .ok (.ireturn, 1) → va_P D pu_cl [] H → va_D A [] → va_S A s.heap H locs → some y_0 = some o_r → W p l e rm_MD_bytesOf s m args below meth c H locs 0 0 Q (F0 m pc ls [.int y_0]) := by
    intro pc ls H locs y_0 hd hP hD hS hf
    cases hf
    exact hret0 pc ls H locs hd hP hD hS
  clear hret0
  unfold f_MD_bytesOf at hf
  skip
  obtain ⟨H, hH⟩ : ∃ H, H = s.heap := ⟨_, rfl⟩
  obtain ⟨locs, hlocs⟩ : ∃ locs : List Loc, locs = [] := ⟨_, rfl⟩
  have hP : va_P D pu_cl [] H := by rw [hH]; exact hP
  have hS : va_S A s.heap H locs := by rw [hH, hlocs]; exact hS
  have goal : W p l e rm_MD_bytesOf s m args below meth c H locs 0 0 Q (F0 m 0 ls []) := by
    clear hH hlocs
    refine lv_iload_n hx hb d_MD_bytesOf_0 rfl (lv_at hl 0 rfl) ?_
    refine lv_bipush (v := 11) hx hb d_MD_bytesOf_1 rfl ?_
    refine lv_icmp_le (tgt := 15) hx hb d_MD_bytesOf_3 rfl (fun hc => ?_) (fun hc => ?_)
    · have hf := pu_br_pos hf hc
      refine lv_iload_n hx hb d_MD_bytesOf_15 rfl (lv_at hl 0 rfl) ?_
      refine lv_bipush (v := 7) hx hb d_MD_bytesOf_16 rfl ?_
      refine lv_icmp_le (tgt := 25) hx hb d_MD_bytesOf_18 rfl (fun hc => ?_) (fun hc => ?_)
      · have hf := pu_br_pos hf hc
        refine lv_iload_n hx hb d_MD_bytesOf_25 rfl (lv_at hl 0 rfl) ?_
        refine lv_bipush (v := 6) hx hb d_MD_bytesOf_26 rfl ?_
        refine lv_icmp_ne (tgt := 36) hx hb d_MD_bytesOf_28 rfl (fun hc => ?_) (fun hc => ?_)
        · have hf := pu_br_neg hf hc
          refine lv_iload_n hx hb d_MD_bytesOf_36 rfl (lv_at hl 0 rfl) ?_
          exact hret _ _ _ _ x_0  d_MD_bytesOf_37 hP hD hS hf
        have hf := pu_br_pos hf hc
        refine lv_bipush (v := 8) hx hb d_MD_bytesOf_31 rfl ?_
        refine lv_goto (tgt := 37) hx hb d_MD_bytesOf_33 rfl ?_
        exact hret _ _ _ _ (8 : Int32)  d_MD_bytesOf_37 hP hD hS hf
      have hf := pu_br_neg hf hc
      refine lv_iconst (v := 0) hx hb d_MD_bytesOf_21 rfl ?_
      refine lv_goto (tgt := 37) hx hb d_MD_bytesOf_22 rfl ?_
      exact hret _ _ _ _ (0 : Int32)  d_MD_bytesOf_37 hP hD hS hf
    have hf := pu_br_neg hf hc
    refine lv_iload_n hx hb d_MD_bytesOf_6 rfl (lv_at hl 0 rfl) ?_
    refine lv_bipush (v := 12) hx hb d_MD_bytesOf_7 rfl ?_
    refine lv_isub hx hb d_MD_bytesOf_9 ?_
    refine lv_iconst (v := 2) hx hb d_MD_bytesOf_10 rfl ?_
    refine lv_idiv hx hb d_MD_bytesOf_11 (by decide) ?_
    refine lv_goto (tgt := 37) hx hb d_MD_bytesOf_12 rfl ?_
    exact hret _ _ _ _ ((x_0 - (12 : Int32)) / (2 : Int32))  d_MD_bytesOf_37 hP hD hS hf
  rw [hH, hlocs] at goal
  exact goal
theorem d_MD_varint_0 : decode b_MD_varint 0 = .ok (.iload_n 1, 1) := by decide +kernel
theorem d_MD_varint_1 : decode b_MD_varint 1 = .ok (.istore_n 3, 1) := by decide +kernel
theorem d_MD_varint_2 : decode b_MD_varint 2 = .ok (.bipush 21, 2) := by decide +kernel
theorem d_MD_varint_4 : decode b_MD_varint 4 = .ok (.istore 4, 2) := by decide +kernel
theorem d_MD_varint_6 : decode b_MD_varint 6 = .ok (.iload 4, 2) := by decide +kernel
theorem d_MD_varint_8 : decode b_MD_varint 8 = .ok (.ifCond .le 33, 3) := by decide +kernel
theorem d_MD_varint_11 : decode b_MD_varint 11 = .ok (.iload_n 2, 1) := by decide +kernel
theorem d_MD_varint_12 : decode b_MD_varint 12 = .ok (.iload 4, 2) := by decide +kernel
theorem d_MD_varint_14 : decode b_MD_varint 14 = .ok (.ishr, 1) := by decide +kernel
theorem d_MD_varint_15 : decode b_MD_varint 15 = .ok (.ifCond .le 20, 3) := by decide +kernel
theorem d_MD_varint_18 : decode b_MD_varint 18 = .ok (.aload_n 0, 1) := by decide +kernel
theorem d_MD_varint_19 : decode b_MD_varint 19 = .ok (.iload_n 3, 1) := by decide +kernel
theorem d_MD_varint_20 : decode b_MD_varint 20 = .ok (.iload_n 2, 1) := by decide +kernel
theorem d_MD_varint_21 : decode b_MD_varint 21 = .ok (.iload 4, 2) := by decide +kernel
theorem d_MD_varint_23 : decode b_MD_varint 23 = .ok (.ishr, 1) := by decide +kernel
theorem d_MD_varint_24 : decode b_MD_varint 24 = .ok (.bipush 127, 2) := by decide +kernel
theorem d_MD_varint_26 : decode b_MD_varint 26 = .ok (.iand, 1) := by decide +kernel
theorem d_MD_varint_27 : decode b_MD_varint 27 = .ok (.sipush 128, 3) := by decide +kernel
theorem d_MD_varint_30 : decode b_MD_varint 30 = .ok (.ior, 1) := by decide +kernel
theorem d_MD_varint_31 : decode b_MD_varint 31 = .ok (.iastore, 1) := by decide +kernel
theorem d_MD_varint_32 : decode b_MD_varint 32 = .ok (.iinc 3 1, 3) := by decide +kernel
theorem d_MD_varint_35 : decode b_MD_varint 35 = .ok (.iinc 4 (-7), 3) := by decide +kernel
theorem d_MD_varint_38 : decode b_MD_varint 38 = .ok (.goto (-32), 3) := by decide +kernel
theorem d_MD_varint_41 : decode b_MD_varint 41 = .ok (.aload_n 0, 1) := by decide +kernel
theorem d_MD_varint_42 : decode b_MD_varint 42 = .ok (.iload_n 3, 1) := by decide +kernel
theorem d_MD_varint_43 : decode b_MD_varint 43 = .ok (.iload_n 2, 1) := by decide +kernel
theorem d_MD_varint_44 : decode b_MD_varint 44 = .ok (.bipush 127, 2) := by decide +kernel
theorem d_MD_varint_46 : decode b_MD_varint 46 = .ok (.iand, 1) := by decide +kernel
theorem d_MD_varint_47 : decode b_MD_varint 47 = .ok (.iastore, 1) := by decide +kernel
theorem d_MD_varint_48 : decode b_MD_varint 48 = .ok (.iload_n 3, 1) := by decide +kernel
theorem d_MD_varint_49 : decode b_MD_varint 49 = .ok (.iconst 1, 1) := by decide +kernel
theorem d_MD_varint_50 : decode b_MD_varint 50 = .ok (.iadd, 1) := by decide +kernel
theorem d_MD_varint_51 : decode b_MD_varint 51 = .ok (.ireturn, 1) := by decide +kernel
noncomputable def q_MD_varint_41 (n_p0 : Nat) (v_p0 : Nat → Int32) (x_2 : Int32) (x_3 : Int32) : Option (Int32 × (Nat → Int32)) :=
  pu_ck (vp_in x_3 n_p0) (pu_nm (upd v_p0 x_3.toNatClampNeg (x_2 &&& (127 : Int32))) (fun a1 => some (x_3 + (1 : Int32), a1)))
noncomputable def q_MD_varint_35 (kb : (Nat → Int32) → Int32 → Int32 → Option (Int32 × (Nat → Int32))) (kx_41 : (Nat → Int32) → Int32 → Option (Int32 × (Nat → Int32))) (n_p0 : Nat) (v_p0 : Nat → Int32) (x_2 : Int32) (x_3 : Int32) (x_4 : Int32) : Option (Int32 × (Nat → Int32)) :=
  pu_nm (x_4 + (-7 : Int32)) (fun t2 => kb v_p0 x_3 t2)
noncomputable def q_MD_varint_6 (kx_41 : (Nat → Int32) → Int32 → Option (Int32 × (Nat → Int32))) (n_p0 : Nat) (x_2 : Int32) : Nat → (Nat → Int32) → Int32 → Int32 → Option (Int32 × (Nat → Int32))
  | 0, _, _, _ => none
  | n + 1, v_p0, x_3, x_4 => pu_br (x_4 ≤ 0) (kx_41 v_p0 x_3) (pu_br ((x_2 >>> (x_4 &&& 31)) ≤ 0) (q_MD_varint_35 (q_MD_varint_6 kx_41 n_p0 x_2 n) kx_41 n_p0 v_p0 x_2 x_3 x_4) (pu_ck (vp_in x_3 n_p0) (pu_nm (upd v_p0 x_3.toNatClampNeg (((x_2 >>> (x_4 &&& 31)) &&& (127 : Int32)) ||| (128 : Int32))) (fun a3 => pu_nm (x_3 + (1 : Int32)) (fun t4 => q_MD_varint_35 (q_MD_varint_6 kx_41 n_p0 x_2 n) kx_41 n_p0 a3 x_2 t4 x_4)))))
noncomputable def f_MD_varint (n_p0 : Nat) (v_p0 : Nat → Int32) (x_1 : Int32) (x_2 : Int32) : Option (Int32 × (Nat → Int32)) :=
  q_MD_varint_6 (fun v_p0 x_3 => q_MD_varint_41 n_p0 v_p0 x_2 x_3) n_p0 x_2 pu_fu v_p0 x_1 (21 : Int32)
abbrev rm_MD_varint : Room := { frames := 0, cells := 0, slots := 0, locals := 0 }
set_option maxHeartbeats 8000000 in
set_option maxRecDepth 100000 in
theorem c_MD_varint (l : Launch) (D : va_G) (cI cJ cB cZ : ClassId) (sz : Nat) (q_p0 : Nat) (n_p0 : Nat) (v_p0 : Nat → Int32) (x_1 : Int32) (x_2 : Int32) (o_r : Int32) (o_p0 : Nat → Int32) (hf : f_MD_varint n_p0 v_p0 x_1 x_2 = some (o_r, o_p0)) : Met l y_MD_varint (.code y_MD_varint b_MD_varint 5 (some .int) :: pu_wA) rm_MD_varint (pu_pc D pu_cl (pu_ty cI cJ cB cZ) [.ref q_p0, .int x_1, .int x_2] [(q_p0, .inl (cI, n_p0, .inl v_p0))] sz) (pu_qi D pu_cl (pu_ty cI cJ cB cZ) [(q_p0, .inl (cI, n_p0, .inl v_p0))] [(q_p0, .inl (cI, n_p0, .inl o_p0))] sz o_r) 0 0 (va_A [(q_p0, .inl (cI, n_p0, .inl v_p0))] sz) := by
  refine pu_mti [.ref q_p0, .int x_1, .int x_2] [(q_p0, .inl (cI, n_p0, .inl v_p0))] [(q_p0, .inl (cI, n_p0, .inl o_p0))] o_r (by decide) (Nat.le_of_ble_eq_true rfl) ?_
  intro p e s m args below meth c A Q ls hx hb hml hts hN hown hK hA hP hD hl hret0
  have hS : va_S A s.heap s.heap [] := va_S.rf
  have hl : lv_has ls 5 [(0, .ref q_p0), (1, .int x_1), (2, .int x_2)] := hl
  have hret : ∀ (pc : Nat) (ls : Array Slot) (H : Heap) (locs : List Loc) (y_0 : Int32) (y_1 : Nat → Int32), decode b_MD_varint pc = .ok (.ireturn, 1) → va_P D pu_cl [(q_p0, .inl (cI, n_p0, .inl y_1))] H → va_D A [(q_p0, .inl (cI, n_p0, .inl y_1))] → va_S A s.heap H locs → some (y_0, y_1) = some (o_r, o_p0) → W p l e rm_MD_varint s m args below meth c H locs 0 0 Q (F0 m pc ls [.int y_0]) := by
    intro pc ls H locs y_0 y_1 hd hP hD hS hf
    cases hf
    exact hret0 pc ls H locs hd hP hD hS
  clear hret0
  unfold f_MD_varint at hf
  skip
  have lb_41 : ∀ (v_p0 : Nat → Int32) (x_2 : Int32) (x_3 : Int32) (H : Heap) (locs : List Loc) (ls : Array Slot), va_P D pu_cl [(q_p0, .inl (cI, n_p0, .inl v_p0))] H → va_D A [(q_p0, .inl (cI, n_p0, .inl v_p0))] → va_S A s.heap H locs → lv_has ls 5 [(0, .ref q_p0), (2, .int x_2), (3, .int x_3)] → q_MD_varint_41 n_p0 v_p0 x_2 x_3 = some (o_r, o_p0) → W p l e rm_MD_varint s m args below meth c H locs 0 0 Q (F0 m 41 ls []) := by
    intro v_p0 x_2 x_3 H locs ls hP hD hS hl hf
    rw [q_MD_varint_41] at hf
    refine lv_aload_n hx hb d_MD_varint_41 rfl (lv_at hl 0 rfl) ?_
    refine lv_iload_n hx hb d_MD_varint_42 rfl (lv_at hl 2 rfl) ?_
    refine lv_iload_n hx hb d_MD_varint_43 rfl (lv_at hl 1 rfl) ?_
    refine lv_bipush (v := 127) hx hb d_MD_varint_44 rfl ?_
    refine lv_iand hx hb d_MD_varint_46 ?_
    obtain ⟨hin, hf⟩ := pu_ck_some hf
    obtain ⟨a1, e_a1, hf⟩ := pu_nm_some hf
    refine va_iast hx hb hK hP hD hS 0 0 rfl rfl hin d_MD_varint_47 (fun H locs hP hD hS => ?_)
    have hP : va_P D pu_cl [(q_p0, .inl (cI, n_p0, .inl a1))] H := by rw [e_a1]; exact hP
    have hD : va_D A [(q_p0, .inl (cI, n_p0, .inl a1))] := by rw [e_a1]; exact hD
    refine lv_iload_n hx hb d_MD_varint_48 rfl (lv_at hl 2 rfl) ?_
    refine lv_iconst (v := 1) hx hb d_MD_varint_49 rfl ?_
    refine lv_iadd hx hb d_MD_varint_50 ?_
    exact hret _ _ _ _ (x_3 + (1 : Int32)) a1 d_MD_varint_51 hP hD hS hf
  have lp_6 : ∀ (x_2 : Int32) (n6 : Nat) (v_p0 : Nat → Int32) (x_3 : Int32) (x_4 : Int32) (H : Heap) (locs : List Loc) (ls : Array Slot), va_P D pu_cl [(q_p0, .inl (cI, n_p0, .inl v_p0))] H → va_D A [(q_p0, .inl (cI, n_p0, .inl v_p0))] → va_S A s.heap H locs → lv_has ls 5 [(0, .ref q_p0), (2, .int x_2), (3, .int x_3), (4, .int x_4)] → q_MD_varint_6 (fun v_p0 x_3 => q_MD_varint_41 n_p0 v_p0 x_2 x_3) n_p0 x_2 n6 v_p0 x_3 x_4 = some (o_r, o_p0) → W p l e rm_MD_varint s m args below meth c H locs 0 0 Q (F0 m 6 ls []) := by
    intro x_2 n6
    induction n6 with
    | zero =>
      intro v_p0 x_3 x_4 H locs ls hP hD hS hl hf
      rw [q_MD_varint_6] at hf
      cases hf
    | succ n6 ih_6 =>
      have lb_35 : ∀ (v_p0 : Nat → Int32) (x_3 : Int32) (x_4 : Int32) (H : Heap) (locs : List Loc) (ls : Array Slot), va_P D pu_cl [(q_p0, .inl (cI, n_p0, .inl v_p0))] H → va_D A [(q_p0, .inl (cI, n_p0, .inl v_p0))] → va_S A s.heap H locs → lv_has ls 5 [(0, .ref q_p0), (2, .int x_2), (3, .int x_3), (4, .int x_4)] → q_MD_varint_35 (q_MD_varint_6 (fun v_p0 x_3 => q_MD_varint_41 n_p0 v_p0 x_2 x_3) n_p0 x_2 n6) (fun v_p0 x_3 => q_MD_varint_41 n_p0 v_p0 x_2 x_3) n_p0 v_p0 x_2 x_3 x_4 = some (o_r, o_p0) → W p l e rm_MD_varint s m args below meth c H locs 0 0 Q (F0 m 35 ls []) := by
        intro v_p0 x_3 x_4 H locs ls hP hD hS hl hf
        rw [q_MD_varint_35] at hf
        obtain ⟨t2, e_t2, hf⟩ := pu_nm_some hf
        refine lv_iinc (k := 3) (v := t2) hx hb d_MD_varint_35 hl rfl e_t2.symm (by decide) rfl (fun ls hl => ?_)
        have hl : lv_has ls 5 [(4, .int t2), (0, .ref q_p0), (2, .int x_2), (3, .int x_3)] := hl
        refine lv_goto (tgt := 6) hx hb d_MD_varint_38 rfl ?_
        exact ih_6 v_p0 x_3 t2 H locs ls hP hD hS (lv_sub hl [1, 2, 3, 0] rfl) hf
      intro v_p0 x_3 x_4 H locs ls hP hD hS hl hf
      rw [q_MD_varint_6] at hf
      refine lv_iload hx hb d_MD_varint_6 (lv_at hl 3 rfl) ?_
      refine lv_if_le (tgt := 41) hx hb d_MD_varint_8 rfl (fun hc => ?_) (fun hc => ?_)
      · have hf := pu_br_pos hf hc
        exact lb_41 v_p0 x_2 x_3 H locs ls hP hD hS (lv_sub hl [0, 1, 2] rfl) hf
      have hf := pu_br_neg hf hc
      refine lv_iload_n hx hb d_MD_varint_11 rfl (lv_at hl 1 rfl) ?_
      refine lv_iload hx hb d_MD_varint_12 (lv_at hl 3 rfl) ?_
      refine lv_ishr hx hb d_MD_varint_14 ?_
      refine lv_if_le (tgt := 35) hx hb d_MD_varint_15 rfl (fun hc => ?_) (fun hc => ?_)
      · have hf := pu_br_pos hf hc
        exact lb_35 v_p0 x_3 x_4 H locs ls hP hD hS (lv_sub hl [0, 1, 2, 3] rfl) hf
      have hf := pu_br_neg hf hc
      refine lv_aload_n hx hb d_MD_varint_18 rfl (lv_at hl 0 rfl) ?_
      refine lv_iload_n hx hb d_MD_varint_19 rfl (lv_at hl 2 rfl) ?_
      refine lv_iload_n hx hb d_MD_varint_20 rfl (lv_at hl 1 rfl) ?_
      refine lv_iload hx hb d_MD_varint_21 (lv_at hl 3 rfl) ?_
      refine lv_ishr hx hb d_MD_varint_23 ?_
      refine lv_bipush (v := 127) hx hb d_MD_varint_24 rfl ?_
      refine lv_iand hx hb d_MD_varint_26 ?_
      refine lv_sipush (v := 128) hx hb d_MD_varint_27 rfl ?_
      refine lv_ior hx hb d_MD_varint_30 ?_
      obtain ⟨hin, hf⟩ := pu_ck_some hf
      obtain ⟨a3, e_a3, hf⟩ := pu_nm_some hf
      refine va_iast hx hb hK hP hD hS 0 0 rfl rfl hin d_MD_varint_31 (fun H locs hP hD hS => ?_)
      have hP : va_P D pu_cl [(q_p0, .inl (cI, n_p0, .inl a3))] H := by rw [e_a3]; exact hP
      have hD : va_D A [(q_p0, .inl (cI, n_p0, .inl a3))] := by rw [e_a3]; exact hD
      obtain ⟨t4, e_t4, hf⟩ := pu_nm_some hf
      refine lv_iinc (k := 2) (v := t4) hx hb d_MD_varint_32 hl rfl e_t4.symm (by decide) rfl (fun ls hl => ?_)
      have hl : lv_has ls 5 [(3, .int t4), (0, .ref q_p0), (2, .int x_2), (4, .int x_4)] := hl
      exact lb_35 a3 t4 x_4 H locs ls hP hD hS (lv_sub hl [1, 2, 0, 3] rfl) hf
  obtain ⟨H, hH⟩ : ∃ H, H = s.heap := ⟨_, rfl⟩
  obtain ⟨locs, hlocs⟩ : ∃ locs : List Loc, locs = [] := ⟨_, rfl⟩
  have hP : va_P D pu_cl [(q_p0, .inl (cI, n_p0, .inl v_p0))] H := by rw [hH]; exact hP
  have hS : va_S A s.heap H locs := by rw [hH, hlocs]; exact hS
  have goal : W p l e rm_MD_varint s m args below meth c H locs 0 0 Q (F0 m 0 ls []) := by
    clear hH hlocs
    refine lv_iload_n hx hb d_MD_varint_0 rfl (lv_at hl 1 rfl) ?_
    refine lv_istore_n hx hb d_MD_varint_1 rfl hl (by decide) rfl (fun ls hl => ?_)
    have hl : lv_has ls 5 [(3, .int x_1), (0, .ref q_p0), (1, .int x_1), (2, .int x_2)] := hl
    refine lv_bipush (v := 21) hx hb d_MD_varint_2 rfl ?_
    refine lv_istore hx hb d_MD_varint_4 hl (by decide) rfl (fun ls hl => ?_)
    have hl : lv_has ls 5 [(4, .int (21 : Int32)), (3, .int x_1), (0, .ref q_p0), (1, .int x_1), (2, .int x_2)] := hl
    exact lp_6 x_2 _ v_p0 x_1 (21 : Int32) H locs ls hP hD hS (lv_sub hl [2, 4, 1, 0] rfl) hf
  rw [hH, hlocs] at goal
  exact goal
theorem d_MD_encode_0 : decode b_MD_encode 0 = .ok (.aload_n 0, 1) := by decide +kernel
theorem d_MD_encode_1 : decode b_MD_encode 1 = .ok (.iconst 1, 1) := by decide +kernel
theorem d_MD_encode_2 : decode b_MD_encode 2 = .ok (.putfield 91, 3) := by decide +kernel
theorem d_MD_encode_5 : decode b_MD_encode 5 = .ok (.iconst 0, 1) := by decide +kernel
theorem d_MD_encode_6 : decode b_MD_encode 6 = .ok (.istore_n 1, 1) := by decide +kernel
theorem d_MD_encode_7 : decode b_MD_encode 7 = .ok (.iload_n 1, 1) := by decide +kernel
theorem d_MD_encode_8 : decode b_MD_encode 8 = .ok (.aload_n 0, 1) := by decide +kernel
theorem d_MD_encode_9 : decode b_MD_encode 9 = .ok (.getfield 74, 3) := by decide +kernel
theorem d_MD_encode_12 : decode b_MD_encode 12 = .ok (.if_icmp .ge 56, 3) := by decide +kernel
theorem d_MD_encode_15 : decode b_MD_encode 15 = .ok (.aload_n 0, 1) := by decide +kernel
theorem d_MD_encode_16 : decode b_MD_encode 16 = .ok (.aload_n 0, 1) := by decide +kernel
theorem d_MD_encode_17 : decode b_MD_encode 17 = .ok (.getfield 50, 3) := by decide +kernel
theorem d_MD_encode_20 : decode b_MD_encode 20 = .ok (.aload_n 0, 1) := by decide +kernel
theorem d_MD_encode_21 : decode b_MD_encode 21 = .ok (.getfield 91, 3) := by decide +kernel
theorem d_MD_encode_24 : decode b_MD_encode 24 = .ok (.aload_n 0, 1) := by decide +kernel
theorem d_MD_encode_25 : decode b_MD_encode 25 = .ok (.getfield 36, 3) := by decide +kernel
theorem d_MD_encode_28 : decode b_MD_encode 28 = .ok (.iload_n 1, 1) := by decide +kernel
theorem d_MD_encode_29 : decode b_MD_encode 29 = .ok (.baload, 1) := by decide +kernel
theorem d_MD_encode_30 : decode b_MD_encode 30 = .ok (.ifCond .eq 17, 3) := by decide +kernel
theorem d_MD_encode_33 : decode b_MD_encode 33 = .ok (.bipush 12, 2) := by decide +kernel
theorem d_MD_encode_35 : decode b_MD_encode 35 = .ok (.iconst 2, 1) := by decide +kernel
theorem d_MD_encode_36 : decode b_MD_encode 36 = .ok (.aload_n 0, 1) := by decide +kernel
theorem d_MD_encode_37 : decode b_MD_encode 37 = .ok (.getfield 44, 3) := by decide +kernel
theorem d_MD_encode_40 : decode b_MD_encode 40 = .ok (.iload_n 1, 1) := by decide +kernel
theorem d_MD_encode_41 : decode b_MD_encode 41 = .ok (.iaload, 1) := by decide +kernel
theorem d_MD_encode_42 : decode b_MD_encode 42 = .ok (.imul, 1) := by decide +kernel
theorem d_MD_encode_43 : decode b_MD_encode 43 = .ok (.iadd, 1) := by decide +kernel
theorem d_MD_encode_44 : decode b_MD_encode 44 = .ok (.goto 12, 3) := by decide +kernel
theorem d_MD_encode_47 : decode b_MD_encode 47 = .ok (.aload_n 0, 1) := by decide +kernel
theorem d_MD_encode_48 : decode b_MD_encode 48 = .ok (.getfield 40, 3) := by decide +kernel
theorem d_MD_encode_51 : decode b_MD_encode 51 = .ok (.iload_n 1, 1) := by decide +kernel
theorem d_MD_encode_52 : decode b_MD_encode 52 = .ok (.laload, 1) := by decide +kernel
theorem d_MD_encode_53 : decode b_MD_encode 53 = .ok (.invokestatic 94, 3) := by decide +kernel
theorem d_MD_encode_56 : decode b_MD_encode 56 = .ok (.invokestatic 98, 3) := by decide +kernel
theorem d_MD_encode_59 : decode b_MD_encode 59 = .ok (.putfield 91, 3) := by decide +kernel
theorem d_MD_encode_62 : decode b_MD_encode 62 = .ok (.iinc 1 1, 3) := by decide +kernel
theorem d_MD_encode_65 : decode b_MD_encode 65 = .ok (.goto (-58), 3) := by decide +kernel
theorem d_MD_encode_68 : decode b_MD_encode 68 = .ok (.aload_n 0, 1) := by decide +kernel
theorem d_MD_encode_69 : decode b_MD_encode 69 = .ok (.getfield 50, 3) := by decide +kernel
theorem d_MD_encode_72 : decode b_MD_encode 72 = .ok (.iconst 0, 1) := by decide +kernel
theorem d_MD_encode_73 : decode b_MD_encode 73 = .ok (.aload_n 0, 1) := by decide +kernel
theorem d_MD_encode_74 : decode b_MD_encode 74 = .ok (.getfield 91, 3) := by decide +kernel
theorem d_MD_encode_77 : decode b_MD_encode 77 = .ok (.iastore, 1) := by decide +kernel
theorem d_MD_encode_78 : decode b_MD_encode 78 = .ok (.iconst 0, 1) := by decide +kernel
theorem d_MD_encode_79 : decode b_MD_encode 79 = .ok (.istore_n 1, 1) := by decide +kernel
theorem d_MD_encode_80 : decode b_MD_encode 80 = .ok (.iload_n 1, 1) := by decide +kernel
theorem d_MD_encode_81 : decode b_MD_encode 81 = .ok (.aload_n 0, 1) := by decide +kernel
theorem d_MD_encode_82 : decode b_MD_encode 82 = .ok (.getfield 74, 3) := by decide +kernel
theorem d_MD_encode_85 : decode b_MD_encode 85 = .ok (.if_icmp .ge 117, 3) := by decide +kernel
theorem d_MD_encode_88 : decode b_MD_encode 88 = .ok (.aload_n 0, 1) := by decide +kernel
theorem d_MD_encode_89 : decode b_MD_encode 89 = .ok (.getfield 36, 3) := by decide +kernel
theorem d_MD_encode_92 : decode b_MD_encode 92 = .ok (.iload_n 1, 1) := by decide +kernel
theorem d_MD_encode_93 : decode b_MD_encode 93 = .ok (.baload, 1) := by decide +kernel
theorem d_MD_encode_94 : decode b_MD_encode 94 = .ok (.ifCond .eq 12, 3) := by decide +kernel
theorem d_MD_encode_97 : decode b_MD_encode 97 = .ok (.aload_n 0, 1) := by decide +kernel
theorem d_MD_encode_98 : decode b_MD_encode 98 = .ok (.getfield 44, 3) := by decide +kernel
theorem d_MD_encode_101 : decode b_MD_encode 101 = .ok (.iload_n 1, 1) := by decide +kernel
theorem d_MD_encode_102 : decode b_MD_encode 102 = .ok (.iaload, 1) := by decide +kernel
theorem d_MD_encode_103 : decode b_MD_encode 103 = .ok (.goto 15, 3) := by decide +kernel
theorem d_MD_encode_106 : decode b_MD_encode 106 = .ok (.aload_n 0, 1) := by decide +kernel
theorem d_MD_encode_107 : decode b_MD_encode 107 = .ok (.getfield 40, 3) := by decide +kernel
theorem d_MD_encode_110 : decode b_MD_encode 110 = .ok (.iload_n 1, 1) := by decide +kernel
theorem d_MD_encode_111 : decode b_MD_encode 111 = .ok (.laload, 1) := by decide +kernel
theorem d_MD_encode_112 : decode b_MD_encode 112 = .ok (.invokestatic 94, 3) := by decide +kernel
theorem d_MD_encode_115 : decode b_MD_encode 115 = .ok (.invokestatic 102, 3) := by decide +kernel
theorem d_MD_encode_118 : decode b_MD_encode 118 = .ok (.istore_n 2, 1) := by decide +kernel
theorem d_MD_encode_119 : decode b_MD_encode 119 = .ok (.iconst 0, 1) := by decide +kernel
theorem d_MD_encode_120 : decode b_MD_encode 120 = .ok (.istore_n 3, 1) := by decide +kernel
theorem d_MD_encode_121 : decode b_MD_encode 121 = .ok (.iload_n 3, 1) := by decide +kernel
theorem d_MD_encode_122 : decode b_MD_encode 122 = .ok (.iload_n 2, 1) := by decide +kernel
theorem d_MD_encode_123 : decode b_MD_encode 123 = .ok (.if_icmp .ge 63, 3) := by decide +kernel
theorem d_MD_encode_126 : decode b_MD_encode 126 = .ok (.aload_n 0, 1) := by decide +kernel
theorem d_MD_encode_127 : decode b_MD_encode 127 = .ok (.getfield 50, 3) := by decide +kernel
theorem d_MD_encode_130 : decode b_MD_encode 130 = .ok (.aload_n 0, 1) := by decide +kernel
theorem d_MD_encode_131 : decode b_MD_encode 131 = .ok (.getfield 91, 3) := by decide +kernel
theorem d_MD_encode_134 : decode b_MD_encode 134 = .ok (.iload_n 3, 1) := by decide +kernel
theorem d_MD_encode_135 : decode b_MD_encode 135 = .ok (.iadd, 1) := by decide +kernel
theorem d_MD_encode_136 : decode b_MD_encode 136 = .ok (.aload_n 0, 1) := by decide +kernel
theorem d_MD_encode_137 : decode b_MD_encode 137 = .ok (.getfield 36, 3) := by decide +kernel
theorem d_MD_encode_140 : decode b_MD_encode 140 = .ok (.iload_n 1, 1) := by decide +kernel
theorem d_MD_encode_141 : decode b_MD_encode 141 = .ok (.baload, 1) := by decide +kernel
theorem d_MD_encode_142 : decode b_MD_encode 142 = .ok (.ifCond .eq 17, 3) := by decide +kernel
theorem d_MD_encode_145 : decode b_MD_encode 145 = .ok (.aload_n 0, 1) := by decide +kernel
theorem d_MD_encode_146 : decode b_MD_encode 146 = .ok (.getfield 47, 3) := by decide +kernel
theorem d_MD_encode_149 : decode b_MD_encode 149 = .ok (.bipush 100, 2) := by decide +kernel
theorem d_MD_encode_151 : decode b_MD_encode 151 = .ok (.iload_n 1, 1) := by decide +kernel
theorem d_MD_encode_152 : decode b_MD_encode 152 = .ok (.imul, 1) := by decide +kernel
theorem d_MD_encode_153 : decode b_MD_encode 153 = .ok (.iload_n 3, 1) := by decide +kernel
theorem d_MD_encode_154 : decode b_MD_encode 154 = .ok (.iadd, 1) := by decide +kernel
theorem d_MD_encode_155 : decode b_MD_encode 155 = .ok (.iaload, 1) := by decide +kernel
theorem d_MD_encode_156 : decode b_MD_encode 156 = .ok (.goto 23, 3) := by decide +kernel
theorem d_MD_encode_159 : decode b_MD_encode 159 = .ok (.aload_n 0, 1) := by decide +kernel
theorem d_MD_encode_160 : decode b_MD_encode 160 = .ok (.getfield 40, 3) := by decide +kernel
theorem d_MD_encode_163 : decode b_MD_encode 163 = .ok (.iload_n 1, 1) := by decide +kernel
theorem d_MD_encode_164 : decode b_MD_encode 164 = .ok (.laload, 1) := by decide +kernel
theorem d_MD_encode_165 : decode b_MD_encode 165 = .ok (.bipush 8, 2) := by decide +kernel
theorem d_MD_encode_167 : decode b_MD_encode 167 = .ok (.iload_n 2, 1) := by decide +kernel
theorem d_MD_encode_168 : decode b_MD_encode 168 = .ok (.iconst 1, 1) := by decide +kernel
theorem d_MD_encode_169 : decode b_MD_encode 169 = .ok (.isub, 1) := by decide +kernel
theorem d_MD_encode_170 : decode b_MD_encode 170 = .ok (.iload_n 3, 1) := by decide +kernel
theorem d_MD_encode_171 : decode b_MD_encode 171 = .ok (.isub, 1) := by decide +kernel
theorem d_MD_encode_172 : decode b_MD_encode 172 = .ok (.imul, 1) := by decide +kernel
theorem d_MD_encode_173 : decode b_MD_encode 173 = .ok (.lushr, 1) := by decide +kernel
theorem d_MD_encode_174 : decode b_MD_encode 174 = .ok (.ldc2_w 77, 3) := by decide +kernel
theorem d_MD_encode_177 : decode b_MD_encode 177 = .ok (.land, 1) := by decide +kernel
theorem d_MD_encode_178 : decode b_MD_encode 178 = .ok (.l2i, 1) := by decide +kernel
theorem d_MD_encode_179 : decode b_MD_encode 179 = .ok (.iastore, 1) := by decide +kernel
theorem d_MD_encode_180 : decode b_MD_encode 180 = .ok (.iinc 3 1, 3) := by decide +kernel
theorem d_MD_encode_183 : decode b_MD_encode 183 = .ok (.goto (-62), 3) := by decide +kernel
theorem d_MD_encode_186 : decode b_MD_encode 186 = .ok (.aload_n 0, 1) := by decide +kernel
theorem d_MD_encode_187 : decode b_MD_encode 187 = .ok (.dup, 1) := by decide +kernel
theorem d_MD_encode_188 : decode b_MD_encode 188 = .ok (.getfield 91, 3) := by decide +kernel
theorem d_MD_encode_191 : decode b_MD_encode 191 = .ok (.iload_n 2, 1) := by decide +kernel
theorem d_MD_encode_192 : decode b_MD_encode 192 = .ok (.iadd, 1) := by decide +kernel
theorem d_MD_encode_193 : decode b_MD_encode 193 = .ok (.putfield 91, 3) := by decide +kernel
theorem d_MD_encode_196 : decode b_MD_encode 196 = .ok (.iinc 1 1, 3) := by decide +kernel
theorem d_MD_encode_199 : decode b_MD_encode 199 = .ok (.goto (-119), 3) := by decide +kernel
theorem d_MD_encode_202 : decode b_MD_encode 202 = .ok (.return_, 1) := by decide +kernel
noncomputable def q_MD_encode_186 (kb : Int32 → (Nat → Int32) → Int32 → Option (Int32 × (Nat → Int32))) (v_columns : Int32) (v_isBlob : Nat → Int32) (v_integer : Nat → Int64) (v_size : Nat → Int32) (v_blobs : Nat → Int32) (v_length : Int32) (v_record : Nat → Int32) (x_1 : Int32) (x_2 : Int32) : Option (Int32 × (Nat → Int32)) :=
  pu_nm (v_length + x_2) (fun t4 => pu_nm (x_1 + (1 : Int32)) (fun t5 => kb t4 v_record t5))
noncomputable def q_MD_encode_179 (kb : (Nat → Int32) → Int32 → Option (Int32 × (Nat → Int32))) (kx_186 : (Nat → Int32) → Option (Int32 × (Nat → Int32))) (v_columns : Int32) (v_isBlob : Nat → Int32) (v_integer : Nat → Int64) (v_size : Nat → Int32) (v_blobs : Nat → Int32) (v_length : Int32) (v_record : Nat → Int32) (x_1 : Int32) (x_2 : Int32) (x_3 : Int32) (s_1 : Int32) (s_2 : Int32) : Option (Int32 × (Nat → Int32)) :=
  pu_ck (vp_in s_1 700) (pu_nm (upd v_record s_1.toNatClampNeg s_2) (fun a6 => pu_nm (x_3 + (1 : Int32)) (fun t7 => kb a6 t7)))
noncomputable def q_MD_encode_121 (kx_186 : (Nat → Int32) → Option (Int32 × (Nat → Int32))) (v_columns : Int32) (v_isBlob : Nat → Int32) (v_integer : Nat → Int64) (v_size : Nat → Int32) (v_blobs : Nat → Int32) (v_length : Int32) (x_1 : Int32) (x_2 : Int32) : Nat → (Nat → Int32) → Int32 → Option (Int32 × (Nat → Int32))
  | 0, _, _ => none
  | n + 1, v_record, x_3 => pu_br (x_2 ≤ x_3) (kx_186 v_record) (pu_ck (vp_in x_1 3) (pu_br ((v_isBlob x_1.toNatClampNeg) = 0) (pu_ck (vp_in x_1 3) (q_MD_encode_179 (q_MD_encode_121 kx_186 v_columns v_isBlob v_integer v_size v_blobs v_length x_1 x_2 n) kx_186 v_columns v_isBlob v_integer v_size v_blobs v_length v_record x_1 x_2 x_3 (v_length + x_3) (((((v_integer x_1.toNatClampNeg).toUInt64 >>> (((8 : Int32) * ((x_2 - (1 : Int32)) - x_3)).toInt64.toUInt64 &&& Int64.toUInt64 63)).toInt64) &&& (255 : Int64)).toInt32))) (pu_ck (vp_in (((100 : Int32) * x_1) + x_3) 300) (q_MD_encode_179 (q_MD_encode_121 kx_186 v_columns v_isBlob v_integer v_size v_blobs v_length x_1 x_2 n) kx_186 v_columns v_isBlob v_integer v_size v_blobs v_length v_record x_1 x_2 x_3 (v_length + x_3) (v_blobs (((100 : Int32) * x_1) + x_3).toNatClampNeg)))))
noncomputable def q_MD_encode_118 (kb : Int32 → (Nat → Int32) → Int32 → Option (Int32 × (Nat → Int32))) (v_columns : Int32) (v_isBlob : Nat → Int32) (v_integer : Nat → Int64) (v_size : Nat → Int32) (v_blobs : Nat → Int32) (v_length : Int32) (v_record : Nat → Int32) (x_1 : Int32) (s_0 : Int32) : Option (Int32 × (Nat → Int32)) :=
  q_MD_encode_121 (fun v_record => q_MD_encode_186 kb v_columns v_isBlob v_integer v_size v_blobs v_length v_record x_1 s_0) v_columns v_isBlob v_integer v_size v_blobs v_length x_1 s_0 pu_fu v_record (0 : Int32)
noncomputable def q_MD_encode_80 (v_columns : Int32) (v_isBlob : Nat → Int32) (v_integer : Nat → Int64) (v_size : Nat → Int32) (v_blobs : Nat → Int32) : Nat → Int32 → (Nat → Int32) → Int32 → Option (Int32 × (Nat → Int32))
  | 0, _, _, _ => none
  | n + 1, v_length, v_record, x_1 => pu_br (v_columns ≤ x_1) (some (v_length, v_record)) (pu_ck (vp_in x_1 3) (pu_br ((v_isBlob x_1.toNatClampNeg) = 0) (pu_ck (vp_in x_1 3) (pu_b1 (f_MD_codeOf (v_integer x_1.toNatClampNeg)) (fun r2 => pu_b1 (f_MD_bytesOf r2) (fun r3 => q_MD_encode_118 (q_MD_encode_80 v_columns v_isBlob v_integer v_size v_blobs n) v_columns v_isBlob v_integer v_size v_blobs v_length v_record x_1 r3)))) (pu_ck (vp_in x_1 3) (q_MD_encode_118 (q_MD_encode_80 v_columns v_isBlob v_integer v_size v_blobs n) v_columns v_isBlob v_integer v_size v_blobs v_length v_record x_1 (v_size x_1.toNatClampNeg)))))
noncomputable def q_MD_encode_68 (v_columns : Int32) (v_isBlob : Nat → Int32) (v_integer : Nat → Int64) (v_size : Nat → Int32) (v_blobs : Nat → Int32) (v_length : Int32) (v_record : Nat → Int32) : Option (Int32 × (Nat → Int32)) :=
  pu_ck (vp_in (0 : Int32) 700) (pu_nm (upd v_record (0 : Int32).toNatClampNeg v_length) (fun a1 => q_MD_encode_80 v_columns v_isBlob v_integer v_size v_blobs pu_fu v_length a1 (0 : Int32)))
noncomputable def q_MD_encode_56 (kb : Int32 → (Nat → Int32) → Int32 → Option (Int32 × (Nat → Int32))) (kx_68 : Int32 → (Nat → Int32) → Option (Int32 × (Nat → Int32))) (v_columns : Int32) (v_isBlob : Nat → Int32) (v_integer : Nat → Int64) (v_size : Nat → Int32) (v_blobs : Nat → Int32) (v_length : Int32) (v_record : Nat → Int32) (x_1 : Int32) (s_2 : Int32) (s_3 : Int32) : Option (Int32 × (Nat → Int32)) :=
  pu_b2 (f_MD_varint 700 v_record s_2 s_3) (fun r9 w10 => pu_nm (x_1 + (1 : Int32)) (fun t11 => kb r9 w10 t11))
noncomputable def q_MD_encode_7 (kx_68 : Int32 → (Nat → Int32) → Option (Int32 × (Nat → Int32))) (v_columns : Int32) (v_isBlob : Nat → Int32) (v_integer : Nat → Int64) (v_size : Nat → Int32) (v_blobs : Nat → Int32) : Nat → Int32 → (Nat → Int32) → Int32 → Option (Int32 × (Nat → Int32))
  | 0, _, _, _ => none
  | n + 1, v_length, v_record, x_1 => pu_br (v_columns ≤ x_1) (kx_68 v_length v_record) (pu_ck (vp_in x_1 3) (pu_br ((v_isBlob x_1.toNatClampNeg) = 0) (pu_ck (vp_in x_1 3) (pu_b1 (f_MD_codeOf (v_integer x_1.toNatClampNeg)) (fun r8 => q_MD_encode_56 (q_MD_encode_7 kx_68 v_columns v_isBlob v_integer v_size v_blobs n) kx_68 v_columns v_isBlob v_integer v_size v_blobs v_length v_record x_1 v_length r8))) (pu_ck (vp_in x_1 3) (q_MD_encode_56 (q_MD_encode_7 kx_68 v_columns v_isBlob v_integer v_size v_blobs n) kx_68 v_columns v_isBlob v_integer v_size v_blobs v_length v_record x_1 v_length ((12 : Int32) + ((2 : Int32) * (v_size x_1.toNatClampNeg)))))))
noncomputable def f_MD_encode (v_columns : Int32) (v_isBlob : Nat → Int32) (v_integer : Nat → Int64) (v_size : Nat → Int32) (v_blobs : Nat → Int32) (v_length : Int32) (v_record : Nat → Int32) : Option (Int32 × (Nat → Int32)) :=
  q_MD_encode_7 (fun v_length v_record => q_MD_encode_68 v_columns v_isBlob v_integer v_size v_blobs v_length v_record) v_columns v_isBlob v_integer v_size v_blobs pu_fu (1 : Int32) v_record (0 : Int32)
abbrev rm_MD_encode : Room := { frames := 1, cells := 0, slots := 0, locals := 24 }
set_option maxHeartbeats 8000000 in
set_option maxRecDepth 100000 in
theorem c_MD_encode (l : Launch) (D : va_G) (cI cJ cB cZ : ClassId) (sz : Nat) (q_this : Nat) (q_now : Nat) (q_disk : Nat) (q_before : Nat) (q_recordPage : Nat) (q_recordBytes : Nat) (q_isBlob : Nat) (q_integer : Nat) (q_size : Nat) (q_blobs : Nat) (q_record : Nat) (q_cellLength : Nat) (q_row : Nat) (q_cell : Nat) (q_way : Nat) (q_turn : Nat) (q_used : Nat) (v_onDisk : Int32) (v_head : Int32) (v_headPages : Int32) (v_records : Int32) (v_up : Int32) (v_armed : Int32) (v_columns : Int32) (v_length : Int32) (v_kind : Int32) (v_cells : Int32) (v_last : Int32) (v_made : Int32) (v_deep : Int32) (v_at : Int32) (v_bad : Int32) (v_isBlob : Nat → Int32) (v_integer : Nat → Int64) (v_size : Nat → Int32) (v_blobs : Nat → Int32) (v_record : Nat → Int32) (o_length : Int32) (o_record : Nat → Int32) (hf : f_MD_encode v_columns v_isBlob v_integer v_size v_blobs v_length v_record = some (o_length, o_record)) : Met l y_MD_encode (.code y_MD_encode b_MD_encode 4 none :: pu_wA) rm_MD_encode (pu_pc D pu_cl (pu_ty cI cJ cB cZ) [.ref q_this] [(q_this, .inr (8, [.ref q_now, .ref q_disk, .ref q_before, .int v_onDisk, .int v_head, .int v_headPages, .int v_records, .ref q_recordPage, .ref q_recordBytes, .int v_up, .int v_armed, .int v_columns, .ref q_isBlob, .ref q_integer, .ref q_size, .ref q_blobs, .int v_length, .ref q_record, .int v_kind, .int v_cells, .int v_last, .ref q_cellLength, .ref q_row, .int v_made, .ref q_cell, .int v_deep, .ref q_way, .ref q_turn, .int v_at, .int v_bad, .ref q_used])), (q_isBlob, .inl (cZ, 3, .inl v_isBlob)), (q_integer, .inl (cJ, 3, .inr (.inl v_integer))), (q_size, .inl (cI, 3, .inl v_size)), (q_blobs, .inl (cI, 300, .inl v_blobs)), (q_record, .inl (cI, 700, .inl v_record))] sz) (pu_qv D pu_cl (pu_ty cI cJ cB cZ) [(q_this, .inr (8, [.ref q_now, .ref q_disk, .ref q_before, .int v_onDisk, .int v_head, .int v_headPages, .int v_records, .ref q_recordPage, .ref q_recordBytes, .int v_up, .int v_armed, .int v_columns, .ref q_isBlob, .ref q_integer, .ref q_size, .ref q_blobs, .int v_length, .ref q_record, .int v_kind, .int v_cells, .int v_last, .ref q_cellLength, .ref q_row, .int v_made, .ref q_cell, .int v_deep, .ref q_way, .ref q_turn, .int v_at, .int v_bad, .ref q_used])), (q_isBlob, .inl (cZ, 3, .inl v_isBlob)), (q_integer, .inl (cJ, 3, .inr (.inl v_integer))), (q_size, .inl (cI, 3, .inl v_size)), (q_blobs, .inl (cI, 300, .inl v_blobs)), (q_record, .inl (cI, 700, .inl v_record))] [(q_this, .inr (8, [.ref q_now, .ref q_disk, .ref q_before, .int v_onDisk, .int v_head, .int v_headPages, .int v_records, .ref q_recordPage, .ref q_recordBytes, .int v_up, .int v_armed, .int v_columns, .ref q_isBlob, .ref q_integer, .ref q_size, .ref q_blobs, .int o_length, .ref q_record, .int v_kind, .int v_cells, .int v_last, .ref q_cellLength, .ref q_row, .int v_made, .ref q_cell, .int v_deep, .ref q_way, .ref q_turn, .int v_at, .int v_bad, .ref q_used])), (q_isBlob, .inl (cZ, 3, .inl v_isBlob)), (q_integer, .inl (cJ, 3, .inr (.inl v_integer))), (q_size, .inl (cI, 3, .inl v_size)), (q_blobs, .inl (cI, 300, .inl v_blobs)), (q_record, .inl (cI, 700, .inl o_record))] sz) 0 0 (va_A [(q_this, .inr (8, [.ref q_now, .ref q_disk, .ref q_before, .int v_onDisk, .int v_head, .int v_headPages, .int v_records, .ref q_recordPage, .ref q_recordBytes, .int v_up, .int v_armed, .int v_columns, .ref q_isBlob, .ref q_integer, .ref q_size, .ref q_blobs, .int v_length, .ref q_record, .int v_kind, .int v_cells, .int v_last, .ref q_cellLength, .ref q_row, .int v_made, .ref q_cell, .int v_deep, .ref q_way, .ref q_turn, .int v_at, .int v_bad, .ref q_used])), (q_isBlob, .inl (cZ, 3, .inl v_isBlob)), (q_integer, .inl (cJ, 3, .inr (.inl v_integer))), (q_size, .inl (cI, 3, .inl v_size)), (q_blobs, .inl (cI, 300, .inl v_blobs)), (q_record, .inl (cI, 700, .inl v_record))] sz) := by
  refine pu_mtv [.ref q_this] [(q_this, .inr (8, [.ref q_now, .ref q_disk, .ref q_before, .int v_onDisk, .int v_head, .int v_headPages, .int v_records, .ref q_recordPage, .ref q_recordBytes, .int v_up, .int v_armed, .int v_columns, .ref q_isBlob, .ref q_integer, .ref q_size, .ref q_blobs, .int v_length, .ref q_record, .int v_kind, .int v_cells, .int v_last, .ref q_cellLength, .ref q_row, .int v_made, .ref q_cell, .int v_deep, .ref q_way, .ref q_turn, .int v_at, .int v_bad, .ref q_used])), (q_isBlob, .inl (cZ, 3, .inl v_isBlob)), (q_integer, .inl (cJ, 3, .inr (.inl v_integer))), (q_size, .inl (cI, 3, .inl v_size)), (q_blobs, .inl (cI, 300, .inl v_blobs)), (q_record, .inl (cI, 700, .inl v_record))] [(q_this, .inr (8, [.ref q_now, .ref q_disk, .ref q_before, .int v_onDisk, .int v_head, .int v_headPages, .int v_records, .ref q_recordPage, .ref q_recordBytes, .int v_up, .int v_armed, .int v_columns, .ref q_isBlob, .ref q_integer, .ref q_size, .ref q_blobs, .int o_length, .ref q_record, .int v_kind, .int v_cells, .int v_last, .ref q_cellLength, .ref q_row, .int v_made, .ref q_cell, .int v_deep, .ref q_way, .ref q_turn, .int v_at, .int v_bad, .ref q_used])), (q_isBlob, .inl (cZ, 3, .inl v_isBlob)), (q_integer, .inl (cJ, 3, .inr (.inl v_integer))), (q_size, .inl (cI, 3, .inl v_size)), (q_blobs, .inl (cI, 300, .inl v_blobs)), (q_record, .inl (cI, 700, .inl o_record))] (by decide) (Nat.le_of_ble_eq_true rfl) ?_
  intro p e s m args below meth c A Q ls hx hb hml hts hN hown hK hA hP hD hl hret0
  have hS : va_S A s.heap s.heap [] := va_S.rf
  have hl : lv_has ls 4 [(0, .ref q_this)] := hl
  have hret : ∀ (pc : Nat) (ls : Array Slot) (H : Heap) (locs : List Loc) (y_0 : Int32) (y_1 : Nat → Int32), decode b_MD_encode pc = .ok (.return_, 1) → va_P D pu_cl [(q_this, .inr (8, [.ref q_now, .ref q_disk, .ref q_before, .int v_onDisk, .int v_head, .int v_headPages, .int v_records, .ref q_recordPage, .ref q_recordBytes, .int v_up, .int v_armed, .int v_columns, .ref q_isBlob, .ref q_integer, .ref q_size, .ref q_blobs, .int y_0, .ref q_record, .int v_kind, .int v_cells, .int v_last, .ref q_cellLength, .ref q_row, .int v_made, .ref q_cell, .int v_deep, .ref q_way, .ref q_turn, .int v_at, .int v_bad, .ref q_used])), (q_isBlob, .inl (cZ, 3, .inl v_isBlob)), (q_integer, .inl (cJ, 3, .inr (.inl v_integer))), (q_size, .inl (cI, 3, .inl v_size)), (q_blobs, .inl (cI, 300, .inl v_blobs)), (q_record, .inl (cI, 700, .inl y_1))] H → va_D A [(q_this, .inr (8, [.ref q_now, .ref q_disk, .ref q_before, .int v_onDisk, .int v_head, .int v_headPages, .int v_records, .ref q_recordPage, .ref q_recordBytes, .int v_up, .int v_armed, .int v_columns, .ref q_isBlob, .ref q_integer, .ref q_size, .ref q_blobs, .int y_0, .ref q_record, .int v_kind, .int v_cells, .int v_last, .ref q_cellLength, .ref q_row, .int v_made, .ref q_cell, .int v_deep, .ref q_way, .ref q_turn, .int v_at, .int v_bad, .ref q_used])), (q_isBlob, .inl (cZ, 3, .inl v_isBlob)), (q_integer, .inl (cJ, 3, .inr (.inl v_integer))), (q_size, .inl (cI, 3, .inl v_size)), (q_blobs, .inl (cI, 300, .inl v_blobs)), (q_record, .inl (cI, 700, .inl y_1))] → va_S A s.heap H locs → some (y_0, y_1) = some (o_length, o_record) → W p l e rm_MD_encode s m args below meth c H locs 0 0 Q (F0 m pc ls []) := by
    intro pc ls H locs y_0 y_1 hd hP hD hS hf
    cases hf
    exact hret0 pc ls H locs hd hP hD hS
  clear hret0
  unfold f_MD_encode at hf
  skip
  have lp_80 : ∀ (n80 : Nat) (v_length : Int32) (v_record : Nat → Int32) (x_1 : Int32) (H : Heap) (locs : List Loc) (ls : Array Slot), va_P D pu_cl [(q_this, .inr (8, [.ref q_now, .ref q_disk, .ref q_before, .int v_onDisk, .int v_head, .int v_headPages, .int v_records, .ref q_recordPage, .ref q_recordBytes, .int v_up, .int v_armed, .int v_columns, .ref q_isBlob, .ref q_integer, .ref q_size, .ref q_blobs, .int v_length, .ref q_record, .int v_kind, .int v_cells, .int v_last, .ref q_cellLength, .ref q_row, .int v_made, .ref q_cell, .int v_deep, .ref q_way, .ref q_turn, .int v_at, .int v_bad, .ref q_used])), (q_isBlob, .inl (cZ, 3, .inl v_isBlob)), (q_integer, .inl (cJ, 3, .inr (.inl v_integer))), (q_size, .inl (cI, 3, .inl v_size)), (q_blobs, .inl (cI, 300, .inl v_blobs)), (q_record, .inl (cI, 700, .inl v_record))] H → va_D A [(q_this, .inr (8, [.ref q_now, .ref q_disk, .ref q_before, .int v_onDisk, .int v_head, .int v_headPages, .int v_records, .ref q_recordPage, .ref q_recordBytes, .int v_up, .int v_armed, .int v_columns, .ref q_isBlob, .ref q_integer, .ref q_size, .ref q_blobs, .int v_length, .ref q_record, .int v_kind, .int v_cells, .int v_last, .ref q_cellLength, .ref q_row, .int v_made, .ref q_cell, .int v_deep, .ref q_way, .ref q_turn, .int v_at, .int v_bad, .ref q_used])), (q_isBlob, .inl (cZ, 3, .inl v_isBlob)), (q_integer, .inl (cJ, 3, .inr (.inl v_integer))), (q_size, .inl (cI, 3, .inl v_size)), (q_blobs, .inl (cI, 300, .inl v_blobs)), (q_record, .inl (cI, 700, .inl v_record))] → va_S A s.heap H locs → lv_has ls 4 [(0, .ref q_this), (1, .int x_1)] → q_MD_encode_80 v_columns v_isBlob v_integer v_size v_blobs n80 v_length v_record x_1 = some (o_length, o_record) → W p l e rm_MD_encode s m args below meth c H locs 0 0 Q (F0 m 80 ls []) := by
    intro n80
    induction n80 with
    | zero =>
      intro v_length v_record x_1 H locs ls hP hD hS hl hf
      rw [q_MD_encode_80] at hf
      cases hf
    | succ n80 ih_80 =>
      have lb_186 : ∀ (v_length : Int32) (v_record : Nat → Int32) (x_1 : Int32) (x_2 : Int32) (H : Heap) (locs : List Loc) (ls : Array Slot), va_P D pu_cl [(q_this, .inr (8, [.ref q_now, .ref q_disk, .ref q_before, .int v_onDisk, .int v_head, .int v_headPages, .int v_records, .ref q_recordPage, .ref q_recordBytes, .int v_up, .int v_armed, .int v_columns, .ref q_isBlob, .ref q_integer, .ref q_size, .ref q_blobs, .int v_length, .ref q_record, .int v_kind, .int v_cells, .int v_last, .ref q_cellLength, .ref q_row, .int v_made, .ref q_cell, .int v_deep, .ref q_way, .ref q_turn, .int v_at, .int v_bad, .ref q_used])), (q_isBlob, .inl (cZ, 3, .inl v_isBlob)), (q_integer, .inl (cJ, 3, .inr (.inl v_integer))), (q_size, .inl (cI, 3, .inl v_size)), (q_blobs, .inl (cI, 300, .inl v_blobs)), (q_record, .inl (cI, 700, .inl v_record))] H → va_D A [(q_this, .inr (8, [.ref q_now, .ref q_disk, .ref q_before, .int v_onDisk, .int v_head, .int v_headPages, .int v_records, .ref q_recordPage, .ref q_recordBytes, .int v_up, .int v_armed, .int v_columns, .ref q_isBlob, .ref q_integer, .ref q_size, .ref q_blobs, .int v_length, .ref q_record, .int v_kind, .int v_cells, .int v_last, .ref q_cellLength, .ref q_row, .int v_made, .ref q_cell, .int v_deep, .ref q_way, .ref q_turn, .int v_at, .int v_bad, .ref q_used])), (q_isBlob, .inl (cZ, 3, .inl v_isBlob)), (q_integer, .inl (cJ, 3, .inr (.inl v_integer))), (q_size, .inl (cI, 3, .inl v_size)), (q_blobs, .inl (cI, 300, .inl v_blobs)), (q_record, .inl (cI, 700, .inl v_record))] → va_S A s.heap H locs → lv_has ls 4 [(0, .ref q_this), (1, .int x_1), (2, .int x_2)] → q_MD_encode_186 (q_MD_encode_80 v_columns v_isBlob v_integer v_size v_blobs n80) v_columns v_isBlob v_integer v_size v_blobs v_length v_record x_1 x_2 = some (o_length, o_record) → W p l e rm_MD_encode s m args below meth c H locs 0 0 Q (F0 m 186 ls []) := by
        intro v_length v_record x_1 x_2 H locs ls hP hD hS hl hf
        rw [q_MD_encode_186] at hf
        refine lv_aload_n hx hb d_MD_encode_186 rfl (lv_at hl 0 rfl) ?_
        refine lv_dup hx hb d_MD_encode_187 rfl ?_
        refine gf_MD_91 (v := .int v_length) hx hb hts hN hown hK hP 0 rfl rfl d_MD_encode_188 ?_
        refine lv_iload_n hx hb d_MD_encode_191 rfl (lv_at hl 2 rfl) ?_
        refine lv_iadd hx hb d_MD_encode_192 ?_
        obtain ⟨t4, e_t4, hf⟩ := pu_nm_some hf
        refine pu_ti e_t4 ?_
        refine pf_MD_91 (v := .int t4) hx hb hts hN hown hK hP hD hS 0 rfl rfl rfl (Nat.le_of_ble_eq_true rfl) d_MD_encode_193 (fun H locs hP hD hS => ?_)
        have hP : va_P D pu_cl [(q_this, .inr (8, [.ref q_now, .ref q_disk, .ref q_before, .int v_onDisk, .int v_head, .int v_headPages, .int v_records, .ref q_recordPage, .ref q_recordBytes, .int v_up, .int v_armed, .int v_columns, .ref q_isBlob, .ref q_integer, .ref q_size, .ref q_blobs, .int t4, .ref q_record, .int v_kind, .int v_cells, .int v_last, .ref q_cellLength, .ref q_row, .int v_made, .ref q_cell, .int v_deep, .ref q_way, .ref q_turn, .int v_at, .int v_bad, .ref q_used])), (q_isBlob, .inl (cZ, 3, .inl v_isBlob)), (q_integer, .inl (cJ, 3, .inr (.inl v_integer))), (q_size, .inl (cI, 3, .inl v_size)), (q_blobs, .inl (cI, 300, .inl v_blobs)), (q_record, .inl (cI, 700, .inl v_record))] H := hP
        have hD : va_D A [(q_this, .inr (8, [.ref q_now, .ref q_disk, .ref q_before, .int v_onDisk, .int v_head, .int v_headPages, .int v_records, .ref q_recordPage, .ref q_recordBytes, .int v_up, .int v_armed, .int v_columns, .ref q_isBlob, .ref q_integer, .ref q_size, .ref q_blobs, .int t4, .ref q_record, .int v_kind, .int v_cells, .int v_last, .ref q_cellLength, .ref q_row, .int v_made, .ref q_cell, .int v_deep, .ref q_way, .ref q_turn, .int v_at, .int v_bad, .ref q_used])), (q_isBlob, .inl (cZ, 3, .inl v_isBlob)), (q_integer, .inl (cJ, 3, .inr (.inl v_integer))), (q_size, .inl (cI, 3, .inl v_size)), (q_blobs, .inl (cI, 300, .inl v_blobs)), (q_record, .inl (cI, 700, .inl v_record))] := hD
        obtain ⟨t5, e_t5, hf⟩ := pu_nm_some hf
        refine lv_iinc (k := 1) (v := t5) hx hb d_MD_encode_196 hl rfl e_t5.symm (by decide) rfl (fun ls hl => ?_)
        have hl : lv_has ls 4 [(1, .int t5), (0, .ref q_this), (2, .int x_2)] := hl
        refine lv_goto (tgt := 80) hx hb d_MD_encode_199 rfl ?_
        exact ih_80 t4 v_record t5 H locs ls hP hD hS (lv_sub hl [1, 0] rfl) hf
      have lp_121 : ∀ (v_length : Int32) (x_1 : Int32) (x_2 : Int32) (n121 : Nat) (v_record : Nat → Int32) (x_3 : Int32) (H : Heap) (locs : List Loc) (ls : Array Slot), va_P D pu_cl [(q_this, .inr (8, [.ref q_now, .ref q_disk, .ref q_before, .int v_onDisk, .int v_head, .int v_headPages, .int v_records, .ref q_recordPage, .ref q_recordBytes, .int v_up, .int v_armed, .int v_columns, .ref q_isBlob, .ref q_integer, .ref q_size, .ref q_blobs, .int v_length, .ref q_record, .int v_kind, .int v_cells, .int v_last, .ref q_cellLength, .ref q_row, .int v_made, .ref q_cell, .int v_deep, .ref q_way, .ref q_turn, .int v_at, .int v_bad, .ref q_used])), (q_isBlob, .inl (cZ, 3, .inl v_isBlob)), (q_integer, .inl (cJ, 3, .inr (.inl v_integer))), (q_size, .inl (cI, 3, .inl v_size)), (q_blobs, .inl (cI, 300, .inl v_blobs)), (q_record, .inl (cI, 700, .inl v_record))] H → va_D A [(q_this, .inr (8, [.ref q_now, .ref q_disk, .ref q_before, .int v_onDisk, .int v_head, .int v_headPages, .int v_records, .ref q_recordPage, .ref q_recordBytes, .int v_up, .int v_armed, .int v_columns, .ref q_isBlob, .ref q_integer, .ref q_size, .ref q_blobs, .int v_length, .ref q_record, .int v_kind, .int v_cells, .int v_last, .ref q_cellLength, .ref q_row, .int v_made, .ref q_cell, .int v_deep, .ref q_way, .ref q_turn, .int v_at, .int v_bad, .ref q_used])), (q_isBlob, .inl (cZ, 3, .inl v_isBlob)), (q_integer, .inl (cJ, 3, .inr (.inl v_integer))), (q_size, .inl (cI, 3, .inl v_size)), (q_blobs, .inl (cI, 300, .inl v_blobs)), (q_record, .inl (cI, 700, .inl v_record))] → va_S A s.heap H locs → lv_has ls 4 [(0, .ref q_this), (1, .int x_1), (2, .int x_2), (3, .int x_3)] → q_MD_encode_121 (fun v_record => q_MD_encode_186 (q_MD_encode_80 v_columns v_isBlob v_integer v_size v_blobs n80) v_columns v_isBlob v_integer v_size v_blobs v_length v_record x_1 x_2) v_columns v_isBlob v_integer v_size v_blobs v_length x_1 x_2 n121 v_record x_3 = some (o_length, o_record) → W p l e rm_MD_encode s m args below meth c H locs 0 0 Q (F0 m 121 ls []) := by
        intro v_length x_1 x_2 n121
        induction n121 with
        | zero =>
          intro v_record x_3 H locs ls hP hD hS hl hf
          rw [q_MD_encode_121] at hf
          cases hf
        | succ n121 ih_121 =>
          have lb_179 : ∀ (v_record : Nat → Int32) (x_3 : Int32) (s_1 : Int32) (s_2 : Int32) (H : Heap) (locs : List Loc) (ls : Array Slot), va_P D pu_cl [(q_this, .inr (8, [.ref q_now, .ref q_disk, .ref q_before, .int v_onDisk, .int v_head, .int v_headPages, .int v_records, .ref q_recordPage, .ref q_recordBytes, .int v_up, .int v_armed, .int v_columns, .ref q_isBlob, .ref q_integer, .ref q_size, .ref q_blobs, .int v_length, .ref q_record, .int v_kind, .int v_cells, .int v_last, .ref q_cellLength, .ref q_row, .int v_made, .ref q_cell, .int v_deep, .ref q_way, .ref q_turn, .int v_at, .int v_bad, .ref q_used])), (q_isBlob, .inl (cZ, 3, .inl v_isBlob)), (q_integer, .inl (cJ, 3, .inr (.inl v_integer))), (q_size, .inl (cI, 3, .inl v_size)), (q_blobs, .inl (cI, 300, .inl v_blobs)), (q_record, .inl (cI, 700, .inl v_record))] H → va_D A [(q_this, .inr (8, [.ref q_now, .ref q_disk, .ref q_before, .int v_onDisk, .int v_head, .int v_headPages, .int v_records, .ref q_recordPage, .ref q_recordBytes, .int v_up, .int v_armed, .int v_columns, .ref q_isBlob, .ref q_integer, .ref q_size, .ref q_blobs, .int v_length, .ref q_record, .int v_kind, .int v_cells, .int v_last, .ref q_cellLength, .ref q_row, .int v_made, .ref q_cell, .int v_deep, .ref q_way, .ref q_turn, .int v_at, .int v_bad, .ref q_used])), (q_isBlob, .inl (cZ, 3, .inl v_isBlob)), (q_integer, .inl (cJ, 3, .inr (.inl v_integer))), (q_size, .inl (cI, 3, .inl v_size)), (q_blobs, .inl (cI, 300, .inl v_blobs)), (q_record, .inl (cI, 700, .inl v_record))] → va_S A s.heap H locs → lv_has ls 4 [(0, .ref q_this), (1, .int x_1), (2, .int x_2), (3, .int x_3)] → q_MD_encode_179 (q_MD_encode_121 (fun v_record => q_MD_encode_186 (q_MD_encode_80 v_columns v_isBlob v_integer v_size v_blobs n80) v_columns v_isBlob v_integer v_size v_blobs v_length v_record x_1 x_2) v_columns v_isBlob v_integer v_size v_blobs v_length x_1 x_2 n121) (fun v_record => q_MD_encode_186 (q_MD_encode_80 v_columns v_isBlob v_integer v_size v_blobs n80) v_columns v_isBlob v_integer v_size v_blobs v_length v_record x_1 x_2) v_columns v_isBlob v_integer v_size v_blobs v_length v_record x_1 x_2 x_3 s_1 s_2 = some (o_length, o_record) → W p l e rm_MD_encode s m args below meth c H locs 0 0 Q (F0 m 179 ls [.int s_2, .int s_1, .ref q_record]) := by
            intro v_record x_3 s_1 s_2 H locs ls hP hD hS hl hf
            rw [q_MD_encode_179] at hf
            obtain ⟨hin, hf⟩ := pu_ck_some hf
            obtain ⟨a6, e_a6, hf⟩ := pu_nm_some hf
            refine va_iast hx hb hK hP hD hS 5 0 rfl rfl hin d_MD_encode_179 (fun H locs hP hD hS => ?_)
            have hP : va_P D pu_cl [(q_this, .inr (8, [.ref q_now, .ref q_disk, .ref q_before, .int v_onDisk, .int v_head, .int v_headPages, .int v_records, .ref q_recordPage, .ref q_recordBytes, .int v_up, .int v_armed, .int v_columns, .ref q_isBlob, .ref q_integer, .ref q_size, .ref q_blobs, .int v_length, .ref q_record, .int v_kind, .int v_cells, .int v_last, .ref q_cellLength, .ref q_row, .int v_made, .ref q_cell, .int v_deep, .ref q_way, .ref q_turn, .int v_at, .int v_bad, .ref q_used])), (q_isBlob, .inl (cZ, 3, .inl v_isBlob)), (q_integer, .inl (cJ, 3, .inr (.inl v_integer))), (q_size, .inl (cI, 3, .inl v_size)), (q_blobs, .inl (cI, 300, .inl v_blobs)), (q_record, .inl (cI, 700, .inl a6))] H := by rw [e_a6]; exact hP
            have hD : va_D A [(q_this, .inr (8, [.ref q_now, .ref q_disk, .ref q_before, .int v_onDisk, .int v_head, .int v_headPages, .int v_records, .ref q_recordPage, .ref q_recordBytes, .int v_up, .int v_armed, .int v_columns, .ref q_isBlob, .ref q_integer, .ref q_size, .ref q_blobs, .int v_length, .ref q_record, .int v_kind, .int v_cells, .int v_last, .ref q_cellLength, .ref q_row, .int v_made, .ref q_cell, .int v_deep, .ref q_way, .ref q_turn, .int v_at, .int v_bad, .ref q_used])), (q_isBlob, .inl (cZ, 3, .inl v_isBlob)), (q_integer, .inl (cJ, 3, .inr (.inl v_integer))), (q_size, .inl (cI, 3, .inl v_size)), (q_blobs, .inl (cI, 300, .inl v_blobs)), (q_record, .inl (cI, 700, .inl a6))] := by rw [e_a6]; exact hD
            obtain ⟨t7, e_t7, hf⟩ := pu_nm_some hf
            refine lv_iinc (k := 3) (v := t7) hx hb d_MD_encode_180 hl rfl e_t7.symm (by decide) rfl (fun ls hl => ?_)
            have hl : lv_has ls 4 [(3, .int t7), (0, .ref q_this), (1, .int x_1), (2, .int x_2)] := hl
            refine lv_goto (tgt := 121) hx hb d_MD_encode_183 rfl ?_
            exact ih_121 a6 t7 H locs ls hP hD hS (lv_sub hl [1, 2, 3, 0] rfl) hf
          intro v_record x_3 H locs ls hP hD hS hl hf
          rw [q_MD_encode_121] at hf
          refine lv_iload_n hx hb d_MD_encode_121 rfl (lv_at hl 3 rfl) ?_
          refine lv_iload_n hx hb d_MD_encode_122 rfl (lv_at hl 2 rfl) ?_
          refine lv_icmp_ge (tgt := 186) hx hb d_MD_encode_123 rfl (fun hc => ?_) (fun hc => ?_)
          · have hf := pu_br_pos hf hc
            exact lb_186 v_length v_record x_1 x_2 H locs ls hP hD hS (lv_sub hl [0, 1, 2] rfl) hf
          have hf := pu_br_neg hf hc
          refine lv_aload_n hx hb d_MD_encode_126 rfl (lv_at hl 0 rfl) ?_
          refine gf_MD_50 (v := .ref q_record) hx hb hts hN hown hK hP 0 rfl rfl d_MD_encode_127 ?_
          refine lv_aload_n hx hb d_MD_encode_130 rfl (lv_at hl 0 rfl) ?_
          refine gf_MD_91 (v := .int v_length) hx hb hts hN hown hK hP 0 rfl rfl d_MD_encode_131 ?_
          refine lv_iload_n hx hb d_MD_encode_134 rfl (lv_at hl 3 rfl) ?_
          refine lv_iadd hx hb d_MD_encode_135 ?_
          refine lv_aload_n hx hb d_MD_encode_136 rfl (lv_at hl 0 rfl) ?_
          refine gf_MD_36 (v := .ref q_isBlob) hx hb hts hN hown hK hP 0 rfl rfl d_MD_encode_137 ?_
          refine lv_iload_n hx hb d_MD_encode_140 rfl (lv_at hl 1 rfl) ?_
          obtain ⟨hin, hf⟩ := pu_ck_some hf
          refine va_zald hx hb hK hP 1 3 rfl rfl hin d_MD_encode_141 ?_
          refine lv_if_eq (tgt := 159) hx hb d_MD_encode_142 rfl (fun hc => ?_) (fun hc => ?_)
          · have hf := pu_br_pos hf hc
            refine lv_aload_n hx hb d_MD_encode_159 rfl (lv_at hl 0 rfl) ?_
            refine gf_MD_40 (v := .ref q_integer) hx hb hts hN hown hK hP 0 rfl rfl d_MD_encode_160 ?_
            refine lv_iload_n hx hb d_MD_encode_163 rfl (lv_at hl 1 rfl) ?_
            obtain ⟨hin, hf⟩ := pu_ck_some hf
            refine va_lald hx hb hK hP 2 1 rfl rfl hin d_MD_encode_164 ?_
            refine lv_bipush (v := 8) hx hb d_MD_encode_165 rfl ?_
            refine lv_iload_n hx hb d_MD_encode_167 rfl (lv_at hl 2 rfl) ?_
            refine lv_iconst (v := 1) hx hb d_MD_encode_168 rfl ?_
            refine lv_isub hx hb d_MD_encode_169 ?_
            refine lv_iload_n hx hb d_MD_encode_170 rfl (lv_at hl 3 rfl) ?_
            refine lv_isub hx hb d_MD_encode_171 ?_
            refine lv_imul hx hb d_MD_encode_172 ?_
            refine lv_lushr hx hb d_MD_encode_173 rfl ?_
            refine lv_ldc2 (v := 255) hx hb hown (hts _ (pu_in10 _ (List.mem_of_getElem? (i := 29) rfl))) d_MD_encode_174 ?_
            refine lv_land hx hb d_MD_encode_177 ?_
            refine lv_l2i hx hb d_MD_encode_178 rfl ?_
            exact lb_179 v_record x_3 (v_length + x_3) (((((v_integer x_1.toNatClampNeg).toUInt64 >>> (((8 : Int32) * ((x_2 - (1 : Int32)) - x_3)).toInt64.toUInt64 &&& Int64.toUInt64 63)).toInt64) &&& (255 : Int64)).toInt32) H locs ls hP hD hS (lv_sub hl [0, 1, 2, 3] rfl) hf
          have hf := pu_br_neg hf hc
          refine lv_aload_n hx hb d_MD_encode_145 rfl (lv_at hl 0 rfl) ?_
          refine gf_MD_47 (v := .ref q_blobs) hx hb hts hN hown hK hP 0 rfl rfl d_MD_encode_146 ?_
          refine lv_bipush (v := 100) hx hb d_MD_encode_149 rfl ?_
          refine lv_iload_n hx hb d_MD_encode_151 rfl (lv_at hl 1 rfl) ?_
          refine lv_imul hx hb d_MD_encode_152 ?_
          refine lv_iload_n hx hb d_MD_encode_153 rfl (lv_at hl 3 rfl) ?_
          refine lv_iadd hx hb d_MD_encode_154 ?_
          obtain ⟨hin, hf⟩ := pu_ck_some hf
          refine va_iald hx hb hK hP 4 0 rfl rfl hin d_MD_encode_155 ?_
          refine lv_goto (tgt := 179) hx hb d_MD_encode_156 rfl ?_
          exact lb_179 v_record x_3 (v_length + x_3) (v_blobs (((100 : Int32) * x_1) + x_3).toNatClampNeg) H locs ls hP hD hS (lv_sub hl [0, 1, 2, 3] rfl) hf
      have lb_118 : ∀ (v_length : Int32) (v_record : Nat → Int32) (x_1 : Int32) (s_0 : Int32) (H : Heap) (locs : List Loc) (ls : Array Slot), va_P D pu_cl [(q_this, .inr (8, [.ref q_now, .ref q_disk, .ref q_before, .int v_onDisk, .int v_head, .int v_headPages, .int v_records, .ref q_recordPage, .ref q_recordBytes, .int v_up, .int v_armed, .int v_columns, .ref q_isBlob, .ref q_integer, .ref q_size, .ref q_blobs, .int v_length, .ref q_record, .int v_kind, .int v_cells, .int v_last, .ref q_cellLength, .ref q_row, .int v_made, .ref q_cell, .int v_deep, .ref q_way, .ref q_turn, .int v_at, .int v_bad, .ref q_used])), (q_isBlob, .inl (cZ, 3, .inl v_isBlob)), (q_integer, .inl (cJ, 3, .inr (.inl v_integer))), (q_size, .inl (cI, 3, .inl v_size)), (q_blobs, .inl (cI, 300, .inl v_blobs)), (q_record, .inl (cI, 700, .inl v_record))] H → va_D A [(q_this, .inr (8, [.ref q_now, .ref q_disk, .ref q_before, .int v_onDisk, .int v_head, .int v_headPages, .int v_records, .ref q_recordPage, .ref q_recordBytes, .int v_up, .int v_armed, .int v_columns, .ref q_isBlob, .ref q_integer, .ref q_size, .ref q_blobs, .int v_length, .ref q_record, .int v_kind, .int v_cells, .int v_last, .ref q_cellLength, .ref q_row, .int v_made, .ref q_cell, .int v_deep, .ref q_way, .ref q_turn, .int v_at, .int v_bad, .ref q_used])), (q_isBlob, .inl (cZ, 3, .inl v_isBlob)), (q_integer, .inl (cJ, 3, .inr (.inl v_integer))), (q_size, .inl (cI, 3, .inl v_size)), (q_blobs, .inl (cI, 300, .inl v_blobs)), (q_record, .inl (cI, 700, .inl v_record))] → va_S A s.heap H locs → lv_has ls 4 [(0, .ref q_this), (1, .int x_1)] → q_MD_encode_118 (q_MD_encode_80 v_columns v_isBlob v_integer v_size v_blobs n80) v_columns v_isBlob v_integer v_size v_blobs v_length v_record x_1 s_0 = some (o_length, o_record) → W p l e rm_MD_encode s m args below meth c H locs 0 0 Q (F0 m 118 ls [.int s_0]) := by
        intro v_length v_record x_1 s_0 H locs ls hP hD hS hl hf
        rw [q_MD_encode_118] at hf
        refine lv_istore_n hx hb d_MD_encode_118 rfl hl (by decide) rfl (fun ls hl => ?_)
        have hl : lv_has ls 4 [(2, .int s_0), (0, .ref q_this), (1, .int x_1)] := hl
        refine lv_iconst (v := 0) hx hb d_MD_encode_119 rfl ?_
        refine lv_istore_n hx hb d_MD_encode_120 rfl hl (by decide) rfl (fun ls hl => ?_)
        have hl : lv_has ls 4 [(3, .int (0 : Int32)), (2, .int s_0), (0, .ref q_this), (1, .int x_1)] := hl
        exact lp_121 v_length x_1 s_0 _ v_record (0 : Int32) H locs ls hP hD hS (lv_sub hl [2, 3, 1, 0] rfl) hf
      intro v_length v_record x_1 H locs ls hP hD hS hl hf
      rw [q_MD_encode_80] at hf
      refine lv_iload_n hx hb d_MD_encode_80 rfl (lv_at hl 1 rfl) ?_
      refine lv_aload_n hx hb d_MD_encode_81 rfl (lv_at hl 0 rfl) ?_
      refine gf_MD_74 (v := .int v_columns) hx hb hts hN hown hK hP 0 rfl rfl d_MD_encode_82 ?_
      refine lv_icmp_ge (tgt := 202) hx hb d_MD_encode_85 rfl (fun hc => ?_) (fun hc => ?_)
      · have hf := pu_br_pos hf hc
        exact hret _ _ _ _ v_length v_record d_MD_encode_202 hP hD hS hf
      have hf := pu_br_neg hf hc
      refine lv_aload_n hx hb d_MD_encode_88 rfl (lv_at hl 0 rfl) ?_
      refine gf_MD_36 (v := .ref q_isBlob) hx hb hts hN hown hK hP 0 rfl rfl d_MD_encode_89 ?_
      refine lv_iload_n hx hb d_MD_encode_92 rfl (lv_at hl 1 rfl) ?_
      obtain ⟨hin, hf⟩ := pu_ck_some hf
      refine va_zald hx hb hK hP 1 3 rfl rfl hin d_MD_encode_93 ?_
      refine lv_if_eq (tgt := 106) hx hb d_MD_encode_94 rfl (fun hc => ?_) (fun hc => ?_)
      · have hf := pu_br_pos hf hc
        refine lv_aload_n hx hb d_MD_encode_106 rfl (lv_at hl 0 rfl) ?_
        refine gf_MD_40 (v := .ref q_integer) hx hb hts hN hown hK hP 0 rfl rfl d_MD_encode_107 ?_
        refine lv_iload_n hx hb d_MD_encode_110 rfl (lv_at hl 1 rfl) ?_
        obtain ⟨hin, hf⟩ := pu_ck_some hf
        refine va_lald hx hb hK hP 2 1 rfl rfl hin d_MD_encode_111 ?_
        obtain ⟨r2, hc, hf⟩ := pu_b1_some hf
        refine cl_i (WC := []) (WC2 := []) (WR := [(q_this, .inr (8, [.ref q_now, .ref q_disk, .ref q_before, .int v_onDisk, .int v_head, .int v_headPages, .int v_records, .ref q_recordPage, .ref q_recordBytes, .int v_up, .int v_armed, .int v_columns, .ref q_isBlob, .ref q_integer, .ref q_size, .ref q_blobs, .int v_length, .ref q_record, .int v_kind, .int v_cells, .int v_last, .ref q_cellLength, .ref q_row, .int v_made, .ref q_cell, .int v_deep, .ref q_way, .ref q_turn, .int v_at, .int v_bad, .ref q_used])), (q_isBlob, .inl (cZ, 3, .inl v_isBlob)), (q_integer, .inl (cJ, 3, .inr (.inl v_integer))), (q_size, .inl (cI, 3, .inl v_size)), (q_blobs, .inl (cI, 300, .inl v_blobs)), (q_record, .inl (cI, 700, .inl v_record))]) (WS2 := [(q_this, .inr (8, [.ref q_now, .ref q_disk, .ref q_before, .int v_onDisk, .int v_head, .int v_headPages, .int v_records, .ref q_recordPage, .ref q_recordBytes, .int v_up, .int v_armed, .int v_columns, .ref q_isBlob, .ref q_integer, .ref q_size, .ref q_blobs, .int v_length, .ref q_record, .int v_kind, .int v_cells, .int v_last, .ref q_cellLength, .ref q_row, .int v_made, .ref q_cell, .int v_deep, .ref q_way, .ref q_turn, .int v_at, .int v_bad, .ref q_used])), (q_isBlob, .inl (cZ, 3, .inl v_isBlob)), (q_integer, .inl (cJ, 3, .inr (.inl v_integer))), (q_size, .inl (cI, 3, .inl v_size)), (q_blobs, .inl (cI, 300, .inl v_blobs)), (q_record, .inl (cI, 700, .inl v_record))]) (pu_rs (pu_in11 _ (List.mem_of_getElem? (i := 5) rfl)) (pu_in11 _ (List.mem_of_getElem? (i := 6) rfl)) (pu_in0 _ (List.mem_of_getElem? (i := 10) rfl)) (pu_in11 _ (List.mem_of_getElem? (i := 7) rfl)) hd_MD_codeOf (by decide) ⟨rfl, rfl⟩ rfl rfl (Nat.le_of_ble_eq_true rfl) (As := [.long (v_integer x_1.toNatClampNeg)]) (rest := []) (WC := []) hx hb hml hown hts hN hK hP hD (c_MD_codeOf l D cI cJ cB cZ H.size (v_integer x_1.toNatClampNeg) r2 hc) [] rfl rfl hl.1 d_MD_encode_112) hP hD hS hA [] [0, 1, 2, 3, 4, 5] [0, 1, 2, 3, 4, 5] rfl rfl rfl (by decide) rfl rfl (fun H locs hP hD hS => ?_)
        obtain ⟨r3, hc, hf⟩ := pu_b1_some hf
        refine cl_i (WC := []) (WC2 := []) (WR := [(q_this, .inr (8, [.ref q_now, .ref q_disk, .ref q_before, .int v_onDisk, .int v_head, .int v_headPages, .int v_records, .ref q_recordPage, .ref q_recordBytes, .int v_up, .int v_armed, .int v_columns, .ref q_isBlob, .ref q_integer, .ref q_size, .ref q_blobs, .int v_length, .ref q_record, .int v_kind, .int v_cells, .int v_last, .ref q_cellLength, .ref q_row, .int v_made, .ref q_cell, .int v_deep, .ref q_way, .ref q_turn, .int v_at, .int v_bad, .ref q_used])), (q_isBlob, .inl (cZ, 3, .inl v_isBlob)), (q_integer, .inl (cJ, 3, .inr (.inl v_integer))), (q_size, .inl (cI, 3, .inl v_size)), (q_blobs, .inl (cI, 300, .inl v_blobs)), (q_record, .inl (cI, 700, .inl v_record))]) (WS2 := [(q_this, .inr (8, [.ref q_now, .ref q_disk, .ref q_before, .int v_onDisk, .int v_head, .int v_headPages, .int v_records, .ref q_recordPage, .ref q_recordBytes, .int v_up, .int v_armed, .int v_columns, .ref q_isBlob, .ref q_integer, .ref q_size, .ref q_blobs, .int v_length, .ref q_record, .int v_kind, .int v_cells, .int v_last, .ref q_cellLength, .ref q_row, .int v_made, .ref q_cell, .int v_deep, .ref q_way, .ref q_turn, .int v_at, .int v_bad, .ref q_used])), (q_isBlob, .inl (cZ, 3, .inl v_isBlob)), (q_integer, .inl (cJ, 3, .inr (.inl v_integer))), (q_size, .inl (cI, 3, .inl v_size)), (q_blobs, .inl (cI, 300, .inl v_blobs)), (q_record, .inl (cI, 700, .inl v_record))]) (pu_rs (pu_in11 _ (List.mem_of_getElem? (i := 17) rfl)) (pu_in11 _ (List.mem_of_getElem? (i := 18) rfl)) (pu_in0 _ (List.mem_of_getElem? (i := 10) rfl)) (pu_in11 _ (List.mem_of_getElem? (i := 19) rfl)) hd_MD_bytesOf (by decide) ⟨rfl, rfl⟩ rfl rfl (Nat.le_of_ble_eq_true rfl) (As := [.int r2]) (rest := []) (WC := []) hx hb hml hown hts hN hK hP hD (c_MD_bytesOf l D cI cJ cB cZ H.size r2 r3 hc) [] rfl rfl hl.1 d_MD_encode_115) hP hD hS hA [] [0, 1, 2, 3, 4, 5] [0, 1, 2, 3, 4, 5] rfl rfl rfl (by decide) rfl rfl (fun H locs hP hD hS => ?_)
        exact lb_118 v_length v_record x_1 r3 H locs ls hP hD hS (lv_sub hl [0, 1] rfl) hf
      have hf := pu_br_neg hf hc
      refine lv_aload_n hx hb d_MD_encode_97 rfl (lv_at hl 0 rfl) ?_
      refine gf_MD_44 (v := .ref q_size) hx hb hts hN hown hK hP 0 rfl rfl d_MD_encode_98 ?_
      refine lv_iload_n hx hb d_MD_encode_101 rfl (lv_at hl 1 rfl) ?_
      obtain ⟨hin, hf⟩ := pu_ck_some hf
      refine va_iald hx hb hK hP 3 0 rfl rfl hin d_MD_encode_102 ?_
      refine lv_goto (tgt := 118) hx hb d_MD_encode_103 rfl ?_
      exact lb_118 v_length v_record x_1 (v_size x_1.toNatClampNeg) H locs ls hP hD hS (lv_sub hl [0, 1] rfl) hf
  have lb_68 : ∀ (v_length : Int32) (v_record : Nat → Int32) (H : Heap) (locs : List Loc) (ls : Array Slot), va_P D pu_cl [(q_this, .inr (8, [.ref q_now, .ref q_disk, .ref q_before, .int v_onDisk, .int v_head, .int v_headPages, .int v_records, .ref q_recordPage, .ref q_recordBytes, .int v_up, .int v_armed, .int v_columns, .ref q_isBlob, .ref q_integer, .ref q_size, .ref q_blobs, .int v_length, .ref q_record, .int v_kind, .int v_cells, .int v_last, .ref q_cellLength, .ref q_row, .int v_made, .ref q_cell, .int v_deep, .ref q_way, .ref q_turn, .int v_at, .int v_bad, .ref q_used])), (q_isBlob, .inl (cZ, 3, .inl v_isBlob)), (q_integer, .inl (cJ, 3, .inr (.inl v_integer))), (q_size, .inl (cI, 3, .inl v_size)), (q_blobs, .inl (cI, 300, .inl v_blobs)), (q_record, .inl (cI, 700, .inl v_record))] H → va_D A [(q_this, .inr (8, [.ref q_now, .ref q_disk, .ref q_before, .int v_onDisk, .int v_head, .int v_headPages, .int v_records, .ref q_recordPage, .ref q_recordBytes, .int v_up, .int v_armed, .int v_columns, .ref q_isBlob, .ref q_integer, .ref q_size, .ref q_blobs, .int v_length, .ref q_record, .int v_kind, .int v_cells, .int v_last, .ref q_cellLength, .ref q_row, .int v_made, .ref q_cell, .int v_deep, .ref q_way, .ref q_turn, .int v_at, .int v_bad, .ref q_used])), (q_isBlob, .inl (cZ, 3, .inl v_isBlob)), (q_integer, .inl (cJ, 3, .inr (.inl v_integer))), (q_size, .inl (cI, 3, .inl v_size)), (q_blobs, .inl (cI, 300, .inl v_blobs)), (q_record, .inl (cI, 700, .inl v_record))] → va_S A s.heap H locs → lv_has ls 4 [(0, .ref q_this)] → q_MD_encode_68 v_columns v_isBlob v_integer v_size v_blobs v_length v_record = some (o_length, o_record) → W p l e rm_MD_encode s m args below meth c H locs 0 0 Q (F0 m 68 ls []) := by
    intro v_length v_record H locs ls hP hD hS hl hf
    rw [q_MD_encode_68] at hf
    refine lv_aload_n hx hb d_MD_encode_68 rfl (lv_at hl 0 rfl) ?_
    refine gf_MD_50 (v := .ref q_record) hx hb hts hN hown hK hP 0 rfl rfl d_MD_encode_69 ?_
    refine lv_iconst (v := 0) hx hb d_MD_encode_72 rfl ?_
    refine lv_aload_n hx hb d_MD_encode_73 rfl (lv_at hl 0 rfl) ?_
    refine gf_MD_91 (v := .int v_length) hx hb hts hN hown hK hP 0 rfl rfl d_MD_encode_74 ?_
    obtain ⟨hin, hf⟩ := pu_ck_some hf
    obtain ⟨a1, e_a1, hf⟩ := pu_nm_some hf
    refine va_iast hx hb hK hP hD hS 5 0 rfl rfl hin d_MD_encode_77 (fun H locs hP hD hS => ?_)
    have hP : va_P D pu_cl [(q_this, .inr (8, [.ref q_now, .ref q_disk, .ref q_before, .int v_onDisk, .int v_head, .int v_headPages, .int v_records, .ref q_recordPage, .ref q_recordBytes, .int v_up, .int v_armed, .int v_columns, .ref q_isBlob, .ref q_integer, .ref q_size, .ref q_blobs, .int v_length, .ref q_record, .int v_kind, .int v_cells, .int v_last, .ref q_cellLength, .ref q_row, .int v_made, .ref q_cell, .int v_deep, .ref q_way, .ref q_turn, .int v_at, .int v_bad, .ref q_used])), (q_isBlob, .inl (cZ, 3, .inl v_isBlob)), (q_integer, .inl (cJ, 3, .inr (.inl v_integer))), (q_size, .inl (cI, 3, .inl v_size)), (q_blobs, .inl (cI, 300, .inl v_blobs)), (q_record, .inl (cI, 700, .inl a1))] H := by rw [e_a1]; exact hP
    have hD : va_D A [(q_this, .inr (8, [.ref q_now, .ref q_disk, .ref q_before, .int v_onDisk, .int v_head, .int v_headPages, .int v_records, .ref q_recordPage, .ref q_recordBytes, .int v_up, .int v_armed, .int v_columns, .ref q_isBlob, .ref q_integer, .ref q_size, .ref q_blobs, .int v_length, .ref q_record, .int v_kind, .int v_cells, .int v_last, .ref q_cellLength, .ref q_row, .int v_made, .ref q_cell, .int v_deep, .ref q_way, .ref q_turn, .int v_at, .int v_bad, .ref q_used])), (q_isBlob, .inl (cZ, 3, .inl v_isBlob)), (q_integer, .inl (cJ, 3, .inr (.inl v_integer))), (q_size, .inl (cI, 3, .inl v_size)), (q_blobs, .inl (cI, 300, .inl v_blobs)), (q_record, .inl (cI, 700, .inl a1))] := by rw [e_a1]; exact hD
    refine lv_iconst (v := 0) hx hb d_MD_encode_78 rfl ?_
    refine lv_istore_n hx hb d_MD_encode_79 rfl hl (by decide) rfl (fun ls hl => ?_)
    have hl : lv_has ls 4 [(1, .int (0 : Int32)), (0, .ref q_this)] := hl
    exact lp_80 _ v_length a1 (0 : Int32) H locs ls hP hD hS (lv_sub hl [1, 0] rfl) hf
  have lp_7 : ∀ (n7 : Nat) (v_length : Int32) (v_record : Nat → Int32) (x_1 : Int32) (H : Heap) (locs : List Loc) (ls : Array Slot), va_P D pu_cl [(q_this, .inr (8, [.ref q_now, .ref q_disk, .ref q_before, .int v_onDisk, .int v_head, .int v_headPages, .int v_records, .ref q_recordPage, .ref q_recordBytes, .int v_up, .int v_armed, .int v_columns, .ref q_isBlob, .ref q_integer, .ref q_size, .ref q_blobs, .int v_length, .ref q_record, .int v_kind, .int v_cells, .int v_last, .ref q_cellLength, .ref q_row, .int v_made, .ref q_cell, .int v_deep, .ref q_way, .ref q_turn, .int v_at, .int v_bad, .ref q_used])), (q_isBlob, .inl (cZ, 3, .inl v_isBlob)), (q_integer, .inl (cJ, 3, .inr (.inl v_integer))), (q_size, .inl (cI, 3, .inl v_size)), (q_blobs, .inl (cI, 300, .inl v_blobs)), (q_record, .inl (cI, 700, .inl v_record))] H → va_D A [(q_this, .inr (8, [.ref q_now, .ref q_disk, .ref q_before, .int v_onDisk, .int v_head, .int v_headPages, .int v_records, .ref q_recordPage, .ref q_recordBytes, .int v_up, .int v_armed, .int v_columns, .ref q_isBlob, .ref q_integer, .ref q_size, .ref q_blobs, .int v_length, .ref q_record, .int v_kind, .int v_cells, .int v_last, .ref q_cellLength, .ref q_row, .int v_made, .ref q_cell, .int v_deep, .ref q_way, .ref q_turn, .int v_at, .int v_bad, .ref q_used])), (q_isBlob, .inl (cZ, 3, .inl v_isBlob)), (q_integer, .inl (cJ, 3, .inr (.inl v_integer))), (q_size, .inl (cI, 3, .inl v_size)), (q_blobs, .inl (cI, 300, .inl v_blobs)), (q_record, .inl (cI, 700, .inl v_record))] → va_S A s.heap H locs → lv_has ls 4 [(0, .ref q_this), (1, .int x_1)] → q_MD_encode_7 (fun v_length v_record => q_MD_encode_68 v_columns v_isBlob v_integer v_size v_blobs v_length v_record) v_columns v_isBlob v_integer v_size v_blobs n7 v_length v_record x_1 = some (o_length, o_record) → W p l e rm_MD_encode s m args below meth c H locs 0 0 Q (F0 m 7 ls []) := by
    intro n7
    induction n7 with
    | zero =>
      intro v_length v_record x_1 H locs ls hP hD hS hl hf
      rw [q_MD_encode_7] at hf
      cases hf
    | succ n7 ih_7 =>
      have lb_56 : ∀ (v_length : Int32) (v_record : Nat → Int32) (x_1 : Int32) (s_2 : Int32) (s_3 : Int32) (H : Heap) (locs : List Loc) (ls : Array Slot), va_P D pu_cl [(q_this, .inr (8, [.ref q_now, .ref q_disk, .ref q_before, .int v_onDisk, .int v_head, .int v_headPages, .int v_records, .ref q_recordPage, .ref q_recordBytes, .int v_up, .int v_armed, .int v_columns, .ref q_isBlob, .ref q_integer, .ref q_size, .ref q_blobs, .int v_length, .ref q_record, .int v_kind, .int v_cells, .int v_last, .ref q_cellLength, .ref q_row, .int v_made, .ref q_cell, .int v_deep, .ref q_way, .ref q_turn, .int v_at, .int v_bad, .ref q_used])), (q_isBlob, .inl (cZ, 3, .inl v_isBlob)), (q_integer, .inl (cJ, 3, .inr (.inl v_integer))), (q_size, .inl (cI, 3, .inl v_size)), (q_blobs, .inl (cI, 300, .inl v_blobs)), (q_record, .inl (cI, 700, .inl v_record))] H → va_D A [(q_this, .inr (8, [.ref q_now, .ref q_disk, .ref q_before, .int v_onDisk, .int v_head, .int v_headPages, .int v_records, .ref q_recordPage, .ref q_recordBytes, .int v_up, .int v_armed, .int v_columns, .ref q_isBlob, .ref q_integer, .ref q_size, .ref q_blobs, .int v_length, .ref q_record, .int v_kind, .int v_cells, .int v_last, .ref q_cellLength, .ref q_row, .int v_made, .ref q_cell, .int v_deep, .ref q_way, .ref q_turn, .int v_at, .int v_bad, .ref q_used])), (q_isBlob, .inl (cZ, 3, .inl v_isBlob)), (q_integer, .inl (cJ, 3, .inr (.inl v_integer))), (q_size, .inl (cI, 3, .inl v_size)), (q_blobs, .inl (cI, 300, .inl v_blobs)), (q_record, .inl (cI, 700, .inl v_record))] → va_S A s.heap H locs → lv_has ls 4 [(0, .ref q_this), (1, .int x_1)] → q_MD_encode_56 (q_MD_encode_7 (fun v_length v_record => q_MD_encode_68 v_columns v_isBlob v_integer v_size v_blobs v_length v_record) v_columns v_isBlob v_integer v_size v_blobs n7) (fun v_length v_record => q_MD_encode_68 v_columns v_isBlob v_integer v_size v_blobs v_length v_record) v_columns v_isBlob v_integer v_size v_blobs v_length v_record x_1 s_2 s_3 = some (o_length, o_record) → W p l e rm_MD_encode s m args below meth c H locs 0 0 Q (F0 m 56 ls [.int s_3, .int s_2, .ref q_record, .ref q_this]) := by
        intro v_length v_record x_1 s_2 s_3 H locs ls hP hD hS hl hf
        rw [q_MD_encode_56] at hf
        obtain ⟨r9, w10, hc, hf⟩ := pu_b2_some hf
        refine cl_i (WC := [(q_record, .inl (cI, 700, .inl v_record))]) (WC2 := [(q_record, .inl (cI, 700, .inl w10))]) (WR := [(q_this, .inr (8, [.ref q_now, .ref q_disk, .ref q_before, .int v_onDisk, .int v_head, .int v_headPages, .int v_records, .ref q_recordPage, .ref q_recordBytes, .int v_up, .int v_armed, .int v_columns, .ref q_isBlob, .ref q_integer, .ref q_size, .ref q_blobs, .int v_length, .ref q_record, .int v_kind, .int v_cells, .int v_last, .ref q_cellLength, .ref q_row, .int v_made, .ref q_cell, .int v_deep, .ref q_way, .ref q_turn, .int v_at, .int v_bad, .ref q_used])), (q_isBlob, .inl (cZ, 3, .inl v_isBlob)), (q_integer, .inl (cJ, 3, .inr (.inl v_integer))), (q_size, .inl (cI, 3, .inl v_size)), (q_blobs, .inl (cI, 300, .inl v_blobs))]) (WS2 := [(q_this, .inr (8, [.ref q_now, .ref q_disk, .ref q_before, .int v_onDisk, .int v_head, .int v_headPages, .int v_records, .ref q_recordPage, .ref q_recordBytes, .int v_up, .int v_armed, .int v_columns, .ref q_isBlob, .ref q_integer, .ref q_size, .ref q_blobs, .int v_length, .ref q_record, .int v_kind, .int v_cells, .int v_last, .ref q_cellLength, .ref q_row, .int v_made, .ref q_cell, .int v_deep, .ref q_way, .ref q_turn, .int v_at, .int v_bad, .ref q_used])), (q_isBlob, .inl (cZ, 3, .inl v_isBlob)), (q_integer, .inl (cJ, 3, .inr (.inl v_integer))), (q_size, .inl (cI, 3, .inl v_size)), (q_blobs, .inl (cI, 300, .inl v_blobs)), (q_record, .inl (cI, 700, .inl w10))]) (pu_rs (pu_in11 _ (List.mem_of_getElem? (i := 14) rfl)) (pu_in11 _ (List.mem_of_getElem? (i := 15) rfl)) (pu_in0 _ (List.mem_of_getElem? (i := 10) rfl)) (pu_in11 _ (List.mem_of_getElem? (i := 16) rfl)) hd_MD_varint (by decide) ⟨rfl, rfl⟩ rfl rfl (Nat.le_of_ble_eq_true rfl) (As := [.ref q_record, .int s_2, .int s_3]) (rest := [.ref q_this]) (WC := [(q_record, .inl (cI, 700, .inl v_record))]) hx hb hml hown hts hN hK hP hD (c_MD_varint l D cI cJ cB cZ H.size q_record 700 v_record s_2 s_3 r9 w10 hc) [5] rfl rfl hl.1 d_MD_encode_56) hP hD hS hA [5] [0, 1, 2, 3, 4] [0, 1, 2, 3, 4, 5] rfl rfl rfl (by decide) rfl rfl (fun H locs hP hD hS => ?_)
        refine pf_MD_91 (v := .int r9) hx hb hts hN hown hK hP hD hS 0 rfl rfl rfl (Nat.le_of_ble_eq_true rfl) d_MD_encode_59 (fun H locs hP hD hS => ?_)
        have hP : va_P D pu_cl [(q_this, .inr (8, [.ref q_now, .ref q_disk, .ref q_before, .int v_onDisk, .int v_head, .int v_headPages, .int v_records, .ref q_recordPage, .ref q_recordBytes, .int v_up, .int v_armed, .int v_columns, .ref q_isBlob, .ref q_integer, .ref q_size, .ref q_blobs, .int r9, .ref q_record, .int v_kind, .int v_cells, .int v_last, .ref q_cellLength, .ref q_row, .int v_made, .ref q_cell, .int v_deep, .ref q_way, .ref q_turn, .int v_at, .int v_bad, .ref q_used])), (q_isBlob, .inl (cZ, 3, .inl v_isBlob)), (q_integer, .inl (cJ, 3, .inr (.inl v_integer))), (q_size, .inl (cI, 3, .inl v_size)), (q_blobs, .inl (cI, 300, .inl v_blobs)), (q_record, .inl (cI, 700, .inl w10))] H := hP
        have hD : va_D A [(q_this, .inr (8, [.ref q_now, .ref q_disk, .ref q_before, .int v_onDisk, .int v_head, .int v_headPages, .int v_records, .ref q_recordPage, .ref q_recordBytes, .int v_up, .int v_armed, .int v_columns, .ref q_isBlob, .ref q_integer, .ref q_size, .ref q_blobs, .int r9, .ref q_record, .int v_kind, .int v_cells, .int v_last, .ref q_cellLength, .ref q_row, .int v_made, .ref q_cell, .int v_deep, .ref q_way, .ref q_turn, .int v_at, .int v_bad, .ref q_used])), (q_isBlob, .inl (cZ, 3, .inl v_isBlob)), (q_integer, .inl (cJ, 3, .inr (.inl v_integer))), (q_size, .inl (cI, 3, .inl v_size)), (q_blobs, .inl (cI, 300, .inl v_blobs)), (q_record, .inl (cI, 700, .inl w10))] := hD
        obtain ⟨t11, e_t11, hf⟩ := pu_nm_some hf
        refine lv_iinc (k := 1) (v := t11) hx hb d_MD_encode_62 hl rfl e_t11.symm (by decide) rfl (fun ls hl => ?_)
        have hl : lv_has ls 4 [(1, .int t11), (0, .ref q_this)] := hl
        refine lv_goto (tgt := 7) hx hb d_MD_encode_65 rfl ?_
        exact ih_7 r9 w10 t11 H locs ls hP hD hS (lv_sub hl [1, 0] rfl) hf
      intro v_length v_record x_1 H locs ls hP hD hS hl hf
      rw [q_MD_encode_7] at hf
      refine lv_iload_n hx hb d_MD_encode_7 rfl (lv_at hl 1 rfl) ?_
      refine lv_aload_n hx hb d_MD_encode_8 rfl (lv_at hl 0 rfl) ?_
      refine gf_MD_74 (v := .int v_columns) hx hb hts hN hown hK hP 0 rfl rfl d_MD_encode_9 ?_
      refine lv_icmp_ge (tgt := 68) hx hb d_MD_encode_12 rfl (fun hc => ?_) (fun hc => ?_)
      · have hf := pu_br_pos hf hc
        exact lb_68 v_length v_record H locs ls hP hD hS (lv_sub hl [0] rfl) hf
      have hf := pu_br_neg hf hc
      refine lv_aload_n hx hb d_MD_encode_15 rfl (lv_at hl 0 rfl) ?_
      refine lv_aload_n hx hb d_MD_encode_16 rfl (lv_at hl 0 rfl) ?_
      refine gf_MD_50 (v := .ref q_record) hx hb hts hN hown hK hP 0 rfl rfl d_MD_encode_17 ?_
      refine lv_aload_n hx hb d_MD_encode_20 rfl (lv_at hl 0 rfl) ?_
      refine gf_MD_91 (v := .int v_length) hx hb hts hN hown hK hP 0 rfl rfl d_MD_encode_21 ?_
      refine lv_aload_n hx hb d_MD_encode_24 rfl (lv_at hl 0 rfl) ?_
      refine gf_MD_36 (v := .ref q_isBlob) hx hb hts hN hown hK hP 0 rfl rfl d_MD_encode_25 ?_
      refine lv_iload_n hx hb d_MD_encode_28 rfl (lv_at hl 1 rfl) ?_
      obtain ⟨hin, hf⟩ := pu_ck_some hf
      refine va_zald hx hb hK hP 1 3 rfl rfl hin d_MD_encode_29 ?_
      refine lv_if_eq (tgt := 47) hx hb d_MD_encode_30 rfl (fun hc => ?_) (fun hc => ?_)
      · have hf := pu_br_pos hf hc
        refine lv_aload_n hx hb d_MD_encode_47 rfl (lv_at hl 0 rfl) ?_
        refine gf_MD_40 (v := .ref q_integer) hx hb hts hN hown hK hP 0 rfl rfl d_MD_encode_48 ?_
        refine lv_iload_n hx hb d_MD_encode_51 rfl (lv_at hl 1 rfl) ?_
        obtain ⟨hin, hf⟩ := pu_ck_some hf
        refine va_lald hx hb hK hP 2 1 rfl rfl hin d_MD_encode_52 ?_
        obtain ⟨r8, hc, hf⟩ := pu_b1_some hf
        refine cl_i (WC := []) (WC2 := []) (WR := [(q_this, .inr (8, [.ref q_now, .ref q_disk, .ref q_before, .int v_onDisk, .int v_head, .int v_headPages, .int v_records, .ref q_recordPage, .ref q_recordBytes, .int v_up, .int v_armed, .int v_columns, .ref q_isBlob, .ref q_integer, .ref q_size, .ref q_blobs, .int v_length, .ref q_record, .int v_kind, .int v_cells, .int v_last, .ref q_cellLength, .ref q_row, .int v_made, .ref q_cell, .int v_deep, .ref q_way, .ref q_turn, .int v_at, .int v_bad, .ref q_used])), (q_isBlob, .inl (cZ, 3, .inl v_isBlob)), (q_integer, .inl (cJ, 3, .inr (.inl v_integer))), (q_size, .inl (cI, 3, .inl v_size)), (q_blobs, .inl (cI, 300, .inl v_blobs)), (q_record, .inl (cI, 700, .inl v_record))]) (WS2 := [(q_this, .inr (8, [.ref q_now, .ref q_disk, .ref q_before, .int v_onDisk, .int v_head, .int v_headPages, .int v_records, .ref q_recordPage, .ref q_recordBytes, .int v_up, .int v_armed, .int v_columns, .ref q_isBlob, .ref q_integer, .ref q_size, .ref q_blobs, .int v_length, .ref q_record, .int v_kind, .int v_cells, .int v_last, .ref q_cellLength, .ref q_row, .int v_made, .ref q_cell, .int v_deep, .ref q_way, .ref q_turn, .int v_at, .int v_bad, .ref q_used])), (q_isBlob, .inl (cZ, 3, .inl v_isBlob)), (q_integer, .inl (cJ, 3, .inr (.inl v_integer))), (q_size, .inl (cI, 3, .inl v_size)), (q_blobs, .inl (cI, 300, .inl v_blobs)), (q_record, .inl (cI, 700, .inl v_record))]) (pu_rs (pu_in11 _ (List.mem_of_getElem? (i := 5) rfl)) (pu_in11 _ (List.mem_of_getElem? (i := 6) rfl)) (pu_in0 _ (List.mem_of_getElem? (i := 10) rfl)) (pu_in11 _ (List.mem_of_getElem? (i := 7) rfl)) hd_MD_codeOf (by decide) ⟨rfl, rfl⟩ rfl rfl (Nat.le_of_ble_eq_true rfl) (As := [.long (v_integer x_1.toNatClampNeg)]) (rest := [.int v_length, .ref q_record, .ref q_this]) (WC := []) hx hb hml hown hts hN hK hP hD (c_MD_codeOf l D cI cJ cB cZ H.size (v_integer x_1.toNatClampNeg) r8 hc) [] rfl rfl hl.1 d_MD_encode_53) hP hD hS hA [] [0, 1, 2, 3, 4, 5] [0, 1, 2, 3, 4, 5] rfl rfl rfl (by decide) rfl rfl (fun H locs hP hD hS => ?_)
        exact lb_56 v_length v_record x_1 v_length r8 H locs ls hP hD hS (lv_sub hl [0, 1] rfl) hf
      have hf := pu_br_neg hf hc
      refine lv_bipush (v := 12) hx hb d_MD_encode_33 rfl ?_
      refine lv_iconst (v := 2) hx hb d_MD_encode_35 rfl ?_
      refine lv_aload_n hx hb d_MD_encode_36 rfl (lv_at hl 0 rfl) ?_
      refine gf_MD_44 (v := .ref q_size) hx hb hts hN hown hK hP 0 rfl rfl d_MD_encode_37 ?_
      refine lv_iload_n hx hb d_MD_encode_40 rfl (lv_at hl 1 rfl) ?_
      obtain ⟨hin, hf⟩ := pu_ck_some hf
      refine va_iald hx hb hK hP 3 0 rfl rfl hin d_MD_encode_41 ?_
      refine lv_imul hx hb d_MD_encode_42 ?_
      refine lv_iadd hx hb d_MD_encode_43 ?_
      refine lv_goto (tgt := 56) hx hb d_MD_encode_44 rfl ?_
      exact lb_56 v_length v_record x_1 v_length ((12 : Int32) + ((2 : Int32) * (v_size x_1.toNatClampNeg))) H locs ls hP hD hS (lv_sub hl [0, 1] rfl) hf
  obtain ⟨H, hH⟩ : ∃ H, H = s.heap := ⟨_, rfl⟩
  obtain ⟨locs, hlocs⟩ : ∃ locs : List Loc, locs = [] := ⟨_, rfl⟩
  have hP : va_P D pu_cl [(q_this, .inr (8, [.ref q_now, .ref q_disk, .ref q_before, .int v_onDisk, .int v_head, .int v_headPages, .int v_records, .ref q_recordPage, .ref q_recordBytes, .int v_up, .int v_armed, .int v_columns, .ref q_isBlob, .ref q_integer, .ref q_size, .ref q_blobs, .int v_length, .ref q_record, .int v_kind, .int v_cells, .int v_last, .ref q_cellLength, .ref q_row, .int v_made, .ref q_cell, .int v_deep, .ref q_way, .ref q_turn, .int v_at, .int v_bad, .ref q_used])), (q_isBlob, .inl (cZ, 3, .inl v_isBlob)), (q_integer, .inl (cJ, 3, .inr (.inl v_integer))), (q_size, .inl (cI, 3, .inl v_size)), (q_blobs, .inl (cI, 300, .inl v_blobs)), (q_record, .inl (cI, 700, .inl v_record))] H := by rw [hH]; exact hP
  have hS : va_S A s.heap H locs := by rw [hH, hlocs]; exact hS
  have goal : W p l e rm_MD_encode s m args below meth c H locs 0 0 Q (F0 m 0 ls []) := by
    clear hH hlocs
    refine lv_aload_n hx hb d_MD_encode_0 rfl (lv_at hl 0 rfl) ?_
    refine lv_iconst (v := 1) hx hb d_MD_encode_1 rfl ?_
    refine pf_MD_91 (v := .int (1 : Int32)) hx hb hts hN hown hK hP hD hS 0 rfl rfl rfl (Nat.le_of_ble_eq_true rfl) d_MD_encode_2 (fun H locs hP hD hS => ?_)
    have hP : va_P D pu_cl [(q_this, .inr (8, [.ref q_now, .ref q_disk, .ref q_before, .int v_onDisk, .int v_head, .int v_headPages, .int v_records, .ref q_recordPage, .ref q_recordBytes, .int v_up, .int v_armed, .int v_columns, .ref q_isBlob, .ref q_integer, .ref q_size, .ref q_blobs, .int (1 : Int32), .ref q_record, .int v_kind, .int v_cells, .int v_last, .ref q_cellLength, .ref q_row, .int v_made, .ref q_cell, .int v_deep, .ref q_way, .ref q_turn, .int v_at, .int v_bad, .ref q_used])), (q_isBlob, .inl (cZ, 3, .inl v_isBlob)), (q_integer, .inl (cJ, 3, .inr (.inl v_integer))), (q_size, .inl (cI, 3, .inl v_size)), (q_blobs, .inl (cI, 300, .inl v_blobs)), (q_record, .inl (cI, 700, .inl v_record))] H := hP
    have hD : va_D A [(q_this, .inr (8, [.ref q_now, .ref q_disk, .ref q_before, .int v_onDisk, .int v_head, .int v_headPages, .int v_records, .ref q_recordPage, .ref q_recordBytes, .int v_up, .int v_armed, .int v_columns, .ref q_isBlob, .ref q_integer, .ref q_size, .ref q_blobs, .int (1 : Int32), .ref q_record, .int v_kind, .int v_cells, .int v_last, .ref q_cellLength, .ref q_row, .int v_made, .ref q_cell, .int v_deep, .ref q_way, .ref q_turn, .int v_at, .int v_bad, .ref q_used])), (q_isBlob, .inl (cZ, 3, .inl v_isBlob)), (q_integer, .inl (cJ, 3, .inr (.inl v_integer))), (q_size, .inl (cI, 3, .inl v_size)), (q_blobs, .inl (cI, 300, .inl v_blobs)), (q_record, .inl (cI, 700, .inl v_record))] := hD
    refine lv_iconst (v := 0) hx hb d_MD_encode_5 rfl ?_
    refine lv_istore_n hx hb d_MD_encode_6 rfl hl (by decide) rfl (fun ls hl => ?_)
    have hl : lv_has ls 4 [(1, .int (0 : Int32)), (0, .ref q_this)] := hl
    exact lp_7 _ (1 : Int32) v_record (0 : Int32) H locs ls hP hD hS (lv_sub hl [1, 0] rfl) hf
  rw [hH, hlocs] at goal
  exact goal
theorem d_MD_begin_0 : decode b_MD_begin 0 = .ok (.iload_n 2, 1) := by decide +kernel
theorem d_MD_begin_1 : decode b_MD_begin 1 = .ok (.ifCond .ge 8, 3) := by decide +kernel
theorem d_MD_begin_4 : decode b_MD_begin 4 = .ok (.bipush 64, 2) := by decide +kernel
theorem d_MD_begin_6 : decode b_MD_begin 6 = .ok (.goto 16, 3) := by decide +kernel
theorem d_MD_begin_9 : decode b_MD_begin 9 = .ok (.aload_n 0, 1) := by decide +kernel
theorem d_MD_begin_10 : decode b_MD_begin 10 = .ok (.getfield 7, 3) := by decide +kernel
theorem d_MD_begin_13 : decode b_MD_begin 13 = .ok (.bipush 64, 2) := by decide +kernel
theorem d_MD_begin_15 : decode b_MD_begin 15 = .ok (.iload_n 1, 1) := by decide +kernel
theorem d_MD_begin_16 : decode b_MD_begin 16 = .ok (.imul, 1) := by decide +kernel
theorem d_MD_begin_17 : decode b_MD_begin 17 = .ok (.iconst 4, 1) := by decide +kernel
theorem d_MD_begin_18 : decode b_MD_begin 18 = .ok (.iadd, 1) := by decide +kernel
theorem d_MD_begin_19 : decode b_MD_begin 19 = .ok (.iload_n 2, 1) := by decide +kernel
theorem d_MD_begin_20 : decode b_MD_begin 20 = .ok (.iadd, 1) := by decide +kernel
theorem d_MD_begin_21 : decode b_MD_begin 21 = .ok (.iaload, 1) := by decide +kernel
theorem d_MD_begin_22 : decode b_MD_begin 22 = .ok (.ireturn, 1) := by decide +kernel
noncomputable def f_MD_begin (v_now : Nat → Int32) (x_1 : Int32) (x_2 : Int32) : Option (Int32) :=
  pu_br (0 ≤ x_2) (pu_ck (vp_in ((((64 : Int32) * x_1) + (4 : Int32)) + x_2) 1600) (some (v_now ((((64 : Int32) * x_1) + (4 : Int32)) + x_2).toNatClampNeg))) (some (64 : Int32))
abbrev rm_MD_begin : Room := { frames := 0, cells := 0, slots := 0, locals := 0 }
set_option maxHeartbeats 8000000 in
set_option maxRecDepth 100000 in
theorem c_MD_begin (l : Launch) (D : va_G) (cI cJ cB cZ : ClassId) (sz : Nat) (q_this : Nat) (q_now : Nat) (q_disk : Nat) (q_before : Nat) (q_recordPage : Nat) (q_recordBytes : Nat) (q_isBlob : Nat) (q_integer : Nat) (q_size : Nat) (q_blobs : Nat) (q_record : Nat) (q_cellLength : Nat) (q_row : Nat) (q_cell : Nat) (q_way : Nat) (q_turn : Nat) (q_used : Nat) (v_onDisk : Int32) (v_head : Int32) (v_headPages : Int32) (v_records : Int32) (v_up : Int32) (v_armed : Int32) (v_columns : Int32) (v_length : Int32) (v_kind : Int32) (v_cells : Int32) (v_last : Int32) (v_made : Int32) (v_deep : Int32) (v_at : Int32) (v_bad : Int32) (v_now : Nat → Int32) (x_1 : Int32) (x_2 : Int32) (o_r : Int32) (hf : f_MD_begin v_now x_1 x_2 = some o_r) : Met l y_MD_begin (.code y_MD_begin b_MD_begin 3 (some .int) :: pu_wA) rm_MD_begin (pu_pc D pu_cl (pu_ty cI cJ cB cZ) [.ref q_this, .int x_1, .int x_2] [(q_this, .inr (8, [.ref q_now, .ref q_disk, .ref q_before, .int v_onDisk, .int v_head, .int v_headPages, .int v_records, .ref q_recordPage, .ref q_recordBytes, .int v_up, .int v_armed, .int v_columns, .ref q_isBlob, .ref q_integer, .ref q_size, .ref q_blobs, .int v_length, .ref q_record, .int v_kind, .int v_cells, .int v_last, .ref q_cellLength, .ref q_row, .int v_made, .ref q_cell, .int v_deep, .ref q_way, .ref q_turn, .int v_at, .int v_bad, .ref q_used])), (q_now, .inl (cI, 1600, .inl v_now))] sz) (pu_qi D pu_cl (pu_ty cI cJ cB cZ) [(q_this, .inr (8, [.ref q_now, .ref q_disk, .ref q_before, .int v_onDisk, .int v_head, .int v_headPages, .int v_records, .ref q_recordPage, .ref q_recordBytes, .int v_up, .int v_armed, .int v_columns, .ref q_isBlob, .ref q_integer, .ref q_size, .ref q_blobs, .int v_length, .ref q_record, .int v_kind, .int v_cells, .int v_last, .ref q_cellLength, .ref q_row, .int v_made, .ref q_cell, .int v_deep, .ref q_way, .ref q_turn, .int v_at, .int v_bad, .ref q_used])), (q_now, .inl (cI, 1600, .inl v_now))] [(q_this, .inr (8, [.ref q_now, .ref q_disk, .ref q_before, .int v_onDisk, .int v_head, .int v_headPages, .int v_records, .ref q_recordPage, .ref q_recordBytes, .int v_up, .int v_armed, .int v_columns, .ref q_isBlob, .ref q_integer, .ref q_size, .ref q_blobs, .int v_length, .ref q_record, .int v_kind, .int v_cells, .int v_last, .ref q_cellLength, .ref q_row, .int v_made, .ref q_cell, .int v_deep, .ref q_way, .ref q_turn, .int v_at, .int v_bad, .ref q_used])), (q_now, .inl (cI, 1600, .inl v_now))] sz o_r) 0 0 (va_A [(q_this, .inr (8, [.ref q_now, .ref q_disk, .ref q_before, .int v_onDisk, .int v_head, .int v_headPages, .int v_records, .ref q_recordPage, .ref q_recordBytes, .int v_up, .int v_armed, .int v_columns, .ref q_isBlob, .ref q_integer, .ref q_size, .ref q_blobs, .int v_length, .ref q_record, .int v_kind, .int v_cells, .int v_last, .ref q_cellLength, .ref q_row, .int v_made, .ref q_cell, .int v_deep, .ref q_way, .ref q_turn, .int v_at, .int v_bad, .ref q_used])), (q_now, .inl (cI, 1600, .inl v_now))] sz) := by
  refine pu_mti [.ref q_this, .int x_1, .int x_2] [(q_this, .inr (8, [.ref q_now, .ref q_disk, .ref q_before, .int v_onDisk, .int v_head, .int v_headPages, .int v_records, .ref q_recordPage, .ref q_recordBytes, .int v_up, .int v_armed, .int v_columns, .ref q_isBlob, .ref q_integer, .ref q_size, .ref q_blobs, .int v_length, .ref q_record, .int v_kind, .int v_cells, .int v_last, .ref q_cellLength, .ref q_row, .int v_made, .ref q_cell, .int v_deep, .ref q_way, .ref q_turn, .int v_at, .int v_bad, .ref q_used])), (q_now, .inl (cI, 1600, .inl v_now))] [(q_this, .inr (8, [.ref q_now, .ref q_disk, .ref q_before, .int v_onDisk, .int v_head, .int v_headPages, .int v_records, .ref q_recordPage, .ref q_recordBytes, .int v_up, .int v_armed, .int v_columns, .ref q_isBlob, .ref q_integer, .ref q_size, .ref q_blobs, .int v_length, .ref q_record, .int v_kind, .int v_cells, .int v_last, .ref q_cellLength, .ref q_row, .int v_made, .ref q_cell, .int v_deep, .ref q_way, .ref q_turn, .int v_at, .int v_bad, .ref q_used])), (q_now, .inl (cI, 1600, .inl v_now))] o_r (by decide) (Nat.le_of_ble_eq_true rfl) ?_
  intro p e s m args below meth c A Q ls hx hb hml hts hN hown hK hA hP hD hl hret0
  have hS : va_S A s.heap s.heap [] := va_S.rf
  have hl : lv_has ls 3 [(0, .ref q_this), (1, .int x_1), (2, .int x_2)] := hl
  have hret : ∀ (pc : Nat) (ls : Array Slot) (H : Heap) (locs : List Loc) (y_0 : Int32), decode b_MD_begin pc = .ok (.ireturn, 1) → va_P D pu_cl [(q_this, .inr (8, [.ref q_now, .ref q_disk, .ref q_before, .int v_onDisk, .int v_head, .int v_headPages, .int v_records, .ref q_recordPage, .ref q_recordBytes, .int v_up, .int v_armed, .int v_columns, .ref q_isBlob, .ref q_integer, .ref q_size, .ref q_blobs, .int v_length, .ref q_record, .int v_kind, .int v_cells, .int v_last, .ref q_cellLength, .ref q_row, .int v_made, .ref q_cell, .int v_deep, .ref q_way, .ref q_turn, .int v_at, .int v_bad, .ref q_used])), (q_now, .inl (cI, 1600, .inl v_now))] H → va_D A [(q_this, .inr (8, [.ref q_now, .ref q_disk, .ref q_before, .int v_onDisk, .int v_head, .int v_headPages, .int v_records, .ref q_recordPage, .ref q_recordBytes, .int v_up, .int v_armed, .int v_columns, .ref q_isBlob, .ref q_integer, .ref q_size, .ref q_blobs, .int v_length, .ref q_record, .int v_kind, .int v_cells, .int v_last, .ref q_cellLength, .ref q_row, .int v_made, .ref q_cell, .int v_deep, .ref q_way, .ref q_turn, .int v_at, .int v_bad, .ref q_used])), (q_now, .inl (cI, 1600, .inl v_now))] → va_S A s.heap H locs → some y_0 = some o_r → W p l e rm_MD_begin s m args below meth c H locs 0 0 Q (F0 m pc ls [.int y_0]) := by
    intro pc ls H locs y_0 hd hP hD hS hf
    cases hf
    exact hret0 pc ls H locs hd hP hD hS
  clear hret0
  unfold f_MD_begin at hf
  skip
  obtain ⟨H, hH⟩ : ∃ H, H = s.heap := ⟨_, rfl⟩
  obtain ⟨locs, hlocs⟩ : ∃ locs : List Loc, locs = [] := ⟨_, rfl⟩
  have hP : va_P D pu_cl [(q_this, .inr (8, [.ref q_now, .ref q_disk, .ref q_before, .int v_onDisk, .int v_head, .int v_headPages, .int v_records, .ref q_recordPage, .ref q_recordBytes, .int v_up, .int v_armed, .int v_columns, .ref q_isBlob, .ref q_integer, .ref q_size, .ref q_blobs, .int v_length, .ref q_record, .int v_kind, .int v_cells, .int v_last, .ref q_cellLength, .ref q_row, .int v_made, .ref q_cell, .int v_deep, .ref q_way, .ref q_turn, .int v_at, .int v_bad, .ref q_used])), (q_now, .inl (cI, 1600, .inl v_now))] H := by rw [hH]; exact hP
  have hS : va_S A s.heap H locs := by rw [hH, hlocs]; exact hS
  have goal : W p l e rm_MD_begin s m args below meth c H locs 0 0 Q (F0 m 0 ls []) := by
    clear hH hlocs
    refine lv_iload_n hx hb d_MD_begin_0 rfl (lv_at hl 2 rfl) ?_
    refine lv_if_ge (tgt := 9) hx hb d_MD_begin_1 rfl (fun hc => ?_) (fun hc => ?_)
    · have hf := pu_br_pos hf hc
      refine lv_aload_n hx hb d_MD_begin_9 rfl (lv_at hl 0 rfl) ?_
      refine gf_MD_7 (v := .ref q_now) hx hb hts hN hown hK hP 0 rfl rfl d_MD_begin_10 ?_
      refine lv_bipush (v := 64) hx hb d_MD_begin_13 rfl ?_
      refine lv_iload_n hx hb d_MD_begin_15 rfl (lv_at hl 1 rfl) ?_
      refine lv_imul hx hb d_MD_begin_16 ?_
      refine lv_iconst (v := 4) hx hb d_MD_begin_17 rfl ?_
      refine lv_iadd hx hb d_MD_begin_18 ?_
      refine lv_iload_n hx hb d_MD_begin_19 rfl (lv_at hl 2 rfl) ?_
      refine lv_iadd hx hb d_MD_begin_20 ?_
      obtain ⟨hin, hf⟩ := pu_ck_some hf
      refine va_iald hx hb hK hP 1 0 rfl rfl hin d_MD_begin_21 ?_
      exact hret _ _ _ _ (v_now ((((64 : Int32) * x_1) + (4 : Int32)) + x_2).toNatClampNeg)  d_MD_begin_22 hP hD hS hf
    have hf := pu_br_neg hf hc
    refine lv_bipush (v := 64) hx hb d_MD_begin_4 rfl ?_
    refine lv_goto (tgt := 22) hx hb d_MD_begin_6 rfl ?_
    exact hret _ _ _ _ (64 : Int32)  d_MD_begin_22 hP hD hS hf
  rw [hH, hlocs] at goal
  exact goal
