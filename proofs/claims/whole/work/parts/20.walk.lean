theorem d_MD_take_0 : decode b_MD_take 0 = .ok (.aload_n 0, 1) := by decide +kernel
theorem d_MD_take_1 : decode b_MD_take 1 = .ok (.aload_n 0, 1) := by decide +kernel
theorem d_MD_take_2 : decode b_MD_take 2 = .ok (.getfield 7, 3) := by decide +kernel
theorem d_MD_take_5 : decode b_MD_take 5 = .ok (.bipush 64, 2) := by decide +kernel
theorem d_MD_take_7 : decode b_MD_take 7 = .ok (.iload_n 1, 1) := by decide +kernel
theorem d_MD_take_8 : decode b_MD_take 8 = .ok (.imul, 1) := by decide +kernel
theorem d_MD_take_9 : decode b_MD_take 9 = .ok (.iaload, 1) := by decide +kernel
theorem d_MD_take_10 : decode b_MD_take 10 = .ok (.putfield 106, 3) := by decide +kernel
theorem d_MD_take_13 : decode b_MD_take 13 = .ok (.aload_n 0, 1) := by decide +kernel
theorem d_MD_take_14 : decode b_MD_take 14 = .ok (.aload_n 0, 1) := by decide +kernel
theorem d_MD_take_15 : decode b_MD_take 15 = .ok (.getfield 7, 3) := by decide +kernel
theorem d_MD_take_18 : decode b_MD_take 18 = .ok (.bipush 64, 2) := by decide +kernel
theorem d_MD_take_20 : decode b_MD_take 20 = .ok (.iload_n 1, 1) := by decide +kernel
theorem d_MD_take_21 : decode b_MD_take 21 = .ok (.imul, 1) := by decide +kernel
theorem d_MD_take_22 : decode b_MD_take 22 = .ok (.iconst 1, 1) := by decide +kernel
theorem d_MD_take_23 : decode b_MD_take 23 = .ok (.iadd, 1) := by decide +kernel
theorem d_MD_take_24 : decode b_MD_take 24 = .ok (.iaload, 1) := by decide +kernel
theorem d_MD_take_25 : decode b_MD_take 25 = .ok (.putfield 109, 3) := by decide +kernel
theorem d_MD_take_28 : decode b_MD_take 28 = .ok (.aload_n 0, 1) := by decide +kernel
theorem d_MD_take_29 : decode b_MD_take 29 = .ok (.aload_n 0, 1) := by decide +kernel
theorem d_MD_take_30 : decode b_MD_take 30 = .ok (.getfield 106, 3) := by decide +kernel
theorem d_MD_take_33 : decode b_MD_take 33 = .ok (.iconst 5, 1) := by decide +kernel
theorem d_MD_take_34 : decode b_MD_take 34 = .ok (.if_icmp .ne 17, 3) := by decide +kernel
theorem d_MD_take_37 : decode b_MD_take 37 = .ok (.aload_n 0, 1) := by decide +kernel
theorem d_MD_take_38 : decode b_MD_take 38 = .ok (.getfield 7, 3) := by decide +kernel
theorem d_MD_take_41 : decode b_MD_take 41 = .ok (.bipush 64, 2) := by decide +kernel
theorem d_MD_take_43 : decode b_MD_take 43 = .ok (.iload_n 1, 1) := by decide +kernel
theorem d_MD_take_44 : decode b_MD_take 44 = .ok (.imul, 1) := by decide +kernel
theorem d_MD_take_45 : decode b_MD_take 45 = .ok (.iconst 2, 1) := by decide +kernel
theorem d_MD_take_46 : decode b_MD_take 46 = .ok (.iadd, 1) := by decide +kernel
theorem d_MD_take_47 : decode b_MD_take 47 = .ok (.iaload, 1) := by decide +kernel
theorem d_MD_take_48 : decode b_MD_take 48 = .ok (.goto 4, 3) := by decide +kernel
theorem d_MD_take_51 : decode b_MD_take 51 = .ok (.iconst 0, 1) := by decide +kernel
theorem d_MD_take_52 : decode b_MD_take 52 = .ok (.putfield 112, 3) := by decide +kernel
theorem d_MD_take_55 : decode b_MD_take 55 = .ok (.iconst 0, 1) := by decide +kernel
theorem d_MD_take_56 : decode b_MD_take 56 = .ok (.istore_n 2, 1) := by decide +kernel
theorem d_MD_take_57 : decode b_MD_take 57 = .ok (.iconst 0, 1) := by decide +kernel
theorem d_MD_take_58 : decode b_MD_take 58 = .ok (.istore_n 3, 1) := by decide +kernel
theorem d_MD_take_59 : decode b_MD_take 59 = .ok (.iload_n 3, 1) := by decide +kernel
theorem d_MD_take_60 : decode b_MD_take 60 = .ok (.aload_n 0, 1) := by decide +kernel
theorem d_MD_take_61 : decode b_MD_take 61 = .ok (.getfield 109, 3) := by decide +kernel
theorem d_MD_take_64 : decode b_MD_take 64 = .ok (.if_icmp .ge 87, 3) := by decide +kernel
theorem d_MD_take_67 : decode b_MD_take 67 = .ok (.aload_n 0, 1) := by decide +kernel
theorem d_MD_take_68 : decode b_MD_take 68 = .ok (.getfield 53, 3) := by decide +kernel
theorem d_MD_take_71 : decode b_MD_take 71 = .ok (.iload_n 3, 1) := by decide +kernel
theorem d_MD_take_72 : decode b_MD_take 72 = .ok (.aload_n 0, 1) := by decide +kernel
theorem d_MD_take_73 : decode b_MD_take 73 = .ok (.iload_n 1, 1) := by decide +kernel
theorem d_MD_take_74 : decode b_MD_take 74 = .ok (.iload_n 3, 1) := by decide +kernel
theorem d_MD_take_75 : decode b_MD_take 75 = .ok (.iconst 1, 1) := by decide +kernel
theorem d_MD_take_76 : decode b_MD_take 76 = .ok (.isub, 1) := by decide +kernel
theorem d_MD_take_77 : decode b_MD_take 77 = .ok (.invokevirtual 115, 3) := by decide +kernel
theorem d_MD_take_80 : decode b_MD_take 80 = .ok (.aload_n 0, 1) := by decide +kernel
theorem d_MD_take_81 : decode b_MD_take 81 = .ok (.iload_n 1, 1) := by decide +kernel
theorem d_MD_take_82 : decode b_MD_take 82 = .ok (.iload_n 3, 1) := by decide +kernel
theorem d_MD_take_83 : decode b_MD_take 83 = .ok (.invokevirtual 115, 3) := by decide +kernel
theorem d_MD_take_86 : decode b_MD_take 86 = .ok (.isub, 1) := by decide +kernel
theorem d_MD_take_87 : decode b_MD_take 87 = .ok (.iastore, 1) := by decide +kernel
theorem d_MD_take_88 : decode b_MD_take 88 = .ok (.iconst 0, 1) := by decide +kernel
theorem d_MD_take_89 : decode b_MD_take 89 = .ok (.istore 4, 2) := by decide +kernel
theorem d_MD_take_91 : decode b_MD_take 91 = .ok (.iload 4, 2) := by decide +kernel
theorem d_MD_take_93 : decode b_MD_take 93 = .ok (.aload_n 0, 1) := by decide +kernel
theorem d_MD_take_94 : decode b_MD_take 94 = .ok (.getfield 53, 3) := by decide +kernel
theorem d_MD_take_97 : decode b_MD_take 97 = .ok (.iload_n 3, 1) := by decide +kernel
theorem d_MD_take_98 : decode b_MD_take 98 = .ok (.iaload, 1) := by decide +kernel
theorem d_MD_take_99 : decode b_MD_take 99 = .ok (.if_icmp .ge 37, 3) := by decide +kernel
theorem d_MD_take_102 : decode b_MD_take 102 = .ok (.aload_n 0, 1) := by decide +kernel
theorem d_MD_take_103 : decode b_MD_take 103 = .ok (.getfield 56, 3) := by decide +kernel
theorem d_MD_take_106 : decode b_MD_take 106 = .ok (.iload_n 2, 1) := by decide +kernel
theorem d_MD_take_107 : decode b_MD_take 107 = .ok (.iload 4, 2) := by decide +kernel
theorem d_MD_take_109 : decode b_MD_take 109 = .ok (.iadd, 1) := by decide +kernel
theorem d_MD_take_110 : decode b_MD_take 110 = .ok (.aload_n 0, 1) := by decide +kernel
theorem d_MD_take_111 : decode b_MD_take 111 = .ok (.getfield 7, 3) := by decide +kernel
theorem d_MD_take_114 : decode b_MD_take 114 = .ok (.bipush 64, 2) := by decide +kernel
theorem d_MD_take_116 : decode b_MD_take 116 = .ok (.iload_n 1, 1) := by decide +kernel
theorem d_MD_take_117 : decode b_MD_take 117 = .ok (.imul, 1) := by decide +kernel
theorem d_MD_take_118 : decode b_MD_take 118 = .ok (.aload_n 0, 1) := by decide +kernel
theorem d_MD_take_119 : decode b_MD_take 119 = .ok (.iload_n 1, 1) := by decide +kernel
theorem d_MD_take_120 : decode b_MD_take 120 = .ok (.iload_n 3, 1) := by decide +kernel
theorem d_MD_take_121 : decode b_MD_take 121 = .ok (.invokevirtual 115, 3) := by decide +kernel
theorem d_MD_take_124 : decode b_MD_take 124 = .ok (.iadd, 1) := by decide +kernel
theorem d_MD_take_125 : decode b_MD_take 125 = .ok (.iload 4, 2) := by decide +kernel
theorem d_MD_take_127 : decode b_MD_take 127 = .ok (.iadd, 1) := by decide +kernel
theorem d_MD_take_128 : decode b_MD_take 128 = .ok (.iaload, 1) := by decide +kernel
theorem d_MD_take_129 : decode b_MD_take 129 = .ok (.iastore, 1) := by decide +kernel
theorem d_MD_take_130 : decode b_MD_take 130 = .ok (.iinc 4 1, 3) := by decide +kernel
theorem d_MD_take_133 : decode b_MD_take 133 = .ok (.goto (-42), 3) := by decide +kernel
theorem d_MD_take_136 : decode b_MD_take 136 = .ok (.iload_n 2, 1) := by decide +kernel
theorem d_MD_take_137 : decode b_MD_take 137 = .ok (.aload_n 0, 1) := by decide +kernel
theorem d_MD_take_138 : decode b_MD_take 138 = .ok (.getfield 53, 3) := by decide +kernel
theorem d_MD_take_141 : decode b_MD_take 141 = .ok (.iload_n 3, 1) := by decide +kernel
theorem d_MD_take_142 : decode b_MD_take 142 = .ok (.iaload, 1) := by decide +kernel
theorem d_MD_take_143 : decode b_MD_take 143 = .ok (.iadd, 1) := by decide +kernel
theorem d_MD_take_144 : decode b_MD_take 144 = .ok (.istore_n 2, 1) := by decide +kernel
theorem d_MD_take_145 : decode b_MD_take 145 = .ok (.iinc 3 1, 3) := by decide +kernel
theorem d_MD_take_148 : decode b_MD_take 148 = .ok (.goto (-89), 3) := by decide +kernel
theorem d_MD_take_151 : decode b_MD_take 151 = .ok (.return_, 1) := by decide +kernel
noncomputable def q_MD_take_136 (kb : (Nat → Int32) → (Nat → Int32) → Int32 → Int32 → Option (Int32 × Int32 × Int32 × (Nat → Int32) × (Nat → Int32))) (v_now : Nat → Int32) (v_kind : Int32) (v_cells : Int32) (v_last : Int32) (v_cellLength : Nat → Int32) (v_row : Nat → Int32) (x_1 : Int32) (x_2 : Int32) (x_3 : Int32) : Option (Int32 × Int32 × Int32 × (Nat → Int32) × (Nat → Int32)) :=
  pu_ck (vp_in x_3 80) (pu_nm (x_2 + (v_cellLength x_3.toNatClampNeg)) (fun t6 => pu_nm (x_3 + (1 : Int32)) (fun t7 => kb v_cellLength v_row t6 t7)))
noncomputable def q_MD_take_91 (kx_136 : (Nat → Int32) → Option (Int32 × Int32 × Int32 × (Nat → Int32) × (Nat → Int32))) (v_now : Nat → Int32) (v_kind : Int32) (v_cells : Int32) (v_last : Int32) (v_cellLength : Nat → Int32) (x_1 : Int32) (x_2 : Int32) (x_3 : Int32) : Nat → (Nat → Int32) → Int32 → Option (Int32 × Int32 × Int32 × (Nat → Int32) × (Nat → Int32))
  | 0, _, _ => none
  | n + 1, v_row, x_4 => pu_ck (vp_in x_3 80) (pu_br ((v_cellLength x_3.toNatClampNeg) ≤ x_4) (kx_136 v_row) (pu_b1 (f_MD_begin v_now x_1 x_3) (fun r8 => pu_ck (vp_in ((((64 : Int32) * x_1) + r8) + x_4) 1600) (pu_ck (vp_in (x_2 + x_4) 2000) (pu_nm (upd v_row (x_2 + x_4).toNatClampNeg (v_now ((((64 : Int32) * x_1) + r8) + x_4).toNatClampNeg)) (fun a9 => pu_nm (x_4 + (1 : Int32)) (fun t10 => q_MD_take_91 kx_136 v_now v_kind v_cells v_last v_cellLength x_1 x_2 x_3 n a9 t10)))))))
noncomputable def q_MD_take_59 (v_now : Nat → Int32) (v_kind : Int32) (v_cells : Int32) (v_last : Int32) (x_1 : Int32) : Nat → (Nat → Int32) → (Nat → Int32) → Int32 → Int32 → Option (Int32 × Int32 × Int32 × (Nat → Int32) × (Nat → Int32))
  | 0, _, _, _, _ => none
  | n + 1, v_cellLength, v_row, x_2, x_3 => pu_br (v_cells ≤ x_3) (some (v_kind, v_cells, v_last, v_cellLength, v_row)) (pu_b1 (f_MD_begin v_now x_1 (x_3 - (1 : Int32))) (fun r3 => pu_b1 (f_MD_begin v_now x_1 x_3) (fun r4 => pu_ck (vp_in x_3 80) (pu_nm (upd v_cellLength x_3.toNatClampNeg (r3 - r4)) (fun a5 => q_MD_take_91 (fun v_row => q_MD_take_136 (q_MD_take_59 v_now v_kind v_cells v_last x_1 n) v_now v_kind v_cells v_last a5 v_row x_1 x_2 x_3) v_now v_kind v_cells v_last a5 x_1 x_2 x_3 pu_fu v_row (0 : Int32))))))
noncomputable def q_MD_take_52 (v_now : Nat → Int32) (v_kind : Int32) (v_cells : Int32) (v_last : Int32) (v_cellLength : Nat → Int32) (v_row : Nat → Int32) (x_1 : Int32) (s_1 : Int32) : Option (Int32 × Int32 × Int32 × (Nat → Int32) × (Nat → Int32)) :=
  q_MD_take_59 v_now v_kind v_cells s_1 x_1 pu_fu v_cellLength v_row (0 : Int32) (0 : Int32)
noncomputable def f_MD_take (v_now : Nat → Int32) (v_kind : Int32) (v_cells : Int32) (v_last : Int32) (v_cellLength : Nat → Int32) (v_row : Nat → Int32) (x_1 : Int32) : Option (Int32 × Int32 × Int32 × (Nat → Int32) × (Nat → Int32)) :=
  pu_ck (vp_in ((64 : Int32) * x_1) 1600) (pu_nm (v_now ((64 : Int32) * x_1).toNatClampNeg) (fun t1 => pu_ck (vp_in (((64 : Int32) * x_1) + (1 : Int32)) 1600) (pu_nm (v_now (((64 : Int32) * x_1) + (1 : Int32)).toNatClampNeg) (fun t2 => pu_br (t1 = (5 : Int32)) (pu_ck (vp_in (((64 : Int32) * x_1) + (2 : Int32)) 1600) (q_MD_take_52 v_now t1 t2 v_last v_cellLength v_row x_1 (v_now (((64 : Int32) * x_1) + (2 : Int32)).toNatClampNeg))) (q_MD_take_52 v_now t1 t2 v_last v_cellLength v_row x_1 (0 : Int32))))))
abbrev rm_MD_take : Room := { frames := 1, cells := 0, slots := 0, locals := 22 }
set_option maxHeartbeats 8000000 in
set_option maxRecDepth 100000 in
theorem c_MD_take (l : Launch) (D : va_G) (cI cJ cB cZ : ClassId) (sz : Nat) (q_this : Nat) (q_now : Nat) (q_disk : Nat) (q_before : Nat) (q_recordPage : Nat) (q_recordBytes : Nat) (q_isBlob : Nat) (q_integer : Nat) (q_size : Nat) (q_blobs : Nat) (q_record : Nat) (q_cellLength : Nat) (q_row : Nat) (q_cell : Nat) (q_way : Nat) (q_turn : Nat) (q_used : Nat) (v_onDisk : Int32) (v_head : Int32) (v_headPages : Int32) (v_records : Int32) (v_up : Int32) (v_armed : Int32) (v_columns : Int32) (v_length : Int32) (v_kind : Int32) (v_cells : Int32) (v_last : Int32) (v_made : Int32) (v_deep : Int32) (v_at : Int32) (v_bad : Int32) (v_now : Nat → Int32) (v_cellLength : Nat → Int32) (v_row : Nat → Int32) (x_1 : Int32) (o_kind : Int32) (o_cells : Int32) (o_last : Int32) (o_cellLength : Nat → Int32) (o_row : Nat → Int32) (hf : f_MD_take v_now v_kind v_cells v_last v_cellLength v_row x_1 = some (o_kind, o_cells, o_last, o_cellLength, o_row)) : Met l y_MD_take (.code y_MD_take b_MD_take 5 none :: pu_wA) rm_MD_take (pu_pc D pu_cl (pu_ty cI cJ cB cZ) [.ref q_this, .int x_1] [(q_this, .inr (8, [.ref q_now, .ref q_disk, .ref q_before, .int v_onDisk, .int v_head, .int v_headPages, .int v_records, .ref q_recordPage, .ref q_recordBytes, .int v_up, .int v_armed, .int v_columns, .ref q_isBlob, .ref q_integer, .ref q_size, .ref q_blobs, .int v_length, .ref q_record, .int v_kind, .int v_cells, .int v_last, .ref q_cellLength, .ref q_row, .int v_made, .ref q_cell, .int v_deep, .ref q_way, .ref q_turn, .int v_at, .int v_bad, .ref q_used])), (q_now, .inl (cI, 1600, .inl v_now)), (q_cellLength, .inl (cI, 80, .inl v_cellLength)), (q_row, .inl (cI, 2000, .inl v_row))] sz) (pu_qv D pu_cl (pu_ty cI cJ cB cZ) [(q_this, .inr (8, [.ref q_now, .ref q_disk, .ref q_before, .int v_onDisk, .int v_head, .int v_headPages, .int v_records, .ref q_recordPage, .ref q_recordBytes, .int v_up, .int v_armed, .int v_columns, .ref q_isBlob, .ref q_integer, .ref q_size, .ref q_blobs, .int v_length, .ref q_record, .int v_kind, .int v_cells, .int v_last, .ref q_cellLength, .ref q_row, .int v_made, .ref q_cell, .int v_deep, .ref q_way, .ref q_turn, .int v_at, .int v_bad, .ref q_used])), (q_now, .inl (cI, 1600, .inl v_now)), (q_cellLength, .inl (cI, 80, .inl v_cellLength)), (q_row, .inl (cI, 2000, .inl v_row))] [(q_this, .inr (8, [.ref q_now, .ref q_disk, .ref q_before, .int v_onDisk, .int v_head, .int v_headPages, .int v_records, .ref q_recordPage, .ref q_recordBytes, .int v_up, .int v_armed, .int v_columns, .ref q_isBlob, .ref q_integer, .ref q_size, .ref q_blobs, .int v_length, .ref q_record, .int o_kind, .int o_cells, .int o_last, .ref q_cellLength, .ref q_row, .int v_made, .ref q_cell, .int v_deep, .ref q_way, .ref q_turn, .int v_at, .int v_bad, .ref q_used])), (q_now, .inl (cI, 1600, .inl v_now)), (q_cellLength, .inl (cI, 80, .inl o_cellLength)), (q_row, .inl (cI, 2000, .inl o_row))] sz) 0 0 (va_A [(q_this, .inr (8, [.ref q_now, .ref q_disk, .ref q_before, .int v_onDisk, .int v_head, .int v_headPages, .int v_records, .ref q_recordPage, .ref q_recordBytes, .int v_up, .int v_armed, .int v_columns, .ref q_isBlob, .ref q_integer, .ref q_size, .ref q_blobs, .int v_length, .ref q_record, .int v_kind, .int v_cells, .int v_last, .ref q_cellLength, .ref q_row, .int v_made, .ref q_cell, .int v_deep, .ref q_way, .ref q_turn, .int v_at, .int v_bad, .ref q_used])), (q_now, .inl (cI, 1600, .inl v_now)), (q_cellLength, .inl (cI, 80, .inl v_cellLength)), (q_row, .inl (cI, 2000, .inl v_row))] sz) := by
  refine pu_mtv [.ref q_this, .int x_1] [(q_this, .inr (8, [.ref q_now, .ref q_disk, .ref q_before, .int v_onDisk, .int v_head, .int v_headPages, .int v_records, .ref q_recordPage, .ref q_recordBytes, .int v_up, .int v_armed, .int v_columns, .ref q_isBlob, .ref q_integer, .ref q_size, .ref q_blobs, .int v_length, .ref q_record, .int v_kind, .int v_cells, .int v_last, .ref q_cellLength, .ref q_row, .int v_made, .ref q_cell, .int v_deep, .ref q_way, .ref q_turn, .int v_at, .int v_bad, .ref q_used])), (q_now, .inl (cI, 1600, .inl v_now)), (q_cellLength, .inl (cI, 80, .inl v_cellLength)), (q_row, .inl (cI, 2000, .inl v_row))] [(q_this, .inr (8, [.ref q_now, .ref q_disk, .ref q_before, .int v_onDisk, .int v_head, .int v_headPages, .int v_records, .ref q_recordPage, .ref q_recordBytes, .int v_up, .int v_armed, .int v_columns, .ref q_isBlob, .ref q_integer, .ref q_size, .ref q_blobs, .int v_length, .ref q_record, .int o_kind, .int o_cells, .int o_last, .ref q_cellLength, .ref q_row, .int v_made, .ref q_cell, .int v_deep, .ref q_way, .ref q_turn, .int v_at, .int v_bad, .ref q_used])), (q_now, .inl (cI, 1600, .inl v_now)), (q_cellLength, .inl (cI, 80, .inl o_cellLength)), (q_row, .inl (cI, 2000, .inl o_row))] (by decide) (Nat.le_of_ble_eq_true rfl) ?_
  intro p e s m args below meth c A Q ls hx hb hml hts hN hown hK hA hP hD hl hret0
  have hS : va_S A s.heap s.heap [] := va_S.rf
  have hl : lv_has ls 5 [(0, .ref q_this), (1, .int x_1)] := hl
  have hret : ∀ (pc : Nat) (ls : Array Slot) (H : Heap) (locs : List Loc) (y_0 : Int32) (y_1 : Int32) (y_2 : Int32) (y_3 : Nat → Int32) (y_4 : Nat → Int32), decode b_MD_take pc = .ok (.return_, 1) → va_P D pu_cl [(q_this, .inr (8, [.ref q_now, .ref q_disk, .ref q_before, .int v_onDisk, .int v_head, .int v_headPages, .int v_records, .ref q_recordPage, .ref q_recordBytes, .int v_up, .int v_armed, .int v_columns, .ref q_isBlob, .ref q_integer, .ref q_size, .ref q_blobs, .int v_length, .ref q_record, .int y_0, .int y_1, .int y_2, .ref q_cellLength, .ref q_row, .int v_made, .ref q_cell, .int v_deep, .ref q_way, .ref q_turn, .int v_at, .int v_bad, .ref q_used])), (q_now, .inl (cI, 1600, .inl v_now)), (q_cellLength, .inl (cI, 80, .inl y_3)), (q_row, .inl (cI, 2000, .inl y_4))] H → va_D A [(q_this, .inr (8, [.ref q_now, .ref q_disk, .ref q_before, .int v_onDisk, .int v_head, .int v_headPages, .int v_records, .ref q_recordPage, .ref q_recordBytes, .int v_up, .int v_armed, .int v_columns, .ref q_isBlob, .ref q_integer, .ref q_size, .ref q_blobs, .int v_length, .ref q_record, .int y_0, .int y_1, .int y_2, .ref q_cellLength, .ref q_row, .int v_made, .ref q_cell, .int v_deep, .ref q_way, .ref q_turn, .int v_at, .int v_bad, .ref q_used])), (q_now, .inl (cI, 1600, .inl v_now)), (q_cellLength, .inl (cI, 80, .inl y_3)), (q_row, .inl (cI, 2000, .inl y_4))] → va_S A s.heap H locs → some (y_0, y_1, y_2, y_3, y_4) = some (o_kind, o_cells, o_last, o_cellLength, o_row) → W p l e rm_MD_take s m args below meth c H locs 0 0 Q (F0 m pc ls []) := by
    intro pc ls H locs y_0 y_1 y_2 y_3 y_4 hd hP hD hS hf
    cases hf
    exact hret0 pc ls H locs hd hP hD hS
  clear hret0
  unfold f_MD_take at hf
  skip
  have lp_59 : ∀ (v_kind : Int32) (v_cells : Int32) (v_last : Int32) (x_1 : Int32) (n59 : Nat) (v_cellLength : Nat → Int32) (v_row : Nat → Int32) (x_2 : Int32) (x_3 : Int32) (H : Heap) (locs : List Loc) (ls : Array Slot), va_P D pu_cl [(q_this, .inr (8, [.ref q_now, .ref q_disk, .ref q_before, .int v_onDisk, .int v_head, .int v_headPages, .int v_records, .ref q_recordPage, .ref q_recordBytes, .int v_up, .int v_armed, .int v_columns, .ref q_isBlob, .ref q_integer, .ref q_size, .ref q_blobs, .int v_length, .ref q_record, .int v_kind, .int v_cells, .int v_last, .ref q_cellLength, .ref q_row, .int v_made, .ref q_cell, .int v_deep, .ref q_way, .ref q_turn, .int v_at, .int v_bad, .ref q_used])), (q_now, .inl (cI, 1600, .inl v_now)), (q_cellLength, .inl (cI, 80, .inl v_cellLength)), (q_row, .inl (cI, 2000, .inl v_row))] H → va_D A [(q_this, .inr (8, [.ref q_now, .ref q_disk, .ref q_before, .int v_onDisk, .int v_head, .int v_headPages, .int v_records, .ref q_recordPage, .ref q_recordBytes, .int v_up, .int v_armed, .int v_columns, .ref q_isBlob, .ref q_integer, .ref q_size, .ref q_blobs, .int v_length, .ref q_record, .int v_kind, .int v_cells, .int v_last, .ref q_cellLength, .ref q_row, .int v_made, .ref q_cell, .int v_deep, .ref q_way, .ref q_turn, .int v_at, .int v_bad, .ref q_used])), (q_now, .inl (cI, 1600, .inl v_now)), (q_cellLength, .inl (cI, 80, .inl v_cellLength)), (q_row, .inl (cI, 2000, .inl v_row))] → va_S A s.heap H locs → lv_has ls 5 [(0, .ref q_this), (1, .int x_1), (2, .int x_2), (3, .int x_3)] → q_MD_take_59 v_now v_kind v_cells v_last x_1 n59 v_cellLength v_row x_2 x_3 = some (o_kind, o_cells, o_last, o_cellLength, o_row) → W p l e rm_MD_take s m args below meth c H locs 0 0 Q (F0 m 59 ls []) := by
    intro v_kind v_cells v_last x_1 n59
    induction n59 with
    | zero =>
      intro v_cellLength v_row x_2 x_3 H locs ls hP hD hS hl hf
      rw [q_MD_take_59] at hf
      cases hf
    | succ n59 ih_59 =>
      have lb_136 : ∀ (v_cellLength : Nat → Int32) (v_row : Nat → Int32) (x_2 : Int32) (x_3 : Int32) (H : Heap) (locs : List Loc) (ls : Array Slot), va_P D pu_cl [(q_this, .inr (8, [.ref q_now, .ref q_disk, .ref q_before, .int v_onDisk, .int v_head, .int v_headPages, .int v_records, .ref q_recordPage, .ref q_recordBytes, .int v_up, .int v_armed, .int v_columns, .ref q_isBlob, .ref q_integer, .ref q_size, .ref q_blobs, .int v_length, .ref q_record, .int v_kind, .int v_cells, .int v_last, .ref q_cellLength, .ref q_row, .int v_made, .ref q_cell, .int v_deep, .ref q_way, .ref q_turn, .int v_at, .int v_bad, .ref q_used])), (q_now, .inl (cI, 1600, .inl v_now)), (q_cellLength, .inl (cI, 80, .inl v_cellLength)), (q_row, .inl (cI, 2000, .inl v_row))] H → va_D A [(q_this, .inr (8, [.ref q_now, .ref q_disk, .ref q_before, .int v_onDisk, .int v_head, .int v_headPages, .int v_records, .ref q_recordPage, .ref q_recordBytes, .int v_up, .int v_armed, .int v_columns, .ref q_isBlob, .ref q_integer, .ref q_size, .ref q_blobs, .int v_length, .ref q_record, .int v_kind, .int v_cells, .int v_last, .ref q_cellLength, .ref q_row, .int v_made, .ref q_cell, .int v_deep, .ref q_way, .ref q_turn, .int v_at, .int v_bad, .ref q_used])), (q_now, .inl (cI, 1600, .inl v_now)), (q_cellLength, .inl (cI, 80, .inl v_cellLength)), (q_row, .inl (cI, 2000, .inl v_row))] → va_S A s.heap H locs → lv_has ls 5 [(0, .ref q_this), (1, .int x_1), (2, .int x_2), (3, .int x_3)] → q_MD_take_136 (q_MD_take_59 v_now v_kind v_cells v_last x_1 n59) v_now v_kind v_cells v_last v_cellLength v_row x_1 x_2 x_3 = some (o_kind, o_cells, o_last, o_cellLength, o_row) → W p l e rm_MD_take s m args below meth c H locs 0 0 Q (F0 m 136 ls []) := by
        intro v_cellLength v_row x_2 x_3 H locs ls hP hD hS hl hf
        rw [q_MD_take_136] at hf
        refine lv_iload_n hx hb d_MD_take_136 rfl (lv_at hl 2 rfl) ?_
        refine lv_aload_n hx hb d_MD_take_137 rfl (lv_at hl 0 rfl) ?_
        refine gf_MD_53 (v := .ref q_cellLength) hx hb hts hN hown hK hP 0 rfl rfl d_MD_take_138 ?_
        refine lv_iload_n hx hb d_MD_take_141 rfl (lv_at hl 3 rfl) ?_
        obtain ⟨hin, hf⟩ := pu_ck_some hf
        refine va_iald hx hb hK hP 2 0 rfl rfl hin d_MD_take_142 ?_
        refine lv_iadd hx hb d_MD_take_143 ?_
        obtain ⟨t6, e_t6, hf⟩ := pu_nm_some hf
        refine pu_ti e_t6 ?_
        refine lv_istore_n hx hb d_MD_take_144 rfl hl (by decide) rfl (fun ls hl => ?_)
        have hl : lv_has ls 5 [(2, .int t6), (0, .ref q_this), (1, .int x_1), (3, .int x_3)] := hl
        obtain ⟨t7, e_t7, hf⟩ := pu_nm_some hf
        refine lv_iinc (k := 3) (v := t7) hx hb d_MD_take_145 hl rfl e_t7.symm (by decide) rfl (fun ls hl => ?_)
        have hl : lv_has ls 5 [(3, .int t7), (2, .int t6), (0, .ref q_this), (1, .int x_1)] := hl
        refine lv_goto (tgt := 59) hx hb d_MD_take_148 rfl ?_
        exact ih_59 v_cellLength v_row t6 t7 H locs ls hP hD hS (lv_sub hl [2, 3, 1, 0] rfl) hf
      have lp_91 : ∀ (v_cellLength : Nat → Int32) (x_2 : Int32) (x_3 : Int32) (n91 : Nat) (v_row : Nat → Int32) (x_4 : Int32) (H : Heap) (locs : List Loc) (ls : Array Slot), va_P D pu_cl [(q_this, .inr (8, [.ref q_now, .ref q_disk, .ref q_before, .int v_onDisk, .int v_head, .int v_headPages, .int v_records, .ref q_recordPage, .ref q_recordBytes, .int v_up, .int v_armed, .int v_columns, .ref q_isBlob, .ref q_integer, .ref q_size, .ref q_blobs, .int v_length, .ref q_record, .int v_kind, .int v_cells, .int v_last, .ref q_cellLength, .ref q_row, .int v_made, .ref q_cell, .int v_deep, .ref q_way, .ref q_turn, .int v_at, .int v_bad, .ref q_used])), (q_now, .inl (cI, 1600, .inl v_now)), (q_cellLength, .inl (cI, 80, .inl v_cellLength)), (q_row, .inl (cI, 2000, .inl v_row))] H → va_D A [(q_this, .inr (8, [.ref q_now, .ref q_disk, .ref q_before, .int v_onDisk, .int v_head, .int v_headPages, .int v_records, .ref q_recordPage, .ref q_recordBytes, .int v_up, .int v_armed, .int v_columns, .ref q_isBlob, .ref q_integer, .ref q_size, .ref q_blobs, .int v_length, .ref q_record, .int v_kind, .int v_cells, .int v_last, .ref q_cellLength, .ref q_row, .int v_made, .ref q_cell, .int v_deep, .ref q_way, .ref q_turn, .int v_at, .int v_bad, .ref q_used])), (q_now, .inl (cI, 1600, .inl v_now)), (q_cellLength, .inl (cI, 80, .inl v_cellLength)), (q_row, .inl (cI, 2000, .inl v_row))] → va_S A s.heap H locs → lv_has ls 5 [(0, .ref q_this), (1, .int x_1), (2, .int x_2), (3, .int x_3), (4, .int x_4)] → q_MD_take_91 (fun v_row => q_MD_take_136 (q_MD_take_59 v_now v_kind v_cells v_last x_1 n59) v_now v_kind v_cells v_last v_cellLength v_row x_1 x_2 x_3) v_now v_kind v_cells v_last v_cellLength x_1 x_2 x_3 n91 v_row x_4 = some (o_kind, o_cells, o_last, o_cellLength, o_row) → W p l e rm_MD_take s m args below meth c H locs 0 0 Q (F0 m 91 ls []) := by
        intro v_cellLength x_2 x_3 n91
        induction n91 with
        | zero =>
          intro v_row x_4 H locs ls hP hD hS hl hf
          rw [q_MD_take_91] at hf
          cases hf
        | succ n91 ih_91 =>
          intro v_row x_4 H locs ls hP hD hS hl hf
          rw [q_MD_take_91] at hf
          refine lv_iload hx hb d_MD_take_91 (lv_at hl 4 rfl) ?_
          refine lv_aload_n hx hb d_MD_take_93 rfl (lv_at hl 0 rfl) ?_
          refine gf_MD_53 (v := .ref q_cellLength) hx hb hts hN hown hK hP 0 rfl rfl d_MD_take_94 ?_
          refine lv_iload_n hx hb d_MD_take_97 rfl (lv_at hl 3 rfl) ?_
          obtain ⟨hin, hf⟩ := pu_ck_some hf
          refine va_iald hx hb hK hP 2 0 rfl rfl hin d_MD_take_98 ?_
          refine lv_icmp_ge (tgt := 136) hx hb d_MD_take_99 rfl (fun hc => ?_) (fun hc => ?_)
          · have hf := pu_br_pos hf hc
            exact lb_136 v_cellLength v_row x_2 x_3 H locs ls hP hD hS (lv_sub hl [0, 1, 2, 3] rfl) hf
          have hf := pu_br_neg hf hc
          refine lv_aload_n hx hb d_MD_take_102 rfl (lv_at hl 0 rfl) ?_
          refine gf_MD_56 (v := .ref q_row) hx hb hts hN hown hK hP 0 rfl rfl d_MD_take_103 ?_
          refine lv_iload_n hx hb d_MD_take_106 rfl (lv_at hl 2 rfl) ?_
          refine lv_iload hx hb d_MD_take_107 (lv_at hl 4 rfl) ?_
          refine lv_iadd hx hb d_MD_take_109 ?_
          refine lv_aload_n hx hb d_MD_take_110 rfl (lv_at hl 0 rfl) ?_
          refine gf_MD_7 (v := .ref q_now) hx hb hts hN hown hK hP 0 rfl rfl d_MD_take_111 ?_
          refine lv_bipush (v := 64) hx hb d_MD_take_114 rfl ?_
          refine lv_iload_n hx hb d_MD_take_116 rfl (lv_at hl 1 rfl) ?_
          refine lv_imul hx hb d_MD_take_117 ?_
          refine lv_aload_n hx hb d_MD_take_118 rfl (lv_at hl 0 rfl) ?_
          refine lv_iload_n hx hb d_MD_take_119 rfl (lv_at hl 1 rfl) ?_
          refine lv_iload_n hx hb d_MD_take_120 rfl (lv_at hl 3 rfl) ?_
          obtain ⟨r8, hc, hf⟩ := pu_b1_some hf
          refine cl_i (WC := [(q_this, .inr (8, [.ref q_now, .ref q_disk, .ref q_before, .int v_onDisk, .int v_head, .int v_headPages, .int v_records, .ref q_recordPage, .ref q_recordBytes, .int v_up, .int v_armed, .int v_columns, .ref q_isBlob, .ref q_integer, .ref q_size, .ref q_blobs, .int v_length, .ref q_record, .int v_kind, .int v_cells, .int v_last, .ref q_cellLength, .ref q_row, .int v_made, .ref q_cell, .int v_deep, .ref q_way, .ref q_turn, .int v_at, .int v_bad, .ref q_used])), (q_now, .inl (cI, 1600, .inl v_now))]) (WC2 := [(q_this, .inr (8, [.ref q_now, .ref q_disk, .ref q_before, .int v_onDisk, .int v_head, .int v_headPages, .int v_records, .ref q_recordPage, .ref q_recordBytes, .int v_up, .int v_armed, .int v_columns, .ref q_isBlob, .ref q_integer, .ref q_size, .ref q_blobs, .int v_length, .ref q_record, .int v_kind, .int v_cells, .int v_last, .ref q_cellLength, .ref q_row, .int v_made, .ref q_cell, .int v_deep, .ref q_way, .ref q_turn, .int v_at, .int v_bad, .ref q_used])), (q_now, .inl (cI, 1600, .inl v_now))]) (WR := [(q_cellLength, .inl (cI, 80, .inl v_cellLength)), (q_row, .inl (cI, 2000, .inl v_row))]) (WS2 := [(q_this, .inr (8, [.ref q_now, .ref q_disk, .ref q_before, .int v_onDisk, .int v_head, .int v_headPages, .int v_records, .ref q_recordPage, .ref q_recordBytes, .int v_up, .int v_armed, .int v_columns, .ref q_isBlob, .ref q_integer, .ref q_size, .ref q_blobs, .int v_length, .ref q_record, .int v_kind, .int v_cells, .int v_last, .ref q_cellLength, .ref q_row, .int v_made, .ref q_cell, .int v_deep, .ref q_way, .ref q_turn, .int v_at, .int v_bad, .ref q_used])), (q_now, .inl (cI, 1600, .inl v_now)), (q_cellLength, .inl (cI, 80, .inl v_cellLength)), (q_row, .inl (cI, 2000, .inl v_row))]) (pu_rv (cl := pu_cl) (pu_in10 _ (List.mem_of_getElem? (i := 54) rfl)) (pu_in10 _ (List.mem_of_getElem? (i := 55) rfl)) (pu_in14 _ (List.mem_of_getElem? (i := 15) rfl)) (pu_in0 _ (List.mem_of_getElem? (i := 10) rfl)) (pu_in10 _ (List.mem_of_getElem? (i := 56) rfl)) (ci := 8) rfl hd_MD_begin (by decide) ⟨rfl, rfl⟩ rfl rfl (Nat.le_of_ble_eq_true rfl) rfl (As := [.int x_1, .int x_3]) (rest := [.int ((64 : Int32) * x_1), .ref q_now, .int (x_2 + x_4), .ref q_row]) (WC := [(q_this, .inr (8, [.ref q_now, .ref q_disk, .ref q_before, .int v_onDisk, .int v_head, .int v_headPages, .int v_records, .ref q_recordPage, .ref q_recordBytes, .int v_up, .int v_armed, .int v_columns, .ref q_isBlob, .ref q_integer, .ref q_size, .ref q_blobs, .int v_length, .ref q_record, .int v_kind, .int v_cells, .int v_last, .ref q_cellLength, .ref q_row, .int v_made, .ref q_cell, .int v_deep, .ref q_way, .ref q_turn, .int v_at, .int v_bad, .ref q_used])), (q_now, .inl (cI, 1600, .inl v_now))]) hx hb hml hown hts hN hK hP hD (c_MD_begin l D cI cJ cB cZ H.size q_this q_now q_disk q_before q_recordPage q_recordBytes q_isBlob q_integer q_size q_blobs q_record q_cellLength q_row q_cell q_way q_turn q_used v_onDisk v_head v_headPages v_records v_up v_armed v_columns v_length v_kind v_cells v_last v_made v_deep v_at v_bad v_now x_1 x_3 r8 hc) [0, 1] rfl rfl hl.1 d_MD_take_121) hP hD hS hA [0, 1] [2, 3] [2, 3, 0, 1] rfl rfl rfl (by decide) rfl rfl (fun H locs hP hD hS => ?_)
          refine lv_iadd hx hb d_MD_take_124 ?_
          refine lv_iload hx hb d_MD_take_125 (lv_at hl 4 rfl) ?_
          refine lv_iadd hx hb d_MD_take_127 ?_
          obtain ⟨hin, hf⟩ := pu_ck_some hf
          refine va_iald hx hb hK hP 1 0 rfl rfl hin d_MD_take_128 ?_
          obtain ⟨hin, hf⟩ := pu_ck_some hf
          obtain ⟨a9, e_a9, hf⟩ := pu_nm_some hf
          refine va_iast hx hb hK hP hD hS 3 0 rfl rfl hin d_MD_take_129 (fun H locs hP hD hS => ?_)
          have hP : va_P D pu_cl [(q_this, .inr (8, [.ref q_now, .ref q_disk, .ref q_before, .int v_onDisk, .int v_head, .int v_headPages, .int v_records, .ref q_recordPage, .ref q_recordBytes, .int v_up, .int v_armed, .int v_columns, .ref q_isBlob, .ref q_integer, .ref q_size, .ref q_blobs, .int v_length, .ref q_record, .int v_kind, .int v_cells, .int v_last, .ref q_cellLength, .ref q_row, .int v_made, .ref q_cell, .int v_deep, .ref q_way, .ref q_turn, .int v_at, .int v_bad, .ref q_used])), (q_now, .inl (cI, 1600, .inl v_now)), (q_cellLength, .inl (cI, 80, .inl v_cellLength)), (q_row, .inl (cI, 2000, .inl a9))] H := by rw [e_a9]; exact hP
          have hD : va_D A [(q_this, .inr (8, [.ref q_now, .ref q_disk, .ref q_before, .int v_onDisk, .int v_head, .int v_headPages, .int v_records, .ref q_recordPage, .ref q_recordBytes, .int v_up, .int v_armed, .int v_columns, .ref q_isBlob, .ref q_integer, .ref q_size, .ref q_blobs, .int v_length, .ref q_record, .int v_kind, .int v_cells, .int v_last, .ref q_cellLength, .ref q_row, .int v_made, .ref q_cell, .int v_deep, .ref q_way, .ref q_turn, .int v_at, .int v_bad, .ref q_used])), (q_now, .inl (cI, 1600, .inl v_now)), (q_cellLength, .inl (cI, 80, .inl v_cellLength)), (q_row, .inl (cI, 2000, .inl a9))] := by rw [e_a9]; exact hD
          obtain ⟨t10, e_t10, hf⟩ := pu_nm_some hf
          refine lv_iinc (k := 4) (v := t10) hx hb d_MD_take_130 hl rfl e_t10.symm (by decide) rfl (fun ls hl => ?_)
          have hl : lv_has ls 5 [(4, .int t10), (0, .ref q_this), (1, .int x_1), (2, .int x_2), (3, .int x_3)] := hl
          refine lv_goto (tgt := 91) hx hb d_MD_take_133 rfl ?_
          exact ih_91 a9 t10 H locs ls hP hD hS (lv_sub hl [1, 2, 3, 4, 0] rfl) hf
      intro v_cellLength v_row x_2 x_3 H locs ls hP hD hS hl hf
      rw [q_MD_take_59] at hf
      refine lv_iload_n hx hb d_MD_take_59 rfl (lv_at hl 3 rfl) ?_
      refine lv_aload_n hx hb d_MD_take_60 rfl (lv_at hl 0 rfl) ?_
      refine gf_MD_109 (v := .int v_cells) hx hb hts hN hown hK hP 0 rfl rfl d_MD_take_61 ?_
      refine lv_icmp_ge (tgt := 151) hx hb d_MD_take_64 rfl (fun hc => ?_) (fun hc => ?_)
      · have hf := pu_br_pos hf hc
        exact hret _ _ _ _ v_kind v_cells v_last v_cellLength v_row d_MD_take_151 hP hD hS hf
      have hf := pu_br_neg hf hc
      refine lv_aload_n hx hb d_MD_take_67 rfl (lv_at hl 0 rfl) ?_
      refine gf_MD_53 (v := .ref q_cellLength) hx hb hts hN hown hK hP 0 rfl rfl d_MD_take_68 ?_
      refine lv_iload_n hx hb d_MD_take_71 rfl (lv_at hl 3 rfl) ?_
      refine lv_aload_n hx hb d_MD_take_72 rfl (lv_at hl 0 rfl) ?_
      refine lv_iload_n hx hb d_MD_take_73 rfl (lv_at hl 1 rfl) ?_
      refine lv_iload_n hx hb d_MD_take_74 rfl (lv_at hl 3 rfl) ?_
      refine lv_iconst (v := 1) hx hb d_MD_take_75 rfl ?_
      refine lv_isub hx hb d_MD_take_76 ?_
      obtain ⟨r3, hc, hf⟩ := pu_b1_some hf
      refine cl_i (WC := [(q_this, .inr (8, [.ref q_now, .ref q_disk, .ref q_before, .int v_onDisk, .int v_head, .int v_headPages, .int v_records, .ref q_recordPage, .ref q_recordBytes, .int v_up, .int v_armed, .int v_columns, .ref q_isBlob, .ref q_integer, .ref q_size, .ref q_blobs, .int v_length, .ref q_record, .int v_kind, .int v_cells, .int v_last, .ref q_cellLength, .ref q_row, .int v_made, .ref q_cell, .int v_deep, .ref q_way, .ref q_turn, .int v_at, .int v_bad, .ref q_used])), (q_now, .inl (cI, 1600, .inl v_now))]) (WC2 := [(q_this, .inr (8, [.ref q_now, .ref q_disk, .ref q_before, .int v_onDisk, .int v_head, .int v_headPages, .int v_records, .ref q_recordPage, .ref q_recordBytes, .int v_up, .int v_armed, .int v_columns, .ref q_isBlob, .ref q_integer, .ref q_size, .ref q_blobs, .int v_length, .ref q_record, .int v_kind, .int v_cells, .int v_last, .ref q_cellLength, .ref q_row, .int v_made, .ref q_cell, .int v_deep, .ref q_way, .ref q_turn, .int v_at, .int v_bad, .ref q_used])), (q_now, .inl (cI, 1600, .inl v_now))]) (WR := [(q_cellLength, .inl (cI, 80, .inl v_cellLength)), (q_row, .inl (cI, 2000, .inl v_row))]) (WS2 := [(q_this, .inr (8, [.ref q_now, .ref q_disk, .ref q_before, .int v_onDisk, .int v_head, .int v_headPages, .int v_records, .ref q_recordPage, .ref q_recordBytes, .int v_up, .int v_armed, .int v_columns, .ref q_isBlob, .ref q_integer, .ref q_size, .ref q_blobs, .int v_length, .ref q_record, .int v_kind, .int v_cells, .int v_last, .ref q_cellLength, .ref q_row, .int v_made, .ref q_cell, .int v_deep, .ref q_way, .ref q_turn, .int v_at, .int v_bad, .ref q_used])), (q_now, .inl (cI, 1600, .inl v_now)), (q_cellLength, .inl (cI, 80, .inl v_cellLength)), (q_row, .inl (cI, 2000, .inl v_row))]) (pu_rv (cl := pu_cl) (pu_in10 _ (List.mem_of_getElem? (i := 54) rfl)) (pu_in10 _ (List.mem_of_getElem? (i := 55) rfl)) (pu_in14 _ (List.mem_of_getElem? (i := 15) rfl)) (pu_in0 _ (List.mem_of_getElem? (i := 10) rfl)) (pu_in10 _ (List.mem_of_getElem? (i := 56) rfl)) (ci := 8) rfl hd_MD_begin (by decide) ⟨rfl, rfl⟩ rfl rfl (Nat.le_of_ble_eq_true rfl) rfl (As := [.int x_1, .int (x_3 - (1 : Int32))]) (rest := [.int x_3, .ref q_cellLength]) (WC := [(q_this, .inr (8, [.ref q_now, .ref q_disk, .ref q_before, .int v_onDisk, .int v_head, .int v_headPages, .int v_records, .ref q_recordPage, .ref q_recordBytes, .int v_up, .int v_armed, .int v_columns, .ref q_isBlob, .ref q_integer, .ref q_size, .ref q_blobs, .int v_length, .ref q_record, .int v_kind, .int v_cells, .int v_last, .ref q_cellLength, .ref q_row, .int v_made, .ref q_cell, .int v_deep, .ref q_way, .ref q_turn, .int v_at, .int v_bad, .ref q_used])), (q_now, .inl (cI, 1600, .inl v_now))]) hx hb hml hown hts hN hK hP hD (c_MD_begin l D cI cJ cB cZ H.size q_this q_now q_disk q_before q_recordPage q_recordBytes q_isBlob q_integer q_size q_blobs q_record q_cellLength q_row q_cell q_way q_turn q_used v_onDisk v_head v_headPages v_records v_up v_armed v_columns v_length v_kind v_cells v_last v_made v_deep v_at v_bad v_now x_1 (x_3 - (1 : Int32)) r3 hc) [0, 1] rfl rfl hl.1 d_MD_take_77) hP hD hS hA [0, 1] [2, 3] [2, 3, 0, 1] rfl rfl rfl (by decide) rfl rfl (fun H locs hP hD hS => ?_)
      refine lv_aload_n hx hb d_MD_take_80 rfl (lv_at hl 0 rfl) ?_
      refine lv_iload_n hx hb d_MD_take_81 rfl (lv_at hl 1 rfl) ?_
      refine lv_iload_n hx hb d_MD_take_82 rfl (lv_at hl 3 rfl) ?_
      obtain ⟨r4, hc, hf⟩ := pu_b1_some hf
      refine cl_i (WC := [(q_this, .inr (8, [.ref q_now, .ref q_disk, .ref q_before, .int v_onDisk, .int v_head, .int v_headPages, .int v_records, .ref q_recordPage, .ref q_recordBytes, .int v_up, .int v_armed, .int v_columns, .ref q_isBlob, .ref q_integer, .ref q_size, .ref q_blobs, .int v_length, .ref q_record, .int v_kind, .int v_cells, .int v_last, .ref q_cellLength, .ref q_row, .int v_made, .ref q_cell, .int v_deep, .ref q_way, .ref q_turn, .int v_at, .int v_bad, .ref q_used])), (q_now, .inl (cI, 1600, .inl v_now))]) (WC2 := [(q_this, .inr (8, [.ref q_now, .ref q_disk, .ref q_before, .int v_onDisk, .int v_head, .int v_headPages, .int v_records, .ref q_recordPage, .ref q_recordBytes, .int v_up, .int v_armed, .int v_columns, .ref q_isBlob, .ref q_integer, .ref q_size, .ref q_blobs, .int v_length, .ref q_record, .int v_kind, .int v_cells, .int v_last, .ref q_cellLength, .ref q_row, .int v_made, .ref q_cell, .int v_deep, .ref q_way, .ref q_turn, .int v_at, .int v_bad, .ref q_used])), (q_now, .inl (cI, 1600, .inl v_now))]) (WR := [(q_cellLength, .inl (cI, 80, .inl v_cellLength)), (q_row, .inl (cI, 2000, .inl v_row))]) (WS2 := [(q_this, .inr (8, [.ref q_now, .ref q_disk, .ref q_before, .int v_onDisk, .int v_head, .int v_headPages, .int v_records, .ref q_recordPage, .ref q_recordBytes, .int v_up, .int v_armed, .int v_columns, .ref q_isBlob, .ref q_integer, .ref q_size, .ref q_blobs, .int v_length, .ref q_record, .int v_kind, .int v_cells, .int v_last, .ref q_cellLength, .ref q_row, .int v_made, .ref q_cell, .int v_deep, .ref q_way, .ref q_turn, .int v_at, .int v_bad, .ref q_used])), (q_now, .inl (cI, 1600, .inl v_now)), (q_cellLength, .inl (cI, 80, .inl v_cellLength)), (q_row, .inl (cI, 2000, .inl v_row))]) (pu_rv (cl := pu_cl) (pu_in10 _ (List.mem_of_getElem? (i := 54) rfl)) (pu_in10 _ (List.mem_of_getElem? (i := 55) rfl)) (pu_in14 _ (List.mem_of_getElem? (i := 15) rfl)) (pu_in0 _ (List.mem_of_getElem? (i := 10) rfl)) (pu_in10 _ (List.mem_of_getElem? (i := 56) rfl)) (ci := 8) rfl hd_MD_begin (by decide) ⟨rfl, rfl⟩ rfl rfl (Nat.le_of_ble_eq_true rfl) rfl (As := [.int x_1, .int x_3]) (rest := [.int r3, .int x_3, .ref q_cellLength]) (WC := [(q_this, .inr (8, [.ref q_now, .ref q_disk, .ref q_before, .int v_onDisk, .int v_head, .int v_headPages, .int v_records, .ref q_recordPage, .ref q_recordBytes, .int v_up, .int v_armed, .int v_columns, .ref q_isBlob, .ref q_integer, .ref q_size, .ref q_blobs, .int v_length, .ref q_record, .int v_kind, .int v_cells, .int v_last, .ref q_cellLength, .ref q_row, .int v_made, .ref q_cell, .int v_deep, .ref q_way, .ref q_turn, .int v_at, .int v_bad, .ref q_used])), (q_now, .inl (cI, 1600, .inl v_now))]) hx hb hml hown hts hN hK hP hD (c_MD_begin l D cI cJ cB cZ H.size q_this q_now q_disk q_before q_recordPage q_recordBytes q_isBlob q_integer q_size q_blobs q_record q_cellLength q_row q_cell q_way q_turn q_used v_onDisk v_head v_headPages v_records v_up v_armed v_columns v_length v_kind v_cells v_last v_made v_deep v_at v_bad v_now x_1 x_3 r4 hc) [0, 1] rfl rfl hl.1 d_MD_take_83) hP hD hS hA [0, 1] [2, 3] [2, 3, 0, 1] rfl rfl rfl (by decide) rfl rfl (fun H locs hP hD hS => ?_)
      refine lv_isub hx hb d_MD_take_86 ?_
      obtain ⟨hin, hf⟩ := pu_ck_some hf
      obtain ⟨a5, e_a5, hf⟩ := pu_nm_some hf
      refine va_iast hx hb hK hP hD hS 2 0 rfl rfl hin d_MD_take_87 (fun H locs hP hD hS => ?_)
      have hP : va_P D pu_cl [(q_this, .inr (8, [.ref q_now, .ref q_disk, .ref q_before, .int v_onDisk, .int v_head, .int v_headPages, .int v_records, .ref q_recordPage, .ref q_recordBytes, .int v_up, .int v_armed, .int v_columns, .ref q_isBlob, .ref q_integer, .ref q_size, .ref q_blobs, .int v_length, .ref q_record, .int v_kind, .int v_cells, .int v_last, .ref q_cellLength, .ref q_row, .int v_made, .ref q_cell, .int v_deep, .ref q_way, .ref q_turn, .int v_at, .int v_bad, .ref q_used])), (q_now, .inl (cI, 1600, .inl v_now)), (q_cellLength, .inl (cI, 80, .inl a5)), (q_row, .inl (cI, 2000, .inl v_row))] H := by rw [e_a5]; exact hP
      have hD : va_D A [(q_this, .inr (8, [.ref q_now, .ref q_disk, .ref q_before, .int v_onDisk, .int v_head, .int v_headPages, .int v_records, .ref q_recordPage, .ref q_recordBytes, .int v_up, .int v_armed, .int v_columns, .ref q_isBlob, .ref q_integer, .ref q_size, .ref q_blobs, .int v_length, .ref q_record, .int v_kind, .int v_cells, .int v_last, .ref q_cellLength, .ref q_row, .int v_made, .ref q_cell, .int v_deep, .ref q_way, .ref q_turn, .int v_at, .int v_bad, .ref q_used])), (q_now, .inl (cI, 1600, .inl v_now)), (q_cellLength, .inl (cI, 80, .inl a5)), (q_row, .inl (cI, 2000, .inl v_row))] := by rw [e_a5]; exact hD
      refine lv_iconst (v := 0) hx hb d_MD_take_88 rfl ?_
      refine lv_istore hx hb d_MD_take_89 hl (by decide) rfl (fun ls hl => ?_)
      have hl : lv_has ls 5 [(4, .int (0 : Int32)), (0, .ref q_this), (1, .int x_1), (2, .int x_2), (3, .int x_3)] := hl
      exact lp_91 a5 x_2 x_3 _ v_row (0 : Int32) H locs ls hP hD hS (lv_sub hl [1, 2, 3, 4, 0] rfl) hf
  have lb_52 : ∀ (v_kind : Int32) (v_cells : Int32) (v_last : Int32) (v_cellLength : Nat → Int32) (v_row : Nat → Int32) (x_1 : Int32) (s_1 : Int32) (H : Heap) (locs : List Loc) (ls : Array Slot), va_P D pu_cl [(q_this, .inr (8, [.ref q_now, .ref q_disk, .ref q_before, .int v_onDisk, .int v_head, .int v_headPages, .int v_records, .ref q_recordPage, .ref q_recordBytes, .int v_up, .int v_armed, .int v_columns, .ref q_isBlob, .ref q_integer, .ref q_size, .ref q_blobs, .int v_length, .ref q_record, .int v_kind, .int v_cells, .int v_last, .ref q_cellLength, .ref q_row, .int v_made, .ref q_cell, .int v_deep, .ref q_way, .ref q_turn, .int v_at, .int v_bad, .ref q_used])), (q_now, .inl (cI, 1600, .inl v_now)), (q_cellLength, .inl (cI, 80, .inl v_cellLength)), (q_row, .inl (cI, 2000, .inl v_row))] H → va_D A [(q_this, .inr (8, [.ref q_now, .ref q_disk, .ref q_before, .int v_onDisk, .int v_head, .int v_headPages, .int v_records, .ref q_recordPage, .ref q_recordBytes, .int v_up, .int v_armed, .int v_columns, .ref q_isBlob, .ref q_integer, .ref q_size, .ref q_blobs, .int v_length, .ref q_record, .int v_kind, .int v_cells, .int v_last, .ref q_cellLength, .ref q_row, .int v_made, .ref q_cell, .int v_deep, .ref q_way, .ref q_turn, .int v_at, .int v_bad, .ref q_used])), (q_now, .inl (cI, 1600, .inl v_now)), (q_cellLength, .inl (cI, 80, .inl v_cellLength)), (q_row, .inl (cI, 2000, .inl v_row))] → va_S A s.heap H locs → lv_has ls 5 [(0, .ref q_this), (1, .int x_1)] → q_MD_take_52 v_now v_kind v_cells v_last v_cellLength v_row x_1 s_1 = some (o_kind, o_cells, o_last, o_cellLength, o_row) → W p l e rm_MD_take s m args below meth c H locs 0 0 Q (F0 m 52 ls [.int s_1, .ref q_this]) := by
    intro v_kind v_cells v_last v_cellLength v_row x_1 s_1 H locs ls hP hD hS hl hf
    rw [q_MD_take_52] at hf
    refine pf_MD_112 (v := .int s_1) hx hb hts hN hown hK hP hD hS 0 rfl rfl rfl (Nat.le_of_ble_eq_true rfl) d_MD_take_52 (fun H locs hP hD hS => ?_)
    have hP : va_P D pu_cl [(q_this, .inr (8, [.ref q_now, .ref q_disk, .ref q_before, .int v_onDisk, .int v_head, .int v_headPages, .int v_records, .ref q_recordPage, .ref q_recordBytes, .int v_up, .int v_armed, .int v_columns, .ref q_isBlob, .ref q_integer, .ref q_size, .ref q_blobs, .int v_length, .ref q_record, .int v_kind, .int v_cells, .int s_1, .ref q_cellLength, .ref q_row, .int v_made, .ref q_cell, .int v_deep, .ref q_way, .ref q_turn, .int v_at, .int v_bad, .ref q_used])), (q_now, .inl (cI, 1600, .inl v_now)), (q_cellLength, .inl (cI, 80, .inl v_cellLength)), (q_row, .inl (cI, 2000, .inl v_row))] H := hP
    have hD : va_D A [(q_this, .inr (8, [.ref q_now, .ref q_disk, .ref q_before, .int v_onDisk, .int v_head, .int v_headPages, .int v_records, .ref q_recordPage, .ref q_recordBytes, .int v_up, .int v_armed, .int v_columns, .ref q_isBlob, .ref q_integer, .ref q_size, .ref q_blobs, .int v_length, .ref q_record, .int v_kind, .int v_cells, .int s_1, .ref q_cellLength, .ref q_row, .int v_made, .ref q_cell, .int v_deep, .ref q_way, .ref q_turn, .int v_at, .int v_bad, .ref q_used])), (q_now, .inl (cI, 1600, .inl v_now)), (q_cellLength, .inl (cI, 80, .inl v_cellLength)), (q_row, .inl (cI, 2000, .inl v_row))] := hD
    refine lv_iconst (v := 0) hx hb d_MD_take_55 rfl ?_
    refine lv_istore_n hx hb d_MD_take_56 rfl hl (by decide) rfl (fun ls hl => ?_)
    have hl : lv_has ls 5 [(2, .int (0 : Int32)), (0, .ref q_this), (1, .int x_1)] := hl
    refine lv_iconst (v := 0) hx hb d_MD_take_57 rfl ?_
    refine lv_istore_n hx hb d_MD_take_58 rfl hl (by decide) rfl (fun ls hl => ?_)
    have hl : lv_has ls 5 [(3, .int (0 : Int32)), (2, .int (0 : Int32)), (0, .ref q_this), (1, .int x_1)] := hl
    exact lp_59 v_kind v_cells s_1 x_1 _ v_cellLength v_row (0 : Int32) (0 : Int32) H locs ls hP hD hS (lv_sub hl [2, 3, 1, 0] rfl) hf
  obtain ⟨H, hH⟩ : ∃ H, H = s.heap := ⟨_, rfl⟩
  obtain ⟨locs, hlocs⟩ : ∃ locs : List Loc, locs = [] := ⟨_, rfl⟩
  have hP : va_P D pu_cl [(q_this, .inr (8, [.ref q_now, .ref q_disk, .ref q_before, .int v_onDisk, .int v_head, .int v_headPages, .int v_records, .ref q_recordPage, .ref q_recordBytes, .int v_up, .int v_armed, .int v_columns, .ref q_isBlob, .ref q_integer, .ref q_size, .ref q_blobs, .int v_length, .ref q_record, .int v_kind, .int v_cells, .int v_last, .ref q_cellLength, .ref q_row, .int v_made, .ref q_cell, .int v_deep, .ref q_way, .ref q_turn, .int v_at, .int v_bad, .ref q_used])), (q_now, .inl (cI, 1600, .inl v_now)), (q_cellLength, .inl (cI, 80, .inl v_cellLength)), (q_row, .inl (cI, 2000, .inl v_row))] H := by rw [hH]; exact hP
  have hS : va_S A s.heap H locs := by rw [hH, hlocs]; exact hS
  have goal : W p l e rm_MD_take s m args below meth c H locs 0 0 Q (F0 m 0 ls []) := by
    clear hH hlocs
    refine lv_aload_n hx hb d_MD_take_0 rfl (lv_at hl 0 rfl) ?_
    refine lv_aload_n hx hb d_MD_take_1 rfl (lv_at hl 0 rfl) ?_
    refine gf_MD_7 (v := .ref q_now) hx hb hts hN hown hK hP 0 rfl rfl d_MD_take_2 ?_
    refine lv_bipush (v := 64) hx hb d_MD_take_5 rfl ?_
    refine lv_iload_n hx hb d_MD_take_7 rfl (lv_at hl 1 rfl) ?_
    refine lv_imul hx hb d_MD_take_8 ?_
    obtain ⟨hin, hf⟩ := pu_ck_some hf
    refine va_iald hx hb hK hP 1 0 rfl rfl hin d_MD_take_9 ?_
    obtain ⟨t1, e_t1, hf⟩ := pu_nm_some hf
    refine pu_ti e_t1 ?_
    refine pf_MD_106 (v := .int t1) hx hb hts hN hown hK hP hD hS 0 rfl rfl rfl (Nat.le_of_ble_eq_true rfl) d_MD_take_10 (fun H locs hP hD hS => ?_)
    have hP : va_P D pu_cl [(q_this, .inr (8, [.ref q_now, .ref q_disk, .ref q_before, .int v_onDisk, .int v_head, .int v_headPages, .int v_records, .ref q_recordPage, .ref q_recordBytes, .int v_up, .int v_armed, .int v_columns, .ref q_isBlob, .ref q_integer, .ref q_size, .ref q_blobs, .int v_length, .ref q_record, .int t1, .int v_cells, .int v_last, .ref q_cellLength, .ref q_row, .int v_made, .ref q_cell, .int v_deep, .ref q_way, .ref q_turn, .int v_at, .int v_bad, .ref q_used])), (q_now, .inl (cI, 1600, .inl v_now)), (q_cellLength, .inl (cI, 80, .inl v_cellLength)), (q_row, .inl (cI, 2000, .inl v_row))] H := hP
    have hD : va_D A [(q_this, .inr (8, [.ref q_now, .ref q_disk, .ref q_before, .int v_onDisk, .int v_head, .int v_headPages, .int v_records, .ref q_recordPage, .ref q_recordBytes, .int v_up, .int v_armed, .int v_columns, .ref q_isBlob, .ref q_integer, .ref q_size, .ref q_blobs, .int v_length, .ref q_record, .int t1, .int v_cells, .int v_last, .ref q_cellLength, .ref q_row, .int v_made, .ref q_cell, .int v_deep, .ref q_way, .ref q_turn, .int v_at, .int v_bad, .ref q_used])), (q_now, .inl (cI, 1600, .inl v_now)), (q_cellLength, .inl (cI, 80, .inl v_cellLength)), (q_row, .inl (cI, 2000, .inl v_row))] := hD
    refine lv_aload_n hx hb d_MD_take_13 rfl (lv_at hl 0 rfl) ?_
    refine lv_aload_n hx hb d_MD_take_14 rfl (lv_at hl 0 rfl) ?_
    refine gf_MD_7 (v := .ref q_now) hx hb hts hN hown hK hP 0 rfl rfl d_MD_take_15 ?_
    refine lv_bipush (v := 64) hx hb d_MD_take_18 rfl ?_
    refine lv_iload_n hx hb d_MD_take_20 rfl (lv_at hl 1 rfl) ?_
    refine lv_imul hx hb d_MD_take_21 ?_
    refine lv_iconst (v := 1) hx hb d_MD_take_22 rfl ?_
    refine lv_iadd hx hb d_MD_take_23 ?_
    obtain ⟨hin, hf⟩ := pu_ck_some hf
    refine va_iald hx hb hK hP 1 0 rfl rfl hin d_MD_take_24 ?_
    obtain ⟨t2, e_t2, hf⟩ := pu_nm_some hf
    refine pu_ti e_t2 ?_
    refine pf_MD_109 (v := .int t2) hx hb hts hN hown hK hP hD hS 0 rfl rfl rfl (Nat.le_of_ble_eq_true rfl) d_MD_take_25 (fun H locs hP hD hS => ?_)
    have hP : va_P D pu_cl [(q_this, .inr (8, [.ref q_now, .ref q_disk, .ref q_before, .int v_onDisk, .int v_head, .int v_headPages, .int v_records, .ref q_recordPage, .ref q_recordBytes, .int v_up, .int v_armed, .int v_columns, .ref q_isBlob, .ref q_integer, .ref q_size, .ref q_blobs, .int v_length, .ref q_record, .int t1, .int t2, .int v_last, .ref q_cellLength, .ref q_row, .int v_made, .ref q_cell, .int v_deep, .ref q_way, .ref q_turn, .int v_at, .int v_bad, .ref q_used])), (q_now, .inl (cI, 1600, .inl v_now)), (q_cellLength, .inl (cI, 80, .inl v_cellLength)), (q_row, .inl (cI, 2000, .inl v_row))] H := hP
    have hD : va_D A [(q_this, .inr (8, [.ref q_now, .ref q_disk, .ref q_before, .int v_onDisk, .int v_head, .int v_headPages, .int v_records, .ref q_recordPage, .ref q_recordBytes, .int v_up, .int v_armed, .int v_columns, .ref q_isBlob, .ref q_integer, .ref q_size, .ref q_blobs, .int v_length, .ref q_record, .int t1, .int t2, .int v_last, .ref q_cellLength, .ref q_row, .int v_made, .ref q_cell, .int v_deep, .ref q_way, .ref q_turn, .int v_at, .int v_bad, .ref q_used])), (q_now, .inl (cI, 1600, .inl v_now)), (q_cellLength, .inl (cI, 80, .inl v_cellLength)), (q_row, .inl (cI, 2000, .inl v_row))] := hD
    refine lv_aload_n hx hb d_MD_take_28 rfl (lv_at hl 0 rfl) ?_
    refine lv_aload_n hx hb d_MD_take_29 rfl (lv_at hl 0 rfl) ?_
    refine gf_MD_106 (v := .int t1) hx hb hts hN hown hK hP 0 rfl rfl d_MD_take_30 ?_
    refine lv_iconst (v := 5) hx hb d_MD_take_33 rfl ?_
    refine lv_icmp_ne (tgt := 51) hx hb d_MD_take_34 rfl (fun hc => ?_) (fun hc => ?_)
    · have hf := pu_br_neg hf hc
      refine lv_iconst (v := 0) hx hb d_MD_take_51 rfl ?_
      exact lb_52 t1 t2 v_last v_cellLength v_row x_1 (0 : Int32) H locs ls hP hD hS (lv_sub hl [0, 1] rfl) hf
    have hf := pu_br_pos hf hc
    refine lv_aload_n hx hb d_MD_take_37 rfl (lv_at hl 0 rfl) ?_
    refine gf_MD_7 (v := .ref q_now) hx hb hts hN hown hK hP 0 rfl rfl d_MD_take_38 ?_
    refine lv_bipush (v := 64) hx hb d_MD_take_41 rfl ?_
    refine lv_iload_n hx hb d_MD_take_43 rfl (lv_at hl 1 rfl) ?_
    refine lv_imul hx hb d_MD_take_44 ?_
    refine lv_iconst (v := 2) hx hb d_MD_take_45 rfl ?_
    refine lv_iadd hx hb d_MD_take_46 ?_
    obtain ⟨hin, hf⟩ := pu_ck_some hf
    refine va_iald hx hb hK hP 1 0 rfl rfl hin d_MD_take_47 ?_
    refine lv_goto (tgt := 52) hx hb d_MD_take_48 rfl ?_
    exact lb_52 t1 t2 v_last v_cellLength v_row x_1 (v_now (((64 : Int32) * x_1) + (2 : Int32)).toNatClampNeg) H locs ls hP hD hS (lv_sub hl [0, 1] rfl) hf
  rw [hH, hlocs] at goal
  exact goal
theorem d_MD_start_0 : decode b_MD_start 0 = .ok (.iconst 0, 1) := by decide +kernel
theorem d_MD_start_1 : decode b_MD_start 1 = .ok (.istore_n 2, 1) := by decide +kernel
theorem d_MD_start_2 : decode b_MD_start 2 = .ok (.iconst 0, 1) := by decide +kernel
theorem d_MD_start_3 : decode b_MD_start 3 = .ok (.istore_n 3, 1) := by decide +kernel
theorem d_MD_start_4 : decode b_MD_start 4 = .ok (.iload_n 3, 1) := by decide +kernel
theorem d_MD_start_5 : decode b_MD_start 5 = .ok (.iload_n 1, 1) := by decide +kernel
theorem d_MD_start_6 : decode b_MD_start 6 = .ok (.if_icmp .ge 18, 3) := by decide +kernel
theorem d_MD_start_9 : decode b_MD_start 9 = .ok (.iload_n 2, 1) := by decide +kernel
theorem d_MD_start_10 : decode b_MD_start 10 = .ok (.aload_n 0, 1) := by decide +kernel
theorem d_MD_start_11 : decode b_MD_start 11 = .ok (.getfield 53, 3) := by decide +kernel
theorem d_MD_start_14 : decode b_MD_start 14 = .ok (.iload_n 3, 1) := by decide +kernel
theorem d_MD_start_15 : decode b_MD_start 15 = .ok (.iaload, 1) := by decide +kernel
theorem d_MD_start_16 : decode b_MD_start 16 = .ok (.iadd, 1) := by decide +kernel
theorem d_MD_start_17 : decode b_MD_start 17 = .ok (.istore_n 2, 1) := by decide +kernel
theorem d_MD_start_18 : decode b_MD_start 18 = .ok (.iinc 3 1, 3) := by decide +kernel
theorem d_MD_start_21 : decode b_MD_start 21 = .ok (.goto (-17), 3) := by decide +kernel
theorem d_MD_start_24 : decode b_MD_start 24 = .ok (.iload_n 2, 1) := by decide +kernel
theorem d_MD_start_25 : decode b_MD_start 25 = .ok (.ireturn, 1) := by decide +kernel
noncomputable def q_MD_start_4 (v_cellLength : Nat → Int32) (x_1 : Int32) : Nat → Int32 → Int32 → Option (Int32)
  | 0, _, _ => none
  | n + 1, x_2, x_3 => pu_br (x_1 ≤ x_3) (some x_2) (pu_ck (vp_in x_3 80) (pu_nm (x_2 + (v_cellLength x_3.toNatClampNeg)) (fun t1 => pu_nm (x_3 + (1 : Int32)) (fun t2 => q_MD_start_4 v_cellLength x_1 n t1 t2))))
noncomputable def f_MD_start (v_cellLength : Nat → Int32) (x_1 : Int32) : Option (Int32) :=
  q_MD_start_4 v_cellLength x_1 pu_fu (0 : Int32) (0 : Int32)
abbrev rm_MD_start : Room := { frames := 0, cells := 0, slots := 0, locals := 0 }
set_option maxHeartbeats 8000000 in
set_option maxRecDepth 100000 in
theorem c_MD_start (l : Launch) (D : va_G) (cI cJ cB cZ : ClassId) (sz : Nat) (q_this : Nat) (q_now : Nat) (q_disk : Nat) (q_before : Nat) (q_recordPage : Nat) (q_recordBytes : Nat) (q_isBlob : Nat) (q_integer : Nat) (q_size : Nat) (q_blobs : Nat) (q_record : Nat) (q_cellLength : Nat) (q_row : Nat) (q_cell : Nat) (q_way : Nat) (q_turn : Nat) (q_used : Nat) (v_onDisk : Int32) (v_head : Int32) (v_headPages : Int32) (v_records : Int32) (v_up : Int32) (v_armed : Int32) (v_columns : Int32) (v_length : Int32) (v_kind : Int32) (v_cells : Int32) (v_last : Int32) (v_made : Int32) (v_deep : Int32) (v_at : Int32) (v_bad : Int32) (v_cellLength : Nat → Int32) (x_1 : Int32) (o_r : Int32) (hf : f_MD_start v_cellLength x_1 = some o_r) : Met l y_MD_start (.code y_MD_start b_MD_start 4 (some .int) :: pu_wA) rm_MD_start (pu_pc D pu_cl (pu_ty cI cJ cB cZ) [.ref q_this, .int x_1] [(q_this, .inr (8, [.ref q_now, .ref q_disk, .ref q_before, .int v_onDisk, .int v_head, .int v_headPages, .int v_records, .ref q_recordPage, .ref q_recordBytes, .int v_up, .int v_armed, .int v_columns, .ref q_isBlob, .ref q_integer, .ref q_size, .ref q_blobs, .int v_length, .ref q_record, .int v_kind, .int v_cells, .int v_last, .ref q_cellLength, .ref q_row, .int v_made, .ref q_cell, .int v_deep, .ref q_way, .ref q_turn, .int v_at, .int v_bad, .ref q_used])), (q_cellLength, .inl (cI, 80, .inl v_cellLength))] sz) (pu_qi D pu_cl (pu_ty cI cJ cB cZ) [(q_this, .inr (8, [.ref q_now, .ref q_disk, .ref q_before, .int v_onDisk, .int v_head, .int v_headPages, .int v_records, .ref q_recordPage, .ref q_recordBytes, .int v_up, .int v_armed, .int v_columns, .ref q_isBlob, .ref q_integer, .ref q_size, .ref q_blobs, .int v_length, .ref q_record, .int v_kind, .int v_cells, .int v_last, .ref q_cellLength, .ref q_row, .int v_made, .ref q_cell, .int v_deep, .ref q_way, .ref q_turn, .int v_at, .int v_bad, .ref q_used])), (q_cellLength, .inl (cI, 80, .inl v_cellLength))] [(q_this, .inr (8, [.ref q_now, .ref q_disk, .ref q_before, .int v_onDisk, .int v_head, .int v_headPages, .int v_records, .ref q_recordPage, .ref q_recordBytes, .int v_up, .int v_armed, .int v_columns, .ref q_isBlob, .ref q_integer, .ref q_size, .ref q_blobs, .int v_length, .ref q_record, .int v_kind, .int v_cells, .int v_last, .ref q_cellLength, .ref q_row, .int v_made, .ref q_cell, .int v_deep, .ref q_way, .ref q_turn, .int v_at, .int v_bad, .ref q_used])), (q_cellLength, .inl (cI, 80, .inl v_cellLength))] sz o_r) 0 0 (va_A [(q_this, .inr (8, [.ref q_now, .ref q_disk, .ref q_before, .int v_onDisk, .int v_head, .int v_headPages, .int v_records, .ref q_recordPage, .ref q_recordBytes, .int v_up, .int v_armed, .int v_columns, .ref q_isBlob, .ref q_integer, .ref q_size, .ref q_blobs, .int v_length, .ref q_record, .int v_kind, .int v_cells, .int v_last, .ref q_cellLength, .ref q_row, .int v_made, .ref q_cell, .int v_deep, .ref q_way, .ref q_turn, .int v_at, .int v_bad, .ref q_used])), (q_cellLength, .inl (cI, 80, .inl v_cellLength))] sz) := by
  refine pu_mti [.ref q_this, .int x_1] [(q_this, .inr (8, [.ref q_now, .ref q_disk, .ref q_before, .int v_onDisk, .int v_head, .int v_headPages, .int v_records, .ref q_recordPage, .ref q_recordBytes, .int v_up, .int v_armed, .int v_columns, .ref q_isBlob, .ref q_integer, .ref q_size, .ref q_blobs, .int v_length, .ref q_record, .int v_kind, .int v_cells, .int v_last, .ref q_cellLength, .ref q_row, .int v_made, .ref q_cell, .int v_deep, .ref q_way, .ref q_turn, .int v_at, .int v_bad, .ref q_used])), (q_cellLength, .inl (cI, 80, .inl v_cellLength))] [(q_this, .inr (8, [.ref q_now, .ref q_disk, .ref q_before, .int v_onDisk, .int v_head, .int v_headPages, .int v_records, .ref q_recordPage, .ref q_recordBytes, .int v_up, .int v_armed, .int v_columns, .ref q_isBlob, .ref q_integer, .ref q_size, .ref q_blobs, .int v_length, .ref q_record, .int v_kind, .int v_cells, .int v_last, .ref q_cellLength, .ref q_row, .int v_made, .ref q_cell, .int v_deep, .ref q_way, .ref q_turn, .int v_at, .int v_bad, .ref q_used])), (q_cellLength, .inl (cI, 80, .inl v_cellLength))] o_r (by decide) (Nat.le_of_ble_eq_true rfl) ?_
  intro p e s m args below meth c A Q ls hx hb hml hts hN hown hK hA hP hD hl hret0
  have hS : va_S A s.heap s.heap [] := va_S.rf
  have hl : lv_has ls 4 [(0, .ref q_this), (1, .int x_1)] := hl
  have hret : ∀ (pc : Nat) (ls : Array Slot) (H : Heap) (locs : List Loc) (y_0 : Int32), decode b_MD_start pc = .ok (.ireturn, 1) → va_P D pu_cl [(q_this, .inr (8, [.ref q_now, .ref q_disk, .ref q_before, .int v_onDisk, .int v_head, .int v_headPages, .int v_records, .ref q_recordPage, .ref q_recordBytes, .int v_up, .int v_armed, .int v_columns, .ref q_isBlob, .ref q_integer, .ref q_size, .ref q_blobs, .int v_length, .ref q_record, .int v_kind, .int v_cells, .int v_last, .ref q_cellLength, .ref q_row, .int v_made, .ref q_cell, .int v_deep, .ref q_way, .ref q_turn, .int v_at, .int v_bad, .ref q_used])), (q_cellLength, .inl (cI, 80, .inl v_cellLength))] H → va_D A [(q_this, .inr (8, [.ref q_now, .ref q_disk, .ref q_before, .int v_onDisk, .int v_head, .int v_headPages, .int v_records, .ref q_recordPage, .ref q_recordBytes, .int v_up, .int v_armed, .int v_columns, .ref q_isBlob, .ref q_integer, .ref q_size, .ref q_blobs, .int v_length, .ref q_record, .int v_kind, .int v_cells, .int v_last, .ref q_cellLength, .ref q_row, .int v_made, .ref q_cell, .int v_deep, .ref q_way, .ref q_turn, .int v_at, .int v_bad, .ref q_used])), (q_cellLength, .inl (cI, 80, .inl v_cellLength))] → va_S A s.heap H locs → some y_0 = some o_r → W p l e rm_MD_start s m args below meth c H locs 0 0 Q (F0 m pc ls [.int y_0]) := by
    intro pc ls H locs y_0 hd hP hD hS hf
    cases hf
    exact hret0 pc ls H locs hd hP hD hS
  clear hret0
  unfold f_MD_start at hf
  skip
  have lp_4 : ∀ (x_1 : Int32) (n4 : Nat) (x_2 : Int32) (x_3 : Int32) (H : Heap) (locs : List Loc) (ls : Array Slot), va_P D pu_cl [(q_this, .inr (8, [.ref q_now, .ref q_disk, .ref q_before, .int v_onDisk, .int v_head, .int v_headPages, .int v_records, .ref q_recordPage, .ref q_recordBytes, .int v_up, .int v_armed, .int v_columns, .ref q_isBlob, .ref q_integer, .ref q_size, .ref q_blobs, .int v_length, .ref q_record, .int v_kind, .int v_cells, .int v_last, .ref q_cellLength, .ref q_row, .int v_made, .ref q_cell, .int v_deep, .ref q_way, .ref q_turn, .int v_at, .int v_bad, .ref q_used])), (q_cellLength, .inl (cI, 80, .inl v_cellLength))] H → va_D A [(q_this, .inr (8, [.ref q_now, .ref q_disk, .ref q_before, .int v_onDisk, .int v_head, .int v_headPages, .int v_records, .ref q_recordPage, .ref q_recordBytes, .int v_up, .int v_armed, .int v_columns, .ref q_isBlob, .ref q_integer, .ref q_size, .ref q_blobs, .int v_length, .ref q_record, .int v_kind, .int v_cells, .int v_last, .ref q_cellLength, .ref q_row, .int v_made, .ref q_cell, .int v_deep, .ref q_way, .ref q_turn, .int v_at, .int v_bad, .ref q_used])), (q_cellLength, .inl (cI, 80, .inl v_cellLength))] → va_S A s.heap H locs → lv_has ls 4 [(0, .ref q_this), (1, .int x_1), (2, .int x_2), (3, .int x_3)] → q_MD_start_4 v_cellLength x_1 n4 x_2 x_3 = some o_r → W p l e rm_MD_start s m args below meth c H locs 0 0 Q (F0 m 4 ls []) := by
    intro x_1 n4
    induction n4 with
    | zero =>
      intro x_2 x_3 H locs ls hP hD hS hl hf
      rw [q_MD_start_4] at hf
      cases hf
    | succ n4 ih_4 =>
      intro x_2 x_3 H locs ls hP hD hS hl hf
      rw [q_MD_start_4] at hf
      refine lv_iload_n hx hb d_MD_start_4 rfl (lv_at hl 3 rfl) ?_
      refine lv_iload_n hx hb d_MD_start_5 rfl (lv_at hl 1 rfl) ?_
      refine lv_icmp_ge (tgt := 24) hx hb d_MD_start_6 rfl (fun hc => ?_) (fun hc => ?_)
      · have hf := pu_br_pos hf hc
        refine lv_iload_n hx hb d_MD_start_24 rfl (lv_at hl 2 rfl) ?_
        exact hret _ _ _ _ x_2  d_MD_start_25 hP hD hS hf
      have hf := pu_br_neg hf hc
      refine lv_iload_n hx hb d_MD_start_9 rfl (lv_at hl 2 rfl) ?_
      refine lv_aload_n hx hb d_MD_start_10 rfl (lv_at hl 0 rfl) ?_
      refine gf_MD_53 (v := .ref q_cellLength) hx hb hts hN hown hK hP 0 rfl rfl d_MD_start_11 ?_
      refine lv_iload_n hx hb d_MD_start_14 rfl (lv_at hl 3 rfl) ?_
      obtain ⟨hin, hf⟩ := pu_ck_some hf
      refine va_iald hx hb hK hP 1 0 rfl rfl hin d_MD_start_15 ?_
      refine lv_iadd hx hb d_MD_start_16 ?_
      obtain ⟨t1, e_t1, hf⟩ := pu_nm_some hf
      refine pu_ti e_t1 ?_
      refine lv_istore_n hx hb d_MD_start_17 rfl hl (by decide) rfl (fun ls hl => ?_)
      have hl : lv_has ls 4 [(2, .int t1), (0, .ref q_this), (1, .int x_1), (3, .int x_3)] := hl
      obtain ⟨t2, e_t2, hf⟩ := pu_nm_some hf
      refine lv_iinc (k := 3) (v := t2) hx hb d_MD_start_18 hl rfl e_t2.symm (by decide) rfl (fun ls hl => ?_)
      have hl : lv_has ls 4 [(3, .int t2), (2, .int t1), (0, .ref q_this), (1, .int x_1)] := hl
      refine lv_goto (tgt := 4) hx hb d_MD_start_21 rfl ?_
      exact ih_4 t1 t2 H locs ls hP hD hS (lv_sub hl [2, 3, 1, 0] rfl) hf
  obtain ⟨H, hH⟩ : ∃ H, H = s.heap := ⟨_, rfl⟩
  obtain ⟨locs, hlocs⟩ : ∃ locs : List Loc, locs = [] := ⟨_, rfl⟩
  have hP : va_P D pu_cl [(q_this, .inr (8, [.ref q_now, .ref q_disk, .ref q_before, .int v_onDisk, .int v_head, .int v_headPages, .int v_records, .ref q_recordPage, .ref q_recordBytes, .int v_up, .int v_armed, .int v_columns, .ref q_isBlob, .ref q_integer, .ref q_size, .ref q_blobs, .int v_length, .ref q_record, .int v_kind, .int v_cells, .int v_last, .ref q_cellLength, .ref q_row, .int v_made, .ref q_cell, .int v_deep, .ref q_way, .ref q_turn, .int v_at, .int v_bad, .ref q_used])), (q_cellLength, .inl (cI, 80, .inl v_cellLength))] H := by rw [hH]; exact hP
  have hS : va_S A s.heap H locs := by rw [hH, hlocs]; exact hS
  have goal : W p l e rm_MD_start s m args below meth c H locs 0 0 Q (F0 m 0 ls []) := by
    clear hH hlocs
    refine lv_iconst (v := 0) hx hb d_MD_start_0 rfl ?_
    refine lv_istore_n hx hb d_MD_start_1 rfl hl (by decide) rfl (fun ls hl => ?_)
    have hl : lv_has ls 4 [(2, .int (0 : Int32)), (0, .ref q_this), (1, .int x_1)] := hl
    refine lv_iconst (v := 0) hx hb d_MD_start_2 rfl ?_
    refine lv_istore_n hx hb d_MD_start_3 rfl hl (by decide) rfl (fun ls hl => ?_)
    have hl : lv_has ls 4 [(3, .int (0 : Int32)), (2, .int (0 : Int32)), (0, .ref q_this), (1, .int x_1)] := hl
    exact lp_4 x_1 _ (0 : Int32) (0 : Int32) H locs ls hP hD hS (lv_sub hl [2, 3, 1, 0] rfl) hf
  rw [hH, hlocs] at goal
  exact goal
theorem d_MD_erase_0 : decode b_MD_erase 0 = .ok (.bipush 64, 2) := by decide +kernel
theorem d_MD_erase_2 : decode b_MD_erase 2 = .ok (.iload_n 1, 1) := by decide +kernel
theorem d_MD_erase_3 : decode b_MD_erase 3 = .ok (.imul, 1) := by decide +kernel
theorem d_MD_erase_4 : decode b_MD_erase 4 = .ok (.istore_n 2, 1) := by decide +kernel
theorem d_MD_erase_5 : decode b_MD_erase 5 = .ok (.iload_n 2, 1) := by decide +kernel
theorem d_MD_erase_6 : decode b_MD_erase 6 = .ok (.bipush 64, 2) := by decide +kernel
theorem d_MD_erase_8 : decode b_MD_erase 8 = .ok (.iload_n 1, 1) := by decide +kernel
theorem d_MD_erase_9 : decode b_MD_erase 9 = .ok (.imul, 1) := by decide +kernel
theorem d_MD_erase_10 : decode b_MD_erase 10 = .ok (.bipush 64, 2) := by decide +kernel
theorem d_MD_erase_12 : decode b_MD_erase 12 = .ok (.iadd, 1) := by decide +kernel
theorem d_MD_erase_13 : decode b_MD_erase 13 = .ok (.if_icmp .ge 16, 3) := by decide +kernel
theorem d_MD_erase_16 : decode b_MD_erase 16 = .ok (.aload_n 0, 1) := by decide +kernel
theorem d_MD_erase_17 : decode b_MD_erase 17 = .ok (.getfield 7, 3) := by decide +kernel
theorem d_MD_erase_20 : decode b_MD_erase 20 = .ok (.iload_n 2, 1) := by decide +kernel
theorem d_MD_erase_21 : decode b_MD_erase 21 = .ok (.iconst 0, 1) := by decide +kernel
theorem d_MD_erase_22 : decode b_MD_erase 22 = .ok (.iastore, 1) := by decide +kernel
theorem d_MD_erase_23 : decode b_MD_erase 23 = .ok (.iinc 2 1, 3) := by decide +kernel
theorem d_MD_erase_26 : decode b_MD_erase 26 = .ok (.goto (-21), 3) := by decide +kernel
theorem d_MD_erase_29 : decode b_MD_erase 29 = .ok (.return_, 1) := by decide +kernel
noncomputable def q_MD_erase_5 (x_1 : Int32) : Nat → (Nat → Int32) → Int32 → Option ((Nat → Int32))
  | 0, _, _ => none
  | n + 1, v_now, x_2 => pu_br ((((64 : Int32) * x_1) + (64 : Int32)) ≤ x_2) (some v_now) (pu_ck (vp_in x_2 1600) (pu_nm (upd v_now x_2.toNatClampNeg (0 : Int32)) (fun a1 => pu_nm (x_2 + (1 : Int32)) (fun t2 => q_MD_erase_5 x_1 n a1 t2))))
noncomputable def f_MD_erase (v_now : Nat → Int32) (x_1 : Int32) : Option ((Nat → Int32)) :=
  q_MD_erase_5 x_1 pu_fu v_now ((64 : Int32) * x_1)
abbrev rm_MD_erase : Room := { frames := 0, cells := 0, slots := 0, locals := 0 }
set_option maxHeartbeats 8000000 in
set_option maxRecDepth 100000 in
theorem c_MD_erase (l : Launch) (D : va_G) (cI cJ cB cZ : ClassId) (sz : Nat) (q_this : Nat) (q_now : Nat) (q_disk : Nat) (q_before : Nat) (q_recordPage : Nat) (q_recordBytes : Nat) (q_isBlob : Nat) (q_integer : Nat) (q_size : Nat) (q_blobs : Nat) (q_record : Nat) (q_cellLength : Nat) (q_row : Nat) (q_cell : Nat) (q_way : Nat) (q_turn : Nat) (q_used : Nat) (v_onDisk : Int32) (v_head : Int32) (v_headPages : Int32) (v_records : Int32) (v_up : Int32) (v_armed : Int32) (v_columns : Int32) (v_length : Int32) (v_kind : Int32) (v_cells : Int32) (v_last : Int32) (v_made : Int32) (v_deep : Int32) (v_at : Int32) (v_bad : Int32) (v_now : Nat → Int32) (x_1 : Int32) (o_now : Nat → Int32) (hf : f_MD_erase v_now x_1 = some o_now) : Met l y_MD_erase (.code y_MD_erase b_MD_erase 3 none :: pu_wA) rm_MD_erase (pu_pc D pu_cl (pu_ty cI cJ cB cZ) [.ref q_this, .int x_1] [(q_this, .inr (8, [.ref q_now, .ref q_disk, .ref q_before, .int v_onDisk, .int v_head, .int v_headPages, .int v_records, .ref q_recordPage, .ref q_recordBytes, .int v_up, .int v_armed, .int v_columns, .ref q_isBlob, .ref q_integer, .ref q_size, .ref q_blobs, .int v_length, .ref q_record, .int v_kind, .int v_cells, .int v_last, .ref q_cellLength, .ref q_row, .int v_made, .ref q_cell, .int v_deep, .ref q_way, .ref q_turn, .int v_at, .int v_bad, .ref q_used])), (q_now, .inl (cI, 1600, .inl v_now))] sz) (pu_qv D pu_cl (pu_ty cI cJ cB cZ) [(q_this, .inr (8, [.ref q_now, .ref q_disk, .ref q_before, .int v_onDisk, .int v_head, .int v_headPages, .int v_records, .ref q_recordPage, .ref q_recordBytes, .int v_up, .int v_armed, .int v_columns, .ref q_isBlob, .ref q_integer, .ref q_size, .ref q_blobs, .int v_length, .ref q_record, .int v_kind, .int v_cells, .int v_last, .ref q_cellLength, .ref q_row, .int v_made, .ref q_cell, .int v_deep, .ref q_way, .ref q_turn, .int v_at, .int v_bad, .ref q_used])), (q_now, .inl (cI, 1600, .inl v_now))] [(q_this, .inr (8, [.ref q_now, .ref q_disk, .ref q_before, .int v_onDisk, .int v_head, .int v_headPages, .int v_records, .ref q_recordPage, .ref q_recordBytes, .int v_up, .int v_armed, .int v_columns, .ref q_isBlob, .ref q_integer, .ref q_size, .ref q_blobs, .int v_length, .ref q_record, .int v_kind, .int v_cells, .int v_last, .ref q_cellLength, .ref q_row, .int v_made, .ref q_cell, .int v_deep, .ref q_way, .ref q_turn, .int v_at, .int v_bad, .ref q_used])), (q_now, .inl (cI, 1600, .inl o_now))] sz) 0 0 (va_A [(q_this, .inr (8, [.ref q_now, .ref q_disk, .ref q_before, .int v_onDisk, .int v_head, .int v_headPages, .int v_records, .ref q_recordPage, .ref q_recordBytes, .int v_up, .int v_armed, .int v_columns, .ref q_isBlob, .ref q_integer, .ref q_size, .ref q_blobs, .int v_length, .ref q_record, .int v_kind, .int v_cells, .int v_last, .ref q_cellLength, .ref q_row, .int v_made, .ref q_cell, .int v_deep, .ref q_way, .ref q_turn, .int v_at, .int v_bad, .ref q_used])), (q_now, .inl (cI, 1600, .inl v_now))] sz) := by
  refine pu_mtv [.ref q_this, .int x_1] [(q_this, .inr (8, [.ref q_now, .ref q_disk, .ref q_before, .int v_onDisk, .int v_head, .int v_headPages, .int v_records, .ref q_recordPage, .ref q_recordBytes, .int v_up, .int v_armed, .int v_columns, .ref q_isBlob, .ref q_integer, .ref q_size, .ref q_blobs, .int v_length, .ref q_record, .int v_kind, .int v_cells, .int v_last, .ref q_cellLength, .ref q_row, .int v_made, .ref q_cell, .int v_deep, .ref q_way, .ref q_turn, .int v_at, .int v_bad, .ref q_used])), (q_now, .inl (cI, 1600, .inl v_now))] [(q_this, .inr (8, [.ref q_now, .ref q_disk, .ref q_before, .int v_onDisk, .int v_head, .int v_headPages, .int v_records, .ref q_recordPage, .ref q_recordBytes, .int v_up, .int v_armed, .int v_columns, .ref q_isBlob, .ref q_integer, .ref q_size, .ref q_blobs, .int v_length, .ref q_record, .int v_kind, .int v_cells, .int v_last, .ref q_cellLength, .ref q_row, .int v_made, .ref q_cell, .int v_deep, .ref q_way, .ref q_turn, .int v_at, .int v_bad, .ref q_used])), (q_now, .inl (cI, 1600, .inl o_now))] (by decide) (Nat.le_of_ble_eq_true rfl) ?_
  intro p e s m args below meth c A Q ls hx hb hml hts hN hown hK hA hP hD hl hret0
  have hS : va_S A s.heap s.heap [] := va_S.rf
  have hl : lv_has ls 3 [(0, .ref q_this), (1, .int x_1)] := hl
  have hret : ∀ (pc : Nat) (ls : Array Slot) (H : Heap) (locs : List Loc) (y_0 : Nat → Int32), decode b_MD_erase pc = .ok (.return_, 1) → va_P D pu_cl [(q_this, .inr (8, [.ref q_now, .ref q_disk, .ref q_before, .int v_onDisk, .int v_head, .int v_headPages, .int v_records, .ref q_recordPage, .ref q_recordBytes, .int v_up, .int v_armed, .int v_columns, .ref q_isBlob, .ref q_integer, .ref q_size, .ref q_blobs, .int v_length, .ref q_record, .int v_kind, .int v_cells, .int v_last, .ref q_cellLength, .ref q_row, .int v_made, .ref q_cell, .int v_deep, .ref q_way, .ref q_turn, .int v_at, .int v_bad, .ref q_used])), (q_now, .inl (cI, 1600, .inl y_0))] H → va_D A [(q_this, .inr (8, [.ref q_now, .ref q_disk, .ref q_before, .int v_onDisk, .int v_head, .int v_headPages, .int v_records, .ref q_recordPage, .ref q_recordBytes, .int v_up, .int v_armed, .int v_columns, .ref q_isBlob, .ref q_integer, .ref q_size, .ref q_blobs, .int v_length, .ref q_record, .int v_kind, .int v_cells, .int v_last, .ref q_cellLength, .ref q_row, .int v_made, .ref q_cell, .int v_deep, .ref q_way, .ref q_turn, .int v_at, .int v_bad, .ref q_used])), (q_now, .inl (cI, 1600, .inl y_0))] → va_S A s.heap H locs → some y_0 = some o_now → W p l e rm_MD_erase s m args below meth c H locs 0 0 Q (F0 m pc ls []) := by
    intro pc ls H locs y_0 hd hP hD hS hf
    cases hf
    exact hret0 pc ls H locs hd hP hD hS
  clear hret0
  unfold f_MD_erase at hf
  skip
  have lp_5 : ∀ (x_1 : Int32) (n5 : Nat) (v_now : Nat → Int32) (x_2 : Int32) (H : Heap) (locs : List Loc) (ls : Array Slot), va_P D pu_cl [(q_this, .inr (8, [.ref q_now, .ref q_disk, .ref q_before, .int v_onDisk, .int v_head, .int v_headPages, .int v_records, .ref q_recordPage, .ref q_recordBytes, .int v_up, .int v_armed, .int v_columns, .ref q_isBlob, .ref q_integer, .ref q_size, .ref q_blobs, .int v_length, .ref q_record, .int v_kind, .int v_cells, .int v_last, .ref q_cellLength, .ref q_row, .int v_made, .ref q_cell, .int v_deep, .ref q_way, .ref q_turn, .int v_at, .int v_bad, .ref q_used])), (q_now, .inl (cI, 1600, .inl v_now))] H → va_D A [(q_this, .inr (8, [.ref q_now, .ref q_disk, .ref q_before, .int v_onDisk, .int v_head, .int v_headPages, .int v_records, .ref q_recordPage, .ref q_recordBytes, .int v_up, .int v_armed, .int v_columns, .ref q_isBlob, .ref q_integer, .ref q_size, .ref q_blobs, .int v_length, .ref q_record, .int v_kind, .int v_cells, .int v_last, .ref q_cellLength, .ref q_row, .int v_made, .ref q_cell, .int v_deep, .ref q_way, .ref q_turn, .int v_at, .int v_bad, .ref q_used])), (q_now, .inl (cI, 1600, .inl v_now))] → va_S A s.heap H locs → lv_has ls 3 [(0, .ref q_this), (1, .int x_1), (2, .int x_2)] → q_MD_erase_5 x_1 n5 v_now x_2 = some o_now → W p l e rm_MD_erase s m args below meth c H locs 0 0 Q (F0 m 5 ls []) := by
    intro x_1 n5
    induction n5 with
    | zero =>
      intro v_now x_2 H locs ls hP hD hS hl hf
      rw [q_MD_erase_5] at hf
      cases hf
    | succ n5 ih_5 =>
      intro v_now x_2 H locs ls hP hD hS hl hf
      rw [q_MD_erase_5] at hf
      refine lv_iload_n hx hb d_MD_erase_5 rfl (lv_at hl 2 rfl) ?_
      refine lv_bipush (v := 64) hx hb d_MD_erase_6 rfl ?_
      refine lv_iload_n hx hb d_MD_erase_8 rfl (lv_at hl 1 rfl) ?_
      refine lv_imul hx hb d_MD_erase_9 ?_
      refine lv_bipush (v := 64) hx hb d_MD_erase_10 rfl ?_
      refine lv_iadd hx hb d_MD_erase_12 ?_
      refine lv_icmp_ge (tgt := 29) hx hb d_MD_erase_13 rfl (fun hc => ?_) (fun hc => ?_)
      · have hf := pu_br_pos hf hc
        exact hret _ _ _ _ v_now d_MD_erase_29 hP hD hS hf
      have hf := pu_br_neg hf hc
      refine lv_aload_n hx hb d_MD_erase_16 rfl (lv_at hl 0 rfl) ?_
      refine gf_MD_7 (v := .ref q_now) hx hb hts hN hown hK hP 0 rfl rfl d_MD_erase_17 ?_
      refine lv_iload_n hx hb d_MD_erase_20 rfl (lv_at hl 2 rfl) ?_
      refine lv_iconst (v := 0) hx hb d_MD_erase_21 rfl ?_
      obtain ⟨hin, hf⟩ := pu_ck_some hf
      obtain ⟨a1, e_a1, hf⟩ := pu_nm_some hf
      refine va_iast hx hb hK hP hD hS 1 0 rfl rfl hin d_MD_erase_22 (fun H locs hP hD hS => ?_)
      have hP : va_P D pu_cl [(q_this, .inr (8, [.ref q_now, .ref q_disk, .ref q_before, .int v_onDisk, .int v_head, .int v_headPages, .int v_records, .ref q_recordPage, .ref q_recordBytes, .int v_up, .int v_armed, .int v_columns, .ref q_isBlob, .ref q_integer, .ref q_size, .ref q_blobs, .int v_length, .ref q_record, .int v_kind, .int v_cells, .int v_last, .ref q_cellLength, .ref q_row, .int v_made, .ref q_cell, .int v_deep, .ref q_way, .ref q_turn, .int v_at, .int v_bad, .ref q_used])), (q_now, .inl (cI, 1600, .inl a1))] H := by rw [e_a1]; exact hP
      have hD : va_D A [(q_this, .inr (8, [.ref q_now, .ref q_disk, .ref q_before, .int v_onDisk, .int v_head, .int v_headPages, .int v_records, .ref q_recordPage, .ref q_recordBytes, .int v_up, .int v_armed, .int v_columns, .ref q_isBlob, .ref q_integer, .ref q_size, .ref q_blobs, .int v_length, .ref q_record, .int v_kind, .int v_cells, .int v_last, .ref q_cellLength, .ref q_row, .int v_made, .ref q_cell, .int v_deep, .ref q_way, .ref q_turn, .int v_at, .int v_bad, .ref q_used])), (q_now, .inl (cI, 1600, .inl a1))] := by rw [e_a1]; exact hD
      obtain ⟨t2, e_t2, hf⟩ := pu_nm_some hf
      refine lv_iinc (k := 2) (v := t2) hx hb d_MD_erase_23 hl rfl e_t2.symm (by decide) rfl (fun ls hl => ?_)
      have hl : lv_has ls 3 [(2, .int t2), (0, .ref q_this), (1, .int x_1)] := hl
      refine lv_goto (tgt := 5) hx hb d_MD_erase_26 rfl ?_
      exact ih_5 a1 t2 H locs ls hP hD hS (lv_sub hl [1, 2, 0] rfl) hf
  obtain ⟨H, hH⟩ : ∃ H, H = s.heap := ⟨_, rfl⟩
  obtain ⟨locs, hlocs⟩ : ∃ locs : List Loc, locs = [] := ⟨_, rfl⟩
  have hP : va_P D pu_cl [(q_this, .inr (8, [.ref q_now, .ref q_disk, .ref q_before, .int v_onDisk, .int v_head, .int v_headPages, .int v_records, .ref q_recordPage, .ref q_recordBytes, .int v_up, .int v_armed, .int v_columns, .ref q_isBlob, .ref q_integer, .ref q_size, .ref q_blobs, .int v_length, .ref q_record, .int v_kind, .int v_cells, .int v_last, .ref q_cellLength, .ref q_row, .int v_made, .ref q_cell, .int v_deep, .ref q_way, .ref q_turn, .int v_at, .int v_bad, .ref q_used])), (q_now, .inl (cI, 1600, .inl v_now))] H := by rw [hH]; exact hP
  have hS : va_S A s.heap H locs := by rw [hH, hlocs]; exact hS
  have goal : W p l e rm_MD_erase s m args below meth c H locs 0 0 Q (F0 m 0 ls []) := by
    clear hH hlocs
    refine lv_bipush (v := 64) hx hb d_MD_erase_0 rfl ?_
    refine lv_iload_n hx hb d_MD_erase_2 rfl (lv_at hl 1 rfl) ?_
    refine lv_imul hx hb d_MD_erase_3 ?_
    refine lv_istore_n hx hb d_MD_erase_4 rfl hl (by decide) rfl (fun ls hl => ?_)
    have hl : lv_has ls 3 [(2, .int ((64 : Int32) * x_1)), (0, .ref q_this), (1, .int x_1)] := hl
    exact lp_5 x_1 _ v_now ((64 : Int32) * x_1) H locs ls hP hD hS (lv_sub hl [1, 2, 0] rfl) hf
  rw [hH, hlocs] at goal
  exact goal
theorem d_MD_put_0 : decode b_MD_put 0 = .ok (.aload_n 0, 1) := by decide +kernel
theorem d_MD_put_1 : decode b_MD_put 1 = .ok (.iload_n 1, 1) := by decide +kernel
theorem d_MD_put_2 : decode b_MD_put 2 = .ok (.invokevirtual 119, 3) := by decide +kernel
theorem d_MD_put_5 : decode b_MD_put 5 = .ok (.aload_n 0, 1) := by decide +kernel
theorem d_MD_put_6 : decode b_MD_put 6 = .ok (.getfield 7, 3) := by decide +kernel
theorem d_MD_put_9 : decode b_MD_put 9 = .ok (.bipush 64, 2) := by decide +kernel
theorem d_MD_put_11 : decode b_MD_put 11 = .ok (.iload_n 1, 1) := by decide +kernel
theorem d_MD_put_12 : decode b_MD_put 12 = .ok (.imul, 1) := by decide +kernel
theorem d_MD_put_13 : decode b_MD_put 13 = .ok (.aload_n 0, 1) := by decide +kernel
theorem d_MD_put_14 : decode b_MD_put 14 = .ok (.getfield 106, 3) := by decide +kernel
theorem d_MD_put_17 : decode b_MD_put 17 = .ok (.iastore, 1) := by decide +kernel
theorem d_MD_put_18 : decode b_MD_put 18 = .ok (.aload_n 0, 1) := by decide +kernel
theorem d_MD_put_19 : decode b_MD_put 19 = .ok (.getfield 7, 3) := by decide +kernel
theorem d_MD_put_22 : decode b_MD_put 22 = .ok (.bipush 64, 2) := by decide +kernel
theorem d_MD_put_24 : decode b_MD_put 24 = .ok (.iload_n 1, 1) := by decide +kernel
theorem d_MD_put_25 : decode b_MD_put 25 = .ok (.imul, 1) := by decide +kernel
theorem d_MD_put_26 : decode b_MD_put 26 = .ok (.iconst 1, 1) := by decide +kernel
theorem d_MD_put_27 : decode b_MD_put 27 = .ok (.iadd, 1) := by decide +kernel
theorem d_MD_put_28 : decode b_MD_put 28 = .ok (.iload_n 3, 1) := by decide +kernel
theorem d_MD_put_29 : decode b_MD_put 29 = .ok (.iastore, 1) := by decide +kernel
theorem d_MD_put_30 : decode b_MD_put 30 = .ok (.aload_n 0, 1) := by decide +kernel
theorem d_MD_put_31 : decode b_MD_put 31 = .ok (.getfield 7, 3) := by decide +kernel
theorem d_MD_put_34 : decode b_MD_put 34 = .ok (.bipush 64, 2) := by decide +kernel
theorem d_MD_put_36 : decode b_MD_put 36 = .ok (.iload_n 1, 1) := by decide +kernel
theorem d_MD_put_37 : decode b_MD_put 37 = .ok (.imul, 1) := by decide +kernel
theorem d_MD_put_38 : decode b_MD_put 38 = .ok (.iconst 2, 1) := by decide +kernel
theorem d_MD_put_39 : decode b_MD_put 39 = .ok (.iadd, 1) := by decide +kernel
theorem d_MD_put_40 : decode b_MD_put 40 = .ok (.iload 4, 2) := by decide +kernel
theorem d_MD_put_42 : decode b_MD_put 42 = .ok (.iastore, 1) := by decide +kernel
theorem d_MD_put_43 : decode b_MD_put 43 = .ok (.bipush 64, 2) := by decide +kernel
theorem d_MD_put_45 : decode b_MD_put 45 = .ok (.istore 5, 2) := by decide +kernel
theorem d_MD_put_47 : decode b_MD_put 47 = .ok (.iconst 0, 1) := by decide +kernel
theorem d_MD_put_48 : decode b_MD_put 48 = .ok (.istore 6, 2) := by decide +kernel
theorem d_MD_put_50 : decode b_MD_put 50 = .ok (.iload 6, 2) := by decide +kernel
theorem d_MD_put_52 : decode b_MD_put 52 = .ok (.iload_n 3, 1) := by decide +kernel
theorem d_MD_put_53 : decode b_MD_put 53 = .ok (.if_icmp .ge 93, 3) := by decide +kernel
theorem d_MD_put_56 : decode b_MD_put 56 = .ok (.iload 5, 2) := by decide +kernel
theorem d_MD_put_58 : decode b_MD_put 58 = .ok (.aload_n 0, 1) := by decide +kernel
theorem d_MD_put_59 : decode b_MD_put 59 = .ok (.getfield 53, 3) := by decide +kernel
theorem d_MD_put_62 : decode b_MD_put 62 = .ok (.iload_n 2, 1) := by decide +kernel
theorem d_MD_put_63 : decode b_MD_put 63 = .ok (.iload 6, 2) := by decide +kernel
theorem d_MD_put_65 : decode b_MD_put 65 = .ok (.iadd, 1) := by decide +kernel
theorem d_MD_put_66 : decode b_MD_put 66 = .ok (.iaload, 1) := by decide +kernel
theorem d_MD_put_67 : decode b_MD_put 67 = .ok (.isub, 1) := by decide +kernel
theorem d_MD_put_68 : decode b_MD_put 68 = .ok (.istore 5, 2) := by decide +kernel
theorem d_MD_put_70 : decode b_MD_put 70 = .ok (.aload_n 0, 1) := by decide +kernel
theorem d_MD_put_71 : decode b_MD_put 71 = .ok (.getfield 7, 3) := by decide +kernel
theorem d_MD_put_74 : decode b_MD_put 74 = .ok (.bipush 64, 2) := by decide +kernel
theorem d_MD_put_76 : decode b_MD_put 76 = .ok (.iload_n 1, 1) := by decide +kernel
theorem d_MD_put_77 : decode b_MD_put 77 = .ok (.imul, 1) := by decide +kernel
theorem d_MD_put_78 : decode b_MD_put 78 = .ok (.iconst 4, 1) := by decide +kernel
theorem d_MD_put_79 : decode b_MD_put 79 = .ok (.iadd, 1) := by decide +kernel
theorem d_MD_put_80 : decode b_MD_put 80 = .ok (.iload 6, 2) := by decide +kernel
theorem d_MD_put_82 : decode b_MD_put 82 = .ok (.iadd, 1) := by decide +kernel
theorem d_MD_put_83 : decode b_MD_put 83 = .ok (.iload 5, 2) := by decide +kernel
theorem d_MD_put_85 : decode b_MD_put 85 = .ok (.iastore, 1) := by decide +kernel
theorem d_MD_put_86 : decode b_MD_put 86 = .ok (.iconst 0, 1) := by decide +kernel
theorem d_MD_put_87 : decode b_MD_put 87 = .ok (.istore 7, 2) := by decide +kernel
theorem d_MD_put_89 : decode b_MD_put 89 = .ok (.iload 7, 2) := by decide +kernel
theorem d_MD_put_91 : decode b_MD_put 91 = .ok (.aload_n 0, 1) := by decide +kernel
theorem d_MD_put_92 : decode b_MD_put 92 = .ok (.getfield 53, 3) := by decide +kernel
theorem d_MD_put_95 : decode b_MD_put 95 = .ok (.iload_n 2, 1) := by decide +kernel
theorem d_MD_put_96 : decode b_MD_put 96 = .ok (.iload 6, 2) := by decide +kernel
theorem d_MD_put_98 : decode b_MD_put 98 = .ok (.iadd, 1) := by decide +kernel
theorem d_MD_put_99 : decode b_MD_put 99 = .ok (.iaload, 1) := by decide +kernel
theorem d_MD_put_100 : decode b_MD_put 100 = .ok (.if_icmp .ge 40, 3) := by decide +kernel
theorem d_MD_put_103 : decode b_MD_put 103 = .ok (.aload_n 0, 1) := by decide +kernel
theorem d_MD_put_104 : decode b_MD_put 104 = .ok (.getfield 7, 3) := by decide +kernel
theorem d_MD_put_107 : decode b_MD_put 107 = .ok (.bipush 64, 2) := by decide +kernel
theorem d_MD_put_109 : decode b_MD_put 109 = .ok (.iload_n 1, 1) := by decide +kernel
theorem d_MD_put_110 : decode b_MD_put 110 = .ok (.imul, 1) := by decide +kernel
theorem d_MD_put_111 : decode b_MD_put 111 = .ok (.iload 5, 2) := by decide +kernel
theorem d_MD_put_113 : decode b_MD_put 113 = .ok (.iadd, 1) := by decide +kernel
theorem d_MD_put_114 : decode b_MD_put 114 = .ok (.iload 7, 2) := by decide +kernel
theorem d_MD_put_116 : decode b_MD_put 116 = .ok (.iadd, 1) := by decide +kernel
theorem d_MD_put_117 : decode b_MD_put 117 = .ok (.aload_n 0, 1) := by decide +kernel
theorem d_MD_put_118 : decode b_MD_put 118 = .ok (.getfield 56, 3) := by decide +kernel
theorem d_MD_put_121 : decode b_MD_put 121 = .ok (.aload_n 0, 1) := by decide +kernel
theorem d_MD_put_122 : decode b_MD_put 122 = .ok (.iload_n 2, 1) := by decide +kernel
theorem d_MD_put_123 : decode b_MD_put 123 = .ok (.iload 6, 2) := by decide +kernel
theorem d_MD_put_125 : decode b_MD_put 125 = .ok (.iadd, 1) := by decide +kernel
theorem d_MD_put_126 : decode b_MD_put 126 = .ok (.invokevirtual 123, 3) := by decide +kernel
theorem d_MD_put_129 : decode b_MD_put 129 = .ok (.iload 7, 2) := by decide +kernel
theorem d_MD_put_131 : decode b_MD_put 131 = .ok (.iadd, 1) := by decide +kernel
theorem d_MD_put_132 : decode b_MD_put 132 = .ok (.iaload, 1) := by decide +kernel
theorem d_MD_put_133 : decode b_MD_put 133 = .ok (.iastore, 1) := by decide +kernel
theorem d_MD_put_134 : decode b_MD_put 134 = .ok (.iinc 7 1, 3) := by decide +kernel
theorem d_MD_put_137 : decode b_MD_put 137 = .ok (.goto (-48), 3) := by decide +kernel
theorem d_MD_put_140 : decode b_MD_put 140 = .ok (.iinc 6 1, 3) := by decide +kernel
theorem d_MD_put_143 : decode b_MD_put 143 = .ok (.goto (-93), 3) := by decide +kernel
theorem d_MD_put_146 : decode b_MD_put 146 = .ok (.return_, 1) := by decide +kernel
noncomputable def q_MD_put_140 (kb : (Nat → Int32) → Int32 → Int32 → Option ((Nat → Int32))) (v_kind : Int32) (v_cellLength : Nat → Int32) (v_row : Nat → Int32) (v_now : Nat → Int32) (x_1 : Int32) (x_2 : Int32) (x_3 : Int32) (x_5 : Int32) (x_6 : Int32) : Option ((Nat → Int32)) :=
  pu_nm (x_6 + (1 : Int32)) (fun t8 => kb v_now x_5 t8)
noncomputable def q_MD_put_89 (kx_140 : (Nat → Int32) → Option ((Nat → Int32))) (v_kind : Int32) (v_cellLength : Nat → Int32) (v_row : Nat → Int32) (x_1 : Int32) (x_2 : Int32) (x_3 : Int32) (x_5 : Int32) (x_6 : Int32) : Nat → (Nat → Int32) → Int32 → Option ((Nat → Int32))
  | 0, _, _ => none
  | n + 1, v_now, x_7 => pu_ck (vp_in (x_2 + x_6) 80) (pu_br ((v_cellLength (x_2 + x_6).toNatClampNeg) ≤ x_7) (kx_140 v_now) (pu_b1 (f_MD_start v_cellLength (x_2 + x_6)) (fun r9 => pu_ck (vp_in (r9 + x_7) 2000) (pu_ck (vp_in ((((64 : Int32) * x_1) + x_5) + x_7) 1600) (pu_nm (upd v_now ((((64 : Int32) * x_1) + x_5) + x_7).toNatClampNeg (v_row (r9 + x_7).toNatClampNeg)) (fun a10 => pu_nm (x_7 + (1 : Int32)) (fun t11 => q_MD_put_89 kx_140 v_kind v_cellLength v_row x_1 x_2 x_3 x_5 x_6 n a10 t11)))))))
noncomputable def q_MD_put_50 (v_kind : Int32) (v_cellLength : Nat → Int32) (v_row : Nat → Int32) (x_1 : Int32) (x_2 : Int32) (x_3 : Int32) : Nat → (Nat → Int32) → Int32 → Int32 → Option ((Nat → Int32))
  | 0, _, _, _ => none
  | n + 1, v_now, x_5, x_6 => pu_br (x_3 ≤ x_6) (some v_now) (pu_ck (vp_in (x_2 + x_6) 80) (pu_nm (x_5 - (v_cellLength (x_2 + x_6).toNatClampNeg)) (fun t6 => pu_ck (vp_in ((((64 : Int32) * x_1) + (4 : Int32)) + x_6) 1600) (pu_nm (upd v_now ((((64 : Int32) * x_1) + (4 : Int32)) + x_6).toNatClampNeg t6) (fun a7 => q_MD_put_89 (fun v_now => q_MD_put_140 (q_MD_put_50 v_kind v_cellLength v_row x_1 x_2 x_3 n) v_kind v_cellLength v_row v_now x_1 x_2 x_3 t6 x_6) v_kind v_cellLength v_row x_1 x_2 x_3 t6 x_6 pu_fu a7 (0 : Int32))))))
noncomputable def f_MD_put (v_kind : Int32) (v_cellLength : Nat → Int32) (v_row : Nat → Int32) (v_now : Nat → Int32) (x_1 : Int32) (x_2 : Int32) (x_3 : Int32) (x_4 : Int32) : Option ((Nat → Int32)) :=
  pu_b1 (f_MD_erase v_now x_1) (fun w2 => pu_ck (vp_in ((64 : Int32) * x_1) 1600) (pu_nm (upd w2 ((64 : Int32) * x_1).toNatClampNeg v_kind) (fun a3 => pu_ck (vp_in (((64 : Int32) * x_1) + (1 : Int32)) 1600) (pu_nm (upd a3 (((64 : Int32) * x_1) + (1 : Int32)).toNatClampNeg x_3) (fun a4 => pu_ck (vp_in (((64 : Int32) * x_1) + (2 : Int32)) 1600) (pu_nm (upd a4 (((64 : Int32) * x_1) + (2 : Int32)).toNatClampNeg x_4) (fun a5 => q_MD_put_50 v_kind v_cellLength v_row x_1 x_2 x_3 pu_fu a5 (64 : Int32) (0 : Int32))))))))
abbrev rm_MD_put : Room := { frames := 1, cells := 0, slots := 0, locals := 23 }
set_option maxHeartbeats 8000000 in
set_option maxRecDepth 100000 in
theorem c_MD_put (l : Launch) (D : va_G) (cI cJ cB cZ : ClassId) (sz : Nat) (q_this : Nat) (q_now : Nat) (q_disk : Nat) (q_before : Nat) (q_recordPage : Nat) (q_recordBytes : Nat) (q_isBlob : Nat) (q_integer : Nat) (q_size : Nat) (q_blobs : Nat) (q_record : Nat) (q_cellLength : Nat) (q_row : Nat) (q_cell : Nat) (q_way : Nat) (q_turn : Nat) (q_used : Nat) (v_onDisk : Int32) (v_head : Int32) (v_headPages : Int32) (v_records : Int32) (v_up : Int32) (v_armed : Int32) (v_columns : Int32) (v_length : Int32) (v_kind : Int32) (v_cells : Int32) (v_last : Int32) (v_made : Int32) (v_deep : Int32) (v_at : Int32) (v_bad : Int32) (v_now : Nat → Int32) (v_cellLength : Nat → Int32) (v_row : Nat → Int32) (x_1 : Int32) (x_2 : Int32) (x_3 : Int32) (x_4 : Int32) (o_now : Nat → Int32) (hf : f_MD_put v_kind v_cellLength v_row v_now x_1 x_2 x_3 x_4 = some o_now) : Met l y_MD_put (.code y_MD_put b_MD_put 8 none :: pu_wA) rm_MD_put (pu_pc D pu_cl (pu_ty cI cJ cB cZ) [.ref q_this, .int x_1, .int x_2, .int x_3, .int x_4] [(q_this, .inr (8, [.ref q_now, .ref q_disk, .ref q_before, .int v_onDisk, .int v_head, .int v_headPages, .int v_records, .ref q_recordPage, .ref q_recordBytes, .int v_up, .int v_armed, .int v_columns, .ref q_isBlob, .ref q_integer, .ref q_size, .ref q_blobs, .int v_length, .ref q_record, .int v_kind, .int v_cells, .int v_last, .ref q_cellLength, .ref q_row, .int v_made, .ref q_cell, .int v_deep, .ref q_way, .ref q_turn, .int v_at, .int v_bad, .ref q_used])), (q_now, .inl (cI, 1600, .inl v_now)), (q_cellLength, .inl (cI, 80, .inl v_cellLength)), (q_row, .inl (cI, 2000, .inl v_row))] sz) (pu_qv D pu_cl (pu_ty cI cJ cB cZ) [(q_this, .inr (8, [.ref q_now, .ref q_disk, .ref q_before, .int v_onDisk, .int v_head, .int v_headPages, .int v_records, .ref q_recordPage, .ref q_recordBytes, .int v_up, .int v_armed, .int v_columns, .ref q_isBlob, .ref q_integer, .ref q_size, .ref q_blobs, .int v_length, .ref q_record, .int v_kind, .int v_cells, .int v_last, .ref q_cellLength, .ref q_row, .int v_made, .ref q_cell, .int v_deep, .ref q_way, .ref q_turn, .int v_at, .int v_bad, .ref q_used])), (q_now, .inl (cI, 1600, .inl v_now)), (q_cellLength, .inl (cI, 80, .inl v_cellLength)), (q_row, .inl (cI, 2000, .inl v_row))] [(q_this, .inr (8, [.ref q_now, .ref q_disk, .ref q_before, .int v_onDisk, .int v_head, .int v_headPages, .int v_records, .ref q_recordPage, .ref q_recordBytes, .int v_up, .int v_armed, .int v_columns, .ref q_isBlob, .ref q_integer, .ref q_size, .ref q_blobs, .int v_length, .ref q_record, .int v_kind, .int v_cells, .int v_last, .ref q_cellLength, .ref q_row, .int v_made, .ref q_cell, .int v_deep, .ref q_way, .ref q_turn, .int v_at, .int v_bad, .ref q_used])), (q_now, .inl (cI, 1600, .inl o_now)), (q_cellLength, .inl (cI, 80, .inl v_cellLength)), (q_row, .inl (cI, 2000, .inl v_row))] sz) 0 0 (va_A [(q_this, .inr (8, [.ref q_now, .ref q_disk, .ref q_before, .int v_onDisk, .int v_head, .int v_headPages, .int v_records, .ref q_recordPage, .ref q_recordBytes, .int v_up, .int v_armed, .int v_columns, .ref q_isBlob, .ref q_integer, .ref q_size, .ref q_blobs, .int v_length, .ref q_record, .int v_kind, .int v_cells, .int v_last, .ref q_cellLength, .ref q_row, .int v_made, .ref q_cell, .int v_deep, .ref q_way, .ref q_turn, .int v_at, .int v_bad, .ref q_used])), (q_now, .inl (cI, 1600, .inl v_now)), (q_cellLength, .inl (cI, 80, .inl v_cellLength)), (q_row, .inl (cI, 2000, .inl v_row))] sz) := by
  refine pu_mtv [.ref q_this, .int x_1, .int x_2, .int x_3, .int x_4] [(q_this, .inr (8, [.ref q_now, .ref q_disk, .ref q_before, .int v_onDisk, .int v_head, .int v_headPages, .int v_records, .ref q_recordPage, .ref q_recordBytes, .int v_up, .int v_armed, .int v_columns, .ref q_isBlob, .ref q_integer, .ref q_size, .ref q_blobs, .int v_length, .ref q_record, .int v_kind, .int v_cells, .int v_last, .ref q_cellLength, .ref q_row, .int v_made, .ref q_cell, .int v_deep, .ref q_way, .ref q_turn, .int v_at, .int v_bad, .ref q_used])), (q_now, .inl (cI, 1600, .inl v_now)), (q_cellLength, .inl (cI, 80, .inl v_cellLength)), (q_row, .inl (cI, 2000, .inl v_row))] [(q_this, .inr (8, [.ref q_now, .ref q_disk, .ref q_before, .int v_onDisk, .int v_head, .int v_headPages, .int v_records, .ref q_recordPage, .ref q_recordBytes, .int v_up, .int v_armed, .int v_columns, .ref q_isBlob, .ref q_integer, .ref q_size, .ref q_blobs, .int v_length, .ref q_record, .int v_kind, .int v_cells, .int v_last, .ref q_cellLength, .ref q_row, .int v_made, .ref q_cell, .int v_deep, .ref q_way, .ref q_turn, .int v_at, .int v_bad, .ref q_used])), (q_now, .inl (cI, 1600, .inl o_now)), (q_cellLength, .inl (cI, 80, .inl v_cellLength)), (q_row, .inl (cI, 2000, .inl v_row))] (by decide) (Nat.le_of_ble_eq_true rfl) ?_
  intro p e s m args below meth c A Q ls hx hb hml hts hN hown hK hA hP hD hl hret0
  have hS : va_S A s.heap s.heap [] := va_S.rf
  have hl : lv_has ls 8 [(0, .ref q_this), (1, .int x_1), (2, .int x_2), (3, .int x_3), (4, .int x_4)] := hl
  have hret : ∀ (pc : Nat) (ls : Array Slot) (H : Heap) (locs : List Loc) (y_0 : Nat → Int32), decode b_MD_put pc = .ok (.return_, 1) → va_P D pu_cl [(q_this, .inr (8, [.ref q_now, .ref q_disk, .ref q_before, .int v_onDisk, .int v_head, .int v_headPages, .int v_records, .ref q_recordPage, .ref q_recordBytes, .int v_up, .int v_armed, .int v_columns, .ref q_isBlob, .ref q_integer, .ref q_size, .ref q_blobs, .int v_length, .ref q_record, .int v_kind, .int v_cells, .int v_last, .ref q_cellLength, .ref q_row, .int v_made, .ref q_cell, .int v_deep, .ref q_way, .ref q_turn, .int v_at, .int v_bad, .ref q_used])), (q_now, .inl (cI, 1600, .inl y_0)), (q_cellLength, .inl (cI, 80, .inl v_cellLength)), (q_row, .inl (cI, 2000, .inl v_row))] H → va_D A [(q_this, .inr (8, [.ref q_now, .ref q_disk, .ref q_before, .int v_onDisk, .int v_head, .int v_headPages, .int v_records, .ref q_recordPage, .ref q_recordBytes, .int v_up, .int v_armed, .int v_columns, .ref q_isBlob, .ref q_integer, .ref q_size, .ref q_blobs, .int v_length, .ref q_record, .int v_kind, .int v_cells, .int v_last, .ref q_cellLength, .ref q_row, .int v_made, .ref q_cell, .int v_deep, .ref q_way, .ref q_turn, .int v_at, .int v_bad, .ref q_used])), (q_now, .inl (cI, 1600, .inl y_0)), (q_cellLength, .inl (cI, 80, .inl v_cellLength)), (q_row, .inl (cI, 2000, .inl v_row))] → va_S A s.heap H locs → some y_0 = some o_now → W p l e rm_MD_put s m args below meth c H locs 0 0 Q (F0 m pc ls []) := by
    intro pc ls H locs y_0 hd hP hD hS hf
    cases hf
    exact hret0 pc ls H locs hd hP hD hS
  clear hret0
  unfold f_MD_put at hf
  skip
  have lp_50 : ∀ (x_1 : Int32) (x_2 : Int32) (x_3 : Int32) (n50 : Nat) (v_now : Nat → Int32) (x_5 : Int32) (x_6 : Int32) (H : Heap) (locs : List Loc) (ls : Array Slot), va_P D pu_cl [(q_this, .inr (8, [.ref q_now, .ref q_disk, .ref q_before, .int v_onDisk, .int v_head, .int v_headPages, .int v_records, .ref q_recordPage, .ref q_recordBytes, .int v_up, .int v_armed, .int v_columns, .ref q_isBlob, .ref q_integer, .ref q_size, .ref q_blobs, .int v_length, .ref q_record, .int v_kind, .int v_cells, .int v_last, .ref q_cellLength, .ref q_row, .int v_made, .ref q_cell, .int v_deep, .ref q_way, .ref q_turn, .int v_at, .int v_bad, .ref q_used])), (q_now, .inl (cI, 1600, .inl v_now)), (q_cellLength, .inl (cI, 80, .inl v_cellLength)), (q_row, .inl (cI, 2000, .inl v_row))] H → va_D A [(q_this, .inr (8, [.ref q_now, .ref q_disk, .ref q_before, .int v_onDisk, .int v_head, .int v_headPages, .int v_records, .ref q_recordPage, .ref q_recordBytes, .int v_up, .int v_armed, .int v_columns, .ref q_isBlob, .ref q_integer, .ref q_size, .ref q_blobs, .int v_length, .ref q_record, .int v_kind, .int v_cells, .int v_last, .ref q_cellLength, .ref q_row, .int v_made, .ref q_cell, .int v_deep, .ref q_way, .ref q_turn, .int v_at, .int v_bad, .ref q_used])), (q_now, .inl (cI, 1600, .inl v_now)), (q_cellLength, .inl (cI, 80, .inl v_cellLength)), (q_row, .inl (cI, 2000, .inl v_row))] → va_S A s.heap H locs → lv_has ls 8 [(0, .ref q_this), (1, .int x_1), (2, .int x_2), (3, .int x_3), (5, .int x_5), (6, .int x_6)] → q_MD_put_50 v_kind v_cellLength v_row x_1 x_2 x_3 n50 v_now x_5 x_6 = some o_now → W p l e rm_MD_put s m args below meth c H locs 0 0 Q (F0 m 50 ls []) := by
    intro x_1 x_2 x_3 n50
    induction n50 with
    | zero =>
      intro v_now x_5 x_6 H locs ls hP hD hS hl hf
      rw [q_MD_put_50] at hf
      cases hf
    | succ n50 ih_50 =>
      have lb_140 : ∀ (v_now : Nat → Int32) (x_5 : Int32) (x_6 : Int32) (H : Heap) (locs : List Loc) (ls : Array Slot), va_P D pu_cl [(q_this, .inr (8, [.ref q_now, .ref q_disk, .ref q_before, .int v_onDisk, .int v_head, .int v_headPages, .int v_records, .ref q_recordPage, .ref q_recordBytes, .int v_up, .int v_armed, .int v_columns, .ref q_isBlob, .ref q_integer, .ref q_size, .ref q_blobs, .int v_length, .ref q_record, .int v_kind, .int v_cells, .int v_last, .ref q_cellLength, .ref q_row, .int v_made, .ref q_cell, .int v_deep, .ref q_way, .ref q_turn, .int v_at, .int v_bad, .ref q_used])), (q_now, .inl (cI, 1600, .inl v_now)), (q_cellLength, .inl (cI, 80, .inl v_cellLength)), (q_row, .inl (cI, 2000, .inl v_row))] H → va_D A [(q_this, .inr (8, [.ref q_now, .ref q_disk, .ref q_before, .int v_onDisk, .int v_head, .int v_headPages, .int v_records, .ref q_recordPage, .ref q_recordBytes, .int v_up, .int v_armed, .int v_columns, .ref q_isBlob, .ref q_integer, .ref q_size, .ref q_blobs, .int v_length, .ref q_record, .int v_kind, .int v_cells, .int v_last, .ref q_cellLength, .ref q_row, .int v_made, .ref q_cell, .int v_deep, .ref q_way, .ref q_turn, .int v_at, .int v_bad, .ref q_used])), (q_now, .inl (cI, 1600, .inl v_now)), (q_cellLength, .inl (cI, 80, .inl v_cellLength)), (q_row, .inl (cI, 2000, .inl v_row))] → va_S A s.heap H locs → lv_has ls 8 [(0, .ref q_this), (1, .int x_1), (2, .int x_2), (3, .int x_3), (5, .int x_5), (6, .int x_6)] → q_MD_put_140 (q_MD_put_50 v_kind v_cellLength v_row x_1 x_2 x_3 n50) v_kind v_cellLength v_row v_now x_1 x_2 x_3 x_5 x_6 = some o_now → W p l e rm_MD_put s m args below meth c H locs 0 0 Q (F0 m 140 ls []) := by
        intro v_now x_5 x_6 H locs ls hP hD hS hl hf
        rw [q_MD_put_140] at hf
        obtain ⟨t8, e_t8, hf⟩ := pu_nm_some hf
        refine lv_iinc (k := 5) (v := t8) hx hb d_MD_put_140 hl rfl e_t8.symm (by decide) rfl (fun ls hl => ?_)
        have hl : lv_has ls 8 [(6, .int t8), (0, .ref q_this), (1, .int x_1), (2, .int x_2), (3, .int x_3), (5, .int x_5)] := hl
        refine lv_goto (tgt := 50) hx hb d_MD_put_143 rfl ?_
        exact ih_50 v_now x_5 t8 H locs ls hP hD hS (lv_sub hl [1, 2, 3, 4, 5, 0] rfl) hf
      have lp_89 : ∀ (x_5 : Int32) (x_6 : Int32) (n89 : Nat) (v_now : Nat → Int32) (x_7 : Int32) (H : Heap) (locs : List Loc) (ls : Array Slot), va_P D pu_cl [(q_this, .inr (8, [.ref q_now, .ref q_disk, .ref q_before, .int v_onDisk, .int v_head, .int v_headPages, .int v_records, .ref q_recordPage, .ref q_recordBytes, .int v_up, .int v_armed, .int v_columns, .ref q_isBlob, .ref q_integer, .ref q_size, .ref q_blobs, .int v_length, .ref q_record, .int v_kind, .int v_cells, .int v_last, .ref q_cellLength, .ref q_row, .int v_made, .ref q_cell, .int v_deep, .ref q_way, .ref q_turn, .int v_at, .int v_bad, .ref q_used])), (q_now, .inl (cI, 1600, .inl v_now)), (q_cellLength, .inl (cI, 80, .inl v_cellLength)), (q_row, .inl (cI, 2000, .inl v_row))] H → va_D A [(q_this, .inr (8, [.ref q_now, .ref q_disk, .ref q_before, .int v_onDisk, .int v_head, .int v_headPages, .int v_records, .ref q_recordPage, .ref q_recordBytes, .int v_up, .int v_armed, .int v_columns, .ref q_isBlob, .ref q_integer, .ref q_size, .ref q_blobs, .int v_length, .ref q_record, .int v_kind, .int v_cells, .int v_last, .ref q_cellLength, .ref q_row, .int v_made, .ref q_cell, .int v_deep, .ref q_way, .ref q_turn, .int v_at, .int v_bad, .ref q_used])), (q_now, .inl (cI, 1600, .inl v_now)), (q_cellLength, .inl (cI, 80, .inl v_cellLength)), (q_row, .inl (cI, 2000, .inl v_row))] → va_S A s.heap H locs → lv_has ls 8 [(0, .ref q_this), (1, .int x_1), (2, .int x_2), (3, .int x_3), (5, .int x_5), (6, .int x_6), (7, .int x_7)] → q_MD_put_89 (fun v_now => q_MD_put_140 (q_MD_put_50 v_kind v_cellLength v_row x_1 x_2 x_3 n50) v_kind v_cellLength v_row v_now x_1 x_2 x_3 x_5 x_6) v_kind v_cellLength v_row x_1 x_2 x_3 x_5 x_6 n89 v_now x_7 = some o_now → W p l e rm_MD_put s m args below meth c H locs 0 0 Q (F0 m 89 ls []) := by
        intro x_5 x_6 n89
        induction n89 with
        | zero =>
          intro v_now x_7 H locs ls hP hD hS hl hf
          rw [q_MD_put_89] at hf
          cases hf
        | succ n89 ih_89 =>
          intro v_now x_7 H locs ls hP hD hS hl hf
          rw [q_MD_put_89] at hf
          refine lv_iload hx hb d_MD_put_89 (lv_at hl 6 rfl) ?_
          refine lv_aload_n hx hb d_MD_put_91 rfl (lv_at hl 0 rfl) ?_
          refine gf_MD_53 (v := .ref q_cellLength) hx hb hts hN hown hK hP 0 rfl rfl d_MD_put_92 ?_
          refine lv_iload_n hx hb d_MD_put_95 rfl (lv_at hl 2 rfl) ?_
          refine lv_iload hx hb d_MD_put_96 (lv_at hl 5 rfl) ?_
          refine lv_iadd hx hb d_MD_put_98 ?_
          obtain ⟨hin, hf⟩ := pu_ck_some hf
          refine va_iald hx hb hK hP 2 0 rfl rfl hin d_MD_put_99 ?_
          refine lv_icmp_ge (tgt := 140) hx hb d_MD_put_100 rfl (fun hc => ?_) (fun hc => ?_)
          · have hf := pu_br_pos hf hc
            exact lb_140 v_now x_5 x_6 H locs ls hP hD hS (lv_sub hl [0, 1, 2, 3, 4, 5] rfl) hf
          have hf := pu_br_neg hf hc
          refine lv_aload_n hx hb d_MD_put_103 rfl (lv_at hl 0 rfl) ?_
          refine gf_MD_7 (v := .ref q_now) hx hb hts hN hown hK hP 0 rfl rfl d_MD_put_104 ?_
          refine lv_bipush (v := 64) hx hb d_MD_put_107 rfl ?_
          refine lv_iload_n hx hb d_MD_put_109 rfl (lv_at hl 1 rfl) ?_
          refine lv_imul hx hb d_MD_put_110 ?_
          refine lv_iload hx hb d_MD_put_111 (lv_at hl 4 rfl) ?_
          refine lv_iadd hx hb d_MD_put_113 ?_
          refine lv_iload hx hb d_MD_put_114 (lv_at hl 6 rfl) ?_
          refine lv_iadd hx hb d_MD_put_116 ?_
          refine lv_aload_n hx hb d_MD_put_117 rfl (lv_at hl 0 rfl) ?_
          refine gf_MD_56 (v := .ref q_row) hx hb hts hN hown hK hP 0 rfl rfl d_MD_put_118 ?_
          refine lv_aload_n hx hb d_MD_put_121 rfl (lv_at hl 0 rfl) ?_
          refine lv_iload_n hx hb d_MD_put_122 rfl (lv_at hl 2 rfl) ?_
          refine lv_iload hx hb d_MD_put_123 (lv_at hl 5 rfl) ?_
          refine lv_iadd hx hb d_MD_put_125 ?_
          obtain ⟨r9, hc, hf⟩ := pu_b1_some hf
          refine cl_i (WC := [(q_this, .inr (8, [.ref q_now, .ref q_disk, .ref q_before, .int v_onDisk, .int v_head, .int v_headPages, .int v_records, .ref q_recordPage, .ref q_recordBytes, .int v_up, .int v_armed, .int v_columns, .ref q_isBlob, .ref q_integer, .ref q_size, .ref q_blobs, .int v_length, .ref q_record, .int v_kind, .int v_cells, .int v_last, .ref q_cellLength, .ref q_row, .int v_made, .ref q_cell, .int v_deep, .ref q_way, .ref q_turn, .int v_at, .int v_bad, .ref q_used])), (q_cellLength, .inl (cI, 80, .inl v_cellLength))]) (WC2 := [(q_this, .inr (8, [.ref q_now, .ref q_disk, .ref q_before, .int v_onDisk, .int v_head, .int v_headPages, .int v_records, .ref q_recordPage, .ref q_recordBytes, .int v_up, .int v_armed, .int v_columns, .ref q_isBlob, .ref q_integer, .ref q_size, .ref q_blobs, .int v_length, .ref q_record, .int v_kind, .int v_cells, .int v_last, .ref q_cellLength, .ref q_row, .int v_made, .ref q_cell, .int v_deep, .ref q_way, .ref q_turn, .int v_at, .int v_bad, .ref q_used])), (q_cellLength, .inl (cI, 80, .inl v_cellLength))]) (WR := [(q_now, .inl (cI, 1600, .inl v_now)), (q_row, .inl (cI, 2000, .inl v_row))]) (WS2 := [(q_this, .inr (8, [.ref q_now, .ref q_disk, .ref q_before, .int v_onDisk, .int v_head, .int v_headPages, .int v_records, .ref q_recordPage, .ref q_recordBytes, .int v_up, .int v_armed, .int v_columns, .ref q_isBlob, .ref q_integer, .ref q_size, .ref q_blobs, .int v_length, .ref q_record, .int v_kind, .int v_cells, .int v_last, .ref q_cellLength, .ref q_row, .int v_made, .ref q_cell, .int v_deep, .ref q_way, .ref q_turn, .int v_at, .int v_bad, .ref q_used])), (q_now, .inl (cI, 1600, .inl v_now)), (q_cellLength, .inl (cI, 80, .inl v_cellLength)), (q_row, .inl (cI, 2000, .inl v_row))]) (pu_rv (cl := pu_cl) (pu_in11 _ (List.mem_of_getElem? (i := 41) rfl)) (pu_in11 _ (List.mem_of_getElem? (i := 42) rfl)) (pu_in14 _ (List.mem_of_getElem? (i := 27) rfl)) (pu_in0 _ (List.mem_of_getElem? (i := 10) rfl)) (pu_in11 _ (List.mem_of_getElem? (i := 43) rfl)) (ci := 8) rfl hd_MD_start (by decide) ⟨rfl, rfl⟩ rfl rfl (Nat.le_of_ble_eq_true rfl) rfl (As := [.int (x_2 + x_6)]) (rest := [.ref q_row, .int ((((64 : Int32) * x_1) + x_5) + x_7), .ref q_now]) (WC := [(q_this, .inr (8, [.ref q_now, .ref q_disk, .ref q_before, .int v_onDisk, .int v_head, .int v_headPages, .int v_records, .ref q_recordPage, .ref q_recordBytes, .int v_up, .int v_armed, .int v_columns, .ref q_isBlob, .ref q_integer, .ref q_size, .ref q_blobs, .int v_length, .ref q_record, .int v_kind, .int v_cells, .int v_last, .ref q_cellLength, .ref q_row, .int v_made, .ref q_cell, .int v_deep, .ref q_way, .ref q_turn, .int v_at, .int v_bad, .ref q_used])), (q_cellLength, .inl (cI, 80, .inl v_cellLength))]) hx hb hml hown hts hN hK hP hD (c_MD_start l D cI cJ cB cZ H.size q_this q_now q_disk q_before q_recordPage q_recordBytes q_isBlob q_integer q_size q_blobs q_record q_cellLength q_row q_cell q_way q_turn q_used v_onDisk v_head v_headPages v_records v_up v_armed v_columns v_length v_kind v_cells v_last v_made v_deep v_at v_bad v_cellLength (x_2 + x_6) r9 hc) [0, 2] rfl rfl hl.1 d_MD_put_126) hP hD hS hA [0, 2] [1, 3] [2, 0, 3, 1] rfl rfl rfl (by decide) rfl rfl (fun H locs hP hD hS => ?_)
          refine lv_iload hx hb d_MD_put_129 (lv_at hl 6 rfl) ?_
          refine lv_iadd hx hb d_MD_put_131 ?_
          obtain ⟨hin, hf⟩ := pu_ck_some hf
          refine va_iald hx hb hK hP 3 0 rfl rfl hin d_MD_put_132 ?_
          obtain ⟨hin, hf⟩ := pu_ck_some hf
          obtain ⟨a10, e_a10, hf⟩ := pu_nm_some hf
          refine va_iast hx hb hK hP hD hS 1 0 rfl rfl hin d_MD_put_133 (fun H locs hP hD hS => ?_)
          have hP : va_P D pu_cl [(q_this, .inr (8, [.ref q_now, .ref q_disk, .ref q_before, .int v_onDisk, .int v_head, .int v_headPages, .int v_records, .ref q_recordPage, .ref q_recordBytes, .int v_up, .int v_armed, .int v_columns, .ref q_isBlob, .ref q_integer, .ref q_size, .ref q_blobs, .int v_length, .ref q_record, .int v_kind, .int v_cells, .int v_last, .ref q_cellLength, .ref q_row, .int v_made, .ref q_cell, .int v_deep, .ref q_way, .ref q_turn, .int v_at, .int v_bad, .ref q_used])), (q_now, .inl (cI, 1600, .inl a10)), (q_cellLength, .inl (cI, 80, .inl v_cellLength)), (q_row, .inl (cI, 2000, .inl v_row))] H := by rw [e_a10]; exact hP
          have hD : va_D A [(q_this, .inr (8, [.ref q_now, .ref q_disk, .ref q_before, .int v_onDisk, .int v_head, .int v_headPages, .int v_records, .ref q_recordPage, .ref q_recordBytes, .int v_up, .int v_armed, .int v_columns, .ref q_isBlob, .ref q_integer, .ref q_size, .ref q_blobs, .int v_length, .ref q_record, .int v_kind, .int v_cells, .int v_last, .ref q_cellLength, .ref q_row, .int v_made, .ref q_cell, .int v_deep, .ref q_way, .ref q_turn, .int v_at, .int v_bad, .ref q_used])), (q_now, .inl (cI, 1600, .inl a10)), (q_cellLength, .inl (cI, 80, .inl v_cellLength)), (q_row, .inl (cI, 2000, .inl v_row))] := by rw [e_a10]; exact hD
          obtain ⟨t11, e_t11, hf⟩ := pu_nm_some hf
          refine lv_iinc (k := 6) (v := t11) hx hb d_MD_put_134 hl rfl e_t11.symm (by decide) rfl (fun ls hl => ?_)
          have hl : lv_has ls 8 [(7, .int t11), (0, .ref q_this), (1, .int x_1), (2, .int x_2), (3, .int x_3), (5, .int x_5), (6, .int x_6)] := hl
          refine lv_goto (tgt := 89) hx hb d_MD_put_137 rfl ?_
          exact ih_89 a10 t11 H locs ls hP hD hS (lv_sub hl [1, 2, 3, 4, 5, 6, 0] rfl) hf
      intro v_now x_5 x_6 H locs ls hP hD hS hl hf
      rw [q_MD_put_50] at hf
      refine lv_iload hx hb d_MD_put_50 (lv_at hl 5 rfl) ?_
      refine lv_iload_n hx hb d_MD_put_52 rfl (lv_at hl 3 rfl) ?_
      refine lv_icmp_ge (tgt := 146) hx hb d_MD_put_53 rfl (fun hc => ?_) (fun hc => ?_)
      · have hf := pu_br_pos hf hc
        exact hret _ _ _ _ v_now d_MD_put_146 hP hD hS hf
      have hf := pu_br_neg hf hc
      refine lv_iload hx hb d_MD_put_56 (lv_at hl 4 rfl) ?_
      refine lv_aload_n hx hb d_MD_put_58 rfl (lv_at hl 0 rfl) ?_
      refine gf_MD_53 (v := .ref q_cellLength) hx hb hts hN hown hK hP 0 rfl rfl d_MD_put_59 ?_
      refine lv_iload_n hx hb d_MD_put_62 rfl (lv_at hl 2 rfl) ?_
      refine lv_iload hx hb d_MD_put_63 (lv_at hl 5 rfl) ?_
      refine lv_iadd hx hb d_MD_put_65 ?_
      obtain ⟨hin, hf⟩ := pu_ck_some hf
      refine va_iald hx hb hK hP 2 0 rfl rfl hin d_MD_put_66 ?_
      refine lv_isub hx hb d_MD_put_67 ?_
      obtain ⟨t6, e_t6, hf⟩ := pu_nm_some hf
      refine pu_ti e_t6 ?_
      refine lv_istore hx hb d_MD_put_68 hl (by decide) rfl (fun ls hl => ?_)
      have hl : lv_has ls 8 [(5, .int t6), (0, .ref q_this), (1, .int x_1), (2, .int x_2), (3, .int x_3), (6, .int x_6)] := hl
      refine lv_aload_n hx hb d_MD_put_70 rfl (lv_at hl 1 rfl) ?_
      refine gf_MD_7 (v := .ref q_now) hx hb hts hN hown hK hP 0 rfl rfl d_MD_put_71 ?_
      refine lv_bipush (v := 64) hx hb d_MD_put_74 rfl ?_
      refine lv_iload_n hx hb d_MD_put_76 rfl (lv_at hl 2 rfl) ?_
      refine lv_imul hx hb d_MD_put_77 ?_
      refine lv_iconst (v := 4) hx hb d_MD_put_78 rfl ?_
      refine lv_iadd hx hb d_MD_put_79 ?_
      refine lv_iload hx hb d_MD_put_80 (lv_at hl 5 rfl) ?_
      refine lv_iadd hx hb d_MD_put_82 ?_
      refine lv_iload hx hb d_MD_put_83 (lv_at hl 0 rfl) ?_
      obtain ⟨hin, hf⟩ := pu_ck_some hf
      obtain ⟨a7, e_a7, hf⟩ := pu_nm_some hf
      refine va_iast hx hb hK hP hD hS 1 0 rfl rfl hin d_MD_put_85 (fun H locs hP hD hS => ?_)
      have hP : va_P D pu_cl [(q_this, .inr (8, [.ref q_now, .ref q_disk, .ref q_before, .int v_onDisk, .int v_head, .int v_headPages, .int v_records, .ref q_recordPage, .ref q_recordBytes, .int v_up, .int v_armed, .int v_columns, .ref q_isBlob, .ref q_integer, .ref q_size, .ref q_blobs, .int v_length, .ref q_record, .int v_kind, .int v_cells, .int v_last, .ref q_cellLength, .ref q_row, .int v_made, .ref q_cell, .int v_deep, .ref q_way, .ref q_turn, .int v_at, .int v_bad, .ref q_used])), (q_now, .inl (cI, 1600, .inl a7)), (q_cellLength, .inl (cI, 80, .inl v_cellLength)), (q_row, .inl (cI, 2000, .inl v_row))] H := by rw [e_a7]; exact hP
      have hD : va_D A [(q_this, .inr (8, [.ref q_now, .ref q_disk, .ref q_before, .int v_onDisk, .int v_head, .int v_headPages, .int v_records, .ref q_recordPage, .ref q_recordBytes, .int v_up, .int v_armed, .int v_columns, .ref q_isBlob, .ref q_integer, .ref q_size, .ref q_blobs, .int v_length, .ref q_record, .int v_kind, .int v_cells, .int v_last, .ref q_cellLength, .ref q_row, .int v_made, .ref q_cell, .int v_deep, .ref q_way, .ref q_turn, .int v_at, .int v_bad, .ref q_used])), (q_now, .inl (cI, 1600, .inl a7)), (q_cellLength, .inl (cI, 80, .inl v_cellLength)), (q_row, .inl (cI, 2000, .inl v_row))] := by rw [e_a7]; exact hD
      refine lv_iconst (v := 0) hx hb d_MD_put_86 rfl ?_
      refine lv_istore hx hb d_MD_put_87 hl (by decide) rfl (fun ls hl => ?_)
      have hl : lv_has ls 8 [(7, .int (0 : Int32)), (5, .int t6), (0, .ref q_this), (1, .int x_1), (2, .int x_2), (3, .int x_3), (6, .int x_6)] := hl
      exact lp_89 t6 x_6 _ a7 (0 : Int32) H locs ls hP hD hS (lv_sub hl [2, 3, 4, 5, 1, 6, 0] rfl) hf
  obtain ⟨H, hH⟩ : ∃ H, H = s.heap := ⟨_, rfl⟩
  obtain ⟨locs, hlocs⟩ : ∃ locs : List Loc, locs = [] := ⟨_, rfl⟩
  have hP : va_P D pu_cl [(q_this, .inr (8, [.ref q_now, .ref q_disk, .ref q_before, .int v_onDisk, .int v_head, .int v_headPages, .int v_records, .ref q_recordPage, .ref q_recordBytes, .int v_up, .int v_armed, .int v_columns, .ref q_isBlob, .ref q_integer, .ref q_size, .ref q_blobs, .int v_length, .ref q_record, .int v_kind, .int v_cells, .int v_last, .ref q_cellLength, .ref q_row, .int v_made, .ref q_cell, .int v_deep, .ref q_way, .ref q_turn, .int v_at, .int v_bad, .ref q_used])), (q_now, .inl (cI, 1600, .inl v_now)), (q_cellLength, .inl (cI, 80, .inl v_cellLength)), (q_row, .inl (cI, 2000, .inl v_row))] H := by rw [hH]; exact hP
  have hS : va_S A s.heap H locs := by rw [hH, hlocs]; exact hS
  have goal : W p l e rm_MD_put s m args below meth c H locs 0 0 Q (F0 m 0 ls []) := by
    clear hH hlocs
    refine lv_aload_n hx hb d_MD_put_0 rfl (lv_at hl 0 rfl) ?_
    refine lv_iload_n hx hb d_MD_put_1 rfl (lv_at hl 1 rfl) ?_
    obtain ⟨w2, hc, hf⟩ := pu_b1_some hf
    refine cl_v (WC := [(q_this, .inr (8, [.ref q_now, .ref q_disk, .ref q_before, .int v_onDisk, .int v_head, .int v_headPages, .int v_records, .ref q_recordPage, .ref q_recordBytes, .int v_up, .int v_armed, .int v_columns, .ref q_isBlob, .ref q_integer, .ref q_size, .ref q_blobs, .int v_length, .ref q_record, .int v_kind, .int v_cells, .int v_last, .ref q_cellLength, .ref q_row, .int v_made, .ref q_cell, .int v_deep, .ref q_way, .ref q_turn, .int v_at, .int v_bad, .ref q_used])), (q_now, .inl (cI, 1600, .inl v_now))]) (WC2 := [(q_this, .inr (8, [.ref q_now, .ref q_disk, .ref q_before, .int v_onDisk, .int v_head, .int v_headPages, .int v_records, .ref q_recordPage, .ref q_recordBytes, .int v_up, .int v_armed, .int v_columns, .ref q_isBlob, .ref q_integer, .ref q_size, .ref q_blobs, .int v_length, .ref q_record, .int v_kind, .int v_cells, .int v_last, .ref q_cellLength, .ref q_row, .int v_made, .ref q_cell, .int v_deep, .ref q_way, .ref q_turn, .int v_at, .int v_bad, .ref q_used])), (q_now, .inl (cI, 1600, .inl w2))]) (WR := [(q_cellLength, .inl (cI, 80, .inl v_cellLength)), (q_row, .inl (cI, 2000, .inl v_row))]) (WS2 := [(q_this, .inr (8, [.ref q_now, .ref q_disk, .ref q_before, .int v_onDisk, .int v_head, .int v_headPages, .int v_records, .ref q_recordPage, .ref q_recordBytes, .int v_up, .int v_armed, .int v_columns, .ref q_isBlob, .ref q_integer, .ref q_size, .ref q_blobs, .int v_length, .ref q_record, .int v_kind, .int v_cells, .int v_last, .ref q_cellLength, .ref q_row, .int v_made, .ref q_cell, .int v_deep, .ref q_way, .ref q_turn, .int v_at, .int v_bad, .ref q_used])), (q_now, .inl (cI, 1600, .inl w2)), (q_cellLength, .inl (cI, 80, .inl v_cellLength)), (q_row, .inl (cI, 2000, .inl v_row))]) (pu_rv (cl := pu_cl) (pu_in11 _ (List.mem_of_getElem? (i := 29) rfl)) (pu_in11 _ (List.mem_of_getElem? (i := 30) rfl)) (pu_in14 _ (List.mem_of_getElem? (i := 23) rfl)) (pu_in0 _ (List.mem_of_getElem? (i := 10) rfl)) (pu_in11 _ (List.mem_of_getElem? (i := 31) rfl)) (ci := 8) rfl hd_MD_erase (by decide) ⟨rfl, rfl⟩ rfl rfl (Nat.le_of_ble_eq_true rfl) rfl (As := [.int x_1]) (rest := []) (WC := [(q_this, .inr (8, [.ref q_now, .ref q_disk, .ref q_before, .int v_onDisk, .int v_head, .int v_headPages, .int v_records, .ref q_recordPage, .ref q_recordBytes, .int v_up, .int v_armed, .int v_columns, .ref q_isBlob, .ref q_integer, .ref q_size, .ref q_blobs, .int v_length, .ref q_record, .int v_kind, .int v_cells, .int v_last, .ref q_cellLength, .ref q_row, .int v_made, .ref q_cell, .int v_deep, .ref q_way, .ref q_turn, .int v_at, .int v_bad, .ref q_used])), (q_now, .inl (cI, 1600, .inl v_now))]) hx hb hml hown hts hN hK hP hD (c_MD_erase l D cI cJ cB cZ H.size q_this q_now q_disk q_before q_recordPage q_recordBytes q_isBlob q_integer q_size q_blobs q_record q_cellLength q_row q_cell q_way q_turn q_used v_onDisk v_head v_headPages v_records v_up v_armed v_columns v_length v_kind v_cells v_last v_made v_deep v_at v_bad v_now x_1 w2 hc) [0, 1] rfl rfl hl.1 d_MD_put_2) hP hD hS hA [0, 1] [2, 3] [2, 3, 0, 1] rfl rfl rfl (by decide) rfl rfl (fun H locs hP hD hS => ?_)
    refine lv_aload_n hx hb d_MD_put_5 rfl (lv_at hl 0 rfl) ?_
    refine gf_MD_7 (v := .ref q_now) hx hb hts hN hown hK hP 0 rfl rfl d_MD_put_6 ?_
    refine lv_bipush (v := 64) hx hb d_MD_put_9 rfl ?_
    refine lv_iload_n hx hb d_MD_put_11 rfl (lv_at hl 1 rfl) ?_
    refine lv_imul hx hb d_MD_put_12 ?_
    refine lv_aload_n hx hb d_MD_put_13 rfl (lv_at hl 0 rfl) ?_
    refine gf_MD_106 (v := .int v_kind) hx hb hts hN hown hK hP 0 rfl rfl d_MD_put_14 ?_
    obtain ⟨hin, hf⟩ := pu_ck_some hf
    obtain ⟨a3, e_a3, hf⟩ := pu_nm_some hf
    refine va_iast hx hb hK hP hD hS 1 0 rfl rfl hin d_MD_put_17 (fun H locs hP hD hS => ?_)
    have hP : va_P D pu_cl [(q_this, .inr (8, [.ref q_now, .ref q_disk, .ref q_before, .int v_onDisk, .int v_head, .int v_headPages, .int v_records, .ref q_recordPage, .ref q_recordBytes, .int v_up, .int v_armed, .int v_columns, .ref q_isBlob, .ref q_integer, .ref q_size, .ref q_blobs, .int v_length, .ref q_record, .int v_kind, .int v_cells, .int v_last, .ref q_cellLength, .ref q_row, .int v_made, .ref q_cell, .int v_deep, .ref q_way, .ref q_turn, .int v_at, .int v_bad, .ref q_used])), (q_now, .inl (cI, 1600, .inl a3)), (q_cellLength, .inl (cI, 80, .inl v_cellLength)), (q_row, .inl (cI, 2000, .inl v_row))] H := by rw [e_a3]; exact hP
    have hD : va_D A [(q_this, .inr (8, [.ref q_now, .ref q_disk, .ref q_before, .int v_onDisk, .int v_head, .int v_headPages, .int v_records, .ref q_recordPage, .ref q_recordBytes, .int v_up, .int v_armed, .int v_columns, .ref q_isBlob, .ref q_integer, .ref q_size, .ref q_blobs, .int v_length, .ref q_record, .int v_kind, .int v_cells, .int v_last, .ref q_cellLength, .ref q_row, .int v_made, .ref q_cell, .int v_deep, .ref q_way, .ref q_turn, .int v_at, .int v_bad, .ref q_used])), (q_now, .inl (cI, 1600, .inl a3)), (q_cellLength, .inl (cI, 80, .inl v_cellLength)), (q_row, .inl (cI, 2000, .inl v_row))] := by rw [e_a3]; exact hD
    refine lv_aload_n hx hb d_MD_put_18 rfl (lv_at hl 0 rfl) ?_
    refine gf_MD_7 (v := .ref q_now) hx hb hts hN hown hK hP 0 rfl rfl d_MD_put_19 ?_
    refine lv_bipush (v := 64) hx hb d_MD_put_22 rfl ?_
    refine lv_iload_n hx hb d_MD_put_24 rfl (lv_at hl 1 rfl) ?_
    refine lv_imul hx hb d_MD_put_25 ?_
    refine lv_iconst (v := 1) hx hb d_MD_put_26 rfl ?_
    refine lv_iadd hx hb d_MD_put_27 ?_
    refine lv_iload_n hx hb d_MD_put_28 rfl (lv_at hl 3 rfl) ?_
    obtain ⟨hin, hf⟩ := pu_ck_some hf
    obtain ⟨a4, e_a4, hf⟩ := pu_nm_some hf
    refine va_iast hx hb hK hP hD hS 1 0 rfl rfl hin d_MD_put_29 (fun H locs hP hD hS => ?_)
    have hP : va_P D pu_cl [(q_this, .inr (8, [.ref q_now, .ref q_disk, .ref q_before, .int v_onDisk, .int v_head, .int v_headPages, .int v_records, .ref q_recordPage, .ref q_recordBytes, .int v_up, .int v_armed, .int v_columns, .ref q_isBlob, .ref q_integer, .ref q_size, .ref q_blobs, .int v_length, .ref q_record, .int v_kind, .int v_cells, .int v_last, .ref q_cellLength, .ref q_row, .int v_made, .ref q_cell, .int v_deep, .ref q_way, .ref q_turn, .int v_at, .int v_bad, .ref q_used])), (q_now, .inl (cI, 1600, .inl a4)), (q_cellLength, .inl (cI, 80, .inl v_cellLength)), (q_row, .inl (cI, 2000, .inl v_row))] H := by rw [e_a4]; exact hP
    have hD : va_D A [(q_this, .inr (8, [.ref q_now, .ref q_disk, .ref q_before, .int v_onDisk, .int v_head, .int v_headPages, .int v_records, .ref q_recordPage, .ref q_recordBytes, .int v_up, .int v_armed, .int v_columns, .ref q_isBlob, .ref q_integer, .ref q_size, .ref q_blobs, .int v_length, .ref q_record, .int v_kind, .int v_cells, .int v_last, .ref q_cellLength, .ref q_row, .int v_made, .ref q_cell, .int v_deep, .ref q_way, .ref q_turn, .int v_at, .int v_bad, .ref q_used])), (q_now, .inl (cI, 1600, .inl a4)), (q_cellLength, .inl (cI, 80, .inl v_cellLength)), (q_row, .inl (cI, 2000, .inl v_row))] := by rw [e_a4]; exact hD
    refine lv_aload_n hx hb d_MD_put_30 rfl (lv_at hl 0 rfl) ?_
    refine gf_MD_7 (v := .ref q_now) hx hb hts hN hown hK hP 0 rfl rfl d_MD_put_31 ?_
    refine lv_bipush (v := 64) hx hb d_MD_put_34 rfl ?_
    refine lv_iload_n hx hb d_MD_put_36 rfl (lv_at hl 1 rfl) ?_
    refine lv_imul hx hb d_MD_put_37 ?_
    refine lv_iconst (v := 2) hx hb d_MD_put_38 rfl ?_
    refine lv_iadd hx hb d_MD_put_39 ?_
    refine lv_iload hx hb d_MD_put_40 (lv_at hl 4 rfl) ?_
    obtain ⟨hin, hf⟩ := pu_ck_some hf
    obtain ⟨a5, e_a5, hf⟩ := pu_nm_some hf
    refine va_iast hx hb hK hP hD hS 1 0 rfl rfl hin d_MD_put_42 (fun H locs hP hD hS => ?_)
    have hP : va_P D pu_cl [(q_this, .inr (8, [.ref q_now, .ref q_disk, .ref q_before, .int v_onDisk, .int v_head, .int v_headPages, .int v_records, .ref q_recordPage, .ref q_recordBytes, .int v_up, .int v_armed, .int v_columns, .ref q_isBlob, .ref q_integer, .ref q_size, .ref q_blobs, .int v_length, .ref q_record, .int v_kind, .int v_cells, .int v_last, .ref q_cellLength, .ref q_row, .int v_made, .ref q_cell, .int v_deep, .ref q_way, .ref q_turn, .int v_at, .int v_bad, .ref q_used])), (q_now, .inl (cI, 1600, .inl a5)), (q_cellLength, .inl (cI, 80, .inl v_cellLength)), (q_row, .inl (cI, 2000, .inl v_row))] H := by rw [e_a5]; exact hP
    have hD : va_D A [(q_this, .inr (8, [.ref q_now, .ref q_disk, .ref q_before, .int v_onDisk, .int v_head, .int v_headPages, .int v_records, .ref q_recordPage, .ref q_recordBytes, .int v_up, .int v_armed, .int v_columns, .ref q_isBlob, .ref q_integer, .ref q_size, .ref q_blobs, .int v_length, .ref q_record, .int v_kind, .int v_cells, .int v_last, .ref q_cellLength, .ref q_row, .int v_made, .ref q_cell, .int v_deep, .ref q_way, .ref q_turn, .int v_at, .int v_bad, .ref q_used])), (q_now, .inl (cI, 1600, .inl a5)), (q_cellLength, .inl (cI, 80, .inl v_cellLength)), (q_row, .inl (cI, 2000, .inl v_row))] := by rw [e_a5]; exact hD
    refine lv_bipush (v := 64) hx hb d_MD_put_43 rfl ?_
    refine lv_istore hx hb d_MD_put_45 hl (by decide) rfl (fun ls hl => ?_)
    have hl : lv_has ls 8 [(5, .int (64 : Int32)), (0, .ref q_this), (1, .int x_1), (2, .int x_2), (3, .int x_3), (4, .int x_4)] := hl
    refine lv_iconst (v := 0) hx hb d_MD_put_47 rfl ?_
    refine lv_istore hx hb d_MD_put_48 hl (by decide) rfl (fun ls hl => ?_)
    have hl : lv_has ls 8 [(6, .int (0 : Int32)), (5, .int (64 : Int32)), (0, .ref q_this), (1, .int x_1), (2, .int x_2), (3, .int x_3), (4, .int x_4)] := hl
    exact lp_50 x_1 x_2 x_3 _ a5 (64 : Int32) (0 : Int32) H locs ls hP hD hS (lv_sub hl [2, 3, 4, 5, 1, 0] rfl) hf
  rw [hH, hlocs] at goal
  exact goal
theorem d_MD_insertCell_0 : decode b_MD_insertCell 0 = .ok (.aload_n 0, 1) := by decide +kernel
theorem d_MD_insertCell_1 : decode b_MD_insertCell 1 = .ok (.iload_n 1, 1) := by decide +kernel
theorem d_MD_insertCell_2 : decode b_MD_insertCell 2 = .ok (.invokevirtual 123, 3) := by decide +kernel
theorem d_MD_insertCell_5 : decode b_MD_insertCell 5 = .ok (.istore_n 2, 1) := by decide +kernel
theorem d_MD_insertCell_6 : decode b_MD_insertCell 6 = .ok (.aload_n 0, 1) := by decide +kernel
theorem d_MD_insertCell_7 : decode b_MD_insertCell 7 = .ok (.aload_n 0, 1) := by decide +kernel
theorem d_MD_insertCell_8 : decode b_MD_insertCell 8 = .ok (.getfield 109, 3) := by decide +kernel
theorem d_MD_insertCell_11 : decode b_MD_insertCell 11 = .ok (.invokevirtual 123, 3) := by decide +kernel
theorem d_MD_insertCell_14 : decode b_MD_insertCell 14 = .ok (.iconst 1, 1) := by decide +kernel
theorem d_MD_insertCell_15 : decode b_MD_insertCell 15 = .ok (.isub, 1) := by decide +kernel
theorem d_MD_insertCell_16 : decode b_MD_insertCell 16 = .ok (.istore_n 3, 1) := by decide +kernel
theorem d_MD_insertCell_17 : decode b_MD_insertCell 17 = .ok (.iload_n 3, 1) := by decide +kernel
theorem d_MD_insertCell_18 : decode b_MD_insertCell 18 = .ok (.iload_n 2, 1) := by decide +kernel
theorem d_MD_insertCell_19 : decode b_MD_insertCell 19 = .ok (.if_icmp .lt 26, 3) := by decide +kernel
theorem d_MD_insertCell_22 : decode b_MD_insertCell 22 = .ok (.aload_n 0, 1) := by decide +kernel
theorem d_MD_insertCell_23 : decode b_MD_insertCell 23 = .ok (.getfield 56, 3) := by decide +kernel
theorem d_MD_insertCell_26 : decode b_MD_insertCell 26 = .ok (.iload_n 3, 1) := by decide +kernel
theorem d_MD_insertCell_27 : decode b_MD_insertCell 27 = .ok (.aload_n 0, 1) := by decide +kernel
theorem d_MD_insertCell_28 : decode b_MD_insertCell 28 = .ok (.getfield 126, 3) := by decide +kernel
theorem d_MD_insertCell_31 : decode b_MD_insertCell 31 = .ok (.iadd, 1) := by decide +kernel
theorem d_MD_insertCell_32 : decode b_MD_insertCell 32 = .ok (.aload_n 0, 1) := by decide +kernel
theorem d_MD_insertCell_33 : decode b_MD_insertCell 33 = .ok (.getfield 56, 3) := by decide +kernel
theorem d_MD_insertCell_36 : decode b_MD_insertCell 36 = .ok (.iload_n 3, 1) := by decide +kernel
theorem d_MD_insertCell_37 : decode b_MD_insertCell 37 = .ok (.iaload, 1) := by decide +kernel
theorem d_MD_insertCell_38 : decode b_MD_insertCell 38 = .ok (.iastore, 1) := by decide +kernel
theorem d_MD_insertCell_39 : decode b_MD_insertCell 39 = .ok (.iinc 3 (-1), 3) := by decide +kernel
theorem d_MD_insertCell_42 : decode b_MD_insertCell 42 = .ok (.goto (-25), 3) := by decide +kernel
theorem d_MD_insertCell_45 : decode b_MD_insertCell 45 = .ok (.iconst 0, 1) := by decide +kernel
theorem d_MD_insertCell_46 : decode b_MD_insertCell 46 = .ok (.istore_n 3, 1) := by decide +kernel
theorem d_MD_insertCell_47 : decode b_MD_insertCell 47 = .ok (.iload_n 3, 1) := by decide +kernel
theorem d_MD_insertCell_48 : decode b_MD_insertCell 48 = .ok (.aload_n 0, 1) := by decide +kernel
theorem d_MD_insertCell_49 : decode b_MD_insertCell 49 = .ok (.getfield 126, 3) := by decide +kernel
theorem d_MD_insertCell_52 : decode b_MD_insertCell 52 = .ok (.if_icmp .ge 23, 3) := by decide +kernel
theorem d_MD_insertCell_55 : decode b_MD_insertCell 55 = .ok (.aload_n 0, 1) := by decide +kernel
theorem d_MD_insertCell_56 : decode b_MD_insertCell 56 = .ok (.getfield 56, 3) := by decide +kernel
theorem d_MD_insertCell_59 : decode b_MD_insertCell 59 = .ok (.iload_n 2, 1) := by decide +kernel
theorem d_MD_insertCell_60 : decode b_MD_insertCell 60 = .ok (.iload_n 3, 1) := by decide +kernel
theorem d_MD_insertCell_61 : decode b_MD_insertCell 61 = .ok (.iadd, 1) := by decide +kernel
theorem d_MD_insertCell_62 : decode b_MD_insertCell 62 = .ok (.aload_n 0, 1) := by decide +kernel
theorem d_MD_insertCell_63 : decode b_MD_insertCell 63 = .ok (.getfield 59, 3) := by decide +kernel
theorem d_MD_insertCell_66 : decode b_MD_insertCell 66 = .ok (.iload_n 3, 1) := by decide +kernel
theorem d_MD_insertCell_67 : decode b_MD_insertCell 67 = .ok (.iaload, 1) := by decide +kernel
theorem d_MD_insertCell_68 : decode b_MD_insertCell 68 = .ok (.iastore, 1) := by decide +kernel
theorem d_MD_insertCell_69 : decode b_MD_insertCell 69 = .ok (.iinc 3 1, 3) := by decide +kernel
theorem d_MD_insertCell_72 : decode b_MD_insertCell 72 = .ok (.goto (-25), 3) := by decide +kernel
theorem d_MD_insertCell_75 : decode b_MD_insertCell 75 = .ok (.aload_n 0, 1) := by decide +kernel
theorem d_MD_insertCell_76 : decode b_MD_insertCell 76 = .ok (.getfield 109, 3) := by decide +kernel
theorem d_MD_insertCell_79 : decode b_MD_insertCell 79 = .ok (.istore_n 3, 1) := by decide +kernel
theorem d_MD_insertCell_80 : decode b_MD_insertCell 80 = .ok (.iload_n 3, 1) := by decide +kernel
theorem d_MD_insertCell_81 : decode b_MD_insertCell 81 = .ok (.iload_n 1, 1) := by decide +kernel
theorem d_MD_insertCell_82 : decode b_MD_insertCell 82 = .ok (.if_icmp .le 23, 3) := by decide +kernel
theorem d_MD_insertCell_85 : decode b_MD_insertCell 85 = .ok (.aload_n 0, 1) := by decide +kernel
theorem d_MD_insertCell_86 : decode b_MD_insertCell 86 = .ok (.getfield 53, 3) := by decide +kernel
theorem d_MD_insertCell_89 : decode b_MD_insertCell 89 = .ok (.iload_n 3, 1) := by decide +kernel
theorem d_MD_insertCell_90 : decode b_MD_insertCell 90 = .ok (.aload_n 0, 1) := by decide +kernel
theorem d_MD_insertCell_91 : decode b_MD_insertCell 91 = .ok (.getfield 53, 3) := by decide +kernel
theorem d_MD_insertCell_94 : decode b_MD_insertCell 94 = .ok (.iload_n 3, 1) := by decide +kernel
theorem d_MD_insertCell_95 : decode b_MD_insertCell 95 = .ok (.iconst 1, 1) := by decide +kernel
theorem d_MD_insertCell_96 : decode b_MD_insertCell 96 = .ok (.isub, 1) := by decide +kernel
theorem d_MD_insertCell_97 : decode b_MD_insertCell 97 = .ok (.iaload, 1) := by decide +kernel
theorem d_MD_insertCell_98 : decode b_MD_insertCell 98 = .ok (.iastore, 1) := by decide +kernel
theorem d_MD_insertCell_99 : decode b_MD_insertCell 99 = .ok (.iinc 3 (-1), 3) := by decide +kernel
theorem d_MD_insertCell_102 : decode b_MD_insertCell 102 = .ok (.goto (-22), 3) := by decide +kernel
theorem d_MD_insertCell_105 : decode b_MD_insertCell 105 = .ok (.aload_n 0, 1) := by decide +kernel
theorem d_MD_insertCell_106 : decode b_MD_insertCell 106 = .ok (.getfield 53, 3) := by decide +kernel
theorem d_MD_insertCell_109 : decode b_MD_insertCell 109 = .ok (.iload_n 1, 1) := by decide +kernel
theorem d_MD_insertCell_110 : decode b_MD_insertCell 110 = .ok (.aload_n 0, 1) := by decide +kernel
theorem d_MD_insertCell_111 : decode b_MD_insertCell 111 = .ok (.getfield 126, 3) := by decide +kernel
theorem d_MD_insertCell_114 : decode b_MD_insertCell 114 = .ok (.iastore, 1) := by decide +kernel
theorem d_MD_insertCell_115 : decode b_MD_insertCell 115 = .ok (.aload_n 0, 1) := by decide +kernel
theorem d_MD_insertCell_116 : decode b_MD_insertCell 116 = .ok (.dup, 1) := by decide +kernel
theorem d_MD_insertCell_117 : decode b_MD_insertCell 117 = .ok (.getfield 109, 3) := by decide +kernel
theorem d_MD_insertCell_120 : decode b_MD_insertCell 120 = .ok (.iconst 1, 1) := by decide +kernel
theorem d_MD_insertCell_121 : decode b_MD_insertCell 121 = .ok (.iadd, 1) := by decide +kernel
theorem d_MD_insertCell_122 : decode b_MD_insertCell 122 = .ok (.putfield 109, 3) := by decide +kernel
theorem d_MD_insertCell_125 : decode b_MD_insertCell 125 = .ok (.return_, 1) := by decide +kernel
noncomputable def q_MD_insertCell_105 (v_made : Int32) (v_cell : Nat → Int32) (v_cells : Int32) (v_cellLength : Nat → Int32) (v_row : Nat → Int32) (x_1 : Int32) : Option (Int32 × (Nat → Int32) × (Nat → Int32)) :=
  pu_ck (vp_in x_1 80) (pu_nm (upd v_cellLength x_1.toNatClampNeg v_made) (fun a4 => pu_nm (v_cells + (1 : Int32)) (fun t5 => some (t5, a4, v_row))))
noncomputable def q_MD_insertCell_80 (kx_105 : (Nat → Int32) → Option (Int32 × (Nat → Int32) × (Nat → Int32))) (v_made : Int32) (v_cell : Nat → Int32) (v_cells : Int32) (v_row : Nat → Int32) (x_1 : Int32) : Nat → (Nat → Int32) → Int32 → Option (Int32 × (Nat → Int32) × (Nat → Int32))
  | 0, _, _ => none
  | n + 1, v_cellLength, x_3 => pu_br (x_3 ≤ x_1) (kx_105 v_cellLength) (pu_ck (vp_in (x_3 - (1 : Int32)) 80) (pu_ck (vp_in x_3 80) (pu_nm (upd v_cellLength x_3.toNatClampNeg (v_cellLength (x_3 - (1 : Int32)).toNatClampNeg)) (fun a6 => pu_nm (x_3 + (-1 : Int32)) (fun t7 => q_MD_insertCell_80 kx_105 v_made v_cell v_cells v_row x_1 n a6 t7)))))
noncomputable def q_MD_insertCell_75 (v_made : Int32) (v_cell : Nat → Int32) (v_cells : Int32) (v_cellLength : Nat → Int32) (v_row : Nat → Int32) (x_1 : Int32) : Option (Int32 × (Nat → Int32) × (Nat → Int32)) :=
  q_MD_insertCell_80 (fun v_cellLength => q_MD_insertCell_105 v_made v_cell v_cells v_cellLength v_row x_1) v_made v_cell v_cells v_row x_1 pu_fu v_cellLength v_cells
noncomputable def q_MD_insertCell_47 (kx_75 : (Nat → Int32) → Option (Int32 × (Nat → Int32) × (Nat → Int32))) (v_made : Int32) (v_cell : Nat → Int32) (v_cells : Int32) (v_cellLength : Nat → Int32) (x_1 : Int32) (x_2 : Int32) : Nat → (Nat → Int32) → Int32 → Option (Int32 × (Nat → Int32) × (Nat → Int32))
  | 0, _, _ => none
  | n + 1, v_row, x_3 => pu_br (v_made ≤ x_3) (kx_75 v_row) (pu_ck (vp_in x_3 80) (pu_ck (vp_in (x_2 + x_3) 2000) (pu_nm (upd v_row (x_2 + x_3).toNatClampNeg (v_cell x_3.toNatClampNeg)) (fun a8 => pu_nm (x_3 + (1 : Int32)) (fun t9 => q_MD_insertCell_47 kx_75 v_made v_cell v_cells v_cellLength x_1 x_2 n a8 t9)))))
noncomputable def q_MD_insertCell_45 (v_made : Int32) (v_cell : Nat → Int32) (v_cells : Int32) (v_cellLength : Nat → Int32) (v_row : Nat → Int32) (x_1 : Int32) (x_2 : Int32) : Option (Int32 × (Nat → Int32) × (Nat → Int32)) :=
  q_MD_insertCell_47 (fun v_row => q_MD_insertCell_75 v_made v_cell v_cells v_cellLength v_row x_1) v_made v_cell v_cells v_cellLength x_1 x_2 pu_fu v_row (0 : Int32)
noncomputable def q_MD_insertCell_17 (kx_45 : (Nat → Int32) → Option (Int32 × (Nat → Int32) × (Nat → Int32))) (v_made : Int32) (v_cell : Nat → Int32) (v_cells : Int32) (v_cellLength : Nat → Int32) (x_1 : Int32) (x_2 : Int32) : Nat → (Nat → Int32) → Int32 → Option (Int32 × (Nat → Int32) × (Nat → Int32))
  | 0, _, _ => none
  | n + 1, v_row, x_3 => pu_br (x_3 < x_2) (kx_45 v_row) (pu_ck (vp_in x_3 2000) (pu_ck (vp_in (x_3 + v_made) 2000) (pu_nm (upd v_row (x_3 + v_made).toNatClampNeg (v_row x_3.toNatClampNeg)) (fun a10 => pu_nm (x_3 + (-1 : Int32)) (fun t11 => q_MD_insertCell_17 kx_45 v_made v_cell v_cells v_cellLength x_1 x_2 n a10 t11)))))
noncomputable def f_MD_insertCell (v_made : Int32) (v_cell : Nat → Int32) (v_cells : Int32) (v_cellLength : Nat → Int32) (v_row : Nat → Int32) (x_1 : Int32) : Option (Int32 × (Nat → Int32) × (Nat → Int32)) :=
  pu_b1 (f_MD_start v_cellLength x_1) (fun r1 => pu_b1 (f_MD_start v_cellLength v_cells) (fun r2 => pu_nm (r2 - (1 : Int32)) (fun t3 => q_MD_insertCell_17 (fun v_row => q_MD_insertCell_45 v_made v_cell v_cells v_cellLength v_row x_1 r1) v_made v_cell v_cells v_cellLength x_1 r1 pu_fu v_row t3)))
abbrev rm_MD_insertCell : Room := { frames := 1, cells := 0, slots := 0, locals := 23 }
set_option maxHeartbeats 8000000 in
set_option maxRecDepth 100000 in
theorem c_MD_insertCell (l : Launch) (D : va_G) (cI cJ cB cZ : ClassId) (sz : Nat) (q_this : Nat) (q_now : Nat) (q_disk : Nat) (q_before : Nat) (q_recordPage : Nat) (q_recordBytes : Nat) (q_isBlob : Nat) (q_integer : Nat) (q_size : Nat) (q_blobs : Nat) (q_record : Nat) (q_cellLength : Nat) (q_row : Nat) (q_cell : Nat) (q_way : Nat) (q_turn : Nat) (q_used : Nat) (v_onDisk : Int32) (v_head : Int32) (v_headPages : Int32) (v_records : Int32) (v_up : Int32) (v_armed : Int32) (v_columns : Int32) (v_length : Int32) (v_kind : Int32) (v_cells : Int32) (v_last : Int32) (v_made : Int32) (v_deep : Int32) (v_at : Int32) (v_bad : Int32) (v_cellLength : Nat → Int32) (v_row : Nat → Int32) (v_cell : Nat → Int32) (x_1 : Int32) (o_cells : Int32) (o_cellLength : Nat → Int32) (o_row : Nat → Int32) (hf : f_MD_insertCell v_made v_cell v_cells v_cellLength v_row x_1 = some (o_cells, o_cellLength, o_row)) : Met l y_MD_insertCell (.code y_MD_insertCell b_MD_insertCell 4 none :: pu_wA) rm_MD_insertCell (pu_pc D pu_cl (pu_ty cI cJ cB cZ) [.ref q_this, .int x_1] [(q_this, .inr (8, [.ref q_now, .ref q_disk, .ref q_before, .int v_onDisk, .int v_head, .int v_headPages, .int v_records, .ref q_recordPage, .ref q_recordBytes, .int v_up, .int v_armed, .int v_columns, .ref q_isBlob, .ref q_integer, .ref q_size, .ref q_blobs, .int v_length, .ref q_record, .int v_kind, .int v_cells, .int v_last, .ref q_cellLength, .ref q_row, .int v_made, .ref q_cell, .int v_deep, .ref q_way, .ref q_turn, .int v_at, .int v_bad, .ref q_used])), (q_cellLength, .inl (cI, 80, .inl v_cellLength)), (q_row, .inl (cI, 2000, .inl v_row)), (q_cell, .inl (cI, 80, .inl v_cell))] sz) (pu_qv D pu_cl (pu_ty cI cJ cB cZ) [(q_this, .inr (8, [.ref q_now, .ref q_disk, .ref q_before, .int v_onDisk, .int v_head, .int v_headPages, .int v_records, .ref q_recordPage, .ref q_recordBytes, .int v_up, .int v_armed, .int v_columns, .ref q_isBlob, .ref q_integer, .ref q_size, .ref q_blobs, .int v_length, .ref q_record, .int v_kind, .int v_cells, .int v_last, .ref q_cellLength, .ref q_row, .int v_made, .ref q_cell, .int v_deep, .ref q_way, .ref q_turn, .int v_at, .int v_bad, .ref q_used])), (q_cellLength, .inl (cI, 80, .inl v_cellLength)), (q_row, .inl (cI, 2000, .inl v_row)), (q_cell, .inl (cI, 80, .inl v_cell))] [(q_this, .inr (8, [.ref q_now, .ref q_disk, .ref q_before, .int v_onDisk, .int v_head, .int v_headPages, .int v_records, .ref q_recordPage, .ref q_recordBytes, .int v_up, .int v_armed, .int v_columns, .ref q_isBlob, .ref q_integer, .ref q_size, .ref q_blobs, .int v_length, .ref q_record, .int v_kind, .int o_cells, .int v_last, .ref q_cellLength, .ref q_row, .int v_made, .ref q_cell, .int v_deep, .ref q_way, .ref q_turn, .int v_at, .int v_bad, .ref q_used])), (q_cellLength, .inl (cI, 80, .inl o_cellLength)), (q_row, .inl (cI, 2000, .inl o_row)), (q_cell, .inl (cI, 80, .inl v_cell))] sz) 0 0 (va_A [(q_this, .inr (8, [.ref q_now, .ref q_disk, .ref q_before, .int v_onDisk, .int v_head, .int v_headPages, .int v_records, .ref q_recordPage, .ref q_recordBytes, .int v_up, .int v_armed, .int v_columns, .ref q_isBlob, .ref q_integer, .ref q_size, .ref q_blobs, .int v_length, .ref q_record, .int v_kind, .int v_cells, .int v_last, .ref q_cellLength, .ref q_row, .int v_made, .ref q_cell, .int v_deep, .ref q_way, .ref q_turn, .int v_at, .int v_bad, .ref q_used])), (q_cellLength, .inl (cI, 80, .inl v_cellLength)), (q_row, .inl (cI, 2000, .inl v_row)), (q_cell, .inl (cI, 80, .inl v_cell))] sz) := by
  refine pu_mtv [.ref q_this, .int x_1] [(q_this, .inr (8, [.ref q_now, .ref q_disk, .ref q_before, .int v_onDisk, .int v_head, .int v_headPages, .int v_records, .ref q_recordPage, .ref q_recordBytes, .int v_up, .int v_armed, .int v_columns, .ref q_isBlob, .ref q_integer, .ref q_size, .ref q_blobs, .int v_length, .ref q_record, .int v_kind, .int v_cells, .int v_last, .ref q_cellLength, .ref q_row, .int v_made, .ref q_cell, .int v_deep, .ref q_way, .ref q_turn, .int v_at, .int v_bad, .ref q_used])), (q_cellLength, .inl (cI, 80, .inl v_cellLength)), (q_row, .inl (cI, 2000, .inl v_row)), (q_cell, .inl (cI, 80, .inl v_cell))] [(q_this, .inr (8, [.ref q_now, .ref q_disk, .ref q_before, .int v_onDisk, .int v_head, .int v_headPages, .int v_records, .ref q_recordPage, .ref q_recordBytes, .int v_up, .int v_armed, .int v_columns, .ref q_isBlob, .ref q_integer, .ref q_size, .ref q_blobs, .int v_length, .ref q_record, .int v_kind, .int o_cells, .int v_last, .ref q_cellLength, .ref q_row, .int v_made, .ref q_cell, .int v_deep, .ref q_way, .ref q_turn, .int v_at, .int v_bad, .ref q_used])), (q_cellLength, .inl (cI, 80, .inl o_cellLength)), (q_row, .inl (cI, 2000, .inl o_row)), (q_cell, .inl (cI, 80, .inl v_cell))] (by decide) (Nat.le_of_ble_eq_true rfl) ?_
  intro p e s m args below meth c A Q ls hx hb hml hts hN hown hK hA hP hD hl hret0
  have hS : va_S A s.heap s.heap [] := va_S.rf
  have hl : lv_has ls 4 [(0, .ref q_this), (1, .int x_1)] := hl
  have hret : ∀ (pc : Nat) (ls : Array Slot) (H : Heap) (locs : List Loc) (y_0 : Int32) (y_1 : Nat → Int32) (y_2 : Nat → Int32), decode b_MD_insertCell pc = .ok (.return_, 1) → va_P D pu_cl [(q_this, .inr (8, [.ref q_now, .ref q_disk, .ref q_before, .int v_onDisk, .int v_head, .int v_headPages, .int v_records, .ref q_recordPage, .ref q_recordBytes, .int v_up, .int v_armed, .int v_columns, .ref q_isBlob, .ref q_integer, .ref q_size, .ref q_blobs, .int v_length, .ref q_record, .int v_kind, .int y_0, .int v_last, .ref q_cellLength, .ref q_row, .int v_made, .ref q_cell, .int v_deep, .ref q_way, .ref q_turn, .int v_at, .int v_bad, .ref q_used])), (q_cellLength, .inl (cI, 80, .inl y_1)), (q_row, .inl (cI, 2000, .inl y_2)), (q_cell, .inl (cI, 80, .inl v_cell))] H → va_D A [(q_this, .inr (8, [.ref q_now, .ref q_disk, .ref q_before, .int v_onDisk, .int v_head, .int v_headPages, .int v_records, .ref q_recordPage, .ref q_recordBytes, .int v_up, .int v_armed, .int v_columns, .ref q_isBlob, .ref q_integer, .ref q_size, .ref q_blobs, .int v_length, .ref q_record, .int v_kind, .int y_0, .int v_last, .ref q_cellLength, .ref q_row, .int v_made, .ref q_cell, .int v_deep, .ref q_way, .ref q_turn, .int v_at, .int v_bad, .ref q_used])), (q_cellLength, .inl (cI, 80, .inl y_1)), (q_row, .inl (cI, 2000, .inl y_2)), (q_cell, .inl (cI, 80, .inl v_cell))] → va_S A s.heap H locs → some (y_0, y_1, y_2) = some (o_cells, o_cellLength, o_row) → W p l e rm_MD_insertCell s m args below meth c H locs 0 0 Q (F0 m pc ls []) := by
    intro pc ls H locs y_0 y_1 y_2 hd hP hD hS hf
    cases hf
    exact hret0 pc ls H locs hd hP hD hS
  clear hret0
  unfold f_MD_insertCell at hf
  skip
  have lb_105 : ∀ (v_cells : Int32) (v_cellLength : Nat → Int32) (v_row : Nat → Int32) (x_1 : Int32) (H : Heap) (locs : List Loc) (ls : Array Slot), va_P D pu_cl [(q_this, .inr (8, [.ref q_now, .ref q_disk, .ref q_before, .int v_onDisk, .int v_head, .int v_headPages, .int v_records, .ref q_recordPage, .ref q_recordBytes, .int v_up, .int v_armed, .int v_columns, .ref q_isBlob, .ref q_integer, .ref q_size, .ref q_blobs, .int v_length, .ref q_record, .int v_kind, .int v_cells, .int v_last, .ref q_cellLength, .ref q_row, .int v_made, .ref q_cell, .int v_deep, .ref q_way, .ref q_turn, .int v_at, .int v_bad, .ref q_used])), (q_cellLength, .inl (cI, 80, .inl v_cellLength)), (q_row, .inl (cI, 2000, .inl v_row)), (q_cell, .inl (cI, 80, .inl v_cell))] H → va_D A [(q_this, .inr (8, [.ref q_now, .ref q_disk, .ref q_before, .int v_onDisk, .int v_head, .int v_headPages, .int v_records, .ref q_recordPage, .ref q_recordBytes, .int v_up, .int v_armed, .int v_columns, .ref q_isBlob, .ref q_integer, .ref q_size, .ref q_blobs, .int v_length, .ref q_record, .int v_kind, .int v_cells, .int v_last, .ref q_cellLength, .ref q_row, .int v_made, .ref q_cell, .int v_deep, .ref q_way, .ref q_turn, .int v_at, .int v_bad, .ref q_used])), (q_cellLength, .inl (cI, 80, .inl v_cellLength)), (q_row, .inl (cI, 2000, .inl v_row)), (q_cell, .inl (cI, 80, .inl v_cell))] → va_S A s.heap H locs → lv_has ls 4 [(0, .ref q_this), (1, .int x_1)] → q_MD_insertCell_105 v_made v_cell v_cells v_cellLength v_row x_1 = some (o_cells, o_cellLength, o_row) → W p l e rm_MD_insertCell s m args below meth c H locs 0 0 Q (F0 m 105 ls []) := by
    intro v_cells v_cellLength v_row x_1 H locs ls hP hD hS hl hf
    rw [q_MD_insertCell_105] at hf
    refine lv_aload_n hx hb d_MD_insertCell_105 rfl (lv_at hl 0 rfl) ?_
    refine gf_MD_53 (v := .ref q_cellLength) hx hb hts hN hown hK hP 0 rfl rfl d_MD_insertCell_106 ?_
    refine lv_iload_n hx hb d_MD_insertCell_109 rfl (lv_at hl 1 rfl) ?_
    refine lv_aload_n hx hb d_MD_insertCell_110 rfl (lv_at hl 0 rfl) ?_
    refine gf_MD_126 (v := .int v_made) hx hb hts hN hown hK hP 0 rfl rfl d_MD_insertCell_111 ?_
    obtain ⟨hin, hf⟩ := pu_ck_some hf
    obtain ⟨a4, e_a4, hf⟩ := pu_nm_some hf
    refine va_iast hx hb hK hP hD hS 1 0 rfl rfl hin d_MD_insertCell_114 (fun H locs hP hD hS => ?_)
    have hP : va_P D pu_cl [(q_this, .inr (8, [.ref q_now, .ref q_disk, .ref q_before, .int v_onDisk, .int v_head, .int v_headPages, .int v_records, .ref q_recordPage, .ref q_recordBytes, .int v_up, .int v_armed, .int v_columns, .ref q_isBlob, .ref q_integer, .ref q_size, .ref q_blobs, .int v_length, .ref q_record, .int v_kind, .int v_cells, .int v_last, .ref q_cellLength, .ref q_row, .int v_made, .ref q_cell, .int v_deep, .ref q_way, .ref q_turn, .int v_at, .int v_bad, .ref q_used])), (q_cellLength, .inl (cI, 80, .inl a4)), (q_row, .inl (cI, 2000, .inl v_row)), (q_cell, .inl (cI, 80, .inl v_cell))] H := by rw [e_a4]; exact hP
    have hD : va_D A [(q_this, .inr (8, [.ref q_now, .ref q_disk, .ref q_before, .int v_onDisk, .int v_head, .int v_headPages, .int v_records, .ref q_recordPage, .ref q_recordBytes, .int v_up, .int v_armed, .int v_columns, .ref q_isBlob, .ref q_integer, .ref q_size, .ref q_blobs, .int v_length, .ref q_record, .int v_kind, .int v_cells, .int v_last, .ref q_cellLength, .ref q_row, .int v_made, .ref q_cell, .int v_deep, .ref q_way, .ref q_turn, .int v_at, .int v_bad, .ref q_used])), (q_cellLength, .inl (cI, 80, .inl a4)), (q_row, .inl (cI, 2000, .inl v_row)), (q_cell, .inl (cI, 80, .inl v_cell))] := by rw [e_a4]; exact hD
    refine lv_aload_n hx hb d_MD_insertCell_115 rfl (lv_at hl 0 rfl) ?_
    refine lv_dup hx hb d_MD_insertCell_116 rfl ?_
    refine gf_MD_109 (v := .int v_cells) hx hb hts hN hown hK hP 0 rfl rfl d_MD_insertCell_117 ?_
    refine lv_iconst (v := 1) hx hb d_MD_insertCell_120 rfl ?_
    refine lv_iadd hx hb d_MD_insertCell_121 ?_
    obtain ⟨t5, e_t5, hf⟩ := pu_nm_some hf
    refine pu_ti e_t5 ?_
    refine pf_MD_109 (v := .int t5) hx hb hts hN hown hK hP hD hS 0 rfl rfl rfl (Nat.le_of_ble_eq_true rfl) d_MD_insertCell_122 (fun H locs hP hD hS => ?_)
    have hP : va_P D pu_cl [(q_this, .inr (8, [.ref q_now, .ref q_disk, .ref q_before, .int v_onDisk, .int v_head, .int v_headPages, .int v_records, .ref q_recordPage, .ref q_recordBytes, .int v_up, .int v_armed, .int v_columns, .ref q_isBlob, .ref q_integer, .ref q_size, .ref q_blobs, .int v_length, .ref q_record, .int v_kind, .int t5, .int v_last, .ref q_cellLength, .ref q_row, .int v_made, .ref q_cell, .int v_deep, .ref q_way, .ref q_turn, .int v_at, .int v_bad, .ref q_used])), (q_cellLength, .inl (cI, 80, .inl a4)), (q_row, .inl (cI, 2000, .inl v_row)), (q_cell, .inl (cI, 80, .inl v_cell))] H := hP
    have hD : va_D A [(q_this, .inr (8, [.ref q_now, .ref q_disk, .ref q_before, .int v_onDisk, .int v_head, .int v_headPages, .int v_records, .ref q_recordPage, .ref q_recordBytes, .int v_up, .int v_armed, .int v_columns, .ref q_isBlob, .ref q_integer, .ref q_size, .ref q_blobs, .int v_length, .ref q_record, .int v_kind, .int t5, .int v_last, .ref q_cellLength, .ref q_row, .int v_made, .ref q_cell, .int v_deep, .ref q_way, .ref q_turn, .int v_at, .int v_bad, .ref q_used])), (q_cellLength, .inl (cI, 80, .inl a4)), (q_row, .inl (cI, 2000, .inl v_row)), (q_cell, .inl (cI, 80, .inl v_cell))] := hD
    exact hret _ _ _ _ t5 a4 v_row d_MD_insertCell_125 hP hD hS hf
  have lp_80 : ∀ (v_cells : Int32) (v_row : Nat → Int32) (x_1 : Int32) (n80 : Nat) (v_cellLength : Nat → Int32) (x_3 : Int32) (H : Heap) (locs : List Loc) (ls : Array Slot), va_P D pu_cl [(q_this, .inr (8, [.ref q_now, .ref q_disk, .ref q_before, .int v_onDisk, .int v_head, .int v_headPages, .int v_records, .ref q_recordPage, .ref q_recordBytes, .int v_up, .int v_armed, .int v_columns, .ref q_isBlob, .ref q_integer, .ref q_size, .ref q_blobs, .int v_length, .ref q_record, .int v_kind, .int v_cells, .int v_last, .ref q_cellLength, .ref q_row, .int v_made, .ref q_cell, .int v_deep, .ref q_way, .ref q_turn, .int v_at, .int v_bad, .ref q_used])), (q_cellLength, .inl (cI, 80, .inl v_cellLength)), (q_row, .inl (cI, 2000, .inl v_row)), (q_cell, .inl (cI, 80, .inl v_cell))] H → va_D A [(q_this, .inr (8, [.ref q_now, .ref q_disk, .ref q_before, .int v_onDisk, .int v_head, .int v_headPages, .int v_records, .ref q_recordPage, .ref q_recordBytes, .int v_up, .int v_armed, .int v_columns, .ref q_isBlob, .ref q_integer, .ref q_size, .ref q_blobs, .int v_length, .ref q_record, .int v_kind, .int v_cells, .int v_last, .ref q_cellLength, .ref q_row, .int v_made, .ref q_cell, .int v_deep, .ref q_way, .ref q_turn, .int v_at, .int v_bad, .ref q_used])), (q_cellLength, .inl (cI, 80, .inl v_cellLength)), (q_row, .inl (cI, 2000, .inl v_row)), (q_cell, .inl (cI, 80, .inl v_cell))] → va_S A s.heap H locs → lv_has ls 4 [(0, .ref q_this), (1, .int x_1), (3, .int x_3)] → q_MD_insertCell_80 (fun v_cellLength => q_MD_insertCell_105 v_made v_cell v_cells v_cellLength v_row x_1) v_made v_cell v_cells v_row x_1 n80 v_cellLength x_3 = some (o_cells, o_cellLength, o_row) → W p l e rm_MD_insertCell s m args below meth c H locs 0 0 Q (F0 m 80 ls []) := by
    intro v_cells v_row x_1 n80
    induction n80 with
    | zero =>
      intro v_cellLength x_3 H locs ls hP hD hS hl hf
      rw [q_MD_insertCell_80] at hf
      cases hf
    | succ n80 ih_80 =>
      intro v_cellLength x_3 H locs ls hP hD hS hl hf
      rw [q_MD_insertCell_80] at hf
      refine lv_iload_n hx hb d_MD_insertCell_80 rfl (lv_at hl 2 rfl) ?_
      refine lv_iload_n hx hb d_MD_insertCell_81 rfl (lv_at hl 1 rfl) ?_
      refine lv_icmp_le (tgt := 105) hx hb d_MD_insertCell_82 rfl (fun hc => ?_) (fun hc => ?_)
      · have hf := pu_br_pos hf hc
        exact lb_105 v_cells v_cellLength v_row x_1 H locs ls hP hD hS (lv_sub hl [0, 1] rfl) hf
      have hf := pu_br_neg hf hc
      refine lv_aload_n hx hb d_MD_insertCell_85 rfl (lv_at hl 0 rfl) ?_
      refine gf_MD_53 (v := .ref q_cellLength) hx hb hts hN hown hK hP 0 rfl rfl d_MD_insertCell_86 ?_
      refine lv_iload_n hx hb d_MD_insertCell_89 rfl (lv_at hl 2 rfl) ?_
      refine lv_aload_n hx hb d_MD_insertCell_90 rfl (lv_at hl 0 rfl) ?_
      refine gf_MD_53 (v := .ref q_cellLength) hx hb hts hN hown hK hP 0 rfl rfl d_MD_insertCell_91 ?_
      refine lv_iload_n hx hb d_MD_insertCell_94 rfl (lv_at hl 2 rfl) ?_
      refine lv_iconst (v := 1) hx hb d_MD_insertCell_95 rfl ?_
      refine lv_isub hx hb d_MD_insertCell_96 ?_
      obtain ⟨hin, hf⟩ := pu_ck_some hf
      refine va_iald hx hb hK hP 1 0 rfl rfl hin d_MD_insertCell_97 ?_
      obtain ⟨hin, hf⟩ := pu_ck_some hf
      obtain ⟨a6, e_a6, hf⟩ := pu_nm_some hf
      refine va_iast hx hb hK hP hD hS 1 0 rfl rfl hin d_MD_insertCell_98 (fun H locs hP hD hS => ?_)
      have hP : va_P D pu_cl [(q_this, .inr (8, [.ref q_now, .ref q_disk, .ref q_before, .int v_onDisk, .int v_head, .int v_headPages, .int v_records, .ref q_recordPage, .ref q_recordBytes, .int v_up, .int v_armed, .int v_columns, .ref q_isBlob, .ref q_integer, .ref q_size, .ref q_blobs, .int v_length, .ref q_record, .int v_kind, .int v_cells, .int v_last, .ref q_cellLength, .ref q_row, .int v_made, .ref q_cell, .int v_deep, .ref q_way, .ref q_turn, .int v_at, .int v_bad, .ref q_used])), (q_cellLength, .inl (cI, 80, .inl a6)), (q_row, .inl (cI, 2000, .inl v_row)), (q_cell, .inl (cI, 80, .inl v_cell))] H := by rw [e_a6]; exact hP
      have hD : va_D A [(q_this, .inr (8, [.ref q_now, .ref q_disk, .ref q_before, .int v_onDisk, .int v_head, .int v_headPages, .int v_records, .ref q_recordPage, .ref q_recordBytes, .int v_up, .int v_armed, .int v_columns, .ref q_isBlob, .ref q_integer, .ref q_size, .ref q_blobs, .int v_length, .ref q_record, .int v_kind, .int v_cells, .int v_last, .ref q_cellLength, .ref q_row, .int v_made, .ref q_cell, .int v_deep, .ref q_way, .ref q_turn, .int v_at, .int v_bad, .ref q_used])), (q_cellLength, .inl (cI, 80, .inl a6)), (q_row, .inl (cI, 2000, .inl v_row)), (q_cell, .inl (cI, 80, .inl v_cell))] := by rw [e_a6]; exact hD
      obtain ⟨t7, e_t7, hf⟩ := pu_nm_some hf
      refine lv_iinc (k := 2) (v := t7) hx hb d_MD_insertCell_99 hl rfl e_t7.symm (by decide) rfl (fun ls hl => ?_)
      have hl : lv_has ls 4 [(3, .int t7), (0, .ref q_this), (1, .int x_1)] := hl
      refine lv_goto (tgt := 80) hx hb d_MD_insertCell_102 rfl ?_
      exact ih_80 a6 t7 H locs ls hP hD hS (lv_sub hl [1, 2, 0] rfl) hf
  have lb_75 : ∀ (v_cells : Int32) (v_cellLength : Nat → Int32) (v_row : Nat → Int32) (x_1 : Int32) (H : Heap) (locs : List Loc) (ls : Array Slot), va_P D pu_cl [(q_this, .inr (8, [.ref q_now, .ref q_disk, .ref q_before, .int v_onDisk, .int v_head, .int v_headPages, .int v_records, .ref q_recordPage, .ref q_recordBytes, .int v_up, .int v_armed, .int v_columns, .ref q_isBlob, .ref q_integer, .ref q_size, .ref q_blobs, .int v_length, .ref q_record, .int v_kind, .int v_cells, .int v_last, .ref q_cellLength, .ref q_row, .int v_made, .ref q_cell, .int v_deep, .ref q_way, .ref q_turn, .int v_at, .int v_bad, .ref q_used])), (q_cellLength, .inl (cI, 80, .inl v_cellLength)), (q_row, .inl (cI, 2000, .inl v_row)), (q_cell, .inl (cI, 80, .inl v_cell))] H → va_D A [(q_this, .inr (8, [.ref q_now, .ref q_disk, .ref q_before, .int v_onDisk, .int v_head, .int v_headPages, .int v_records, .ref q_recordPage, .ref q_recordBytes, .int v_up, .int v_armed, .int v_columns, .ref q_isBlob, .ref q_integer, .ref q_size, .ref q_blobs, .int v_length, .ref q_record, .int v_kind, .int v_cells, .int v_last, .ref q_cellLength, .ref q_row, .int v_made, .ref q_cell, .int v_deep, .ref q_way, .ref q_turn, .int v_at, .int v_bad, .ref q_used])), (q_cellLength, .inl (cI, 80, .inl v_cellLength)), (q_row, .inl (cI, 2000, .inl v_row)), (q_cell, .inl (cI, 80, .inl v_cell))] → va_S A s.heap H locs → lv_has ls 4 [(0, .ref q_this), (1, .int x_1)] → q_MD_insertCell_75 v_made v_cell v_cells v_cellLength v_row x_1 = some (o_cells, o_cellLength, o_row) → W p l e rm_MD_insertCell s m args below meth c H locs 0 0 Q (F0 m 75 ls []) := by
    intro v_cells v_cellLength v_row x_1 H locs ls hP hD hS hl hf
    rw [q_MD_insertCell_75] at hf
    refine lv_aload_n hx hb d_MD_insertCell_75 rfl (lv_at hl 0 rfl) ?_
    refine gf_MD_109 (v := .int v_cells) hx hb hts hN hown hK hP 0 rfl rfl d_MD_insertCell_76 ?_
    refine lv_istore_n hx hb d_MD_insertCell_79 rfl hl (by decide) rfl (fun ls hl => ?_)
    have hl : lv_has ls 4 [(3, .int v_cells), (0, .ref q_this), (1, .int x_1)] := hl
    exact lp_80 v_cells v_row x_1 _ v_cellLength v_cells H locs ls hP hD hS (lv_sub hl [1, 2, 0] rfl) hf
  have lp_47 : ∀ (v_cells : Int32) (v_cellLength : Nat → Int32) (x_1 : Int32) (x_2 : Int32) (n47 : Nat) (v_row : Nat → Int32) (x_3 : Int32) (H : Heap) (locs : List Loc) (ls : Array Slot), va_P D pu_cl [(q_this, .inr (8, [.ref q_now, .ref q_disk, .ref q_before, .int v_onDisk, .int v_head, .int v_headPages, .int v_records, .ref q_recordPage, .ref q_recordBytes, .int v_up, .int v_armed, .int v_columns, .ref q_isBlob, .ref q_integer, .ref q_size, .ref q_blobs, .int v_length, .ref q_record, .int v_kind, .int v_cells, .int v_last, .ref q_cellLength, .ref q_row, .int v_made, .ref q_cell, .int v_deep, .ref q_way, .ref q_turn, .int v_at, .int v_bad, .ref q_used])), (q_cellLength, .inl (cI, 80, .inl v_cellLength)), (q_row, .inl (cI, 2000, .inl v_row)), (q_cell, .inl (cI, 80, .inl v_cell))] H → va_D A [(q_this, .inr (8, [.ref q_now, .ref q_disk, .ref q_before, .int v_onDisk, .int v_head, .int v_headPages, .int v_records, .ref q_recordPage, .ref q_recordBytes, .int v_up, .int v_armed, .int v_columns, .ref q_isBlob, .ref q_integer, .ref q_size, .ref q_blobs, .int v_length, .ref q_record, .int v_kind, .int v_cells, .int v_last, .ref q_cellLength, .ref q_row, .int v_made, .ref q_cell, .int v_deep, .ref q_way, .ref q_turn, .int v_at, .int v_bad, .ref q_used])), (q_cellLength, .inl (cI, 80, .inl v_cellLength)), (q_row, .inl (cI, 2000, .inl v_row)), (q_cell, .inl (cI, 80, .inl v_cell))] → va_S A s.heap H locs → lv_has ls 4 [(0, .ref q_this), (1, .int x_1), (2, .int x_2), (3, .int x_3)] → q_MD_insertCell_47 (fun v_row => q_MD_insertCell_75 v_made v_cell v_cells v_cellLength v_row x_1) v_made v_cell v_cells v_cellLength x_1 x_2 n47 v_row x_3 = some (o_cells, o_cellLength, o_row) → W p l e rm_MD_insertCell s m args below meth c H locs 0 0 Q (F0 m 47 ls []) := by
    intro v_cells v_cellLength x_1 x_2 n47
    induction n47 with
    | zero =>
      intro v_row x_3 H locs ls hP hD hS hl hf
      rw [q_MD_insertCell_47] at hf
      cases hf
    | succ n47 ih_47 =>
      intro v_row x_3 H locs ls hP hD hS hl hf
      rw [q_MD_insertCell_47] at hf
      refine lv_iload_n hx hb d_MD_insertCell_47 rfl (lv_at hl 3 rfl) ?_
      refine lv_aload_n hx hb d_MD_insertCell_48 rfl (lv_at hl 0 rfl) ?_
      refine gf_MD_126 (v := .int v_made) hx hb hts hN hown hK hP 0 rfl rfl d_MD_insertCell_49 ?_
      refine lv_icmp_ge (tgt := 75) hx hb d_MD_insertCell_52 rfl (fun hc => ?_) (fun hc => ?_)
      · have hf := pu_br_pos hf hc
        exact lb_75 v_cells v_cellLength v_row x_1 H locs ls hP hD hS (lv_sub hl [0, 1] rfl) hf
      have hf := pu_br_neg hf hc
      refine lv_aload_n hx hb d_MD_insertCell_55 rfl (lv_at hl 0 rfl) ?_
      refine gf_MD_56 (v := .ref q_row) hx hb hts hN hown hK hP 0 rfl rfl d_MD_insertCell_56 ?_
      refine lv_iload_n hx hb d_MD_insertCell_59 rfl (lv_at hl 2 rfl) ?_
      refine lv_iload_n hx hb d_MD_insertCell_60 rfl (lv_at hl 3 rfl) ?_
      refine lv_iadd hx hb d_MD_insertCell_61 ?_
      refine lv_aload_n hx hb d_MD_insertCell_62 rfl (lv_at hl 0 rfl) ?_
      refine gf_MD_59 (v := .ref q_cell) hx hb hts hN hown hK hP 0 rfl rfl d_MD_insertCell_63 ?_
      refine lv_iload_n hx hb d_MD_insertCell_66 rfl (lv_at hl 3 rfl) ?_
      obtain ⟨hin, hf⟩ := pu_ck_some hf
      refine va_iald hx hb hK hP 3 0 rfl rfl hin d_MD_insertCell_67 ?_
      obtain ⟨hin, hf⟩ := pu_ck_some hf
      obtain ⟨a8, e_a8, hf⟩ := pu_nm_some hf
      refine va_iast hx hb hK hP hD hS 2 0 rfl rfl hin d_MD_insertCell_68 (fun H locs hP hD hS => ?_)
      have hP : va_P D pu_cl [(q_this, .inr (8, [.ref q_now, .ref q_disk, .ref q_before, .int v_onDisk, .int v_head, .int v_headPages, .int v_records, .ref q_recordPage, .ref q_recordBytes, .int v_up, .int v_armed, .int v_columns, .ref q_isBlob, .ref q_integer, .ref q_size, .ref q_blobs, .int v_length, .ref q_record, .int v_kind, .int v_cells, .int v_last, .ref q_cellLength, .ref q_row, .int v_made, .ref q_cell, .int v_deep, .ref q_way, .ref q_turn, .int v_at, .int v_bad, .ref q_used])), (q_cellLength, .inl (cI, 80, .inl v_cellLength)), (q_row, .inl (cI, 2000, .inl a8)), (q_cell, .inl (cI, 80, .inl v_cell))] H := by rw [e_a8]; exact hP
      have hD : va_D A [(q_this, .inr (8, [.ref q_now, .ref q_disk, .ref q_before, .int v_onDisk, .int v_head, .int v_headPages, .int v_records, .ref q_recordPage, .ref q_recordBytes, .int v_up, .int v_armed, .int v_columns, .ref q_isBlob, .ref q_integer, .ref q_size, .ref q_blobs, .int v_length, .ref q_record, .int v_kind, .int v_cells, .int v_last, .ref q_cellLength, .ref q_row, .int v_made, .ref q_cell, .int v_deep, .ref q_way, .ref q_turn, .int v_at, .int v_bad, .ref q_used])), (q_cellLength, .inl (cI, 80, .inl v_cellLength)), (q_row, .inl (cI, 2000, .inl a8)), (q_cell, .inl (cI, 80, .inl v_cell))] := by rw [e_a8]; exact hD
      obtain ⟨t9, e_t9, hf⟩ := pu_nm_some hf
      refine lv_iinc (k := 3) (v := t9) hx hb d_MD_insertCell_69 hl rfl e_t9.symm (by decide) rfl (fun ls hl => ?_)
      have hl : lv_has ls 4 [(3, .int t9), (0, .ref q_this), (1, .int x_1), (2, .int x_2)] := hl
      refine lv_goto (tgt := 47) hx hb d_MD_insertCell_72 rfl ?_
      exact ih_47 a8 t9 H locs ls hP hD hS (lv_sub hl [1, 2, 3, 0] rfl) hf
  have lb_45 : ∀ (v_cells : Int32) (v_cellLength : Nat → Int32) (v_row : Nat → Int32) (x_1 : Int32) (x_2 : Int32) (H : Heap) (locs : List Loc) (ls : Array Slot), va_P D pu_cl [(q_this, .inr (8, [.ref q_now, .ref q_disk, .ref q_before, .int v_onDisk, .int v_head, .int v_headPages, .int v_records, .ref q_recordPage, .ref q_recordBytes, .int v_up, .int v_armed, .int v_columns, .ref q_isBlob, .ref q_integer, .ref q_size, .ref q_blobs, .int v_length, .ref q_record, .int v_kind, .int v_cells, .int v_last, .ref q_cellLength, .ref q_row, .int v_made, .ref q_cell, .int v_deep, .ref q_way, .ref q_turn, .int v_at, .int v_bad, .ref q_used])), (q_cellLength, .inl (cI, 80, .inl v_cellLength)), (q_row, .inl (cI, 2000, .inl v_row)), (q_cell, .inl (cI, 80, .inl v_cell))] H → va_D A [(q_this, .inr (8, [.ref q_now, .ref q_disk, .ref q_before, .int v_onDisk, .int v_head, .int v_headPages, .int v_records, .ref q_recordPage, .ref q_recordBytes, .int v_up, .int v_armed, .int v_columns, .ref q_isBlob, .ref q_integer, .ref q_size, .ref q_blobs, .int v_length, .ref q_record, .int v_kind, .int v_cells, .int v_last, .ref q_cellLength, .ref q_row, .int v_made, .ref q_cell, .int v_deep, .ref q_way, .ref q_turn, .int v_at, .int v_bad, .ref q_used])), (q_cellLength, .inl (cI, 80, .inl v_cellLength)), (q_row, .inl (cI, 2000, .inl v_row)), (q_cell, .inl (cI, 80, .inl v_cell))] → va_S A s.heap H locs → lv_has ls 4 [(0, .ref q_this), (1, .int x_1), (2, .int x_2)] → q_MD_insertCell_45 v_made v_cell v_cells v_cellLength v_row x_1 x_2 = some (o_cells, o_cellLength, o_row) → W p l e rm_MD_insertCell s m args below meth c H locs 0 0 Q (F0 m 45 ls []) := by
    intro v_cells v_cellLength v_row x_1 x_2 H locs ls hP hD hS hl hf
    rw [q_MD_insertCell_45] at hf
    refine lv_iconst (v := 0) hx hb d_MD_insertCell_45 rfl ?_
    refine lv_istore_n hx hb d_MD_insertCell_46 rfl hl (by decide) rfl (fun ls hl => ?_)
    have hl : lv_has ls 4 [(3, .int (0 : Int32)), (0, .ref q_this), (1, .int x_1), (2, .int x_2)] := hl
    exact lp_47 v_cells v_cellLength x_1 x_2 _ v_row (0 : Int32) H locs ls hP hD hS (lv_sub hl [1, 2, 3, 0] rfl) hf
  have lp_17 : ∀ (v_cells : Int32) (v_cellLength : Nat → Int32) (x_1 : Int32) (x_2 : Int32) (n17 : Nat) (v_row : Nat → Int32) (x_3 : Int32) (H : Heap) (locs : List Loc) (ls : Array Slot), va_P D pu_cl [(q_this, .inr (8, [.ref q_now, .ref q_disk, .ref q_before, .int v_onDisk, .int v_head, .int v_headPages, .int v_records, .ref q_recordPage, .ref q_recordBytes, .int v_up, .int v_armed, .int v_columns, .ref q_isBlob, .ref q_integer, .ref q_size, .ref q_blobs, .int v_length, .ref q_record, .int v_kind, .int v_cells, .int v_last, .ref q_cellLength, .ref q_row, .int v_made, .ref q_cell, .int v_deep, .ref q_way, .ref q_turn, .int v_at, .int v_bad, .ref q_used])), (q_cellLength, .inl (cI, 80, .inl v_cellLength)), (q_row, .inl (cI, 2000, .inl v_row)), (q_cell, .inl (cI, 80, .inl v_cell))] H → va_D A [(q_this, .inr (8, [.ref q_now, .ref q_disk, .ref q_before, .int v_onDisk, .int v_head, .int v_headPages, .int v_records, .ref q_recordPage, .ref q_recordBytes, .int v_up, .int v_armed, .int v_columns, .ref q_isBlob, .ref q_integer, .ref q_size, .ref q_blobs, .int v_length, .ref q_record, .int v_kind, .int v_cells, .int v_last, .ref q_cellLength, .ref q_row, .int v_made, .ref q_cell, .int v_deep, .ref q_way, .ref q_turn, .int v_at, .int v_bad, .ref q_used])), (q_cellLength, .inl (cI, 80, .inl v_cellLength)), (q_row, .inl (cI, 2000, .inl v_row)), (q_cell, .inl (cI, 80, .inl v_cell))] → va_S A s.heap H locs → lv_has ls 4 [(0, .ref q_this), (1, .int x_1), (2, .int x_2), (3, .int x_3)] → q_MD_insertCell_17 (fun v_row => q_MD_insertCell_45 v_made v_cell v_cells v_cellLength v_row x_1 x_2) v_made v_cell v_cells v_cellLength x_1 x_2 n17 v_row x_3 = some (o_cells, o_cellLength, o_row) → W p l e rm_MD_insertCell s m args below meth c H locs 0 0 Q (F0 m 17 ls []) := by
    intro v_cells v_cellLength x_1 x_2 n17
    induction n17 with
    | zero =>
      intro v_row x_3 H locs ls hP hD hS hl hf
      rw [q_MD_insertCell_17] at hf
      cases hf
    | succ n17 ih_17 =>
      intro v_row x_3 H locs ls hP hD hS hl hf
      rw [q_MD_insertCell_17] at hf
      refine lv_iload_n hx hb d_MD_insertCell_17 rfl (lv_at hl 3 rfl) ?_
      refine lv_iload_n hx hb d_MD_insertCell_18 rfl (lv_at hl 2 rfl) ?_
      refine lv_icmp_lt (tgt := 45) hx hb d_MD_insertCell_19 rfl (fun hc => ?_) (fun hc => ?_)
      · have hf := pu_br_pos hf hc
        exact lb_45 v_cells v_cellLength v_row x_1 x_2 H locs ls hP hD hS (lv_sub hl [0, 1, 2] rfl) hf
      have hf := pu_br_neg hf hc
      refine lv_aload_n hx hb d_MD_insertCell_22 rfl (lv_at hl 0 rfl) ?_
      refine gf_MD_56 (v := .ref q_row) hx hb hts hN hown hK hP 0 rfl rfl d_MD_insertCell_23 ?_
      refine lv_iload_n hx hb d_MD_insertCell_26 rfl (lv_at hl 3 rfl) ?_
      refine lv_aload_n hx hb d_MD_insertCell_27 rfl (lv_at hl 0 rfl) ?_
      refine gf_MD_126 (v := .int v_made) hx hb hts hN hown hK hP 0 rfl rfl d_MD_insertCell_28 ?_
      refine lv_iadd hx hb d_MD_insertCell_31 ?_
      refine lv_aload_n hx hb d_MD_insertCell_32 rfl (lv_at hl 0 rfl) ?_
      refine gf_MD_56 (v := .ref q_row) hx hb hts hN hown hK hP 0 rfl rfl d_MD_insertCell_33 ?_
      refine lv_iload_n hx hb d_MD_insertCell_36 rfl (lv_at hl 3 rfl) ?_
      obtain ⟨hin, hf⟩ := pu_ck_some hf
      refine va_iald hx hb hK hP 2 0 rfl rfl hin d_MD_insertCell_37 ?_
      obtain ⟨hin, hf⟩ := pu_ck_some hf
      obtain ⟨a10, e_a10, hf⟩ := pu_nm_some hf
      refine va_iast hx hb hK hP hD hS 2 0 rfl rfl hin d_MD_insertCell_38 (fun H locs hP hD hS => ?_)
      have hP : va_P D pu_cl [(q_this, .inr (8, [.ref q_now, .ref q_disk, .ref q_before, .int v_onDisk, .int v_head, .int v_headPages, .int v_records, .ref q_recordPage, .ref q_recordBytes, .int v_up, .int v_armed, .int v_columns, .ref q_isBlob, .ref q_integer, .ref q_size, .ref q_blobs, .int v_length, .ref q_record, .int v_kind, .int v_cells, .int v_last, .ref q_cellLength, .ref q_row, .int v_made, .ref q_cell, .int v_deep, .ref q_way, .ref q_turn, .int v_at, .int v_bad, .ref q_used])), (q_cellLength, .inl (cI, 80, .inl v_cellLength)), (q_row, .inl (cI, 2000, .inl a10)), (q_cell, .inl (cI, 80, .inl v_cell))] H := by rw [e_a10]; exact hP
      have hD : va_D A [(q_this, .inr (8, [.ref q_now, .ref q_disk, .ref q_before, .int v_onDisk, .int v_head, .int v_headPages, .int v_records, .ref q_recordPage, .ref q_recordBytes, .int v_up, .int v_armed, .int v_columns, .ref q_isBlob, .ref q_integer, .ref q_size, .ref q_blobs, .int v_length, .ref q_record, .int v_kind, .int v_cells, .int v_last, .ref q_cellLength, .ref q_row, .int v_made, .ref q_cell, .int v_deep, .ref q_way, .ref q_turn, .int v_at, .int v_bad, .ref q_used])), (q_cellLength, .inl (cI, 80, .inl v_cellLength)), (q_row, .inl (cI, 2000, .inl a10)), (q_cell, .inl (cI, 80, .inl v_cell))] := by rw [e_a10]; exact hD
      obtain ⟨t11, e_t11, hf⟩ := pu_nm_some hf
      refine lv_iinc (k := 3) (v := t11) hx hb d_MD_insertCell_39 hl rfl e_t11.symm (by decide) rfl (fun ls hl => ?_)
      have hl : lv_has ls 4 [(3, .int t11), (0, .ref q_this), (1, .int x_1), (2, .int x_2)] := hl
      refine lv_goto (tgt := 17) hx hb d_MD_insertCell_42 rfl ?_
      exact ih_17 a10 t11 H locs ls hP hD hS (lv_sub hl [1, 2, 3, 0] rfl) hf
  obtain ⟨H, hH⟩ : ∃ H, H = s.heap := ⟨_, rfl⟩
  obtain ⟨locs, hlocs⟩ : ∃ locs : List Loc, locs = [] := ⟨_, rfl⟩
  have hP : va_P D pu_cl [(q_this, .inr (8, [.ref q_now, .ref q_disk, .ref q_before, .int v_onDisk, .int v_head, .int v_headPages, .int v_records, .ref q_recordPage, .ref q_recordBytes, .int v_up, .int v_armed, .int v_columns, .ref q_isBlob, .ref q_integer, .ref q_size, .ref q_blobs, .int v_length, .ref q_record, .int v_kind, .int v_cells, .int v_last, .ref q_cellLength, .ref q_row, .int v_made, .ref q_cell, .int v_deep, .ref q_way, .ref q_turn, .int v_at, .int v_bad, .ref q_used])), (q_cellLength, .inl (cI, 80, .inl v_cellLength)), (q_row, .inl (cI, 2000, .inl v_row)), (q_cell, .inl (cI, 80, .inl v_cell))] H := by rw [hH]; exact hP
  have hS : va_S A s.heap H locs := by rw [hH, hlocs]; exact hS
  have goal : W p l e rm_MD_insertCell s m args below meth c H locs 0 0 Q (F0 m 0 ls []) := by
    clear hH hlocs
    refine lv_aload_n hx hb d_MD_insertCell_0 rfl (lv_at hl 0 rfl) ?_
    refine lv_iload_n hx hb d_MD_insertCell_1 rfl (lv_at hl 1 rfl) ?_
    obtain ⟨r1, hc, hf⟩ := pu_b1_some hf
    refine cl_i (WC := [(q_this, .inr (8, [.ref q_now, .ref q_disk, .ref q_before, .int v_onDisk, .int v_head, .int v_headPages, .int v_records, .ref q_recordPage, .ref q_recordBytes, .int v_up, .int v_armed, .int v_columns, .ref q_isBlob, .ref q_integer, .ref q_size, .ref q_blobs, .int v_length, .ref q_record, .int v_kind, .int v_cells, .int v_last, .ref q_cellLength, .ref q_row, .int v_made, .ref q_cell, .int v_deep, .ref q_way, .ref q_turn, .int v_at, .int v_bad, .ref q_used])), (q_cellLength, .inl (cI, 80, .inl v_cellLength))]) (WC2 := [(q_this, .inr (8, [.ref q_now, .ref q_disk, .ref q_before, .int v_onDisk, .int v_head, .int v_headPages, .int v_records, .ref q_recordPage, .ref q_recordBytes, .int v_up, .int v_armed, .int v_columns, .ref q_isBlob, .ref q_integer, .ref q_size, .ref q_blobs, .int v_length, .ref q_record, .int v_kind, .int v_cells, .int v_last, .ref q_cellLength, .ref q_row, .int v_made, .ref q_cell, .int v_deep, .ref q_way, .ref q_turn, .int v_at, .int v_bad, .ref q_used])), (q_cellLength, .inl (cI, 80, .inl v_cellLength))]) (WR := [(q_row, .inl (cI, 2000, .inl v_row)), (q_cell, .inl (cI, 80, .inl v_cell))]) (WS2 := [(q_this, .inr (8, [.ref q_now, .ref q_disk, .ref q_before, .int v_onDisk, .int v_head, .int v_headPages, .int v_records, .ref q_recordPage, .ref q_recordBytes, .int v_up, .int v_armed, .int v_columns, .ref q_isBlob, .ref q_integer, .ref q_size, .ref q_blobs, .int v_length, .ref q_record, .int v_kind, .int v_cells, .int v_last, .ref q_cellLength, .ref q_row, .int v_made, .ref q_cell, .int v_deep, .ref q_way, .ref q_turn, .int v_at, .int v_bad, .ref q_used])), (q_cellLength, .inl (cI, 80, .inl v_cellLength)), (q_row, .inl (cI, 2000, .inl v_row)), (q_cell, .inl (cI, 80, .inl v_cell))]) (pu_rv (cl := pu_cl) (pu_in11 _ (List.mem_of_getElem? (i := 41) rfl)) (pu_in11 _ (List.mem_of_getElem? (i := 42) rfl)) (pu_in14 _ (List.mem_of_getElem? (i := 27) rfl)) (pu_in0 _ (List.mem_of_getElem? (i := 10) rfl)) (pu_in11 _ (List.mem_of_getElem? (i := 43) rfl)) (ci := 8) rfl hd_MD_start (by decide) ⟨rfl, rfl⟩ rfl rfl (Nat.le_of_ble_eq_true rfl) rfl (As := [.int x_1]) (rest := []) (WC := [(q_this, .inr (8, [.ref q_now, .ref q_disk, .ref q_before, .int v_onDisk, .int v_head, .int v_headPages, .int v_records, .ref q_recordPage, .ref q_recordBytes, .int v_up, .int v_armed, .int v_columns, .ref q_isBlob, .ref q_integer, .ref q_size, .ref q_blobs, .int v_length, .ref q_record, .int v_kind, .int v_cells, .int v_last, .ref q_cellLength, .ref q_row, .int v_made, .ref q_cell, .int v_deep, .ref q_way, .ref q_turn, .int v_at, .int v_bad, .ref q_used])), (q_cellLength, .inl (cI, 80, .inl v_cellLength))]) hx hb hml hown hts hN hK hP hD (c_MD_start l D cI cJ cB cZ H.size q_this q_now q_disk q_before q_recordPage q_recordBytes q_isBlob q_integer q_size q_blobs q_record q_cellLength q_row q_cell q_way q_turn q_used v_onDisk v_head v_headPages v_records v_up v_armed v_columns v_length v_kind v_cells v_last v_made v_deep v_at v_bad v_cellLength x_1 r1 hc) [0, 1] rfl rfl hl.1 d_MD_insertCell_2) hP hD hS hA [0, 1] [2, 3] [2, 3, 0, 1] rfl rfl rfl (by decide) rfl rfl (fun H locs hP hD hS => ?_)
    refine lv_istore_n hx hb d_MD_insertCell_5 rfl hl (by decide) rfl (fun ls hl => ?_)
    have hl : lv_has ls 4 [(2, .int r1), (0, .ref q_this), (1, .int x_1)] := hl
    refine lv_aload_n hx hb d_MD_insertCell_6 rfl (lv_at hl 1 rfl) ?_
    refine lv_aload_n hx hb d_MD_insertCell_7 rfl (lv_at hl 1 rfl) ?_
    refine gf_MD_109 (v := .int v_cells) hx hb hts hN hown hK hP 0 rfl rfl d_MD_insertCell_8 ?_
    obtain ⟨r2, hc, hf⟩ := pu_b1_some hf
    refine cl_i (WC := [(q_this, .inr (8, [.ref q_now, .ref q_disk, .ref q_before, .int v_onDisk, .int v_head, .int v_headPages, .int v_records, .ref q_recordPage, .ref q_recordBytes, .int v_up, .int v_armed, .int v_columns, .ref q_isBlob, .ref q_integer, .ref q_size, .ref q_blobs, .int v_length, .ref q_record, .int v_kind, .int v_cells, .int v_last, .ref q_cellLength, .ref q_row, .int v_made, .ref q_cell, .int v_deep, .ref q_way, .ref q_turn, .int v_at, .int v_bad, .ref q_used])), (q_cellLength, .inl (cI, 80, .inl v_cellLength))]) (WC2 := [(q_this, .inr (8, [.ref q_now, .ref q_disk, .ref q_before, .int v_onDisk, .int v_head, .int v_headPages, .int v_records, .ref q_recordPage, .ref q_recordBytes, .int v_up, .int v_armed, .int v_columns, .ref q_isBlob, .ref q_integer, .ref q_size, .ref q_blobs, .int v_length, .ref q_record, .int v_kind, .int v_cells, .int v_last, .ref q_cellLength, .ref q_row, .int v_made, .ref q_cell, .int v_deep, .ref q_way, .ref q_turn, .int v_at, .int v_bad, .ref q_used])), (q_cellLength, .inl (cI, 80, .inl v_cellLength))]) (WR := [(q_row, .inl (cI, 2000, .inl v_row)), (q_cell, .inl (cI, 80, .inl v_cell))]) (WS2 := [(q_this, .inr (8, [.ref q_now, .ref q_disk, .ref q_before, .int v_onDisk, .int v_head, .int v_headPages, .int v_records, .ref q_recordPage, .ref q_recordBytes, .int v_up, .int v_armed, .int v_columns, .ref q_isBlob, .ref q_integer, .ref q_size, .ref q_blobs, .int v_length, .ref q_record, .int v_kind, .int v_cells, .int v_last, .ref q_cellLength, .ref q_row, .int v_made, .ref q_cell, .int v_deep, .ref q_way, .ref q_turn, .int v_at, .int v_bad, .ref q_used])), (q_cellLength, .inl (cI, 80, .inl v_cellLength)), (q_row, .inl (cI, 2000, .inl v_row)), (q_cell, .inl (cI, 80, .inl v_cell))]) (pu_rv (cl := pu_cl) (pu_in11 _ (List.mem_of_getElem? (i := 41) rfl)) (pu_in11 _ (List.mem_of_getElem? (i := 42) rfl)) (pu_in14 _ (List.mem_of_getElem? (i := 27) rfl)) (pu_in0 _ (List.mem_of_getElem? (i := 10) rfl)) (pu_in11 _ (List.mem_of_getElem? (i := 43) rfl)) (ci := 8) rfl hd_MD_start (by decide) ⟨rfl, rfl⟩ rfl rfl (Nat.le_of_ble_eq_true rfl) rfl (As := [.int v_cells]) (rest := []) (WC := [(q_this, .inr (8, [.ref q_now, .ref q_disk, .ref q_before, .int v_onDisk, .int v_head, .int v_headPages, .int v_records, .ref q_recordPage, .ref q_recordBytes, .int v_up, .int v_armed, .int v_columns, .ref q_isBlob, .ref q_integer, .ref q_size, .ref q_blobs, .int v_length, .ref q_record, .int v_kind, .int v_cells, .int v_last, .ref q_cellLength, .ref q_row, .int v_made, .ref q_cell, .int v_deep, .ref q_way, .ref q_turn, .int v_at, .int v_bad, .ref q_used])), (q_cellLength, .inl (cI, 80, .inl v_cellLength))]) hx hb hml hown hts hN hK hP hD (c_MD_start l D cI cJ cB cZ H.size q_this q_now q_disk q_before q_recordPage q_recordBytes q_isBlob q_integer q_size q_blobs q_record q_cellLength q_row q_cell q_way q_turn q_used v_onDisk v_head v_headPages v_records v_up v_armed v_columns v_length v_kind v_cells v_last v_made v_deep v_at v_bad v_cellLength v_cells r2 hc) [0, 1] rfl rfl hl.1 d_MD_insertCell_11) hP hD hS hA [0, 1] [2, 3] [2, 3, 0, 1] rfl rfl rfl (by decide) rfl rfl (fun H locs hP hD hS => ?_)
    refine lv_iconst (v := 1) hx hb d_MD_insertCell_14 rfl ?_
    refine lv_isub hx hb d_MD_insertCell_15 ?_
    obtain ⟨t3, e_t3, hf⟩ := pu_nm_some hf
    refine pu_ti e_t3 ?_
    refine lv_istore_n hx hb d_MD_insertCell_16 rfl hl (by decide) rfl (fun ls hl => ?_)
    have hl : lv_has ls 4 [(3, .int t3), (2, .int r1), (0, .ref q_this), (1, .int x_1)] := hl
    exact lp_17 v_cells v_cellLength x_1 r1 _ v_row t3 H locs ls hP hD hS (lv_sub hl [2, 3, 1, 0] rfl) hf
  rw [hH, hlocs] at goal
  exact goal
theorem d_MD_removeCell_0 : decode b_MD_removeCell 0 = .ok (.aload_n 0, 1) := by decide +kernel
theorem d_MD_removeCell_1 : decode b_MD_removeCell 1 = .ok (.iload_n 1, 1) := by decide +kernel
theorem d_MD_removeCell_2 : decode b_MD_removeCell 2 = .ok (.invokevirtual 123, 3) := by decide +kernel
theorem d_MD_removeCell_5 : decode b_MD_removeCell 5 = .ok (.istore_n 2, 1) := by decide +kernel
theorem d_MD_removeCell_6 : decode b_MD_removeCell 6 = .ok (.aload_n 0, 1) := by decide +kernel
theorem d_MD_removeCell_7 : decode b_MD_removeCell 7 = .ok (.getfield 53, 3) := by decide +kernel
theorem d_MD_removeCell_10 : decode b_MD_removeCell 10 = .ok (.iload_n 1, 1) := by decide +kernel
theorem d_MD_removeCell_11 : decode b_MD_removeCell 11 = .ok (.iaload, 1) := by decide +kernel
theorem d_MD_removeCell_12 : decode b_MD_removeCell 12 = .ok (.istore_n 3, 1) := by decide +kernel
theorem d_MD_removeCell_13 : decode b_MD_removeCell 13 = .ok (.aload_n 0, 1) := by decide +kernel
theorem d_MD_removeCell_14 : decode b_MD_removeCell 14 = .ok (.aload_n 0, 1) := by decide +kernel
theorem d_MD_removeCell_15 : decode b_MD_removeCell 15 = .ok (.getfield 109, 3) := by decide +kernel
theorem d_MD_removeCell_18 : decode b_MD_removeCell 18 = .ok (.invokevirtual 123, 3) := by decide +kernel
theorem d_MD_removeCell_21 : decode b_MD_removeCell 21 = .ok (.istore 4, 2) := by decide +kernel
theorem d_MD_removeCell_23 : decode b_MD_removeCell 23 = .ok (.iload_n 2, 1) := by decide +kernel
theorem d_MD_removeCell_24 : decode b_MD_removeCell 24 = .ok (.istore 5, 2) := by decide +kernel
theorem d_MD_removeCell_26 : decode b_MD_removeCell 26 = .ok (.iload 5, 2) := by decide +kernel
theorem d_MD_removeCell_28 : decode b_MD_removeCell 28 = .ok (.iload_n 3, 1) := by decide +kernel
theorem d_MD_removeCell_29 : decode b_MD_removeCell 29 = .ok (.iadd, 1) := by decide +kernel
theorem d_MD_removeCell_30 : decode b_MD_removeCell 30 = .ok (.iload 4, 2) := by decide +kernel
theorem d_MD_removeCell_32 : decode b_MD_removeCell 32 = .ok (.if_icmp .ge 25, 3) := by decide +kernel
theorem d_MD_removeCell_35 : decode b_MD_removeCell 35 = .ok (.aload_n 0, 1) := by decide +kernel
theorem d_MD_removeCell_36 : decode b_MD_removeCell 36 = .ok (.getfield 56, 3) := by decide +kernel
theorem d_MD_removeCell_39 : decode b_MD_removeCell 39 = .ok (.iload 5, 2) := by decide +kernel
theorem d_MD_removeCell_41 : decode b_MD_removeCell 41 = .ok (.aload_n 0, 1) := by decide +kernel
theorem d_MD_removeCell_42 : decode b_MD_removeCell 42 = .ok (.getfield 56, 3) := by decide +kernel
theorem d_MD_removeCell_45 : decode b_MD_removeCell 45 = .ok (.iload 5, 2) := by decide +kernel
theorem d_MD_removeCell_47 : decode b_MD_removeCell 47 = .ok (.iload_n 3, 1) := by decide +kernel
theorem d_MD_removeCell_48 : decode b_MD_removeCell 48 = .ok (.iadd, 1) := by decide +kernel
theorem d_MD_removeCell_49 : decode b_MD_removeCell 49 = .ok (.iaload, 1) := by decide +kernel
theorem d_MD_removeCell_50 : decode b_MD_removeCell 50 = .ok (.iastore, 1) := by decide +kernel
theorem d_MD_removeCell_51 : decode b_MD_removeCell 51 = .ok (.iinc 5 1, 3) := by decide +kernel
theorem d_MD_removeCell_54 : decode b_MD_removeCell 54 = .ok (.goto (-28), 3) := by decide +kernel
theorem d_MD_removeCell_57 : decode b_MD_removeCell 57 = .ok (.iload_n 1, 1) := by decide +kernel
theorem d_MD_removeCell_58 : decode b_MD_removeCell 58 = .ok (.istore 5, 2) := by decide +kernel
theorem d_MD_removeCell_60 : decode b_MD_removeCell 60 = .ok (.iload 5, 2) := by decide +kernel
theorem d_MD_removeCell_62 : decode b_MD_removeCell 62 = .ok (.iconst 1, 1) := by decide +kernel
theorem d_MD_removeCell_63 : decode b_MD_removeCell 63 = .ok (.iadd, 1) := by decide +kernel
theorem d_MD_removeCell_64 : decode b_MD_removeCell 64 = .ok (.aload_n 0, 1) := by decide +kernel
theorem d_MD_removeCell_65 : decode b_MD_removeCell 65 = .ok (.getfield 109, 3) := by decide +kernel
theorem d_MD_removeCell_68 : decode b_MD_removeCell 68 = .ok (.if_icmp .ge 25, 3) := by decide +kernel
theorem d_MD_removeCell_71 : decode b_MD_removeCell 71 = .ok (.aload_n 0, 1) := by decide +kernel
theorem d_MD_removeCell_72 : decode b_MD_removeCell 72 = .ok (.getfield 53, 3) := by decide +kernel
theorem d_MD_removeCell_75 : decode b_MD_removeCell 75 = .ok (.iload 5, 2) := by decide +kernel
theorem d_MD_removeCell_77 : decode b_MD_removeCell 77 = .ok (.aload_n 0, 1) := by decide +kernel
theorem d_MD_removeCell_78 : decode b_MD_removeCell 78 = .ok (.getfield 53, 3) := by decide +kernel
theorem d_MD_removeCell_81 : decode b_MD_removeCell 81 = .ok (.iload 5, 2) := by decide +kernel
theorem d_MD_removeCell_83 : decode b_MD_removeCell 83 = .ok (.iconst 1, 1) := by decide +kernel
theorem d_MD_removeCell_84 : decode b_MD_removeCell 84 = .ok (.iadd, 1) := by decide +kernel
theorem d_MD_removeCell_85 : decode b_MD_removeCell 85 = .ok (.iaload, 1) := by decide +kernel
theorem d_MD_removeCell_86 : decode b_MD_removeCell 86 = .ok (.iastore, 1) := by decide +kernel
theorem d_MD_removeCell_87 : decode b_MD_removeCell 87 = .ok (.iinc 5 1, 3) := by decide +kernel
theorem d_MD_removeCell_90 : decode b_MD_removeCell 90 = .ok (.goto (-30), 3) := by decide +kernel
theorem d_MD_removeCell_93 : decode b_MD_removeCell 93 = .ok (.aload_n 0, 1) := by decide +kernel
theorem d_MD_removeCell_94 : decode b_MD_removeCell 94 = .ok (.dup, 1) := by decide +kernel
theorem d_MD_removeCell_95 : decode b_MD_removeCell 95 = .ok (.getfield 109, 3) := by decide +kernel
theorem d_MD_removeCell_98 : decode b_MD_removeCell 98 = .ok (.iconst 1, 1) := by decide +kernel
theorem d_MD_removeCell_99 : decode b_MD_removeCell 99 = .ok (.isub, 1) := by decide +kernel
theorem d_MD_removeCell_100 : decode b_MD_removeCell 100 = .ok (.putfield 109, 3) := by decide +kernel
theorem d_MD_removeCell_103 : decode b_MD_removeCell 103 = .ok (.return_, 1) := by decide +kernel
noncomputable def q_MD_removeCell_93 (v_cells : Int32) (v_cellLength : Nat → Int32) (v_row : Nat → Int32) : Option (Int32 × (Nat → Int32) × (Nat → Int32)) :=
  pu_nm (v_cells - (1 : Int32)) (fun t4 => some (t4, v_cellLength, v_row))
noncomputable def q_MD_removeCell_60 (kx_93 : (Nat → Int32) → Option (Int32 × (Nat → Int32) × (Nat → Int32))) (v_cells : Int32) (v_row : Nat → Int32) : Nat → (Nat → Int32) → Int32 → Option (Int32 × (Nat → Int32) × (Nat → Int32))
  | 0, _, _ => none
  | n + 1, v_cellLength, x_5 => pu_br (v_cells ≤ (x_5 + (1 : Int32))) (kx_93 v_cellLength) (pu_ck (vp_in (x_5 + (1 : Int32)) 80) (pu_ck (vp_in x_5 80) (pu_nm (upd v_cellLength x_5.toNatClampNeg (v_cellLength (x_5 + (1 : Int32)).toNatClampNeg)) (fun a5 => pu_nm (x_5 + (1 : Int32)) (fun t6 => q_MD_removeCell_60 kx_93 v_cells v_row n a5 t6)))))
noncomputable def q_MD_removeCell_57 (v_cells : Int32) (v_cellLength : Nat → Int32) (v_row : Nat → Int32) (x_1 : Int32) : Option (Int32 × (Nat → Int32) × (Nat → Int32)) :=
  q_MD_removeCell_60 (fun v_cellLength => q_MD_removeCell_93 v_cells v_cellLength v_row) v_cells v_row pu_fu v_cellLength x_1
noncomputable def q_MD_removeCell_26 (kx_57 : (Nat → Int32) → Option (Int32 × (Nat → Int32) × (Nat → Int32))) (v_cells : Int32) (v_cellLength : Nat → Int32) (x_1 : Int32) (x_3 : Int32) (x_4 : Int32) : Nat → (Nat → Int32) → Int32 → Option (Int32 × (Nat → Int32) × (Nat → Int32))
  | 0, _, _ => none
  | n + 1, v_row, x_5 => pu_br (x_4 ≤ (x_5 + x_3)) (kx_57 v_row) (pu_ck (vp_in (x_5 + x_3) 2000) (pu_ck (vp_in x_5 2000) (pu_nm (upd v_row x_5.toNatClampNeg (v_row (x_5 + x_3).toNatClampNeg)) (fun a7 => pu_nm (x_5 + (1 : Int32)) (fun t8 => q_MD_removeCell_26 kx_57 v_cells v_cellLength x_1 x_3 x_4 n a7 t8)))))
noncomputable def f_MD_removeCell (v_cells : Int32) (v_cellLength : Nat → Int32) (v_row : Nat → Int32) (x_1 : Int32) : Option (Int32 × (Nat → Int32) × (Nat → Int32)) :=
  pu_b1 (f_MD_start v_cellLength x_1) (fun r1 => pu_ck (vp_in x_1 80) (pu_nm (v_cellLength x_1.toNatClampNeg) (fun t2 => pu_b1 (f_MD_start v_cellLength v_cells) (fun r3 => q_MD_removeCell_26 (fun v_row => q_MD_removeCell_57 v_cells v_cellLength v_row x_1) v_cells v_cellLength x_1 t2 r3 pu_fu v_row r1))))
abbrev rm_MD_removeCell : Room := { frames := 1, cells := 0, slots := 0, locals := 23 }
set_option maxHeartbeats 8000000 in
set_option maxRecDepth 100000 in
theorem c_MD_removeCell (l : Launch) (D : va_G) (cI cJ cB cZ : ClassId) (sz : Nat) (q_this : Nat) (q_now : Nat) (q_disk : Nat) (q_before : Nat) (q_recordPage : Nat) (q_recordBytes : Nat) (q_isBlob : Nat) (q_integer : Nat) (q_size : Nat) (q_blobs : Nat) (q_record : Nat) (q_cellLength : Nat) (q_row : Nat) (q_cell : Nat) (q_way : Nat) (q_turn : Nat) (q_used : Nat) (v_onDisk : Int32) (v_head : Int32) (v_headPages : Int32) (v_records : Int32) (v_up : Int32) (v_armed : Int32) (v_columns : Int32) (v_length : Int32) (v_kind : Int32) (v_cells : Int32) (v_last : Int32) (v_made : Int32) (v_deep : Int32) (v_at : Int32) (v_bad : Int32) (v_cellLength : Nat → Int32) (v_row : Nat → Int32) (x_1 : Int32) (o_cells : Int32) (o_cellLength : Nat → Int32) (o_row : Nat → Int32) (hf : f_MD_removeCell v_cells v_cellLength v_row x_1 = some (o_cells, o_cellLength, o_row)) : Met l y_MD_removeCell (.code y_MD_removeCell b_MD_removeCell 6 none :: pu_wA) rm_MD_removeCell (pu_pc D pu_cl (pu_ty cI cJ cB cZ) [.ref q_this, .int x_1] [(q_this, .inr (8, [.ref q_now, .ref q_disk, .ref q_before, .int v_onDisk, .int v_head, .int v_headPages, .int v_records, .ref q_recordPage, .ref q_recordBytes, .int v_up, .int v_armed, .int v_columns, .ref q_isBlob, .ref q_integer, .ref q_size, .ref q_blobs, .int v_length, .ref q_record, .int v_kind, .int v_cells, .int v_last, .ref q_cellLength, .ref q_row, .int v_made, .ref q_cell, .int v_deep, .ref q_way, .ref q_turn, .int v_at, .int v_bad, .ref q_used])), (q_cellLength, .inl (cI, 80, .inl v_cellLength)), (q_row, .inl (cI, 2000, .inl v_row))] sz) (pu_qv D pu_cl (pu_ty cI cJ cB cZ) [(q_this, .inr (8, [.ref q_now, .ref q_disk, .ref q_before, .int v_onDisk, .int v_head, .int v_headPages, .int v_records, .ref q_recordPage, .ref q_recordBytes, .int v_up, .int v_armed, .int v_columns, .ref q_isBlob, .ref q_integer, .ref q_size, .ref q_blobs, .int v_length, .ref q_record, .int v_kind, .int v_cells, .int v_last, .ref q_cellLength, .ref q_row, .int v_made, .ref q_cell, .int v_deep, .ref q_way, .ref q_turn, .int v_at, .int v_bad, .ref q_used])), (q_cellLength, .inl (cI, 80, .inl v_cellLength)), (q_row, .inl (cI, 2000, .inl v_row))] [(q_this, .inr (8, [.ref q_now, .ref q_disk, .ref q_before, .int v_onDisk, .int v_head, .int v_headPages, .int v_records, .ref q_recordPage, .ref q_recordBytes, .int v_up, .int v_armed, .int v_columns, .ref q_isBlob, .ref q_integer, .ref q_size, .ref q_blobs, .int v_length, .ref q_record, .int v_kind, .int o_cells, .int v_last, .ref q_cellLength, .ref q_row, .int v_made, .ref q_cell, .int v_deep, .ref q_way, .ref q_turn, .int v_at, .int v_bad, .ref q_used])), (q_cellLength, .inl (cI, 80, .inl o_cellLength)), (q_row, .inl (cI, 2000, .inl o_row))] sz) 0 0 (va_A [(q_this, .inr (8, [.ref q_now, .ref q_disk, .ref q_before, .int v_onDisk, .int v_head, .int v_headPages, .int v_records, .ref q_recordPage, .ref q_recordBytes, .int v_up, .int v_armed, .int v_columns, .ref q_isBlob, .ref q_integer, .ref q_size, .ref q_blobs, .int v_length, .ref q_record, .int v_kind, .int v_cells, .int v_last, .ref q_cellLength, .ref q_row, .int v_made, .ref q_cell, .int v_deep, .ref q_way, .ref q_turn, .int v_at, .int v_bad, .ref q_used])), (q_cellLength, .inl (cI, 80, .inl v_cellLength)), (q_row, .inl (cI, 2000, .inl v_row))] sz) := by
  refine pu_mtv [.ref q_this, .int x_1] [(q_this, .inr (8, [.ref q_now, .ref q_disk, .ref q_before, .int v_onDisk, .int v_head, .int v_headPages, .int v_records, .ref q_recordPage, .ref q_recordBytes, .int v_up, .int v_armed, .int v_columns, .ref q_isBlob, .ref q_integer, .ref q_size, .ref q_blobs, .int v_length, .ref q_record, .int v_kind, .int v_cells, .int v_last, .ref q_cellLength, .ref q_row, .int v_made, .ref q_cell, .int v_deep, .ref q_way, .ref q_turn, .int v_at, .int v_bad, .ref q_used])), (q_cellLength, .inl (cI, 80, .inl v_cellLength)), (q_row, .inl (cI, 2000, .inl v_row))] [(q_this, .inr (8, [.ref q_now, .ref q_disk, .ref q_before, .int v_onDisk, .int v_head, .int v_headPages, .int v_records, .ref q_recordPage, .ref q_recordBytes, .int v_up, .int v_armed, .int v_columns, .ref q_isBlob, .ref q_integer, .ref q_size, .ref q_blobs, .int v_length, .ref q_record, .int v_kind, .int o_cells, .int v_last, .ref q_cellLength, .ref q_row, .int v_made, .ref q_cell, .int v_deep, .ref q_way, .ref q_turn, .int v_at, .int v_bad, .ref q_used])), (q_cellLength, .inl (cI, 80, .inl o_cellLength)), (q_row, .inl (cI, 2000, .inl o_row))] (by decide) (Nat.le_of_ble_eq_true rfl) ?_
  intro p e s m args below meth c A Q ls hx hb hml hts hN hown hK hA hP hD hl hret0
  have hS : va_S A s.heap s.heap [] := va_S.rf
  have hl : lv_has ls 6 [(0, .ref q_this), (1, .int x_1)] := hl
  have hret : ∀ (pc : Nat) (ls : Array Slot) (H : Heap) (locs : List Loc) (y_0 : Int32) (y_1 : Nat → Int32) (y_2 : Nat → Int32), decode b_MD_removeCell pc = .ok (.return_, 1) → va_P D pu_cl [(q_this, .inr (8, [.ref q_now, .ref q_disk, .ref q_before, .int v_onDisk, .int v_head, .int v_headPages, .int v_records, .ref q_recordPage, .ref q_recordBytes, .int v_up, .int v_armed, .int v_columns, .ref q_isBlob, .ref q_integer, .ref q_size, .ref q_blobs, .int v_length, .ref q_record, .int v_kind, .int y_0, .int v_last, .ref q_cellLength, .ref q_row, .int v_made, .ref q_cell, .int v_deep, .ref q_way, .ref q_turn, .int v_at, .int v_bad, .ref q_used])), (q_cellLength, .inl (cI, 80, .inl y_1)), (q_row, .inl (cI, 2000, .inl y_2))] H → va_D A [(q_this, .inr (8, [.ref q_now, .ref q_disk, .ref q_before, .int v_onDisk, .int v_head, .int v_headPages, .int v_records, .ref q_recordPage, .ref q_recordBytes, .int v_up, .int v_armed, .int v_columns, .ref q_isBlob, .ref q_integer, .ref q_size, .ref q_blobs, .int v_length, .ref q_record, .int v_kind, .int y_0, .int v_last, .ref q_cellLength, .ref q_row, .int v_made, .ref q_cell, .int v_deep, .ref q_way, .ref q_turn, .int v_at, .int v_bad, .ref q_used])), (q_cellLength, .inl (cI, 80, .inl y_1)), (q_row, .inl (cI, 2000, .inl y_2))] → va_S A s.heap H locs → some (y_0, y_1, y_2) = some (o_cells, o_cellLength, o_row) → W p l e rm_MD_removeCell s m args below meth c H locs 0 0 Q (F0 m pc ls []) := by
    intro pc ls H locs y_0 y_1 y_2 hd hP hD hS hf
    cases hf
    exact hret0 pc ls H locs hd hP hD hS
  clear hret0
  unfold f_MD_removeCell at hf
  skip
  have lb_93 : ∀ (v_cells : Int32) (v_cellLength : Nat → Int32) (v_row : Nat → Int32) (H : Heap) (locs : List Loc) (ls : Array Slot), va_P D pu_cl [(q_this, .inr (8, [.ref q_now, .ref q_disk, .ref q_before, .int v_onDisk, .int v_head, .int v_headPages, .int v_records, .ref q_recordPage, .ref q_recordBytes, .int v_up, .int v_armed, .int v_columns, .ref q_isBlob, .ref q_integer, .ref q_size, .ref q_blobs, .int v_length, .ref q_record, .int v_kind, .int v_cells, .int v_last, .ref q_cellLength, .ref q_row, .int v_made, .ref q_cell, .int v_deep, .ref q_way, .ref q_turn, .int v_at, .int v_bad, .ref q_used])), (q_cellLength, .inl (cI, 80, .inl v_cellLength)), (q_row, .inl (cI, 2000, .inl v_row))] H → va_D A [(q_this, .inr (8, [.ref q_now, .ref q_disk, .ref q_before, .int v_onDisk, .int v_head, .int v_headPages, .int v_records, .ref q_recordPage, .ref q_recordBytes, .int v_up, .int v_armed, .int v_columns, .ref q_isBlob, .ref q_integer, .ref q_size, .ref q_blobs, .int v_length, .ref q_record, .int v_kind, .int v_cells, .int v_last, .ref q_cellLength, .ref q_row, .int v_made, .ref q_cell, .int v_deep, .ref q_way, .ref q_turn, .int v_at, .int v_bad, .ref q_used])), (q_cellLength, .inl (cI, 80, .inl v_cellLength)), (q_row, .inl (cI, 2000, .inl v_row))] → va_S A s.heap H locs → lv_has ls 6 [(0, .ref q_this)] → q_MD_removeCell_93 v_cells v_cellLength v_row = some (o_cells, o_cellLength, o_row) → W p l e rm_MD_removeCell s m args below meth c H locs 0 0 Q (F0 m 93 ls []) := by
    intro v_cells v_cellLength v_row H locs ls hP hD hS hl hf
    rw [q_MD_removeCell_93] at hf
    refine lv_aload_n hx hb d_MD_removeCell_93 rfl (lv_at hl 0 rfl) ?_
    refine lv_dup hx hb d_MD_removeCell_94 rfl ?_
    refine gf_MD_109 (v := .int v_cells) hx hb hts hN hown hK hP 0 rfl rfl d_MD_removeCell_95 ?_
    refine lv_iconst (v := 1) hx hb d_MD_removeCell_98 rfl ?_
    refine lv_isub hx hb d_MD_removeCell_99 ?_
    obtain ⟨t4, e_t4, hf⟩ := pu_nm_some hf
    refine pu_ti e_t4 ?_
    refine pf_MD_109 (v := .int t4) hx hb hts hN hown hK hP hD hS 0 rfl rfl rfl (Nat.le_of_ble_eq_true rfl) d_MD_removeCell_100 (fun H locs hP hD hS => ?_)
    have hP : va_P D pu_cl [(q_this, .inr (8, [.ref q_now, .ref q_disk, .ref q_before, .int v_onDisk, .int v_head, .int v_headPages, .int v_records, .ref q_recordPage, .ref q_recordBytes, .int v_up, .int v_armed, .int v_columns, .ref q_isBlob, .ref q_integer, .ref q_size, .ref q_blobs, .int v_length, .ref q_record, .int v_kind, .int t4, .int v_last, .ref q_cellLength, .ref q_row, .int v_made, .ref q_cell, .int v_deep, .ref q_way, .ref q_turn, .int v_at, .int v_bad, .ref q_used])), (q_cellLength, .inl (cI, 80, .inl v_cellLength)), (q_row, .inl (cI, 2000, .inl v_row))] H := hP
    have hD : va_D A [(q_this, .inr (8, [.ref q_now, .ref q_disk, .ref q_before, .int v_onDisk, .int v_head, .int v_headPages, .int v_records, .ref q_recordPage, .ref q_recordBytes, .int v_up, .int v_armed, .int v_columns, .ref q_isBlob, .ref q_integer, .ref q_size, .ref q_blobs, .int v_length, .ref q_record, .int v_kind, .int t4, .int v_last, .ref q_cellLength, .ref q_row, .int v_made, .ref q_cell, .int v_deep, .ref q_way, .ref q_turn, .int v_at, .int v_bad, .ref q_used])), (q_cellLength, .inl (cI, 80, .inl v_cellLength)), (q_row, .inl (cI, 2000, .inl v_row))] := hD
    exact hret _ _ _ _ t4 v_cellLength v_row d_MD_removeCell_103 hP hD hS hf
  have lp_60 : ∀ (v_cells : Int32) (v_row : Nat → Int32) (n60 : Nat) (v_cellLength : Nat → Int32) (x_5 : Int32) (H : Heap) (locs : List Loc) (ls : Array Slot), va_P D pu_cl [(q_this, .inr (8, [.ref q_now, .ref q_disk, .ref q_before, .int v_onDisk, .int v_head, .int v_headPages, .int v_records, .ref q_recordPage, .ref q_recordBytes, .int v_up, .int v_armed, .int v_columns, .ref q_isBlob, .ref q_integer, .ref q_size, .ref q_blobs, .int v_length, .ref q_record, .int v_kind, .int v_cells, .int v_last, .ref q_cellLength, .ref q_row, .int v_made, .ref q_cell, .int v_deep, .ref q_way, .ref q_turn, .int v_at, .int v_bad, .ref q_used])), (q_cellLength, .inl (cI, 80, .inl v_cellLength)), (q_row, .inl (cI, 2000, .inl v_row))] H → va_D A [(q_this, .inr (8, [.ref q_now, .ref q_disk, .ref q_before, .int v_onDisk, .int v_head, .int v_headPages, .int v_records, .ref q_recordPage, .ref q_recordBytes, .int v_up, .int v_armed, .int v_columns, .ref q_isBlob, .ref q_integer, .ref q_size, .ref q_blobs, .int v_length, .ref q_record, .int v_kind, .int v_cells, .int v_last, .ref q_cellLength, .ref q_row, .int v_made, .ref q_cell, .int v_deep, .ref q_way, .ref q_turn, .int v_at, .int v_bad, .ref q_used])), (q_cellLength, .inl (cI, 80, .inl v_cellLength)), (q_row, .inl (cI, 2000, .inl v_row))] → va_S A s.heap H locs → lv_has ls 6 [(0, .ref q_this), (5, .int x_5)] → q_MD_removeCell_60 (fun v_cellLength => q_MD_removeCell_93 v_cells v_cellLength v_row) v_cells v_row n60 v_cellLength x_5 = some (o_cells, o_cellLength, o_row) → W p l e rm_MD_removeCell s m args below meth c H locs 0 0 Q (F0 m 60 ls []) := by
    intro v_cells v_row n60
    induction n60 with
    | zero =>
      intro v_cellLength x_5 H locs ls hP hD hS hl hf
      rw [q_MD_removeCell_60] at hf
      cases hf
    | succ n60 ih_60 =>
      intro v_cellLength x_5 H locs ls hP hD hS hl hf
      rw [q_MD_removeCell_60] at hf
      refine lv_iload hx hb d_MD_removeCell_60 (lv_at hl 1 rfl) ?_
      refine lv_iconst (v := 1) hx hb d_MD_removeCell_62 rfl ?_
      refine lv_iadd hx hb d_MD_removeCell_63 ?_
      refine lv_aload_n hx hb d_MD_removeCell_64 rfl (lv_at hl 0 rfl) ?_
      refine gf_MD_109 (v := .int v_cells) hx hb hts hN hown hK hP 0 rfl rfl d_MD_removeCell_65 ?_
      refine lv_icmp_ge (tgt := 93) hx hb d_MD_removeCell_68 rfl (fun hc => ?_) (fun hc => ?_)
      · have hf := pu_br_pos hf hc
        exact lb_93 v_cells v_cellLength v_row H locs ls hP hD hS (lv_sub hl [0] rfl) hf
      have hf := pu_br_neg hf hc
      refine lv_aload_n hx hb d_MD_removeCell_71 rfl (lv_at hl 0 rfl) ?_
      refine gf_MD_53 (v := .ref q_cellLength) hx hb hts hN hown hK hP 0 rfl rfl d_MD_removeCell_72 ?_
      refine lv_iload hx hb d_MD_removeCell_75 (lv_at hl 1 rfl) ?_
      refine lv_aload_n hx hb d_MD_removeCell_77 rfl (lv_at hl 0 rfl) ?_
      refine gf_MD_53 (v := .ref q_cellLength) hx hb hts hN hown hK hP 0 rfl rfl d_MD_removeCell_78 ?_
      refine lv_iload hx hb d_MD_removeCell_81 (lv_at hl 1 rfl) ?_
      refine lv_iconst (v := 1) hx hb d_MD_removeCell_83 rfl ?_
      refine lv_iadd hx hb d_MD_removeCell_84 ?_
      obtain ⟨hin, hf⟩ := pu_ck_some hf
      refine va_iald hx hb hK hP 1 0 rfl rfl hin d_MD_removeCell_85 ?_
      obtain ⟨hin, hf⟩ := pu_ck_some hf
      obtain ⟨a5, e_a5, hf⟩ := pu_nm_some hf
      refine va_iast hx hb hK hP hD hS 1 0 rfl rfl hin d_MD_removeCell_86 (fun H locs hP hD hS => ?_)
      have hP : va_P D pu_cl [(q_this, .inr (8, [.ref q_now, .ref q_disk, .ref q_before, .int v_onDisk, .int v_head, .int v_headPages, .int v_records, .ref q_recordPage, .ref q_recordBytes, .int v_up, .int v_armed, .int v_columns, .ref q_isBlob, .ref q_integer, .ref q_size, .ref q_blobs, .int v_length, .ref q_record, .int v_kind, .int v_cells, .int v_last, .ref q_cellLength, .ref q_row, .int v_made, .ref q_cell, .int v_deep, .ref q_way, .ref q_turn, .int v_at, .int v_bad, .ref q_used])), (q_cellLength, .inl (cI, 80, .inl a5)), (q_row, .inl (cI, 2000, .inl v_row))] H := by rw [e_a5]; exact hP
      have hD : va_D A [(q_this, .inr (8, [.ref q_now, .ref q_disk, .ref q_before, .int v_onDisk, .int v_head, .int v_headPages, .int v_records, .ref q_recordPage, .ref q_recordBytes, .int v_up, .int v_armed, .int v_columns, .ref q_isBlob, .ref q_integer, .ref q_size, .ref q_blobs, .int v_length, .ref q_record, .int v_kind, .int v_cells, .int v_last, .ref q_cellLength, .ref q_row, .int v_made, .ref q_cell, .int v_deep, .ref q_way, .ref q_turn, .int v_at, .int v_bad, .ref q_used])), (q_cellLength, .inl (cI, 80, .inl a5)), (q_row, .inl (cI, 2000, .inl v_row))] := by rw [e_a5]; exact hD
      obtain ⟨t6, e_t6, hf⟩ := pu_nm_some hf
      refine lv_iinc (k := 1) (v := t6) hx hb d_MD_removeCell_87 hl rfl e_t6.symm (by decide) rfl (fun ls hl => ?_)
      have hl : lv_has ls 6 [(5, .int t6), (0, .ref q_this)] := hl
      refine lv_goto (tgt := 60) hx hb d_MD_removeCell_90 rfl ?_
      exact ih_60 a5 t6 H locs ls hP hD hS (lv_sub hl [1, 0] rfl) hf
  have lb_57 : ∀ (v_cells : Int32) (v_cellLength : Nat → Int32) (v_row : Nat → Int32) (x_1 : Int32) (H : Heap) (locs : List Loc) (ls : Array Slot), va_P D pu_cl [(q_this, .inr (8, [.ref q_now, .ref q_disk, .ref q_before, .int v_onDisk, .int v_head, .int v_headPages, .int v_records, .ref q_recordPage, .ref q_recordBytes, .int v_up, .int v_armed, .int v_columns, .ref q_isBlob, .ref q_integer, .ref q_size, .ref q_blobs, .int v_length, .ref q_record, .int v_kind, .int v_cells, .int v_last, .ref q_cellLength, .ref q_row, .int v_made, .ref q_cell, .int v_deep, .ref q_way, .ref q_turn, .int v_at, .int v_bad, .ref q_used])), (q_cellLength, .inl (cI, 80, .inl v_cellLength)), (q_row, .inl (cI, 2000, .inl v_row))] H → va_D A [(q_this, .inr (8, [.ref q_now, .ref q_disk, .ref q_before, .int v_onDisk, .int v_head, .int v_headPages, .int v_records, .ref q_recordPage, .ref q_recordBytes, .int v_up, .int v_armed, .int v_columns, .ref q_isBlob, .ref q_integer, .ref q_size, .ref q_blobs, .int v_length, .ref q_record, .int v_kind, .int v_cells, .int v_last, .ref q_cellLength, .ref q_row, .int v_made, .ref q_cell, .int v_deep, .ref q_way, .ref q_turn, .int v_at, .int v_bad, .ref q_used])), (q_cellLength, .inl (cI, 80, .inl v_cellLength)), (q_row, .inl (cI, 2000, .inl v_row))] → va_S A s.heap H locs → lv_has ls 6 [(0, .ref q_this), (1, .int x_1)] → q_MD_removeCell_57 v_cells v_cellLength v_row x_1 = some (o_cells, o_cellLength, o_row) → W p l e rm_MD_removeCell s m args below meth c H locs 0 0 Q (F0 m 57 ls []) := by
    intro v_cells v_cellLength v_row x_1 H locs ls hP hD hS hl hf
    rw [q_MD_removeCell_57] at hf
    refine lv_iload_n hx hb d_MD_removeCell_57 rfl (lv_at hl 1 rfl) ?_
    refine lv_istore hx hb d_MD_removeCell_58 hl (by decide) rfl (fun ls hl => ?_)
    have hl : lv_has ls 6 [(5, .int x_1), (0, .ref q_this), (1, .int x_1)] := hl
    exact lp_60 v_cells v_row _ v_cellLength x_1 H locs ls hP hD hS (lv_sub hl [1, 0] rfl) hf
  have lp_26 : ∀ (v_cells : Int32) (v_cellLength : Nat → Int32) (x_1 : Int32) (x_3 : Int32) (x_4 : Int32) (n26 : Nat) (v_row : Nat → Int32) (x_5 : Int32) (H : Heap) (locs : List Loc) (ls : Array Slot), va_P D pu_cl [(q_this, .inr (8, [.ref q_now, .ref q_disk, .ref q_before, .int v_onDisk, .int v_head, .int v_headPages, .int v_records, .ref q_recordPage, .ref q_recordBytes, .int v_up, .int v_armed, .int v_columns, .ref q_isBlob, .ref q_integer, .ref q_size, .ref q_blobs, .int v_length, .ref q_record, .int v_kind, .int v_cells, .int v_last, .ref q_cellLength, .ref q_row, .int v_made, .ref q_cell, .int v_deep, .ref q_way, .ref q_turn, .int v_at, .int v_bad, .ref q_used])), (q_cellLength, .inl (cI, 80, .inl v_cellLength)), (q_row, .inl (cI, 2000, .inl v_row))] H → va_D A [(q_this, .inr (8, [.ref q_now, .ref q_disk, .ref q_before, .int v_onDisk, .int v_head, .int v_headPages, .int v_records, .ref q_recordPage, .ref q_recordBytes, .int v_up, .int v_armed, .int v_columns, .ref q_isBlob, .ref q_integer, .ref q_size, .ref q_blobs, .int v_length, .ref q_record, .int v_kind, .int v_cells, .int v_last, .ref q_cellLength, .ref q_row, .int v_made, .ref q_cell, .int v_deep, .ref q_way, .ref q_turn, .int v_at, .int v_bad, .ref q_used])), (q_cellLength, .inl (cI, 80, .inl v_cellLength)), (q_row, .inl (cI, 2000, .inl v_row))] → va_S A s.heap H locs → lv_has ls 6 [(0, .ref q_this), (1, .int x_1), (3, .int x_3), (4, .int x_4), (5, .int x_5)] → q_MD_removeCell_26 (fun v_row => q_MD_removeCell_57 v_cells v_cellLength v_row x_1) v_cells v_cellLength x_1 x_3 x_4 n26 v_row x_5 = some (o_cells, o_cellLength, o_row) → W p l e rm_MD_removeCell s m args below meth c H locs 0 0 Q (F0 m 26 ls []) := by
    intro v_cells v_cellLength x_1 x_3 x_4 n26
    induction n26 with
    | zero =>
      intro v_row x_5 H locs ls hP hD hS hl hf
      rw [q_MD_removeCell_26] at hf
      cases hf
    | succ n26 ih_26 =>
      intro v_row x_5 H locs ls hP hD hS hl hf
      rw [q_MD_removeCell_26] at hf
      refine lv_iload hx hb d_MD_removeCell_26 (lv_at hl 4 rfl) ?_
      refine lv_iload_n hx hb d_MD_removeCell_28 rfl (lv_at hl 2 rfl) ?_
      refine lv_iadd hx hb d_MD_removeCell_29 ?_
      refine lv_iload hx hb d_MD_removeCell_30 (lv_at hl 3 rfl) ?_
      refine lv_icmp_ge (tgt := 57) hx hb d_MD_removeCell_32 rfl (fun hc => ?_) (fun hc => ?_)
      · have hf := pu_br_pos hf hc
        exact lb_57 v_cells v_cellLength v_row x_1 H locs ls hP hD hS (lv_sub hl [0, 1] rfl) hf
      have hf := pu_br_neg hf hc
      refine lv_aload_n hx hb d_MD_removeCell_35 rfl (lv_at hl 0 rfl) ?_
      refine gf_MD_56 (v := .ref q_row) hx hb hts hN hown hK hP 0 rfl rfl d_MD_removeCell_36 ?_
      refine lv_iload hx hb d_MD_removeCell_39 (lv_at hl 4 rfl) ?_
      refine lv_aload_n hx hb d_MD_removeCell_41 rfl (lv_at hl 0 rfl) ?_
      refine gf_MD_56 (v := .ref q_row) hx hb hts hN hown hK hP 0 rfl rfl d_MD_removeCell_42 ?_
      refine lv_iload hx hb d_MD_removeCell_45 (lv_at hl 4 rfl) ?_
      refine lv_iload_n hx hb d_MD_removeCell_47 rfl (lv_at hl 2 rfl) ?_
      refine lv_iadd hx hb d_MD_removeCell_48 ?_
      obtain ⟨hin, hf⟩ := pu_ck_some hf
      refine va_iald hx hb hK hP 2 0 rfl rfl hin d_MD_removeCell_49 ?_
      obtain ⟨hin, hf⟩ := pu_ck_some hf
      obtain ⟨a7, e_a7, hf⟩ := pu_nm_some hf
      refine va_iast hx hb hK hP hD hS 2 0 rfl rfl hin d_MD_removeCell_50 (fun H locs hP hD hS => ?_)
      have hP : va_P D pu_cl [(q_this, .inr (8, [.ref q_now, .ref q_disk, .ref q_before, .int v_onDisk, .int v_head, .int v_headPages, .int v_records, .ref q_recordPage, .ref q_recordBytes, .int v_up, .int v_armed, .int v_columns, .ref q_isBlob, .ref q_integer, .ref q_size, .ref q_blobs, .int v_length, .ref q_record, .int v_kind, .int v_cells, .int v_last, .ref q_cellLength, .ref q_row, .int v_made, .ref q_cell, .int v_deep, .ref q_way, .ref q_turn, .int v_at, .int v_bad, .ref q_used])), (q_cellLength, .inl (cI, 80, .inl v_cellLength)), (q_row, .inl (cI, 2000, .inl a7))] H := by rw [e_a7]; exact hP
      have hD : va_D A [(q_this, .inr (8, [.ref q_now, .ref q_disk, .ref q_before, .int v_onDisk, .int v_head, .int v_headPages, .int v_records, .ref q_recordPage, .ref q_recordBytes, .int v_up, .int v_armed, .int v_columns, .ref q_isBlob, .ref q_integer, .ref q_size, .ref q_blobs, .int v_length, .ref q_record, .int v_kind, .int v_cells, .int v_last, .ref q_cellLength, .ref q_row, .int v_made, .ref q_cell, .int v_deep, .ref q_way, .ref q_turn, .int v_at, .int v_bad, .ref q_used])), (q_cellLength, .inl (cI, 80, .inl v_cellLength)), (q_row, .inl (cI, 2000, .inl a7))] := by rw [e_a7]; exact hD
      obtain ⟨t8, e_t8, hf⟩ := pu_nm_some hf
      refine lv_iinc (k := 4) (v := t8) hx hb d_MD_removeCell_51 hl rfl e_t8.symm (by decide) rfl (fun ls hl => ?_)
      have hl : lv_has ls 6 [(5, .int t8), (0, .ref q_this), (1, .int x_1), (3, .int x_3), (4, .int x_4)] := hl
      refine lv_goto (tgt := 26) hx hb d_MD_removeCell_54 rfl ?_
      exact ih_26 a7 t8 H locs ls hP hD hS (lv_sub hl [1, 2, 3, 4, 0] rfl) hf
  obtain ⟨H, hH⟩ : ∃ H, H = s.heap := ⟨_, rfl⟩
  obtain ⟨locs, hlocs⟩ : ∃ locs : List Loc, locs = [] := ⟨_, rfl⟩
  have hP : va_P D pu_cl [(q_this, .inr (8, [.ref q_now, .ref q_disk, .ref q_before, .int v_onDisk, .int v_head, .int v_headPages, .int v_records, .ref q_recordPage, .ref q_recordBytes, .int v_up, .int v_armed, .int v_columns, .ref q_isBlob, .ref q_integer, .ref q_size, .ref q_blobs, .int v_length, .ref q_record, .int v_kind, .int v_cells, .int v_last, .ref q_cellLength, .ref q_row, .int v_made, .ref q_cell, .int v_deep, .ref q_way, .ref q_turn, .int v_at, .int v_bad, .ref q_used])), (q_cellLength, .inl (cI, 80, .inl v_cellLength)), (q_row, .inl (cI, 2000, .inl v_row))] H := by rw [hH]; exact hP
  have hS : va_S A s.heap H locs := by rw [hH, hlocs]; exact hS
  have goal : W p l e rm_MD_removeCell s m args below meth c H locs 0 0 Q (F0 m 0 ls []) := by
    clear hH hlocs
    refine lv_aload_n hx hb d_MD_removeCell_0 rfl (lv_at hl 0 rfl) ?_
    refine lv_iload_n hx hb d_MD_removeCell_1 rfl (lv_at hl 1 rfl) ?_
    obtain ⟨r1, hc, hf⟩ := pu_b1_some hf
    refine cl_i (WC := [(q_this, .inr (8, [.ref q_now, .ref q_disk, .ref q_before, .int v_onDisk, .int v_head, .int v_headPages, .int v_records, .ref q_recordPage, .ref q_recordBytes, .int v_up, .int v_armed, .int v_columns, .ref q_isBlob, .ref q_integer, .ref q_size, .ref q_blobs, .int v_length, .ref q_record, .int v_kind, .int v_cells, .int v_last, .ref q_cellLength, .ref q_row, .int v_made, .ref q_cell, .int v_deep, .ref q_way, .ref q_turn, .int v_at, .int v_bad, .ref q_used])), (q_cellLength, .inl (cI, 80, .inl v_cellLength))]) (WC2 := [(q_this, .inr (8, [.ref q_now, .ref q_disk, .ref q_before, .int v_onDisk, .int v_head, .int v_headPages, .int v_records, .ref q_recordPage, .ref q_recordBytes, .int v_up, .int v_armed, .int v_columns, .ref q_isBlob, .ref q_integer, .ref q_size, .ref q_blobs, .int v_length, .ref q_record, .int v_kind, .int v_cells, .int v_last, .ref q_cellLength, .ref q_row, .int v_made, .ref q_cell, .int v_deep, .ref q_way, .ref q_turn, .int v_at, .int v_bad, .ref q_used])), (q_cellLength, .inl (cI, 80, .inl v_cellLength))]) (WR := [(q_row, .inl (cI, 2000, .inl v_row))]) (WS2 := [(q_this, .inr (8, [.ref q_now, .ref q_disk, .ref q_before, .int v_onDisk, .int v_head, .int v_headPages, .int v_records, .ref q_recordPage, .ref q_recordBytes, .int v_up, .int v_armed, .int v_columns, .ref q_isBlob, .ref q_integer, .ref q_size, .ref q_blobs, .int v_length, .ref q_record, .int v_kind, .int v_cells, .int v_last, .ref q_cellLength, .ref q_row, .int v_made, .ref q_cell, .int v_deep, .ref q_way, .ref q_turn, .int v_at, .int v_bad, .ref q_used])), (q_cellLength, .inl (cI, 80, .inl v_cellLength)), (q_row, .inl (cI, 2000, .inl v_row))]) (pu_rv (cl := pu_cl) (pu_in11 _ (List.mem_of_getElem? (i := 41) rfl)) (pu_in11 _ (List.mem_of_getElem? (i := 42) rfl)) (pu_in14 _ (List.mem_of_getElem? (i := 27) rfl)) (pu_in0 _ (List.mem_of_getElem? (i := 10) rfl)) (pu_in11 _ (List.mem_of_getElem? (i := 43) rfl)) (ci := 8) rfl hd_MD_start (by decide) ⟨rfl, rfl⟩ rfl rfl (Nat.le_of_ble_eq_true rfl) rfl (As := [.int x_1]) (rest := []) (WC := [(q_this, .inr (8, [.ref q_now, .ref q_disk, .ref q_before, .int v_onDisk, .int v_head, .int v_headPages, .int v_records, .ref q_recordPage, .ref q_recordBytes, .int v_up, .int v_armed, .int v_columns, .ref q_isBlob, .ref q_integer, .ref q_size, .ref q_blobs, .int v_length, .ref q_record, .int v_kind, .int v_cells, .int v_last, .ref q_cellLength, .ref q_row, .int v_made, .ref q_cell, .int v_deep, .ref q_way, .ref q_turn, .int v_at, .int v_bad, .ref q_used])), (q_cellLength, .inl (cI, 80, .inl v_cellLength))]) hx hb hml hown hts hN hK hP hD (c_MD_start l D cI cJ cB cZ H.size q_this q_now q_disk q_before q_recordPage q_recordBytes q_isBlob q_integer q_size q_blobs q_record q_cellLength q_row q_cell q_way q_turn q_used v_onDisk v_head v_headPages v_records v_up v_armed v_columns v_length v_kind v_cells v_last v_made v_deep v_at v_bad v_cellLength x_1 r1 hc) [0, 1] rfl rfl hl.1 d_MD_removeCell_2) hP hD hS hA [0, 1] [2] [1, 2, 0] rfl rfl rfl (by decide) rfl rfl (fun H locs hP hD hS => ?_)
    refine lv_istore_n hx hb d_MD_removeCell_5 rfl hl (by decide) rfl (fun ls hl => ?_)
    have hl : lv_has ls 6 [(2, .int r1), (0, .ref q_this), (1, .int x_1)] := hl
    refine lv_aload_n hx hb d_MD_removeCell_6 rfl (lv_at hl 1 rfl) ?_
    refine gf_MD_53 (v := .ref q_cellLength) hx hb hts hN hown hK hP 0 rfl rfl d_MD_removeCell_7 ?_
    refine lv_iload_n hx hb d_MD_removeCell_10 rfl (lv_at hl 2 rfl) ?_
    obtain ⟨hin, hf⟩ := pu_ck_some hf
    refine va_iald hx hb hK hP 1 0 rfl rfl hin d_MD_removeCell_11 ?_
    obtain ⟨t2, e_t2, hf⟩ := pu_nm_some hf
    refine pu_ti e_t2 ?_
    refine lv_istore_n hx hb d_MD_removeCell_12 rfl hl (by decide) rfl (fun ls hl => ?_)
    have hl : lv_has ls 6 [(3, .int t2), (2, .int r1), (0, .ref q_this), (1, .int x_1)] := hl
    refine lv_aload_n hx hb d_MD_removeCell_13 rfl (lv_at hl 2 rfl) ?_
    refine lv_aload_n hx hb d_MD_removeCell_14 rfl (lv_at hl 2 rfl) ?_
    refine gf_MD_109 (v := .int v_cells) hx hb hts hN hown hK hP 0 rfl rfl d_MD_removeCell_15 ?_
    obtain ⟨r3, hc, hf⟩ := pu_b1_some hf
    refine cl_i (WC := [(q_this, .inr (8, [.ref q_now, .ref q_disk, .ref q_before, .int v_onDisk, .int v_head, .int v_headPages, .int v_records, .ref q_recordPage, .ref q_recordBytes, .int v_up, .int v_armed, .int v_columns, .ref q_isBlob, .ref q_integer, .ref q_size, .ref q_blobs, .int v_length, .ref q_record, .int v_kind, .int v_cells, .int v_last, .ref q_cellLength, .ref q_row, .int v_made, .ref q_cell, .int v_deep, .ref q_way, .ref q_turn, .int v_at, .int v_bad, .ref q_used])), (q_cellLength, .inl (cI, 80, .inl v_cellLength))]) (WC2 := [(q_this, .inr (8, [.ref q_now, .ref q_disk, .ref q_before, .int v_onDisk, .int v_head, .int v_headPages, .int v_records, .ref q_recordPage, .ref q_recordBytes, .int v_up, .int v_armed, .int v_columns, .ref q_isBlob, .ref q_integer, .ref q_size, .ref q_blobs, .int v_length, .ref q_record, .int v_kind, .int v_cells, .int v_last, .ref q_cellLength, .ref q_row, .int v_made, .ref q_cell, .int v_deep, .ref q_way, .ref q_turn, .int v_at, .int v_bad, .ref q_used])), (q_cellLength, .inl (cI, 80, .inl v_cellLength))]) (WR := [(q_row, .inl (cI, 2000, .inl v_row))]) (WS2 := [(q_this, .inr (8, [.ref q_now, .ref q_disk, .ref q_before, .int v_onDisk, .int v_head, .int v_headPages, .int v_records, .ref q_recordPage, .ref q_recordBytes, .int v_up, .int v_armed, .int v_columns, .ref q_isBlob, .ref q_integer, .ref q_size, .ref q_blobs, .int v_length, .ref q_record, .int v_kind, .int v_cells, .int v_last, .ref q_cellLength, .ref q_row, .int v_made, .ref q_cell, .int v_deep, .ref q_way, .ref q_turn, .int v_at, .int v_bad, .ref q_used])), (q_cellLength, .inl (cI, 80, .inl v_cellLength)), (q_row, .inl (cI, 2000, .inl v_row))]) (pu_rv (cl := pu_cl) (pu_in11 _ (List.mem_of_getElem? (i := 41) rfl)) (pu_in11 _ (List.mem_of_getElem? (i := 42) rfl)) (pu_in14 _ (List.mem_of_getElem? (i := 27) rfl)) (pu_in0 _ (List.mem_of_getElem? (i := 10) rfl)) (pu_in11 _ (List.mem_of_getElem? (i := 43) rfl)) (ci := 8) rfl hd_MD_start (by decide) ⟨rfl, rfl⟩ rfl rfl (Nat.le_of_ble_eq_true rfl) rfl (As := [.int v_cells]) (rest := []) (WC := [(q_this, .inr (8, [.ref q_now, .ref q_disk, .ref q_before, .int v_onDisk, .int v_head, .int v_headPages, .int v_records, .ref q_recordPage, .ref q_recordBytes, .int v_up, .int v_armed, .int v_columns, .ref q_isBlob, .ref q_integer, .ref q_size, .ref q_blobs, .int v_length, .ref q_record, .int v_kind, .int v_cells, .int v_last, .ref q_cellLength, .ref q_row, .int v_made, .ref q_cell, .int v_deep, .ref q_way, .ref q_turn, .int v_at, .int v_bad, .ref q_used])), (q_cellLength, .inl (cI, 80, .inl v_cellLength))]) hx hb hml hown hts hN hK hP hD (c_MD_start l D cI cJ cB cZ H.size q_this q_now q_disk q_before q_recordPage q_recordBytes q_isBlob q_integer q_size q_blobs q_record q_cellLength q_row q_cell q_way q_turn q_used v_onDisk v_head v_headPages v_records v_up v_armed v_columns v_length v_kind v_cells v_last v_made v_deep v_at v_bad v_cellLength v_cells r3 hc) [0, 1] rfl rfl hl.1 d_MD_removeCell_18) hP hD hS hA [0, 1] [2] [1, 2, 0] rfl rfl rfl (by decide) rfl rfl (fun H locs hP hD hS => ?_)
    refine lv_istore hx hb d_MD_removeCell_21 hl (by decide) rfl (fun ls hl => ?_)
    have hl : lv_has ls 6 [(4, .int r3), (3, .int t2), (2, .int r1), (0, .ref q_this), (1, .int x_1)] := hl
    refine lv_iload_n hx hb d_MD_removeCell_23 rfl (lv_at hl 2 rfl) ?_
    refine lv_istore hx hb d_MD_removeCell_24 hl (by decide) rfl (fun ls hl => ?_)
    have hl : lv_has ls 6 [(5, .int r1), (4, .int r3), (3, .int t2), (2, .int r1), (0, .ref q_this), (1, .int x_1)] := hl
    exact lp_26 v_cells v_cellLength x_1 t2 r3 _ v_row r1 H locs ls hP hD hS (lv_sub hl [4, 5, 2, 1, 0] rfl) hf
  rw [hH, hlocs] at goal
  exact goal
theorem d_MD_fitting_0 : decode b_MD_fitting 0 = .ok (.iconst 0, 1) := by decide +kernel
theorem d_MD_fitting_1 : decode b_MD_fitting 1 = .ok (.istore_n 1, 1) := by decide +kernel
theorem d_MD_fitting_2 : decode b_MD_fitting 2 = .ok (.iconst 0, 1) := by decide +kernel
theorem d_MD_fitting_3 : decode b_MD_fitting 3 = .ok (.istore_n 2, 1) := by decide +kernel
theorem d_MD_fitting_4 : decode b_MD_fitting 4 = .ok (.iload_n 1, 1) := by decide +kernel
theorem d_MD_fitting_5 : decode b_MD_fitting 5 = .ok (.aload_n 0, 1) := by decide +kernel
theorem d_MD_fitting_6 : decode b_MD_fitting 6 = .ok (.getfield 109, 3) := by decide +kernel
theorem d_MD_fitting_9 : decode b_MD_fitting 9 = .ok (.if_icmp .ge 35, 3) := by decide +kernel
theorem d_MD_fitting_12 : decode b_MD_fitting 12 = .ok (.iload_n 2, 1) := by decide +kernel
theorem d_MD_fitting_13 : decode b_MD_fitting 13 = .ok (.aload_n 0, 1) := by decide +kernel
theorem d_MD_fitting_14 : decode b_MD_fitting 14 = .ok (.getfield 53, 3) := by decide +kernel
theorem d_MD_fitting_17 : decode b_MD_fitting 17 = .ok (.iload_n 1, 1) := by decide +kernel
theorem d_MD_fitting_18 : decode b_MD_fitting 18 = .ok (.iaload, 1) := by decide +kernel
theorem d_MD_fitting_19 : decode b_MD_fitting 19 = .ok (.iadd, 1) := by decide +kernel
theorem d_MD_fitting_20 : decode b_MD_fitting 20 = .ok (.iconst 1, 1) := by decide +kernel
theorem d_MD_fitting_21 : decode b_MD_fitting 21 = .ok (.iadd, 1) := by decide +kernel
theorem d_MD_fitting_22 : decode b_MD_fitting 22 = .ok (.bipush 60, 2) := by decide +kernel
theorem d_MD_fitting_24 : decode b_MD_fitting 24 = .ok (.if_icmp .gt 20, 3) := by decide +kernel
theorem d_MD_fitting_27 : decode b_MD_fitting 27 = .ok (.iload_n 2, 1) := by decide +kernel
theorem d_MD_fitting_28 : decode b_MD_fitting 28 = .ok (.aload_n 0, 1) := by decide +kernel
theorem d_MD_fitting_29 : decode b_MD_fitting 29 = .ok (.getfield 53, 3) := by decide +kernel
theorem d_MD_fitting_32 : decode b_MD_fitting 32 = .ok (.iload_n 1, 1) := by decide +kernel
theorem d_MD_fitting_33 : decode b_MD_fitting 33 = .ok (.iaload, 1) := by decide +kernel
theorem d_MD_fitting_34 : decode b_MD_fitting 34 = .ok (.iconst 1, 1) := by decide +kernel
theorem d_MD_fitting_35 : decode b_MD_fitting 35 = .ok (.iadd, 1) := by decide +kernel
theorem d_MD_fitting_36 : decode b_MD_fitting 36 = .ok (.iadd, 1) := by decide +kernel
theorem d_MD_fitting_37 : decode b_MD_fitting 37 = .ok (.istore_n 2, 1) := by decide +kernel
theorem d_MD_fitting_38 : decode b_MD_fitting 38 = .ok (.iinc 1 1, 3) := by decide +kernel
theorem d_MD_fitting_41 : decode b_MD_fitting 41 = .ok (.goto (-37), 3) := by decide +kernel
theorem d_MD_fitting_44 : decode b_MD_fitting 44 = .ok (.iload_n 1, 1) := by decide +kernel
theorem d_MD_fitting_45 : decode b_MD_fitting 45 = .ok (.ireturn, 1) := by decide +kernel
noncomputable def q_MD_fitting_4 (v_cells : Int32) (v_cellLength : Nat → Int32) : Nat → Int32 → Int32 → Option (Int32)
  | 0, _, _ => none
  | n + 1, x_1, x_2 => pu_br (v_cells ≤ x_1) (some x_1) (pu_ck (vp_in x_1 80) (pu_br ((60 : Int32) < ((x_2 + (v_cellLength x_1.toNatClampNeg)) + (1 : Int32))) (some x_1) (pu_ck (vp_in x_1 80) (pu_nm (x_2 + ((v_cellLength x_1.toNatClampNeg) + (1 : Int32))) (fun t1 => pu_nm (x_1 + (1 : Int32)) (fun t2 => q_MD_fitting_4 v_cells v_cellLength n t2 t1))))))
noncomputable def f_MD_fitting (v_cells : Int32) (v_cellLength : Nat → Int32) : Option (Int32) :=
  q_MD_fitting_4 v_cells v_cellLength pu_fu (0 : Int32) (0 : Int32)
abbrev rm_MD_fitting : Room := { frames := 0, cells := 0, slots := 0, locals := 0 }
set_option maxHeartbeats 8000000 in
set_option maxRecDepth 100000 in
theorem c_MD_fitting (l : Launch) (D : va_G) (cI cJ cB cZ : ClassId) (sz : Nat) (q_this : Nat) (q_now : Nat) (q_disk : Nat) (q_before : Nat) (q_recordPage : Nat) (q_recordBytes : Nat) (q_isBlob : Nat) (q_integer : Nat) (q_size : Nat) (q_blobs : Nat) (q_record : Nat) (q_cellLength : Nat) (q_row : Nat) (q_cell : Nat) (q_way : Nat) (q_turn : Nat) (q_used : Nat) (v_onDisk : Int32) (v_head : Int32) (v_headPages : Int32) (v_records : Int32) (v_up : Int32) (v_armed : Int32) (v_columns : Int32) (v_length : Int32) (v_kind : Int32) (v_cells : Int32) (v_last : Int32) (v_made : Int32) (v_deep : Int32) (v_at : Int32) (v_bad : Int32) (v_cellLength : Nat → Int32) (o_r : Int32) (hf : f_MD_fitting v_cells v_cellLength = some o_r) : Met l y_MD_fitting (.code y_MD_fitting b_MD_fitting 3 (some .int) :: pu_wA) rm_MD_fitting (pu_pc D pu_cl (pu_ty cI cJ cB cZ) [.ref q_this] [(q_this, .inr (8, [.ref q_now, .ref q_disk, .ref q_before, .int v_onDisk, .int v_head, .int v_headPages, .int v_records, .ref q_recordPage, .ref q_recordBytes, .int v_up, .int v_armed, .int v_columns, .ref q_isBlob, .ref q_integer, .ref q_size, .ref q_blobs, .int v_length, .ref q_record, .int v_kind, .int v_cells, .int v_last, .ref q_cellLength, .ref q_row, .int v_made, .ref q_cell, .int v_deep, .ref q_way, .ref q_turn, .int v_at, .int v_bad, .ref q_used])), (q_cellLength, .inl (cI, 80, .inl v_cellLength))] sz) (pu_qi D pu_cl (pu_ty cI cJ cB cZ) [(q_this, .inr (8, [.ref q_now, .ref q_disk, .ref q_before, .int v_onDisk, .int v_head, .int v_headPages, .int v_records, .ref q_recordPage, .ref q_recordBytes, .int v_up, .int v_armed, .int v_columns, .ref q_isBlob, .ref q_integer, .ref q_size, .ref q_blobs, .int v_length, .ref q_record, .int v_kind, .int v_cells, .int v_last, .ref q_cellLength, .ref q_row, .int v_made, .ref q_cell, .int v_deep, .ref q_way, .ref q_turn, .int v_at, .int v_bad, .ref q_used])), (q_cellLength, .inl (cI, 80, .inl v_cellLength))] [(q_this, .inr (8, [.ref q_now, .ref q_disk, .ref q_before, .int v_onDisk, .int v_head, .int v_headPages, .int v_records, .ref q_recordPage, .ref q_recordBytes, .int v_up, .int v_armed, .int v_columns, .ref q_isBlob, .ref q_integer, .ref q_size, .ref q_blobs, .int v_length, .ref q_record, .int v_kind, .int v_cells, .int v_last, .ref q_cellLength, .ref q_row, .int v_made, .ref q_cell, .int v_deep, .ref q_way, .ref q_turn, .int v_at, .int v_bad, .ref q_used])), (q_cellLength, .inl (cI, 80, .inl v_cellLength))] sz o_r) 0 0 (va_A [(q_this, .inr (8, [.ref q_now, .ref q_disk, .ref q_before, .int v_onDisk, .int v_head, .int v_headPages, .int v_records, .ref q_recordPage, .ref q_recordBytes, .int v_up, .int v_armed, .int v_columns, .ref q_isBlob, .ref q_integer, .ref q_size, .ref q_blobs, .int v_length, .ref q_record, .int v_kind, .int v_cells, .int v_last, .ref q_cellLength, .ref q_row, .int v_made, .ref q_cell, .int v_deep, .ref q_way, .ref q_turn, .int v_at, .int v_bad, .ref q_used])), (q_cellLength, .inl (cI, 80, .inl v_cellLength))] sz) := by
  refine pu_mti [.ref q_this] [(q_this, .inr (8, [.ref q_now, .ref q_disk, .ref q_before, .int v_onDisk, .int v_head, .int v_headPages, .int v_records, .ref q_recordPage, .ref q_recordBytes, .int v_up, .int v_armed, .int v_columns, .ref q_isBlob, .ref q_integer, .ref q_size, .ref q_blobs, .int v_length, .ref q_record, .int v_kind, .int v_cells, .int v_last, .ref q_cellLength, .ref q_row, .int v_made, .ref q_cell, .int v_deep, .ref q_way, .ref q_turn, .int v_at, .int v_bad, .ref q_used])), (q_cellLength, .inl (cI, 80, .inl v_cellLength))] [(q_this, .inr (8, [.ref q_now, .ref q_disk, .ref q_before, .int v_onDisk, .int v_head, .int v_headPages, .int v_records, .ref q_recordPage, .ref q_recordBytes, .int v_up, .int v_armed, .int v_columns, .ref q_isBlob, .ref q_integer, .ref q_size, .ref q_blobs, .int v_length, .ref q_record, .int v_kind, .int v_cells, .int v_last, .ref q_cellLength, .ref q_row, .int v_made, .ref q_cell, .int v_deep, .ref q_way, .ref q_turn, .int v_at, .int v_bad, .ref q_used])), (q_cellLength, .inl (cI, 80, .inl v_cellLength))] o_r (by decide) (Nat.le_of_ble_eq_true rfl) ?_
  intro p e s m args below meth c A Q ls hx hb hml hts hN hown hK hA hP hD hl hret0
  have hS : va_S A s.heap s.heap [] := va_S.rf
  have hl : lv_has ls 3 [(0, .ref q_this)] := hl
  have hret : ∀ (pc : Nat) (ls : Array Slot) (H : Heap) (locs : List Loc) (y_0 : Int32), decode b_MD_fitting pc = .ok (.ireturn, 1) → va_P D pu_cl [(q_this, .inr (8, [.ref q_now, .ref q_disk, .ref q_before, .int v_onDisk, .int v_head, .int v_headPages, .int v_records, .ref q_recordPage, .ref q_recordBytes, .int v_up, .int v_armed, .int v_columns, .ref q_isBlob, .ref q_integer, .ref q_size, .ref q_blobs, .int v_length, .ref q_record, .int v_kind, .int v_cells, .int v_last, .ref q_cellLength, .ref q_row, .int v_made, .ref q_cell, .int v_deep, .ref q_way, .ref q_turn, .int v_at, .int v_bad, .ref q_used])), (q_cellLength, .inl (cI, 80, .inl v_cellLength))] H → va_D A [(q_this, .inr (8, [.ref q_now, .ref q_disk, .ref q_before, .int v_onDisk, .int v_head, .int v_headPages, .int v_records, .ref q_recordPage, .ref q_recordBytes, .int v_up, .int v_armed, .int v_columns, .ref q_isBlob, .ref q_integer, .ref q_size, .ref q_blobs, .int v_length, .ref q_record, .int v_kind, .int v_cells, .int v_last, .ref q_cellLength, .ref q_row, .int v_made, .ref q_cell, .int v_deep, .ref q_way, .ref q_turn, .int v_at, .int v_bad, .ref q_used])), (q_cellLength, .inl (cI, 80, .inl v_cellLength))] → va_S A s.heap H locs → some y_0 = some o_r → W p l e rm_MD_fitting s m args below meth c H locs 0 0 Q (F0 m pc ls [.int y_0]) := by
    intro pc ls H locs y_0 hd hP hD hS hf
    cases hf
    exact hret0 pc ls H locs hd hP hD hS
  clear hret0
  unfold f_MD_fitting at hf
  skip
  have lp_4 : ∀ (n4 : Nat) (x_1 : Int32) (x_2 : Int32) (H : Heap) (locs : List Loc) (ls : Array Slot), va_P D pu_cl [(q_this, .inr (8, [.ref q_now, .ref q_disk, .ref q_before, .int v_onDisk, .int v_head, .int v_headPages, .int v_records, .ref q_recordPage, .ref q_recordBytes, .int v_up, .int v_armed, .int v_columns, .ref q_isBlob, .ref q_integer, .ref q_size, .ref q_blobs, .int v_length, .ref q_record, .int v_kind, .int v_cells, .int v_last, .ref q_cellLength, .ref q_row, .int v_made, .ref q_cell, .int v_deep, .ref q_way, .ref q_turn, .int v_at, .int v_bad, .ref q_used])), (q_cellLength, .inl (cI, 80, .inl v_cellLength))] H → va_D A [(q_this, .inr (8, [.ref q_now, .ref q_disk, .ref q_before, .int v_onDisk, .int v_head, .int v_headPages, .int v_records, .ref q_recordPage, .ref q_recordBytes, .int v_up, .int v_armed, .int v_columns, .ref q_isBlob, .ref q_integer, .ref q_size, .ref q_blobs, .int v_length, .ref q_record, .int v_kind, .int v_cells, .int v_last, .ref q_cellLength, .ref q_row, .int v_made, .ref q_cell, .int v_deep, .ref q_way, .ref q_turn, .int v_at, .int v_bad, .ref q_used])), (q_cellLength, .inl (cI, 80, .inl v_cellLength))] → va_S A s.heap H locs → lv_has ls 3 [(0, .ref q_this), (1, .int x_1), (2, .int x_2)] → q_MD_fitting_4 v_cells v_cellLength n4 x_1 x_2 = some o_r → W p l e rm_MD_fitting s m args below meth c H locs 0 0 Q (F0 m 4 ls []) := by
    intro n4
    induction n4 with
    | zero =>
      intro x_1 x_2 H locs ls hP hD hS hl hf
      rw [q_MD_fitting_4] at hf
      cases hf
    | succ n4 ih_4 =>
      intro x_1 x_2 H locs ls hP hD hS hl hf
      rw [q_MD_fitting_4] at hf
      refine lv_iload_n hx hb d_MD_fitting_4 rfl (lv_at hl 1 rfl) ?_
      refine lv_aload_n hx hb d_MD_fitting_5 rfl (lv_at hl 0 rfl) ?_
      refine gf_MD_109 (v := .int v_cells) hx hb hts hN hown hK hP 0 rfl rfl d_MD_fitting_6 ?_
      refine lv_icmp_ge (tgt := 44) hx hb d_MD_fitting_9 rfl (fun hc => ?_) (fun hc => ?_)
      · have hf := pu_br_pos hf hc
        refine lv_iload_n hx hb d_MD_fitting_44 rfl (lv_at hl 1 rfl) ?_
        exact hret _ _ _ _ x_1  d_MD_fitting_45 hP hD hS hf
      have hf := pu_br_neg hf hc
      refine lv_iload_n hx hb d_MD_fitting_12 rfl (lv_at hl 2 rfl) ?_
      refine lv_aload_n hx hb d_MD_fitting_13 rfl (lv_at hl 0 rfl) ?_
      refine gf_MD_53 (v := .ref q_cellLength) hx hb hts hN hown hK hP 0 rfl rfl d_MD_fitting_14 ?_
      refine lv_iload_n hx hb d_MD_fitting_17 rfl (lv_at hl 1 rfl) ?_
      obtain ⟨hin, hf⟩ := pu_ck_some hf
      refine va_iald hx hb hK hP 1 0 rfl rfl hin d_MD_fitting_18 ?_
      refine lv_iadd hx hb d_MD_fitting_19 ?_
      refine lv_iconst (v := 1) hx hb d_MD_fitting_20 rfl ?_
      refine lv_iadd hx hb d_MD_fitting_21 ?_
      refine lv_bipush (v := 60) hx hb d_MD_fitting_22 rfl ?_
      refine lv_icmp_gt (tgt := 44) hx hb d_MD_fitting_24 rfl (fun hc => ?_) (fun hc => ?_)
      · have hf := pu_br_pos hf hc
        refine lv_iload_n hx hb d_MD_fitting_44 rfl (lv_at hl 1 rfl) ?_
        exact hret _ _ _ _ x_1  d_MD_fitting_45 hP hD hS hf
      have hf := pu_br_neg hf hc
      refine lv_iload_n hx hb d_MD_fitting_27 rfl (lv_at hl 2 rfl) ?_
      refine lv_aload_n hx hb d_MD_fitting_28 rfl (lv_at hl 0 rfl) ?_
      refine gf_MD_53 (v := .ref q_cellLength) hx hb hts hN hown hK hP 0 rfl rfl d_MD_fitting_29 ?_
      refine lv_iload_n hx hb d_MD_fitting_32 rfl (lv_at hl 1 rfl) ?_
      obtain ⟨hin, hf⟩ := pu_ck_some hf
      refine va_iald hx hb hK hP 1 0 rfl rfl hin d_MD_fitting_33 ?_
      refine lv_iconst (v := 1) hx hb d_MD_fitting_34 rfl ?_
      refine lv_iadd hx hb d_MD_fitting_35 ?_
      refine lv_iadd hx hb d_MD_fitting_36 ?_
      obtain ⟨t1, e_t1, hf⟩ := pu_nm_some hf
      refine pu_ti e_t1 ?_
      refine lv_istore_n hx hb d_MD_fitting_37 rfl hl (by decide) rfl (fun ls hl => ?_)
      have hl : lv_has ls 3 [(2, .int t1), (0, .ref q_this), (1, .int x_1)] := hl
      obtain ⟨t2, e_t2, hf⟩ := pu_nm_some hf
      refine lv_iinc (k := 2) (v := t2) hx hb d_MD_fitting_38 hl rfl e_t2.symm (by decide) rfl (fun ls hl => ?_)
      have hl : lv_has ls 3 [(1, .int t2), (2, .int t1), (0, .ref q_this)] := hl
      refine lv_goto (tgt := 4) hx hb d_MD_fitting_41 rfl ?_
      exact ih_4 t2 t1 H locs ls hP hD hS (lv_sub hl [2, 0, 1] rfl) hf
  obtain ⟨H, hH⟩ : ∃ H, H = s.heap := ⟨_, rfl⟩
  obtain ⟨locs, hlocs⟩ : ∃ locs : List Loc, locs = [] := ⟨_, rfl⟩
  have hP : va_P D pu_cl [(q_this, .inr (8, [.ref q_now, .ref q_disk, .ref q_before, .int v_onDisk, .int v_head, .int v_headPages, .int v_records, .ref q_recordPage, .ref q_recordBytes, .int v_up, .int v_armed, .int v_columns, .ref q_isBlob, .ref q_integer, .ref q_size, .ref q_blobs, .int v_length, .ref q_record, .int v_kind, .int v_cells, .int v_last, .ref q_cellLength, .ref q_row, .int v_made, .ref q_cell, .int v_deep, .ref q_way, .ref q_turn, .int v_at, .int v_bad, .ref q_used])), (q_cellLength, .inl (cI, 80, .inl v_cellLength))] H := by rw [hH]; exact hP
  have hS : va_S A s.heap H locs := by rw [hH, hlocs]; exact hS
  have goal : W p l e rm_MD_fitting s m args below meth c H locs 0 0 Q (F0 m 0 ls []) := by
    clear hH hlocs
    refine lv_iconst (v := 0) hx hb d_MD_fitting_0 rfl ?_
    refine lv_istore_n hx hb d_MD_fitting_1 rfl hl (by decide) rfl (fun ls hl => ?_)
    have hl : lv_has ls 3 [(1, .int (0 : Int32)), (0, .ref q_this)] := hl
    refine lv_iconst (v := 0) hx hb d_MD_fitting_2 rfl ?_
    refine lv_istore_n hx hb d_MD_fitting_3 rfl hl (by decide) rfl (fun ls hl => ?_)
    have hl : lv_has ls 3 [(2, .int (0 : Int32)), (1, .int (0 : Int32)), (0, .ref q_this)] := hl
    exact lp_4 _ (0 : Int32) (0 : Int32) H locs ls hP hD hS (lv_sub hl [2, 1, 0] rfl) hf
  rw [hH, hlocs] at goal
  exact goal
