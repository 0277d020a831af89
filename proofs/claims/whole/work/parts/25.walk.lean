theorem d_MD_wellLaid_0 : decode b_MD_wellLaid 0 = .ok (.aload_n 0, 1) := by decide +kernel
theorem d_MD_wellLaid_1 : decode b_MD_wellLaid 1 = .ok (.getfield 7, 3) := by decide +kernel
theorem d_MD_wellLaid_4 : decode b_MD_wellLaid 4 = .ok (.bipush 64, 2) := by decide +kernel
theorem d_MD_wellLaid_6 : decode b_MD_wellLaid 6 = .ok (.iload_n 1, 1) := by decide +kernel
theorem d_MD_wellLaid_7 : decode b_MD_wellLaid 7 = .ok (.imul, 1) := by decide +kernel
theorem d_MD_wellLaid_8 : decode b_MD_wellLaid 8 = .ok (.iaload, 1) := by decide +kernel
theorem d_MD_wellLaid_9 : decode b_MD_wellLaid 9 = .ok (.istore_n 2, 1) := by decide +kernel
theorem d_MD_wellLaid_10 : decode b_MD_wellLaid 10 = .ok (.aload_n 0, 1) := by decide +kernel
theorem d_MD_wellLaid_11 : decode b_MD_wellLaid 11 = .ok (.getfield 7, 3) := by decide +kernel
theorem d_MD_wellLaid_14 : decode b_MD_wellLaid 14 = .ok (.bipush 64, 2) := by decide +kernel
theorem d_MD_wellLaid_16 : decode b_MD_wellLaid 16 = .ok (.iload_n 1, 1) := by decide +kernel
theorem d_MD_wellLaid_17 : decode b_MD_wellLaid 17 = .ok (.imul, 1) := by decide +kernel
theorem d_MD_wellLaid_18 : decode b_MD_wellLaid 18 = .ok (.iconst 1, 1) := by decide +kernel
theorem d_MD_wellLaid_19 : decode b_MD_wellLaid 19 = .ok (.iadd, 1) := by decide +kernel
theorem d_MD_wellLaid_20 : decode b_MD_wellLaid 20 = .ok (.iaload, 1) := by decide +kernel
theorem d_MD_wellLaid_21 : decode b_MD_wellLaid 21 = .ok (.istore_n 3, 1) := by decide +kernel
theorem d_MD_wellLaid_22 : decode b_MD_wellLaid 22 = .ok (.iload_n 2, 1) := by decide +kernel
theorem d_MD_wellLaid_23 : decode b_MD_wellLaid 23 = .ok (.bipush 13, 2) := by decide +kernel
theorem d_MD_wellLaid_25 : decode b_MD_wellLaid 25 = .ok (.if_icmp .eq 8, 3) := by decide +kernel
theorem d_MD_wellLaid_28 : decode b_MD_wellLaid 28 = .ok (.iload_n 2, 1) := by decide +kernel
theorem d_MD_wellLaid_29 : decode b_MD_wellLaid 29 = .ok (.iconst 5, 1) := by decide +kernel
theorem d_MD_wellLaid_30 : decode b_MD_wellLaid 30 = .ok (.if_icmp .ne 43, 3) := by decide +kernel
theorem d_MD_wellLaid_33 : decode b_MD_wellLaid 33 = .ok (.iload_n 3, 1) := by decide +kernel
theorem d_MD_wellLaid_34 : decode b_MD_wellLaid 34 = .ok (.bipush 30, 2) := by decide +kernel
theorem d_MD_wellLaid_36 : decode b_MD_wellLaid 36 = .ok (.if_icmp .gt 37, 3) := by decide +kernel
theorem d_MD_wellLaid_39 : decode b_MD_wellLaid 39 = .ok (.aload_n 0, 1) := by decide +kernel
theorem d_MD_wellLaid_40 : decode b_MD_wellLaid 40 = .ok (.getfield 7, 3) := by decide +kernel
theorem d_MD_wellLaid_43 : decode b_MD_wellLaid 43 = .ok (.bipush 64, 2) := by decide +kernel
theorem d_MD_wellLaid_45 : decode b_MD_wellLaid 45 = .ok (.iload_n 1, 1) := by decide +kernel
theorem d_MD_wellLaid_46 : decode b_MD_wellLaid 46 = .ok (.imul, 1) := by decide +kernel
theorem d_MD_wellLaid_47 : decode b_MD_wellLaid 47 = .ok (.iconst 3, 1) := by decide +kernel
theorem d_MD_wellLaid_48 : decode b_MD_wellLaid 48 = .ok (.iadd, 1) := by decide +kernel
theorem d_MD_wellLaid_49 : decode b_MD_wellLaid 49 = .ok (.iaload, 1) := by decide +kernel
theorem d_MD_wellLaid_50 : decode b_MD_wellLaid 50 = .ok (.ifCond .ne 23, 3) := by decide +kernel
theorem d_MD_wellLaid_53 : decode b_MD_wellLaid 53 = .ok (.iload_n 2, 1) := by decide +kernel
theorem d_MD_wellLaid_54 : decode b_MD_wellLaid 54 = .ok (.bipush 13, 2) := by decide +kernel
theorem d_MD_wellLaid_56 : decode b_MD_wellLaid 56 = .ok (.if_icmp .ne 19, 3) := by decide +kernel
theorem d_MD_wellLaid_59 : decode b_MD_wellLaid 59 = .ok (.aload_n 0, 1) := by decide +kernel
theorem d_MD_wellLaid_60 : decode b_MD_wellLaid 60 = .ok (.getfield 7, 3) := by decide +kernel
theorem d_MD_wellLaid_63 : decode b_MD_wellLaid 63 = .ok (.bipush 64, 2) := by decide +kernel
theorem d_MD_wellLaid_65 : decode b_MD_wellLaid 65 = .ok (.iload_n 1, 1) := by decide +kernel
theorem d_MD_wellLaid_66 : decode b_MD_wellLaid 66 = .ok (.imul, 1) := by decide +kernel
theorem d_MD_wellLaid_67 : decode b_MD_wellLaid 67 = .ok (.iconst 2, 1) := by decide +kernel
theorem d_MD_wellLaid_68 : decode b_MD_wellLaid 68 = .ok (.iadd, 1) := by decide +kernel
theorem d_MD_wellLaid_69 : decode b_MD_wellLaid 69 = .ok (.iaload, 1) := by decide +kernel
theorem d_MD_wellLaid_70 : decode b_MD_wellLaid 70 = .ok (.ifCond .eq 5, 3) := by decide +kernel
theorem d_MD_wellLaid_73 : decode b_MD_wellLaid 73 = .ok (.iconst 0, 1) := by decide +kernel
theorem d_MD_wellLaid_74 : decode b_MD_wellLaid 74 = .ok (.ireturn, 1) := by decide +kernel
theorem d_MD_wellLaid_75 : decode b_MD_wellLaid 75 = .ok (.bipush 64, 2) := by decide +kernel
theorem d_MD_wellLaid_77 : decode b_MD_wellLaid 77 = .ok (.istore 4, 2) := by decide +kernel
theorem d_MD_wellLaid_79 : decode b_MD_wellLaid 79 = .ok (.iconst 0, 1) := by decide +kernel
theorem d_MD_wellLaid_80 : decode b_MD_wellLaid 80 = .ok (.istore 5, 2) := by decide +kernel
theorem d_MD_wellLaid_82 : decode b_MD_wellLaid 82 = .ok (.iload 5, 2) := by decide +kernel
theorem d_MD_wellLaid_84 : decode b_MD_wellLaid 84 = .ok (.iload_n 3, 1) := by decide +kernel
theorem d_MD_wellLaid_85 : decode b_MD_wellLaid 85 = .ok (.if_icmp .ge 46, 3) := by decide +kernel
theorem d_MD_wellLaid_88 : decode b_MD_wellLaid 88 = .ok (.aload_n 0, 1) := by decide +kernel
theorem d_MD_wellLaid_89 : decode b_MD_wellLaid 89 = .ok (.getfield 7, 3) := by decide +kernel
theorem d_MD_wellLaid_92 : decode b_MD_wellLaid 92 = .ok (.bipush 64, 2) := by decide +kernel
theorem d_MD_wellLaid_94 : decode b_MD_wellLaid 94 = .ok (.iload_n 1, 1) := by decide +kernel
theorem d_MD_wellLaid_95 : decode b_MD_wellLaid 95 = .ok (.imul, 1) := by decide +kernel
theorem d_MD_wellLaid_96 : decode b_MD_wellLaid 96 = .ok (.iconst 4, 1) := by decide +kernel
theorem d_MD_wellLaid_97 : decode b_MD_wellLaid 97 = .ok (.iadd, 1) := by decide +kernel
theorem d_MD_wellLaid_98 : decode b_MD_wellLaid 98 = .ok (.iload 5, 2) := by decide +kernel
theorem d_MD_wellLaid_100 : decode b_MD_wellLaid 100 = .ok (.iadd, 1) := by decide +kernel
theorem d_MD_wellLaid_101 : decode b_MD_wellLaid 101 = .ok (.iaload, 1) := by decide +kernel
theorem d_MD_wellLaid_102 : decode b_MD_wellLaid 102 = .ok (.istore 6, 2) := by decide +kernel
theorem d_MD_wellLaid_104 : decode b_MD_wellLaid 104 = .ok (.iload 6, 2) := by decide +kernel
theorem d_MD_wellLaid_106 : decode b_MD_wellLaid 106 = .ok (.iload 4, 2) := by decide +kernel
theorem d_MD_wellLaid_108 : decode b_MD_wellLaid 108 = .ok (.if_icmp .ge 11, 3) := by decide +kernel
theorem d_MD_wellLaid_111 : decode b_MD_wellLaid 111 = .ok (.iload 6, 2) := by decide +kernel
theorem d_MD_wellLaid_113 : decode b_MD_wellLaid 113 = .ok (.iconst 4, 1) := by decide +kernel
theorem d_MD_wellLaid_114 : decode b_MD_wellLaid 114 = .ok (.iload_n 3, 1) := by decide +kernel
theorem d_MD_wellLaid_115 : decode b_MD_wellLaid 115 = .ok (.iadd, 1) := by decide +kernel
theorem d_MD_wellLaid_116 : decode b_MD_wellLaid 116 = .ok (.if_icmp .ge 5, 3) := by decide +kernel
theorem d_MD_wellLaid_119 : decode b_MD_wellLaid 119 = .ok (.iconst 0, 1) := by decide +kernel
theorem d_MD_wellLaid_120 : decode b_MD_wellLaid 120 = .ok (.ireturn, 1) := by decide +kernel
theorem d_MD_wellLaid_121 : decode b_MD_wellLaid 121 = .ok (.iload 6, 2) := by decide +kernel
theorem d_MD_wellLaid_123 : decode b_MD_wellLaid 123 = .ok (.istore 4, 2) := by decide +kernel
theorem d_MD_wellLaid_125 : decode b_MD_wellLaid 125 = .ok (.iinc 5 1, 3) := by decide +kernel
theorem d_MD_wellLaid_128 : decode b_MD_wellLaid 128 = .ok (.goto (-46), 3) := by decide +kernel
theorem d_MD_wellLaid_131 : decode b_MD_wellLaid 131 = .ok (.iconst 4, 1) := by decide +kernel
theorem d_MD_wellLaid_132 : decode b_MD_wellLaid 132 = .ok (.iload_n 3, 1) := by decide +kernel
theorem d_MD_wellLaid_133 : decode b_MD_wellLaid 133 = .ok (.iadd, 1) := by decide +kernel
theorem d_MD_wellLaid_134 : decode b_MD_wellLaid 134 = .ok (.istore 5, 2) := by decide +kernel
theorem d_MD_wellLaid_136 : decode b_MD_wellLaid 136 = .ok (.iload 5, 2) := by decide +kernel
theorem d_MD_wellLaid_138 : decode b_MD_wellLaid 138 = .ok (.iload 4, 2) := by decide +kernel
theorem d_MD_wellLaid_140 : decode b_MD_wellLaid 140 = .ok (.if_icmp .ge 26, 3) := by decide +kernel
theorem d_MD_wellLaid_143 : decode b_MD_wellLaid 143 = .ok (.aload_n 0, 1) := by decide +kernel
theorem d_MD_wellLaid_144 : decode b_MD_wellLaid 144 = .ok (.getfield 7, 3) := by decide +kernel
theorem d_MD_wellLaid_147 : decode b_MD_wellLaid 147 = .ok (.bipush 64, 2) := by decide +kernel
theorem d_MD_wellLaid_149 : decode b_MD_wellLaid 149 = .ok (.iload_n 1, 1) := by decide +kernel
theorem d_MD_wellLaid_150 : decode b_MD_wellLaid 150 = .ok (.imul, 1) := by decide +kernel
theorem d_MD_wellLaid_151 : decode b_MD_wellLaid 151 = .ok (.iload 5, 2) := by decide +kernel
theorem d_MD_wellLaid_153 : decode b_MD_wellLaid 153 = .ok (.iadd, 1) := by decide +kernel
theorem d_MD_wellLaid_154 : decode b_MD_wellLaid 154 = .ok (.iaload, 1) := by decide +kernel
theorem d_MD_wellLaid_155 : decode b_MD_wellLaid 155 = .ok (.ifCond .eq 5, 3) := by decide +kernel
theorem d_MD_wellLaid_158 : decode b_MD_wellLaid 158 = .ok (.iconst 0, 1) := by decide +kernel
theorem d_MD_wellLaid_159 : decode b_MD_wellLaid 159 = .ok (.ireturn, 1) := by decide +kernel
theorem d_MD_wellLaid_160 : decode b_MD_wellLaid 160 = .ok (.iinc 5 1, 3) := by decide +kernel
theorem d_MD_wellLaid_163 : decode b_MD_wellLaid 163 = .ok (.goto (-27), 3) := by decide +kernel
theorem d_MD_wellLaid_166 : decode b_MD_wellLaid 166 = .ok (.iload_n 3, 1) := by decide +kernel
theorem d_MD_wellLaid_167 : decode b_MD_wellLaid 167 = .ok (.ifCond .gt 17, 3) := by decide +kernel
theorem d_MD_wellLaid_170 : decode b_MD_wellLaid 170 = .ok (.iload_n 2, 1) := by decide +kernel
theorem d_MD_wellLaid_171 : decode b_MD_wellLaid 171 = .ok (.bipush 13, 2) := by decide +kernel
theorem d_MD_wellLaid_173 : decode b_MD_wellLaid 173 = .ok (.if_icmp .ne 15, 3) := by decide +kernel
theorem d_MD_wellLaid_176 : decode b_MD_wellLaid 176 = .ok (.iload_n 1, 1) := by decide +kernel
theorem d_MD_wellLaid_177 : decode b_MD_wellLaid 177 = .ok (.aload_n 0, 1) := by decide +kernel
theorem d_MD_wellLaid_178 : decode b_MD_wellLaid 178 = .ok (.invokevirtual 145, 3) := by decide +kernel
theorem d_MD_wellLaid_181 : decode b_MD_wellLaid 181 = .ok (.if_icmp .ne 7, 3) := by decide +kernel
theorem d_MD_wellLaid_184 : decode b_MD_wellLaid 184 = .ok (.iconst 1, 1) := by decide +kernel
theorem d_MD_wellLaid_185 : decode b_MD_wellLaid 185 = .ok (.goto 4, 3) := by decide +kernel
theorem d_MD_wellLaid_188 : decode b_MD_wellLaid 188 = .ok (.iconst 0, 1) := by decide +kernel
theorem d_MD_wellLaid_189 : decode b_MD_wellLaid 189 = .ok (.ireturn, 1) := by decide +kernel
noncomputable def q_MD_wellLaid_166 (v_now : Nat → Int32) (x_1 : Int32) (x_2 : Int32) (x_3 : Int32) : Option (Int32) :=
  pu_br (0 < x_3) (some (1 : Int32)) (pu_br (x_2 = (13 : Int32)) (pu_b1 (f_MD_root v_now) (fun r3 => pu_br (x_1 = r3) (some (1 : Int32)) (some (0 : Int32)))) (some (0 : Int32)))
noncomputable def q_MD_wellLaid_136 (kx_166 : Option (Int32)) (v_now : Nat → Int32) (x_1 : Int32) (x_2 : Int32) (x_3 : Int32) (x_4 : Int32) : Nat → Int32 → Option (Int32)
  | 0, _ => none
  | n + 1, x_5 => pu_br (x_4 ≤ x_5) (kx_166) (pu_ck (vp_in (((64 : Int32) * x_1) + x_5) 1600) (pu_br ((v_now (((64 : Int32) * x_1) + x_5).toNatClampNeg) = 0) (pu_nm (x_5 + (1 : Int32)) (fun t4 => q_MD_wellLaid_136 kx_166 v_now x_1 x_2 x_3 x_4 n t4)) (some (0 : Int32))))
noncomputable def q_MD_wellLaid_131 (v_now : Nat → Int32) (x_1 : Int32) (x_2 : Int32) (x_3 : Int32) (x_4 : Int32) : Option (Int32) :=
  q_MD_wellLaid_136 (q_MD_wellLaid_166 v_now x_1 x_2 x_3) v_now x_1 x_2 x_3 x_4 pu_fu ((4 : Int32) + x_3)
noncomputable def q_MD_wellLaid_82 (kx_131 : Int32 → Option (Int32)) (v_now : Nat → Int32) (x_1 : Int32) (x_2 : Int32) (x_3 : Int32) : Nat → Int32 → Int32 → Option (Int32)
  | 0, _, _ => none
  | n + 1, x_4, x_5 => pu_br (x_3 ≤ x_5) (kx_131 x_4) (pu_ck (vp_in ((((64 : Int32) * x_1) + (4 : Int32)) + x_5) 1600) (pu_nm (v_now ((((64 : Int32) * x_1) + (4 : Int32)) + x_5).toNatClampNeg) (fun t5 => pu_br (x_4 ≤ t5) (some (0 : Int32)) (pu_br (((4 : Int32) + x_3) ≤ t5) (pu_nm (x_5 + (1 : Int32)) (fun t6 => q_MD_wellLaid_82 kx_131 v_now x_1 x_2 x_3 n t5 t6)) (some (0 : Int32))))))
noncomputable def q_MD_wellLaid_75 (v_now : Nat → Int32) (x_1 : Int32) (x_2 : Int32) (x_3 : Int32) : Option (Int32) :=
  q_MD_wellLaid_82 (fun x_4 => q_MD_wellLaid_131 v_now x_1 x_2 x_3 x_4) v_now x_1 x_2 x_3 pu_fu (64 : Int32) (0 : Int32)
noncomputable def q_MD_wellLaid_33 (v_now : Nat → Int32) (x_1 : Int32) (x_2 : Int32) (x_3 : Int32) : Option (Int32) :=
  pu_br ((30 : Int32) < x_3) (some (0 : Int32)) (pu_ck (vp_in (((64 : Int32) * x_1) + (3 : Int32)) 1600) (pu_br ((v_now (((64 : Int32) * x_1) + (3 : Int32)).toNatClampNeg) = 0) (pu_br (x_2 = (13 : Int32)) (pu_ck (vp_in (((64 : Int32) * x_1) + (2 : Int32)) 1600) (pu_br ((v_now (((64 : Int32) * x_1) + (2 : Int32)).toNatClampNeg) = 0) (q_MD_wellLaid_75 v_now x_1 x_2 x_3) (some (0 : Int32)))) (q_MD_wellLaid_75 v_now x_1 x_2 x_3)) (some (0 : Int32))))
noncomputable def f_MD_wellLaid (v_now : Nat → Int32) (x_1 : Int32) : Option (Int32) :=
  pu_ck (vp_in ((64 : Int32) * x_1) 1600) (pu_nm (v_now ((64 : Int32) * x_1).toNatClampNeg) (fun t1 => pu_ck (vp_in (((64 : Int32) * x_1) + (1 : Int32)) 1600) (pu_nm (v_now (((64 : Int32) * x_1) + (1 : Int32)).toNatClampNeg) (fun t2 => pu_br (t1 = (13 : Int32)) (q_MD_wellLaid_33 v_now x_1 t1 t2) (pu_br (t1 = (5 : Int32)) (q_MD_wellLaid_33 v_now x_1 t1 t2) (some (0 : Int32)))))))
abbrev rm_MD_wellLaid : Room := { frames := 1, cells := 0, slots := 0, locals := 20 }
set_option maxHeartbeats 8000000 in
set_option maxRecDepth 100000 in
theorem c_MD_wellLaid (l : Launch) (D : va_G) (cI cJ cB cZ : ClassId) (sz : Nat) (q_this : Nat) (q_now : Nat) (q_disk : Nat) (q_before : Nat) (q_recordPage : Nat) (q_recordBytes : Nat) (q_isBlob : Nat) (q_integer : Nat) (q_size : Nat) (q_blobs : Nat) (q_record : Nat) (q_cellLength : Nat) (q_row : Nat) (q_cell : Nat) (q_way : Nat) (q_turn : Nat) (q_used : Nat) (v_onDisk : Int32) (v_head : Int32) (v_headPages : Int32) (v_records : Int32) (v_up : Int32) (v_armed : Int32) (v_columns : Int32) (v_length : Int32) (v_kind : Int32) (v_cells : Int32) (v_last : Int32) (v_made : Int32) (v_deep : Int32) (v_at : Int32) (v_bad : Int32) (v_now : Nat → Int32) (x_1 : Int32) (o_r : Int32) (hf : f_MD_wellLaid v_now x_1 = some o_r) : Met l y_MD_wellLaid (.code y_MD_wellLaid b_MD_wellLaid 7 (some .boolean) :: pu_wA) rm_MD_wellLaid (pu_pc D pu_cl (pu_ty cI cJ cB cZ) [.ref q_this, .int x_1] [(q_this, .inr (8, [.ref q_now, .ref q_disk, .ref q_before, .int v_onDisk, .int v_head, .int v_headPages, .int v_records, .ref q_recordPage, .ref q_recordBytes, .int v_up, .int v_armed, .int v_columns, .ref q_isBlob, .ref q_integer, .ref q_size, .ref q_blobs, .int v_length, .ref q_record, .int v_kind, .int v_cells, .int v_last, .ref q_cellLength, .ref q_row, .int v_made, .ref q_cell, .int v_deep, .ref q_way, .ref q_turn, .int v_at, .int v_bad, .ref q_used])), (q_now, .inl (cI, 1600, .inl v_now))] sz) (pu_qi D pu_cl (pu_ty cI cJ cB cZ) [(q_this, .inr (8, [.ref q_now, .ref q_disk, .ref q_before, .int v_onDisk, .int v_head, .int v_headPages, .int v_records, .ref q_recordPage, .ref q_recordBytes, .int v_up, .int v_armed, .int v_columns, .ref q_isBlob, .ref q_integer, .ref q_size, .ref q_blobs, .int v_length, .ref q_record, .int v_kind, .int v_cells, .int v_last, .ref q_cellLength, .ref q_row, .int v_made, .ref q_cell, .int v_deep, .ref q_way, .ref q_turn, .int v_at, .int v_bad, .ref q_used])), (q_now, .inl (cI, 1600, .inl v_now))] [(q_this, .inr (8, [.ref q_now, .ref q_disk, .ref q_before, .int v_onDisk, .int v_head, .int v_headPages, .int v_records, .ref q_recordPage, .ref q_recordBytes, .int v_up, .int v_armed, .int v_columns, .ref q_isBlob, .ref q_integer, .ref q_size, .ref q_blobs, .int v_length, .ref q_record, .int v_kind, .int v_cells, .int v_last, .ref q_cellLength, .ref q_row, .int v_made, .ref q_cell, .int v_deep, .ref q_way, .ref q_turn, .int v_at, .int v_bad, .ref q_used])), (q_now, .inl (cI, 1600, .inl v_now))] sz o_r) 0 0 (va_A [(q_this, .inr (8, [.ref q_now, .ref q_disk, .ref q_before, .int v_onDisk, .int v_head, .int v_headPages, .int v_records, .ref q_recordPage, .ref q_recordBytes, .int v_up, .int v_armed, .int v_columns, .ref q_isBlob, .ref q_integer, .ref q_size, .ref q_blobs, .int v_length, .ref q_record, .int v_kind, .int v_cells, .int v_last, .ref q_cellLength, .ref q_row, .int v_made, .ref q_cell, .int v_deep, .ref q_way, .ref q_turn, .int v_at, .int v_bad, .ref q_used])), (q_now, .inl (cI, 1600, .inl v_now))] sz) := by
  refine pu_mtz [.ref q_this, .int x_1] [(q_this, .inr (8, [.ref q_now, .ref q_disk, .ref q_before, .int v_onDisk, .int v_head, .int v_headPages, .int v_records, .ref q_recordPage, .ref q_recordBytes, .int v_up, .int v_armed, .int v_columns, .ref q_isBlob, .ref q_integer, .ref q_size, .ref q_blobs, .int v_length, .ref q_record, .int v_kind, .int v_cells, .int v_last, .ref q_cellLength, .ref q_row, .int v_made, .ref q_cell, .int v_deep, .ref q_way, .ref q_turn, .int v_at, .int v_bad, .ref q_used])), (q_now, .inl (cI, 1600, .inl v_now))] [(q_this, .inr (8, [.ref q_now, .ref q_disk, .ref q_before, .int v_onDisk, .int v_head, .int v_headPages, .int v_records, .ref q_recordPage, .ref q_recordBytes, .int v_up, .int v_armed, .int v_columns, .ref q_isBlob, .ref q_integer, .ref q_size, .ref q_blobs, .int v_length, .ref q_record, .int v_kind, .int v_cells, .int v_last, .ref q_cellLength, .ref q_row, .int v_made, .ref q_cell, .int v_deep, .ref q_way, .ref q_turn, .int v_at, .int v_bad, .ref q_used])), (q_now, .inl (cI, 1600, .inl v_now))] o_r (by decide) (Nat.le_of_ble_eq_true rfl) ?_
  intro p e s m args below meth c A Q ls hx hb hml hts hN hown hK hA hP hD hl hret0
  have hS : va_S A s.heap s.heap [] := va_S.rf
  have hl : lv_has ls 7 [(0, .ref q_this), (1, .int x_1)] := hl
  have hret : ∀ (pc : Nat) (ls : Array Slot) (H : Heap) (locs : List Loc) (y_0 : Int32), decode b_MD_wellLaid pc = .ok (.ireturn, 1) → narrow .boolean (.int y_0) = .int y_0 → va_P D pu_cl [(q_this, .inr (8, [.ref q_now, .ref q_disk, .ref q_before, .int v_onDisk, .int v_head, .int v_headPages, .int v_records, .ref q_recordPage, .ref q_recordBytes, .int v_up, .int v_armed, .int v_columns, .ref q_isBlob, .ref q_integer, .ref q_size, .ref q_blobs, .int v_length, .ref q_record, .int v_kind, .int v_cells, .int v_last, .ref q_cellLength, .ref q_row, .int v_made, .ref q_cell, .int v_deep, .ref q_way, .ref q_turn, .int v_at, .int v_bad, .ref q_used])), (q_now, .inl (cI, 1600, .inl v_now))] H → va_D A [(q_this, .inr (8, [.ref q_now, .ref q_disk, .ref q_before, .int v_onDisk, .int v_head, .int v_headPages, .int v_records, .ref q_recordPage, .ref q_recordBytes, .int v_up, .int v_armed, .int v_columns, .ref q_isBlob, .ref q_integer, .ref q_size, .ref q_blobs, .int v_length, .ref q_record, .int v_kind, .int v_cells, .int v_last, .ref q_cellLength, .ref q_row, .int v_made, .ref q_cell, .int v_deep, .ref q_way, .ref q_turn, .int v_at, .int v_bad, .ref q_used])), (q_now, .inl (cI, 1600, .inl v_now))] → va_S A s.heap H locs → some y_0 = some o_r → W p l e rm_MD_wellLaid s m args below meth c H locs 0 0 Q (F0 m pc ls [.int y_0]) := by
    intro pc ls H locs y_0 hd hz hP hD hS hf
    cases hf
    exact hret0 pc ls H locs hd hz hP hD hS
  clear hret0
  unfold f_MD_wellLaid at hf
  skip
  have lb_166 : ∀ (x_1 : Int32) (x_2 : Int32) (x_3 : Int32) (H : Heap) (locs : List Loc) (ls : Array Slot), va_P D pu_cl [(q_this, .inr (8, [.ref q_now, .ref q_disk, .ref q_before, .int v_onDisk, .int v_head, .int v_headPages, .int v_records, .ref q_recordPage, .ref q_recordBytes, .int v_up, .int v_armed, .int v_columns, .ref q_isBlob, .ref q_integer, .ref q_size, .ref q_blobs, .int v_length, .ref q_record, .int v_kind, .int v_cells, .int v_last, .ref q_cellLength, .ref q_row, .int v_made, .ref q_cell, .int v_deep, .ref q_way, .ref q_turn, .int v_at, .int v_bad, .ref q_used])), (q_now, .inl (cI, 1600, .inl v_now))] H → va_D A [(q_this, .inr (8, [.ref q_now, .ref q_disk, .ref q_before, .int v_onDisk, .int v_head, .int v_headPages, .int v_records, .ref q_recordPage, .ref q_recordBytes, .int v_up, .int v_armed, .int v_columns, .ref q_isBlob, .ref q_integer, .ref q_size, .ref q_blobs, .int v_length, .ref q_record, .int v_kind, .int v_cells, .int v_last, .ref q_cellLength, .ref q_row, .int v_made, .ref q_cell, .int v_deep, .ref q_way, .ref q_turn, .int v_at, .int v_bad, .ref q_used])), (q_now, .inl (cI, 1600, .inl v_now))] → va_S A s.heap H locs → lv_has ls 7 [(0, .ref q_this), (1, .int x_1), (2, .int x_2), (3, .int x_3)] → q_MD_wellLaid_166 v_now x_1 x_2 x_3 = some o_r → W p l e rm_MD_wellLaid s m args below meth c H locs 0 0 Q (F0 m 166 ls []) := by
    intro x_1 x_2 x_3 H locs ls hP hD hS hl hf
    rw [q_MD_wellLaid_166] at hf
    refine lv_iload_n hx hb d_MD_wellLaid_166 rfl (lv_at hl 3 rfl) ?_
    refine lv_if_gt (tgt := 184) hx hb d_MD_wellLaid_167 rfl (fun hc => ?_) (fun hc => ?_)
    · have hf := pu_br_pos hf hc
      refine lv_iconst (v := 1) hx hb d_MD_wellLaid_184 rfl ?_
      refine lv_goto (tgt := 189) hx hb d_MD_wellLaid_185 rfl ?_
      exact hret _ _ _ _ (1 : Int32)  d_MD_wellLaid_189 (by decide) hP hD hS hf
    have hf := pu_br_neg hf hc
    refine lv_iload_n hx hb d_MD_wellLaid_170 rfl (lv_at hl 2 rfl) ?_
    refine lv_bipush (v := 13) hx hb d_MD_wellLaid_171 rfl ?_
    refine lv_icmp_ne (tgt := 188) hx hb d_MD_wellLaid_173 rfl (fun hc => ?_) (fun hc => ?_)
    · have hf := pu_br_neg hf hc
      refine lv_iconst (v := 0) hx hb d_MD_wellLaid_188 rfl ?_
      exact hret _ _ _ _ (0 : Int32)  d_MD_wellLaid_189 (by decide) hP hD hS hf
    have hf := pu_br_pos hf hc
    refine lv_iload_n hx hb d_MD_wellLaid_176 rfl (lv_at hl 1 rfl) ?_
    refine lv_aload_n hx hb d_MD_wellLaid_177 rfl (lv_at hl 0 rfl) ?_
    obtain ⟨r3, hc, hf⟩ := pu_b1_some hf
    refine cl_i (WC := [(q_this, .inr (8, [.ref q_now, .ref q_disk, .ref q_before, .int v_onDisk, .int v_head, .int v_headPages, .int v_records, .ref q_recordPage, .ref q_recordBytes, .int v_up, .int v_armed, .int v_columns, .ref q_isBlob, .ref q_integer, .ref q_size, .ref q_blobs, .int v_length, .ref q_record, .int v_kind, .int v_cells, .int v_last, .ref q_cellLength, .ref q_row, .int v_made, .ref q_cell, .int v_deep, .ref q_way, .ref q_turn, .int v_at, .int v_bad, .ref q_used])), (q_now, .inl (cI, 1600, .inl v_now))]) (WC2 := [(q_this, .inr (8, [.ref q_now, .ref q_disk, .ref q_before, .int v_onDisk, .int v_head, .int v_headPages, .int v_records, .ref q_recordPage, .ref q_recordBytes, .int v_up, .int v_armed, .int v_columns, .ref q_isBlob, .ref q_integer, .ref q_size, .ref q_blobs, .int v_length, .ref q_record, .int v_kind, .int v_cells, .int v_last, .ref q_cellLength, .ref q_row, .int v_made, .ref q_cell, .int v_deep, .ref q_way, .ref q_turn, .int v_at, .int v_bad, .ref q_used])), (q_now, .inl (cI, 1600, .inl v_now))]) (WR := []) (WS2 := [(q_this, .inr (8, [.ref q_now, .ref q_disk, .ref q_before, .int v_onDisk, .int v_head, .int v_headPages, .int v_records, .ref q_recordPage, .ref q_recordBytes, .int v_up, .int v_armed, .int v_columns, .ref q_isBlob, .ref q_integer, .ref q_size, .ref q_blobs, .int v_length, .ref q_record, .int v_kind, .int v_cells, .int v_last, .ref q_cellLength, .ref q_row, .int v_made, .ref q_cell, .int v_deep, .ref q_way, .ref q_turn, .int v_at, .int v_bad, .ref q_used])), (q_now, .inl (cI, 1600, .inl v_now))]) (pu_rv (cl := pu_cl) (pu_in10 _ (List.mem_of_getElem? (i := 45) rfl)) (pu_in10 _ (List.mem_of_getElem? (i := 46) rfl)) (pu_in14 _ (List.mem_of_getElem? (i := 12) rfl)) (pu_in0 _ (List.mem_of_getElem? (i := 10) rfl)) (pu_in10 _ (List.mem_of_getElem? (i := 47) rfl)) (ci := 8) rfl hd_MD_root (by decide) ⟨rfl, rfl⟩ rfl rfl (Nat.le_of_ble_eq_true rfl) rfl (As := []) (rest := [.int x_1]) (WC := [(q_this, .inr (8, [.ref q_now, .ref q_disk, .ref q_before, .int v_onDisk, .int v_head, .int v_headPages, .int v_records, .ref q_recordPage, .ref q_recordBytes, .int v_up, .int v_armed, .int v_columns, .ref q_isBlob, .ref q_integer, .ref q_size, .ref q_blobs, .int v_length, .ref q_record, .int v_kind, .int v_cells, .int v_last, .ref q_cellLength, .ref q_row, .int v_made, .ref q_cell, .int v_deep, .ref q_way, .ref q_turn, .int v_at, .int v_bad, .ref q_used])), (q_now, .inl (cI, 1600, .inl v_now))]) hx hb hml hown hts hN hK hP hD (c_MD_root l D cI cJ cB cZ H.size q_this q_now q_disk q_before q_recordPage q_recordBytes q_isBlob q_integer q_size q_blobs q_record q_cellLength q_row q_cell q_way q_turn q_used v_onDisk v_head v_headPages v_records v_up v_armed v_columns v_length v_kind v_cells v_last v_made v_deep v_at v_bad v_now r3 hc) [0, 1] rfl rfl hl.1 d_MD_wellLaid_178) hP hD hS hA [0, 1] [] [0, 1] rfl rfl rfl (by decide) rfl rfl (fun H locs hP hD hS => ?_)
    refine lv_icmp_ne (tgt := 188) hx hb d_MD_wellLaid_181 rfl (fun hc => ?_) (fun hc => ?_)
    · have hf := pu_br_neg hf hc
      refine lv_iconst (v := 0) hx hb d_MD_wellLaid_188 rfl ?_
      exact hret _ _ _ _ (0 : Int32)  d_MD_wellLaid_189 (by decide) hP hD hS hf
    have hf := pu_br_pos hf hc
    refine lv_iconst (v := 1) hx hb d_MD_wellLaid_184 rfl ?_
    refine lv_goto (tgt := 189) hx hb d_MD_wellLaid_185 rfl ?_
    exact hret _ _ _ _ (1 : Int32)  d_MD_wellLaid_189 (by decide) hP hD hS hf
  have lp_136 : ∀ (x_1 : Int32) (x_2 : Int32) (x_3 : Int32) (x_4 : Int32) (n136 : Nat) (x_5 : Int32) (H : Heap) (locs : List Loc) (ls : Array Slot), va_P D pu_cl [(q_this, .inr (8, [.ref q_now, .ref q_disk, .ref q_before, .int v_onDisk, .int v_head, .int v_headPages, .int v_records, .ref q_recordPage, .ref q_recordBytes, .int v_up, .int v_armed, .int v_columns, .ref q_isBlob, .ref q_integer, .ref q_size, .ref q_blobs, .int v_length, .ref q_record, .int v_kind, .int v_cells, .int v_last, .ref q_cellLength, .ref q_row, .int v_made, .ref q_cell, .int v_deep, .ref q_way, .ref q_turn, .int v_at, .int v_bad, .ref q_used])), (q_now, .inl (cI, 1600, .inl v_now))] H → va_D A [(q_this, .inr (8, [.ref q_now, .ref q_disk, .ref q_before, .int v_onDisk, .int v_head, .int v_headPages, .int v_records, .ref q_recordPage, .ref q_recordBytes, .int v_up, .int v_armed, .int v_columns, .ref q_isBlob, .ref q_integer, .ref q_size, .ref q_blobs, .int v_length, .ref q_record, .int v_kind, .int v_cells, .int v_last, .ref q_cellLength, .ref q_row, .int v_made, .ref q_cell, .int v_deep, .ref q_way, .ref q_turn, .int v_at, .int v_bad, .ref q_used])), (q_now, .inl (cI, 1600, .inl v_now))] → va_S A s.heap H locs → lv_has ls 7 [(0, .ref q_this), (1, .int x_1), (2, .int x_2), (3, .int x_3), (4, .int x_4), (5, .int x_5)] → q_MD_wellLaid_136 (q_MD_wellLaid_166 v_now x_1 x_2 x_3) v_now x_1 x_2 x_3 x_4 n136 x_5 = some o_r → W p l e rm_MD_wellLaid s m args below meth c H locs 0 0 Q (F0 m 136 ls []) := by
    intro x_1 x_2 x_3 x_4 n136
    induction n136 with
    | zero =>
      intro x_5 H locs ls hP hD hS hl hf
      rw [q_MD_wellLaid_136] at hf
      cases hf
    | succ n136 ih_136 =>
      intro x_5 H locs ls hP hD hS hl hf
      rw [q_MD_wellLaid_136] at hf
      refine lv_iload hx hb d_MD_wellLaid_136 (lv_at hl 5 rfl) ?_
      refine lv_iload hx hb d_MD_wellLaid_138 (lv_at hl 4 rfl) ?_
      refine lv_icmp_ge (tgt := 166) hx hb d_MD_wellLaid_140 rfl (fun hc => ?_) (fun hc => ?_)
      · have hf := pu_br_pos hf hc
        exact lb_166 x_1 x_2 x_3 H locs ls hP hD hS (lv_sub hl [0, 1, 2, 3] rfl) hf
      have hf := pu_br_neg hf hc
      refine lv_aload_n hx hb d_MD_wellLaid_143 rfl (lv_at hl 0 rfl) ?_
      refine gf_MD_7 (v := .ref q_now) hx hb hts hN hown hK hP 0 rfl rfl d_MD_wellLaid_144 ?_
      refine lv_bipush (v := 64) hx hb d_MD_wellLaid_147 rfl ?_
      refine lv_iload_n hx hb d_MD_wellLaid_149 rfl (lv_at hl 1 rfl) ?_
      refine lv_imul hx hb d_MD_wellLaid_150 ?_
      refine lv_iload hx hb d_MD_wellLaid_151 (lv_at hl 5 rfl) ?_
      refine lv_iadd hx hb d_MD_wellLaid_153 ?_
      obtain ⟨hin, hf⟩ := pu_ck_some hf
      refine va_iald hx hb hK hP 1 0 rfl rfl hin d_MD_wellLaid_154 ?_
      refine lv_if_eq (tgt := 160) hx hb d_MD_wellLaid_155 rfl (fun hc => ?_) (fun hc => ?_)
      · have hf := pu_br_pos hf hc
        obtain ⟨t4, e_t4, hf⟩ := pu_nm_some hf
        refine lv_iinc (k := 5) (v := t4) hx hb d_MD_wellLaid_160 hl rfl e_t4.symm (by decide) rfl (fun ls hl => ?_)
        have hl : lv_has ls 7 [(5, .int t4), (0, .ref q_this), (1, .int x_1), (2, .int x_2), (3, .int x_3), (4, .int x_4)] := hl
        refine lv_goto (tgt := 136) hx hb d_MD_wellLaid_163 rfl ?_
        exact ih_136 t4 H locs ls hP hD hS (lv_sub hl [1, 2, 3, 4, 5, 0] rfl) hf
      have hf := pu_br_neg hf hc
      refine lv_iconst (v := 0) hx hb d_MD_wellLaid_158 rfl ?_
      exact hret _ _ _ _ (0 : Int32)  d_MD_wellLaid_159 (by decide) hP hD hS hf
  have lb_131 : ∀ (x_1 : Int32) (x_2 : Int32) (x_3 : Int32) (x_4 : Int32) (H : Heap) (locs : List Loc) (ls : Array Slot), va_P D pu_cl [(q_this, .inr (8, [.ref q_now, .ref q_disk, .ref q_before, .int v_onDisk, .int v_head, .int v_headPages, .int v_records, .ref q_recordPage, .ref q_recordBytes, .int v_up, .int v_armed, .int v_columns, .ref q_isBlob, .ref q_integer, .ref q_size, .ref q_blobs, .int v_length, .ref q_record, .int v_kind, .int v_cells, .int v_last, .ref q_cellLength, .ref q_row, .int v_made, .ref q_cell, .int v_deep, .ref q_way, .ref q_turn, .int v_at, .int v_bad, .ref q_used])), (q_now, .inl (cI, 1600, .inl v_now))] H → va_D A [(q_this, .inr (8, [.ref q_now, .ref q_disk, .ref q_before, .int v_onDisk, .int v_head, .int v_headPages, .int v_records, .ref q_recordPage, .ref q_recordBytes, .int v_up, .int v_armed, .int v_columns, .ref q_isBlob, .ref q_integer, .ref q_size, .ref q_blobs, .int v_length, .ref q_record, .int v_kind, .int v_cells, .int v_last, .ref q_cellLength, .ref q_row, .int v_made, .ref q_cell, .int v_deep, .ref q_way, .ref q_turn, .int v_at, .int v_bad, .ref q_used])), (q_now, .inl (cI, 1600, .inl v_now))] → va_S A s.heap H locs → lv_has ls 7 [(0, .ref q_this), (1, .int x_1), (2, .int x_2), (3, .int x_3), (4, .int x_4)] → q_MD_wellLaid_131 v_now x_1 x_2 x_3 x_4 = some o_r → W p l e rm_MD_wellLaid s m args below meth c H locs 0 0 Q (F0 m 131 ls []) := by
    intro x_1 x_2 x_3 x_4 H locs ls hP hD hS hl hf
    rw [q_MD_wellLaid_131] at hf
    refine lv_iconst (v := 4) hx hb d_MD_wellLaid_131 rfl ?_
    refine lv_iload_n hx hb d_MD_wellLaid_132 rfl (lv_at hl 3 rfl) ?_
    refine lv_iadd hx hb d_MD_wellLaid_133 ?_
    refine lv_istore hx hb d_MD_wellLaid_134 hl (by decide) rfl (fun ls hl => ?_)
    have hl : lv_has ls 7 [(5, .int ((4 : Int32) + x_3)), (0, .ref q_this), (1, .int x_1), (2, .int x_2), (3, .int x_3), (4, .int x_4)] := hl
    exact lp_136 x_1 x_2 x_3 x_4 _ ((4 : Int32) + x_3) H locs ls hP hD hS (lv_sub hl [1, 2, 3, 4, 5, 0] rfl) hf
  have lp_82 : ∀ (x_1 : Int32) (x_2 : Int32) (x_3 : Int32) (n82 : Nat) (x_4 : Int32) (x_5 : Int32) (H : Heap) (locs : List Loc) (ls : Array Slot), va_P D pu_cl [(q_this, .inr (8, [.ref q_now, .ref q_disk, .ref q_before, .int v_onDisk, .int v_head, .int v_headPages, .int v_records, .ref q_recordPage, .ref q_recordBytes, .int v_up, .int v_armed, .int v_columns, .ref q_isBlob, .ref q_integer, .ref q_size, .ref q_blobs, .int v_length, .ref q_record, .int v_kind, .int v_cells, .int v_last, .ref q_cellLength, .ref q_row, .int v_made, .ref q_cell, .int v_deep, .ref q_way, .ref q_turn, .int v_at, .int v_bad, .ref q_used])), (q_now, .inl (cI, 1600, .inl v_now))] H → va_D A [(q_this, .inr (8, [.ref q_now, .ref q_disk, .ref q_before, .int v_onDisk, .int v_head, .int v_headPages, .int v_records, .ref q_recordPage, .ref q_recordBytes, .int v_up, .int v_armed, .int v_columns, .ref q_isBlob, .ref q_integer, .ref q_size, .ref q_blobs, .int v_length, .ref q_record, .int v_kind, .int v_cells, .int v_last, .ref q_cellLength, .ref q_row, .int v_made, .ref q_cell, .int v_deep, .ref q_way, .ref q_turn, .int v_at, .int v_bad, .ref q_used])), (q_now, .inl (cI, 1600, .inl v_now))] → va_S A s.heap H locs → lv_has ls 7 [(0, .ref q_this), (1, .int x_1), (2, .int x_2), (3, .int x_3), (4, .int x_4), (5, .int x_5)] → q_MD_wellLaid_82 (fun x_4 => q_MD_wellLaid_131 v_now x_1 x_2 x_3 x_4) v_now x_1 x_2 x_3 n82 x_4 x_5 = some o_r → W p l e rm_MD_wellLaid s m args below meth c H locs 0 0 Q (F0 m 82 ls []) := by
    intro x_1 x_2 x_3 n82
    induction n82 with
    | zero =>
      intro x_4 x_5 H locs ls hP hD hS hl hf
      rw [q_MD_wellLaid_82] at hf
      cases hf
    | succ n82 ih_82 =>
      intro x_4 x_5 H locs ls hP hD hS hl hf
      rw [q_MD_wellLaid_82] at hf
      refine lv_iload hx hb d_MD_wellLaid_82 (lv_at hl 5 rfl) ?_
      refine lv_iload_n hx hb d_MD_wellLaid_84 rfl (lv_at hl 3 rfl) ?_
      refine lv_icmp_ge (tgt := 131) hx hb d_MD_wellLaid_85 rfl (fun hc => ?_) (fun hc => ?_)
      · have hf := pu_br_pos hf hc
        exact lb_131 x_1 x_2 x_3 x_4 H locs ls hP hD hS (lv_sub hl [0, 1, 2, 3, 4] rfl) hf
      have hf := pu_br_neg hf hc
      refine lv_aload_n hx hb d_MD_wellLaid_88 rfl (lv_at hl 0 rfl) ?_
      refine gf_MD_7 (v := .ref q_now) hx hb hts hN hown hK hP 0 rfl rfl d_MD_wellLaid_89 ?_
      refine lv_bipush (v := 64) hx hb d_MD_wellLaid_92 rfl ?_
      refine lv_iload_n hx hb d_MD_wellLaid_94 rfl (lv_at hl 1 rfl) ?_
      refine lv_imul hx hb d_MD_wellLaid_95 ?_
      refine lv_iconst (v := 4) hx hb d_MD_wellLaid_96 rfl ?_
      refine lv_iadd hx hb d_MD_wellLaid_97 ?_
      refine lv_iload hx hb d_MD_wellLaid_98 (lv_at hl 5 rfl) ?_
      refine lv_iadd hx hb d_MD_wellLaid_100 ?_
      obtain ⟨hin, hf⟩ := pu_ck_some hf
      refine va_iald hx hb hK hP 1 0 rfl rfl hin d_MD_wellLaid_101 ?_
      obtain ⟨t5, e_t5, hf⟩ := pu_nm_some hf
      refine pu_ti e_t5 ?_
      refine lv_istore hx hb d_MD_wellLaid_102 hl (by decide) rfl (fun ls hl => ?_)
      have hl : lv_has ls 7 [(6, .int t5), (0, .ref q_this), (1, .int x_1), (2, .int x_2), (3, .int x_3), (4, .int x_4), (5, .int x_5)] := hl
      refine lv_iload hx hb d_MD_wellLaid_104 (lv_at hl 0 rfl) ?_
      refine lv_iload hx hb d_MD_wellLaid_106 (lv_at hl 5 rfl) ?_
      refine lv_icmp_ge (tgt := 119) hx hb d_MD_wellLaid_108 rfl (fun hc => ?_) (fun hc => ?_)
      · have hf := pu_br_pos hf hc
        refine lv_iconst (v := 0) hx hb d_MD_wellLaid_119 rfl ?_
        exact hret _ _ _ _ (0 : Int32)  d_MD_wellLaid_120 (by decide) hP hD hS hf
      have hf := pu_br_neg hf hc
      refine lv_iload hx hb d_MD_wellLaid_111 (lv_at hl 0 rfl) ?_
      refine lv_iconst (v := 4) hx hb d_MD_wellLaid_113 rfl ?_
      refine lv_iload_n hx hb d_MD_wellLaid_114 rfl (lv_at hl 4 rfl) ?_
      refine lv_iadd hx hb d_MD_wellLaid_115 ?_
      refine lv_icmp_ge (tgt := 121) hx hb d_MD_wellLaid_116 rfl (fun hc => ?_) (fun hc => ?_)
      · have hf := pu_br_pos hf hc
        refine lv_iload hx hb d_MD_wellLaid_121 (lv_at hl 0 rfl) ?_
        refine lv_istore hx hb d_MD_wellLaid_123 hl (by decide) rfl (fun ls hl => ?_)
        have hl : lv_has ls 7 [(4, .int t5), (6, .int t5), (0, .ref q_this), (1, .int x_1), (2, .int x_2), (3, .int x_3), (5, .int x_5)] := hl
        obtain ⟨t6, e_t6, hf⟩ := pu_nm_some hf
        refine lv_iinc (k := 6) (v := t6) hx hb d_MD_wellLaid_125 hl rfl e_t6.symm (by decide) rfl (fun ls hl => ?_)
        have hl : lv_has ls 7 [(5, .int t6), (4, .int t5), (6, .int t5), (0, .ref q_this), (1, .int x_1), (2, .int x_2), (3, .int x_3)] := hl
        refine lv_goto (tgt := 82) hx hb d_MD_wellLaid_128 rfl ?_
        exact ih_82 t5 t6 H locs ls hP hD hS (lv_sub hl [3, 4, 5, 6, 1, 0] rfl) hf
      have hf := pu_br_neg hf hc
      refine lv_iconst (v := 0) hx hb d_MD_wellLaid_119 rfl ?_
      exact hret _ _ _ _ (0 : Int32)  d_MD_wellLaid_120 (by decide) hP hD hS hf
  have lb_75 : ∀ (x_1 : Int32) (x_2 : Int32) (x_3 : Int32) (H : Heap) (locs : List Loc) (ls : Array Slot), va_P D pu_cl [(q_this, .inr (8, [.ref q_now, .ref q_disk, .ref q_before, .int v_onDisk, .int v_head, .int v_headPages, .int v_records, .ref q_recordPage, .ref q_recordBytes, .int v_up, .int v_armed, .int v_columns, .ref q_isBlob, .ref q_integer, .ref q_size, .ref q_blobs, .int v_length, .ref q_record, .int v_kind, .int v_cells, .int v_last, .ref q_cellLength, .ref q_row, .int v_made, .ref q_cell, .int v_deep, .ref q_way, .ref q_turn, .int v_at, .int v_bad, .ref q_used])), (q_now, .inl (cI, 1600, .inl v_now))] H → va_D A [(q_this, .inr (8, [.ref q_now, .ref q_disk, .ref q_before, .int v_onDisk, .int v_head, .int v_headPages, .int v_records, .ref q_recordPage, .ref q_recordBytes, .int v_up, .int v_armed, .int v_columns, .ref q_isBlob, .ref q_integer, .ref q_size, .ref q_blobs, .int v_length, .ref q_record, .int v_kind, .int v_cells, .int v_last, .ref q_cellLength, .ref q_row, .int v_made, .ref q_cell, .int v_deep, .ref q_way, .ref q_turn, .int v_at, .int v_bad, .ref q_used])), (q_now, .inl (cI, 1600, .inl v_now))] → va_S A s.heap H locs → lv_has ls 7 [(0, .ref q_this), (1, .int x_1), (2, .int x_2), (3, .int x_3)] → q_MD_wellLaid_75 v_now x_1 x_2 x_3 = some o_r → W p l e rm_MD_wellLaid s m args below meth c H locs 0 0 Q (F0 m 75 ls []) := by
    intro x_1 x_2 x_3 H locs ls hP hD hS hl hf
    rw [q_MD_wellLaid_75] at hf
    refine lv_bipush (v := 64) hx hb d_MD_wellLaid_75 rfl ?_
    refine lv_istore hx hb d_MD_wellLaid_77 hl (by decide) rfl (fun ls hl => ?_)
    have hl : lv_has ls 7 [(4, .int (64 : Int32)), (0, .ref q_this), (1, .int x_1), (2, .int x_2), (3, .int x_3)] := hl
    refine lv_iconst (v := 0) hx hb d_MD_wellLaid_79 rfl ?_
    refine lv_istore hx hb d_MD_wellLaid_80 hl (by decide) rfl (fun ls hl => ?_)
    have hl : lv_has ls 7 [(5, .int (0 : Int32)), (4, .int (64 : Int32)), (0, .ref q_this), (1, .int x_1), (2, .int x_2), (3, .int x_3)] := hl
    exact lp_82 x_1 x_2 x_3 _ (64 : Int32) (0 : Int32) H locs ls hP hD hS (lv_sub hl [2, 3, 4, 5, 1, 0] rfl) hf
  have lb_33 : ∀ (x_1 : Int32) (x_2 : Int32) (x_3 : Int32) (H : Heap) (locs : List Loc) (ls : Array Slot), va_P D pu_cl [(q_this, .inr (8, [.ref q_now, .ref q_disk, .ref q_before, .int v_onDisk, .int v_head, .int v_headPages, .int v_records, .ref q_recordPage, .ref q_recordBytes, .int v_up, .int v_armed, .int v_columns, .ref q_isBlob, .ref q_integer, .ref q_size, .ref q_blobs, .int v_length, .ref q_record, .int v_kind, .int v_cells, .int v_last, .ref q_cellLength, .ref q_row, .int v_made, .ref q_cell, .int v_deep, .ref q_way, .ref q_turn, .int v_at, .int v_bad, .ref q_used])), (q_now, .inl (cI, 1600, .inl v_now))] H → va_D A [(q_this, .inr (8, [.ref q_now, .ref q_disk, .ref q_before, .int v_onDisk, .int v_head, .int v_headPages, .int v_records, .ref q_recordPage, .ref q_recordBytes, .int v_up, .int v_armed, .int v_columns, .ref q_isBlob, .ref q_integer, .ref q_size, .ref q_blobs, .int v_length, .ref q_record, .int v_kind, .int v_cells, .int v_last, .ref q_cellLength, .ref q_row, .int v_made, .ref q_cell, .int v_deep, .ref q_way, .ref q_turn, .int v_at, .int v_bad, .ref q_used])), (q_now, .inl (cI, 1600, .inl v_now))] → va_S A s.heap H locs → lv_has ls 7 [(0, .ref q_this), (1, .int x_1), (2, .int x_2), (3, .int x_3)] → q_MD_wellLaid_33 v_now x_1 x_2 x_3 = some o_r → W p l e rm_MD_wellLaid s m args below meth c H locs 0 0 Q (F0 m 33 ls []) := by
    intro x_1 x_2 x_3 H locs ls hP hD hS hl hf
    rw [q_MD_wellLaid_33] at hf
    refine lv_iload_n hx hb d_MD_wellLaid_33 rfl (lv_at hl 3 rfl) ?_
    refine lv_bipush (v := 30) hx hb d_MD_wellLaid_34 rfl ?_
    refine lv_icmp_gt (tgt := 73) hx hb d_MD_wellLaid_36 rfl (fun hc => ?_) (fun hc => ?_)
    · have hf := pu_br_pos hf hc
      refine lv_iconst (v := 0) hx hb d_MD_wellLaid_73 rfl ?_
      exact hret _ _ _ _ (0 : Int32)  d_MD_wellLaid_74 (by decide) hP hD hS hf
    have hf := pu_br_neg hf hc
    refine lv_aload_n hx hb d_MD_wellLaid_39 rfl (lv_at hl 0 rfl) ?_
    refine gf_MD_7 (v := .ref q_now) hx hb hts hN hown hK hP 0 rfl rfl d_MD_wellLaid_40 ?_
    refine lv_bipush (v := 64) hx hb d_MD_wellLaid_43 rfl ?_
    refine lv_iload_n hx hb d_MD_wellLaid_45 rfl (lv_at hl 1 rfl) ?_
    refine lv_imul hx hb d_MD_wellLaid_46 ?_
    refine lv_iconst (v := 3) hx hb d_MD_wellLaid_47 rfl ?_
    refine lv_iadd hx hb d_MD_wellLaid_48 ?_
    obtain ⟨hin, hf⟩ := pu_ck_some hf
    refine va_iald hx hb hK hP 1 0 rfl rfl hin d_MD_wellLaid_49 ?_
    refine lv_if_ne (tgt := 73) hx hb d_MD_wellLaid_50 rfl (fun hc => ?_) (fun hc => ?_)
    · have hf := pu_br_neg hf hc
      refine lv_iconst (v := 0) hx hb d_MD_wellLaid_73 rfl ?_
      exact hret _ _ _ _ (0 : Int32)  d_MD_wellLaid_74 (by decide) hP hD hS hf
    have hf := pu_br_pos hf hc
    refine lv_iload_n hx hb d_MD_wellLaid_53 rfl (lv_at hl 2 rfl) ?_
    refine lv_bipush (v := 13) hx hb d_MD_wellLaid_54 rfl ?_
    refine lv_icmp_ne (tgt := 75) hx hb d_MD_wellLaid_56 rfl (fun hc => ?_) (fun hc => ?_)
    · have hf := pu_br_neg hf hc
      exact lb_75 x_1 x_2 x_3 H locs ls hP hD hS (lv_sub hl [0, 1, 2, 3] rfl) hf
    have hf := pu_br_pos hf hc
    refine lv_aload_n hx hb d_MD_wellLaid_59 rfl (lv_at hl 0 rfl) ?_
    refine gf_MD_7 (v := .ref q_now) hx hb hts hN hown hK hP 0 rfl rfl d_MD_wellLaid_60 ?_
    refine lv_bipush (v := 64) hx hb d_MD_wellLaid_63 rfl ?_
    refine lv_iload_n hx hb d_MD_wellLaid_65 rfl (lv_at hl 1 rfl) ?_
    refine lv_imul hx hb d_MD_wellLaid_66 ?_
    refine lv_iconst (v := 2) hx hb d_MD_wellLaid_67 rfl ?_
    refine lv_iadd hx hb d_MD_wellLaid_68 ?_
    obtain ⟨hin, hf⟩ := pu_ck_some hf
    refine va_iald hx hb hK hP 1 0 rfl rfl hin d_MD_wellLaid_69 ?_
    refine lv_if_eq (tgt := 75) hx hb d_MD_wellLaid_70 rfl (fun hc => ?_) (fun hc => ?_)
    · have hf := pu_br_pos hf hc
      exact lb_75 x_1 x_2 x_3 H locs ls hP hD hS (lv_sub hl [0, 1, 2, 3] rfl) hf
    have hf := pu_br_neg hf hc
    refine lv_iconst (v := 0) hx hb d_MD_wellLaid_73 rfl ?_
    exact hret _ _ _ _ (0 : Int32)  d_MD_wellLaid_74 (by decide) hP hD hS hf
  obtain ⟨H, hH⟩ : ∃ H, H = s.heap := ⟨_, rfl⟩
  obtain ⟨locs, hlocs⟩ : ∃ locs : List Loc, locs = [] := ⟨_, rfl⟩
  have hP : va_P D pu_cl [(q_this, .inr (8, [.ref q_now, .ref q_disk, .ref q_before, .int v_onDisk, .int v_head, .int v_headPages, .int v_records, .ref q_recordPage, .ref q_recordBytes, .int v_up, .int v_armed, .int v_columns, .ref q_isBlob, .ref q_integer, .ref q_size, .ref q_blobs, .int v_length, .ref q_record, .int v_kind, .int v_cells, .int v_last, .ref q_cellLength, .ref q_row, .int v_made, .ref q_cell, .int v_deep, .ref q_way, .ref q_turn, .int v_at, .int v_bad, .ref q_used])), (q_now, .inl (cI, 1600, .inl v_now))] H := by rw [hH]; exact hP
  have hS : va_S A s.heap H locs := by rw [hH, hlocs]; exact hS
  have goal : W p l e rm_MD_wellLaid s m args below meth c H locs 0 0 Q (F0 m 0 ls []) := by
    clear hH hlocs
    refine lv_aload_n hx hb d_MD_wellLaid_0 rfl (lv_at hl 0 rfl) ?_
    refine gf_MD_7 (v := .ref q_now) hx hb hts hN hown hK hP 0 rfl rfl d_MD_wellLaid_1 ?_
    refine lv_bipush (v := 64) hx hb d_MD_wellLaid_4 rfl ?_
    refine lv_iload_n hx hb d_MD_wellLaid_6 rfl (lv_at hl 1 rfl) ?_
    refine lv_imul hx hb d_MD_wellLaid_7 ?_
    obtain ⟨hin, hf⟩ := pu_ck_some hf
    refine va_iald hx hb hK hP 1 0 rfl rfl hin d_MD_wellLaid_8 ?_
    obtain ⟨t1, e_t1, hf⟩ := pu_nm_some hf
    refine pu_ti e_t1 ?_
    refine lv_istore_n hx hb d_MD_wellLaid_9 rfl hl (by decide) rfl (fun ls hl => ?_)
    have hl : lv_has ls 7 [(2, .int t1), (0, .ref q_this), (1, .int x_1)] := hl
    refine lv_aload_n hx hb d_MD_wellLaid_10 rfl (lv_at hl 1 rfl) ?_
    refine gf_MD_7 (v := .ref q_now) hx hb hts hN hown hK hP 0 rfl rfl d_MD_wellLaid_11 ?_
    refine lv_bipush (v := 64) hx hb d_MD_wellLaid_14 rfl ?_
    refine lv_iload_n hx hb d_MD_wellLaid_16 rfl (lv_at hl 2 rfl) ?_
    refine lv_imul hx hb d_MD_wellLaid_17 ?_
    refine lv_iconst (v := 1) hx hb d_MD_wellLaid_18 rfl ?_
    refine lv_iadd hx hb d_MD_wellLaid_19 ?_
    obtain ⟨hin, hf⟩ := pu_ck_some hf
    refine va_iald hx hb hK hP 1 0 rfl rfl hin d_MD_wellLaid_20 ?_
    obtain ⟨t2, e_t2, hf⟩ := pu_nm_some hf
    refine pu_ti e_t2 ?_
    refine lv_istore_n hx hb d_MD_wellLaid_21 rfl hl (by decide) rfl (fun ls hl => ?_)
    have hl : lv_has ls 7 [(3, .int t2), (2, .int t1), (0, .ref q_this), (1, .int x_1)] := hl
    refine lv_iload_n hx hb d_MD_wellLaid_22 rfl (lv_at hl 1 rfl) ?_
    refine lv_bipush (v := 13) hx hb d_MD_wellLaid_23 rfl ?_
    refine lv_icmp_eq (tgt := 33) hx hb d_MD_wellLaid_25 rfl (fun hc => ?_) (fun hc => ?_)
    · have hf := pu_br_pos hf hc
      exact lb_33 x_1 t1 t2 H locs ls hP hD hS (lv_sub hl [2, 3, 1, 0] rfl) hf
    have hf := pu_br_neg hf hc
    refine lv_iload_n hx hb d_MD_wellLaid_28 rfl (lv_at hl 1 rfl) ?_
    refine lv_iconst (v := 5) hx hb d_MD_wellLaid_29 rfl ?_
    refine lv_icmp_ne (tgt := 73) hx hb d_MD_wellLaid_30 rfl (fun hc => ?_) (fun hc => ?_)
    · have hf := pu_br_neg hf hc
      refine lv_iconst (v := 0) hx hb d_MD_wellLaid_73 rfl ?_
      exact hret _ _ _ _ (0 : Int32)  d_MD_wellLaid_74 (by decide) hP hD hS hf
    have hf := pu_br_pos hf hc
    exact lb_33 x_1 t1 t2 H locs ls hP hD hS (lv_sub hl [2, 3, 1, 0] rfl) hf
  rw [hH, hlocs] at goal
  exact goal
theorem d_MD_innerKey_0 : decode b_MD_innerKey 0 = .ok (.bipush 64, 2) := by decide +kernel
theorem d_MD_innerKey_2 : decode b_MD_innerKey 2 = .ok (.iload_n 1, 1) := by decide +kernel
theorem d_MD_innerKey_3 : decode b_MD_innerKey 3 = .ok (.imul, 1) := by decide +kernel
theorem d_MD_innerKey_4 : decode b_MD_innerKey 4 = .ok (.aload_n 0, 1) := by decide +kernel
theorem d_MD_innerKey_5 : decode b_MD_innerKey 5 = .ok (.iload_n 1, 1) := by decide +kernel
theorem d_MD_innerKey_6 : decode b_MD_innerKey 6 = .ok (.iload_n 2, 1) := by decide +kernel
theorem d_MD_innerKey_7 : decode b_MD_innerKey 7 = .ok (.iconst 1, 1) := by decide +kernel
theorem d_MD_innerKey_8 : decode b_MD_innerKey 8 = .ok (.isub, 1) := by decide +kernel
theorem d_MD_innerKey_9 : decode b_MD_innerKey 9 = .ok (.invokevirtual 115, 3) := by decide +kernel
theorem d_MD_innerKey_12 : decode b_MD_innerKey 12 = .ok (.iadd, 1) := by decide +kernel
theorem d_MD_innerKey_13 : decode b_MD_innerKey 13 = .ok (.istore_n 3, 1) := by decide +kernel
theorem d_MD_innerKey_14 : decode b_MD_innerKey 14 = .ok (.aload_n 0, 1) := by decide +kernel
theorem d_MD_innerKey_15 : decode b_MD_innerKey 15 = .ok (.bipush 64, 2) := by decide +kernel
theorem d_MD_innerKey_17 : decode b_MD_innerKey 17 = .ok (.iload_n 1, 1) := by decide +kernel
theorem d_MD_innerKey_18 : decode b_MD_innerKey 18 = .ok (.imul, 1) := by decide +kernel
theorem d_MD_innerKey_19 : decode b_MD_innerKey 19 = .ok (.aload_n 0, 1) := by decide +kernel
theorem d_MD_innerKey_20 : decode b_MD_innerKey 20 = .ok (.iload_n 1, 1) := by decide +kernel
theorem d_MD_innerKey_21 : decode b_MD_innerKey 21 = .ok (.iload_n 2, 1) := by decide +kernel
theorem d_MD_innerKey_22 : decode b_MD_innerKey 22 = .ok (.invokevirtual 115, 3) := by decide +kernel
theorem d_MD_innerKey_25 : decode b_MD_innerKey 25 = .ok (.iadd, 1) := by decide +kernel
theorem d_MD_innerKey_26 : decode b_MD_innerKey 26 = .ok (.iconst 1, 1) := by decide +kernel
theorem d_MD_innerKey_27 : decode b_MD_innerKey 27 = .ok (.iadd, 1) := by decide +kernel
theorem d_MD_innerKey_28 : decode b_MD_innerKey 28 = .ok (.putfield 132, 3) := by decide +kernel
theorem d_MD_innerKey_31 : decode b_MD_innerKey 31 = .ok (.aload_n 0, 1) := by decide +kernel
theorem d_MD_innerKey_32 : decode b_MD_innerKey 32 = .ok (.iconst 0, 1) := by decide +kernel
theorem d_MD_innerKey_33 : decode b_MD_innerKey 33 = .ok (.putfield 129, 3) := by decide +kernel
theorem d_MD_innerKey_36 : decode b_MD_innerKey 36 = .ok (.aload_n 0, 1) := by decide +kernel
theorem d_MD_innerKey_37 : decode b_MD_innerKey 37 = .ok (.aload_n 0, 1) := by decide +kernel
theorem d_MD_innerKey_38 : decode b_MD_innerKey 38 = .ok (.getfield 7, 3) := by decide +kernel
theorem d_MD_innerKey_41 : decode b_MD_innerKey 41 = .ok (.iload_n 3, 1) := by decide +kernel
theorem d_MD_innerKey_42 : decode b_MD_innerKey 42 = .ok (.invokevirtual 135, 3) := by decide +kernel
theorem d_MD_innerKey_45 : decode b_MD_innerKey 45 = .ok (.istore 4, 2) := by decide +kernel
theorem d_MD_innerKey_47 : decode b_MD_innerKey 47 = .ok (.aload_n 0, 1) := by decide +kernel
theorem d_MD_innerKey_48 : decode b_MD_innerKey 48 = .ok (.getfield 129, 3) := by decide +kernel
theorem d_MD_innerKey_51 : decode b_MD_innerKey 51 = .ok (.ifCond .ne 18, 3) := by decide +kernel
theorem d_MD_innerKey_54 : decode b_MD_innerKey 54 = .ok (.aload_n 0, 1) := by decide +kernel
theorem d_MD_innerKey_55 : decode b_MD_innerKey 55 = .ok (.getfield 132, 3) := by decide +kernel
theorem d_MD_innerKey_58 : decode b_MD_innerKey 58 = .ok (.iload_n 3, 1) := by decide +kernel
theorem d_MD_innerKey_59 : decode b_MD_innerKey 59 = .ok (.if_icmp .ne 10, 3) := by decide +kernel
theorem d_MD_innerKey_62 : decode b_MD_innerKey 62 = .ok (.iload 4, 2) := by decide +kernel
theorem d_MD_innerKey_64 : decode b_MD_innerKey 64 = .ok (.ldc 167, 2) := by decide +kernel
theorem d_MD_innerKey_66 : decode b_MD_innerKey 66 = .ok (.if_icmp .le 8, 3) := by decide +kernel
theorem d_MD_innerKey_69 : decode b_MD_innerKey 69 = .ok (.bipush (-2), 2) := by decide +kernel
theorem d_MD_innerKey_71 : decode b_MD_innerKey 71 = .ok (.goto 5, 3) := by decide +kernel
theorem d_MD_innerKey_74 : decode b_MD_innerKey 74 = .ok (.iload 4, 2) := by decide +kernel
theorem d_MD_innerKey_76 : decode b_MD_innerKey 76 = .ok (.ireturn, 1) := by decide +kernel
noncomputable def f_MD_innerKey (v_now : Nat → Int32) (v_at : Int32) (v_bad : Int32) (x_1 : Int32) (x_2 : Int32) : Option (Int32 × Int32 × Int32) :=
  pu_b1 (f_MD_begin v_now x_1 (x_2 - (1 : Int32))) (fun r1 => pu_nm (((64 : Int32) * x_1) + r1) (fun t2 => pu_b1 (f_MD_begin v_now x_1 x_2) (fun r3 => pu_nm ((((64 : Int32) * x_1) + r3) + (1 : Int32)) (fun t4 => pu_b3 (f_MD_read 1600 v_now t4 (0 : Int32) t2) (fun r5 w6 w7 => pu_br (w7 = 0) (pu_br (w6 = t2) (pu_br (r5 ≤ (1000000 : Int32)) (some (r5, w6, w7)) (some ((-2 : Int32), w6, w7))) (some ((-2 : Int32), w6, w7))) (some ((-2 : Int32), w6, w7)))))))
abbrev rm_MD_innerKey : Room := { frames := 1, cells := 0, slots := 0, locals := 25 }
set_option maxHeartbeats 8000000 in
set_option maxRecDepth 100000 in
theorem c_MD_innerKey (l : Launch) (D : va_G) (cI cJ cB cZ : ClassId) (sz : Nat) (q_this : Nat) (q_now : Nat) (q_disk : Nat) (q_before : Nat) (q_recordPage : Nat) (q_recordBytes : Nat) (q_isBlob : Nat) (q_integer : Nat) (q_size : Nat) (q_blobs : Nat) (q_record : Nat) (q_cellLength : Nat) (q_row : Nat) (q_cell : Nat) (q_way : Nat) (q_turn : Nat) (q_used : Nat) (v_onDisk : Int32) (v_head : Int32) (v_headPages : Int32) (v_records : Int32) (v_up : Int32) (v_armed : Int32) (v_columns : Int32) (v_length : Int32) (v_kind : Int32) (v_cells : Int32) (v_last : Int32) (v_made : Int32) (v_deep : Int32) (v_at : Int32) (v_bad : Int32) (v_now : Nat → Int32) (x_1 : Int32) (x_2 : Int32) (o_r : Int32) (o_at : Int32) (o_bad : Int32) (hf : f_MD_innerKey v_now v_at v_bad x_1 x_2 = some (o_r, o_at, o_bad)) : Met l y_MD_innerKey (.code y_MD_innerKey b_MD_innerKey 5 (some .int) :: pu_wA) rm_MD_innerKey (pu_pc D pu_cl (pu_ty cI cJ cB cZ) [.ref q_this, .int x_1, .int x_2] [(q_this, .inr (8, [.ref q_now, .ref q_disk, .ref q_before, .int v_onDisk, .int v_head, .int v_headPages, .int v_records, .ref q_recordPage, .ref q_recordBytes, .int v_up, .int v_armed, .int v_columns, .ref q_isBlob, .ref q_integer, .ref q_size, .ref q_blobs, .int v_length, .ref q_record, .int v_kind, .int v_cells, .int v_last, .ref q_cellLength, .ref q_row, .int v_made, .ref q_cell, .int v_deep, .ref q_way, .ref q_turn, .int v_at, .int v_bad, .ref q_used])), (q_now, .inl (cI, 1600, .inl v_now))] sz) (pu_qi D pu_cl (pu_ty cI cJ cB cZ) [(q_this, .inr (8, [.ref q_now, .ref q_disk, .ref q_before, .int v_onDisk, .int v_head, .int v_headPages, .int v_records, .ref q_recordPage, .ref q_recordBytes, .int v_up, .int v_armed, .int v_columns, .ref q_isBlob, .ref q_integer, .ref q_size, .ref q_blobs, .int v_length, .ref q_record, .int v_kind, .int v_cells, .int v_last, .ref q_cellLength, .ref q_row, .int v_made, .ref q_cell, .int v_deep, .ref q_way, .ref q_turn, .int v_at, .int v_bad, .ref q_used])), (q_now, .inl (cI, 1600, .inl v_now))] [(q_this, .inr (8, [.ref q_now, .ref q_disk, .ref q_before, .int v_onDisk, .int v_head, .int v_headPages, .int v_records, .ref q_recordPage, .ref q_recordBytes, .int v_up, .int v_armed, .int v_columns, .ref q_isBlob, .ref q_integer, .ref q_size, .ref q_blobs, .int v_length, .ref q_record, .int v_kind, .int v_cells, .int v_last, .ref q_cellLength, .ref q_row, .int v_made, .ref q_cell, .int v_deep, .ref q_way, .ref q_turn, .int o_at, .int o_bad, .ref q_used])), (q_now, .inl (cI, 1600, .inl v_now))] sz o_r) 0 0 (va_A [(q_this, .inr (8, [.ref q_now, .ref q_disk, .ref q_before, .int v_onDisk, .int v_head, .int v_headPages, .int v_records, .ref q_recordPage, .ref q_recordBytes, .int v_up, .int v_armed, .int v_columns, .ref q_isBlob, .ref q_integer, .ref q_size, .ref q_blobs, .int v_length, .ref q_record, .int v_kind, .int v_cells, .int v_last, .ref q_cellLength, .ref q_row, .int v_made, .ref q_cell, .int v_deep, .ref q_way, .ref q_turn, .int v_at, .int v_bad, .ref q_used])), (q_now, .inl (cI, 1600, .inl v_now))] sz) := by
  refine pu_mti [.ref q_this, .int x_1, .int x_2] [(q_this, .inr (8, [.ref q_now, .ref q_disk, .ref q_before, .int v_onDisk, .int v_head, .int v_headPages, .int v_records, .ref q_recordPage, .ref q_recordBytes, .int v_up, .int v_armed, .int v_columns, .ref q_isBlob, .ref q_integer, .ref q_size, .ref q_blobs, .int v_length, .ref q_record, .int v_kind, .int v_cells, .int v_last, .ref q_cellLength, .ref q_row, .int v_made, .ref q_cell, .int v_deep, .ref q_way, .ref q_turn, .int v_at, .int v_bad, .ref q_used])), (q_now, .inl (cI, 1600, .inl v_now))] [(q_this, .inr (8, [.ref q_now, .ref q_disk, .ref q_before, .int v_onDisk, .int v_head, .int v_headPages, .int v_records, .ref q_recordPage, .ref q_recordBytes, .int v_up, .int v_armed, .int v_columns, .ref q_isBlob, .ref q_integer, .ref q_size, .ref q_blobs, .int v_length, .ref q_record, .int v_kind, .int v_cells, .int v_last, .ref q_cellLength, .ref q_row, .int v_made, .ref q_cell, .int v_deep, .ref q_way, .ref q_turn, .int o_at, .int o_bad, .ref q_used])), (q_now, .inl (cI, 1600, .inl v_now))] o_r (by decide) (Nat.le_of_ble_eq_true rfl) ?_
  intro p e s m args below meth c A Q ls hx hb hml hts hN hown hK hA hP hD hl hret0
  have hS : va_S A s.heap s.heap [] := va_S.rf
  have hl : lv_has ls 5 [(0, .ref q_this), (1, .int x_1), (2, .int x_2)] := hl
  have hret : ∀ (pc : Nat) (ls : Array Slot) (H : Heap) (locs : List Loc) (y_0 : Int32) (y_1 : Int32) (y_2 : Int32), decode b_MD_innerKey pc = .ok (.ireturn, 1) → va_P D pu_cl [(q_this, .inr (8, [.ref q_now, .ref q_disk, .ref q_before, .int v_onDisk, .int v_head, .int v_headPages, .int v_records, .ref q_recordPage, .ref q_recordBytes, .int v_up, .int v_armed, .int v_columns, .ref q_isBlob, .ref q_integer, .ref q_size, .ref q_blobs, .int v_length, .ref q_record, .int v_kind, .int v_cells, .int v_last, .ref q_cellLength, .ref q_row, .int v_made, .ref q_cell, .int v_deep, .ref q_way, .ref q_turn, .int y_1, .int y_2, .ref q_used])), (q_now, .inl (cI, 1600, .inl v_now))] H → va_D A [(q_this, .inr (8, [.ref q_now, .ref q_disk, .ref q_before, .int v_onDisk, .int v_head, .int v_headPages, .int v_records, .ref q_recordPage, .ref q_recordBytes, .int v_up, .int v_armed, .int v_columns, .ref q_isBlob, .ref q_integer, .ref q_size, .ref q_blobs, .int v_length, .ref q_record, .int v_kind, .int v_cells, .int v_last, .ref q_cellLength, .ref q_row, .int v_made, .ref q_cell, .int v_deep, .ref q_way, .ref q_turn, .int y_1, .int y_2, .ref q_used])), (q_now, .inl (cI, 1600, .inl v_now))] → va_S A s.heap H locs → some (y_0, y_1, y_2) = some (o_r, o_at, o_bad) → W p l e rm_MD_innerKey s m args below meth c H locs 0 0 Q (F0 m pc ls [.int y_0]) := by
    intro pc ls H locs y_0 y_1 y_2 hd hP hD hS hf
    cases hf
    exact hret0 pc ls H locs hd hP hD hS
  clear hret0
  unfold f_MD_innerKey at hf
  skip
  obtain ⟨H, hH⟩ : ∃ H, H = s.heap := ⟨_, rfl⟩
  obtain ⟨locs, hlocs⟩ : ∃ locs : List Loc, locs = [] := ⟨_, rfl⟩
  have hP : va_P D pu_cl [(q_this, .inr (8, [.ref q_now, .ref q_disk, .ref q_before, .int v_onDisk, .int v_head, .int v_headPages, .int v_records, .ref q_recordPage, .ref q_recordBytes, .int v_up, .int v_armed, .int v_columns, .ref q_isBlob, .ref q_integer, .ref q_size, .ref q_blobs, .int v_length, .ref q_record, .int v_kind, .int v_cells, .int v_last, .ref q_cellLength, .ref q_row, .int v_made, .ref q_cell, .int v_deep, .ref q_way, .ref q_turn, .int v_at, .int v_bad, .ref q_used])), (q_now, .inl (cI, 1600, .inl v_now))] H := by rw [hH]; exact hP
  have hS : va_S A s.heap H locs := by rw [hH, hlocs]; exact hS
  have goal : W p l e rm_MD_innerKey s m args below meth c H locs 0 0 Q (F0 m 0 ls []) := by
    clear hH hlocs
    refine lv_bipush (v := 64) hx hb d_MD_innerKey_0 rfl ?_
    refine lv_iload_n hx hb d_MD_innerKey_2 rfl (lv_at hl 1 rfl) ?_
    refine lv_imul hx hb d_MD_innerKey_3 ?_
    refine lv_aload_n hx hb d_MD_innerKey_4 rfl (lv_at hl 0 rfl) ?_
    refine lv_iload_n hx hb d_MD_innerKey_5 rfl (lv_at hl 1 rfl) ?_
    refine lv_iload_n hx hb d_MD_innerKey_6 rfl (lv_at hl 2 rfl) ?_
    refine lv_iconst (v := 1) hx hb d_MD_innerKey_7 rfl ?_
    refine lv_isub hx hb d_MD_innerKey_8 ?_
    obtain ⟨r1, hc, hf⟩ := pu_b1_some hf
    refine cl_i (WC := [(q_this, .inr (8, [.ref q_now, .ref q_disk, .ref q_before, .int v_onDisk, .int v_head, .int v_headPages, .int v_records, .ref q_recordPage, .ref q_recordBytes, .int v_up, .int v_armed, .int v_columns, .ref q_isBlob, .ref q_integer, .ref q_size, .ref q_blobs, .int v_length, .ref q_record, .int v_kind, .int v_cells, .int v_last, .ref q_cellLength, .ref q_row, .int v_made, .ref q_cell, .int v_deep, .ref q_way, .ref q_turn, .int v_at, .int v_bad, .ref q_used])), (q_now, .inl (cI, 1600, .inl v_now))]) (WC2 := [(q_this, .inr (8, [.ref q_now, .ref q_disk, .ref q_before, .int v_onDisk, .int v_head, .int v_headPages, .int v_records, .ref q_recordPage, .ref q_recordBytes, .int v_up, .int v_armed, .int v_columns, .ref q_isBlob, .ref q_integer, .ref q_size, .ref q_blobs, .int v_length, .ref q_record, .int v_kind, .int v_cells, .int v_last, .ref q_cellLength, .ref q_row, .int v_made, .ref q_cell, .int v_deep, .ref q_way, .ref q_turn, .int v_at, .int v_bad, .ref q_used])), (q_now, .inl (cI, 1600, .inl v_now))]) (WR := []) (WS2 := [(q_this, .inr (8, [.ref q_now, .ref q_disk, .ref q_before, .int v_onDisk, .int v_head, .int v_headPages, .int v_records, .ref q_recordPage, .ref q_recordBytes, .int v_up, .int v_armed, .int v_columns, .ref q_isBlob, .ref q_integer, .ref q_size, .ref q_blobs, .int v_length, .ref q_record, .int v_kind, .int v_cells, .int v_last, .ref q_cellLength, .ref q_row, .int v_made, .ref q_cell, .int v_deep, .ref q_way, .ref q_turn, .int v_at, .int v_bad, .ref q_used])), (q_now, .inl (cI, 1600, .inl v_now))]) (pu_rv (cl := pu_cl) (pu_in10 _ (List.mem_of_getElem? (i := 54) rfl)) (pu_in10 _ (List.mem_of_getElem? (i := 55) rfl)) (pu_in14 _ (List.mem_of_getElem? (i := 15) rfl)) (pu_in0 _ (List.mem_of_getElem? (i := 10) rfl)) (pu_in10 _ (List.mem_of_getElem? (i := 56) rfl)) (ci := 8) rfl hd_MD_begin (by decide) ⟨rfl, rfl⟩ rfl rfl (Nat.le_of_ble_eq_true rfl) rfl (As := [.int x_1, .int (x_2 - (1 : Int32))]) (rest := [.int ((64 : Int32) * x_1)]) (WC := [(q_this, .inr (8, [.ref q_now, .ref q_disk, .ref q_before, .int v_onDisk, .int v_head, .int v_headPages, .int v_records, .ref q_recordPage, .ref q_recordBytes, .int v_up, .int v_armed, .int v_columns, .ref q_isBlob, .ref q_integer, .ref q_size, .ref q_blobs, .int v_length, .ref q_record, .int v_kind, .int v_cells, .int v_last, .ref q_cellLength, .ref q_row, .int v_made, .ref q_cell, .int v_deep, .ref q_way, .ref q_turn, .int v_at, .int v_bad, .ref q_used])), (q_now, .inl (cI, 1600, .inl v_now))]) hx hb hml hown hts hN hK hP hD (c_MD_begin l D cI cJ cB cZ H.size q_this q_now q_disk q_before q_recordPage q_recordBytes q_isBlob q_integer q_size q_blobs q_record q_cellLength q_row q_cell q_way q_turn q_used v_onDisk v_head v_headPages v_records v_up v_armed v_columns v_length v_kind v_cells v_last v_made v_deep v_at v_bad v_now x_1 (x_2 - (1 : Int32)) r1 hc) [0, 1] rfl rfl hl.1 d_MD_innerKey_9) hP hD hS hA [0, 1] [] [0, 1] rfl rfl rfl (by decide) rfl rfl (fun H locs hP hD hS => ?_)
    refine lv_iadd hx hb d_MD_innerKey_12 ?_
    obtain ⟨t2, e_t2, hf⟩ := pu_nm_some hf
    refine pu_ti e_t2 ?_
    refine lv_istore_n hx hb d_MD_innerKey_13 rfl hl (by decide) rfl (fun ls hl => ?_)
    have hl : lv_has ls 5 [(3, .int t2), (0, .ref q_this), (1, .int x_1), (2, .int x_2)] := hl
    refine lv_aload_n hx hb d_MD_innerKey_14 rfl (lv_at hl 1 rfl) ?_
    refine lv_bipush (v := 64) hx hb d_MD_innerKey_15 rfl ?_
    refine lv_iload_n hx hb d_MD_innerKey_17 rfl (lv_at hl 2 rfl) ?_
    refine lv_imul hx hb d_MD_innerKey_18 ?_
    refine lv_aload_n hx hb d_MD_innerKey_19 rfl (lv_at hl 1 rfl) ?_
    refine lv_iload_n hx hb d_MD_innerKey_20 rfl (lv_at hl 2 rfl) ?_
    refine lv_iload_n hx hb d_MD_innerKey_21 rfl (lv_at hl 3 rfl) ?_
    obtain ⟨r3, hc, hf⟩ := pu_b1_some hf
    refine cl_i (WC := [(q_this, .inr (8, [.ref q_now, .ref q_disk, .ref q_before, .int v_onDisk, .int v_head, .int v_headPages, .int v_records, .ref q_recordPage, .ref q_recordBytes, .int v_up, .int v_armed, .int v_columns, .ref q_isBlob, .ref q_integer, .ref q_size, .ref q_blobs, .int v_length, .ref q_record, .int v_kind, .int v_cells, .int v_last, .ref q_cellLength, .ref q_row, .int v_made, .ref q_cell, .int v_deep, .ref q_way, .ref q_turn, .int v_at, .int v_bad, .ref q_used])), (q_now, .inl (cI, 1600, .inl v_now))]) (WC2 := [(q_this, .inr (8, [.ref q_now, .ref q_disk, .ref q_before, .int v_onDisk, .int v_head, .int v_headPages, .int v_records, .ref q_recordPage, .ref q_recordBytes, .int v_up, .int v_armed, .int v_columns, .ref q_isBlob, .ref q_integer, .ref q_size, .ref q_blobs, .int v_length, .ref q_record, .int v_kind, .int v_cells, .int v_last, .ref q_cellLength, .ref q_row, .int v_made, .ref q_cell, .int v_deep, .ref q_way, .ref q_turn, .int v_at, .int v_bad, .ref q_used])), (q_now, .inl (cI, 1600, .inl v_now))]) (WR := []) (WS2 := [(q_this, .inr (8, [.ref q_now, .ref q_disk, .ref q_before, .int v_onDisk, .int v_head, .int v_headPages, .int v_records, .ref q_recordPage, .ref q_recordBytes, .int v_up, .int v_armed, .int v_columns, .ref q_isBlob, .ref q_integer, .ref q_size, .ref q_blobs, .int v_length, .ref q_record, .int v_kind, .int v_cells, .int v_last, .ref q_cellLength, .ref q_row, .int v_made, .ref q_cell, .int v_deep, .ref q_way, .ref q_turn, .int v_at, .int v_bad, .ref q_used])), (q_now, .inl (cI, 1600, .inl v_now))]) (pu_rv (cl := pu_cl) (pu_in10 _ (List.mem_of_getElem? (i := 54) rfl)) (pu_in10 _ (List.mem_of_getElem? (i := 55) rfl)) (pu_in14 _ (List.mem_of_getElem? (i := 15) rfl)) (pu_in0 _ (List.mem_of_getElem? (i := 10) rfl)) (pu_in10 _ (List.mem_of_getElem? (i := 56) rfl)) (ci := 8) rfl hd_MD_begin (by decide) ⟨rfl, rfl⟩ rfl rfl (Nat.le_of_ble_eq_true rfl) rfl (As := [.int x_1, .int x_2]) (rest := [.int ((64 : Int32) * x_1), .ref q_this]) (WC := [(q_this, .inr (8, [.ref q_now, .ref q_disk, .ref q_before, .int v_onDisk, .int v_head, .int v_headPages, .int v_records, .ref q_recordPage, .ref q_recordBytes, .int v_up, .int v_armed, .int v_columns, .ref q_isBlob, .ref q_integer, .ref q_size, .ref q_blobs, .int v_length, .ref q_record, .int v_kind, .int v_cells, .int v_last, .ref q_cellLength, .ref q_row, .int v_made, .ref q_cell, .int v_deep, .ref q_way, .ref q_turn, .int v_at, .int v_bad, .ref q_used])), (q_now, .inl (cI, 1600, .inl v_now))]) hx hb hml hown hts hN hK hP hD (c_MD_begin l D cI cJ cB cZ H.size q_this q_now q_disk q_before q_recordPage q_recordBytes q_isBlob q_integer q_size q_blobs q_record q_cellLength q_row q_cell q_way q_turn q_used v_onDisk v_head v_headPages v_records v_up v_armed v_columns v_length v_kind v_cells v_last v_made v_deep v_at v_bad v_now x_1 x_2 r3 hc) [0, 1] rfl rfl hl.1 d_MD_innerKey_22) hP hD hS hA [0, 1] [] [0, 1] rfl rfl rfl (by decide) rfl rfl (fun H locs hP hD hS => ?_)
    refine lv_iadd hx hb d_MD_innerKey_25 ?_
    refine lv_iconst (v := 1) hx hb d_MD_innerKey_26 rfl ?_
    refine lv_iadd hx hb d_MD_innerKey_27 ?_
    obtain ⟨t4, e_t4, hf⟩ := pu_nm_some hf
    refine pu_ti e_t4 ?_
    refine pf_MD_132 (v := .int t4) hx hb hts hN hown hK hP hD hS 0 rfl rfl rfl (Nat.le_of_ble_eq_true rfl) d_MD_innerKey_28 (fun H locs hP hD hS => ?_)
    have hP : va_P D pu_cl [(q_this, .inr (8, [.ref q_now, .ref q_disk, .ref q_before, .int v_onDisk, .int v_head, .int v_headPages, .int v_records, .ref q_recordPage, .ref q_recordBytes, .int v_up, .int v_armed, .int v_columns, .ref q_isBlob, .ref q_integer, .ref q_size, .ref q_blobs, .int v_length, .ref q_record, .int v_kind, .int v_cells, .int v_last, .ref q_cellLength, .ref q_row, .int v_made, .ref q_cell, .int v_deep, .ref q_way, .ref q_turn, .int t4, .int v_bad, .ref q_used])), (q_now, .inl (cI, 1600, .inl v_now))] H := hP
    have hD : va_D A [(q_this, .inr (8, [.ref q_now, .ref q_disk, .ref q_before, .int v_onDisk, .int v_head, .int v_headPages, .int v_records, .ref q_recordPage, .ref q_recordBytes, .int v_up, .int v_armed, .int v_columns, .ref q_isBlob, .ref q_integer, .ref q_size, .ref q_blobs, .int v_length, .ref q_record, .int v_kind, .int v_cells, .int v_last, .ref q_cellLength, .ref q_row, .int v_made, .ref q_cell, .int v_deep, .ref q_way, .ref q_turn, .int t4, .int v_bad, .ref q_used])), (q_now, .inl (cI, 1600, .inl v_now))] := hD
    refine lv_aload_n hx hb d_MD_innerKey_31 rfl (lv_at hl 1 rfl) ?_
    refine lv_iconst (v := 0) hx hb d_MD_innerKey_32 rfl ?_
    refine pf_MD_129 (v := .int (0 : Int32)) hx hb hts hN hown hK hP hD hS 0 rfl (by decide) (by decide) (Nat.le_of_ble_eq_true rfl) d_MD_innerKey_33 (fun H locs hP hD hS => ?_)
    have hP : va_P D pu_cl [(q_this, .inr (8, [.ref q_now, .ref q_disk, .ref q_before, .int v_onDisk, .int v_head, .int v_headPages, .int v_records, .ref q_recordPage, .ref q_recordBytes, .int v_up, .int v_armed, .int v_columns, .ref q_isBlob, .ref q_integer, .ref q_size, .ref q_blobs, .int v_length, .ref q_record, .int v_kind, .int v_cells, .int v_last, .ref q_cellLength, .ref q_row, .int v_made, .ref q_cell, .int v_deep, .ref q_way, .ref q_turn, .int t4, .int (0 : Int32), .ref q_used])), (q_now, .inl (cI, 1600, .inl v_now))] H := hP
    have hD : va_D A [(q_this, .inr (8, [.ref q_now, .ref q_disk, .ref q_before, .int v_onDisk, .int v_head, .int v_headPages, .int v_records, .ref q_recordPage, .ref q_recordBytes, .int v_up, .int v_armed, .int v_columns, .ref q_isBlob, .ref q_integer, .ref q_size, .ref q_blobs, .int v_length, .ref q_record, .int v_kind, .int v_cells, .int v_last, .ref q_cellLength, .ref q_row, .int v_made, .ref q_cell, .int v_deep, .ref q_way, .ref q_turn, .int t4, .int (0 : Int32), .ref q_used])), (q_now, .inl (cI, 1600, .inl v_now))] := hD
    refine lv_aload_n hx hb d_MD_innerKey_36 rfl (lv_at hl 1 rfl) ?_
    refine lv_aload_n hx hb d_MD_innerKey_37 rfl (lv_at hl 1 rfl) ?_
    refine gf_MD_7 (v := .ref q_now) hx hb hts hN hown hK hP 0 rfl rfl d_MD_innerKey_38 ?_
    refine lv_iload_n hx hb d_MD_innerKey_41 rfl (lv_at hl 0 rfl) ?_
    obtain ⟨r5, w6, w7, hc, hf⟩ := pu_b3_some hf
    refine cl_i (WC := [(q_this, .inr (8, [.ref q_now, .ref q_disk, .ref q_before, .int v_onDisk, .int v_head, .int v_headPages, .int v_records, .ref q_recordPage, .ref q_recordBytes, .int v_up, .int v_armed, .int v_columns, .ref q_isBlob, .ref q_integer, .ref q_size, .ref q_blobs, .int v_length, .ref q_record, .int v_kind, .int v_cells, .int v_last, .ref q_cellLength, .ref q_row, .int v_made, .ref q_cell, .int v_deep, .ref q_way, .ref q_turn, .int t4, .int (0 : Int32), .ref q_used])), (q_now, .inl (cI, 1600, .inl v_now))]) (WC2 := [(q_this, .inr (8, [.ref q_now, .ref q_disk, .ref q_before, .int v_onDisk, .int v_head, .int v_headPages, .int v_records, .ref q_recordPage, .ref q_recordBytes, .int v_up, .int v_armed, .int v_columns, .ref q_isBlob, .ref q_integer, .ref q_size, .ref q_blobs, .int v_length, .ref q_record, .int v_kind, .int v_cells, .int v_last, .ref q_cellLength, .ref q_row, .int v_made, .ref q_cell, .int v_deep, .ref q_way, .ref q_turn, .int w6, .int w7, .ref q_used])), (q_now, .inl (cI, 1600, .inl v_now))]) (WR := []) (WS2 := [(q_this, .inr (8, [.ref q_now, .ref q_disk, .ref q_before, .int v_onDisk, .int v_head, .int v_headPages, .int v_records, .ref q_recordPage, .ref q_recordBytes, .int v_up, .int v_armed, .int v_columns, .ref q_isBlob, .ref q_integer, .ref q_size, .ref q_blobs, .int v_length, .ref q_record, .int v_kind, .int v_cells, .int v_last, .ref q_cellLength, .ref q_row, .int v_made, .ref q_cell, .int v_deep, .ref q_way, .ref q_turn, .int w6, .int w7, .ref q_used])), (q_now, .inl (cI, 1600, .inl v_now))]) (pu_rv (cl := pu_cl) (pu_in10 _ (List.mem_of_getElem? (i := 57) rfl)) (pu_in10 _ (List.mem_of_getElem? (i := 58) rfl)) (pu_in14 _ (List.mem_of_getElem? (i := 16) rfl)) (pu_in0 _ (List.mem_of_getElem? (i := 10) rfl)) (pu_in10 _ (List.mem_of_getElem? (i := 59) rfl)) (ci := 8) rfl hd_MD_read (by decide) ⟨rfl, rfl⟩ rfl rfl (Nat.le_of_ble_eq_true rfl) rfl (As := [.ref q_now, .int t2]) (rest := []) (WC := [(q_this, .inr (8, [.ref q_now, .ref q_disk, .ref q_before, .int v_onDisk, .int v_head, .int v_headPages, .int v_records, .ref q_recordPage, .ref q_recordBytes, .int v_up, .int v_armed, .int v_columns, .ref q_isBlob, .ref q_integer, .ref q_size, .ref q_blobs, .int v_length, .ref q_record, .int v_kind, .int v_cells, .int v_last, .ref q_cellLength, .ref q_row, .int v_made, .ref q_cell, .int v_deep, .ref q_way, .ref q_turn, .int t4, .int (0 : Int32), .ref q_used])), (q_now, .inl (cI, 1600, .inl v_now))]) hx hb hml hown hts hN hK hP hD (c_MD_read l D cI cJ cB cZ H.size q_this q_now q_disk q_before q_recordPage q_recordBytes q_isBlob q_integer q_size q_blobs q_record q_cellLength q_row q_cell q_way q_turn q_used q_now 1600 v_onDisk v_head v_headPages v_records v_up v_armed v_columns v_length v_kind v_cells v_last v_made v_deep t4 (0 : Int32) v_now t2 r5 w6 w7 hc) [0, 1] rfl rfl hl.1 d_MD_innerKey_42) hP hD hS hA [0, 1] [] [0, 1] rfl rfl rfl (by decide) rfl rfl (fun H locs hP hD hS => ?_)
    refine lv_istore hx hb d_MD_innerKey_45 hl (by decide) rfl (fun ls hl => ?_)
    have hl : lv_has ls 5 [(4, .int r5), (3, .int t2), (0, .ref q_this), (1, .int x_1), (2, .int x_2)] := hl
    refine lv_aload_n hx hb d_MD_innerKey_47 rfl (lv_at hl 2 rfl) ?_
    refine gf_MD_129 (v := .int w7) hx hb hts hN hown hK hP 0 rfl rfl d_MD_innerKey_48 ?_
    refine lv_if_ne (tgt := 69) hx hb d_MD_innerKey_51 rfl (fun hc => ?_) (fun hc => ?_)
    · have hf := pu_br_neg hf hc
      refine lv_bipush (v := -2) hx hb d_MD_innerKey_69 rfl ?_
      refine lv_goto (tgt := 76) hx hb d_MD_innerKey_71 rfl ?_
      exact hret _ _ _ _ (-2 : Int32) w6 w7 d_MD_innerKey_76 hP hD hS hf
    have hf := pu_br_pos hf hc
    refine lv_aload_n hx hb d_MD_innerKey_54 rfl (lv_at hl 2 rfl) ?_
    refine gf_MD_132 (v := .int w6) hx hb hts hN hown hK hP 0 rfl rfl d_MD_innerKey_55 ?_
    refine lv_iload_n hx hb d_MD_innerKey_58 rfl (lv_at hl 1 rfl) ?_
    refine lv_icmp_ne (tgt := 69) hx hb d_MD_innerKey_59 rfl (fun hc => ?_) (fun hc => ?_)
    · have hf := pu_br_neg hf hc
      refine lv_bipush (v := -2) hx hb d_MD_innerKey_69 rfl ?_
      refine lv_goto (tgt := 76) hx hb d_MD_innerKey_71 rfl ?_
      exact hret _ _ _ _ (-2 : Int32) w6 w7 d_MD_innerKey_76 hP hD hS hf
    have hf := pu_br_pos hf hc
    refine lv_iload hx hb d_MD_innerKey_62 (lv_at hl 0 rfl) ?_
    refine lv_ldc (v := 1000000) hx hb hown (hts _ (pu_in10 _ (List.mem_of_getElem? (i := 38) rfl))) d_MD_innerKey_64 ?_
    refine lv_icmp_le (tgt := 74) hx hb d_MD_innerKey_66 rfl (fun hc => ?_) (fun hc => ?_)
    · have hf := pu_br_pos hf hc
      refine lv_iload hx hb d_MD_innerKey_74 (lv_at hl 0 rfl) ?_
      exact hret _ _ _ _ r5 w6 w7 d_MD_innerKey_76 hP hD hS hf
    have hf := pu_br_neg hf hc
    refine lv_bipush (v := -2) hx hb d_MD_innerKey_69 rfl ?_
    refine lv_goto (tgt := 76) hx hb d_MD_innerKey_71 rfl ?_
    exact hret _ _ _ _ (-2 : Int32) w6 w7 d_MD_innerKey_76 hP hD hS hf
  rw [hH, hlocs] at goal
  exact goal
theorem d_MD_valueAt_0 : decode b_MD_valueAt 0 = .ok (.iload_n 2, 1) := by decide +kernel
theorem d_MD_valueAt_1 : decode b_MD_valueAt 1 = .ok (.ifCond .le 20, 3) := by decide +kernel
theorem d_MD_valueAt_4 : decode b_MD_valueAt 4 = .ok (.aload_n 0, 1) := by decide +kernel
theorem d_MD_valueAt_5 : decode b_MD_valueAt 5 = .ok (.getfield 50, 3) := by decide +kernel
theorem d_MD_valueAt_8 : decode b_MD_valueAt 8 = .ok (.iload_n 1, 1) := by decide +kernel
theorem d_MD_valueAt_9 : decode b_MD_valueAt 9 = .ok (.iaload, 1) := by decide +kernel
theorem d_MD_valueAt_10 : decode b_MD_valueAt 10 = .ok (.bipush 127, 2) := by decide +kernel
theorem d_MD_valueAt_12 : decode b_MD_valueAt 12 = .ok (.if_icmp .le 9, 3) := by decide +kernel
theorem d_MD_valueAt_15 : decode b_MD_valueAt 15 = .ok (.ldc2_w 264, 3) := by decide +kernel
theorem d_MD_valueAt_18 : decode b_MD_valueAt 18 = .ok (.goto 4, 3) := by decide +kernel
theorem d_MD_valueAt_21 : decode b_MD_valueAt 21 = .ok (.lconst 0, 1) := by decide +kernel
theorem d_MD_valueAt_22 : decode b_MD_valueAt 22 = .ok (.lstore_n 3, 1) := by decide +kernel
theorem d_MD_valueAt_23 : decode b_MD_valueAt 23 = .ok (.iconst 0, 1) := by decide +kernel
theorem d_MD_valueAt_24 : decode b_MD_valueAt 24 = .ok (.istore 5, 2) := by decide +kernel
theorem d_MD_valueAt_26 : decode b_MD_valueAt 26 = .ok (.iload 5, 2) := by decide +kernel
theorem d_MD_valueAt_28 : decode b_MD_valueAt 28 = .ok (.iload_n 2, 1) := by decide +kernel
theorem d_MD_valueAt_29 : decode b_MD_valueAt 29 = .ok (.if_icmp .ge 25, 3) := by decide +kernel
theorem d_MD_valueAt_32 : decode b_MD_valueAt 32 = .ok (.lload_n 3, 1) := by decide +kernel
theorem d_MD_valueAt_33 : decode b_MD_valueAt 33 = .ok (.bipush 8, 2) := by decide +kernel
theorem d_MD_valueAt_35 : decode b_MD_valueAt 35 = .ok (.lshl, 1) := by decide +kernel
theorem d_MD_valueAt_36 : decode b_MD_valueAt 36 = .ok (.aload_n 0, 1) := by decide +kernel
theorem d_MD_valueAt_37 : decode b_MD_valueAt 37 = .ok (.getfield 50, 3) := by decide +kernel
theorem d_MD_valueAt_40 : decode b_MD_valueAt 40 = .ok (.iload_n 1, 1) := by decide +kernel
theorem d_MD_valueAt_41 : decode b_MD_valueAt 41 = .ok (.iload 5, 2) := by decide +kernel
theorem d_MD_valueAt_43 : decode b_MD_valueAt 43 = .ok (.iadd, 1) := by decide +kernel
theorem d_MD_valueAt_44 : decode b_MD_valueAt 44 = .ok (.iaload, 1) := by decide +kernel
theorem d_MD_valueAt_45 : decode b_MD_valueAt 45 = .ok (.i2l, 1) := by decide +kernel
theorem d_MD_valueAt_46 : decode b_MD_valueAt 46 = .ok (.lor, 1) := by decide +kernel
theorem d_MD_valueAt_47 : decode b_MD_valueAt 47 = .ok (.lstore_n 3, 1) := by decide +kernel
theorem d_MD_valueAt_48 : decode b_MD_valueAt 48 = .ok (.iinc 5 1, 3) := by decide +kernel
theorem d_MD_valueAt_51 : decode b_MD_valueAt 51 = .ok (.goto (-25), 3) := by decide +kernel
theorem d_MD_valueAt_54 : decode b_MD_valueAt 54 = .ok (.lload_n 3, 1) := by decide +kernel
theorem d_MD_valueAt_55 : decode b_MD_valueAt 55 = .ok (.lreturn, 1) := by decide +kernel
noncomputable def q_MD_valueAt_26 (v_record : Nat → Int32) (x_1 : Int32) (x_2 : Int32) : Nat → Int64 → Int32 → Option (Int64)
  | 0, _, _ => none
  | n + 1, x_3, x_5 => pu_br (x_2 ≤ x_5) (some x_3) (pu_ck (vp_in (x_1 + x_5) 700) (pu_nm ((x_3 <<< ((8 : Int32).toInt64 &&& 63)) ||| ((v_record (x_1 + x_5).toNatClampNeg).toInt64)) (fun t1 => pu_nm (x_5 + (1 : Int32)) (fun t2 => q_MD_valueAt_26 v_record x_1 x_2 n t1 t2))))
noncomputable def q_MD_valueAt_22 (v_record : Nat → Int32) (x_1 : Int32) (x_2 : Int32) (s_0 : Int64) : Option (Int64) :=
  q_MD_valueAt_26 v_record x_1 x_2 pu_fu s_0 (0 : Int32)
noncomputable def q_MD_valueAt_21 (v_record : Nat → Int32) (x_1 : Int32) (x_2 : Int32) : Option (Int64) :=
  q_MD_valueAt_22 v_record x_1 x_2 (0 : Int64)
noncomputable def f_MD_valueAt (v_record : Nat → Int32) (x_1 : Int32) (x_2 : Int32) : Option (Int64) :=
  pu_br (x_2 ≤ 0) (q_MD_valueAt_21 v_record x_1 x_2) (pu_ck (vp_in x_1 700) (pu_br ((v_record x_1.toNatClampNeg) ≤ (127 : Int32)) (q_MD_valueAt_21 v_record x_1 x_2) (q_MD_valueAt_22 v_record x_1 x_2 (-1 : Int64))))
abbrev rm_MD_valueAt : Room := { frames := 0, cells := 0, slots := 0, locals := 0 }
set_option maxHeartbeats 8000000 in
set_option maxRecDepth 100000 in
theorem c_MD_valueAt (l : Launch) (D : va_G) (cI cJ cB cZ : ClassId) (sz : Nat) (q_this : Nat) (q_now : Nat) (q_disk : Nat) (q_before : Nat) (q_recordPage : Nat) (q_recordBytes : Nat) (q_isBlob : Nat) (q_integer : Nat) (q_size : Nat) (q_blobs : Nat) (q_record : Nat) (q_cellLength : Nat) (q_row : Nat) (q_cell : Nat) (q_way : Nat) (q_turn : Nat) (q_used : Nat) (v_onDisk : Int32) (v_head : Int32) (v_headPages : Int32) (v_records : Int32) (v_up : Int32) (v_armed : Int32) (v_columns : Int32) (v_length : Int32) (v_kind : Int32) (v_cells : Int32) (v_last : Int32) (v_made : Int32) (v_deep : Int32) (v_at : Int32) (v_bad : Int32) (v_record : Nat → Int32) (x_1 : Int32) (x_2 : Int32) (o_r : Int64) (hf : f_MD_valueAt v_record x_1 x_2 = some o_r) : Met l y_MD_valueAt (.code y_MD_valueAt b_MD_valueAt 6 (some .long) :: pu_wA) rm_MD_valueAt (pu_pc D pu_cl (pu_ty cI cJ cB cZ) [.ref q_this, .int x_1, .int x_2] [(q_this, .inr (8, [.ref q_now, .ref q_disk, .ref q_before, .int v_onDisk, .int v_head, .int v_headPages, .int v_records, .ref q_recordPage, .ref q_recordBytes, .int v_up, .int v_armed, .int v_columns, .ref q_isBlob, .ref q_integer, .ref q_size, .ref q_blobs, .int v_length, .ref q_record, .int v_kind, .int v_cells, .int v_last, .ref q_cellLength, .ref q_row, .int v_made, .ref q_cell, .int v_deep, .ref q_way, .ref q_turn, .int v_at, .int v_bad, .ref q_used])), (q_record, .inl (cI, 700, .inl v_record))] sz) (pu_ql D pu_cl (pu_ty cI cJ cB cZ) [(q_this, .inr (8, [.ref q_now, .ref q_disk, .ref q_before, .int v_onDisk, .int v_head, .int v_headPages, .int v_records, .ref q_recordPage, .ref q_recordBytes, .int v_up, .int v_armed, .int v_columns, .ref q_isBlob, .ref q_integer, .ref q_size, .ref q_blobs, .int v_length, .ref q_record, .int v_kind, .int v_cells, .int v_last, .ref q_cellLength, .ref q_row, .int v_made, .ref q_cell, .int v_deep, .ref q_way, .ref q_turn, .int v_at, .int v_bad, .ref q_used])), (q_record, .inl (cI, 700, .inl v_record))] [(q_this, .inr (8, [.ref q_now, .ref q_disk, .ref q_before, .int v_onDisk, .int v_head, .int v_headPages, .int v_records, .ref q_recordPage, .ref q_recordBytes, .int v_up, .int v_armed, .int v_columns, .ref q_isBlob, .ref q_integer, .ref q_size, .ref q_blobs, .int v_length, .ref q_record, .int v_kind, .int v_cells, .int v_last, .ref q_cellLength, .ref q_row, .int v_made, .ref q_cell, .int v_deep, .ref q_way, .ref q_turn, .int v_at, .int v_bad, .ref q_used])), (q_record, .inl (cI, 700, .inl v_record))] sz o_r) 0 0 (va_A [(q_this, .inr (8, [.ref q_now, .ref q_disk, .ref q_before, .int v_onDisk, .int v_head, .int v_headPages, .int v_records, .ref q_recordPage, .ref q_recordBytes, .int v_up, .int v_armed, .int v_columns, .ref q_isBlob, .ref q_integer, .ref q_size, .ref q_blobs, .int v_length, .ref q_record, .int v_kind, .int v_cells, .int v_last, .ref q_cellLength, .ref q_row, .int v_made, .ref q_cell, .int v_deep, .ref q_way, .ref q_turn, .int v_at, .int v_bad, .ref q_used])), (q_record, .inl (cI, 700, .inl v_record))] sz) := by
  refine pu_mtl [.ref q_this, .int x_1, .int x_2] [(q_this, .inr (8, [.ref q_now, .ref q_disk, .ref q_before, .int v_onDisk, .int v_head, .int v_headPages, .int v_records, .ref q_recordPage, .ref q_recordBytes, .int v_up, .int v_armed, .int v_columns, .ref q_isBlob, .ref q_integer, .ref q_size, .ref q_blobs, .int v_length, .ref q_record, .int v_kind, .int v_cells, .int v_last, .ref q_cellLength, .ref q_row, .int v_made, .ref q_cell, .int v_deep, .ref q_way, .ref q_turn, .int v_at, .int v_bad, .ref q_used])), (q_record, .inl (cI, 700, .inl v_record))] [(q_this, .inr (8, [.ref q_now, .ref q_disk, .ref q_before, .int v_onDisk, .int v_head, .int v_headPages, .int v_records, .ref q_recordPage, .ref q_recordBytes, .int v_up, .int v_armed, .int v_columns, .ref q_isBlob, .ref q_integer, .ref q_size, .ref q_blobs, .int v_length, .ref q_record, .int v_kind, .int v_cells, .int v_last, .ref q_cellLength, .ref q_row, .int v_made, .ref q_cell, .int v_deep, .ref q_way, .ref q_turn, .int v_at, .int v_bad, .ref q_used])), (q_record, .inl (cI, 700, .inl v_record))] o_r (by decide) (Nat.le_of_ble_eq_true rfl) ?_
  intro p e s m args below meth c A Q ls hx hb hml hts hN hown hK hA hP hD hl hret0
  have hS : va_S A s.heap s.heap [] := va_S.rf
  have hl : lv_has ls 6 [(0, .ref q_this), (1, .int x_1), (2, .int x_2)] := hl
  have hret : ∀ (pc : Nat) (ls : Array Slot) (H : Heap) (locs : List Loc) (y_0 : Int64), decode b_MD_valueAt pc = .ok (.lreturn, 1) → va_P D pu_cl [(q_this, .inr (8, [.ref q_now, .ref q_disk, .ref q_before, .int v_onDisk, .int v_head, .int v_headPages, .int v_records, .ref q_recordPage, .ref q_recordBytes, .int v_up, .int v_armed, .int v_columns, .ref q_isBlob, .ref q_integer, .ref q_size, .ref q_blobs, .int v_length, .ref q_record, .int v_kind, .int v_cells, .int v_last, .ref q_cellLength, .ref q_row, .int v_made, .ref q_cell, .int v_deep, .ref q_way, .ref q_turn, .int v_at, .int v_bad, .ref q_used])), (q_record, .inl (cI, 700, .inl v_record))] H → va_D A [(q_this, .inr (8, [.ref q_now, .ref q_disk, .ref q_before, .int v_onDisk, .int v_head, .int v_headPages, .int v_records, .ref q_recordPage, .ref q_recordBytes, .int v_up, .int v_armed, .int v_columns, .ref q_isBlob, .ref q_integer, .ref q_size, .ref q_blobs, .int v_length, .ref q_record, .int v_kind, .int v_cells, .int v_last, .ref q_cellLength, .ref q_row, .int v_made, .ref q_cell, .int v_deep, .ref q_way, .ref q_turn, .int v_at, .int v_bad, .ref q_used])), (q_record, .inl (cI, 700, .inl v_record))] → va_S A s.heap H locs → some y_0 = some o_r → W p l e rm_MD_valueAt s m args below meth c H locs 0 0 Q (F0 m pc ls [.long y_0]) := by
    intro pc ls H locs y_0 hd hP hD hS hf
    cases hf
    exact hret0 pc ls H locs hd hP hD hS
  clear hret0
  unfold f_MD_valueAt at hf
  skip
  have lp_26 : ∀ (x_1 : Int32) (x_2 : Int32) (n26 : Nat) (x_3 : Int64) (x_5 : Int32) (H : Heap) (locs : List Loc) (ls : Array Slot), va_P D pu_cl [(q_this, .inr (8, [.ref q_now, .ref q_disk, .ref q_before, .int v_onDisk, .int v_head, .int v_headPages, .int v_records, .ref q_recordPage, .ref q_recordBytes, .int v_up, .int v_armed, .int v_columns, .ref q_isBlob, .ref q_integer, .ref q_size, .ref q_blobs, .int v_length, .ref q_record, .int v_kind, .int v_cells, .int v_last, .ref q_cellLength, .ref q_row, .int v_made, .ref q_cell, .int v_deep, .ref q_way, .ref q_turn, .int v_at, .int v_bad, .ref q_used])), (q_record, .inl (cI, 700, .inl v_record))] H → va_D A [(q_this, .inr (8, [.ref q_now, .ref q_disk, .ref q_before, .int v_onDisk, .int v_head, .int v_headPages, .int v_records, .ref q_recordPage, .ref q_recordBytes, .int v_up, .int v_armed, .int v_columns, .ref q_isBlob, .ref q_integer, .ref q_size, .ref q_blobs, .int v_length, .ref q_record, .int v_kind, .int v_cells, .int v_last, .ref q_cellLength, .ref q_row, .int v_made, .ref q_cell, .int v_deep, .ref q_way, .ref q_turn, .int v_at, .int v_bad, .ref q_used])), (q_record, .inl (cI, 700, .inl v_record))] → va_S A s.heap H locs → lv_has ls 6 [(0, .ref q_this), (1, .int x_1), (2, .int x_2), (3, .long x_3), (5, .int x_5)] → q_MD_valueAt_26 v_record x_1 x_2 n26 x_3 x_5 = some o_r → W p l e rm_MD_valueAt s m args below meth c H locs 0 0 Q (F0 m 26 ls []) := by
    intro x_1 x_2 n26
    induction n26 with
    | zero =>
      intro x_3 x_5 H locs ls hP hD hS hl hf
      rw [q_MD_valueAt_26] at hf
      cases hf
    | succ n26 ih_26 =>
      intro x_3 x_5 H locs ls hP hD hS hl hf
      rw [q_MD_valueAt_26] at hf
      refine lv_iload hx hb d_MD_valueAt_26 (lv_at hl 4 rfl) ?_
      refine lv_iload_n hx hb d_MD_valueAt_28 rfl (lv_at hl 2 rfl) ?_
      refine lv_icmp_ge (tgt := 54) hx hb d_MD_valueAt_29 rfl (fun hc => ?_) (fun hc => ?_)
      · have hf := pu_br_pos hf hc
        refine lv_lload_n hx hb d_MD_valueAt_54 rfl (lv_at hl 3 rfl) ?_
        exact hret _ _ _ _ x_3  d_MD_valueAt_55 hP hD hS hf
      have hf := pu_br_neg hf hc
      refine lv_lload_n hx hb d_MD_valueAt_32 rfl (lv_at hl 3 rfl) ?_
      refine lv_bipush (v := 8) hx hb d_MD_valueAt_33 rfl ?_
      refine lv_lshl hx hb d_MD_valueAt_35 rfl ?_
      refine lv_aload_n hx hb d_MD_valueAt_36 rfl (lv_at hl 0 rfl) ?_
      refine gf_MD_50 (v := .ref q_record) hx hb hts hN hown hK hP 0 rfl rfl d_MD_valueAt_37 ?_
      refine lv_iload_n hx hb d_MD_valueAt_40 rfl (lv_at hl 1 rfl) ?_
      refine lv_iload hx hb d_MD_valueAt_41 (lv_at hl 4 rfl) ?_
      refine lv_iadd hx hb d_MD_valueAt_43 ?_
      obtain ⟨hin, hf⟩ := pu_ck_some hf
      refine va_iald hx hb hK hP 1 0 rfl rfl hin d_MD_valueAt_44 ?_
      refine lv_i2l hx hb d_MD_valueAt_45 rfl ?_
      refine lv_lor hx hb d_MD_valueAt_46 ?_
      obtain ⟨t1, e_t1, hf⟩ := pu_nm_some hf
      refine pu_tl e_t1 ?_
      refine lv_lstore_n hx hb d_MD_valueAt_47 rfl hl (by decide) rfl (fun ls hl => ?_)
      have hl : lv_has ls 6 [(3, .long t1), (0, .ref q_this), (1, .int x_1), (2, .int x_2), (5, .int x_5)] := hl
      obtain ⟨t2, e_t2, hf⟩ := pu_nm_some hf
      refine lv_iinc (k := 4) (v := t2) hx hb d_MD_valueAt_48 hl rfl e_t2.symm (by decide) rfl (fun ls hl => ?_)
      have hl : lv_has ls 6 [(5, .int t2), (3, .long t1), (0, .ref q_this), (1, .int x_1), (2, .int x_2)] := hl
      refine lv_goto (tgt := 26) hx hb d_MD_valueAt_51 rfl ?_
      exact ih_26 t1 t2 H locs ls hP hD hS (lv_sub hl [2, 3, 4, 1, 0] rfl) hf
  have lb_22 : ∀ (x_1 : Int32) (x_2 : Int32) (s_0 : Int64) (H : Heap) (locs : List Loc) (ls : Array Slot), va_P D pu_cl [(q_this, .inr (8, [.ref q_now, .ref q_disk, .ref q_before, .int v_onDisk, .int v_head, .int v_headPages, .int v_records, .ref q_recordPage, .ref q_recordBytes, .int v_up, .int v_armed, .int v_columns, .ref q_isBlob, .ref q_integer, .ref q_size, .ref q_blobs, .int v_length, .ref q_record, .int v_kind, .int v_cells, .int v_last, .ref q_cellLength, .ref q_row, .int v_made, .ref q_cell, .int v_deep, .ref q_way, .ref q_turn, .int v_at, .int v_bad, .ref q_used])), (q_record, .inl (cI, 700, .inl v_record))] H → va_D A [(q_this, .inr (8, [.ref q_now, .ref q_disk, .ref q_before, .int v_onDisk, .int v_head, .int v_headPages, .int v_records, .ref q_recordPage, .ref q_recordBytes, .int v_up, .int v_armed, .int v_columns, .ref q_isBlob, .ref q_integer, .ref q_size, .ref q_blobs, .int v_length, .ref q_record, .int v_kind, .int v_cells, .int v_last, .ref q_cellLength, .ref q_row, .int v_made, .ref q_cell, .int v_deep, .ref q_way, .ref q_turn, .int v_at, .int v_bad, .ref q_used])), (q_record, .inl (cI, 700, .inl v_record))] → va_S A s.heap H locs → lv_has ls 6 [(0, .ref q_this), (1, .int x_1), (2, .int x_2)] → q_MD_valueAt_22 v_record x_1 x_2 s_0 = some o_r → W p l e rm_MD_valueAt s m args below meth c H locs 0 0 Q (F0 m 22 ls [.long s_0]) := by
    intro x_1 x_2 s_0 H locs ls hP hD hS hl hf
    rw [q_MD_valueAt_22] at hf
    refine lv_lstore_n hx hb d_MD_valueAt_22 rfl hl (by decide) rfl (fun ls hl => ?_)
    have hl : lv_has ls 6 [(3, .long s_0), (0, .ref q_this), (1, .int x_1), (2, .int x_2)] := hl
    refine lv_iconst (v := 0) hx hb d_MD_valueAt_23 rfl ?_
    refine lv_istore hx hb d_MD_valueAt_24 hl (by decide) rfl (fun ls hl => ?_)
    have hl : lv_has ls 6 [(5, .int (0 : Int32)), (3, .long s_0), (0, .ref q_this), (1, .int x_1), (2, .int x_2)] := hl
    exact lp_26 x_1 x_2 _ s_0 (0 : Int32) H locs ls hP hD hS (lv_sub hl [2, 3, 4, 1, 0] rfl) hf
  have lb_21 : ∀ (x_1 : Int32) (x_2 : Int32) (H : Heap) (locs : List Loc) (ls : Array Slot), va_P D pu_cl [(q_this, .inr (8, [.ref q_now, .ref q_disk, .ref q_before, .int v_onDisk, .int v_head, .int v_headPages, .int v_records, .ref q_recordPage, .ref q_recordBytes, .int v_up, .int v_armed, .int v_columns, .ref q_isBlob, .ref q_integer, .ref q_size, .ref q_blobs, .int v_length, .ref q_record, .int v_kind, .int v_cells, .int v_last, .ref q_cellLength, .ref q_row, .int v_made, .ref q_cell, .int v_deep, .ref q_way, .ref q_turn, .int v_at, .int v_bad, .ref q_used])), (q_record, .inl (cI, 700, .inl v_record))] H → va_D A [(q_this, .inr (8, [.ref q_now, .ref q_disk, .ref q_before, .int v_onDisk, .int v_head, .int v_headPages, .int v_records, .ref q_recordPage, .ref q_recordBytes, .int v_up, .int v_armed, .int v_columns, .ref q_isBlob, .ref q_integer, .ref q_size, .ref q_blobs, .int v_length, .ref q_record, .int v_kind, .int v_cells, .int v_last, .ref q_cellLength, .ref q_row, .int v_made, .ref q_cell, .int v_deep, .ref q_way, .ref q_turn, .int v_at, .int v_bad, .ref q_used])), (q_record, .inl (cI, 700, .inl v_record))] → va_S A s.heap H locs → lv_has ls 6 [(0, .ref q_this), (1, .int x_1), (2, .int x_2)] → q_MD_valueAt_21 v_record x_1 x_2 = some o_r → W p l e rm_MD_valueAt s m args below meth c H locs 0 0 Q (F0 m 21 ls []) := by
    intro x_1 x_2 H locs ls hP hD hS hl hf
    rw [q_MD_valueAt_21] at hf
    refine lv_lconst (v := 0) hx hb d_MD_valueAt_21 rfl ?_
    exact lb_22 x_1 x_2 (0 : Int64) H locs ls hP hD hS (lv_sub hl [0, 1, 2] rfl) hf
  obtain ⟨H, hH⟩ : ∃ H, H = s.heap := ⟨_, rfl⟩
  obtain ⟨locs, hlocs⟩ : ∃ locs : List Loc, locs = [] := ⟨_, rfl⟩
  have hP : va_P D pu_cl [(q_this, .inr (8, [.ref q_now, .ref q_disk, .ref q_before, .int v_onDisk, .int v_head, .int v_headPages, .int v_records, .ref q_recordPage, .ref q_recordBytes, .int v_up, .int v_armed, .int v_columns, .ref q_isBlob, .ref q_integer, .ref q_size, .ref q_blobs, .int v_length, .ref q_record, .int v_kind, .int v_cells, .int v_last, .ref q_cellLength, .ref q_row, .int v_made, .ref q_cell, .int v_deep, .ref q_way, .ref q_turn, .int v_at, .int v_bad, .ref q_used])), (q_record, .inl (cI, 700, .inl v_record))] H := by rw [hH]; exact hP
  have hS : va_S A s.heap H locs := by rw [hH, hlocs]; exact hS
  have goal : W p l e rm_MD_valueAt s m args below meth c H locs 0 0 Q (F0 m 0 ls []) := by
    clear hH hlocs
    refine lv_iload_n hx hb d_MD_valueAt_0 rfl (lv_at hl 2 rfl) ?_
    refine lv_if_le (tgt := 21) hx hb d_MD_valueAt_1 rfl (fun hc => ?_) (fun hc => ?_)
    · have hf := pu_br_pos hf hc
      exact lb_21 x_1 x_2 H locs ls hP hD hS (lv_sub hl [0, 1, 2] rfl) hf
    have hf := pu_br_neg hf hc
    refine lv_aload_n hx hb d_MD_valueAt_4 rfl (lv_at hl 0 rfl) ?_
    refine gf_MD_50 (v := .ref q_record) hx hb hts hN hown hK hP 0 rfl rfl d_MD_valueAt_5 ?_
    refine lv_iload_n hx hb d_MD_valueAt_8 rfl (lv_at hl 1 rfl) ?_
    obtain ⟨hin, hf⟩ := pu_ck_some hf
    refine va_iald hx hb hK hP 1 0 rfl rfl hin d_MD_valueAt_9 ?_
    refine lv_bipush (v := 127) hx hb d_MD_valueAt_10 rfl ?_
    refine lv_icmp_le (tgt := 21) hx hb d_MD_valueAt_12 rfl (fun hc => ?_) (fun hc => ?_)
    · have hf := pu_br_pos hf hc
      exact lb_21 x_1 x_2 H locs ls hP hD hS (lv_sub hl [0, 1, 2] rfl) hf
    have hf := pu_br_neg hf hc
    refine lv_ldc2 (v := -1) hx hb hown (hts _ (pu_in13 _ (List.mem_of_getElem? (i := 5) rfl))) d_MD_valueAt_15 ?_
    refine lv_goto (tgt := 22) hx hb d_MD_valueAt_18 rfl ?_
    exact lb_22 x_1 x_2 (-1 : Int64) H locs ls hP hD hS (lv_sub hl [0, 1, 2] rfl) hf
  rw [hH, hlocs] at goal
  exact goal
theorem d_MD_wellValue_0 : decode b_MD_wellValue 0 = .ok (.iload_n 2, 1) := by decide +kernel
theorem d_MD_wellValue_1 : decode b_MD_wellValue 1 = .ok (.iload_n 1, 1) := by decide +kernel
theorem d_MD_wellValue_2 : decode b_MD_wellValue 2 = .ok (.invokestatic 102, 3) := by decide +kernel
theorem d_MD_wellValue_5 : decode b_MD_wellValue 5 = .ok (.iadd, 1) := by decide +kernel
theorem d_MD_wellValue_6 : decode b_MD_wellValue 6 = .ok (.aload_n 0, 1) := by decide +kernel
theorem d_MD_wellValue_7 : decode b_MD_wellValue 7 = .ok (.getfield 91, 3) := by decide +kernel
theorem d_MD_wellValue_10 : decode b_MD_wellValue 10 = .ok (.if_icmp .le 5, 3) := by decide +kernel
theorem d_MD_wellValue_13 : decode b_MD_wellValue 13 = .ok (.iconst 0, 1) := by decide +kernel
theorem d_MD_wellValue_14 : decode b_MD_wellValue 14 = .ok (.ireturn, 1) := by decide +kernel
theorem d_MD_wellValue_15 : decode b_MD_wellValue 15 = .ok (.iload_n 1, 1) := by decide +kernel
theorem d_MD_wellValue_16 : decode b_MD_wellValue 16 = .ok (.bipush 11, 2) := by decide +kernel
theorem d_MD_wellValue_18 : decode b_MD_wellValue 18 = .ok (.if_icmp .le 22, 3) := by decide +kernel
theorem d_MD_wellValue_21 : decode b_MD_wellValue 21 = .ok (.iload_n 1, 1) := by decide +kernel
theorem d_MD_wellValue_22 : decode b_MD_wellValue 22 = .ok (.iconst 2, 1) := by decide +kernel
theorem d_MD_wellValue_23 : decode b_MD_wellValue 23 = .ok (.irem, 1) := by decide +kernel
theorem d_MD_wellValue_24 : decode b_MD_wellValue 24 = .ok (.ifCond .ne 14, 3) := by decide +kernel
theorem d_MD_wellValue_27 : decode b_MD_wellValue 27 = .ok (.iload_n 1, 1) := by decide +kernel
theorem d_MD_wellValue_28 : decode b_MD_wellValue 28 = .ok (.sipush 212, 3) := by decide +kernel
theorem d_MD_wellValue_31 : decode b_MD_wellValue 31 = .ok (.if_icmp .gt 7, 3) := by decide +kernel
theorem d_MD_wellValue_34 : decode b_MD_wellValue 34 = .ok (.iconst 1, 1) := by decide +kernel
theorem d_MD_wellValue_35 : decode b_MD_wellValue 35 = .ok (.goto 4, 3) := by decide +kernel
theorem d_MD_wellValue_38 : decode b_MD_wellValue 38 = .ok (.iconst 0, 1) := by decide +kernel
theorem d_MD_wellValue_39 : decode b_MD_wellValue 39 = .ok (.ireturn, 1) := by decide +kernel
theorem d_MD_wellValue_40 : decode b_MD_wellValue 40 = .ok (.iload_n 1, 1) := by decide +kernel
theorem d_MD_wellValue_41 : decode b_MD_wellValue 41 = .ok (.bipush 7, 2) := by decide +kernel
theorem d_MD_wellValue_43 : decode b_MD_wellValue 43 = .ok (.if_icmp .le 9, 3) := by decide +kernel
theorem d_MD_wellValue_46 : decode b_MD_wellValue 46 = .ok (.iload_n 1, 1) := by decide +kernel
theorem d_MD_wellValue_47 : decode b_MD_wellValue 47 = .ok (.bipush 10, 2) := by decide +kernel
theorem d_MD_wellValue_49 : decode b_MD_wellValue 49 = .ok (.if_icmp .lt 40, 3) := by decide +kernel
theorem d_MD_wellValue_52 : decode b_MD_wellValue 52 = .ok (.iload_n 1, 1) := by decide +kernel
theorem d_MD_wellValue_53 : decode b_MD_wellValue 53 = .ok (.iconst 1, 1) := by decide +kernel
theorem d_MD_wellValue_54 : decode b_MD_wellValue 54 = .ok (.if_icmp .eq 19, 3) := by decide +kernel
theorem d_MD_wellValue_57 : decode b_MD_wellValue 57 = .ok (.iload_n 1, 1) := by decide +kernel
theorem d_MD_wellValue_58 : decode b_MD_wellValue 58 = .ok (.iconst 2, 1) := by decide +kernel
theorem d_MD_wellValue_59 : decode b_MD_wellValue 59 = .ok (.if_icmp .eq 14, 3) := by decide +kernel
theorem d_MD_wellValue_62 : decode b_MD_wellValue 62 = .ok (.iload_n 1, 1) := by decide +kernel
theorem d_MD_wellValue_63 : decode b_MD_wellValue 63 = .ok (.iconst 4, 1) := by decide +kernel
theorem d_MD_wellValue_64 : decode b_MD_wellValue 64 = .ok (.if_icmp .eq 9, 3) := by decide +kernel
theorem d_MD_wellValue_67 : decode b_MD_wellValue 67 = .ok (.iload_n 1, 1) := by decide +kernel
theorem d_MD_wellValue_68 : decode b_MD_wellValue 68 = .ok (.bipush 6, 2) := by decide +kernel
theorem d_MD_wellValue_70 : decode b_MD_wellValue 70 = .ok (.if_icmp .ne 23, 3) := by decide +kernel
theorem d_MD_wellValue_73 : decode b_MD_wellValue 73 = .ok (.aload_n 0, 1) := by decide +kernel
theorem d_MD_wellValue_74 : decode b_MD_wellValue 74 = .ok (.iload_n 2, 1) := by decide +kernel
theorem d_MD_wellValue_75 : decode b_MD_wellValue 75 = .ok (.iload_n 1, 1) := by decide +kernel
theorem d_MD_wellValue_76 : decode b_MD_wellValue 76 = .ok (.invokestatic 102, 3) := by decide +kernel
theorem d_MD_wellValue_79 : decode b_MD_wellValue 79 = .ok (.invokevirtual 260, 3) := by decide +kernel
theorem d_MD_wellValue_82 : decode b_MD_wellValue 82 = .ok (.invokestatic 94, 3) := by decide +kernel
theorem d_MD_wellValue_85 : decode b_MD_wellValue 85 = .ok (.iload_n 1, 1) := by decide +kernel
theorem d_MD_wellValue_86 : decode b_MD_wellValue 86 = .ok (.if_icmp .ne 7, 3) := by decide +kernel
theorem d_MD_wellValue_89 : decode b_MD_wellValue 89 = .ok (.iconst 1, 1) := by decide +kernel
theorem d_MD_wellValue_90 : decode b_MD_wellValue 90 = .ok (.goto 4, 3) := by decide +kernel
theorem d_MD_wellValue_93 : decode b_MD_wellValue 93 = .ok (.iconst 0, 1) := by decide +kernel
theorem d_MD_wellValue_94 : decode b_MD_wellValue 94 = .ok (.ireturn, 1) := by decide +kernel
noncomputable def q_MD_wellValue_73 (v_length : Int32) (v_record : Nat → Int32) (x_1 : Int32) (x_2 : Int32) : Option (Int32) :=
  pu_b1 (f_MD_bytesOf x_1) (fun r2 => pu_b1 (f_MD_valueAt v_record x_2 r2) (fun r3 => pu_b1 (f_MD_codeOf r3) (fun r4 => pu_br (r4 = x_1) (some (1 : Int32)) (some (0 : Int32)))))
noncomputable def q_MD_wellValue_52 (v_length : Int32) (v_record : Nat → Int32) (x_1 : Int32) (x_2 : Int32) : Option (Int32) :=
  pu_br (x_1 = (1 : Int32)) (q_MD_wellValue_73 v_length v_record x_1 x_2) (pu_br (x_1 = (2 : Int32)) (q_MD_wellValue_73 v_length v_record x_1 x_2) (pu_br (x_1 = (4 : Int32)) (q_MD_wellValue_73 v_length v_record x_1 x_2) (pu_br (x_1 = (6 : Int32)) (q_MD_wellValue_73 v_length v_record x_1 x_2) (some (0 : Int32)))))
noncomputable def f_MD_wellValue (v_length : Int32) (v_record : Nat → Int32) (x_1 : Int32) (x_2 : Int32) : Option (Int32) :=
  pu_b1 (f_MD_bytesOf x_1) (fun r1 => pu_br ((x_2 + r1) ≤ v_length) (pu_br (x_1 ≤ (11 : Int32)) (pu_br (x_1 ≤ (7 : Int32)) (q_MD_wellValue_52 v_length v_record x_1 x_2) (pu_br (x_1 < (10 : Int32)) (some (1 : Int32)) (q_MD_wellValue_52 v_length v_record x_1 x_2))) (pu_br ((x_1 - x_1 / (2 : Int32) * (2 : Int32)) = 0) (pu_br ((212 : Int32) < x_1) (some (0 : Int32)) (some (1 : Int32))) (some (0 : Int32)))) (some (0 : Int32)))
abbrev rm_MD_wellValue : Room := { frames := 1, cells := 0, slots := 0, locals := 25 }
set_option maxHeartbeats 8000000 in
set_option maxRecDepth 100000 in
theorem c_MD_wellValue (l : Launch) (D : va_G) (cI cJ cB cZ : ClassId) (sz : Nat) (q_this : Nat) (q_now : Nat) (q_disk : Nat) (q_before : Nat) (q_recordPage : Nat) (q_recordBytes : Nat) (q_isBlob : Nat) (q_integer : Nat) (q_size : Nat) (q_blobs : Nat) (q_record : Nat) (q_cellLength : Nat) (q_row : Nat) (q_cell : Nat) (q_way : Nat) (q_turn : Nat) (q_used : Nat) (v_onDisk : Int32) (v_head : Int32) (v_headPages : Int32) (v_records : Int32) (v_up : Int32) (v_armed : Int32) (v_columns : Int32) (v_length : Int32) (v_kind : Int32) (v_cells : Int32) (v_last : Int32) (v_made : Int32) (v_deep : Int32) (v_at : Int32) (v_bad : Int32) (v_record : Nat → Int32) (x_1 : Int32) (x_2 : Int32) (o_r : Int32) (hf : f_MD_wellValue v_length v_record x_1 x_2 = some o_r) : Met l y_MD_wellValue (.code y_MD_wellValue b_MD_wellValue 3 (some .boolean) :: pu_wA) rm_MD_wellValue (pu_pc D pu_cl (pu_ty cI cJ cB cZ) [.ref q_this, .int x_1, .int x_2] [(q_this, .inr (8, [.ref q_now, .ref q_disk, .ref q_before, .int v_onDisk, .int v_head, .int v_headPages, .int v_records, .ref q_recordPage, .ref q_recordBytes, .int v_up, .int v_armed, .int v_columns, .ref q_isBlob, .ref q_integer, .ref q_size, .ref q_blobs, .int v_length, .ref q_record, .int v_kind, .int v_cells, .int v_last, .ref q_cellLength, .ref q_row, .int v_made, .ref q_cell, .int v_deep, .ref q_way, .ref q_turn, .int v_at, .int v_bad, .ref q_used])), (q_record, .inl (cI, 700, .inl v_record))] sz) (pu_qi D pu_cl (pu_ty cI cJ cB cZ) [(q_this, .inr (8, [.ref q_now, .ref q_disk, .ref q_before, .int v_onDisk, .int v_head, .int v_headPages, .int v_records, .ref q_recordPage, .ref q_recordBytes, .int v_up, .int v_armed, .int v_columns, .ref q_isBlob, .ref q_integer, .ref q_size, .ref q_blobs, .int v_length, .ref q_record, .int v_kind, .int v_cells, .int v_last, .ref q_cellLength, .ref q_row, .int v_made, .ref q_cell, .int v_deep, .ref q_way, .ref q_turn, .int v_at, .int v_bad, .ref q_used])), (q_record, .inl (cI, 700, .inl v_record))] [(q_this, .inr (8, [.ref q_now, .ref q_disk, .ref q_before, .int v_onDisk, .int v_head, .int v_headPages, .int v_records, .ref q_recordPage, .ref q_recordBytes, .int v_up, .int v_armed, .int v_columns, .ref q_isBlob, .ref q_integer, .ref q_size, .ref q_blobs, .int v_length, .ref q_record, .int v_kind, .int v_cells, .int v_last, .ref q_cellLength, .ref q_row, .int v_made, .ref q_cell, .int v_deep, .ref q_way, .ref q_turn, .int v_at, .int v_bad, .ref q_used])), (q_record, .inl (cI, 700, .inl v_record))] sz o_r) 0 0 (va_A [(q_this, .inr (8, [.ref q_now, .ref q_disk, .ref q_before, .int v_onDisk, .int v_head, .int v_headPages, .int v_records, .ref q_recordPage, .ref q_recordBytes, .int v_up, .int v_armed, .int v_columns, .ref q_isBlob, .ref q_integer, .ref q_size, .ref q_blobs, .int v_length, .ref q_record, .int v_kind, .int v_cells, .int v_last, .ref q_cellLength, .ref q_row, .int v_made, .ref q_cell, .int v_deep, .ref q_way, .ref q_turn, .int v_at, .int v_bad, .ref q_used])), (q_record, .inl (cI, 700, .inl v_record))] sz) := by
  refine pu_mtz [.ref q_this, .int x_1, .int x_2] [(q_this, .inr (8, [.ref q_now, .ref q_disk, .ref q_before, .int v_onDisk, .int v_head, .int v_headPages, .int v_records, .ref q_recordPage, .ref q_recordBytes, .int v_up, .int v_armed, .int v_columns, .ref q_isBlob, .ref q_integer, .ref q_size, .ref q_blobs, .int v_length, .ref q_record, .int v_kind, .int v_cells, .int v_last, .ref q_cellLength, .ref q_row, .int v_made, .ref q_cell, .int v_deep, .ref q_way, .ref q_turn, .int v_at, .int v_bad, .ref q_used])), (q_record, .inl (cI, 700, .inl v_record))] [(q_this, .inr (8, [.ref q_now, .ref q_disk, .ref q_before, .int v_onDisk, .int v_head, .int v_headPages, .int v_records, .ref q_recordPage, .ref q_recordBytes, .int v_up, .int v_armed, .int v_columns, .ref q_isBlob, .ref q_integer, .ref q_size, .ref q_blobs, .int v_length, .ref q_record, .int v_kind, .int v_cells, .int v_last, .ref q_cellLength, .ref q_row, .int v_made, .ref q_cell, .int v_deep, .ref q_way, .ref q_turn, .int v_at, .int v_bad, .ref q_used])), (q_record, .inl (cI, 700, .inl v_record))] o_r (by decide) (Nat.le_of_ble_eq_true rfl) ?_
  intro p e s m args below meth c A Q ls hx hb hml hts hN hown hK hA hP hD hl hret0
  have hS : va_S A s.heap s.heap [] := va_S.rf
  have hl : lv_has ls 3 [(0, .ref q_this), (1, .int x_1), (2, .int x_2)] := hl
  have hret : ∀ (pc : Nat) (ls : Array Slot) (H : Heap) (locs : List Loc) (y_0 : Int32), decode b_MD_wellValue pc = .ok (.ireturn, 1) → narrow .boolean (.int y_0) = .int y_0 → va_P D pu_cl [(q_this, .inr (8, [.ref q_now, .ref q_disk, .ref q_before, .int v_onDisk, .int v_head, .int v_headPages, .int v_records, .ref q_recordPage, .ref q_recordBytes, .int v_up, .int v_armed, .int v_columns, .ref q_isBlob, .ref q_integer, .ref q_size, .ref q_blobs, .int v_length, .ref q_record, .int v_kind, .int v_cells, .int v_last, .ref q_cellLength, .ref q_row, .int v_made, .ref q_cell, .int v_deep, .ref q_way, .ref q_turn, .int v_at, .int v_bad, .ref q_used])), (q_record, .inl (cI, 700, .inl v_record))] H → va_D A [(q_this, .inr (8, [.ref q_now, .ref q_disk, .ref q_before, .int v_onDisk, .int v_head, .int v_headPages, .int v_records, .ref q_recordPage, .ref q_recordBytes, .int v_up, .int v_armed, .int v_columns, .ref q_isBlob, .ref q_integer, .ref q_size, .ref q_blobs, .int v_length, .ref q_record, .int v_kind, .int v_cells, .int v_last, .ref q_cellLength, .ref q_row, .int v_made, .ref q_cell, .int v_deep, .ref q_way, .ref q_turn, .int v_at, .int v_bad, .ref q_used])), (q_record, .inl (cI, 700, .inl v_record))] → va_S A s.heap H locs → some y_0 = some o_r → W p l e rm_MD_wellValue s m args below meth c H locs 0 0 Q (F0 m pc ls [.int y_0]) := by
    intro pc ls H locs y_0 hd hz hP hD hS hf
    cases hf
    exact hret0 pc ls H locs hd hz hP hD hS
  clear hret0
  unfold f_MD_wellValue at hf
  skip
  have lb_73 : ∀ (x_1 : Int32) (x_2 : Int32) (H : Heap) (locs : List Loc) (ls : Array Slot), va_P D pu_cl [(q_this, .inr (8, [.ref q_now, .ref q_disk, .ref q_before, .int v_onDisk, .int v_head, .int v_headPages, .int v_records, .ref q_recordPage, .ref q_recordBytes, .int v_up, .int v_armed, .int v_columns, .ref q_isBlob, .ref q_integer, .ref q_size, .ref q_blobs, .int v_length, .ref q_record, .int v_kind, .int v_cells, .int v_last, .ref q_cellLength, .ref q_row, .int v_made, .ref q_cell, .int v_deep, .ref q_way, .ref q_turn, .int v_at, .int v_bad, .ref q_used])), (q_record, .inl (cI, 700, .inl v_record))] H → va_D A [(q_this, .inr (8, [.ref q_now, .ref q_disk, .ref q_before, .int v_onDisk, .int v_head, .int v_headPages, .int v_records, .ref q_recordPage, .ref q_recordBytes, .int v_up, .int v_armed, .int v_columns, .ref q_isBlob, .ref q_integer, .ref q_size, .ref q_blobs, .int v_length, .ref q_record, .int v_kind, .int v_cells, .int v_last, .ref q_cellLength, .ref q_row, .int v_made, .ref q_cell, .int v_deep, .ref q_way, .ref q_turn, .int v_at, .int v_bad, .ref q_used])), (q_record, .inl (cI, 700, .inl v_record))] → va_S A s.heap H locs → lv_has ls 3 [(0, .ref q_this), (1, .int x_1), (2, .int x_2)] → q_MD_wellValue_73 v_length v_record x_1 x_2 = some o_r → W p l e rm_MD_wellValue s m args below meth c H locs 0 0 Q (F0 m 73 ls []) := by
    intro x_1 x_2 H locs ls hP hD hS hl hf
    rw [q_MD_wellValue_73] at hf
    refine lv_aload_n hx hb d_MD_wellValue_73 rfl (lv_at hl 0 rfl) ?_
    refine lv_iload_n hx hb d_MD_wellValue_74 rfl (lv_at hl 2 rfl) ?_
    refine lv_iload_n hx hb d_MD_wellValue_75 rfl (lv_at hl 1 rfl) ?_
    obtain ⟨r2, hc, hf⟩ := pu_b1_some hf
    refine cl_i (WC := []) (WC2 := []) (WR := [(q_this, .inr (8, [.ref q_now, .ref q_disk, .ref q_before, .int v_onDisk, .int v_head, .int v_headPages, .int v_records, .ref q_recordPage, .ref q_recordBytes, .int v_up, .int v_armed, .int v_columns, .ref q_isBlob, .ref q_integer, .ref q_size, .ref q_blobs, .int v_length, .ref q_record, .int v_kind, .int v_cells, .int v_last, .ref q_cellLength, .ref q_row, .int v_made, .ref q_cell, .int v_deep, .ref q_way, .ref q_turn, .int v_at, .int v_bad, .ref q_used])), (q_record, .inl (cI, 700, .inl v_record))]) (WS2 := [(q_this, .inr (8, [.ref q_now, .ref q_disk, .ref q_before, .int v_onDisk, .int v_head, .int v_headPages, .int v_records, .ref q_recordPage, .ref q_recordBytes, .int v_up, .int v_armed, .int v_columns, .ref q_isBlob, .ref q_integer, .ref q_size, .ref q_blobs, .int v_length, .ref q_record, .int v_kind, .int v_cells, .int v_last, .ref q_cellLength, .ref q_row, .int v_made, .ref q_cell, .int v_deep, .ref q_way, .ref q_turn, .int v_at, .int v_bad, .ref q_used])), (q_record, .inl (cI, 700, .inl v_record))]) (pu_rs (pu_in11 _ (List.mem_of_getElem? (i := 17) rfl)) (pu_in11 _ (List.mem_of_getElem? (i := 18) rfl)) (pu_in0 _ (List.mem_of_getElem? (i := 10) rfl)) (pu_in11 _ (List.mem_of_getElem? (i := 19) rfl)) hd_MD_bytesOf (by decide) ⟨rfl, rfl⟩ rfl rfl (Nat.le_of_ble_eq_true rfl) (As := [.int x_1]) (rest := [.int x_2, .ref q_this]) (WC := []) hx hb hml hown hts hN hK hP hD (c_MD_bytesOf l D cI cJ cB cZ H.size x_1 r2 hc) [] rfl rfl hl.1 d_MD_wellValue_76) hP hD hS hA [] [0, 1] [0, 1] rfl rfl rfl (by decide) rfl rfl (fun H locs hP hD hS => ?_)
    obtain ⟨r3, hc, hf⟩ := pu_b1_some hf
    refine cl_l (WC := [(q_this, .inr (8, [.ref q_now, .ref q_disk, .ref q_before, .int v_onDisk, .int v_head, .int v_headPages, .int v_records, .ref q_recordPage, .ref q_recordBytes, .int v_up, .int v_armed, .int v_columns, .ref q_isBlob, .ref q_integer, .ref q_size, .ref q_blobs, .int v_length, .ref q_record, .int v_kind, .int v_cells, .int v_last, .ref q_cellLength, .ref q_row, .int v_made, .ref q_cell, .int v_deep, .ref q_way, .ref q_turn, .int v_at, .int v_bad, .ref q_used])), (q_record, .inl (cI, 700, .inl v_record))]) (WC2 := [(q_this, .inr (8, [.ref q_now, .ref q_disk, .ref q_before, .int v_onDisk, .int v_head, .int v_headPages, .int v_records, .ref q_recordPage, .ref q_recordBytes, .int v_up, .int v_armed, .int v_columns, .ref q_isBlob, .ref q_integer, .ref q_size, .ref q_blobs, .int v_length, .ref q_record, .int v_kind, .int v_cells, .int v_last, .ref q_cellLength, .ref q_row, .int v_made, .ref q_cell, .int v_deep, .ref q_way, .ref q_turn, .int v_at, .int v_bad, .ref q_used])), (q_record, .inl (cI, 700, .inl v_record))]) (WR := []) (WS2 := [(q_this, .inr (8, [.ref q_now, .ref q_disk, .ref q_before, .int v_onDisk, .int v_head, .int v_headPages, .int v_records, .ref q_recordPage, .ref q_recordBytes, .int v_up, .int v_armed, .int v_columns, .ref q_isBlob, .ref q_integer, .ref q_size, .ref q_blobs, .int v_length, .ref q_record, .int v_kind, .int v_cells, .int v_last, .ref q_cellLength, .ref q_row, .int v_made, .ref q_cell, .int v_deep, .ref q_way, .ref q_turn, .int v_at, .int v_bad, .ref q_used])), (q_record, .inl (cI, 700, .inl v_record))]) (pu_rv (cl := pu_cl) (pu_in13 _ (List.mem_of_getElem? (i := 2) rfl)) (pu_in13 _ (List.mem_of_getElem? (i := 3) rfl)) (pu_in14 _ (List.mem_of_getElem? (i := 47) rfl)) (pu_in0 _ (List.mem_of_getElem? (i := 10) rfl)) (pu_in13 _ (List.mem_of_getElem? (i := 4) rfl)) (ci := 8) rfl hd_MD_valueAt (by decide) ⟨rfl, rfl⟩ rfl rfl (Nat.le_of_ble_eq_true rfl) rfl (As := [.int x_2, .int r2]) (rest := []) (WC := [(q_this, .inr (8, [.ref q_now, .ref q_disk, .ref q_before, .int v_onDisk, .int v_head, .int v_headPages, .int v_records, .ref q_recordPage, .ref q_recordBytes, .int v_up, .int v_armed, .int v_columns, .ref q_isBlob, .ref q_integer, .ref q_size, .ref q_blobs, .int v_length, .ref q_record, .int v_kind, .int v_cells, .int v_last, .ref q_cellLength, .ref q_row, .int v_made, .ref q_cell, .int v_deep, .ref q_way, .ref q_turn, .int v_at, .int v_bad, .ref q_used])), (q_record, .inl (cI, 700, .inl v_record))]) hx hb hml hown hts hN hK hP hD (c_MD_valueAt l D cI cJ cB cZ H.size q_this q_now q_disk q_before q_recordPage q_recordBytes q_isBlob q_integer q_size q_blobs q_record q_cellLength q_row q_cell q_way q_turn q_used v_onDisk v_head v_headPages v_records v_up v_armed v_columns v_length v_kind v_cells v_last v_made v_deep v_at v_bad v_record x_2 r2 r3 hc) [0, 1] rfl rfl hl.1 d_MD_wellValue_79) hP hD hS hA [0, 1] [] [0, 1] rfl rfl rfl (by decide) rfl rfl (fun H locs hP hD hS => ?_)
    obtain ⟨r4, hc, hf⟩ := pu_b1_some hf
    refine cl_i (WC := []) (WC2 := []) (WR := [(q_this, .inr (8, [.ref q_now, .ref q_disk, .ref q_before, .int v_onDisk, .int v_head, .int v_headPages, .int v_records, .ref q_recordPage, .ref q_recordBytes, .int v_up, .int v_armed, .int v_columns, .ref q_isBlob, .ref q_integer, .ref q_size, .ref q_blobs, .int v_length, .ref q_record, .int v_kind, .int v_cells, .int v_last, .ref q_cellLength, .ref q_row, .int v_made, .ref q_cell, .int v_deep, .ref q_way, .ref q_turn, .int v_at, .int v_bad, .ref q_used])), (q_record, .inl (cI, 700, .inl v_record))]) (WS2 := [(q_this, .inr (8, [.ref q_now, .ref q_disk, .ref q_before, .int v_onDisk, .int v_head, .int v_headPages, .int v_records, .ref q_recordPage, .ref q_recordBytes, .int v_up, .int v_armed, .int v_columns, .ref q_isBlob, .ref q_integer, .ref q_size, .ref q_blobs, .int v_length, .ref q_record, .int v_kind, .int v_cells, .int v_last, .ref q_cellLength, .ref q_row, .int v_made, .ref q_cell, .int v_deep, .ref q_way, .ref q_turn, .int v_at, .int v_bad, .ref q_used])), (q_record, .inl (cI, 700, .inl v_record))]) (pu_rs (pu_in11 _ (List.mem_of_getElem? (i := 5) rfl)) (pu_in11 _ (List.mem_of_getElem? (i := 6) rfl)) (pu_in0 _ (List.mem_of_getElem? (i := 10) rfl)) (pu_in11 _ (List.mem_of_getElem? (i := 7) rfl)) hd_MD_codeOf (by decide) ⟨rfl, rfl⟩ rfl rfl (Nat.le_of_ble_eq_true rfl) (As := [.long r3]) (rest := []) (WC := []) hx hb hml hown hts hN hK hP hD (c_MD_codeOf l D cI cJ cB cZ H.size r3 r4 hc) [] rfl rfl hl.1 d_MD_wellValue_82) hP hD hS hA [] [0, 1] [0, 1] rfl rfl rfl (by decide) rfl rfl (fun H locs hP hD hS => ?_)
    refine lv_iload_n hx hb d_MD_wellValue_85 rfl (lv_at hl 1 rfl) ?_
    refine lv_icmp_ne (tgt := 93) hx hb d_MD_wellValue_86 rfl (fun hc => ?_) (fun hc => ?_)
    · have hf := pu_br_neg hf hc
      refine lv_iconst (v := 0) hx hb d_MD_wellValue_93 rfl ?_
      exact hret _ _ _ _ (0 : Int32)  d_MD_wellValue_94 (by decide) hP hD hS hf
    have hf := pu_br_pos hf hc
    refine lv_iconst (v := 1) hx hb d_MD_wellValue_89 rfl ?_
    refine lv_goto (tgt := 94) hx hb d_MD_wellValue_90 rfl ?_
    exact hret _ _ _ _ (1 : Int32)  d_MD_wellValue_94 (by decide) hP hD hS hf
  have lb_52 : ∀ (x_1 : Int32) (x_2 : Int32) (H : Heap) (locs : List Loc) (ls : Array Slot), va_P D pu_cl [(q_this, .inr (8, [.ref q_now, .ref q_disk, .ref q_before, .int v_onDisk, .int v_head, .int v_headPages, .int v_records, .ref q_recordPage, .ref q_recordBytes, .int v_up, .int v_armed, .int v_columns, .ref q_isBlob, .ref q_integer, .ref q_size, .ref q_blobs, .int v_length, .ref q_record, .int v_kind, .int v_cells, .int v_last, .ref q_cellLength, .ref q_row, .int v_made, .ref q_cell, .int v_deep, .ref q_way, .ref q_turn, .int v_at, .int v_bad, .ref q_used])), (q_record, .inl (cI, 700, .inl v_record))] H → va_D A [(q_this, .inr (8, [.ref q_now, .ref q_disk, .ref q_before, .int v_onDisk, .int v_head, .int v_headPages, .int v_records, .ref q_recordPage, .ref q_recordBytes, .int v_up, .int v_armed, .int v_columns, .ref q_isBlob, .ref q_integer, .ref q_size, .ref q_blobs, .int v_length, .ref q_record, .int v_kind, .int v_cells, .int v_last, .ref q_cellLength, .ref q_row, .int v_made, .ref q_cell, .int v_deep, .ref q_way, .ref q_turn, .int v_at, .int v_bad, .ref q_used])), (q_record, .inl (cI, 700, .inl v_record))] → va_S A s.heap H locs → lv_has ls 3 [(0, .ref q_this), (1, .int x_1), (2, .int x_2)] → q_MD_wellValue_52 v_length v_record x_1 x_2 = some o_r → W p l e rm_MD_wellValue s m args below meth c H locs 0 0 Q (F0 m 52 ls []) := by
    intro x_1 x_2 H locs ls hP hD hS hl hf
    rw [q_MD_wellValue_52] at hf
    refine lv_iload_n hx hb d_MD_wellValue_52 rfl (lv_at hl 1 rfl) ?_
    refine lv_iconst (v := 1) hx hb d_MD_wellValue_53 rfl ?_
    refine lv_icmp_eq (tgt := 73) hx hb d_MD_wellValue_54 rfl (fun hc => ?_) (fun hc => ?_)
    · have hf := pu_br_pos hf hc
      exact lb_73 x_1 x_2 H locs ls hP hD hS (lv_sub hl [0, 1, 2] rfl) hf
    have hf := pu_br_neg hf hc
    refine lv_iload_n hx hb d_MD_wellValue_57 rfl (lv_at hl 1 rfl) ?_
    refine lv_iconst (v := 2) hx hb d_MD_wellValue_58 rfl ?_
    refine lv_icmp_eq (tgt := 73) hx hb d_MD_wellValue_59 rfl (fun hc => ?_) (fun hc => ?_)
    · have hf := pu_br_pos hf hc
      exact lb_73 x_1 x_2 H locs ls hP hD hS (lv_sub hl [0, 1, 2] rfl) hf
    have hf := pu_br_neg hf hc
    refine lv_iload_n hx hb d_MD_wellValue_62 rfl (lv_at hl 1 rfl) ?_
    refine lv_iconst (v := 4) hx hb d_MD_wellValue_63 rfl ?_
    refine lv_icmp_eq (tgt := 73) hx hb d_MD_wellValue_64 rfl (fun hc => ?_) (fun hc => ?_)
    · have hf := pu_br_pos hf hc
      exact lb_73 x_1 x_2 H locs ls hP hD hS (lv_sub hl [0, 1, 2] rfl) hf
    have hf := pu_br_neg hf hc
    refine lv_iload_n hx hb d_MD_wellValue_67 rfl (lv_at hl 1 rfl) ?_
    refine lv_bipush (v := 6) hx hb d_MD_wellValue_68 rfl ?_
    refine lv_icmp_ne (tgt := 93) hx hb d_MD_wellValue_70 rfl (fun hc => ?_) (fun hc => ?_)
    · have hf := pu_br_neg hf hc
      refine lv_iconst (v := 0) hx hb d_MD_wellValue_93 rfl ?_
      exact hret _ _ _ _ (0 : Int32)  d_MD_wellValue_94 (by decide) hP hD hS hf
    have hf := pu_br_pos hf hc
    exact lb_73 x_1 x_2 H locs ls hP hD hS (lv_sub hl [0, 1, 2] rfl) hf
  obtain ⟨H, hH⟩ : ∃ H, H = s.heap := ⟨_, rfl⟩
  obtain ⟨locs, hlocs⟩ : ∃ locs : List Loc, locs = [] := ⟨_, rfl⟩
  have hP : va_P D pu_cl [(q_this, .inr (8, [.ref q_now, .ref q_disk, .ref q_before, .int v_onDisk, .int v_head, .int v_headPages, .int v_records, .ref q_recordPage, .ref q_recordBytes, .int v_up, .int v_armed, .int v_columns, .ref q_isBlob, .ref q_integer, .ref q_size, .ref q_blobs, .int v_length, .ref q_record, .int v_kind, .int v_cells, .int v_last, .ref q_cellLength, .ref q_row, .int v_made, .ref q_cell, .int v_deep, .ref q_way, .ref q_turn, .int v_at, .int v_bad, .ref q_used])), (q_record, .inl (cI, 700, .inl v_record))] H := by rw [hH]; exact hP
  have hS : va_S A s.heap H locs := by rw [hH, hlocs]; exact hS
  have goal : W p l e rm_MD_wellValue s m args below meth c H locs 0 0 Q (F0 m 0 ls []) := by
    clear hH hlocs
    refine lv_iload_n hx hb d_MD_wellValue_0 rfl (lv_at hl 2 rfl) ?_
    refine lv_iload_n hx hb d_MD_wellValue_1 rfl (lv_at hl 1 rfl) ?_
    obtain ⟨r1, hc, hf⟩ := pu_b1_some hf
    refine cl_i (WC := []) (WC2 := []) (WR := [(q_this, .inr (8, [.ref q_now, .ref q_disk, .ref q_before, .int v_onDisk, .int v_head, .int v_headPages, .int v_records, .ref q_recordPage, .ref q_recordBytes, .int v_up, .int v_armed, .int v_columns, .ref q_isBlob, .ref q_integer, .ref q_size, .ref q_blobs, .int v_length, .ref q_record, .int v_kind, .int v_cells, .int v_last, .ref q_cellLength, .ref q_row, .int v_made, .ref q_cell, .int v_deep, .ref q_way, .ref q_turn, .int v_at, .int v_bad, .ref q_used])), (q_record, .inl (cI, 700, .inl v_record))]) (WS2 := [(q_this, .inr (8, [.ref q_now, .ref q_disk, .ref q_before, .int v_onDisk, .int v_head, .int v_headPages, .int v_records, .ref q_recordPage, .ref q_recordBytes, .int v_up, .int v_armed, .int v_columns, .ref q_isBlob, .ref q_integer, .ref q_size, .ref q_blobs, .int v_length, .ref q_record, .int v_kind, .int v_cells, .int v_last, .ref q_cellLength, .ref q_row, .int v_made, .ref q_cell, .int v_deep, .ref q_way, .ref q_turn, .int v_at, .int v_bad, .ref q_used])), (q_record, .inl (cI, 700, .inl v_record))]) (pu_rs (pu_in11 _ (List.mem_of_getElem? (i := 17) rfl)) (pu_in11 _ (List.mem_of_getElem? (i := 18) rfl)) (pu_in0 _ (List.mem_of_getElem? (i := 10) rfl)) (pu_in11 _ (List.mem_of_getElem? (i := 19) rfl)) hd_MD_bytesOf (by decide) ⟨rfl, rfl⟩ rfl rfl (Nat.le_of_ble_eq_true rfl) (As := [.int x_1]) (rest := [.int x_2]) (WC := []) hx hb hml hown hts hN hK hP hD (c_MD_bytesOf l D cI cJ cB cZ H.size x_1 r1 hc) [] rfl rfl hl.1 d_MD_wellValue_2) hP hD hS hA [] [0, 1] [0, 1] rfl rfl rfl (by decide) rfl rfl (fun H locs hP hD hS => ?_)
    refine lv_iadd hx hb d_MD_wellValue_5 ?_
    refine lv_aload_n hx hb d_MD_wellValue_6 rfl (lv_at hl 0 rfl) ?_
    refine gf_MD_91 (v := .int v_length) hx hb hts hN hown hK hP 0 rfl rfl d_MD_wellValue_7 ?_
    refine lv_icmp_le (tgt := 15) hx hb d_MD_wellValue_10 rfl (fun hc => ?_) (fun hc => ?_)
    · have hf := pu_br_pos hf hc
      refine lv_iload_n hx hb d_MD_wellValue_15 rfl (lv_at hl 1 rfl) ?_
      refine lv_bipush (v := 11) hx hb d_MD_wellValue_16 rfl ?_
      refine lv_icmp_le (tgt := 40) hx hb d_MD_wellValue_18 rfl (fun hc => ?_) (fun hc => ?_)
      · have hf := pu_br_pos hf hc
        refine lv_iload_n hx hb d_MD_wellValue_40 rfl (lv_at hl 1 rfl) ?_
        refine lv_bipush (v := 7) hx hb d_MD_wellValue_41 rfl ?_
        refine lv_icmp_le (tgt := 52) hx hb d_MD_wellValue_43 rfl (fun hc => ?_) (fun hc => ?_)
        · have hf := pu_br_pos hf hc
          exact lb_52 x_1 x_2 H locs ls hP hD hS (lv_sub hl [0, 1, 2] rfl) hf
        have hf := pu_br_neg hf hc
        refine lv_iload_n hx hb d_MD_wellValue_46 rfl (lv_at hl 1 rfl) ?_
        refine lv_bipush (v := 10) hx hb d_MD_wellValue_47 rfl ?_
        refine lv_icmp_lt (tgt := 89) hx hb d_MD_wellValue_49 rfl (fun hc => ?_) (fun hc => ?_)
        · have hf := pu_br_pos hf hc
          refine lv_iconst (v := 1) hx hb d_MD_wellValue_89 rfl ?_
          refine lv_goto (tgt := 94) hx hb d_MD_wellValue_90 rfl ?_
          exact hret _ _ _ _ (1 : Int32)  d_MD_wellValue_94 (by decide) hP hD hS hf
        have hf := pu_br_neg hf hc
        exact lb_52 x_1 x_2 H locs ls hP hD hS (lv_sub hl [0, 1, 2] rfl) hf
      have hf := pu_br_neg hf hc
      refine lv_iload_n hx hb d_MD_wellValue_21 rfl (lv_at hl 1 rfl) ?_
      refine lv_iconst (v := 2) hx hb d_MD_wellValue_22 rfl ?_
      refine lv_irem hx hb d_MD_wellValue_23 (by decide) ?_
      refine lv_if_ne (tgt := 38) hx hb d_MD_wellValue_24 rfl (fun hc => ?_) (fun hc => ?_)
      · have hf := pu_br_neg hf hc
        refine lv_iconst (v := 0) hx hb d_MD_wellValue_38 rfl ?_
        exact hret _ _ _ _ (0 : Int32)  d_MD_wellValue_39 (by decide) hP hD hS hf
      have hf := pu_br_pos hf hc
      refine lv_iload_n hx hb d_MD_wellValue_27 rfl (lv_at hl 1 rfl) ?_
      refine lv_sipush (v := 212) hx hb d_MD_wellValue_28 rfl ?_
      refine lv_icmp_gt (tgt := 38) hx hb d_MD_wellValue_31 rfl (fun hc => ?_) (fun hc => ?_)
      · have hf := pu_br_pos hf hc
        refine lv_iconst (v := 0) hx hb d_MD_wellValue_38 rfl ?_
        exact hret _ _ _ _ (0 : Int32)  d_MD_wellValue_39 (by decide) hP hD hS hf
      have hf := pu_br_neg hf hc
      refine lv_iconst (v := 1) hx hb d_MD_wellValue_34 rfl ?_
      refine lv_goto (tgt := 39) hx hb d_MD_wellValue_35 rfl ?_
      exact hret _ _ _ _ (1 : Int32)  d_MD_wellValue_39 (by decide) hP hD hS hf
    have hf := pu_br_neg hf hc
    refine lv_iconst (v := 0) hx hb d_MD_wellValue_13 rfl ?_
    exact hret _ _ _ _ (0 : Int32)  d_MD_wellValue_14 (by decide) hP hD hS hf
  rw [hH, hlocs] at goal
  exact goal
theorem d_MD_wellRecord_0 : decode b_MD_wellRecord 0 = .ok (.aload_n 0, 1) := by decide +kernel
theorem d_MD_wellRecord_1 : decode b_MD_wellRecord 1 = .ok (.iconst 0, 1) := by decide +kernel
theorem d_MD_wellRecord_2 : decode b_MD_wellRecord 2 = .ok (.putfield 132, 3) := by decide +kernel
theorem d_MD_wellRecord_5 : decode b_MD_wellRecord 5 = .ok (.aload_n 0, 1) := by decide +kernel
theorem d_MD_wellRecord_6 : decode b_MD_wellRecord 6 = .ok (.iconst 0, 1) := by decide +kernel
theorem d_MD_wellRecord_7 : decode b_MD_wellRecord 7 = .ok (.putfield 129, 3) := by decide +kernel
theorem d_MD_wellRecord_10 : decode b_MD_wellRecord 10 = .ok (.aload_n 0, 1) := by decide +kernel
theorem d_MD_wellRecord_11 : decode b_MD_wellRecord 11 = .ok (.aload_n 0, 1) := by decide +kernel
theorem d_MD_wellRecord_12 : decode b_MD_wellRecord 12 = .ok (.getfield 50, 3) := by decide +kernel
theorem d_MD_wellRecord_15 : decode b_MD_wellRecord 15 = .ok (.aload_n 0, 1) := by decide +kernel
theorem d_MD_wellRecord_16 : decode b_MD_wellRecord 16 = .ok (.getfield 91, 3) := by decide +kernel
theorem d_MD_wellRecord_19 : decode b_MD_wellRecord 19 = .ok (.invokevirtual 135, 3) := by decide +kernel
theorem d_MD_wellRecord_22 : decode b_MD_wellRecord 22 = .ok (.istore_n 1, 1) := by decide +kernel
theorem d_MD_wellRecord_23 : decode b_MD_wellRecord 23 = .ok (.aload_n 0, 1) := by decide +kernel
theorem d_MD_wellRecord_24 : decode b_MD_wellRecord 24 = .ok (.getfield 129, 3) := by decide +kernel
theorem d_MD_wellRecord_27 : decode b_MD_wellRecord 27 = .ok (.ifCond .ne 11, 3) := by decide +kernel
theorem d_MD_wellRecord_30 : decode b_MD_wellRecord 30 = .ok (.iload_n 1, 1) := by decide +kernel
theorem d_MD_wellRecord_31 : decode b_MD_wellRecord 31 = .ok (.aload_n 0, 1) := by decide +kernel
theorem d_MD_wellRecord_32 : decode b_MD_wellRecord 32 = .ok (.getfield 91, 3) := by decide +kernel
theorem d_MD_wellRecord_35 : decode b_MD_wellRecord 35 = .ok (.if_icmp .le 5, 3) := by decide +kernel
theorem d_MD_wellRecord_38 : decode b_MD_wellRecord 38 = .ok (.iconst 0, 1) := by decide +kernel
theorem d_MD_wellRecord_39 : decode b_MD_wellRecord 39 = .ok (.ireturn, 1) := by decide +kernel
theorem d_MD_wellRecord_40 : decode b_MD_wellRecord 40 = .ok (.iload_n 1, 1) := by decide +kernel
theorem d_MD_wellRecord_41 : decode b_MD_wellRecord 41 = .ok (.istore_n 2, 1) := by decide +kernel
theorem d_MD_wellRecord_42 : decode b_MD_wellRecord 42 = .ok (.iconst 0, 1) := by decide +kernel
theorem d_MD_wellRecord_43 : decode b_MD_wellRecord 43 = .ok (.istore_n 3, 1) := by decide +kernel
theorem d_MD_wellRecord_44 : decode b_MD_wellRecord 44 = .ok (.aload_n 0, 1) := by decide +kernel
theorem d_MD_wellRecord_45 : decode b_MD_wellRecord 45 = .ok (.getfield 132, 3) := by decide +kernel
theorem d_MD_wellRecord_48 : decode b_MD_wellRecord 48 = .ok (.iload_n 1, 1) := by decide +kernel
theorem d_MD_wellRecord_49 : decode b_MD_wellRecord 49 = .ok (.if_icmp .ge 77, 3) := by decide +kernel
theorem d_MD_wellRecord_52 : decode b_MD_wellRecord 52 = .ok (.aload_n 0, 1) := by decide +kernel
theorem d_MD_wellRecord_53 : decode b_MD_wellRecord 53 = .ok (.getfield 129, 3) := by decide +kernel
theorem d_MD_wellRecord_56 : decode b_MD_wellRecord 56 = .ok (.ifCond .ne 70, 3) := by decide +kernel
theorem d_MD_wellRecord_59 : decode b_MD_wellRecord 59 = .ok (.aload_n 0, 1) := by decide +kernel
theorem d_MD_wellRecord_60 : decode b_MD_wellRecord 60 = .ok (.aload_n 0, 1) := by decide +kernel
theorem d_MD_wellRecord_61 : decode b_MD_wellRecord 61 = .ok (.getfield 50, 3) := by decide +kernel
theorem d_MD_wellRecord_64 : decode b_MD_wellRecord 64 = .ok (.iload_n 1, 1) := by decide +kernel
theorem d_MD_wellRecord_65 : decode b_MD_wellRecord 65 = .ok (.invokevirtual 135, 3) := by decide +kernel
theorem d_MD_wellRecord_68 : decode b_MD_wellRecord 68 = .ok (.istore 4, 2) := by decide +kernel
theorem d_MD_wellRecord_70 : decode b_MD_wellRecord 70 = .ok (.iinc 3 1, 3) := by decide +kernel
theorem d_MD_wellRecord_73 : decode b_MD_wellRecord 73 = .ok (.aload_n 0, 1) := by decide +kernel
theorem d_MD_wellRecord_74 : decode b_MD_wellRecord 74 = .ok (.aload_n 0, 1) := by decide +kernel
theorem d_MD_wellRecord_75 : decode b_MD_wellRecord 75 = .ok (.getfield 129, 3) := by decide +kernel
theorem d_MD_wellRecord_78 : decode b_MD_wellRecord 78 = .ok (.ifCond .ne 18, 3) := by decide +kernel
theorem d_MD_wellRecord_81 : decode b_MD_wellRecord 81 = .ok (.iload_n 3, 1) := by decide +kernel
theorem d_MD_wellRecord_82 : decode b_MD_wellRecord 82 = .ok (.iconst 3, 1) := by decide +kernel
theorem d_MD_wellRecord_83 : decode b_MD_wellRecord 83 = .ok (.if_icmp .gt 13, 3) := by decide +kernel
theorem d_MD_wellRecord_86 : decode b_MD_wellRecord 86 = .ok (.aload_n 0, 1) := by decide +kernel
theorem d_MD_wellRecord_87 : decode b_MD_wellRecord 87 = .ok (.iload 4, 2) := by decide +kernel
theorem d_MD_wellRecord_89 : decode b_MD_wellRecord 89 = .ok (.iload_n 2, 1) := by decide +kernel
theorem d_MD_wellRecord_90 : decode b_MD_wellRecord 90 = .ok (.invokevirtual 256, 3) := by decide +kernel
theorem d_MD_wellRecord_93 : decode b_MD_wellRecord 93 = .ok (.ifCond .ne 7, 3) := by decide +kernel
theorem d_MD_wellRecord_96 : decode b_MD_wellRecord 96 = .ok (.iconst 1, 1) := by decide +kernel
theorem d_MD_wellRecord_97 : decode b_MD_wellRecord 97 = .ok (.goto 4, 3) := by decide +kernel
theorem d_MD_wellRecord_100 : decode b_MD_wellRecord 100 = .ok (.iconst 0, 1) := by decide +kernel
theorem d_MD_wellRecord_101 : decode b_MD_wellRecord 101 = .ok (.putfield 129, 3) := by decide +kernel
theorem d_MD_wellRecord_104 : decode b_MD_wellRecord 104 = .ok (.iload_n 2, 1) := by decide +kernel
theorem d_MD_wellRecord_105 : decode b_MD_wellRecord 105 = .ok (.aload_n 0, 1) := by decide +kernel
theorem d_MD_wellRecord_106 : decode b_MD_wellRecord 106 = .ok (.getfield 129, 3) := by decide +kernel
theorem d_MD_wellRecord_109 : decode b_MD_wellRecord 109 = .ok (.ifCond .eq 7, 3) := by decide +kernel
theorem d_MD_wellRecord_112 : decode b_MD_wellRecord 112 = .ok (.iconst 0, 1) := by decide +kernel
theorem d_MD_wellRecord_113 : decode b_MD_wellRecord 113 = .ok (.goto 8, 3) := by decide +kernel
theorem d_MD_wellRecord_116 : decode b_MD_wellRecord 116 = .ok (.iload 4, 2) := by decide +kernel
theorem d_MD_wellRecord_118 : decode b_MD_wellRecord 118 = .ok (.invokestatic 102, 3) := by decide +kernel
theorem d_MD_wellRecord_121 : decode b_MD_wellRecord 121 = .ok (.iadd, 1) := by decide +kernel
theorem d_MD_wellRecord_122 : decode b_MD_wellRecord 122 = .ok (.istore_n 2, 1) := by decide +kernel
theorem d_MD_wellRecord_123 : decode b_MD_wellRecord 123 = .ok (.goto (-79), 3) := by decide +kernel
theorem d_MD_wellRecord_126 : decode b_MD_wellRecord 126 = .ok (.aload_n 0, 1) := by decide +kernel
theorem d_MD_wellRecord_127 : decode b_MD_wellRecord 127 = .ok (.getfield 129, 3) := by decide +kernel
theorem d_MD_wellRecord_130 : decode b_MD_wellRecord 130 = .ok (.ifCond .ne 19, 3) := by decide +kernel
theorem d_MD_wellRecord_133 : decode b_MD_wellRecord 133 = .ok (.iload_n 3, 1) := by decide +kernel
theorem d_MD_wellRecord_134 : decode b_MD_wellRecord 134 = .ok (.ifCond .le 15, 3) := by decide +kernel
theorem d_MD_wellRecord_137 : decode b_MD_wellRecord 137 = .ok (.iload_n 2, 1) := by decide +kernel
theorem d_MD_wellRecord_138 : decode b_MD_wellRecord 138 = .ok (.aload_n 0, 1) := by decide +kernel
theorem d_MD_wellRecord_139 : decode b_MD_wellRecord 139 = .ok (.getfield 91, 3) := by decide +kernel
theorem d_MD_wellRecord_142 : decode b_MD_wellRecord 142 = .ok (.if_icmp .ne 7, 3) := by decide +kernel
theorem d_MD_wellRecord_145 : decode b_MD_wellRecord 145 = .ok (.iconst 1, 1) := by decide +kernel
theorem d_MD_wellRecord_146 : decode b_MD_wellRecord 146 = .ok (.goto 4, 3) := by decide +kernel
theorem d_MD_wellRecord_149 : decode b_MD_wellRecord 149 = .ok (.iconst 0, 1) := by decide +kernel
theorem d_MD_wellRecord_150 : decode b_MD_wellRecord 150 = .ok (.ireturn, 1) := by decide +kernel
noncomputable def q_MD_wellRecord_126 (v_length : Int32) (v_record : Nat → Int32) (v_at : Int32) (v_bad : Int32) (x_2 : Int32) (x_3 : Int32) : Option (Int32 × Int32 × Int32) :=
  pu_br (v_bad = 0) (pu_br (x_3 ≤ 0) (some ((0 : Int32), v_at, v_bad)) (pu_br (x_2 = v_length) (some ((1 : Int32), v_at, v_bad)) (some ((0 : Int32), v_at, v_bad)))) (some ((0 : Int32), v_at, v_bad))
noncomputable def q_MD_wellRecord_121 (kb : Int32 → Int32 → Int32 → Int32 → Option (Int32 × Int32 × Int32)) (kx_126 : Int32 → Int32 → Int32 → Int32 → Option (Int32 × Int32 × Int32)) (v_length : Int32) (v_record : Nat → Int32) (v_at : Int32) (v_bad : Int32) (x_1 : Int32) (x_3 : Int32) (s_0 : Int32) (s_1 : Int32) : Option (Int32 × Int32 × Int32) :=
  pu_nm (s_0 + s_1) (fun t9 => kb v_at v_bad t9 x_3)
noncomputable def q_MD_wellRecord_101 (kb : Int32 → Int32 → Int32 → Int32 → Option (Int32 × Int32 × Int32)) (kx_126 : Int32 → Int32 → Int32 → Int32 → Option (Int32 × Int32 × Int32)) (v_length : Int32) (v_record : Nat → Int32) (v_at : Int32) (v_bad : Int32) (x_1 : Int32) (x_2 : Int32) (x_3 : Int32) (x_4 : Int32) (s_1 : Int32) : Option (Int32 × Int32 × Int32) :=
  pu_ck (pu_bz s_1) (pu_br (s_1 = 0) (pu_b1 (f_MD_bytesOf x_4) (fun r8 => q_MD_wellRecord_121 kb kx_126 v_length v_record v_at s_1 x_1 x_3 x_2 r8)) (q_MD_wellRecord_121 kb kx_126 v_length v_record v_at s_1 x_1 x_3 x_2 (0 : Int32)))
noncomputable def q_MD_wellRecord_96 (kb : Int32 → Int32 → Int32 → Int32 → Option (Int32 × Int32 × Int32)) (kx_126 : Int32 → Int32 → Int32 → Int32 → Option (Int32 × Int32 × Int32)) (v_length : Int32) (v_record : Nat → Int32) (v_at : Int32) (v_bad : Int32) (x_1 : Int32) (x_2 : Int32) (x_3 : Int32) (x_4 : Int32) : Option (Int32 × Int32 × Int32) :=
  q_MD_wellRecord_101 kb kx_126 v_length v_record v_at v_bad x_1 x_2 x_3 x_4 (1 : Int32)
noncomputable def q_MD_wellRecord_44 (kx_126 : Int32 → Int32 → Int32 → Int32 → Option (Int32 × Int32 × Int32)) (v_length : Int32) (v_record : Nat → Int32) (x_1 : Int32) : Nat → Int32 → Int32 → Int32 → Int32 → Option (Int32 × Int32 × Int32)
  | 0, _, _, _, _ => none
  | n + 1, v_at, v_bad, x_2, x_3 => pu_br (x_1 ≤ v_at) (kx_126 v_at v_bad x_2 x_3) (pu_br (v_bad = 0) (pu_b3 (f_MD_read 700 v_record v_at v_bad x_1) (fun r4 w5 w6 => pu_nm (x_3 + (1 : Int32)) (fun t7 => pu_br (w6 = 0) (pu_br ((3 : Int32) < t7) (q_MD_wellRecord_96 (q_MD_wellRecord_44 kx_126 v_length v_record x_1 n) kx_126 v_length v_record w5 w6 x_1 x_2 t7 r4) (pu_b1 (f_MD_wellValue v_length v_record r4 x_2) (fun r10 => pu_br (r10 = 0) (q_MD_wellRecord_96 (q_MD_wellRecord_44 kx_126 v_length v_record x_1 n) kx_126 v_length v_record w5 w6 x_1 x_2 t7 r4) (q_MD_wellRecord_101 (q_MD_wellRecord_44 kx_126 v_length v_record x_1 n) kx_126 v_length v_record w5 w6 x_1 x_2 t7 r4 (0 : Int32))))) (q_MD_wellRecord_96 (q_MD_wellRecord_44 kx_126 v_length v_record x_1 n) kx_126 v_length v_record w5 w6 x_1 x_2 t7 r4)))) (kx_126 v_at v_bad x_2 x_3))
noncomputable def f_MD_wellRecord (v_length : Int32) (v_record : Nat → Int32) (v_at : Int32) (v_bad : Int32) : Option (Int32 × Int32 × Int32) :=
  pu_b3 (f_MD_read 700 v_record (0 : Int32) (0 : Int32) v_length) (fun r1 w2 w3 => pu_br (w3 = 0) (pu_br (r1 ≤ v_length) (q_MD_wellRecord_44 (fun v_at v_bad x_2 x_3 => q_MD_wellRecord_126 v_length v_record v_at v_bad x_2 x_3) v_length v_record r1 pu_fu w2 w3 r1 (0 : Int32)) (some ((0 : Int32), w2, w3))) (some ((0 : Int32), w2, w3)))
abbrev rm_MD_wellRecord : Room := { frames := 2, cells := 0, slots := 0, locals := 47 }
set_option maxHeartbeats 8000000 in
set_option maxRecDepth 100000 in
theorem c_MD_wellRecord (l : Launch) (D : va_G) (cI cJ cB cZ : ClassId) (sz : Nat) (q_this : Nat) (q_now : Nat) (q_disk : Nat) (q_before : Nat) (q_recordPage : Nat) (q_recordBytes : Nat) (q_isBlob : Nat) (q_integer : Nat) (q_size : Nat) (q_blobs : Nat) (q_record : Nat) (q_cellLength : Nat) (q_row : Nat) (q_cell : Nat) (q_way : Nat) (q_turn : Nat) (q_used : Nat) (v_onDisk : Int32) (v_head : Int32) (v_headPages : Int32) (v_records : Int32) (v_up : Int32) (v_armed : Int32) (v_columns : Int32) (v_length : Int32) (v_kind : Int32) (v_cells : Int32) (v_last : Int32) (v_made : Int32) (v_deep : Int32) (v_at : Int32) (v_bad : Int32) (v_record : Nat → Int32) (o_r : Int32) (o_at : Int32) (o_bad : Int32) (hf : f_MD_wellRecord v_length v_record v_at v_bad = some (o_r, o_at, o_bad)) : Met l y_MD_wellRecord (.code y_MD_wellRecord b_MD_wellRecord 5 (some .boolean) :: pu_wA) rm_MD_wellRecord (pu_pc D pu_cl (pu_ty cI cJ cB cZ) [.ref q_this] [(q_this, .inr (8, [.ref q_now, .ref q_disk, .ref q_before, .int v_onDisk, .int v_head, .int v_headPages, .int v_records, .ref q_recordPage, .ref q_recordBytes, .int v_up, .int v_armed, .int v_columns, .ref q_isBlob, .ref q_integer, .ref q_size, .ref q_blobs, .int v_length, .ref q_record, .int v_kind, .int v_cells, .int v_last, .ref q_cellLength, .ref q_row, .int v_made, .ref q_cell, .int v_deep, .ref q_way, .ref q_turn, .int v_at, .int v_bad, .ref q_used])), (q_record, .inl (cI, 700, .inl v_record))] sz) (pu_qi D pu_cl (pu_ty cI cJ cB cZ) [(q_this, .inr (8, [.ref q_now, .ref q_disk, .ref q_before, .int v_onDisk, .int v_head, .int v_headPages, .int v_records, .ref q_recordPage, .ref q_recordBytes, .int v_up, .int v_armed, .int v_columns, .ref q_isBlob, .ref q_integer, .ref q_size, .ref q_blobs, .int v_length, .ref q_record, .int v_kind, .int v_cells, .int v_last, .ref q_cellLength, .ref q_row, .int v_made, .ref q_cell, .int v_deep, .ref q_way, .ref q_turn, .int v_at, .int v_bad, .ref q_used])), (q_record, .inl (cI, 700, .inl v_record))] [(q_this, .inr (8, [.ref q_now, .ref q_disk, .ref q_before, .int v_onDisk, .int v_head, .int v_headPages, .int v_records, .ref q_recordPage, .ref q_recordBytes, .int v_up, .int v_armed, .int v_columns, .ref q_isBlob, .ref q_integer, .ref q_size, .ref q_blobs, .int v_length, .ref q_record, .int v_kind, .int v_cells, .int v_last, .ref q_cellLength, .ref q_row, .int v_made, .ref q_cell, .int v_deep, .ref q_way, .ref q_turn, .int o_at, .int o_bad, .ref q_used])), (q_record, .inl (cI, 700, .inl v_record))] sz o_r) 0 0 (va_A [(q_this, .inr (8, [.ref q_now, .ref q_disk, .ref q_before, .int v_onDisk, .int v_head, .int v_headPages, .int v_records, .ref q_recordPage, .ref q_recordBytes, .int v_up, .int v_armed, .int v_columns, .ref q_isBlob, .ref q_integer, .ref q_size, .ref q_blobs, .int v_length, .ref q_record, .int v_kind, .int v_cells, .int v_last, .ref q_cellLength, .ref q_row, .int v_made, .ref q_cell, .int v_deep, .ref q_way, .ref q_turn, .int v_at, .int v_bad, .ref q_used])), (q_record, .inl (cI, 700, .inl v_record))] sz) := by
  refine pu_mtz [.ref q_this] [(q_this, .inr (8, [.ref q_now, .ref q_disk, .ref q_before, .int v_onDisk, .int v_head, .int v_headPages, .int v_records, .ref q_recordPage, .ref q_recordBytes, .int v_up, .int v_armed, .int v_columns, .ref q_isBlob, .ref q_integer, .ref q_size, .ref q_blobs, .int v_length, .ref q_record, .int v_kind, .int v_cells, .int v_last, .ref q_cellLength, .ref q_row, .int v_made, .ref q_cell, .int v_deep, .ref q_way, .ref q_turn, .int v_at, .int v_bad, .ref q_used])), (q_record, .inl (cI, 700, .inl v_record))] [(q_this, .inr (8, [.ref q_now, .ref q_disk, .ref q_before, .int v_onDisk, .int v_head, .int v_headPages, .int v_records, .ref q_recordPage, .ref q_recordBytes, .int v_up, .int v_armed, .int v_columns, .ref q_isBlob, .ref q_integer, .ref q_size, .ref q_blobs, .int v_length, .ref q_record, .int v_kind, .int v_cells, .int v_last, .ref q_cellLength, .ref q_row, .int v_made, .ref q_cell, .int v_deep, .ref q_way, .ref q_turn, .int o_at, .int o_bad, .ref q_used])), (q_record, .inl (cI, 700, .inl v_record))] o_r (by decide) (Nat.le_of_ble_eq_true rfl) ?_
  intro p e s m args below meth c A Q ls hx hb hml hts hN hown hK hA hP hD hl hret0
  have hS : va_S A s.heap s.heap [] := va_S.rf
  have hl : lv_has ls 5 [(0, .ref q_this)] := hl
  have hret : ∀ (pc : Nat) (ls : Array Slot) (H : Heap) (locs : List Loc) (y_0 : Int32) (y_1 : Int32) (y_2 : Int32), decode b_MD_wellRecord pc = .ok (.ireturn, 1) → narrow .boolean (.int y_0) = .int y_0 → va_P D pu_cl [(q_this, .inr (8, [.ref q_now, .ref q_disk, .ref q_before, .int v_onDisk, .int v_head, .int v_headPages, .int v_records, .ref q_recordPage, .ref q_recordBytes, .int v_up, .int v_armed, .int v_columns, .ref q_isBlob, .ref q_integer, .ref q_size, .ref q_blobs, .int v_length, .ref q_record, .int v_kind, .int v_cells, .int v_last, .ref q_cellLength, .ref q_row, .int v_made, .ref q_cell, .int v_deep, .ref q_way, .ref q_turn, .int y_1, .int y_2, .ref q_used])), (q_record, .inl (cI, 700, .inl v_record))] H → va_D A [(q_this, .inr (8, [.ref q_now, .ref q_disk, .ref q_before, .int v_onDisk, .int v_head, .int v_headPages, .int v_records, .ref q_recordPage, .ref q_recordBytes, .int v_up, .int v_armed, .int v_columns, .ref q_isBlob, .ref q_integer, .ref q_size, .ref q_blobs, .int v_length, .ref q_record, .int v_kind, .int v_cells, .int v_last, .ref q_cellLength, .ref q_row, .int v_made, .ref q_cell, .int v_deep, .ref q_way, .ref q_turn, .int y_1, .int y_2, .ref q_used])), (q_record, .inl (cI, 700, .inl v_record))] → va_S A s.heap H locs → some (y_0, y_1, y_2) = some (o_r, o_at, o_bad) → W p l e rm_MD_wellRecord s m args below meth c H locs 0 0 Q (F0 m pc ls [.int y_0]) := by
    intro pc ls H locs y_0 y_1 y_2 hd hz hP hD hS hf
    cases hf
    exact hret0 pc ls H locs hd hz hP hD hS
  clear hret0
  unfold f_MD_wellRecord at hf
  skip
  have lb_126 : ∀ (v_at : Int32) (v_bad : Int32) (x_2 : Int32) (x_3 : Int32) (H : Heap) (locs : List Loc) (ls : Array Slot), va_P D pu_cl [(q_this, .inr (8, [.ref q_now, .ref q_disk, .ref q_before, .int v_onDisk, .int v_head, .int v_headPages, .int v_records, .ref q_recordPage, .ref q_recordBytes, .int v_up, .int v_armed, .int v_columns, .ref q_isBlob, .ref q_integer, .ref q_size, .ref q_blobs, .int v_length, .ref q_record, .int v_kind, .int v_cells, .int v_last, .ref q_cellLength, .ref q_row, .int v_made, .ref q_cell, .int v_deep, .ref q_way, .ref q_turn, .int v_at, .int v_bad, .ref q_used])), (q_record, .inl (cI, 700, .inl v_record))] H → va_D A [(q_this, .inr (8, [.ref q_now, .ref q_disk, .ref q_before, .int v_onDisk, .int v_head, .int v_headPages, .int v_records, .ref q_recordPage, .ref q_recordBytes, .int v_up, .int v_armed, .int v_columns, .ref q_isBlob, .ref q_integer, .ref q_size, .ref q_blobs, .int v_length, .ref q_record, .int v_kind, .int v_cells, .int v_last, .ref q_cellLength, .ref q_row, .int v_made, .ref q_cell, .int v_deep, .ref q_way, .ref q_turn, .int v_at, .int v_bad, .ref q_used])), (q_record, .inl (cI, 700, .inl v_record))] → va_S A s.heap H locs → lv_has ls 5 [(0, .ref q_this), (2, .int x_2), (3, .int x_3)] → q_MD_wellRecord_126 v_length v_record v_at v_bad x_2 x_3 = some (o_r, o_at, o_bad) → W p l e rm_MD_wellRecord s m args below meth c H locs 0 0 Q (F0 m 126 ls []) := by
    intro v_at v_bad x_2 x_3 H locs ls hP hD hS hl hf
    rw [q_MD_wellRecord_126] at hf
    refine lv_aload_n hx hb d_MD_wellRecord_126 rfl (lv_at hl 0 rfl) ?_
    refine gf_MD_129 (v := .int v_bad) hx hb hts hN hown hK hP 0 rfl rfl d_MD_wellRecord_127 ?_
    refine lv_if_ne (tgt := 149) hx hb d_MD_wellRecord_130 rfl (fun hc => ?_) (fun hc => ?_)
    · have hf := pu_br_neg hf hc
      refine lv_iconst (v := 0) hx hb d_MD_wellRecord_149 rfl ?_
      exact hret _ _ _ _ (0 : Int32) v_at v_bad d_MD_wellRecord_150 (by decide) hP hD hS hf
    have hf := pu_br_pos hf hc
    refine lv_iload_n hx hb d_MD_wellRecord_133 rfl (lv_at hl 2 rfl) ?_
    refine lv_if_le (tgt := 149) hx hb d_MD_wellRecord_134 rfl (fun hc => ?_) (fun hc => ?_)
    · have hf := pu_br_pos hf hc
      refine lv_iconst (v := 0) hx hb d_MD_wellRecord_149 rfl ?_
      exact hret _ _ _ _ (0 : Int32) v_at v_bad d_MD_wellRecord_150 (by decide) hP hD hS hf
    have hf := pu_br_neg hf hc
    refine lv_iload_n hx hb d_MD_wellRecord_137 rfl (lv_at hl 1 rfl) ?_
    refine lv_aload_n hx hb d_MD_wellRecord_138 rfl (lv_at hl 0 rfl) ?_
    refine gf_MD_91 (v := .int v_length) hx hb hts hN hown hK hP 0 rfl rfl d_MD_wellRecord_139 ?_
    refine lv_icmp_ne (tgt := 149) hx hb d_MD_wellRecord_142 rfl (fun hc => ?_) (fun hc => ?_)
    · have hf := pu_br_neg hf hc
      refine lv_iconst (v := 0) hx hb d_MD_wellRecord_149 rfl ?_
      exact hret _ _ _ _ (0 : Int32) v_at v_bad d_MD_wellRecord_150 (by decide) hP hD hS hf
    have hf := pu_br_pos hf hc
    refine lv_iconst (v := 1) hx hb d_MD_wellRecord_145 rfl ?_
    refine lv_goto (tgt := 150) hx hb d_MD_wellRecord_146 rfl ?_
    exact hret _ _ _ _ (1 : Int32) v_at v_bad d_MD_wellRecord_150 (by decide) hP hD hS hf
  have lp_44 : ∀ (x_1 : Int32) (n44 : Nat) (v_at : Int32) (v_bad : Int32) (x_2 : Int32) (x_3 : Int32) (H : Heap) (locs : List Loc) (ls : Array Slot), va_P D pu_cl [(q_this, .inr (8, [.ref q_now, .ref q_disk, .ref q_before, .int v_onDisk, .int v_head, .int v_headPages, .int v_records, .ref q_recordPage, .ref q_recordBytes, .int v_up, .int v_armed, .int v_columns, .ref q_isBlob, .ref q_integer, .ref q_size, .ref q_blobs, .int v_length, .ref q_record, .int v_kind, .int v_cells, .int v_last, .ref q_cellLength, .ref q_row, .int v_made, .ref q_cell, .int v_deep, .ref q_way, .ref q_turn, .int v_at, .int v_bad, .ref q_used])), (q_record, .inl (cI, 700, .inl v_record))] H → va_D A [(q_this, .inr (8, [.ref q_now, .ref q_disk, .ref q_before, .int v_onDisk, .int v_head, .int v_headPages, .int v_records, .ref q_recordPage, .ref q_recordBytes, .int v_up, .int v_armed, .int v_columns, .ref q_isBlob, .ref q_integer, .ref q_size, .ref q_blobs, .int v_length, .ref q_record, .int v_kind, .int v_cells, .int v_last, .ref q_cellLength, .ref q_row, .int v_made, .ref q_cell, .int v_deep, .ref q_way, .ref q_turn, .int v_at, .int v_bad, .ref q_used])), (q_record, .inl (cI, 700, .inl v_record))] → va_S A s.heap H locs → lv_has ls 5 [(0, .ref q_this), (1, .int x_1), (2, .int x_2), (3, .int x_3)] → q_MD_wellRecord_44 (fun v_at v_bad x_2 x_3 => q_MD_wellRecord_126 v_length v_record v_at v_bad x_2 x_3) v_length v_record x_1 n44 v_at v_bad x_2 x_3 = some (o_r, o_at, o_bad) → W p l e rm_MD_wellRecord s m args below meth c H locs 0 0 Q (F0 m 44 ls []) := by
    intro x_1 n44
    induction n44 with
    | zero =>
      intro v_at v_bad x_2 x_3 H locs ls hP hD hS hl hf
      rw [q_MD_wellRecord_44] at hf
      cases hf
    | succ n44 ih_44 =>
      have lb_121 : ∀ (v_at : Int32) (v_bad : Int32) (x_3 : Int32) (s_0 : Int32) (s_1 : Int32) (H : Heap) (locs : List Loc) (ls : Array Slot), va_P D pu_cl [(q_this, .inr (8, [.ref q_now, .ref q_disk, .ref q_before, .int v_onDisk, .int v_head, .int v_headPages, .int v_records, .ref q_recordPage, .ref q_recordBytes, .int v_up, .int v_armed, .int v_columns, .ref q_isBlob, .ref q_integer, .ref q_size, .ref q_blobs, .int v_length, .ref q_record, .int v_kind, .int v_cells, .int v_last, .ref q_cellLength, .ref q_row, .int v_made, .ref q_cell, .int v_deep, .ref q_way, .ref q_turn, .int v_at, .int v_bad, .ref q_used])), (q_record, .inl (cI, 700, .inl v_record))] H → va_D A [(q_this, .inr (8, [.ref q_now, .ref q_disk, .ref q_before, .int v_onDisk, .int v_head, .int v_headPages, .int v_records, .ref q_recordPage, .ref q_recordBytes, .int v_up, .int v_armed, .int v_columns, .ref q_isBlob, .ref q_integer, .ref q_size, .ref q_blobs, .int v_length, .ref q_record, .int v_kind, .int v_cells, .int v_last, .ref q_cellLength, .ref q_row, .int v_made, .ref q_cell, .int v_deep, .ref q_way, .ref q_turn, .int v_at, .int v_bad, .ref q_used])), (q_record, .inl (cI, 700, .inl v_record))] → va_S A s.heap H locs → lv_has ls 5 [(0, .ref q_this), (1, .int x_1), (3, .int x_3)] → q_MD_wellRecord_121 (q_MD_wellRecord_44 (fun v_at v_bad x_2 x_3 => q_MD_wellRecord_126 v_length v_record v_at v_bad x_2 x_3) v_length v_record x_1 n44) (fun v_at v_bad x_2 x_3 => q_MD_wellRecord_126 v_length v_record v_at v_bad x_2 x_3) v_length v_record v_at v_bad x_1 x_3 s_0 s_1 = some (o_r, o_at, o_bad) → W p l e rm_MD_wellRecord s m args below meth c H locs 0 0 Q (F0 m 121 ls [.int s_1, .int s_0]) := by
        intro v_at v_bad x_3 s_0 s_1 H locs ls hP hD hS hl hf
        rw [q_MD_wellRecord_121] at hf
        refine lv_iadd hx hb d_MD_wellRecord_121 ?_
        obtain ⟨t9, e_t9, hf⟩ := pu_nm_some hf
        refine pu_ti e_t9 ?_
        refine lv_istore_n hx hb d_MD_wellRecord_122 rfl hl (by decide) rfl (fun ls hl => ?_)
        have hl : lv_has ls 5 [(2, .int t9), (0, .ref q_this), (1, .int x_1), (3, .int x_3)] := hl
        refine lv_goto (tgt := 44) hx hb d_MD_wellRecord_123 rfl ?_
        exact ih_44 v_at v_bad t9 x_3 H locs ls hP hD hS (lv_sub hl [1, 2, 0, 3] rfl) hf
      have lb_101 : ∀ (v_at : Int32) (v_bad : Int32) (x_2 : Int32) (x_3 : Int32) (x_4 : Int32) (s_1 : Int32) (H : Heap) (locs : List Loc) (ls : Array Slot), va_P D pu_cl [(q_this, .inr (8, [.ref q_now, .ref q_disk, .ref q_before, .int v_onDisk, .int v_head, .int v_headPages, .int v_records, .ref q_recordPage, .ref q_recordBytes, .int v_up, .int v_armed, .int v_columns, .ref q_isBlob, .ref q_integer, .ref q_size, .ref q_blobs, .int v_length, .ref q_record, .int v_kind, .int v_cells, .int v_last, .ref q_cellLength, .ref q_row, .int v_made, .ref q_cell, .int v_deep, .ref q_way, .ref q_turn, .int v_at, .int v_bad, .ref q_used])), (q_record, .inl (cI, 700, .inl v_record))] H → va_D A [(q_this, .inr (8, [.ref q_now, .ref q_disk, .ref q_before, .int v_onDisk, .int v_head, .int v_headPages, .int v_records, .ref q_recordPage, .ref q_recordBytes, .int v_up, .int v_armed, .int v_columns, .ref q_isBlob, .ref q_integer, .ref q_size, .ref q_blobs, .int v_length, .ref q_record, .int v_kind, .int v_cells, .int v_last, .ref q_cellLength, .ref q_row, .int v_made, .ref q_cell, .int v_deep, .ref q_way, .ref q_turn, .int v_at, .int v_bad, .ref q_used])), (q_record, .inl (cI, 700, .inl v_record))] → va_S A s.heap H locs → lv_has ls 5 [(0, .ref q_this), (1, .int x_1), (2, .int x_2), (3, .int x_3), (4, .int x_4)] → q_MD_wellRecord_101 (q_MD_wellRecord_44 (fun v_at v_bad x_2 x_3 => q_MD_wellRecord_126 v_length v_record v_at v_bad x_2 x_3) v_length v_record x_1 n44) (fun v_at v_bad x_2 x_3 => q_MD_wellRecord_126 v_length v_record v_at v_bad x_2 x_3) v_length v_record v_at v_bad x_1 x_2 x_3 x_4 s_1 = some (o_r, o_at, o_bad) → W p l e rm_MD_wellRecord s m args below meth c H locs 0 0 Q (F0 m 101 ls [.int s_1, .ref q_this]) := by
        intro v_at v_bad x_2 x_3 x_4 s_1 H locs ls hP hD hS hl hf
        rw [q_MD_wellRecord_101] at hf
        obtain ⟨hz, hf⟩ := pu_ck_some hf
        refine pf_MD_129 (v := .int s_1) hx hb hts hN hown hK hP hD hS 0 rfl hz (pu_bz_fits hz) (Nat.le_of_ble_eq_true rfl) d_MD_wellRecord_101 (fun H locs hP hD hS => ?_)
        have hP : va_P D pu_cl [(q_this, .inr (8, [.ref q_now, .ref q_disk, .ref q_before, .int v_onDisk, .int v_head, .int v_headPages, .int v_records, .ref q_recordPage, .ref q_recordBytes, .int v_up, .int v_armed, .int v_columns, .ref q_isBlob, .ref q_integer, .ref q_size, .ref q_blobs, .int v_length, .ref q_record, .int v_kind, .int v_cells, .int v_last, .ref q_cellLength, .ref q_row, .int v_made, .ref q_cell, .int v_deep, .ref q_way, .ref q_turn, .int v_at, .int s_1, .ref q_used])), (q_record, .inl (cI, 700, .inl v_record))] H := hP
        have hD : va_D A [(q_this, .inr (8, [.ref q_now, .ref q_disk, .ref q_before, .int v_onDisk, .int v_head, .int v_headPages, .int v_records, .ref q_recordPage, .ref q_recordBytes, .int v_up, .int v_armed, .int v_columns, .ref q_isBlob, .ref q_integer, .ref q_size, .ref q_blobs, .int v_length, .ref q_record, .int v_kind, .int v_cells, .int v_last, .ref q_cellLength, .ref q_row, .int v_made, .ref q_cell, .int v_deep, .ref q_way, .ref q_turn, .int v_at, .int s_1, .ref q_used])), (q_record, .inl (cI, 700, .inl v_record))] := hD
        refine lv_iload_n hx hb d_MD_wellRecord_104 rfl (lv_at hl 2 rfl) ?_
        refine lv_aload_n hx hb d_MD_wellRecord_105 rfl (lv_at hl 0 rfl) ?_
        refine gf_MD_129 (v := .int s_1) hx hb hts hN hown hK hP 0 rfl rfl d_MD_wellRecord_106 ?_
        refine lv_if_eq (tgt := 116) hx hb d_MD_wellRecord_109 rfl (fun hc => ?_) (fun hc => ?_)
        · have hf := pu_br_pos hf hc
          refine lv_iload hx hb d_MD_wellRecord_116 (lv_at hl 4 rfl) ?_
          obtain ⟨r8, hc, hf⟩ := pu_b1_some hf
          refine cl_i (WC := []) (WC2 := []) (WR := [(q_this, .inr (8, [.ref q_now, .ref q_disk, .ref q_before, .int v_onDisk, .int v_head, .int v_headPages, .int v_records, .ref q_recordPage, .ref q_recordBytes, .int v_up, .int v_armed, .int v_columns, .ref q_isBlob, .ref q_integer, .ref q_size, .ref q_blobs, .int v_length, .ref q_record, .int v_kind, .int v_cells, .int v_last, .ref q_cellLength, .ref q_row, .int v_made, .ref q_cell, .int v_deep, .ref q_way, .ref q_turn, .int v_at, .int s_1, .ref q_used])), (q_record, .inl (cI, 700, .inl v_record))]) (WS2 := [(q_this, .inr (8, [.ref q_now, .ref q_disk, .ref q_before, .int v_onDisk, .int v_head, .int v_headPages, .int v_records, .ref q_recordPage, .ref q_recordBytes, .int v_up, .int v_armed, .int v_columns, .ref q_isBlob, .ref q_integer, .ref q_size, .ref q_blobs, .int v_length, .ref q_record, .int v_kind, .int v_cells, .int v_last, .ref q_cellLength, .ref q_row, .int v_made, .ref q_cell, .int v_deep, .ref q_way, .ref q_turn, .int v_at, .int s_1, .ref q_used])), (q_record, .inl (cI, 700, .inl v_record))]) (pu_rs (pu_in11 _ (List.mem_of_getElem? (i := 17) rfl)) (pu_in11 _ (List.mem_of_getElem? (i := 18) rfl)) (pu_in0 _ (List.mem_of_getElem? (i := 10) rfl)) (pu_in11 _ (List.mem_of_getElem? (i := 19) rfl)) hd_MD_bytesOf (by decide) ⟨rfl, rfl⟩ rfl rfl (Nat.le_of_ble_eq_true rfl) (As := [.int x_4]) (rest := [.int x_2]) (WC := []) hx hb hml hown hts hN hK hP hD (c_MD_bytesOf l D cI cJ cB cZ H.size x_4 r8 hc) [] rfl rfl hl.1 d_MD_wellRecord_118) hP hD hS hA [] [0, 1] [0, 1] rfl rfl rfl (by decide) rfl rfl (fun H locs hP hD hS => ?_)
          exact lb_121 v_at s_1 x_3 x_2 r8 H locs ls hP hD hS (lv_sub hl [0, 1, 3] rfl) hf
        have hf := pu_br_neg hf hc
        refine lv_iconst (v := 0) hx hb d_MD_wellRecord_112 rfl ?_
        refine lv_goto (tgt := 121) hx hb d_MD_wellRecord_113 rfl ?_
        exact lb_121 v_at s_1 x_3 x_2 (0 : Int32) H locs ls hP hD hS (lv_sub hl [0, 1, 3] rfl) hf
      have lb_96 : ∀ (v_at : Int32) (v_bad : Int32) (x_2 : Int32) (x_3 : Int32) (x_4 : Int32) (H : Heap) (locs : List Loc) (ls : Array Slot), va_P D pu_cl [(q_this, .inr (8, [.ref q_now, .ref q_disk, .ref q_before, .int v_onDisk, .int v_head, .int v_headPages, .int v_records, .ref q_recordPage, .ref q_recordBytes, .int v_up, .int v_armed, .int v_columns, .ref q_isBlob, .ref q_integer, .ref q_size, .ref q_blobs, .int v_length, .ref q_record, .int v_kind, .int v_cells, .int v_last, .ref q_cellLength, .ref q_row, .int v_made, .ref q_cell, .int v_deep, .ref q_way, .ref q_turn, .int v_at, .int v_bad, .ref q_used])), (q_record, .inl (cI, 700, .inl v_record))] H → va_D A [(q_this, .inr (8, [.ref q_now, .ref q_disk, .ref q_before, .int v_onDisk, .int v_head, .int v_headPages, .int v_records, .ref q_recordPage, .ref q_recordBytes, .int v_up, .int v_armed, .int v_columns, .ref q_isBlob, .ref q_integer, .ref q_size, .ref q_blobs, .int v_length, .ref q_record, .int v_kind, .int v_cells, .int v_last, .ref q_cellLength, .ref q_row, .int v_made, .ref q_cell, .int v_deep, .ref q_way, .ref q_turn, .int v_at, .int v_bad, .ref q_used])), (q_record, .inl (cI, 700, .inl v_record))] → va_S A s.heap H locs → lv_has ls 5 [(0, .ref q_this), (1, .int x_1), (2, .int x_2), (3, .int x_3), (4, .int x_4)] → q_MD_wellRecord_96 (q_MD_wellRecord_44 (fun v_at v_bad x_2 x_3 => q_MD_wellRecord_126 v_length v_record v_at v_bad x_2 x_3) v_length v_record x_1 n44) (fun v_at v_bad x_2 x_3 => q_MD_wellRecord_126 v_length v_record v_at v_bad x_2 x_3) v_length v_record v_at v_bad x_1 x_2 x_3 x_4 = some (o_r, o_at, o_bad) → W p l e rm_MD_wellRecord s m args below meth c H locs 0 0 Q (F0 m 96 ls [.ref q_this]) := by
        intro v_at v_bad x_2 x_3 x_4 H locs ls hP hD hS hl hf
        rw [q_MD_wellRecord_96] at hf
        refine lv_iconst (v := 1) hx hb d_MD_wellRecord_96 rfl ?_
        refine lv_goto (tgt := 101) hx hb d_MD_wellRecord_97 rfl ?_
        exact lb_101 v_at v_bad x_2 x_3 x_4 (1 : Int32) H locs ls hP hD hS (lv_sub hl [0, 1, 2, 3, 4] rfl) hf
      intro v_at v_bad x_2 x_3 H locs ls hP hD hS hl hf
      rw [q_MD_wellRecord_44] at hf
      refine lv_aload_n hx hb d_MD_wellRecord_44 rfl (lv_at hl 0 rfl) ?_
      refine gf_MD_132 (v := .int v_at) hx hb hts hN hown hK hP 0 rfl rfl d_MD_wellRecord_45 ?_
      refine lv_iload_n hx hb d_MD_wellRecord_48 rfl (lv_at hl 1 rfl) ?_
      refine lv_icmp_ge (tgt := 126) hx hb d_MD_wellRecord_49 rfl (fun hc => ?_) (fun hc => ?_)
      · have hf := pu_br_pos hf hc
        exact lb_126 v_at v_bad x_2 x_3 H locs ls hP hD hS (lv_sub hl [0, 2, 3] rfl) hf
      have hf := pu_br_neg hf hc
      refine lv_aload_n hx hb d_MD_wellRecord_52 rfl (lv_at hl 0 rfl) ?_
      refine gf_MD_129 (v := .int v_bad) hx hb hts hN hown hK hP 0 rfl rfl d_MD_wellRecord_53 ?_
      refine lv_if_ne (tgt := 126) hx hb d_MD_wellRecord_56 rfl (fun hc => ?_) (fun hc => ?_)
      · have hf := pu_br_neg hf hc
        exact lb_126 v_at v_bad x_2 x_3 H locs ls hP hD hS (lv_sub hl [0, 2, 3] rfl) hf
      have hf := pu_br_pos hf hc
      refine lv_aload_n hx hb d_MD_wellRecord_59 rfl (lv_at hl 0 rfl) ?_
      refine lv_aload_n hx hb d_MD_wellRecord_60 rfl (lv_at hl 0 rfl) ?_
      refine gf_MD_50 (v := .ref q_record) hx hb hts hN hown hK hP 0 rfl rfl d_MD_wellRecord_61 ?_
      refine lv_iload_n hx hb d_MD_wellRecord_64 rfl (lv_at hl 1 rfl) ?_
      obtain ⟨r4, w5, w6, hc, hf⟩ := pu_b3_some hf
      refine cl_i (WC := [(q_this, .inr (8, [.ref q_now, .ref q_disk, .ref q_before, .int v_onDisk, .int v_head, .int v_headPages, .int v_records, .ref q_recordPage, .ref q_recordBytes, .int v_up, .int v_armed, .int v_columns, .ref q_isBlob, .ref q_integer, .ref q_size, .ref q_blobs, .int v_length, .ref q_record, .int v_kind, .int v_cells, .int v_last, .ref q_cellLength, .ref q_row, .int v_made, .ref q_cell, .int v_deep, .ref q_way, .ref q_turn, .int v_at, .int v_bad, .ref q_used])), (q_record, .inl (cI, 700, .inl v_record))]) (WC2 := [(q_this, .inr (8, [.ref q_now, .ref q_disk, .ref q_before, .int v_onDisk, .int v_head, .int v_headPages, .int v_records, .ref q_recordPage, .ref q_recordBytes, .int v_up, .int v_armed, .int v_columns, .ref q_isBlob, .ref q_integer, .ref q_size, .ref q_blobs, .int v_length, .ref q_record, .int v_kind, .int v_cells, .int v_last, .ref q_cellLength, .ref q_row, .int v_made, .ref q_cell, .int v_deep, .ref q_way, .ref q_turn, .int w5, .int w6, .ref q_used])), (q_record, .inl (cI, 700, .inl v_record))]) (WR := []) (WS2 := [(q_this, .inr (8, [.ref q_now, .ref q_disk, .ref q_before, .int v_onDisk, .int v_head, .int v_headPages, .int v_records, .ref q_recordPage, .ref q_recordBytes, .int v_up, .int v_armed, .int v_columns, .ref q_isBlob, .ref q_integer, .ref q_size, .ref q_blobs, .int v_length, .ref q_record, .int v_kind, .int v_cells, .int v_last, .ref q_cellLength, .ref q_row, .int v_made, .ref q_cell, .int v_deep, .ref q_way, .ref q_turn, .int w5, .int w6, .ref q_used])), (q_record, .inl (cI, 700, .inl v_record))]) (pu_rv (cl := pu_cl) (pu_in10 _ (List.mem_of_getElem? (i := 57) rfl)) (pu_in10 _ (List.mem_of_getElem? (i := 58) rfl)) (pu_in14 _ (List.mem_of_getElem? (i := 16) rfl)) (pu_in0 _ (List.mem_of_getElem? (i := 10) rfl)) (pu_in10 _ (List.mem_of_getElem? (i := 59) rfl)) (ci := 8) rfl hd_MD_read (by decide) ⟨rfl, rfl⟩ rfl rfl (Nat.le_of_ble_eq_true rfl) rfl (As := [.ref q_record, .int x_1]) (rest := []) (WC := [(q_this, .inr (8, [.ref q_now, .ref q_disk, .ref q_before, .int v_onDisk, .int v_head, .int v_headPages, .int v_records, .ref q_recordPage, .ref q_recordBytes, .int v_up, .int v_armed, .int v_columns, .ref q_isBlob, .ref q_integer, .ref q_size, .ref q_blobs, .int v_length, .ref q_record, .int v_kind, .int v_cells, .int v_last, .ref q_cellLength, .ref q_row, .int v_made, .ref q_cell, .int v_deep, .ref q_way, .ref q_turn, .int v_at, .int v_bad, .ref q_used])), (q_record, .inl (cI, 700, .inl v_record))]) hx hb hml hown hts hN hK hP hD (c_MD_read l D cI cJ cB cZ H.size q_this q_now q_disk q_before q_recordPage q_recordBytes q_isBlob q_integer q_size q_blobs q_record q_cellLength q_row q_cell q_way q_turn q_used q_record 700 v_onDisk v_head v_headPages v_records v_up v_armed v_columns v_length v_kind v_cells v_last v_made v_deep v_at v_bad v_record x_1 r4 w5 w6 hc) [0, 1] rfl rfl hl.1 d_MD_wellRecord_65) hP hD hS hA [0, 1] [] [0, 1] rfl rfl rfl (by decide) rfl rfl (fun H locs hP hD hS => ?_)
      refine lv_istore hx hb d_MD_wellRecord_68 hl (by decide) rfl (fun ls hl => ?_)
      have hl : lv_has ls 5 [(4, .int r4), (0, .ref q_this), (1, .int x_1), (2, .int x_2), (3, .int x_3)] := hl
      obtain ⟨t7, e_t7, hf⟩ := pu_nm_some hf
      refine lv_iinc (k := 4) (v := t7) hx hb d_MD_wellRecord_70 hl rfl e_t7.symm (by decide) rfl (fun ls hl => ?_)
      have hl : lv_has ls 5 [(3, .int t7), (4, .int r4), (0, .ref q_this), (1, .int x_1), (2, .int x_2)] := hl
      refine lv_aload_n hx hb d_MD_wellRecord_73 rfl (lv_at hl 2 rfl) ?_
      refine lv_aload_n hx hb d_MD_wellRecord_74 rfl (lv_at hl 2 rfl) ?_
      refine gf_MD_129 (v := .int w6) hx hb hts hN hown hK hP 0 rfl rfl d_MD_wellRecord_75 ?_
      refine lv_if_ne (tgt := 96) hx hb d_MD_wellRecord_78 rfl (fun hc => ?_) (fun hc => ?_)
      · have hf := pu_br_neg hf hc
        exact lb_96 w5 w6 x_2 t7 r4 H locs ls hP hD hS (lv_sub hl [2, 3, 4, 0, 1] rfl) hf
      have hf := pu_br_pos hf hc
      refine lv_iload_n hx hb d_MD_wellRecord_81 rfl (lv_at hl 0 rfl) ?_
      refine lv_iconst (v := 3) hx hb d_MD_wellRecord_82 rfl ?_
      refine lv_icmp_gt (tgt := 96) hx hb d_MD_wellRecord_83 rfl (fun hc => ?_) (fun hc => ?_)
      · have hf := pu_br_pos hf hc
        exact lb_96 w5 w6 x_2 t7 r4 H locs ls hP hD hS (lv_sub hl [2, 3, 4, 0, 1] rfl) hf
      have hf := pu_br_neg hf hc
      refine lv_aload_n hx hb d_MD_wellRecord_86 rfl (lv_at hl 2 rfl) ?_
      refine lv_iload hx hb d_MD_wellRecord_87 (lv_at hl 1 rfl) ?_
      refine lv_iload_n hx hb d_MD_wellRecord_89 rfl (lv_at hl 4 rfl) ?_
      obtain ⟨r10, hc, hf⟩ := pu_b1_some hf
      refine cl_i (WC := [(q_this, .inr (8, [.ref q_now, .ref q_disk, .ref q_before, .int v_onDisk, .int v_head, .int v_headPages, .int v_records, .ref q_recordPage, .ref q_recordBytes, .int v_up, .int v_armed, .int v_columns, .ref q_isBlob, .ref q_integer, .ref q_size, .ref q_blobs, .int v_length, .ref q_record, .int v_kind, .int v_cells, .int v_last, .ref q_cellLength, .ref q_row, .int v_made, .ref q_cell, .int v_deep, .ref q_way, .ref q_turn, .int w5, .int w6, .ref q_used])), (q_record, .inl (cI, 700, .inl v_record))]) (WC2 := [(q_this, .inr (8, [.ref q_now, .ref q_disk, .ref q_before, .int v_onDisk, .int v_head, .int v_headPages, .int v_records, .ref q_recordPage, .ref q_recordBytes, .int v_up, .int v_armed, .int v_columns, .ref q_isBlob, .ref q_integer, .ref q_size, .ref q_blobs, .int v_length, .ref q_record, .int v_kind, .int v_cells, .int v_last, .ref q_cellLength, .ref q_row, .int v_made, .ref q_cell, .int v_deep, .ref q_way, .ref q_turn, .int w5, .int w6, .ref q_used])), (q_record, .inl (cI, 700, .inl v_record))]) (WR := []) (WS2 := [(q_this, .inr (8, [.ref q_now, .ref q_disk, .ref q_before, .int v_onDisk, .int v_head, .int v_headPages, .int v_records, .ref q_recordPage, .ref q_recordBytes, .int v_up, .int v_armed, .int v_columns, .ref q_isBlob, .ref q_integer, .ref q_size, .ref q_blobs, .int v_length, .ref q_record, .int v_kind, .int v_cells, .int v_last, .ref q_cellLength, .ref q_row, .int v_made, .ref q_cell, .int v_deep, .ref q_way, .ref q_turn, .int w5, .int w6, .ref q_used])), (q_record, .inl (cI, 700, .inl v_record))]) (pu_rv (cl := pu_cl) (pu_in12 _ (List.mem_of_getElem? (i := 63) rfl)) (pu_in13 _ (List.mem_of_getElem? (i := 0) rfl)) (pu_in14 _ (List.mem_of_getElem? (i := 46) rfl)) (pu_in0 _ (List.mem_of_getElem? (i := 10) rfl)) (pu_in13 _ (List.mem_of_getElem? (i := 1) rfl)) (ci := 8) rfl hd_MD_wellValue (by decide) ⟨rfl, rfl⟩ rfl rfl (Nat.le_of_ble_eq_true rfl) rfl (As := [.int r4, .int x_2]) (rest := [.ref q_this]) (WC := [(q_this, .inr (8, [.ref q_now, .ref q_disk, .ref q_before, .int v_onDisk, .int v_head, .int v_headPages, .int v_records, .ref q_recordPage, .ref q_recordBytes, .int v_up, .int v_armed, .int v_columns, .ref q_isBlob, .ref q_integer, .ref q_size, .ref q_blobs, .int v_length, .ref q_record, .int v_kind, .int v_cells, .int v_last, .ref q_cellLength, .ref q_row, .int v_made, .ref q_cell, .int v_deep, .ref q_way, .ref q_turn, .int w5, .int w6, .ref q_used])), (q_record, .inl (cI, 700, .inl v_record))]) hx hb hml hown hts hN hK hP hD (c_MD_wellValue l D cI cJ cB cZ H.size q_this q_now q_disk q_before q_recordPage q_recordBytes q_isBlob q_integer q_size q_blobs q_record q_cellLength q_row q_cell q_way q_turn q_used v_onDisk v_head v_headPages v_records v_up v_armed v_columns v_length v_kind v_cells v_last v_made v_deep w5 w6 v_record r4 x_2 r10 hc) [0, 1] rfl rfl hl.1 d_MD_wellRecord_90) hP hD hS hA [0, 1] [] [0, 1] rfl rfl rfl (by decide) rfl rfl (fun H locs hP hD hS => ?_)
      refine lv_if_ne (tgt := 100) hx hb d_MD_wellRecord_93 rfl (fun hc => ?_) (fun hc => ?_)
      · have hf := pu_br_neg hf hc
        refine lv_iconst (v := 0) hx hb d_MD_wellRecord_100 rfl ?_
        exact lb_101 w5 w6 x_2 t7 r4 (0 : Int32) H locs ls hP hD hS (lv_sub hl [2, 3, 4, 0, 1] rfl) hf
      have hf := pu_br_pos hf hc
      exact lb_96 w5 w6 x_2 t7 r4 H locs ls hP hD hS (lv_sub hl [2, 3, 4, 0, 1] rfl) hf
  obtain ⟨H, hH⟩ : ∃ H, H = s.heap := ⟨_, rfl⟩
  obtain ⟨locs, hlocs⟩ : ∃ locs : List Loc, locs = [] := ⟨_, rfl⟩
  have hP : va_P D pu_cl [(q_this, .inr (8, [.ref q_now, .ref q_disk, .ref q_before, .int v_onDisk, .int v_head, .int v_headPages, .int v_records, .ref q_recordPage, .ref q_recordBytes, .int v_up, .int v_armed, .int v_columns, .ref q_isBlob, .ref q_integer, .ref q_size, .ref q_blobs, .int v_length, .ref q_record, .int v_kind, .int v_cells, .int v_last, .ref q_cellLength, .ref q_row, .int v_made, .ref q_cell, .int v_deep, .ref q_way, .ref q_turn, .int v_at, .int v_bad, .ref q_used])), (q_record, .inl (cI, 700, .inl v_record))] H := by rw [hH]; exact hP
  have hS : va_S A s.heap H locs := by rw [hH, hlocs]; exact hS
  have goal : W p l e rm_MD_wellRecord s m args below meth c H locs 0 0 Q (F0 m 0 ls []) := by
    clear hH hlocs
    refine lv_aload_n hx hb d_MD_wellRecord_0 rfl (lv_at hl 0 rfl) ?_
    refine lv_iconst (v := 0) hx hb d_MD_wellRecord_1 rfl ?_
    refine pf_MD_132 (v := .int (0 : Int32)) hx hb hts hN hown hK hP hD hS 0 rfl rfl rfl (Nat.le_of_ble_eq_true rfl) d_MD_wellRecord_2 (fun H locs hP hD hS => ?_)
    have hP : va_P D pu_cl [(q_this, .inr (8, [.ref q_now, .ref q_disk, .ref q_before, .int v_onDisk, .int v_head, .int v_headPages, .int v_records, .ref q_recordPage, .ref q_recordBytes, .int v_up, .int v_armed, .int v_columns, .ref q_isBlob, .ref q_integer, .ref q_size, .ref q_blobs, .int v_length, .ref q_record, .int v_kind, .int v_cells, .int v_last, .ref q_cellLength, .ref q_row, .int v_made, .ref q_cell, .int v_deep, .ref q_way, .ref q_turn, .int (0 : Int32), .int v_bad, .ref q_used])), (q_record, .inl (cI, 700, .inl v_record))] H := hP
    have hD : va_D A [(q_this, .inr (8, [.ref q_now, .ref q_disk, .ref q_before, .int v_onDisk, .int v_head, .int v_headPages, .int v_records, .ref q_recordPage, .ref q_recordBytes, .int v_up, .int v_armed, .int v_columns, .ref q_isBlob, .ref q_integer, .ref q_size, .ref q_blobs, .int v_length, .ref q_record, .int v_kind, .int v_cells, .int v_last, .ref q_cellLength, .ref q_row, .int v_made, .ref q_cell, .int v_deep, .ref q_way, .ref q_turn, .int (0 : Int32), .int v_bad, .ref q_used])), (q_record, .inl (cI, 700, .inl v_record))] := hD
    refine lv_aload_n hx hb d_MD_wellRecord_5 rfl (lv_at hl 0 rfl) ?_
    refine lv_iconst (v := 0) hx hb d_MD_wellRecord_6 rfl ?_
    refine pf_MD_129 (v := .int (0 : Int32)) hx hb hts hN hown hK hP hD hS 0 rfl (by decide) (by decide) (Nat.le_of_ble_eq_true rfl) d_MD_wellRecord_7 (fun H locs hP hD hS => ?_)
    have hP : va_P D pu_cl [(q_this, .inr (8, [.ref q_now, .ref q_disk, .ref q_before, .int v_onDisk, .int v_head, .int v_headPages, .int v_records, .ref q_recordPage, .ref q_recordBytes, .int v_up, .int v_armed, .int v_columns, .ref q_isBlob, .ref q_integer, .ref q_size, .ref q_blobs, .int v_length, .ref q_record, .int v_kind, .int v_cells, .int v_last, .ref q_cellLength, .ref q_row, .int v_made, .ref q_cell, .int v_deep, .ref q_way, .ref q_turn, .int (0 : Int32), .int (0 : Int32), .ref q_used])), (q_record, .inl (cI, 700, .inl v_record))] H := hP
    have hD : va_D A [(q_this, .inr (8, [.ref q_now, .ref q_disk, .ref q_before, .int v_onDisk, .int v_head, .int v_headPages, .int v_records, .ref q_recordPage, .ref q_recordBytes, .int v_up, .int v_armed, .int v_columns, .ref q_isBlob, .ref q_integer, .ref q_size, .ref q_blobs, .int v_length, .ref q_record, .int v_kind, .int v_cells, .int v_last, .ref q_cellLength, .ref q_row, .int v_made, .ref q_cell, .int v_deep, .ref q_way, .ref q_turn, .int (0 : Int32), .int (0 : Int32), .ref q_used])), (q_record, .inl (cI, 700, .inl v_record))] := hD
    refine lv_aload_n hx hb d_MD_wellRecord_10 rfl (lv_at hl 0 rfl) ?_
    refine lv_aload_n hx hb d_MD_wellRecord_11 rfl (lv_at hl 0 rfl) ?_
    refine gf_MD_50 (v := .ref q_record) hx hb hts hN hown hK hP 0 rfl rfl d_MD_wellRecord_12 ?_
    refine lv_aload_n hx hb d_MD_wellRecord_15 rfl (lv_at hl 0 rfl) ?_
    refine gf_MD_91 (v := .int v_length) hx hb hts hN hown hK hP 0 rfl rfl d_MD_wellRecord_16 ?_
    obtain ⟨r1, w2, w3, hc, hf⟩ := pu_b3_some hf
    refine cl_i (WC := [(q_this, .inr (8, [.ref q_now, .ref q_disk, .ref q_before, .int v_onDisk, .int v_head, .int v_headPages, .int v_records, .ref q_recordPage, .ref q_recordBytes, .int v_up, .int v_armed, .int v_columns, .ref q_isBlob, .ref q_integer, .ref q_size, .ref q_blobs, .int v_length, .ref q_record, .int v_kind, .int v_cells, .int v_last, .ref q_cellLength, .ref q_row, .int v_made, .ref q_cell, .int v_deep, .ref q_way, .ref q_turn, .int (0 : Int32), .int (0 : Int32), .ref q_used])), (q_record, .inl (cI, 700, .inl v_record))]) (WC2 := [(q_this, .inr (8, [.ref q_now, .ref q_disk, .ref q_before, .int v_onDisk, .int v_head, .int v_headPages, .int v_records, .ref q_recordPage, .ref q_recordBytes, .int v_up, .int v_armed, .int v_columns, .ref q_isBlob, .ref q_integer, .ref q_size, .ref q_blobs, .int v_length, .ref q_record, .int v_kind, .int v_cells, .int v_last, .ref q_cellLength, .ref q_row, .int v_made, .ref q_cell, .int v_deep, .ref q_way, .ref q_turn, .int w2, .int w3, .ref q_used])), (q_record, .inl (cI, 700, .inl v_record))]) (WR := []) (WS2 := [(q_this, .inr (8, [.ref q_now, .ref q_disk, .ref q_before, .int v_onDisk, .int v_head, .int v_headPages, .int v_records, .ref q_recordPage, .ref q_recordBytes, .int v_up, .int v_armed, .int v_columns, .ref q_isBlob, .ref q_integer, .ref q_size, .ref q_blobs, .int v_length, .ref q_record, .int v_kind, .int v_cells, .int v_last, .ref q_cellLength, .ref q_row, .int v_made, .ref q_cell, .int v_deep, .ref q_way, .ref q_turn, .int w2, .int w3, .ref q_used])), (q_record, .inl (cI, 700, .inl v_record))]) (pu_rv (cl := pu_cl) (pu_in10 _ (List.mem_of_getElem? (i := 57) rfl)) (pu_in10 _ (List.mem_of_getElem? (i := 58) rfl)) (pu_in14 _ (List.mem_of_getElem? (i := 16) rfl)) (pu_in0 _ (List.mem_of_getElem? (i := 10) rfl)) (pu_in10 _ (List.mem_of_getElem? (i := 59) rfl)) (ci := 8) rfl hd_MD_read (by decide) ⟨rfl, rfl⟩ rfl rfl (Nat.le_of_ble_eq_true rfl) rfl (As := [.ref q_record, .int v_length]) (rest := []) (WC := [(q_this, .inr (8, [.ref q_now, .ref q_disk, .ref q_before, .int v_onDisk, .int v_head, .int v_headPages, .int v_records, .ref q_recordPage, .ref q_recordBytes, .int v_up, .int v_armed, .int v_columns, .ref q_isBlob, .ref q_integer, .ref q_size, .ref q_blobs, .int v_length, .ref q_record, .int v_kind, .int v_cells, .int v_last, .ref q_cellLength, .ref q_row, .int v_made, .ref q_cell, .int v_deep, .ref q_way, .ref q_turn, .int (0 : Int32), .int (0 : Int32), .ref q_used])), (q_record, .inl (cI, 700, .inl v_record))]) hx hb hml hown hts hN hK hP hD (c_MD_read l D cI cJ cB cZ H.size q_this q_now q_disk q_before q_recordPage q_recordBytes q_isBlob q_integer q_size q_blobs q_record q_cellLength q_row q_cell q_way q_turn q_used q_record 700 v_onDisk v_head v_headPages v_records v_up v_armed v_columns v_length v_kind v_cells v_last v_made v_deep (0 : Int32) (0 : Int32) v_record v_length r1 w2 w3 hc) [0, 1] rfl rfl hl.1 d_MD_wellRecord_19) hP hD hS hA [0, 1] [] [0, 1] rfl rfl rfl (by decide) rfl rfl (fun H locs hP hD hS => ?_)
    refine lv_istore_n hx hb d_MD_wellRecord_22 rfl hl (by decide) rfl (fun ls hl => ?_)
    have hl : lv_has ls 5 [(1, .int r1), (0, .ref q_this)] := hl
    refine lv_aload_n hx hb d_MD_wellRecord_23 rfl (lv_at hl 1 rfl) ?_
    refine gf_MD_129 (v := .int w3) hx hb hts hN hown hK hP 0 rfl rfl d_MD_wellRecord_24 ?_
    refine lv_if_ne (tgt := 38) hx hb d_MD_wellRecord_27 rfl (fun hc => ?_) (fun hc => ?_)
    · have hf := pu_br_neg hf hc
      refine lv_iconst (v := 0) hx hb d_MD_wellRecord_38 rfl ?_
      exact hret _ _ _ _ (0 : Int32) w2 w3 d_MD_wellRecord_39 (by decide) hP hD hS hf
    have hf := pu_br_pos hf hc
    refine lv_iload_n hx hb d_MD_wellRecord_30 rfl (lv_at hl 0 rfl) ?_
    refine lv_aload_n hx hb d_MD_wellRecord_31 rfl (lv_at hl 1 rfl) ?_
    refine gf_MD_91 (v := .int v_length) hx hb hts hN hown hK hP 0 rfl rfl d_MD_wellRecord_32 ?_
    refine lv_icmp_le (tgt := 40) hx hb d_MD_wellRecord_35 rfl (fun hc => ?_) (fun hc => ?_)
    · have hf := pu_br_pos hf hc
      refine lv_iload_n hx hb d_MD_wellRecord_40 rfl (lv_at hl 0 rfl) ?_
      refine lv_istore_n hx hb d_MD_wellRecord_41 rfl hl (by decide) rfl (fun ls hl => ?_)
      have hl : lv_has ls 5 [(2, .int r1), (1, .int r1), (0, .ref q_this)] := hl
      refine lv_iconst (v := 0) hx hb d_MD_wellRecord_42 rfl ?_
      refine lv_istore_n hx hb d_MD_wellRecord_43 rfl hl (by decide) rfl (fun ls hl => ?_)
      have hl : lv_has ls 5 [(3, .int (0 : Int32)), (2, .int r1), (1, .int r1), (0, .ref q_this)] := hl
      exact lp_44 r1 _ w2 w3 r1 (0 : Int32) H locs ls hP hD hS (lv_sub hl [3, 2, 1, 0] rfl) hf
    have hf := pu_br_neg hf hc
    refine lv_iconst (v := 0) hx hb d_MD_wellRecord_38 rfl ?_
    exact hret _ _ _ _ (0 : Int32) w2 w3 d_MD_wellRecord_39 (by decide) hP hD hS hf
  rw [hH, hlocs] at goal
  exact goal
