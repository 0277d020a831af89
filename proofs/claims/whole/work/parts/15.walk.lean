theorem d_Disk_startJournal_0 : decode b_Disk_startJournal 0 = .ok (.aload_n 0, 1) := by decide +kernel
theorem d_Disk_startJournal_1 : decode b_Disk_startJournal 1 = .ok (.getfield 18, 3) := by decide +kernel
theorem d_Disk_startJournal_4 : decode b_Disk_startJournal 4 = .ok (.aload_n 0, 1) := by decide +kernel
theorem d_Disk_startJournal_5 : decode b_Disk_startJournal 5 = .ok (.getfield 12, 3) := by decide +kernel
theorem d_Disk_startJournal_8 : decode b_Disk_startJournal 8 = .ok (.getfield 28, 3) := by decide +kernel
theorem d_Disk_startJournal_11 : decode b_Disk_startJournal 11 = .ok (.putfield 28, 3) := by decide +kernel
theorem d_Disk_startJournal_14 : decode b_Disk_startJournal 14 = .ok (.aload_n 0, 1) := by decide +kernel
theorem d_Disk_startJournal_15 : decode b_Disk_startJournal 15 = .ok (.iconst 0, 1) := by decide +kernel
theorem d_Disk_startJournal_16 : decode b_Disk_startJournal 16 = .ok (.putfield 36, 3) := by decide +kernel
theorem d_Disk_startJournal_19 : decode b_Disk_startJournal 19 = .ok (.iconst 0, 1) := by decide +kernel
theorem d_Disk_startJournal_20 : decode b_Disk_startJournal 20 = .ok (.istore_n 1, 1) := by decide +kernel
theorem d_Disk_startJournal_21 : decode b_Disk_startJournal 21 = .ok (.iload_n 1, 1) := by decide +kernel
theorem d_Disk_startJournal_22 : decode b_Disk_startJournal 22 = .ok (.bipush 24, 2) := by decide +kernel
theorem d_Disk_startJournal_24 : decode b_Disk_startJournal 24 = .ok (.if_icmp .gt 16, 3) := by decide +kernel
theorem d_Disk_startJournal_27 : decode b_Disk_startJournal 27 = .ok (.aload_n 0, 1) := by decide +kernel
theorem d_Disk_startJournal_28 : decode b_Disk_startJournal 28 = .ok (.getfield 21, 3) := by decide +kernel
theorem d_Disk_startJournal_31 : decode b_Disk_startJournal 31 = .ok (.iload_n 1, 1) := by decide +kernel
theorem d_Disk_startJournal_32 : decode b_Disk_startJournal 32 = .ok (.iconst 0, 1) := by decide +kernel
theorem d_Disk_startJournal_33 : decode b_Disk_startJournal 33 = .ok (.bastore, 1) := by decide +kernel
theorem d_Disk_startJournal_34 : decode b_Disk_startJournal 34 = .ok (.iinc 1 1, 3) := by decide +kernel
theorem d_Disk_startJournal_37 : decode b_Disk_startJournal 37 = .ok (.goto (-16), 3) := by decide +kernel
theorem d_Disk_startJournal_40 : decode b_Disk_startJournal 40 = .ok (.return_, 1) := by decide +kernel
noncomputable def q_Disk_startJournal_21 (v_file_count : Int32) (v_headRecords : Int32) (v_records_count : Int32) : Nat → (Nat → Int32) → Int32 → Option (Int32 × Int32 × (Nat → Int32))
  | 0, _, _ => none
  | n + 1, v_recorded, x_1 => pu_br ((24 : Int32) < x_1) (some (v_headRecords, v_records_count, v_recorded)) (pu_ck (vp_in x_1 25) (pu_nm (upd v_recorded x_1.toNatClampNeg (vp_nar .boolean (0 : Int32))) (fun a1 => pu_nm (x_1 + (1 : Int32)) (fun t2 => q_Disk_startJournal_21 v_file_count v_headRecords v_records_count n a1 t2))))
noncomputable def f_Disk_startJournal (v_file_count : Int32) (v_headRecords : Int32) (v_records_count : Int32) (v_recorded : Nat → Int32) : Option (Int32 × Int32 × (Nat → Int32)) :=
  q_Disk_startJournal_21 v_file_count (0 : Int32) v_file_count pu_fu v_recorded (0 : Int32)
abbrev rm_Disk_startJournal : Room := { frames := 0, cells := 0, slots := 0, locals := 0 }
set_option maxHeartbeats 8000000 in
set_option maxRecDepth 100000 in
theorem c_Disk_startJournal (l : Launch) (D : va_G) (cI cJ cB cZ : ClassId) (sz : Nat) (q_this : Nat) (q_file : Nat) (q_records : Nat) (q_recorded : Nat) (q_different : Nat) (q_file_bytes : Nat) (q_records_bytes : Nat) (v_headThere : Int32) (v_headPages : Int32) (v_headRecords : Int32) (v_file_count : Int32) (v_records_count : Int32) (v_recorded : Nat → Int32) (o_headRecords : Int32) (o_records_count : Int32) (o_recorded : Nat → Int32) (hf : f_Disk_startJournal v_file_count v_headRecords v_records_count v_recorded = some (o_headRecords, o_records_count, o_recorded)) : Met l y_Disk_startJournal (.code y_Disk_startJournal b_Disk_startJournal 2 none :: pu_wA) rm_Disk_startJournal (pu_pc D pu_cl (pu_ty cI cJ cB cZ) [.ref q_this] [(q_this, .inr (4, [.ref q_file, .ref q_records, .ref q_recorded, .ref q_different, .int v_headThere, .int v_headPages, .int v_headRecords])), (q_file, .inr (0, [.ref q_file_bytes, .int v_file_count])), (q_records, .inr (0, [.ref q_records_bytes, .int v_records_count])), (q_recorded, .inl (cZ, 25, .inl v_recorded))] sz) (pu_qv D pu_cl (pu_ty cI cJ cB cZ) [(q_this, .inr (4, [.ref q_file, .ref q_records, .ref q_recorded, .ref q_different, .int v_headThere, .int v_headPages, .int v_headRecords])), (q_file, .inr (0, [.ref q_file_bytes, .int v_file_count])), (q_records, .inr (0, [.ref q_records_bytes, .int v_records_count])), (q_recorded, .inl (cZ, 25, .inl v_recorded))] [(q_this, .inr (4, [.ref q_file, .ref q_records, .ref q_recorded, .ref q_different, .int v_headThere, .int v_headPages, .int o_headRecords])), (q_file, .inr (0, [.ref q_file_bytes, .int v_file_count])), (q_records, .inr (0, [.ref q_records_bytes, .int o_records_count])), (q_recorded, .inl (cZ, 25, .inl o_recorded))] sz) 0 0 (va_A [(q_this, .inr (4, [.ref q_file, .ref q_records, .ref q_recorded, .ref q_different, .int v_headThere, .int v_headPages, .int v_headRecords])), (q_file, .inr (0, [.ref q_file_bytes, .int v_file_count])), (q_records, .inr (0, [.ref q_records_bytes, .int v_records_count])), (q_recorded, .inl (cZ, 25, .inl v_recorded))] sz) := by
  refine pu_mtv [.ref q_this] [(q_this, .inr (4, [.ref q_file, .ref q_records, .ref q_recorded, .ref q_different, .int v_headThere, .int v_headPages, .int v_headRecords])), (q_file, .inr (0, [.ref q_file_bytes, .int v_file_count])), (q_records, .inr (0, [.ref q_records_bytes, .int v_records_count])), (q_recorded, .inl (cZ, 25, .inl v_recorded))] [(q_this, .inr (4, [.ref q_file, .ref q_records, .ref q_recorded, .ref q_different, .int v_headThere, .int v_headPages, .int o_headRecords])), (q_file, .inr (0, [.ref q_file_bytes, .int v_file_count])), (q_records, .inr (0, [.ref q_records_bytes, .int o_records_count])), (q_recorded, .inl (cZ, 25, .inl o_recorded))] (by decide) (Nat.le_of_ble_eq_true rfl) ?_
  intro p e s m args below meth c A Q ls hx hb hml hts hN hown hK hA hP hD hl hret0
  have hS : va_S A s.heap s.heap [] := va_S.rf
  have hl : lv_has ls 2 [(0, .ref q_this)] := hl
  have hret : ∀ (pc : Nat) (ls : Array Slot) (H : Heap) (locs : List Loc) (y_0 : Int32) (y_1 : Int32) (y_2 : Nat → Int32), decode b_Disk_startJournal pc = .ok (.return_, 1) → va_P D pu_cl [(q_this, .inr (4, [.ref q_file, .ref q_records, .ref q_recorded, .ref q_different, .int v_headThere, .int v_headPages, .int y_0])), (q_file, .inr (0, [.ref q_file_bytes, .int v_file_count])), (q_records, .inr (0, [.ref q_records_bytes, .int y_1])), (q_recorded, .inl (cZ, 25, .inl y_2))] H → va_D A [(q_this, .inr (4, [.ref q_file, .ref q_records, .ref q_recorded, .ref q_different, .int v_headThere, .int v_headPages, .int y_0])), (q_file, .inr (0, [.ref q_file_bytes, .int v_file_count])), (q_records, .inr (0, [.ref q_records_bytes, .int y_1])), (q_recorded, .inl (cZ, 25, .inl y_2))] → va_S A s.heap H locs → some (y_0, y_1, y_2) = some (o_headRecords, o_records_count, o_recorded) → W p l e rm_Disk_startJournal s m args below meth c H locs 0 0 Q (F0 m pc ls []) := by
    intro pc ls H locs y_0 y_1 y_2 hd hP hD hS hf
    cases hf
    exact hret0 pc ls H locs hd hP hD hS
  clear hret0
  unfold f_Disk_startJournal at hf
  skip
  have lp_21 : ∀ (v_headRecords : Int32) (v_records_count : Int32) (n21 : Nat) (v_recorded : Nat → Int32) (x_1 : Int32) (H : Heap) (locs : List Loc) (ls : Array Slot), va_P D pu_cl [(q_this, .inr (4, [.ref q_file, .ref q_records, .ref q_recorded, .ref q_different, .int v_headThere, .int v_headPages, .int v_headRecords])), (q_file, .inr (0, [.ref q_file_bytes, .int v_file_count])), (q_records, .inr (0, [.ref q_records_bytes, .int v_records_count])), (q_recorded, .inl (cZ, 25, .inl v_recorded))] H → va_D A [(q_this, .inr (4, [.ref q_file, .ref q_records, .ref q_recorded, .ref q_different, .int v_headThere, .int v_headPages, .int v_headRecords])), (q_file, .inr (0, [.ref q_file_bytes, .int v_file_count])), (q_records, .inr (0, [.ref q_records_bytes, .int v_records_count])), (q_recorded, .inl (cZ, 25, .inl v_recorded))] → va_S A s.heap H locs → lv_has ls 2 [(0, .ref q_this), (1, .int x_1)] → q_Disk_startJournal_21 v_file_count v_headRecords v_records_count n21 v_recorded x_1 = some (o_headRecords, o_records_count, o_recorded) → W p l e rm_Disk_startJournal s m args below meth c H locs 0 0 Q (F0 m 21 ls []) := by
    intro v_headRecords v_records_count n21
    induction n21 with
    | zero =>
      intro v_recorded x_1 H locs ls hP hD hS hl hf
      rw [q_Disk_startJournal_21] at hf
      cases hf
    | succ n21 ih_21 =>
      intro v_recorded x_1 H locs ls hP hD hS hl hf
      rw [q_Disk_startJournal_21] at hf
      refine lv_iload_n hx hb d_Disk_startJournal_21 rfl (lv_at hl 1 rfl) ?_
      refine lv_bipush (v := 24) hx hb d_Disk_startJournal_22 rfl ?_
      refine lv_icmp_gt (tgt := 40) hx hb d_Disk_startJournal_24 rfl (fun hc => ?_) (fun hc => ?_)
      · have hf := pu_br_pos hf hc
        exact hret _ _ _ _ v_headRecords v_records_count v_recorded d_Disk_startJournal_40 hP hD hS hf
      have hf := pu_br_neg hf hc
      refine lv_aload_n hx hb d_Disk_startJournal_27 rfl (lv_at hl 0 rfl) ?_
      refine gf_Disk_21 (v := .ref q_recorded) hx hb hts hN hown hK hP 0 rfl rfl d_Disk_startJournal_28 ?_
      refine lv_iload_n hx hb d_Disk_startJournal_31 rfl (lv_at hl 1 rfl) ?_
      refine lv_iconst (v := 0) hx hb d_Disk_startJournal_32 rfl ?_
      obtain ⟨hin, hf⟩ := pu_ck_some hf
      obtain ⟨a1, e_a1, hf⟩ := pu_nm_some hf
      refine va_zast hx hb hK hP hD hS 3 3 rfl rfl hin d_Disk_startJournal_33 (fun H locs hP hD hS => ?_)
      have hP : va_P D pu_cl [(q_this, .inr (4, [.ref q_file, .ref q_records, .ref q_recorded, .ref q_different, .int v_headThere, .int v_headPages, .int v_headRecords])), (q_file, .inr (0, [.ref q_file_bytes, .int v_file_count])), (q_records, .inr (0, [.ref q_records_bytes, .int v_records_count])), (q_recorded, .inl (cZ, 25, .inl a1))] H := by rw [e_a1]; exact hP
      have hD : va_D A [(q_this, .inr (4, [.ref q_file, .ref q_records, .ref q_recorded, .ref q_different, .int v_headThere, .int v_headPages, .int v_headRecords])), (q_file, .inr (0, [.ref q_file_bytes, .int v_file_count])), (q_records, .inr (0, [.ref q_records_bytes, .int v_records_count])), (q_recorded, .inl (cZ, 25, .inl a1))] := by rw [e_a1]; exact hD
      obtain ⟨t2, e_t2, hf⟩ := pu_nm_some hf
      refine lv_iinc (k := 1) (v := t2) hx hb d_Disk_startJournal_34 hl rfl e_t2.symm (by decide) rfl (fun ls hl => ?_)
      have hl : lv_has ls 2 [(1, .int t2), (0, .ref q_this)] := hl
      refine lv_goto (tgt := 21) hx hb d_Disk_startJournal_37 rfl ?_
      exact ih_21 a1 t2 H locs ls hP hD hS (lv_sub hl [1, 0] rfl) hf
  obtain ⟨H, hH⟩ : ∃ H, H = s.heap := ⟨_, rfl⟩
  obtain ⟨locs, hlocs⟩ : ∃ locs : List Loc, locs = [] := ⟨_, rfl⟩
  have hP : va_P D pu_cl [(q_this, .inr (4, [.ref q_file, .ref q_records, .ref q_recorded, .ref q_different, .int v_headThere, .int v_headPages, .int v_headRecords])), (q_file, .inr (0, [.ref q_file_bytes, .int v_file_count])), (q_records, .inr (0, [.ref q_records_bytes, .int v_records_count])), (q_recorded, .inl (cZ, 25, .inl v_recorded))] H := by rw [hH]; exact hP
  have hS : va_S A s.heap H locs := by rw [hH, hlocs]; exact hS
  have goal : W p l e rm_Disk_startJournal s m args below meth c H locs 0 0 Q (F0 m 0 ls []) := by
    clear hH hlocs
    refine lv_aload_n hx hb d_Disk_startJournal_0 rfl (lv_at hl 0 rfl) ?_
    refine gf_Disk_18 (v := .ref q_records) hx hb hts hN hown hK hP 0 rfl rfl d_Disk_startJournal_1 ?_
    refine lv_aload_n hx hb d_Disk_startJournal_4 rfl (lv_at hl 0 rfl) ?_
    refine gf_Disk_12 (v := .ref q_file) hx hb hts hN hown hK hP 0 rfl rfl d_Disk_startJournal_5 ?_
    refine gf_Disk_28 (v := .int v_file_count) hx hb hts hN hown hK hP 1 rfl rfl d_Disk_startJournal_8 ?_
    refine pf_Disk_28 (v := .int v_file_count) hx hb hts hN hown hK hP hD hS 2 rfl rfl rfl (Nat.le_of_ble_eq_true rfl) d_Disk_startJournal_11 (fun H locs hP hD hS => ?_)
    have hP : va_P D pu_cl [(q_this, .inr (4, [.ref q_file, .ref q_records, .ref q_recorded, .ref q_different, .int v_headThere, .int v_headPages, .int v_headRecords])), (q_file, .inr (0, [.ref q_file_bytes, .int v_file_count])), (q_records, .inr (0, [.ref q_records_bytes, .int v_file_count])), (q_recorded, .inl (cZ, 25, .inl v_recorded))] H := hP
    have hD : va_D A [(q_this, .inr (4, [.ref q_file, .ref q_records, .ref q_recorded, .ref q_different, .int v_headThere, .int v_headPages, .int v_headRecords])), (q_file, .inr (0, [.ref q_file_bytes, .int v_file_count])), (q_records, .inr (0, [.ref q_records_bytes, .int v_file_count])), (q_recorded, .inl (cZ, 25, .inl v_recorded))] := hD
    refine lv_aload_n hx hb d_Disk_startJournal_14 rfl (lv_at hl 0 rfl) ?_
    refine lv_iconst (v := 0) hx hb d_Disk_startJournal_15 rfl ?_
    refine pf_Disk_36 (v := .int (0 : Int32)) hx hb hts hN hown hK hP hD hS 0 rfl rfl rfl (Nat.le_of_ble_eq_true rfl) d_Disk_startJournal_16 (fun H locs hP hD hS => ?_)
    have hP : va_P D pu_cl [(q_this, .inr (4, [.ref q_file, .ref q_records, .ref q_recorded, .ref q_different, .int v_headThere, .int v_headPages, .int (0 : Int32)])), (q_file, .inr (0, [.ref q_file_bytes, .int v_file_count])), (q_records, .inr (0, [.ref q_records_bytes, .int v_file_count])), (q_recorded, .inl (cZ, 25, .inl v_recorded))] H := hP
    have hD : va_D A [(q_this, .inr (4, [.ref q_file, .ref q_records, .ref q_recorded, .ref q_different, .int v_headThere, .int v_headPages, .int (0 : Int32)])), (q_file, .inr (0, [.ref q_file_bytes, .int v_file_count])), (q_records, .inr (0, [.ref q_records_bytes, .int v_file_count])), (q_recorded, .inl (cZ, 25, .inl v_recorded))] := hD
    refine lv_iconst (v := 0) hx hb d_Disk_startJournal_19 rfl ?_
    refine lv_istore_n hx hb d_Disk_startJournal_20 rfl hl (by decide) rfl (fun ls hl => ?_)
    have hl : lv_has ls 2 [(1, .int (0 : Int32)), (0, .ref q_this)] := hl
    exact lp_21 (0 : Int32) v_file_count _ v_recorded (0 : Int32) H locs ls hP hD hS (lv_sub hl [1, 0] rfl) hf
  rw [hH, hlocs] at goal
  exact goal
theorem d_RF_writeFails_0 : decode b_RF_writeFails 0 = .ok (.aload_n 0, 1) := by decide +kernel
theorem d_RF_writeFails_1 : decode b_RF_writeFails 1 = .ok (.getfield 70, 3) := by decide +kernel
theorem d_RF_writeFails_4 : decode b_RF_writeFails 4 = .ok (.ifCond .ne 5, 3) := by decide +kernel
theorem d_RF_writeFails_7 : decode b_RF_writeFails 7 = .ok (.iconst 1, 1) := by decide +kernel
theorem d_RF_writeFails_8 : decode b_RF_writeFails 8 = .ok (.ireturn, 1) := by decide +kernel
theorem d_RF_writeFails_9 : decode b_RF_writeFails 9 = .ok (.aload_n 0, 1) := by decide +kernel
theorem d_RF_writeFails_10 : decode b_RF_writeFails 10 = .ok (.getfield 70, 3) := by decide +kernel
theorem d_RF_writeFails_13 : decode b_RF_writeFails 13 = .ok (.ifCond .le 13, 3) := by decide +kernel
theorem d_RF_writeFails_16 : decode b_RF_writeFails 16 = .ok (.aload_n 0, 1) := by decide +kernel
theorem d_RF_writeFails_17 : decode b_RF_writeFails 17 = .ok (.dup, 1) := by decide +kernel
theorem d_RF_writeFails_18 : decode b_RF_writeFails 18 = .ok (.getfield 70, 3) := by decide +kernel
theorem d_RF_writeFails_21 : decode b_RF_writeFails 21 = .ok (.iconst 1, 1) := by decide +kernel
theorem d_RF_writeFails_22 : decode b_RF_writeFails 22 = .ok (.isub, 1) := by decide +kernel
theorem d_RF_writeFails_23 : decode b_RF_writeFails 23 = .ok (.putfield 70, 3) := by decide +kernel
theorem d_RF_writeFails_26 : decode b_RF_writeFails 26 = .ok (.iconst 0, 1) := by decide +kernel
theorem d_RF_writeFails_27 : decode b_RF_writeFails 27 = .ok (.ireturn, 1) := by decide +kernel
noncomputable def f_RF_writeFails (v_armed : Int32) : Option (Int32 × Int32) :=
  pu_br (v_armed = 0) (some ((1 : Int32), v_armed)) (pu_br (v_armed ≤ 0) (some ((0 : Int32), v_armed)) (pu_nm (v_armed - (1 : Int32)) (fun t1 => some ((0 : Int32), t1))))
abbrev rm_RF_writeFails : Room := { frames := 0, cells := 0, slots := 0, locals := 0 }
set_option maxHeartbeats 8000000 in
set_option maxRecDepth 100000 in
theorem c_RF_writeFails (l : Launch) (D : va_G) (cI cJ cB cZ : ClassId) (sz : Nat) (q_this : Nat) (q_draft : Nat) (q_now : Nat) (q_before : Nat) (q_disk : Nat) (q_row : Nat) (q_node : Nat) (q_tree : Nat) (q_check : Nat) (v_up : Int32) (v_armed : Int32) (o_r : Int32) (o_armed : Int32) (hf : f_RF_writeFails v_armed = some (o_r, o_armed)) : Met l y_RF_writeFails (.code y_RF_writeFails b_RF_writeFails 1 (some .boolean) :: pu_wA) rm_RF_writeFails (pu_pc D pu_cl (pu_ty cI cJ cB cZ) [.ref q_this] [(q_this, .inr (7, [.ref q_draft, .ref q_now, .ref q_before, .ref q_disk, .ref q_row, .ref q_node, .ref q_tree, .ref q_check, .int v_up, .int v_armed]))] sz) (pu_qi D pu_cl (pu_ty cI cJ cB cZ) [(q_this, .inr (7, [.ref q_draft, .ref q_now, .ref q_before, .ref q_disk, .ref q_row, .ref q_node, .ref q_tree, .ref q_check, .int v_up, .int v_armed]))] [(q_this, .inr (7, [.ref q_draft, .ref q_now, .ref q_before, .ref q_disk, .ref q_row, .ref q_node, .ref q_tree, .ref q_check, .int v_up, .int o_armed]))] sz o_r) 0 0 (va_A [(q_this, .inr (7, [.ref q_draft, .ref q_now, .ref q_before, .ref q_disk, .ref q_row, .ref q_node, .ref q_tree, .ref q_check, .int v_up, .int v_armed]))] sz) := by
  refine pu_mtz [.ref q_this] [(q_this, .inr (7, [.ref q_draft, .ref q_now, .ref q_before, .ref q_disk, .ref q_row, .ref q_node, .ref q_tree, .ref q_check, .int v_up, .int v_armed]))] [(q_this, .inr (7, [.ref q_draft, .ref q_now, .ref q_before, .ref q_disk, .ref q_row, .ref q_node, .ref q_tree, .ref q_check, .int v_up, .int o_armed]))] o_r (by decide) (Nat.le_of_ble_eq_true rfl) ?_
  intro p e s m args below meth c A Q ls hx hb hml hts hN hown hK hA hP hD hl hret0
  have hS : va_S A s.heap s.heap [] := va_S.rf
  have hl : lv_has ls 1 [(0, .ref q_this)] := hl
  have hret : ∀ (pc : Nat) (ls : Array Slot) (H : Heap) (locs : List Loc) (y_0 : Int32) (y_1 : Int32), decode b_RF_writeFails pc = .ok (.ireturn, 1) → narrow .boolean (.int y_0) = .int y_0 → va_P D pu_cl [(q_this, .inr (7, [.ref q_draft, .ref q_now, .ref q_before, .ref q_disk, .ref q_row, .ref q_node, .ref q_tree, .ref q_check, .int v_up, .int y_1]))] H → va_D A [(q_this, .inr (7, [.ref q_draft, .ref q_now, .ref q_before, .ref q_disk, .ref q_row, .ref q_node, .ref q_tree, .ref q_check, .int v_up, .int y_1]))] → va_S A s.heap H locs → some (y_0, y_1) = some (o_r, o_armed) → W p l e rm_RF_writeFails s m args below meth c H locs 0 0 Q (F0 m pc ls [.int y_0]) := by
    intro pc ls H locs y_0 y_1 hd hz hP hD hS hf
    cases hf
    exact hret0 pc ls H locs hd hz hP hD hS
  clear hret0
  unfold f_RF_writeFails at hf
  skip
  obtain ⟨H, hH⟩ : ∃ H, H = s.heap := ⟨_, rfl⟩
  obtain ⟨locs, hlocs⟩ : ∃ locs : List Loc, locs = [] := ⟨_, rfl⟩
  have hP : va_P D pu_cl [(q_this, .inr (7, [.ref q_draft, .ref q_now, .ref q_before, .ref q_disk, .ref q_row, .ref q_node, .ref q_tree, .ref q_check, .int v_up, .int v_armed]))] H := by rw [hH]; exact hP
  have hS : va_S A s.heap H locs := by rw [hH, hlocs]; exact hS
  have goal : W p l e rm_RF_writeFails s m args below meth c H locs 0 0 Q (F0 m 0 ls []) := by
    clear hH hlocs
    refine lv_aload_n hx hb d_RF_writeFails_0 rfl (lv_at hl 0 rfl) ?_
    refine gf_RF_70 (v := .int v_armed) hx hb hts hN hown hK hP 0 rfl rfl d_RF_writeFails_1 ?_
    refine lv_if_ne (tgt := 9) hx hb d_RF_writeFails_4 rfl (fun hc => ?_) (fun hc => ?_)
    · have hf := pu_br_neg hf hc
      refine lv_aload_n hx hb d_RF_writeFails_9 rfl (lv_at hl 0 rfl) ?_
      refine gf_RF_70 (v := .int v_armed) hx hb hts hN hown hK hP 0 rfl rfl d_RF_writeFails_10 ?_
      refine lv_if_le (tgt := 26) hx hb d_RF_writeFails_13 rfl (fun hc => ?_) (fun hc => ?_)
      · have hf := pu_br_pos hf hc
        refine lv_iconst (v := 0) hx hb d_RF_writeFails_26 rfl ?_
        exact hret _ _ _ _ (0 : Int32) v_armed d_RF_writeFails_27 (by decide) hP hD hS hf
      have hf := pu_br_neg hf hc
      refine lv_aload_n hx hb d_RF_writeFails_16 rfl (lv_at hl 0 rfl) ?_
      refine lv_dup hx hb d_RF_writeFails_17 rfl ?_
      refine gf_RF_70 (v := .int v_armed) hx hb hts hN hown hK hP 0 rfl rfl d_RF_writeFails_18 ?_
      refine lv_iconst (v := 1) hx hb d_RF_writeFails_21 rfl ?_
      refine lv_isub hx hb d_RF_writeFails_22 ?_
      obtain ⟨t1, e_t1, hf⟩ := pu_nm_some hf
      refine pu_ti e_t1 ?_
      refine pf_RF_70 (v := .int t1) hx hb hts hN hown hK hP hD hS 0 rfl rfl rfl (Nat.le_of_ble_eq_true rfl) d_RF_writeFails_23 (fun H locs hP hD hS => ?_)
      have hP : va_P D pu_cl [(q_this, .inr (7, [.ref q_draft, .ref q_now, .ref q_before, .ref q_disk, .ref q_row, .ref q_node, .ref q_tree, .ref q_check, .int v_up, .int t1]))] H := hP
      have hD : va_D A [(q_this, .inr (7, [.ref q_draft, .ref q_now, .ref q_before, .ref q_disk, .ref q_row, .ref q_node, .ref q_tree, .ref q_check, .int v_up, .int t1]))] := hD
      refine lv_iconst (v := 0) hx hb d_RF_writeFails_26 rfl ?_
      exact hret _ _ _ _ (0 : Int32) t1 d_RF_writeFails_27 (by decide) hP hD hS hf
    have hf := pu_br_pos hf hc
    refine lv_iconst (v := 1) hx hb d_RF_writeFails_7 rfl ?_
    exact hret _ _ _ _ (1 : Int32) v_armed d_RF_writeFails_8 (by decide) hP hD hS hf
  rw [hH, hlocs] at goal
  exact goal
noncomputable def f_Pages_copyPage (v_count : Int32) (v_p2_count : Int32) (v_p2_bytes : Nat → Int32) (v_bytes : Nat → Int32) (x_1 : Int32) (x_3 : Int32) (x_4 : Int32) : Option ((Nat → Int32)) :=
  pu_b1 (f_Pages_has v_count x_1 (x_4 - (1 : Int32))) (fun r1 => pu_br (r1 = 0) (some v_bytes) (pu_b1 (f_Pages_has v_p2_count x_3 (x_4 - (1 : Int32))) (fun r2 => pu_br (r2 = 0) (some v_bytes) (pu_ck (pu_cp .byte v_p2_bytes ((x_3 - (1 : Int32)) * (64 : Int32)) ((x_1 - (1 : Int32)) * (64 : Int32)) x_4 1536 1536) (pu_nm (va_cpy v_p2_bytes v_bytes ((x_3 - (1 : Int32)) * (64 : Int32)).toNatClampNeg ((x_1 - (1 : Int32)) * (64 : Int32)).toNatClampNeg x_4.toNatClampNeg) (fun a3 => some a3))))))
abbrev rm_Pages_copyPage : Room := { frames := 1, cells := 0, slots := 0, locals := 68 }
set_option maxHeartbeats 8000000 in
set_option maxRecDepth 100000 in
theorem c_Pages_copyPage (l : Launch) (D : va_G) (cI cJ cB cZ : ClassId) (sz : Nat) (q_this : Nat) (q_bytes : Nat) (q_p2 : Nat) (q_p2_bytes : Nat) (v_count : Int32) (v_bytes : Nat → Int32) (v_p2_count : Int32) (v_p2_bytes : Nat → Int32) (x_1 : Int32) (x_3 : Int32) (x_4 : Int32) (o_bytes : Nat → Int32) (hf : f_Pages_copyPage v_count v_p2_count v_p2_bytes v_bytes x_1 x_3 x_4 = some o_bytes) : Met l y_Pages_copyPage (.code y_Pages_copyPage b_Pages_copyPage 5 none :: pu_wA) rm_Pages_copyPage (pu_pc D pu_cl (pu_ty cI cJ cB cZ) [.ref q_this, .int x_1, .ref q_p2, .int x_3, .int x_4] [(q_this, .inr (0, [.ref q_bytes, .int v_count])), (q_bytes, .inl (cB, 1536, .inl v_bytes)), (q_p2, .inr (0, [.ref q_p2_bytes, .int v_p2_count])), (q_p2_bytes, .inl (cB, 1536, .inl v_p2_bytes))] sz) (pu_qv D pu_cl (pu_ty cI cJ cB cZ) [(q_this, .inr (0, [.ref q_bytes, .int v_count])), (q_bytes, .inl (cB, 1536, .inl v_bytes)), (q_p2, .inr (0, [.ref q_p2_bytes, .int v_p2_count])), (q_p2_bytes, .inl (cB, 1536, .inl v_p2_bytes))] [(q_this, .inr (0, [.ref q_bytes, .int v_count])), (q_bytes, .inl (cB, 1536, .inl o_bytes)), (q_p2, .inr (0, [.ref q_p2_bytes, .int v_p2_count])), (q_p2_bytes, .inl (cB, 1536, .inl v_p2_bytes))] sz) 0 0 (va_A [(q_this, .inr (0, [.ref q_bytes, .int v_count])), (q_bytes, .inl (cB, 1536, .inl v_bytes)), (q_p2, .inr (0, [.ref q_p2_bytes, .int v_p2_count])), (q_p2_bytes, .inl (cB, 1536, .inl v_p2_bytes))] sz) := by
  refine pu_mtv [.ref q_this, .int x_1, .ref q_p2, .int x_3, .int x_4] [(q_this, .inr (0, [.ref q_bytes, .int v_count])), (q_bytes, .inl (cB, 1536, .inl v_bytes)), (q_p2, .inr (0, [.ref q_p2_bytes, .int v_p2_count])), (q_p2_bytes, .inl (cB, 1536, .inl v_p2_bytes))] [(q_this, .inr (0, [.ref q_bytes, .int v_count])), (q_bytes, .inl (cB, 1536, .inl o_bytes)), (q_p2, .inr (0, [.ref q_p2_bytes, .int v_p2_count])), (q_p2_bytes, .inl (cB, 1536, .inl v_p2_bytes))] (by decide) (Nat.le_of_ble_eq_true rfl) ?_
  intro p e s m args below meth c A Q ls hx hb hml hts hN hown hK hA hP hD hl hret0
  have hS : va_S A s.heap s.heap [] := va_S.rf
  have hl : lv_has ls 5 [(0, .ref q_this), (1, .int x_1), (2, .ref q_p2), (3, .int x_3), (4, .int x_4)] := hl
  have hret : ∀ (pc : Nat) (ls : Array Slot) (H : Heap) (locs : List Loc) (y_0 : Nat → Int32), decode b_Pages_copyPage pc = .ok (.return_, 1) → va_P D pu_cl [(q_this, .inr (0, [.ref q_bytes, .int v_count])), (q_bytes, .inl (cB, 1536, .inl y_0)), (q_p2, .inr (0, [.ref q_p2_bytes, .int v_p2_count])), (q_p2_bytes, .inl (cB, 1536, .inl v_p2_bytes))] H → va_D A [(q_this, .inr (0, [.ref q_bytes, .int v_count])), (q_bytes, .inl (cB, 1536, .inl y_0)), (q_p2, .inr (0, [.ref q_p2_bytes, .int v_p2_count])), (q_p2_bytes, .inl (cB, 1536, .inl v_p2_bytes))] → va_S A s.heap H locs → some y_0 = some o_bytes → W p l e rm_Pages_copyPage s m args below meth c H locs 0 0 Q (F0 m pc ls []) := by
    intro pc ls H locs y_0 hd hP hD hS hf
    cases hf
    exact hret0 pc ls H locs hd hP hD hS
  clear hret0
  unfold f_Pages_copyPage at hf
  skip
  obtain ⟨H, hH⟩ : ∃ H, H = s.heap := ⟨_, rfl⟩
  obtain ⟨locs, hlocs⟩ : ∃ locs : List Loc, locs = [] := ⟨_, rfl⟩
  have hP : va_P D pu_cl [(q_this, .inr (0, [.ref q_bytes, .int v_count])), (q_bytes, .inl (cB, 1536, .inl v_bytes)), (q_p2, .inr (0, [.ref q_p2_bytes, .int v_p2_count])), (q_p2_bytes, .inl (cB, 1536, .inl v_p2_bytes))] H := by rw [hH]; exact hP
  have hS : va_S A s.heap H locs := by rw [hH, hlocs]; exact hS
  have goal : W p l e rm_Pages_copyPage s m args below meth c H locs 0 0 Q (F0 m 0 ls []) := by
    clear hH hlocs
    refine lv_aload_n hx hb d_Pages_copyPage_0 rfl (lv_at hl 0 rfl) ?_
    refine lv_iload_n hx hb d_Pages_copyPage_1 rfl (lv_at hl 1 rfl) ?_
    refine lv_iload hx hb d_Pages_copyPage_2 (lv_at hl 4 rfl) ?_
    refine lv_iconst (v := 1) hx hb d_Pages_copyPage_4 rfl ?_
    refine lv_isub hx hb d_Pages_copyPage_5 ?_
    obtain ⟨r1, hc, hf⟩ := pu_b1_some hf
    refine cl_i (WC := [(q_this, .inr (0, [.ref q_bytes, .int v_count]))]) (WC2 := [(q_this, .inr (0, [.ref q_bytes, .int v_count]))]) (WR := [(q_bytes, .inl (cB, 1536, .inl v_bytes)), (q_p2, .inr (0, [.ref q_p2_bytes, .int v_p2_count])), (q_p2_bytes, .inl (cB, 1536, .inl v_p2_bytes))]) (WS2 := [(q_this, .inr (0, [.ref q_bytes, .int v_count])), (q_bytes, .inl (cB, 1536, .inl v_bytes)), (q_p2, .inr (0, [.ref q_p2_bytes, .int v_p2_count])), (q_p2_bytes, .inl (cB, 1536, .inl v_p2_bytes))]) (pu_rv (cl := pu_cl) (pu_in2 _ (List.mem_of_getElem? (i := 29) rfl)) (pu_in2 _ (List.mem_of_getElem? (i := 30) rfl)) (pu_in2 _ (List.mem_of_getElem? (i := 31) rfl)) (pu_in0 _ (List.mem_of_getElem? (i := 3) rfl)) (pu_in2 _ (List.mem_of_getElem? (i := 32) rfl)) (ci := 0) rfl hd_Pages_has (by decide) ⟨rfl, rfl⟩ rfl rfl (Nat.le_of_ble_eq_true rfl) rfl (As := [.int x_1, .int (x_4 - (1 : Int32))]) (rest := []) (WC := [(q_this, .inr (0, [.ref q_bytes, .int v_count]))]) hx hb hml hown hts hN hK hP hD (c_Pages_has l D cI cJ cB cZ H.size q_this q_bytes v_count x_1 (x_4 - (1 : Int32)) r1 hc) [0] rfl rfl hl.1 d_Pages_copyPage_6) hP hD hS hA [0] [1, 2, 3] [3, 0, 1, 2] rfl rfl rfl (by decide) rfl rfl (fun H locs hP hD hS => ?_)
    refine lv_if_eq (tgt := 49) hx hb d_Pages_copyPage_9 rfl (fun hc => ?_) (fun hc => ?_)
    · have hf := pu_br_pos hf hc
      exact hret _ _ _ _ v_bytes d_Pages_copyPage_49 hP hD hS hf
    have hf := pu_br_neg hf hc
    refine lv_aload_n hx hb d_Pages_copyPage_12 rfl (lv_at hl 2 rfl) ?_
    refine lv_iload_n hx hb d_Pages_copyPage_13 rfl (lv_at hl 3 rfl) ?_
    refine lv_iload hx hb d_Pages_copyPage_14 (lv_at hl 4 rfl) ?_
    refine lv_iconst (v := 1) hx hb d_Pages_copyPage_16 rfl ?_
    refine lv_isub hx hb d_Pages_copyPage_17 ?_
    obtain ⟨r2, hc, hf⟩ := pu_b1_some hf
    refine cl_i (WC := [(q_p2, .inr (0, [.ref q_p2_bytes, .int v_p2_count]))]) (WC2 := [(q_p2, .inr (0, [.ref q_p2_bytes, .int v_p2_count]))]) (WR := [(q_this, .inr (0, [.ref q_bytes, .int v_count])), (q_bytes, .inl (cB, 1536, .inl v_bytes)), (q_p2_bytes, .inl (cB, 1536, .inl v_p2_bytes))]) (WS2 := [(q_this, .inr (0, [.ref q_bytes, .int v_count])), (q_bytes, .inl (cB, 1536, .inl v_bytes)), (q_p2, .inr (0, [.ref q_p2_bytes, .int v_p2_count])), (q_p2_bytes, .inl (cB, 1536, .inl v_p2_bytes))]) (pu_rv (cl := pu_cl) (pu_in2 _ (List.mem_of_getElem? (i := 29) rfl)) (pu_in2 _ (List.mem_of_getElem? (i := 30) rfl)) (pu_in2 _ (List.mem_of_getElem? (i := 31) rfl)) (pu_in0 _ (List.mem_of_getElem? (i := 3) rfl)) (pu_in2 _ (List.mem_of_getElem? (i := 32) rfl)) (ci := 0) rfl hd_Pages_has (by decide) ⟨rfl, rfl⟩ rfl rfl (Nat.le_of_ble_eq_true rfl) rfl (As := [.int x_3, .int (x_4 - (1 : Int32))]) (rest := []) (WC := [(q_p2, .inr (0, [.ref q_p2_bytes, .int v_p2_count]))]) hx hb hml hown hts hN hK hP hD (c_Pages_has l D cI cJ cB cZ H.size q_p2 q_p2_bytes v_p2_count x_3 (x_4 - (1 : Int32)) r2 hc) [2] rfl rfl hl.1 d_Pages_copyPage_18) hP hD hS hA [2] [0, 1, 3] [0, 1, 3, 2] rfl rfl rfl (by decide) rfl rfl (fun H locs hP hD hS => ?_)
    refine lv_if_eq (tgt := 49) hx hb d_Pages_copyPage_21 rfl (fun hc => ?_) (fun hc => ?_)
    · have hf := pu_br_pos hf hc
      exact hret _ _ _ _ v_bytes d_Pages_copyPage_49 hP hD hS hf
    have hf := pu_br_neg hf hc
    refine lv_aload_n hx hb d_Pages_copyPage_24 rfl (lv_at hl 2 rfl) ?_
    refine gf_Pages_9 (v := .ref q_p2_bytes) hx hb hts hN hown hK hP 2 rfl rfl d_Pages_copyPage_25 ?_
    refine lv_iload_n hx hb d_Pages_copyPage_28 rfl (lv_at hl 3 rfl) ?_
    refine lv_iconst (v := 1) hx hb d_Pages_copyPage_29 rfl ?_
    refine lv_isub hx hb d_Pages_copyPage_30 ?_
    refine lv_bipush (v := 64) hx hb d_Pages_copyPage_31 rfl ?_
    refine lv_imul hx hb d_Pages_copyPage_33 ?_
    refine lv_aload_n hx hb d_Pages_copyPage_34 rfl (lv_at hl 0 rfl) ?_
    refine gf_Pages_9 (v := .ref q_bytes) hx hb hts hN hown hK hP 0 rfl rfl d_Pages_copyPage_35 ?_
    refine lv_iload_n hx hb d_Pages_copyPage_38 rfl (lv_at hl 1 rfl) ?_
    refine lv_iconst (v := 1) hx hb d_Pages_copyPage_39 rfl ?_
    refine lv_isub hx hb d_Pages_copyPage_40 ?_
    refine lv_bipush (v := 64) hx hb d_Pages_copyPage_41 rfl ?_
    refine lv_imul hx hb d_Pages_copyPage_43 ?_
    refine lv_iload hx hb d_Pages_copyPage_44 (lv_at hl 4 rfl) ?_
    obtain ⟨hcp, hf⟩ := pu_ck_some hf
    obtain ⟨a3, e_a3, hf⟩ := pu_nm_some hf
    refine va_copyi hx hb (hml.trans hl.1.symm) hown (hts _ (pu_in2 _ (List.mem_of_getElem? (i := 37) rfl))) (hts _ (pu_in2 _ (List.mem_of_getElem? (i := 39) rfl))) (hts _ (pu_in2 _ (List.mem_of_getElem? (i := 38) rfl))) (hts _ (pu_in0 _ (List.mem_of_getElem? (i := 9) rfl))) hK hP hD hS 3 1 2 2 (ty := .byte) rfl rfl rfl rfl rfl hcp.1 hcp.2.1 hcp.2.2.1 hcp.2.2.2.1 hcp.2.2.2.2.1 hcp.2.2.2.2.2 (Nat.le_of_ble_eq_true rfl) (Nat.le_of_ble_eq_true rfl) d_Pages_copyPage_46 (fun H locs hP hD hS => ?_)
    have hP : va_P D pu_cl [(q_this, .inr (0, [.ref q_bytes, .int v_count])), (q_bytes, .inl (cB, 1536, .inl a3)), (q_p2, .inr (0, [.ref q_p2_bytes, .int v_p2_count])), (q_p2_bytes, .inl (cB, 1536, .inl v_p2_bytes))] H := by rw [e_a3]; exact hP
    have hD : va_D A [(q_this, .inr (0, [.ref q_bytes, .int v_count])), (q_bytes, .inl (cB, 1536, .inl a3)), (q_p2, .inr (0, [.ref q_p2_bytes, .int v_p2_count])), (q_p2_bytes, .inl (cB, 1536, .inl v_p2_bytes))] := by rw [e_a3]; exact hD
    exact hret _ _ _ _ a3 d_Pages_copyPage_49 hP hD hS hf
  rw [hH, hlocs] at goal
  exact goal
theorem d_Disk_writeRecord_0 : decode b_Disk_writeRecord 0 = .ok (.aload_n 0, 1) := by decide +kernel
theorem d_Disk_writeRecord_1 : decode b_Disk_writeRecord 1 = .ok (.getfield 12, 3) := by decide +kernel
theorem d_Disk_writeRecord_4 : decode b_Disk_writeRecord 4 = .ok (.iload_n 1, 1) := by decide +kernel
theorem d_Disk_writeRecord_5 : decode b_Disk_writeRecord 5 = .ok (.iconst 0, 1) := by decide +kernel
theorem d_Disk_writeRecord_6 : decode b_Disk_writeRecord 6 = .ok (.invokevirtual 39, 3) := by decide +kernel
theorem d_Disk_writeRecord_9 : decode b_Disk_writeRecord 9 = .ok (.ifCond .eq 35, 3) := by decide +kernel
theorem d_Disk_writeRecord_12 : decode b_Disk_writeRecord 12 = .ok (.aload_n 0, 1) := by decide +kernel
theorem d_Disk_writeRecord_13 : decode b_Disk_writeRecord 13 = .ok (.getfield 18, 3) := by decide +kernel
theorem d_Disk_writeRecord_16 : decode b_Disk_writeRecord 16 = .ok (.iload_n 1, 1) := by decide +kernel
theorem d_Disk_writeRecord_17 : decode b_Disk_writeRecord 17 = .ok (.aload_n 0, 1) := by decide +kernel
theorem d_Disk_writeRecord_18 : decode b_Disk_writeRecord 18 = .ok (.getfield 12, 3) := by decide +kernel
theorem d_Disk_writeRecord_21 : decode b_Disk_writeRecord 21 = .ok (.iload_n 1, 1) := by decide +kernel
theorem d_Disk_writeRecord_22 : decode b_Disk_writeRecord 22 = .ok (.bipush 64, 2) := by decide +kernel
theorem d_Disk_writeRecord_24 : decode b_Disk_writeRecord 24 = .ok (.invokevirtual 43, 3) := by decide +kernel
theorem d_Disk_writeRecord_27 : decode b_Disk_writeRecord 27 = .ok (.aload_n 0, 1) := by decide +kernel
theorem d_Disk_writeRecord_28 : decode b_Disk_writeRecord 28 = .ok (.getfield 21, 3) := by decide +kernel
theorem d_Disk_writeRecord_31 : decode b_Disk_writeRecord 31 = .ok (.iload_n 1, 1) := by decide +kernel
theorem d_Disk_writeRecord_32 : decode b_Disk_writeRecord 32 = .ok (.iconst 1, 1) := by decide +kernel
theorem d_Disk_writeRecord_33 : decode b_Disk_writeRecord 33 = .ok (.bastore, 1) := by decide +kernel
theorem d_Disk_writeRecord_34 : decode b_Disk_writeRecord 34 = .ok (.aload_n 0, 1) := by decide +kernel
theorem d_Disk_writeRecord_35 : decode b_Disk_writeRecord 35 = .ok (.dup, 1) := by decide +kernel
theorem d_Disk_writeRecord_36 : decode b_Disk_writeRecord 36 = .ok (.getfield 36, 3) := by decide +kernel
theorem d_Disk_writeRecord_39 : decode b_Disk_writeRecord 39 = .ok (.iconst 1, 1) := by decide +kernel
theorem d_Disk_writeRecord_40 : decode b_Disk_writeRecord 40 = .ok (.iadd, 1) := by decide +kernel
theorem d_Disk_writeRecord_41 : decode b_Disk_writeRecord 41 = .ok (.putfield 36, 3) := by decide +kernel
theorem d_Disk_writeRecord_44 : decode b_Disk_writeRecord 44 = .ok (.return_, 1) := by decide +kernel
noncomputable def f_Disk_writeRecord (v_file_count : Int32) (v_file_bytes : Nat → Int32) (v_records_count : Int32) (v_headRecords : Int32) (v_records_bytes : Nat → Int32) (v_recorded : Nat → Int32) (x_1 : Int32) : Option (Int32 × (Nat → Int32) × (Nat → Int32)) :=
  pu_b1 (f_Pages_has v_file_count x_1 (0 : Int32)) (fun r1 => pu_br (r1 = 0) (some (v_headRecords, v_records_bytes, v_recorded)) (pu_b1 (f_Pages_copyPage v_records_count v_file_count v_file_bytes v_records_bytes x_1 x_1 (64 : Int32)) (fun w3 => pu_ck (vp_in x_1 25) (pu_nm (upd v_recorded x_1.toNatClampNeg (vp_nar .boolean (1 : Int32))) (fun a4 => pu_nm (v_headRecords + (1 : Int32)) (fun t5 => some (t5, w3, a4)))))))
abbrev rm_Disk_writeRecord : Room := { frames := 2, cells := 0, slots := 0, locals := 92 }
set_option maxHeartbeats 8000000 in
set_option maxRecDepth 100000 in
theorem c_Disk_writeRecord (l : Launch) (D : va_G) (cI cJ cB cZ : ClassId) (sz : Nat) (q_this : Nat) (q_file : Nat) (q_records : Nat) (q_recorded : Nat) (q_different : Nat) (q_file_bytes : Nat) (q_records_bytes : Nat) (v_headThere : Int32) (v_headPages : Int32) (v_headRecords : Int32) (v_file_count : Int32) (v_file_bytes : Nat → Int32) (v_records_count : Int32) (v_records_bytes : Nat → Int32) (v_recorded : Nat → Int32) (x_1 : Int32) (o_headRecords : Int32) (o_records_bytes : Nat → Int32) (o_recorded : Nat → Int32) (hf : f_Disk_writeRecord v_file_count v_file_bytes v_records_count v_headRecords v_records_bytes v_recorded x_1 = some (o_headRecords, o_records_bytes, o_recorded)) : Met l y_Disk_writeRecord (.code y_Disk_writeRecord b_Disk_writeRecord 2 none :: pu_wA) rm_Disk_writeRecord (pu_pc D pu_cl (pu_ty cI cJ cB cZ) [.ref q_this, .int x_1] [(q_this, .inr (4, [.ref q_file, .ref q_records, .ref q_recorded, .ref q_different, .int v_headThere, .int v_headPages, .int v_headRecords])), (q_file, .inr (0, [.ref q_file_bytes, .int v_file_count])), (q_file_bytes, .inl (cB, 1536, .inl v_file_bytes)), (q_records, .inr (0, [.ref q_records_bytes, .int v_records_count])), (q_records_bytes, .inl (cB, 1536, .inl v_records_bytes)), (q_recorded, .inl (cZ, 25, .inl v_recorded))] sz) (pu_qv D pu_cl (pu_ty cI cJ cB cZ) [(q_this, .inr (4, [.ref q_file, .ref q_records, .ref q_recorded, .ref q_different, .int v_headThere, .int v_headPages, .int v_headRecords])), (q_file, .inr (0, [.ref q_file_bytes, .int v_file_count])), (q_file_bytes, .inl (cB, 1536, .inl v_file_bytes)), (q_records, .inr (0, [.ref q_records_bytes, .int v_records_count])), (q_records_bytes, .inl (cB, 1536, .inl v_records_bytes)), (q_recorded, .inl (cZ, 25, .inl v_recorded))] [(q_this, .inr (4, [.ref q_file, .ref q_records, .ref q_recorded, .ref q_different, .int v_headThere, .int v_headPages, .int o_headRecords])), (q_file, .inr (0, [.ref q_file_bytes, .int v_file_count])), (q_file_bytes, .inl (cB, 1536, .inl v_file_bytes)), (q_records, .inr (0, [.ref q_records_bytes, .int v_records_count])), (q_records_bytes, .inl (cB, 1536, .inl o_records_bytes)), (q_recorded, .inl (cZ, 25, .inl o_recorded))] sz) 0 0 (va_A [(q_this, .inr (4, [.ref q_file, .ref q_records, .ref q_recorded, .ref q_different, .int v_headThere, .int v_headPages, .int v_headRecords])), (q_file, .inr (0, [.ref q_file_bytes, .int v_file_count])), (q_file_bytes, .inl (cB, 1536, .inl v_file_bytes)), (q_records, .inr (0, [.ref q_records_bytes, .int v_records_count])), (q_records_bytes, .inl (cB, 1536, .inl v_records_bytes)), (q_recorded, .inl (cZ, 25, .inl v_recorded))] sz) := by
  refine pu_mtv [.ref q_this, .int x_1] [(q_this, .inr (4, [.ref q_file, .ref q_records, .ref q_recorded, .ref q_different, .int v_headThere, .int v_headPages, .int v_headRecords])), (q_file, .inr (0, [.ref q_file_bytes, .int v_file_count])), (q_file_bytes, .inl (cB, 1536, .inl v_file_bytes)), (q_records, .inr (0, [.ref q_records_bytes, .int v_records_count])), (q_records_bytes, .inl (cB, 1536, .inl v_records_bytes)), (q_recorded, .inl (cZ, 25, .inl v_recorded))] [(q_this, .inr (4, [.ref q_file, .ref q_records, .ref q_recorded, .ref q_different, .int v_headThere, .int v_headPages, .int o_headRecords])), (q_file, .inr (0, [.ref q_file_bytes, .int v_file_count])), (q_file_bytes, .inl (cB, 1536, .inl v_file_bytes)), (q_records, .inr (0, [.ref q_records_bytes, .int v_records_count])), (q_records_bytes, .inl (cB, 1536, .inl o_records_bytes)), (q_recorded, .inl (cZ, 25, .inl o_recorded))] (by decide) (Nat.le_of_ble_eq_true rfl) ?_
  intro p e s m args below meth c A Q ls hx hb hml hts hN hown hK hA hP hD hl hret0
  have hS : va_S A s.heap s.heap [] := va_S.rf
  have hl : lv_has ls 2 [(0, .ref q_this), (1, .int x_1)] := hl
  have hret : ∀ (pc : Nat) (ls : Array Slot) (H : Heap) (locs : List Loc) (y_0 : Int32) (y_1 : Nat → Int32) (y_2 : Nat → Int32), decode b_Disk_writeRecord pc = .ok (.return_, 1) → va_P D pu_cl [(q_this, .inr (4, [.ref q_file, .ref q_records, .ref q_recorded, .ref q_different, .int v_headThere, .int v_headPages, .int y_0])), (q_file, .inr (0, [.ref q_file_bytes, .int v_file_count])), (q_file_bytes, .inl (cB, 1536, .inl v_file_bytes)), (q_records, .inr (0, [.ref q_records_bytes, .int v_records_count])), (q_records_bytes, .inl (cB, 1536, .inl y_1)), (q_recorded, .inl (cZ, 25, .inl y_2))] H → va_D A [(q_this, .inr (4, [.ref q_file, .ref q_records, .ref q_recorded, .ref q_different, .int v_headThere, .int v_headPages, .int y_0])), (q_file, .inr (0, [.ref q_file_bytes, .int v_file_count])), (q_file_bytes, .inl (cB, 1536, .inl v_file_bytes)), (q_records, .inr (0, [.ref q_records_bytes, .int v_records_count])), (q_records_bytes, .inl (cB, 1536, .inl y_1)), (q_recorded, .inl (cZ, 25, .inl y_2))] → va_S A s.heap H locs → some (y_0, y_1, y_2) = some (o_headRecords, o_records_bytes, o_recorded) → W p l e rm_Disk_writeRecord s m args below meth c H locs 0 0 Q (F0 m pc ls []) := by
    intro pc ls H locs y_0 y_1 y_2 hd hP hD hS hf
    cases hf
    exact hret0 pc ls H locs hd hP hD hS
  clear hret0
  unfold f_Disk_writeRecord at hf
  skip
  obtain ⟨H, hH⟩ : ∃ H, H = s.heap := ⟨_, rfl⟩
  obtain ⟨locs, hlocs⟩ : ∃ locs : List Loc, locs = [] := ⟨_, rfl⟩
  have hP : va_P D pu_cl [(q_this, .inr (4, [.ref q_file, .ref q_records, .ref q_recorded, .ref q_different, .int v_headThere, .int v_headPages, .int v_headRecords])), (q_file, .inr (0, [.ref q_file_bytes, .int v_file_count])), (q_file_bytes, .inl (cB, 1536, .inl v_file_bytes)), (q_records, .inr (0, [.ref q_records_bytes, .int v_records_count])), (q_records_bytes, .inl (cB, 1536, .inl v_records_bytes)), (q_recorded, .inl (cZ, 25, .inl v_recorded))] H := by rw [hH]; exact hP
  have hS : va_S A s.heap H locs := by rw [hH, hlocs]; exact hS
  have goal : W p l e rm_Disk_writeRecord s m args below meth c H locs 0 0 Q (F0 m 0 ls []) := by
    clear hH hlocs
    refine lv_aload_n hx hb d_Disk_writeRecord_0 rfl (lv_at hl 0 rfl) ?_
    refine gf_Disk_12 (v := .ref q_file) hx hb hts hN hown hK hP 0 rfl rfl d_Disk_writeRecord_1 ?_
    refine lv_iload_n hx hb d_Disk_writeRecord_4 rfl (lv_at hl 1 rfl) ?_
    refine lv_iconst (v := 0) hx hb d_Disk_writeRecord_5 rfl ?_
    obtain ⟨r1, hc, hf⟩ := pu_b1_some hf
    refine cl_i (WC := [(q_file, .inr (0, [.ref q_file_bytes, .int v_file_count]))]) (WC2 := [(q_file, .inr (0, [.ref q_file_bytes, .int v_file_count]))]) (WR := [(q_this, .inr (4, [.ref q_file, .ref q_records, .ref q_recorded, .ref q_different, .int v_headThere, .int v_headPages, .int v_headRecords])), (q_file_bytes, .inl (cB, 1536, .inl v_file_bytes)), (q_records, .inr (0, [.ref q_records_bytes, .int v_records_count])), (q_records_bytes, .inl (cB, 1536, .inl v_records_bytes)), (q_recorded, .inl (cZ, 25, .inl v_recorded))]) (WS2 := [(q_this, .inr (4, [.ref q_file, .ref q_records, .ref q_recorded, .ref q_different, .int v_headThere, .int v_headPages, .int v_headRecords])), (q_file, .inr (0, [.ref q_file_bytes, .int v_file_count])), (q_file_bytes, .inl (cB, 1536, .inl v_file_bytes)), (q_records, .inr (0, [.ref q_records_bytes, .int v_records_count])), (q_records_bytes, .inl (cB, 1536, .inl v_records_bytes)), (q_recorded, .inl (cZ, 25, .inl v_recorded))]) (pu_rv (cl := pu_cl) (pu_in6 _ (List.mem_of_getElem? (i := 22) rfl)) (pu_in2 _ (List.mem_of_getElem? (i := 30) rfl)) (pu_in2 _ (List.mem_of_getElem? (i := 31) rfl)) (pu_in0 _ (List.mem_of_getElem? (i := 3) rfl)) (pu_in2 _ (List.mem_of_getElem? (i := 32) rfl)) (ci := 0) rfl hd_Pages_has (by decide) ⟨rfl, rfl⟩ rfl rfl (Nat.le_of_ble_eq_true rfl) rfl (As := [.int x_1, .int (0 : Int32)]) (rest := []) (WC := [(q_file, .inr (0, [.ref q_file_bytes, .int v_file_count]))]) hx hb hml hown hts hN hK hP hD (c_Pages_has l D cI cJ cB cZ H.size q_file q_file_bytes v_file_count x_1 (0 : Int32) r1 hc) [1] rfl rfl hl.1 d_Disk_writeRecord_6) hP hD hS hA [1] [0, 2, 3, 4, 5] [0, 5, 1, 2, 3, 4] rfl rfl rfl (by decide) rfl rfl (fun H locs hP hD hS => ?_)
    refine lv_if_eq (tgt := 44) hx hb d_Disk_writeRecord_9 rfl (fun hc => ?_) (fun hc => ?_)
    · have hf := pu_br_pos hf hc
      exact hret _ _ _ _ v_headRecords v_records_bytes v_recorded d_Disk_writeRecord_44 hP hD hS hf
    have hf := pu_br_neg hf hc
    refine lv_aload_n hx hb d_Disk_writeRecord_12 rfl (lv_at hl 0 rfl) ?_
    refine gf_Disk_18 (v := .ref q_records) hx hb hts hN hown hK hP 0 rfl rfl d_Disk_writeRecord_13 ?_
    refine lv_iload_n hx hb d_Disk_writeRecord_16 rfl (lv_at hl 1 rfl) ?_
    refine lv_aload_n hx hb d_Disk_writeRecord_17 rfl (lv_at hl 0 rfl) ?_
    refine gf_Disk_12 (v := .ref q_file) hx hb hts hN hown hK hP 0 rfl rfl d_Disk_writeRecord_18 ?_
    refine lv_iload_n hx hb d_Disk_writeRecord_21 rfl (lv_at hl 1 rfl) ?_
    refine lv_bipush (v := 64) hx hb d_Disk_writeRecord_22 rfl ?_
    obtain ⟨w3, hc, hf⟩ := pu_b1_some hf
    refine cl_v (WC := [(q_records, .inr (0, [.ref q_records_bytes, .int v_records_count])), (q_records_bytes, .inl (cB, 1536, .inl v_records_bytes)), (q_file, .inr (0, [.ref q_file_bytes, .int v_file_count])), (q_file_bytes, .inl (cB, 1536, .inl v_file_bytes))]) (WC2 := [(q_records, .inr (0, [.ref q_records_bytes, .int v_records_count])), (q_records_bytes, .inl (cB, 1536, .inl w3)), (q_file, .inr (0, [.ref q_file_bytes, .int v_file_count])), (q_file_bytes, .inl (cB, 1536, .inl v_file_bytes))]) (WR := [(q_this, .inr (4, [.ref q_file, .ref q_records, .ref q_recorded, .ref q_different, .int v_headThere, .int v_headPages, .int v_headRecords])), (q_recorded, .inl (cZ, 25, .inl v_recorded))]) (WS2 := [(q_this, .inr (4, [.ref q_file, .ref q_records, .ref q_recorded, .ref q_different, .int v_headThere, .int v_headPages, .int v_headRecords])), (q_file, .inr (0, [.ref q_file_bytes, .int v_file_count])), (q_file_bytes, .inl (cB, 1536, .inl v_file_bytes)), (q_records, .inr (0, [.ref q_records_bytes, .int v_records_count])), (q_records_bytes, .inl (cB, 1536, .inl w3)), (q_recorded, .inl (cZ, 25, .inl v_recorded))]) (pu_rv (cl := pu_cl) (pu_in6 _ (List.mem_of_getElem? (i := 23) rfl)) (pu_in5 _ (List.mem_of_getElem? (i := 49) rfl)) (pu_in5 _ (List.mem_of_getElem? (i := 50) rfl)) (pu_in0 _ (List.mem_of_getElem? (i := 3) rfl)) (pu_in5 _ (List.mem_of_getElem? (i := 51) rfl)) (ci := 0) rfl hd_Pages_copyPage (by decide) ⟨rfl, rfl⟩ rfl rfl (Nat.le_of_ble_eq_true rfl) rfl (As := [.int x_1, .ref q_file, .int x_1, .int (64 : Int32)]) (rest := []) (WC := [(q_records, .inr (0, [.ref q_records_bytes, .int v_records_count])), (q_records_bytes, .inl (cB, 1536, .inl v_records_bytes)), (q_file, .inr (0, [.ref q_file_bytes, .int v_file_count])), (q_file_bytes, .inl (cB, 1536, .inl v_file_bytes))]) hx hb hml hown hts hN hK hP hD (c_Pages_copyPage l D cI cJ cB cZ H.size q_records q_records_bytes q_file q_file_bytes v_records_count v_records_bytes v_file_count v_file_bytes x_1 x_1 (64 : Int32) w3 hc) [3, 4, 1, 2] rfl rfl hl.1 d_Disk_writeRecord_24) hP hD hS hA [3, 4, 1, 2] [0, 5] [0, 4, 5, 2, 3, 1] rfl rfl rfl (by decide) rfl rfl (fun H locs hP hD hS => ?_)
    refine lv_aload_n hx hb d_Disk_writeRecord_27 rfl (lv_at hl 0 rfl) ?_
    refine gf_Disk_21 (v := .ref q_recorded) hx hb hts hN hown hK hP 0 rfl rfl d_Disk_writeRecord_28 ?_
    refine lv_iload_n hx hb d_Disk_writeRecord_31 rfl (lv_at hl 1 rfl) ?_
    refine lv_iconst (v := 1) hx hb d_Disk_writeRecord_32 rfl ?_
    obtain ⟨hin, hf⟩ := pu_ck_some hf
    obtain ⟨a4, e_a4, hf⟩ := pu_nm_some hf
    refine va_zast hx hb hK hP hD hS 5 3 rfl rfl hin d_Disk_writeRecord_33 (fun H locs hP hD hS => ?_)
    have hP : va_P D pu_cl [(q_this, .inr (4, [.ref q_file, .ref q_records, .ref q_recorded, .ref q_different, .int v_headThere, .int v_headPages, .int v_headRecords])), (q_file, .inr (0, [.ref q_file_bytes, .int v_file_count])), (q_file_bytes, .inl (cB, 1536, .inl v_file_bytes)), (q_records, .inr (0, [.ref q_records_bytes, .int v_records_count])), (q_records_bytes, .inl (cB, 1536, .inl w3)), (q_recorded, .inl (cZ, 25, .inl a4))] H := by rw [e_a4]; exact hP
    have hD : va_D A [(q_this, .inr (4, [.ref q_file, .ref q_records, .ref q_recorded, .ref q_different, .int v_headThere, .int v_headPages, .int v_headRecords])), (q_file, .inr (0, [.ref q_file_bytes, .int v_file_count])), (q_file_bytes, .inl (cB, 1536, .inl v_file_bytes)), (q_records, .inr (0, [.ref q_records_bytes, .int v_records_count])), (q_records_bytes, .inl (cB, 1536, .inl w3)), (q_recorded, .inl (cZ, 25, .inl a4))] := by rw [e_a4]; exact hD
    refine lv_aload_n hx hb d_Disk_writeRecord_34 rfl (lv_at hl 0 rfl) ?_
    refine lv_dup hx hb d_Disk_writeRecord_35 rfl ?_
    refine gf_Disk_36 (v := .int v_headRecords) hx hb hts hN hown hK hP 0 rfl rfl d_Disk_writeRecord_36 ?_
    refine lv_iconst (v := 1) hx hb d_Disk_writeRecord_39 rfl ?_
    refine lv_iadd hx hb d_Disk_writeRecord_40 ?_
    obtain ⟨t5, e_t5, hf⟩ := pu_nm_some hf
    refine pu_ti e_t5 ?_
    refine pf_Disk_36 (v := .int t5) hx hb hts hN hown hK hP hD hS 0 rfl rfl rfl (Nat.le_of_ble_eq_true rfl) d_Disk_writeRecord_41 (fun H locs hP hD hS => ?_)
    have hP : va_P D pu_cl [(q_this, .inr (4, [.ref q_file, .ref q_records, .ref q_recorded, .ref q_different, .int v_headThere, .int v_headPages, .int t5])), (q_file, .inr (0, [.ref q_file_bytes, .int v_file_count])), (q_file_bytes, .inl (cB, 1536, .inl v_file_bytes)), (q_records, .inr (0, [.ref q_records_bytes, .int v_records_count])), (q_records_bytes, .inl (cB, 1536, .inl w3)), (q_recorded, .inl (cZ, 25, .inl a4))] H := hP
    have hD : va_D A [(q_this, .inr (4, [.ref q_file, .ref q_records, .ref q_recorded, .ref q_different, .int v_headThere, .int v_headPages, .int t5])), (q_file, .inr (0, [.ref q_file_bytes, .int v_file_count])), (q_file_bytes, .inl (cB, 1536, .inl v_file_bytes)), (q_records, .inr (0, [.ref q_records_bytes, .int v_records_count])), (q_records_bytes, .inl (cB, 1536, .inl w3)), (q_recorded, .inl (cZ, 25, .inl a4))] := hD
    exact hret _ _ _ _ t5 w3 a4 d_Disk_writeRecord_44 hP hD hS hf
  rw [hH, hlocs] at goal
  exact goal
theorem d_RF_writeRecords_0 : decode b_RF_writeRecords 0 = .ok (.aload_n 0, 1) := by decide +kernel
theorem d_RF_writeRecords_1 : decode b_RF_writeRecords 1 = .ok (.getfield 29, 3) := by decide +kernel
theorem d_RF_writeRecords_4 : decode b_RF_writeRecords 4 = .ok (.invokevirtual 190, 3) := by decide +kernel
theorem d_RF_writeRecords_7 : decode b_RF_writeRecords 7 = .ok (.iconst 1, 1) := by decide +kernel
theorem d_RF_writeRecords_8 : decode b_RF_writeRecords 8 = .ok (.istore_n 1, 1) := by decide +kernel
theorem d_RF_writeRecords_9 : decode b_RF_writeRecords 9 = .ok (.iload_n 1, 1) := by decide +kernel
theorem d_RF_writeRecords_10 : decode b_RF_writeRecords 10 = .ok (.bipush 24, 2) := by decide +kernel
theorem d_RF_writeRecords_12 : decode b_RF_writeRecords 12 = .ok (.if_icmp .gt 52, 3) := by decide +kernel
theorem d_RF_writeRecords_15 : decode b_RF_writeRecords 15 = .ok (.aload_n 0, 1) := by decide +kernel
theorem d_RF_writeRecords_16 : decode b_RF_writeRecords 16 = .ok (.getfield 29, 3) := by decide +kernel
theorem d_RF_writeRecords_19 : decode b_RF_writeRecords 19 = .ok (.getfield 193, 3) := by decide +kernel
theorem d_RF_writeRecords_22 : decode b_RF_writeRecords 22 = .ok (.iload_n 1, 1) := by decide +kernel
theorem d_RF_writeRecords_23 : decode b_RF_writeRecords 23 = .ok (.baload, 1) := by decide +kernel
theorem d_RF_writeRecords_24 : decode b_RF_writeRecords 24 = .ok (.ifCond .eq 34, 3) := by decide +kernel
theorem d_RF_writeRecords_27 : decode b_RF_writeRecords 27 = .ok (.iload_n 1, 1) := by decide +kernel
theorem d_RF_writeRecords_28 : decode b_RF_writeRecords 28 = .ok (.aload_n 0, 1) := by decide +kernel
theorem d_RF_writeRecords_29 : decode b_RF_writeRecords 29 = .ok (.getfield 29, 3) := by decide +kernel
theorem d_RF_writeRecords_32 : decode b_RF_writeRecords 32 = .ok (.getfield 58, 3) := by decide +kernel
theorem d_RF_writeRecords_35 : decode b_RF_writeRecords 35 = .ok (.getfield 186, 3) := by decide +kernel
theorem d_RF_writeRecords_38 : decode b_RF_writeRecords 38 = .ok (.if_icmp .gt 20, 3) := by decide +kernel
theorem d_RF_writeRecords_41 : decode b_RF_writeRecords 41 = .ok (.aload_n 0, 1) := by decide +kernel
theorem d_RF_writeRecords_42 : decode b_RF_writeRecords 42 = .ok (.invokevirtual 197, 3) := by decide +kernel
theorem d_RF_writeRecords_45 : decode b_RF_writeRecords 45 = .ok (.ifCond .eq 5, 3) := by decide +kernel
theorem d_RF_writeRecords_48 : decode b_RF_writeRecords 48 = .ok (.iconst 0, 1) := by decide +kernel
theorem d_RF_writeRecords_49 : decode b_RF_writeRecords 49 = .ok (.ireturn, 1) := by decide +kernel
theorem d_RF_writeRecords_50 : decode b_RF_writeRecords 50 = .ok (.aload_n 0, 1) := by decide +kernel
theorem d_RF_writeRecords_51 : decode b_RF_writeRecords 51 = .ok (.getfield 29, 3) := by decide +kernel
theorem d_RF_writeRecords_54 : decode b_RF_writeRecords 54 = .ok (.iload_n 1, 1) := by decide +kernel
theorem d_RF_writeRecords_55 : decode b_RF_writeRecords 55 = .ok (.invokevirtual 200, 3) := by decide +kernel
theorem d_RF_writeRecords_58 : decode b_RF_writeRecords 58 = .ok (.iinc 1 1, 3) := by decide +kernel
theorem d_RF_writeRecords_61 : decode b_RF_writeRecords 61 = .ok (.goto (-52), 3) := by decide +kernel
theorem d_RF_writeRecords_64 : decode b_RF_writeRecords 64 = .ok (.iconst 1, 1) := by decide +kernel
theorem d_RF_writeRecords_65 : decode b_RF_writeRecords 65 = .ok (.ireturn, 1) := by decide +kernel
noncomputable def q_RF_writeRecords_58 (kb : Int32 → Int32 → (Nat → Int32) → (Nat → Int32) → Int32 → Option (Int32 × Int32 × Int32 × Int32 × (Nat → Int32) × (Nat → Int32))) (v_disk_file_count : Int32) (v_disk_file_bytes : Nat → Int32) (v_disk_different : Nat → Int32) (v_armed : Int32) (v_disk_headRecords : Int32) (v_disk_records_count : Int32) (v_disk_records_bytes : Nat → Int32) (v_disk_recorded : Nat → Int32) (x_1 : Int32) : Option (Int32 × Int32 × Int32 × Int32 × (Nat → Int32) × (Nat → Int32)) :=
  pu_nm (x_1 + (1 : Int32)) (fun t5 => kb v_armed v_disk_headRecords v_disk_records_bytes v_disk_recorded t5)
noncomputable def q_RF_writeRecords_9 (v_disk_file_count : Int32) (v_disk_file_bytes : Nat → Int32) (v_disk_different : Nat → Int32) (v_disk_records_count : Int32) : Nat → Int32 → Int32 → (Nat → Int32) → (Nat → Int32) → Int32 → Option (Int32 × Int32 × Int32 × Int32 × (Nat → Int32) × (Nat → Int32))
  | 0, _, _, _, _, _ => none
  | n + 1, v_armed, v_disk_headRecords, v_disk_records_bytes, v_disk_recorded, x_1 => pu_br ((24 : Int32) < x_1) (some ((1 : Int32), v_armed, v_disk_headRecords, v_disk_records_count, v_disk_records_bytes, v_disk_recorded)) (pu_ck (vp_in x_1 25) (pu_br ((v_disk_different x_1.toNatClampNeg) = 0) (q_RF_writeRecords_58 (q_RF_writeRecords_9 v_disk_file_count v_disk_file_bytes v_disk_different v_disk_records_count n) v_disk_file_count v_disk_file_bytes v_disk_different v_armed v_disk_headRecords v_disk_records_count v_disk_records_bytes v_disk_recorded x_1) (pu_br (v_disk_file_count < x_1) (q_RF_writeRecords_58 (q_RF_writeRecords_9 v_disk_file_count v_disk_file_bytes v_disk_different v_disk_records_count n) v_disk_file_count v_disk_file_bytes v_disk_different v_armed v_disk_headRecords v_disk_records_count v_disk_records_bytes v_disk_recorded x_1) (pu_b2 (f_RF_writeFails v_armed) (fun r6 w7 => pu_br (r6 = 0) (pu_b3 (f_Disk_writeRecord v_disk_file_count v_disk_file_bytes v_disk_records_count v_disk_headRecords v_disk_records_bytes v_disk_recorded x_1) (fun w9 w10 w11 => q_RF_writeRecords_58 (q_RF_writeRecords_9 v_disk_file_count v_disk_file_bytes v_disk_different v_disk_records_count n) v_disk_file_count v_disk_file_bytes v_disk_different w7 w9 v_disk_records_count w10 w11 x_1)) (some ((0 : Int32), w7, v_disk_headRecords, v_disk_records_count, v_disk_records_bytes, v_disk_recorded)))))))
noncomputable def f_RF_writeRecords (v_disk_file_count : Int32) (v_disk_file_bytes : Nat → Int32) (v_disk_different : Nat → Int32) (v_armed : Int32) (v_disk_headRecords : Int32) (v_disk_records_count : Int32) (v_disk_records_bytes : Nat → Int32) (v_disk_recorded : Nat → Int32) : Option (Int32 × Int32 × Int32 × Int32 × (Nat → Int32) × (Nat → Int32)) :=
  pu_b3 (f_Disk_startJournal v_disk_file_count v_disk_headRecords v_disk_records_count v_disk_recorded) (fun w2 w3 w4 => q_RF_writeRecords_9 v_disk_file_count v_disk_file_bytes v_disk_different w3 pu_fu v_armed w2 v_disk_records_bytes w4 (1 : Int32))
abbrev rm_RF_writeRecords : Room := { frames := 3, cells := 0, slots := 0, locals := 113 }
set_option maxHeartbeats 8000000 in
set_option maxRecDepth 100000 in
theorem c_RF_writeRecords (l : Launch) (D : va_G) (cI cJ cB cZ : ClassId) (sz : Nat) (q_this : Nat) (q_draft : Nat) (q_now : Nat) (q_before : Nat) (q_disk : Nat) (q_row : Nat) (q_node : Nat) (q_tree : Nat) (q_check : Nat) (q_disk_file : Nat) (q_disk_records : Nat) (q_disk_recorded : Nat) (q_disk_different : Nat) (q_disk_file_bytes : Nat) (q_disk_records_bytes : Nat) (v_up : Int32) (v_armed : Int32) (v_disk_headThere : Int32) (v_disk_headPages : Int32) (v_disk_headRecords : Int32) (v_disk_file_count : Int32) (v_disk_file_bytes : Nat → Int32) (v_disk_records_count : Int32) (v_disk_records_bytes : Nat → Int32) (v_disk_recorded : Nat → Int32) (v_disk_different : Nat → Int32) (o_r : Int32) (o_armed : Int32) (o_disk_headRecords : Int32) (o_disk_records_count : Int32) (o_disk_records_bytes : Nat → Int32) (o_disk_recorded : Nat → Int32) (hf : f_RF_writeRecords v_disk_file_count v_disk_file_bytes v_disk_different v_armed v_disk_headRecords v_disk_records_count v_disk_records_bytes v_disk_recorded = some (o_r, o_armed, o_disk_headRecords, o_disk_records_count, o_disk_records_bytes, o_disk_recorded)) : Met l y_RF_writeRecords (.code y_RF_writeRecords b_RF_writeRecords 2 (some .boolean) :: pu_wA) rm_RF_writeRecords (pu_pc D pu_cl (pu_ty cI cJ cB cZ) [.ref q_this] [(q_this, .inr (7, [.ref q_draft, .ref q_now, .ref q_before, .ref q_disk, .ref q_row, .ref q_node, .ref q_tree, .ref q_check, .int v_up, .int v_armed])), (q_disk, .inr (4, [.ref q_disk_file, .ref q_disk_records, .ref q_disk_recorded, .ref q_disk_different, .int v_disk_headThere, .int v_disk_headPages, .int v_disk_headRecords])), (q_disk_file, .inr (0, [.ref q_disk_file_bytes, .int v_disk_file_count])), (q_disk_file_bytes, .inl (cB, 1536, .inl v_disk_file_bytes)), (q_disk_records, .inr (0, [.ref q_disk_records_bytes, .int v_disk_records_count])), (q_disk_records_bytes, .inl (cB, 1536, .inl v_disk_records_bytes)), (q_disk_recorded, .inl (cZ, 25, .inl v_disk_recorded)), (q_disk_different, .inl (cZ, 25, .inl v_disk_different))] sz) (pu_qi D pu_cl (pu_ty cI cJ cB cZ) [(q_this, .inr (7, [.ref q_draft, .ref q_now, .ref q_before, .ref q_disk, .ref q_row, .ref q_node, .ref q_tree, .ref q_check, .int v_up, .int v_armed])), (q_disk, .inr (4, [.ref q_disk_file, .ref q_disk_records, .ref q_disk_recorded, .ref q_disk_different, .int v_disk_headThere, .int v_disk_headPages, .int v_disk_headRecords])), (q_disk_file, .inr (0, [.ref q_disk_file_bytes, .int v_disk_file_count])), (q_disk_file_bytes, .inl (cB, 1536, .inl v_disk_file_bytes)), (q_disk_records, .inr (0, [.ref q_disk_records_bytes, .int v_disk_records_count])), (q_disk_records_bytes, .inl (cB, 1536, .inl v_disk_records_bytes)), (q_disk_recorded, .inl (cZ, 25, .inl v_disk_recorded)), (q_disk_different, .inl (cZ, 25, .inl v_disk_different))] [(q_this, .inr (7, [.ref q_draft, .ref q_now, .ref q_before, .ref q_disk, .ref q_row, .ref q_node, .ref q_tree, .ref q_check, .int v_up, .int o_armed])), (q_disk, .inr (4, [.ref q_disk_file, .ref q_disk_records, .ref q_disk_recorded, .ref q_disk_different, .int v_disk_headThere, .int v_disk_headPages, .int o_disk_headRecords])), (q_disk_file, .inr (0, [.ref q_disk_file_bytes, .int v_disk_file_count])), (q_disk_file_bytes, .inl (cB, 1536, .inl v_disk_file_bytes)), (q_disk_records, .inr (0, [.ref q_disk_records_bytes, .int o_disk_records_count])), (q_disk_records_bytes, .inl (cB, 1536, .inl o_disk_records_bytes)), (q_disk_recorded, .inl (cZ, 25, .inl o_disk_recorded)), (q_disk_different, .inl (cZ, 25, .inl v_disk_different))] sz o_r) 0 0 (va_A [(q_this, .inr (7, [.ref q_draft, .ref q_now, .ref q_before, .ref q_disk, .ref q_row, .ref q_node, .ref q_tree, .ref q_check, .int v_up, .int v_armed])), (q_disk, .inr (4, [.ref q_disk_file, .ref q_disk_records, .ref q_disk_recorded, .ref q_disk_different, .int v_disk_headThere, .int v_disk_headPages, .int v_disk_headRecords])), (q_disk_file, .inr (0, [.ref q_disk_file_bytes, .int v_disk_file_count])), (q_disk_file_bytes, .inl (cB, 1536, .inl v_disk_file_bytes)), (q_disk_records, .inr (0, [.ref q_disk_records_bytes, .int v_disk_records_count])), (q_disk_records_bytes, .inl (cB, 1536, .inl v_disk_records_bytes)), (q_disk_recorded, .inl (cZ, 25, .inl v_disk_recorded)), (q_disk_different, .inl (cZ, 25, .inl v_disk_different))] sz) := by
  refine pu_mtz [.ref q_this] [(q_this, .inr (7, [.ref q_draft, .ref q_now, .ref q_before, .ref q_disk, .ref q_row, .ref q_node, .ref q_tree, .ref q_check, .int v_up, .int v_armed])), (q_disk, .inr (4, [.ref q_disk_file, .ref q_disk_records, .ref q_disk_recorded, .ref q_disk_different, .int v_disk_headThere, .int v_disk_headPages, .int v_disk_headRecords])), (q_disk_file, .inr (0, [.ref q_disk_file_bytes, .int v_disk_file_count])), (q_disk_file_bytes, .inl (cB, 1536, .inl v_disk_file_bytes)), (q_disk_records, .inr (0, [.ref q_disk_records_bytes, .int v_disk_records_count])), (q_disk_records_bytes, .inl (cB, 1536, .inl v_disk_records_bytes)), (q_disk_recorded, .inl (cZ, 25, .inl v_disk_recorded)), (q_disk_different, .inl (cZ, 25, .inl v_disk_different))] [(q_this, .inr (7, [.ref q_draft, .ref q_now, .ref q_before, .ref q_disk, .ref q_row, .ref q_node, .ref q_tree, .ref q_check, .int v_up, .int o_armed])), (q_disk, .inr (4, [.ref q_disk_file, .ref q_disk_records, .ref q_disk_recorded, .ref q_disk_different, .int v_disk_headThere, .int v_disk_headPages, .int o_disk_headRecords])), (q_disk_file, .inr (0, [.ref q_disk_file_bytes, .int v_disk_file_count])), (q_disk_file_bytes, .inl (cB, 1536, .inl v_disk_file_bytes)), (q_disk_records, .inr (0, [.ref q_disk_records_bytes, .int o_disk_records_count])), (q_disk_records_bytes, .inl (cB, 1536, .inl o_disk_records_bytes)), (q_disk_recorded, .inl (cZ, 25, .inl o_disk_recorded)), (q_disk_different, .inl (cZ, 25, .inl v_disk_different))] o_r (by decide) (Nat.le_of_ble_eq_true rfl) ?_
  intro p e s m args below meth c A Q ls hx hb hml hts hN hown hK hA hP hD hl hret0
  have hS : va_S A s.heap s.heap [] := va_S.rf
  have hl : lv_has ls 2 [(0, .ref q_this)] := hl
  have hret : ∀ (pc : Nat) (ls : Array Slot) (H : Heap) (locs : List Loc) (y_0 : Int32) (y_1 : Int32) (y_2 : Int32) (y_3 : Int32) (y_4 : Nat → Int32) (y_5 : Nat → Int32), decode b_RF_writeRecords pc = .ok (.ireturn, 1) → narrow .boolean (.int y_0) = .int y_0 → va_P D pu_cl [(q_this, .inr (7, [.ref q_draft, .ref q_now, .ref q_before, .ref q_disk, .ref q_row, .ref q_node, .ref q_tree, .ref q_check, .int v_up, .int y_1])), (q_disk, .inr (4, [.ref q_disk_file, .ref q_disk_records, .ref q_disk_recorded, .ref q_disk_different, .int v_disk_headThere, .int v_disk_headPages, .int y_2])), (q_disk_file, .inr (0, [.ref q_disk_file_bytes, .int v_disk_file_count])), (q_disk_file_bytes, .inl (cB, 1536, .inl v_disk_file_bytes)), (q_disk_records, .inr (0, [.ref q_disk_records_bytes, .int y_3])), (q_disk_records_bytes, .inl (cB, 1536, .inl y_4)), (q_disk_recorded, .inl (cZ, 25, .inl y_5)), (q_disk_different, .inl (cZ, 25, .inl v_disk_different))] H → va_D A [(q_this, .inr (7, [.ref q_draft, .ref q_now, .ref q_before, .ref q_disk, .ref q_row, .ref q_node, .ref q_tree, .ref q_check, .int v_up, .int y_1])), (q_disk, .inr (4, [.ref q_disk_file, .ref q_disk_records, .ref q_disk_recorded, .ref q_disk_different, .int v_disk_headThere, .int v_disk_headPages, .int y_2])), (q_disk_file, .inr (0, [.ref q_disk_file_bytes, .int v_disk_file_count])), (q_disk_file_bytes, .inl (cB, 1536, .inl v_disk_file_bytes)), (q_disk_records, .inr (0, [.ref q_disk_records_bytes, .int y_3])), (q_disk_records_bytes, .inl (cB, 1536, .inl y_4)), (q_disk_recorded, .inl (cZ, 25, .inl y_5)), (q_disk_different, .inl (cZ, 25, .inl v_disk_different))] → va_S A s.heap H locs → some (y_0, y_1, y_2, y_3, y_4, y_5) = some (o_r, o_armed, o_disk_headRecords, o_disk_records_count, o_disk_records_bytes, o_disk_recorded) → W p l e rm_RF_writeRecords s m args below meth c H locs 0 0 Q (F0 m pc ls [.int y_0]) := by
    intro pc ls H locs y_0 y_1 y_2 y_3 y_4 y_5 hd hz hP hD hS hf
    cases hf
    exact hret0 pc ls H locs hd hz hP hD hS
  clear hret0
  unfold f_RF_writeRecords at hf
  skip
  have lp_9 : ∀ (v_disk_records_count : Int32) (n9 : Nat) (v_armed : Int32) (v_disk_headRecords : Int32) (v_disk_records_bytes : Nat → Int32) (v_disk_recorded : Nat → Int32) (x_1 : Int32) (H : Heap) (locs : List Loc) (ls : Array Slot), va_P D pu_cl [(q_this, .inr (7, [.ref q_draft, .ref q_now, .ref q_before, .ref q_disk, .ref q_row, .ref q_node, .ref q_tree, .ref q_check, .int v_up, .int v_armed])), (q_disk, .inr (4, [.ref q_disk_file, .ref q_disk_records, .ref q_disk_recorded, .ref q_disk_different, .int v_disk_headThere, .int v_disk_headPages, .int v_disk_headRecords])), (q_disk_file, .inr (0, [.ref q_disk_file_bytes, .int v_disk_file_count])), (q_disk_file_bytes, .inl (cB, 1536, .inl v_disk_file_bytes)), (q_disk_records, .inr (0, [.ref q_disk_records_bytes, .int v_disk_records_count])), (q_disk_records_bytes, .inl (cB, 1536, .inl v_disk_records_bytes)), (q_disk_recorded, .inl (cZ, 25, .inl v_disk_recorded)), (q_disk_different, .inl (cZ, 25, .inl v_disk_different))] H → va_D A [(q_this, .inr (7, [.ref q_draft, .ref q_now, .ref q_before, .ref q_disk, .ref q_row, .ref q_node, .ref q_tree, .ref q_check, .int v_up, .int v_armed])), (q_disk, .inr (4, [.ref q_disk_file, .ref q_disk_records, .ref q_disk_recorded, .ref q_disk_different, .int v_disk_headThere, .int v_disk_headPages, .int v_disk_headRecords])), (q_disk_file, .inr (0, [.ref q_disk_file_bytes, .int v_disk_file_count])), (q_disk_file_bytes, .inl (cB, 1536, .inl v_disk_file_bytes)), (q_disk_records, .inr (0, [.ref q_disk_records_bytes, .int v_disk_records_count])), (q_disk_records_bytes, .inl (cB, 1536, .inl v_disk_records_bytes)), (q_disk_recorded, .inl (cZ, 25, .inl v_disk_recorded)), (q_disk_different, .inl (cZ, 25, .inl v_disk_different))] → va_S A s.heap H locs → lv_has ls 2 [(0, .ref q_this), (1, .int x_1)] → q_RF_writeRecords_9 v_disk_file_count v_disk_file_bytes v_disk_different v_disk_records_count n9 v_armed v_disk_headRecords v_disk_records_bytes v_disk_recorded x_1 = some (o_r, o_armed, o_disk_headRecords, o_disk_records_count, o_disk_records_bytes, o_disk_recorded) → W p l e rm_RF_writeRecords s m args below meth c H locs 0 0 Q (F0 m 9 ls []) := by
    intro v_disk_records_count n9
    induction n9 with
    | zero =>
      intro v_armed v_disk_headRecords v_disk_records_bytes v_disk_recorded x_1 H locs ls hP hD hS hl hf
      rw [q_RF_writeRecords_9] at hf
      cases hf
    | succ n9 ih_9 =>
      have lb_58 : ∀ (v_armed : Int32) (v_disk_headRecords : Int32) (v_disk_records_bytes : Nat → Int32) (v_disk_recorded : Nat → Int32) (x_1 : Int32) (H : Heap) (locs : List Loc) (ls : Array Slot), va_P D pu_cl [(q_this, .inr (7, [.ref q_draft, .ref q_now, .ref q_before, .ref q_disk, .ref q_row, .ref q_node, .ref q_tree, .ref q_check, .int v_up, .int v_armed])), (q_disk, .inr (4, [.ref q_disk_file, .ref q_disk_records, .ref q_disk_recorded, .ref q_disk_different, .int v_disk_headThere, .int v_disk_headPages, .int v_disk_headRecords])), (q_disk_file, .inr (0, [.ref q_disk_file_bytes, .int v_disk_file_count])), (q_disk_file_bytes, .inl (cB, 1536, .inl v_disk_file_bytes)), (q_disk_records, .inr (0, [.ref q_disk_records_bytes, .int v_disk_records_count])), (q_disk_records_bytes, .inl (cB, 1536, .inl v_disk_records_bytes)), (q_disk_recorded, .inl (cZ, 25, .inl v_disk_recorded)), (q_disk_different, .inl (cZ, 25, .inl v_disk_different))] H → va_D A [(q_this, .inr (7, [.ref q_draft, .ref q_now, .ref q_before, .ref q_disk, .ref q_row, .ref q_node, .ref q_tree, .ref q_check, .int v_up, .int v_armed])), (q_disk, .inr (4, [.ref q_disk_file, .ref q_disk_records, .ref q_disk_recorded, .ref q_disk_different, .int v_disk_headThere, .int v_disk_headPages, .int v_disk_headRecords])), (q_disk_file, .inr (0, [.ref q_disk_file_bytes, .int v_disk_file_count])), (q_disk_file_bytes, .inl (cB, 1536, .inl v_disk_file_bytes)), (q_disk_records, .inr (0, [.ref q_disk_records_bytes, .int v_disk_records_count])), (q_disk_records_bytes, .inl (cB, 1536, .inl v_disk_records_bytes)), (q_disk_recorded, .inl (cZ, 25, .inl v_disk_recorded)), (q_disk_different, .inl (cZ, 25, .inl v_disk_different))] → va_S A s.heap H locs → lv_has ls 2 [(0, .ref q_this), (1, .int x_1)] → q_RF_writeRecords_58 (q_RF_writeRecords_9 v_disk_file_count v_disk_file_bytes v_disk_different v_disk_records_count n9) v_disk_file_count v_disk_file_bytes v_disk_different v_armed v_disk_headRecords v_disk_records_count v_disk_records_bytes v_disk_recorded x_1 = some (o_r, o_armed, o_disk_headRecords, o_disk_records_count, o_disk_records_bytes, o_disk_recorded) → W p l e rm_RF_writeRecords s m args below meth c H locs 0 0 Q (F0 m 58 ls []) := by
        intro v_armed v_disk_headRecords v_disk_records_bytes v_disk_recorded x_1 H locs ls hP hD hS hl hf
        rw [q_RF_writeRecords_58] at hf
        obtain ⟨t5, e_t5, hf⟩ := pu_nm_some hf
        refine lv_iinc (k := 1) (v := t5) hx hb d_RF_writeRecords_58 hl rfl e_t5.symm (by decide) rfl (fun ls hl => ?_)
        have hl : lv_has ls 2 [(1, .int t5), (0, .ref q_this)] := hl
        refine lv_goto (tgt := 9) hx hb d_RF_writeRecords_61 rfl ?_
        exact ih_9 v_armed v_disk_headRecords v_disk_records_bytes v_disk_recorded t5 H locs ls hP hD hS (lv_sub hl [1, 0] rfl) hf
      intro v_armed v_disk_headRecords v_disk_records_bytes v_disk_recorded x_1 H locs ls hP hD hS hl hf
      rw [q_RF_writeRecords_9] at hf
      refine lv_iload_n hx hb d_RF_writeRecords_9 rfl (lv_at hl 1 rfl) ?_
      refine lv_bipush (v := 24) hx hb d_RF_writeRecords_10 rfl ?_
      refine lv_icmp_gt (tgt := 64) hx hb d_RF_writeRecords_12 rfl (fun hc => ?_) (fun hc => ?_)
      · have hf := pu_br_pos hf hc
        refine lv_iconst (v := 1) hx hb d_RF_writeRecords_64 rfl ?_
        exact hret _ _ _ _ (1 : Int32) v_armed v_disk_headRecords v_disk_records_count v_disk_records_bytes v_disk_recorded d_RF_writeRecords_65 (by decide) hP hD hS hf
      have hf := pu_br_neg hf hc
      refine lv_aload_n hx hb d_RF_writeRecords_15 rfl (lv_at hl 0 rfl) ?_
      refine gf_RF_29 (v := .ref q_disk) hx hb hts hN hown hK hP 0 rfl rfl d_RF_writeRecords_16 ?_
      refine gf_RF_193 (v := .ref q_disk_different) hx hb hts hN hown hK hP 1 rfl rfl d_RF_writeRecords_19 ?_
      refine lv_iload_n hx hb d_RF_writeRecords_22 rfl (lv_at hl 1 rfl) ?_
      obtain ⟨hin, hf⟩ := pu_ck_some hf
      refine va_zald hx hb hK hP 7 3 rfl rfl hin d_RF_writeRecords_23 ?_
      refine lv_if_eq (tgt := 58) hx hb d_RF_writeRecords_24 rfl (fun hc => ?_) (fun hc => ?_)
      · have hf := pu_br_pos hf hc
        exact lb_58 v_armed v_disk_headRecords v_disk_records_bytes v_disk_recorded x_1 H locs ls hP hD hS (lv_sub hl [0, 1] rfl) hf
      have hf := pu_br_neg hf hc
      refine lv_iload_n hx hb d_RF_writeRecords_27 rfl (lv_at hl 1 rfl) ?_
      refine lv_aload_n hx hb d_RF_writeRecords_28 rfl (lv_at hl 0 rfl) ?_
      refine gf_RF_29 (v := .ref q_disk) hx hb hts hN hown hK hP 0 rfl rfl d_RF_writeRecords_29 ?_
      refine gf_RF_58 (v := .ref q_disk_file) hx hb hts hN hown hK hP 1 rfl rfl d_RF_writeRecords_32 ?_
      refine gf_RF_186 (v := .int v_disk_file_count) hx hb hts hN hown hK hP 2 rfl rfl d_RF_writeRecords_35 ?_
      refine lv_icmp_gt (tgt := 58) hx hb d_RF_writeRecords_38 rfl (fun hc => ?_) (fun hc => ?_)
      · have hf := pu_br_pos hf hc
        exact lb_58 v_armed v_disk_headRecords v_disk_records_bytes v_disk_recorded x_1 H locs ls hP hD hS (lv_sub hl [0, 1] rfl) hf
      have hf := pu_br_neg hf hc
      refine lv_aload_n hx hb d_RF_writeRecords_41 rfl (lv_at hl 0 rfl) ?_
      obtain ⟨r6, w7, hc, hf⟩ := pu_b2_some hf
      refine cl_i (WC := [(q_this, .inr (7, [.ref q_draft, .ref q_now, .ref q_before, .ref q_disk, .ref q_row, .ref q_node, .ref q_tree, .ref q_check, .int v_up, .int v_armed]))]) (WC2 := [(q_this, .inr (7, [.ref q_draft, .ref q_now, .ref q_before, .ref q_disk, .ref q_row, .ref q_node, .ref q_tree, .ref q_check, .int v_up, .int w7]))]) (WR := [(q_disk, .inr (4, [.ref q_disk_file, .ref q_disk_records, .ref q_disk_recorded, .ref q_disk_different, .int v_disk_headThere, .int v_disk_headPages, .int v_disk_headRecords])), (q_disk_file, .inr (0, [.ref q_disk_file_bytes, .int v_disk_file_count])), (q_disk_file_bytes, .inl (cB, 1536, .inl v_disk_file_bytes)), (q_disk_records, .inr (0, [.ref q_disk_records_bytes, .int v_disk_records_count])), (q_disk_records_bytes, .inl (cB, 1536, .inl v_disk_records_bytes)), (q_disk_recorded, .inl (cZ, 25, .inl v_disk_recorded)), (q_disk_different, .inl (cZ, 25, .inl v_disk_different))]) (WS2 := [(q_this, .inr (7, [.ref q_draft, .ref q_now, .ref q_before, .ref q_disk, .ref q_row, .ref q_node, .ref q_tree, .ref q_check, .int v_up, .int w7])), (q_disk, .inr (4, [.ref q_disk_file, .ref q_disk_records, .ref q_disk_recorded, .ref q_disk_different, .int v_disk_headThere, .int v_disk_headPages, .int v_disk_headRecords])), (q_disk_file, .inr (0, [.ref q_disk_file_bytes, .int v_disk_file_count])), (q_disk_file_bytes, .inl (cB, 1536, .inl v_disk_file_bytes)), (q_disk_records, .inr (0, [.ref q_disk_records_bytes, .int v_disk_records_count])), (q_disk_records_bytes, .inl (cB, 1536, .inl v_disk_records_bytes)), (q_disk_recorded, .inl (cZ, 25, .inl v_disk_recorded)), (q_disk_different, .inl (cZ, 25, .inl v_disk_different))]) (pu_rv (cl := pu_cl) (pu_in6 _ (List.mem_of_getElem? (i := 15) rfl)) (pu_in6 _ (List.mem_of_getElem? (i := 16) rfl)) (pu_in13 _ (List.mem_of_getElem? (i := 57) rfl)) (pu_in0 _ (List.mem_of_getElem? (i := 1) rfl)) (pu_in6 _ (List.mem_of_getElem? (i := 17) rfl)) (ci := 7) rfl hd_RF_writeFails (by decide) ⟨rfl, rfl⟩ rfl rfl (Nat.le_of_ble_eq_true rfl) rfl (As := []) (rest := []) (WC := [(q_this, .inr (7, [.ref q_draft, .ref q_now, .ref q_before, .ref q_disk, .ref q_row, .ref q_node, .ref q_tree, .ref q_check, .int v_up, .int v_armed]))]) hx hb hml hown hts hN hK hP hD (c_RF_writeFails l D cI cJ cB cZ H.size q_this q_draft q_now q_before q_disk q_row q_node q_tree q_check v_up v_armed r6 w7 hc) [0] rfl rfl hl.1 d_RF_writeRecords_42) hP hD hS hA [0] [1, 2, 3, 4, 5, 6, 7] [7, 0, 1, 2, 3, 4, 5, 6] rfl rfl rfl (by decide) rfl rfl (fun H locs hP hD hS => ?_)
      refine lv_if_eq (tgt := 50) hx hb d_RF_writeRecords_45 rfl (fun hc => ?_) (fun hc => ?_)
      · have hf := pu_br_pos hf hc
        refine lv_aload_n hx hb d_RF_writeRecords_50 rfl (lv_at hl 0 rfl) ?_
        refine gf_RF_29 (v := .ref q_disk) hx hb hts hN hown hK hP 0 rfl rfl d_RF_writeRecords_51 ?_
        refine lv_iload_n hx hb d_RF_writeRecords_54 rfl (lv_at hl 1 rfl) ?_
        obtain ⟨w9, w10, w11, hc, hf⟩ := pu_b3_some hf
        refine cl_v (WC := [(q_disk, .inr (4, [.ref q_disk_file, .ref q_disk_records, .ref q_disk_recorded, .ref q_disk_different, .int v_disk_headThere, .int v_disk_headPages, .int v_disk_headRecords])), (q_disk_file, .inr (0, [.ref q_disk_file_bytes, .int v_disk_file_count])), (q_disk_file_bytes, .inl (cB, 1536, .inl v_disk_file_bytes)), (q_disk_records, .inr (0, [.ref q_disk_records_bytes, .int v_disk_records_count])), (q_disk_records_bytes, .inl (cB, 1536, .inl v_disk_records_bytes)), (q_disk_recorded, .inl (cZ, 25, .inl v_disk_recorded))]) (WC2 := [(q_disk, .inr (4, [.ref q_disk_file, .ref q_disk_records, .ref q_disk_recorded, .ref q_disk_different, .int v_disk_headThere, .int v_disk_headPages, .int w9])), (q_disk_file, .inr (0, [.ref q_disk_file_bytes, .int v_disk_file_count])), (q_disk_file_bytes, .inl (cB, 1536, .inl v_disk_file_bytes)), (q_disk_records, .inr (0, [.ref q_disk_records_bytes, .int v_disk_records_count])), (q_disk_records_bytes, .inl (cB, 1536, .inl w10)), (q_disk_recorded, .inl (cZ, 25, .inl w11))]) (WR := [(q_this, .inr (7, [.ref q_draft, .ref q_now, .ref q_before, .ref q_disk, .ref q_row, .ref q_node, .ref q_tree, .ref q_check, .int v_up, .int w7])), (q_disk_different, .inl (cZ, 25, .inl v_disk_different))]) (WS2 := [(q_this, .inr (7, [.ref q_draft, .ref q_now, .ref q_before, .ref q_disk, .ref q_row, .ref q_node, .ref q_tree, .ref q_check, .int v_up, .int w7])), (q_disk, .inr (4, [.ref q_disk_file, .ref q_disk_records, .ref q_disk_recorded, .ref q_disk_different, .int v_disk_headThere, .int v_disk_headPages, .int w9])), (q_disk_file, .inr (0, [.ref q_disk_file_bytes, .int v_disk_file_count])), (q_disk_file_bytes, .inl (cB, 1536, .inl v_disk_file_bytes)), (q_disk_records, .inr (0, [.ref q_disk_records_bytes, .int v_disk_records_count])), (q_disk_records_bytes, .inl (cB, 1536, .inl w10)), (q_disk_recorded, .inl (cZ, 25, .inl w11)), (q_disk_different, .inl (cZ, 25, .inl v_disk_different))]) (pu_rv (cl := pu_cl) (pu_in6 _ (List.mem_of_getElem? (i := 18) rfl)) (pu_in6 _ (List.mem_of_getElem? (i := 19) rfl)) (pu_in6 _ (List.mem_of_getElem? (i := 20) rfl)) (pu_in0 _ (List.mem_of_getElem? (i := 4) rfl)) (pu_in6 _ (List.mem_of_getElem? (i := 21) rfl)) (ci := 4) rfl hd_Disk_writeRecord (by decide) ⟨rfl, rfl⟩ rfl rfl (Nat.le_of_ble_eq_true rfl) rfl (As := [.int x_1]) (rest := []) (WC := [(q_disk, .inr (4, [.ref q_disk_file, .ref q_disk_records, .ref q_disk_recorded, .ref q_disk_different, .int v_disk_headThere, .int v_disk_headPages, .int v_disk_headRecords])), (q_disk_file, .inr (0, [.ref q_disk_file_bytes, .int v_disk_file_count])), (q_disk_file_bytes, .inl (cB, 1536, .inl v_disk_file_bytes)), (q_disk_records, .inr (0, [.ref q_disk_records_bytes, .int v_disk_records_count])), (q_disk_records_bytes, .inl (cB, 1536, .inl v_disk_records_bytes)), (q_disk_recorded, .inl (cZ, 25, .inl v_disk_recorded))]) hx hb hml hown hts hN hK hP hD (c_Disk_writeRecord l D cI cJ cB cZ H.size q_disk q_disk_file q_disk_records q_disk_recorded q_disk_different q_disk_file_bytes q_disk_records_bytes v_disk_headThere v_disk_headPages v_disk_headRecords v_disk_file_count v_disk_file_bytes v_disk_records_count v_disk_records_bytes v_disk_recorded x_1 w9 w10 w11 hc) [1, 2, 3, 4, 5, 6] rfl rfl hl.1 d_RF_writeRecords_55) hP hD hS hA [1, 2, 3, 4, 5, 6] [0, 7] [0, 2, 3, 4, 5, 6, 7, 1] rfl rfl rfl (by decide) rfl rfl (fun H locs hP hD hS => ?_)
        exact lb_58 w7 w9 w10 w11 x_1 H locs ls hP hD hS (lv_sub hl [0, 1] rfl) hf
      have hf := pu_br_neg hf hc
      refine lv_iconst (v := 0) hx hb d_RF_writeRecords_48 rfl ?_
      exact hret _ _ _ _ (0 : Int32) w7 v_disk_headRecords v_disk_records_count v_disk_records_bytes v_disk_recorded d_RF_writeRecords_49 (by decide) hP hD hS hf
  obtain ⟨H, hH⟩ : ∃ H, H = s.heap := ⟨_, rfl⟩
  obtain ⟨locs, hlocs⟩ : ∃ locs : List Loc, locs = [] := ⟨_, rfl⟩
  have hP : va_P D pu_cl [(q_this, .inr (7, [.ref q_draft, .ref q_now, .ref q_before, .ref q_disk, .ref q_row, .ref q_node, .ref q_tree, .ref q_check, .int v_up, .int v_armed])), (q_disk, .inr (4, [.ref q_disk_file, .ref q_disk_records, .ref q_disk_recorded, .ref q_disk_different, .int v_disk_headThere, .int v_disk_headPages, .int v_disk_headRecords])), (q_disk_file, .inr (0, [.ref q_disk_file_bytes, .int v_disk_file_count])), (q_disk_file_bytes, .inl (cB, 1536, .inl v_disk_file_bytes)), (q_disk_records, .inr (0, [.ref q_disk_records_bytes, .int v_disk_records_count])), (q_disk_records_bytes, .inl (cB, 1536, .inl v_disk_records_bytes)), (q_disk_recorded, .inl (cZ, 25, .inl v_disk_recorded)), (q_disk_different, .inl (cZ, 25, .inl v_disk_different))] H := by rw [hH]; exact hP
  have hS : va_S A s.heap H locs := by rw [hH, hlocs]; exact hS
  have goal : W p l e rm_RF_writeRecords s m args below meth c H locs 0 0 Q (F0 m 0 ls []) := by
    clear hH hlocs
    refine lv_aload_n hx hb d_RF_writeRecords_0 rfl (lv_at hl 0 rfl) ?_
    refine gf_RF_29 (v := .ref q_disk) hx hb hts hN hown hK hP 0 rfl rfl d_RF_writeRecords_1 ?_
    obtain ⟨w2, w3, w4, hc, hf⟩ := pu_b3_some hf
    refine cl_v (WC := [(q_disk, .inr (4, [.ref q_disk_file, .ref q_disk_records, .ref q_disk_recorded, .ref q_disk_different, .int v_disk_headThere, .int v_disk_headPages, .int v_disk_headRecords])), (q_disk_file, .inr (0, [.ref q_disk_file_bytes, .int v_disk_file_count])), (q_disk_records, .inr (0, [.ref q_disk_records_bytes, .int v_disk_records_count])), (q_disk_recorded, .inl (cZ, 25, .inl v_disk_recorded))]) (WC2 := [(q_disk, .inr (4, [.ref q_disk_file, .ref q_disk_records, .ref q_disk_recorded, .ref q_disk_different, .int v_disk_headThere, .int v_disk_headPages, .int w2])), (q_disk_file, .inr (0, [.ref q_disk_file_bytes, .int v_disk_file_count])), (q_disk_records, .inr (0, [.ref q_disk_records_bytes, .int w3])), (q_disk_recorded, .inl (cZ, 25, .inl w4))]) (WR := [(q_this, .inr (7, [.ref q_draft, .ref q_now, .ref q_before, .ref q_disk, .ref q_row, .ref q_node, .ref q_tree, .ref q_check, .int v_up, .int v_armed])), (q_disk_file_bytes, .inl (cB, 1536, .inl v_disk_file_bytes)), (q_disk_records_bytes, .inl (cB, 1536, .inl v_disk_records_bytes)), (q_disk_different, .inl (cZ, 25, .inl v_disk_different))]) (WS2 := [(q_this, .inr (7, [.ref q_draft, .ref q_now, .ref q_before, .ref q_disk, .ref q_row, .ref q_node, .ref q_tree, .ref q_check, .int v_up, .int v_armed])), (q_disk, .inr (4, [.ref q_disk_file, .ref q_disk_records, .ref q_disk_recorded, .ref q_disk_different, .int v_disk_headThere, .int v_disk_headPages, .int w2])), (q_disk_file, .inr (0, [.ref q_disk_file_bytes, .int v_disk_file_count])), (q_disk_file_bytes, .inl (cB, 1536, .inl v_disk_file_bytes)), (q_disk_records, .inr (0, [.ref q_disk_records_bytes, .int w3])), (q_disk_records_bytes, .inl (cB, 1536, .inl v_disk_records_bytes)), (q_disk_recorded, .inl (cZ, 25, .inl w4)), (q_disk_different, .inl (cZ, 25, .inl v_disk_different))]) (pu_rv (cl := pu_cl) (pu_in6 _ (List.mem_of_getElem? (i := 11) rfl)) (pu_in6 _ (List.mem_of_getElem? (i := 12) rfl)) (pu_in6 _ (List.mem_of_getElem? (i := 13) rfl)) (pu_in0 _ (List.mem_of_getElem? (i := 4) rfl)) (pu_in6 _ (List.mem_of_getElem? (i := 14) rfl)) (ci := 4) rfl hd_Disk_startJournal (by decide) ⟨rfl, rfl⟩ rfl rfl (Nat.le_of_ble_eq_true rfl) rfl (As := []) (rest := []) (WC := [(q_disk, .inr (4, [.ref q_disk_file, .ref q_disk_records, .ref q_disk_recorded, .ref q_disk_different, .int v_disk_headThere, .int v_disk_headPages, .int v_disk_headRecords])), (q_disk_file, .inr (0, [.ref q_disk_file_bytes, .int v_disk_file_count])), (q_disk_records, .inr (0, [.ref q_disk_records_bytes, .int v_disk_records_count])), (q_disk_recorded, .inl (cZ, 25, .inl v_disk_recorded))]) hx hb hml hown hts hN hK hP hD (c_Disk_startJournal l D cI cJ cB cZ H.size q_disk q_disk_file q_disk_records q_disk_recorded q_disk_different q_disk_file_bytes q_disk_records_bytes v_disk_headThere v_disk_headPages v_disk_headRecords v_disk_file_count v_disk_records_count v_disk_recorded w2 w3 w4 hc) [1, 2, 4, 6] rfl rfl hl.1 d_RF_writeRecords_4) hP hD hS hA [1, 2, 4, 6] [0, 3, 5, 7] [0, 4, 5, 1, 6, 2, 7, 3] rfl rfl rfl (by decide) rfl rfl (fun H locs hP hD hS => ?_)
    refine lv_iconst (v := 1) hx hb d_RF_writeRecords_7 rfl ?_
    refine lv_istore_n hx hb d_RF_writeRecords_8 rfl hl (by decide) rfl (fun ls hl => ?_)
    have hl : lv_has ls 2 [(1, .int (1 : Int32)), (0, .ref q_this)] := hl
    exact lp_9 w3 _ v_armed w2 v_disk_records_bytes w4 (1 : Int32) H locs ls hP hD hS (lv_sub hl [1, 0] rfl) hf
  rw [hH, hlocs] at goal
  exact goal
theorem d_RF_writeHead_0 : decode b_RF_writeHead 0 = .ok (.aload_n 0, 1) := by decide +kernel
theorem d_RF_writeHead_1 : decode b_RF_writeHead 1 = .ok (.invokevirtual 197, 3) := by decide +kernel
theorem d_RF_writeHead_4 : decode b_RF_writeHead 4 = .ok (.ifCond .eq 5, 3) := by decide +kernel
theorem d_RF_writeHead_7 : decode b_RF_writeHead 7 = .ok (.iconst 0, 1) := by decide +kernel
theorem d_RF_writeHead_8 : decode b_RF_writeHead 8 = .ok (.ireturn, 1) := by decide +kernel
theorem d_RF_writeHead_9 : decode b_RF_writeHead 9 = .ok (.aload_n 0, 1) := by decide +kernel
theorem d_RF_writeHead_10 : decode b_RF_writeHead 10 = .ok (.getfield 29, 3) := by decide +kernel
theorem d_RF_writeHead_13 : decode b_RF_writeHead 13 = .ok (.aload_n 0, 1) := by decide +kernel
theorem d_RF_writeHead_14 : decode b_RF_writeHead 14 = .ok (.getfield 29, 3) := by decide +kernel
theorem d_RF_writeHead_17 : decode b_RF_writeHead 17 = .ok (.getfield 58, 3) := by decide +kernel
theorem d_RF_writeHead_20 : decode b_RF_writeHead 20 = .ok (.getfield 186, 3) := by decide +kernel
theorem d_RF_writeHead_23 : decode b_RF_writeHead 23 = .ok (.putfield 180, 3) := by decide +kernel
theorem d_RF_writeHead_26 : decode b_RF_writeHead 26 = .ok (.aload_n 0, 1) := by decide +kernel
theorem d_RF_writeHead_27 : decode b_RF_writeHead 27 = .ok (.getfield 29, 3) := by decide +kernel
theorem d_RF_writeHead_30 : decode b_RF_writeHead 30 = .ok (.iconst 1, 1) := by decide +kernel
theorem d_RF_writeHead_31 : decode b_RF_writeHead 31 = .ok (.putfield 177, 3) := by decide +kernel
theorem d_RF_writeHead_34 : decode b_RF_writeHead 34 = .ok (.iconst 1, 1) := by decide +kernel
theorem d_RF_writeHead_35 : decode b_RF_writeHead 35 = .ok (.ireturn, 1) := by decide +kernel
noncomputable def f_RF_writeHead (v_disk_file_count : Int32) (v_armed : Int32) (v_disk_headThere : Int32) (v_disk_headPages : Int32) : Option (Int32 × Int32 × Int32 × Int32) :=
  pu_b2 (f_RF_writeFails v_armed) (fun r1 w2 => pu_br (r1 = 0) (some ((1 : Int32), w2, (1 : Int32), v_disk_file_count)) (some ((0 : Int32), w2, v_disk_headThere, v_disk_headPages)))
abbrev rm_RF_writeHead : Room := { frames := 1, cells := 0, slots := 0, locals := 20 }
set_option maxHeartbeats 8000000 in
set_option maxRecDepth 100000 in
theorem c_RF_writeHead (l : Launch) (D : va_G) (cI cJ cB cZ : ClassId) (sz : Nat) (q_this : Nat) (q_draft : Nat) (q_now : Nat) (q_before : Nat) (q_disk : Nat) (q_row : Nat) (q_node : Nat) (q_tree : Nat) (q_check : Nat) (q_disk_file : Nat) (q_disk_records : Nat) (q_disk_recorded : Nat) (q_disk_different : Nat) (q_disk_file_bytes : Nat) (v_up : Int32) (v_armed : Int32) (v_disk_headThere : Int32) (v_disk_headPages : Int32) (v_disk_headRecords : Int32) (v_disk_file_count : Int32) (o_r : Int32) (o_armed : Int32) (o_disk_headThere : Int32) (o_disk_headPages : Int32) (hf : f_RF_writeHead v_disk_file_count v_armed v_disk_headThere v_disk_headPages = some (o_r, o_armed, o_disk_headThere, o_disk_headPages)) : Met l y_RF_writeHead (.code y_RF_writeHead b_RF_writeHead 1 (some .boolean) :: pu_wA) rm_RF_writeHead (pu_pc D pu_cl (pu_ty cI cJ cB cZ) [.ref q_this] [(q_this, .inr (7, [.ref q_draft, .ref q_now, .ref q_before, .ref q_disk, .ref q_row, .ref q_node, .ref q_tree, .ref q_check, .int v_up, .int v_armed])), (q_disk, .inr (4, [.ref q_disk_file, .ref q_disk_records, .ref q_disk_recorded, .ref q_disk_different, .int v_disk_headThere, .int v_disk_headPages, .int v_disk_headRecords])), (q_disk_file, .inr (0, [.ref q_disk_file_bytes, .int v_disk_file_count]))] sz) (pu_qi D pu_cl (pu_ty cI cJ cB cZ) [(q_this, .inr (7, [.ref q_draft, .ref q_now, .ref q_before, .ref q_disk, .ref q_row, .ref q_node, .ref q_tree, .ref q_check, .int v_up, .int v_armed])), (q_disk, .inr (4, [.ref q_disk_file, .ref q_disk_records, .ref q_disk_recorded, .ref q_disk_different, .int v_disk_headThere, .int v_disk_headPages, .int v_disk_headRecords])), (q_disk_file, .inr (0, [.ref q_disk_file_bytes, .int v_disk_file_count]))] [(q_this, .inr (7, [.ref q_draft, .ref q_now, .ref q_before, .ref q_disk, .ref q_row, .ref q_node, .ref q_tree, .ref q_check, .int v_up, .int o_armed])), (q_disk, .inr (4, [.ref q_disk_file, .ref q_disk_records, .ref q_disk_recorded, .ref q_disk_different, .int o_disk_headThere, .int o_disk_headPages, .int v_disk_headRecords])), (q_disk_file, .inr (0, [.ref q_disk_file_bytes, .int v_disk_file_count]))] sz o_r) 0 0 (va_A [(q_this, .inr (7, [.ref q_draft, .ref q_now, .ref q_before, .ref q_disk, .ref q_row, .ref q_node, .ref q_tree, .ref q_check, .int v_up, .int v_armed])), (q_disk, .inr (4, [.ref q_disk_file, .ref q_disk_records, .ref q_disk_recorded, .ref q_disk_different, .int v_disk_headThere, .int v_disk_headPages, .int v_disk_headRecords])), (q_disk_file, .inr (0, [.ref q_disk_file_bytes, .int v_disk_file_count]))] sz) := by
  refine pu_mtz [.ref q_this] [(q_this, .inr (7, [.ref q_draft, .ref q_now, .ref q_before, .ref q_disk, .ref q_row, .ref q_node, .ref q_tree, .ref q_check, .int v_up, .int v_armed])), (q_disk, .inr (4, [.ref q_disk_file, .ref q_disk_records, .ref q_disk_recorded, .ref q_disk_different, .int v_disk_headThere, .int v_disk_headPages, .int v_disk_headRecords])), (q_disk_file, .inr (0, [.ref q_disk_file_bytes, .int v_disk_file_count]))] [(q_this, .inr (7, [.ref q_draft, .ref q_now, .ref q_before, .ref q_disk, .ref q_row, .ref q_node, .ref q_tree, .ref q_check, .int v_up, .int o_armed])), (q_disk, .inr (4, [.ref q_disk_file, .ref q_disk_records, .ref q_disk_recorded, .ref q_disk_different, .int o_disk_headThere, .int o_disk_headPages, .int v_disk_headRecords])), (q_disk_file, .inr (0, [.ref q_disk_file_bytes, .int v_disk_file_count]))] o_r (by decide) (Nat.le_of_ble_eq_true rfl) ?_
  intro p e s m args below meth c A Q ls hx hb hml hts hN hown hK hA hP hD hl hret0
  have hS : va_S A s.heap s.heap [] := va_S.rf
  have hl : lv_has ls 1 [(0, .ref q_this)] := hl
  have hret : ∀ (pc : Nat) (ls : Array Slot) (H : Heap) (locs : List Loc) (y_0 : Int32) (y_1 : Int32) (y_2 : Int32) (y_3 : Int32), decode b_RF_writeHead pc = .ok (.ireturn, 1) → narrow .boolean (.int y_0) = .int y_0 → va_P D pu_cl [(q_this, .inr (7, [.ref q_draft, .ref q_now, .ref q_before, .ref q_disk, .ref q_row, .ref q_node, .ref q_tree, .ref q_check, .int v_up, .int y_1])), (q_disk, .inr (4, [.ref q_disk_file, .ref q_disk_records, .ref q_disk_recorded, .ref q_disk_different, .int y_2, .int y_3, .int v_disk_headRecords])), (q_disk_file, .inr (0, [.ref q_disk_file_bytes, .int v_disk_file_count]))] H → va_D A [(q_this, .inr (7, [.ref q_draft, .ref q_now, .ref q_before, .ref q_disk, .ref q_row, .ref q_node, .ref q_tree, .ref q_check, .int v_up, .int y_1])), (q_disk, .inr (4, [.ref q_disk_file, .ref q_disk_records, .ref q_disk_recorded, .ref q_disk_different, .int y_2, .int y_3, .int v_disk_headRecords])), (q_disk_file, .inr (0, [.ref q_disk_file_bytes, .int v_disk_file_count]))] → va_S A s.heap H locs → some (y_0, y_1, y_2, y_3) = some (o_r, o_armed, o_disk_headThere, o_disk_headPages) → W p l e rm_RF_writeHead s m args below meth c H locs 0 0 Q (F0 m pc ls [.int y_0]) := by
    intro pc ls H locs y_0 y_1 y_2 y_3 hd hz hP hD hS hf
    cases hf
    exact hret0 pc ls H locs hd hz hP hD hS
  clear hret0
  unfold f_RF_writeHead at hf
  skip
  obtain ⟨H, hH⟩ : ∃ H, H = s.heap := ⟨_, rfl⟩
  obtain ⟨locs, hlocs⟩ : ∃ locs : List Loc, locs = [] := ⟨_, rfl⟩
  have hP : va_P D pu_cl [(q_this, .inr (7, [.ref q_draft, .ref q_now, .ref q_before, .ref q_disk, .ref q_row, .ref q_node, .ref q_tree, .ref q_check, .int v_up, .int v_armed])), (q_disk, .inr (4, [.ref q_disk_file, .ref q_disk_records, .ref q_disk_recorded, .ref q_disk_different, .int v_disk_headThere, .int v_disk_headPages, .int v_disk_headRecords])), (q_disk_file, .inr (0, [.ref q_disk_file_bytes, .int v_disk_file_count]))] H := by rw [hH]; exact hP
  have hS : va_S A s.heap H locs := by rw [hH, hlocs]; exact hS
  have goal : W p l e rm_RF_writeHead s m args below meth c H locs 0 0 Q (F0 m 0 ls []) := by
    clear hH hlocs
    refine lv_aload_n hx hb d_RF_writeHead_0 rfl (lv_at hl 0 rfl) ?_
    obtain ⟨r1, w2, hc, hf⟩ := pu_b2_some hf
    refine cl_i (WC := [(q_this, .inr (7, [.ref q_draft, .ref q_now, .ref q_before, .ref q_disk, .ref q_row, .ref q_node, .ref q_tree, .ref q_check, .int v_up, .int v_armed]))]) (WC2 := [(q_this, .inr (7, [.ref q_draft, .ref q_now, .ref q_before, .ref q_disk, .ref q_row, .ref q_node, .ref q_tree, .ref q_check, .int v_up, .int w2]))]) (WR := [(q_disk, .inr (4, [.ref q_disk_file, .ref q_disk_records, .ref q_disk_recorded, .ref q_disk_different, .int v_disk_headThere, .int v_disk_headPages, .int v_disk_headRecords])), (q_disk_file, .inr (0, [.ref q_disk_file_bytes, .int v_disk_file_count]))]) (WS2 := [(q_this, .inr (7, [.ref q_draft, .ref q_now, .ref q_before, .ref q_disk, .ref q_row, .ref q_node, .ref q_tree, .ref q_check, .int v_up, .int w2])), (q_disk, .inr (4, [.ref q_disk_file, .ref q_disk_records, .ref q_disk_recorded, .ref q_disk_different, .int v_disk_headThere, .int v_disk_headPages, .int v_disk_headRecords])), (q_disk_file, .inr (0, [.ref q_disk_file_bytes, .int v_disk_file_count]))]) (pu_rv (cl := pu_cl) (pu_in6 _ (List.mem_of_getElem? (i := 15) rfl)) (pu_in6 _ (List.mem_of_getElem? (i := 16) rfl)) (pu_in13 _ (List.mem_of_getElem? (i := 57) rfl)) (pu_in0 _ (List.mem_of_getElem? (i := 1) rfl)) (pu_in6 _ (List.mem_of_getElem? (i := 17) rfl)) (ci := 7) rfl hd_RF_writeFails (by decide) ⟨rfl, rfl⟩ rfl rfl (Nat.le_of_ble_eq_true rfl) rfl (As := []) (rest := []) (WC := [(q_this, .inr (7, [.ref q_draft, .ref q_now, .ref q_before, .ref q_disk, .ref q_row, .ref q_node, .ref q_tree, .ref q_check, .int v_up, .int v_armed]))]) hx hb hml hown hts hN hK hP hD (c_RF_writeFails l D cI cJ cB cZ H.size q_this q_draft q_now q_before q_disk q_row q_node q_tree q_check v_up v_armed r1 w2 hc) [0] rfl rfl hl.1 d_RF_writeHead_1) hP hD hS hA [0] [1, 2] [2, 0, 1] rfl rfl rfl (by decide) rfl rfl (fun H locs hP hD hS => ?_)
    refine lv_if_eq (tgt := 9) hx hb d_RF_writeHead_4 rfl (fun hc => ?_) (fun hc => ?_)
    · have hf := pu_br_pos hf hc
      refine lv_aload_n hx hb d_RF_writeHead_9 rfl (lv_at hl 0 rfl) ?_
      refine gf_RF_29 (v := .ref q_disk) hx hb hts hN hown hK hP 0 rfl rfl d_RF_writeHead_10 ?_
      refine lv_aload_n hx hb d_RF_writeHead_13 rfl (lv_at hl 0 rfl) ?_
      refine gf_RF_29 (v := .ref q_disk) hx hb hts hN hown hK hP 0 rfl rfl d_RF_writeHead_14 ?_
      refine gf_RF_58 (v := .ref q_disk_file) hx hb hts hN hown hK hP 1 rfl rfl d_RF_writeHead_17 ?_
      refine gf_RF_186 (v := .int v_disk_file_count) hx hb hts hN hown hK hP 2 rfl rfl d_RF_writeHead_20 ?_
      refine pf_RF_180 (v := .int v_disk_file_count) hx hb hts hN hown hK hP hD hS 1 rfl rfl rfl (Nat.le_of_ble_eq_true rfl) d_RF_writeHead_23 (fun H locs hP hD hS => ?_)
      have hP : va_P D pu_cl [(q_this, .inr (7, [.ref q_draft, .ref q_now, .ref q_before, .ref q_disk, .ref q_row, .ref q_node, .ref q_tree, .ref q_check, .int v_up, .int w2])), (q_disk, .inr (4, [.ref q_disk_file, .ref q_disk_records, .ref q_disk_recorded, .ref q_disk_different, .int v_disk_headThere, .int v_disk_file_count, .int v_disk_headRecords])), (q_disk_file, .inr (0, [.ref q_disk_file_bytes, .int v_disk_file_count]))] H := hP
      have hD : va_D A [(q_this, .inr (7, [.ref q_draft, .ref q_now, .ref q_before, .ref q_disk, .ref q_row, .ref q_node, .ref q_tree, .ref q_check, .int v_up, .int w2])), (q_disk, .inr (4, [.ref q_disk_file, .ref q_disk_records, .ref q_disk_recorded, .ref q_disk_different, .int v_disk_headThere, .int v_disk_file_count, .int v_disk_headRecords])), (q_disk_file, .inr (0, [.ref q_disk_file_bytes, .int v_disk_file_count]))] := hD
      refine lv_aload_n hx hb d_RF_writeHead_26 rfl (lv_at hl 0 rfl) ?_
      refine gf_RF_29 (v := .ref q_disk) hx hb hts hN hown hK hP 0 rfl rfl d_RF_writeHead_27 ?_
      refine lv_iconst (v := 1) hx hb d_RF_writeHead_30 rfl ?_
      refine pf_RF_177 (v := .int (1 : Int32)) hx hb hts hN hown hK hP hD hS 1 rfl (by decide) (by decide) (Nat.le_of_ble_eq_true rfl) d_RF_writeHead_31 (fun H locs hP hD hS => ?_)
      have hP : va_P D pu_cl [(q_this, .inr (7, [.ref q_draft, .ref q_now, .ref q_before, .ref q_disk, .ref q_row, .ref q_node, .ref q_tree, .ref q_check, .int v_up, .int w2])), (q_disk, .inr (4, [.ref q_disk_file, .ref q_disk_records, .ref q_disk_recorded, .ref q_disk_different, .int (1 : Int32), .int v_disk_file_count, .int v_disk_headRecords])), (q_disk_file, .inr (0, [.ref q_disk_file_bytes, .int v_disk_file_count]))] H := hP
      have hD : va_D A [(q_this, .inr (7, [.ref q_draft, .ref q_now, .ref q_before, .ref q_disk, .ref q_row, .ref q_node, .ref q_tree, .ref q_check, .int v_up, .int w2])), (q_disk, .inr (4, [.ref q_disk_file, .ref q_disk_records, .ref q_disk_recorded, .ref q_disk_different, .int (1 : Int32), .int v_disk_file_count, .int v_disk_headRecords])), (q_disk_file, .inr (0, [.ref q_disk_file_bytes, .int v_disk_file_count]))] := hD
      refine lv_iconst (v := 1) hx hb d_RF_writeHead_34 rfl ?_
      exact hret _ _ _ _ (1 : Int32) w2 (1 : Int32) v_disk_file_count d_RF_writeHead_35 (by decide) hP hD hS hf
    have hf := pu_br_neg hf hc
    refine lv_iconst (v := 0) hx hb d_RF_writeHead_7 rfl ?_
    exact hret _ _ _ _ (0 : Int32) w2 v_disk_headThere v_disk_headPages d_RF_writeHead_8 (by decide) hP hD hS hf
  rw [hH, hlocs] at goal
  exact goal
theorem d_Disk_tearPage_0 : decode b_Disk_tearPage 0 = .ok (.aload_n 0, 1) := by decide +kernel
theorem d_Disk_tearPage_1 : decode b_Disk_tearPage 1 = .ok (.getfield 12, 3) := by decide +kernel
theorem d_Disk_tearPage_4 : decode b_Disk_tearPage 4 = .ok (.iload_n 2, 1) := by decide +kernel
theorem d_Disk_tearPage_5 : decode b_Disk_tearPage 5 = .ok (.aload_n 1, 1) := by decide +kernel
theorem d_Disk_tearPage_6 : decode b_Disk_tearPage 6 = .ok (.iload_n 2, 1) := by decide +kernel
theorem d_Disk_tearPage_7 : decode b_Disk_tearPage 7 = .ok (.bipush 32, 2) := by decide +kernel
theorem d_Disk_tearPage_9 : decode b_Disk_tearPage 9 = .ok (.invokevirtual 43, 3) := by decide +kernel
theorem d_Disk_tearPage_12 : decode b_Disk_tearPage 12 = .ok (.return_, 1) := by decide +kernel
noncomputable def f_Disk_tearPage (v_file_count : Int32) (v_p1_count : Int32) (v_p1_bytes : Nat → Int32) (v_file_bytes : Nat → Int32) (x_2 : Int32) : Option ((Nat → Int32)) :=
  pu_b1 (f_Pages_copyPage v_file_count v_p1_count v_p1_bytes v_file_bytes x_2 x_2 (32 : Int32)) (fun w2 => some w2)
abbrev rm_Disk_tearPage : Room := { frames := 2, cells := 0, slots := 0, locals := 92 }
set_option maxHeartbeats 8000000 in
set_option maxRecDepth 100000 in
theorem c_Disk_tearPage (l : Launch) (D : va_G) (cI cJ cB cZ : ClassId) (sz : Nat) (q_this : Nat) (q_file : Nat) (q_records : Nat) (q_recorded : Nat) (q_different : Nat) (q_file_bytes : Nat) (q_p1 : Nat) (q_p1_bytes : Nat) (v_headThere : Int32) (v_headPages : Int32) (v_headRecords : Int32) (v_file_count : Int32) (v_file_bytes : Nat → Int32) (v_p1_count : Int32) (v_p1_bytes : Nat → Int32) (x_2 : Int32) (o_file_bytes : Nat → Int32) (hf : f_Disk_tearPage v_file_count v_p1_count v_p1_bytes v_file_bytes x_2 = some o_file_bytes) : Met l y_Disk_tearPage (.code y_Disk_tearPage b_Disk_tearPage 3 none :: pu_wA) rm_Disk_tearPage (pu_pc D pu_cl (pu_ty cI cJ cB cZ) [.ref q_this, .ref q_p1, .int x_2] [(q_this, .inr (4, [.ref q_file, .ref q_records, .ref q_recorded, .ref q_different, .int v_headThere, .int v_headPages, .int v_headRecords])), (q_file, .inr (0, [.ref q_file_bytes, .int v_file_count])), (q_file_bytes, .inl (cB, 1536, .inl v_file_bytes)), (q_p1, .inr (0, [.ref q_p1_bytes, .int v_p1_count])), (q_p1_bytes, .inl (cB, 1536, .inl v_p1_bytes))] sz) (pu_qv D pu_cl (pu_ty cI cJ cB cZ) [(q_this, .inr (4, [.ref q_file, .ref q_records, .ref q_recorded, .ref q_different, .int v_headThere, .int v_headPages, .int v_headRecords])), (q_file, .inr (0, [.ref q_file_bytes, .int v_file_count])), (q_file_bytes, .inl (cB, 1536, .inl v_file_bytes)), (q_p1, .inr (0, [.ref q_p1_bytes, .int v_p1_count])), (q_p1_bytes, .inl (cB, 1536, .inl v_p1_bytes))] [(q_this, .inr (4, [.ref q_file, .ref q_records, .ref q_recorded, .ref q_different, .int v_headThere, .int v_headPages, .int v_headRecords])), (q_file, .inr (0, [.ref q_file_bytes, .int v_file_count])), (q_file_bytes, .inl (cB, 1536, .inl o_file_bytes)), (q_p1, .inr (0, [.ref q_p1_bytes, .int v_p1_count])), (q_p1_bytes, .inl (cB, 1536, .inl v_p1_bytes))] sz) 0 0 (va_A [(q_this, .inr (4, [.ref q_file, .ref q_records, .ref q_recorded, .ref q_different, .int v_headThere, .int v_headPages, .int v_headRecords])), (q_file, .inr (0, [.ref q_file_bytes, .int v_file_count])), (q_file_bytes, .inl (cB, 1536, .inl v_file_bytes)), (q_p1, .inr (0, [.ref q_p1_bytes, .int v_p1_count])), (q_p1_bytes, .inl (cB, 1536, .inl v_p1_bytes))] sz) := by
  refine pu_mtv [.ref q_this, .ref q_p1, .int x_2] [(q_this, .inr (4, [.ref q_file, .ref q_records, .ref q_recorded, .ref q_different, .int v_headThere, .int v_headPages, .int v_headRecords])), (q_file, .inr (0, [.ref q_file_bytes, .int v_file_count])), (q_file_bytes, .inl (cB, 1536, .inl v_file_bytes)), (q_p1, .inr (0, [.ref q_p1_bytes, .int v_p1_count])), (q_p1_bytes, .inl (cB, 1536, .inl v_p1_bytes))] [(q_this, .inr (4, [.ref q_file, .ref q_records, .ref q_recorded, .ref q_different, .int v_headThere, .int v_headPages, .int v_headRecords])), (q_file, .inr (0, [.ref q_file_bytes, .int v_file_count])), (q_file_bytes, .inl (cB, 1536, .inl o_file_bytes)), (q_p1, .inr (0, [.ref q_p1_bytes, .int v_p1_count])), (q_p1_bytes, .inl (cB, 1536, .inl v_p1_bytes))] (by decide) (Nat.le_of_ble_eq_true rfl) ?_
  intro p e s m args below meth c A Q ls hx hb hml hts hN hown hK hA hP hD hl hret0
  have hS : va_S A s.heap s.heap [] := va_S.rf
  have hl : lv_has ls 3 [(0, .ref q_this), (1, .ref q_p1), (2, .int x_2)] := hl
  have hret : ∀ (pc : Nat) (ls : Array Slot) (H : Heap) (locs : List Loc) (y_0 : Nat → Int32), decode b_Disk_tearPage pc = .ok (.return_, 1) → va_P D pu_cl [(q_this, .inr (4, [.ref q_file, .ref q_records, .ref q_recorded, .ref q_different, .int v_headThere, .int v_headPages, .int v_headRecords])), (q_file, .inr (0, [.ref q_file_bytes, .int v_file_count])), (q_file_bytes, .inl (cB, 1536, .inl y_0)), (q_p1, .inr (0, [.ref q_p1_bytes, .int v_p1_count])), (q_p1_bytes, .inl (cB, 1536, .inl v_p1_bytes))] H → va_D A [(q_this, .inr (4, [.ref q_file, .ref q_records, .ref q_recorded, .ref q_different, .int v_headThere, .int v_headPages, .int v_headRecords])), (q_file, .inr (0, [.ref q_file_bytes, .int v_file_count])), (q_file_bytes, .inl (cB, 1536, .inl y_0)), (q_p1, .inr (0, [.ref q_p1_bytes, .int v_p1_count])), (q_p1_bytes, .inl (cB, 1536, .inl v_p1_bytes))] → va_S A s.heap H locs → some y_0 = some o_file_bytes → W p l e rm_Disk_tearPage s m args below meth c H locs 0 0 Q (F0 m pc ls []) := by
    intro pc ls H locs y_0 hd hP hD hS hf
    cases hf
    exact hret0 pc ls H locs hd hP hD hS
  clear hret0
  unfold f_Disk_tearPage at hf
  skip
  obtain ⟨H, hH⟩ : ∃ H, H = s.heap := ⟨_, rfl⟩
  obtain ⟨locs, hlocs⟩ : ∃ locs : List Loc, locs = [] := ⟨_, rfl⟩
  have hP : va_P D pu_cl [(q_this, .inr (4, [.ref q_file, .ref q_records, .ref q_recorded, .ref q_different, .int v_headThere, .int v_headPages, .int v_headRecords])), (q_file, .inr (0, [.ref q_file_bytes, .int v_file_count])), (q_file_bytes, .inl (cB, 1536, .inl v_file_bytes)), (q_p1, .inr (0, [.ref q_p1_bytes, .int v_p1_count])), (q_p1_bytes, .inl (cB, 1536, .inl v_p1_bytes))] H := by rw [hH]; exact hP
  have hS : va_S A s.heap H locs := by rw [hH, hlocs]; exact hS
  have goal : W p l e rm_Disk_tearPage s m args below meth c H locs 0 0 Q (F0 m 0 ls []) := by
    clear hH hlocs
    refine lv_aload_n hx hb d_Disk_tearPage_0 rfl (lv_at hl 0 rfl) ?_
    refine gf_Disk_12 (v := .ref q_file) hx hb hts hN hown hK hP 0 rfl rfl d_Disk_tearPage_1 ?_
    refine lv_iload_n hx hb d_Disk_tearPage_4 rfl (lv_at hl 2 rfl) ?_
    refine lv_aload_n hx hb d_Disk_tearPage_5 rfl (lv_at hl 1 rfl) ?_
    refine lv_iload_n hx hb d_Disk_tearPage_6 rfl (lv_at hl 2 rfl) ?_
    refine lv_bipush (v := 32) hx hb d_Disk_tearPage_7 rfl ?_
    obtain ⟨w2, hc, hf⟩ := pu_b1_some hf
    refine cl_v (WC := [(q_file, .inr (0, [.ref q_file_bytes, .int v_file_count])), (q_file_bytes, .inl (cB, 1536, .inl v_file_bytes)), (q_p1, .inr (0, [.ref q_p1_bytes, .int v_p1_count])), (q_p1_bytes, .inl (cB, 1536, .inl v_p1_bytes))]) (WC2 := [(q_file, .inr (0, [.ref q_file_bytes, .int v_file_count])), (q_file_bytes, .inl (cB, 1536, .inl w2)), (q_p1, .inr (0, [.ref q_p1_bytes, .int v_p1_count])), (q_p1_bytes, .inl (cB, 1536, .inl v_p1_bytes))]) (WR := [(q_this, .inr (4, [.ref q_file, .ref q_records, .ref q_recorded, .ref q_different, .int v_headThere, .int v_headPages, .int v_headRecords]))]) (WS2 := [(q_this, .inr (4, [.ref q_file, .ref q_records, .ref q_recorded, .ref q_different, .int v_headThere, .int v_headPages, .int v_headRecords])), (q_file, .inr (0, [.ref q_file_bytes, .int v_file_count])), (q_file_bytes, .inl (cB, 1536, .inl w2)), (q_p1, .inr (0, [.ref q_p1_bytes, .int v_p1_count])), (q_p1_bytes, .inl (cB, 1536, .inl v_p1_bytes))]) (pu_rv (cl := pu_cl) (pu_in6 _ (List.mem_of_getElem? (i := 23) rfl)) (pu_in5 _ (List.mem_of_getElem? (i := 49) rfl)) (pu_in5 _ (List.mem_of_getElem? (i := 50) rfl)) (pu_in0 _ (List.mem_of_getElem? (i := 3) rfl)) (pu_in5 _ (List.mem_of_getElem? (i := 51) rfl)) (ci := 0) rfl hd_Pages_copyPage (by decide) ⟨rfl, rfl⟩ rfl rfl (Nat.le_of_ble_eq_true rfl) rfl (As := [.int x_2, .ref q_p1, .int x_2, .int (32 : Int32)]) (rest := []) (WC := [(q_file, .inr (0, [.ref q_file_bytes, .int v_file_count])), (q_file_bytes, .inl (cB, 1536, .inl v_file_bytes)), (q_p1, .inr (0, [.ref q_p1_bytes, .int v_p1_count])), (q_p1_bytes, .inl (cB, 1536, .inl v_p1_bytes))]) hx hb hml hown hts hN hK hP hD (c_Pages_copyPage l D cI cJ cB cZ H.size q_file q_file_bytes q_p1 q_p1_bytes v_file_count v_file_bytes v_p1_count v_p1_bytes x_2 x_2 (32 : Int32) w2 hc) [1, 2, 3, 4] rfl rfl hl.1 d_Disk_tearPage_9) hP hD hS hA [1, 2, 3, 4] [0] [0, 1, 2, 3, 4] rfl rfl rfl (by decide) rfl rfl (fun H locs hP hD hS => ?_)
    exact hret _ _ _ _ w2 d_Disk_tearPage_12 hP hD hS hf
  rw [hH, hlocs] at goal
  exact goal
theorem d_Disk_writePage_0 : decode b_Disk_writePage 0 = .ok (.aload_n 0, 1) := by decide +kernel
theorem d_Disk_writePage_1 : decode b_Disk_writePage 1 = .ok (.getfield 12, 3) := by decide +kernel
theorem d_Disk_writePage_4 : decode b_Disk_writePage 4 = .ok (.aload_n 0, 1) := by decide +kernel
theorem d_Disk_writePage_5 : decode b_Disk_writePage 5 = .ok (.getfield 12, 3) := by decide +kernel
theorem d_Disk_writePage_8 : decode b_Disk_writePage 8 = .ok (.getfield 28, 3) := by decide +kernel
theorem d_Disk_writePage_11 : decode b_Disk_writePage 11 = .ok (.iload_n 2, 1) := by decide +kernel
theorem d_Disk_writePage_12 : decode b_Disk_writePage 12 = .ok (.bipush 24, 2) := by decide +kernel
theorem d_Disk_writePage_14 : decode b_Disk_writePage 14 = .ok (.invokestatic 47, 3) := by decide +kernel
theorem d_Disk_writePage_17 : decode b_Disk_writePage 17 = .ok (.invokestatic 53, 3) := by decide +kernel
theorem d_Disk_writePage_20 : decode b_Disk_writePage 20 = .ok (.putfield 28, 3) := by decide +kernel
theorem d_Disk_writePage_23 : decode b_Disk_writePage 23 = .ok (.aload_n 0, 1) := by decide +kernel
theorem d_Disk_writePage_24 : decode b_Disk_writePage 24 = .ok (.getfield 12, 3) := by decide +kernel
theorem d_Disk_writePage_27 : decode b_Disk_writePage 27 = .ok (.iload_n 2, 1) := by decide +kernel
theorem d_Disk_writePage_28 : decode b_Disk_writePage 28 = .ok (.aload_n 1, 1) := by decide +kernel
theorem d_Disk_writePage_29 : decode b_Disk_writePage 29 = .ok (.iload_n 2, 1) := by decide +kernel
theorem d_Disk_writePage_30 : decode b_Disk_writePage 30 = .ok (.bipush 64, 2) := by decide +kernel
theorem d_Disk_writePage_32 : decode b_Disk_writePage 32 = .ok (.invokevirtual 43, 3) := by decide +kernel
theorem d_Disk_writePage_35 : decode b_Disk_writePage 35 = .ok (.return_, 1) := by decide +kernel
noncomputable def f_Disk_writePage (v_p1_count : Int32) (v_p1_bytes : Nat → Int32) (v_file_count : Int32) (v_file_bytes : Nat → Int32) (x_2 : Int32) : Option (Int32 × (Nat → Int32)) :=
  pu_nm (if (24 : Int32) < x_2 then (24 : Int32) else x_2) (fun t1 => pu_nm (if v_file_count < t1 then t1 else v_file_count) (fun t2 => pu_b1 (f_Pages_copyPage t2 v_p1_count v_p1_bytes v_file_bytes x_2 x_2 (64 : Int32)) (fun w4 => some (t2, w4))))
abbrev rm_Disk_writePage : Room := { frames := 2, cells := 0, slots := 0, locals := 92 }
set_option maxHeartbeats 8000000 in
set_option maxRecDepth 100000 in
theorem c_Disk_writePage (l : Launch) (D : va_G) (cI cJ cB cZ : ClassId) (sz : Nat) (q_this : Nat) (q_file : Nat) (q_records : Nat) (q_recorded : Nat) (q_different : Nat) (q_file_bytes : Nat) (q_p1 : Nat) (q_p1_bytes : Nat) (v_headThere : Int32) (v_headPages : Int32) (v_headRecords : Int32) (v_file_count : Int32) (v_file_bytes : Nat → Int32) (v_p1_count : Int32) (v_p1_bytes : Nat → Int32) (x_2 : Int32) (o_file_count : Int32) (o_file_bytes : Nat → Int32) (hf : f_Disk_writePage v_p1_count v_p1_bytes v_file_count v_file_bytes x_2 = some (o_file_count, o_file_bytes)) : Met l y_Disk_writePage (.code y_Disk_writePage b_Disk_writePage 3 none :: pu_wA) rm_Disk_writePage (pu_pc D pu_cl (pu_ty cI cJ cB cZ) [.ref q_this, .ref q_p1, .int x_2] [(q_this, .inr (4, [.ref q_file, .ref q_records, .ref q_recorded, .ref q_different, .int v_headThere, .int v_headPages, .int v_headRecords])), (q_file, .inr (0, [.ref q_file_bytes, .int v_file_count])), (q_file_bytes, .inl (cB, 1536, .inl v_file_bytes)), (q_p1, .inr (0, [.ref q_p1_bytes, .int v_p1_count])), (q_p1_bytes, .inl (cB, 1536, .inl v_p1_bytes))] sz) (pu_qv D pu_cl (pu_ty cI cJ cB cZ) [(q_this, .inr (4, [.ref q_file, .ref q_records, .ref q_recorded, .ref q_different, .int v_headThere, .int v_headPages, .int v_headRecords])), (q_file, .inr (0, [.ref q_file_bytes, .int v_file_count])), (q_file_bytes, .inl (cB, 1536, .inl v_file_bytes)), (q_p1, .inr (0, [.ref q_p1_bytes, .int v_p1_count])), (q_p1_bytes, .inl (cB, 1536, .inl v_p1_bytes))] [(q_this, .inr (4, [.ref q_file, .ref q_records, .ref q_recorded, .ref q_different, .int v_headThere, .int v_headPages, .int v_headRecords])), (q_file, .inr (0, [.ref q_file_bytes, .int o_file_count])), (q_file_bytes, .inl (cB, 1536, .inl o_file_bytes)), (q_p1, .inr (0, [.ref q_p1_bytes, .int v_p1_count])), (q_p1_bytes, .inl (cB, 1536, .inl v_p1_bytes))] sz) 0 0 (va_A [(q_this, .inr (4, [.ref q_file, .ref q_records, .ref q_recorded, .ref q_different, .int v_headThere, .int v_headPages, .int v_headRecords])), (q_file, .inr (0, [.ref q_file_bytes, .int v_file_count])), (q_file_bytes, .inl (cB, 1536, .inl v_file_bytes)), (q_p1, .inr (0, [.ref q_p1_bytes, .int v_p1_count])), (q_p1_bytes, .inl (cB, 1536, .inl v_p1_bytes))] sz) := by
  refine pu_mtv [.ref q_this, .ref q_p1, .int x_2] [(q_this, .inr (4, [.ref q_file, .ref q_records, .ref q_recorded, .ref q_different, .int v_headThere, .int v_headPages, .int v_headRecords])), (q_file, .inr (0, [.ref q_file_bytes, .int v_file_count])), (q_file_bytes, .inl (cB, 1536, .inl v_file_bytes)), (q_p1, .inr (0, [.ref q_p1_bytes, .int v_p1_count])), (q_p1_bytes, .inl (cB, 1536, .inl v_p1_bytes))] [(q_this, .inr (4, [.ref q_file, .ref q_records, .ref q_recorded, .ref q_different, .int v_headThere, .int v_headPages, .int v_headRecords])), (q_file, .inr (0, [.ref q_file_bytes, .int o_file_count])), (q_file_bytes, .inl (cB, 1536, .inl o_file_bytes)), (q_p1, .inr (0, [.ref q_p1_bytes, .int v_p1_count])), (q_p1_bytes, .inl (cB, 1536, .inl v_p1_bytes))] (by decide) (Nat.le_of_ble_eq_true rfl) ?_
  intro p e s m args below meth c A Q ls hx hb hml hts hN hown hK hA hP hD hl hret0
  have hS : va_S A s.heap s.heap [] := va_S.rf
  have hl : lv_has ls 3 [(0, .ref q_this), (1, .ref q_p1), (2, .int x_2)] := hl
  have hret : ∀ (pc : Nat) (ls : Array Slot) (H : Heap) (locs : List Loc) (y_0 : Int32) (y_1 : Nat → Int32), decode b_Disk_writePage pc = .ok (.return_, 1) → va_P D pu_cl [(q_this, .inr (4, [.ref q_file, .ref q_records, .ref q_recorded, .ref q_different, .int v_headThere, .int v_headPages, .int v_headRecords])), (q_file, .inr (0, [.ref q_file_bytes, .int y_0])), (q_file_bytes, .inl (cB, 1536, .inl y_1)), (q_p1, .inr (0, [.ref q_p1_bytes, .int v_p1_count])), (q_p1_bytes, .inl (cB, 1536, .inl v_p1_bytes))] H → va_D A [(q_this, .inr (4, [.ref q_file, .ref q_records, .ref q_recorded, .ref q_different, .int v_headThere, .int v_headPages, .int v_headRecords])), (q_file, .inr (0, [.ref q_file_bytes, .int y_0])), (q_file_bytes, .inl (cB, 1536, .inl y_1)), (q_p1, .inr (0, [.ref q_p1_bytes, .int v_p1_count])), (q_p1_bytes, .inl (cB, 1536, .inl v_p1_bytes))] → va_S A s.heap H locs → some (y_0, y_1) = some (o_file_count, o_file_bytes) → W p l e rm_Disk_writePage s m args below meth c H locs 0 0 Q (F0 m pc ls []) := by
    intro pc ls H locs y_0 y_1 hd hP hD hS hf
    cases hf
    exact hret0 pc ls H locs hd hP hD hS
  clear hret0
  unfold f_Disk_writePage at hf
  skip
  obtain ⟨H, hH⟩ : ∃ H, H = s.heap := ⟨_, rfl⟩
  obtain ⟨locs, hlocs⟩ : ∃ locs : List Loc, locs = [] := ⟨_, rfl⟩
  have hP : va_P D pu_cl [(q_this, .inr (4, [.ref q_file, .ref q_records, .ref q_recorded, .ref q_different, .int v_headThere, .int v_headPages, .int v_headRecords])), (q_file, .inr (0, [.ref q_file_bytes, .int v_file_count])), (q_file_bytes, .inl (cB, 1536, .inl v_file_bytes)), (q_p1, .inr (0, [.ref q_p1_bytes, .int v_p1_count])), (q_p1_bytes, .inl (cB, 1536, .inl v_p1_bytes))] H := by rw [hH]; exact hP
  have hS : va_S A s.heap H locs := by rw [hH, hlocs]; exact hS
  have goal : W p l e rm_Disk_writePage s m args below meth c H locs 0 0 Q (F0 m 0 ls []) := by
    clear hH hlocs
    refine lv_aload_n hx hb d_Disk_writePage_0 rfl (lv_at hl 0 rfl) ?_
    refine gf_Disk_12 (v := .ref q_file) hx hb hts hN hown hK hP 0 rfl rfl d_Disk_writePage_1 ?_
    refine lv_aload_n hx hb d_Disk_writePage_4 rfl (lv_at hl 0 rfl) ?_
    refine gf_Disk_12 (v := .ref q_file) hx hb hts hN hown hK hP 0 rfl rfl d_Disk_writePage_5 ?_
    refine gf_Disk_28 (v := .int v_file_count) hx hb hts hN hown hK hP 1 rfl rfl d_Disk_writePage_8 ?_
    refine lv_iload_n hx hb d_Disk_writePage_11 rfl (lv_at hl 2 rfl) ?_
    refine lv_bipush (v := 24) hx hb d_Disk_writePage_12 rfl ?_
    obtain ⟨t1, e_t1, hf⟩ := pu_nm_some hf
    refine va_mmin hx hb (hml.trans hl.1.symm) hown (hts _ (pu_in6 _ (List.mem_of_getElem? (i := 38) rfl))) (hts _ (pu_in6 _ (List.mem_of_getElem? (i := 39) rfl))) (hts _ (pu_in0 _ (List.mem_of_getElem? (i := 12) rfl))) (hts _ (pu_in6 _ (List.mem_of_getElem? (i := 40) rfl))) (Nat.le_of_ble_eq_true rfl) (Nat.le_of_ble_eq_true rfl) (Nat.zero_le _) (Nat.zero_le _) d_Disk_writePage_14 ?_
    refine pu_ti e_t1 ?_
    obtain ⟨t2, e_t2, hf⟩ := pu_nm_some hf
    refine va_mmax hx hb (hml.trans hl.1.symm) hown (hts _ (pu_in6 _ (List.mem_of_getElem? (i := 41) rfl))) (hts _ (pu_in6 _ (List.mem_of_getElem? (i := 42) rfl))) (hts _ (pu_in0 _ (List.mem_of_getElem? (i := 12) rfl))) (hts _ (pu_in6 _ (List.mem_of_getElem? (i := 43) rfl))) (Nat.le_of_ble_eq_true rfl) (Nat.le_of_ble_eq_true rfl) (Nat.zero_le _) (Nat.zero_le _) d_Disk_writePage_17 ?_
    refine pu_ti e_t2 ?_
    refine pf_Disk_28 (v := .int t2) hx hb hts hN hown hK hP hD hS 1 rfl rfl rfl (Nat.le_of_ble_eq_true rfl) d_Disk_writePage_20 (fun H locs hP hD hS => ?_)
    have hP : va_P D pu_cl [(q_this, .inr (4, [.ref q_file, .ref q_records, .ref q_recorded, .ref q_different, .int v_headThere, .int v_headPages, .int v_headRecords])), (q_file, .inr (0, [.ref q_file_bytes, .int t2])), (q_file_bytes, .inl (cB, 1536, .inl v_file_bytes)), (q_p1, .inr (0, [.ref q_p1_bytes, .int v_p1_count])), (q_p1_bytes, .inl (cB, 1536, .inl v_p1_bytes))] H := hP
    have hD : va_D A [(q_this, .inr (4, [.ref q_file, .ref q_records, .ref q_recorded, .ref q_different, .int v_headThere, .int v_headPages, .int v_headRecords])), (q_file, .inr (0, [.ref q_file_bytes, .int t2])), (q_file_bytes, .inl (cB, 1536, .inl v_file_bytes)), (q_p1, .inr (0, [.ref q_p1_bytes, .int v_p1_count])), (q_p1_bytes, .inl (cB, 1536, .inl v_p1_bytes))] := hD
    refine lv_aload_n hx hb d_Disk_writePage_23 rfl (lv_at hl 0 rfl) ?_
    refine gf_Disk_12 (v := .ref q_file) hx hb hts hN hown hK hP 0 rfl rfl d_Disk_writePage_24 ?_
    refine lv_iload_n hx hb d_Disk_writePage_27 rfl (lv_at hl 2 rfl) ?_
    refine lv_aload_n hx hb d_Disk_writePage_28 rfl (lv_at hl 1 rfl) ?_
    refine lv_iload_n hx hb d_Disk_writePage_29 rfl (lv_at hl 2 rfl) ?_
    refine lv_bipush (v := 64) hx hb d_Disk_writePage_30 rfl ?_
    obtain ⟨w4, hc, hf⟩ := pu_b1_some hf
    refine cl_v (WC := [(q_file, .inr (0, [.ref q_file_bytes, .int t2])), (q_file_bytes, .inl (cB, 1536, .inl v_file_bytes)), (q_p1, .inr (0, [.ref q_p1_bytes, .int v_p1_count])), (q_p1_bytes, .inl (cB, 1536, .inl v_p1_bytes))]) (WC2 := [(q_file, .inr (0, [.ref q_file_bytes, .int t2])), (q_file_bytes, .inl (cB, 1536, .inl w4)), (q_p1, .inr (0, [.ref q_p1_bytes, .int v_p1_count])), (q_p1_bytes, .inl (cB, 1536, .inl v_p1_bytes))]) (WR := [(q_this, .inr (4, [.ref q_file, .ref q_records, .ref q_recorded, .ref q_different, .int v_headThere, .int v_headPages, .int v_headRecords]))]) (WS2 := [(q_this, .inr (4, [.ref q_file, .ref q_records, .ref q_recorded, .ref q_different, .int v_headThere, .int v_headPages, .int v_headRecords])), (q_file, .inr (0, [.ref q_file_bytes, .int t2])), (q_file_bytes, .inl (cB, 1536, .inl w4)), (q_p1, .inr (0, [.ref q_p1_bytes, .int v_p1_count])), (q_p1_bytes, .inl (cB, 1536, .inl v_p1_bytes))]) (pu_rv (cl := pu_cl) (pu_in6 _ (List.mem_of_getElem? (i := 23) rfl)) (pu_in5 _ (List.mem_of_getElem? (i := 49) rfl)) (pu_in5 _ (List.mem_of_getElem? (i := 50) rfl)) (pu_in0 _ (List.mem_of_getElem? (i := 3) rfl)) (pu_in5 _ (List.mem_of_getElem? (i := 51) rfl)) (ci := 0) rfl hd_Pages_copyPage (by decide) ⟨rfl, rfl⟩ rfl rfl (Nat.le_of_ble_eq_true rfl) rfl (As := [.int x_2, .ref q_p1, .int x_2, .int (64 : Int32)]) (rest := []) (WC := [(q_file, .inr (0, [.ref q_file_bytes, .int t2])), (q_file_bytes, .inl (cB, 1536, .inl v_file_bytes)), (q_p1, .inr (0, [.ref q_p1_bytes, .int v_p1_count])), (q_p1_bytes, .inl (cB, 1536, .inl v_p1_bytes))]) hx hb hml hown hts hN hK hP hD (c_Pages_copyPage l D cI cJ cB cZ H.size q_file q_file_bytes q_p1 q_p1_bytes t2 v_file_bytes v_p1_count v_p1_bytes x_2 x_2 (64 : Int32) w4 hc) [1, 2, 3, 4] rfl rfl hl.1 d_Disk_writePage_32) hP hD hS hA [1, 2, 3, 4] [0] [0, 1, 2, 3, 4] rfl rfl rfl (by decide) rfl rfl (fun H locs hP hD hS => ?_)
    exact hret _ _ _ _ t2 w4 d_Disk_writePage_35 hP hD hS hf
  rw [hH, hlocs] at goal
  exact goal
theorem d_RF_writePages_0 : decode b_RF_writePages 0 = .ok (.iconst 1, 1) := by decide +kernel
theorem d_RF_writePages_1 : decode b_RF_writePages 1 = .ok (.istore_n 1, 1) := by decide +kernel
theorem d_RF_writePages_2 : decode b_RF_writePages 2 = .ok (.iload_n 1, 1) := by decide +kernel
theorem d_RF_writePages_3 : decode b_RF_writePages 3 = .ok (.bipush 24, 2) := by decide +kernel
theorem d_RF_writePages_5 : decode b_RF_writePages 5 = .ok (.if_icmp .gt 54, 3) := by decide +kernel
theorem d_RF_writePages_8 : decode b_RF_writePages 8 = .ok (.aload_n 0, 1) := by decide +kernel
theorem d_RF_writePages_9 : decode b_RF_writePages 9 = .ok (.getfield 29, 3) := by decide +kernel
theorem d_RF_writePages_12 : decode b_RF_writePages 12 = .ok (.getfield 193, 3) := by decide +kernel
theorem d_RF_writePages_15 : decode b_RF_writePages 15 = .ok (.iload_n 1, 1) := by decide +kernel
theorem d_RF_writePages_16 : decode b_RF_writePages 16 = .ok (.baload, 1) := by decide +kernel
theorem d_RF_writePages_17 : decode b_RF_writePages 17 = .ok (.ifCond .eq 36, 3) := by decide +kernel
theorem d_RF_writePages_20 : decode b_RF_writePages 20 = .ok (.aload_n 0, 1) := by decide +kernel
theorem d_RF_writePages_21 : decode b_RF_writePages 21 = .ok (.invokevirtual 197, 3) := by decide +kernel
theorem d_RF_writePages_24 : decode b_RF_writePages 24 = .ok (.ifCond .eq 17, 3) := by decide +kernel
theorem d_RF_writePages_27 : decode b_RF_writePages 27 = .ok (.aload_n 0, 1) := by decide +kernel
theorem d_RF_writePages_28 : decode b_RF_writePages 28 = .ok (.getfield 29, 3) := by decide +kernel
theorem d_RF_writePages_31 : decode b_RF_writePages 31 = .ok (.aload_n 0, 1) := by decide +kernel
theorem d_RF_writePages_32 : decode b_RF_writePages 32 = .ok (.getfield 19, 3) := by decide +kernel
theorem d_RF_writePages_35 : decode b_RF_writePages 35 = .ok (.iload_n 1, 1) := by decide +kernel
theorem d_RF_writePages_36 : decode b_RF_writePages 36 = .ok (.invokevirtual 204, 3) := by decide +kernel
theorem d_RF_writePages_39 : decode b_RF_writePages 39 = .ok (.iconst 0, 1) := by decide +kernel
theorem d_RF_writePages_40 : decode b_RF_writePages 40 = .ok (.ireturn, 1) := by decide +kernel
theorem d_RF_writePages_41 : decode b_RF_writePages 41 = .ok (.aload_n 0, 1) := by decide +kernel
theorem d_RF_writePages_42 : decode b_RF_writePages 42 = .ok (.getfield 29, 3) := by decide +kernel
theorem d_RF_writePages_45 : decode b_RF_writePages 45 = .ok (.aload_n 0, 1) := by decide +kernel
theorem d_RF_writePages_46 : decode b_RF_writePages 46 = .ok (.getfield 19, 3) := by decide +kernel
theorem d_RF_writePages_49 : decode b_RF_writePages 49 = .ok (.iload_n 1, 1) := by decide +kernel
theorem d_RF_writePages_50 : decode b_RF_writePages 50 = .ok (.invokevirtual 208, 3) := by decide +kernel
theorem d_RF_writePages_53 : decode b_RF_writePages 53 = .ok (.iinc 1 1, 3) := by decide +kernel
theorem d_RF_writePages_56 : decode b_RF_writePages 56 = .ok (.goto (-54), 3) := by decide +kernel
theorem d_RF_writePages_59 : decode b_RF_writePages 59 = .ok (.iconst 1, 1) := by decide +kernel
theorem d_RF_writePages_60 : decode b_RF_writePages 60 = .ok (.ireturn, 1) := by decide +kernel
noncomputable def q_RF_writePages_27 (v_now_count : Int32) (v_now_bytes : Nat → Int32) (v_disk_different : Nat → Int32) (v_armed : Int32) (v_disk_file_count : Int32) (v_disk_file_bytes : Nat → Int32) (x_1 : Int32) : Option (Int32 × Int32 × Int32 × (Nat → Int32)) :=
  pu_b1 (f_Disk_tearPage v_disk_file_count v_now_count v_now_bytes v_disk_file_bytes x_1) (fun w2 => some ((0 : Int32), v_armed, v_disk_file_count, w2))
noncomputable def q_RF_writePages_53 (kb : Int32 → Int32 → (Nat → Int32) → Int32 → Option (Int32 × Int32 × Int32 × (Nat → Int32))) (kx_27 : Int32 → Int32 → (Nat → Int32) → Int32 → Option (Int32 × Int32 × Int32 × (Nat → Int32))) (v_now_count : Int32) (v_now_bytes : Nat → Int32) (v_disk_different : Nat → Int32) (v_armed : Int32) (v_disk_file_count : Int32) (v_disk_file_bytes : Nat → Int32) (x_1 : Int32) : Option (Int32 × Int32 × Int32 × (Nat → Int32)) :=
  pu_nm (x_1 + (1 : Int32)) (fun t3 => kb v_armed v_disk_file_count v_disk_file_bytes t3)
noncomputable def q_RF_writePages_2 (kx_27 : Int32 → Int32 → (Nat → Int32) → Int32 → Option (Int32 × Int32 × Int32 × (Nat → Int32))) (v_now_count : Int32) (v_now_bytes : Nat → Int32) (v_disk_different : Nat → Int32) : Nat → Int32 → Int32 → (Nat → Int32) → Int32 → Option (Int32 × Int32 × Int32 × (Nat → Int32))
  | 0, _, _, _, _ => none
  | n + 1, v_armed, v_disk_file_count, v_disk_file_bytes, x_1 => pu_br ((24 : Int32) < x_1) (some ((1 : Int32), v_armed, v_disk_file_count, v_disk_file_bytes)) (pu_ck (vp_in x_1 25) (pu_br ((v_disk_different x_1.toNatClampNeg) = 0) (q_RF_writePages_53 (q_RF_writePages_2 kx_27 v_now_count v_now_bytes v_disk_different n) kx_27 v_now_count v_now_bytes v_disk_different v_armed v_disk_file_count v_disk_file_bytes x_1) (pu_b2 (f_RF_writeFails v_armed) (fun r4 w5 => pu_br (r4 = 0) (pu_b2 (f_Disk_writePage v_now_count v_now_bytes v_disk_file_count v_disk_file_bytes x_1) (fun w7 w8 => q_RF_writePages_53 (q_RF_writePages_2 kx_27 v_now_count v_now_bytes v_disk_different n) kx_27 v_now_count v_now_bytes v_disk_different w5 w7 w8 x_1)) (kx_27 w5 v_disk_file_count v_disk_file_bytes x_1)))))
noncomputable def f_RF_writePages (v_now_count : Int32) (v_now_bytes : Nat → Int32) (v_disk_different : Nat → Int32) (v_armed : Int32) (v_disk_file_count : Int32) (v_disk_file_bytes : Nat → Int32) : Option (Int32 × Int32 × Int32 × (Nat → Int32)) :=
  q_RF_writePages_2 (fun v_armed v_disk_file_count v_disk_file_bytes x_1 => q_RF_writePages_27 v_now_count v_now_bytes v_disk_different v_armed v_disk_file_count v_disk_file_bytes x_1) v_now_count v_now_bytes v_disk_different pu_fu v_armed v_disk_file_count v_disk_file_bytes (1 : Int32)
abbrev rm_RF_writePages : Room := { frames := 3, cells := 0, slots := 0, locals := 114 }
set_option maxHeartbeats 8000000 in
set_option maxRecDepth 100000 in
theorem c_RF_writePages (l : Launch) (D : va_G) (cI cJ cB cZ : ClassId) (sz : Nat) (q_this : Nat) (q_draft : Nat) (q_now : Nat) (q_before : Nat) (q_disk : Nat) (q_row : Nat) (q_node : Nat) (q_tree : Nat) (q_check : Nat) (q_now_bytes : Nat) (q_disk_file : Nat) (q_disk_records : Nat) (q_disk_recorded : Nat) (q_disk_different : Nat) (q_disk_file_bytes : Nat) (v_up : Int32) (v_armed : Int32) (v_now_count : Int32) (v_now_bytes : Nat → Int32) (v_disk_headThere : Int32) (v_disk_headPages : Int32) (v_disk_headRecords : Int32) (v_disk_file_count : Int32) (v_disk_file_bytes : Nat → Int32) (v_disk_different : Nat → Int32) (o_r : Int32) (o_armed : Int32) (o_disk_file_count : Int32) (o_disk_file_bytes : Nat → Int32) (hf : f_RF_writePages v_now_count v_now_bytes v_disk_different v_armed v_disk_file_count v_disk_file_bytes = some (o_r, o_armed, o_disk_file_count, o_disk_file_bytes)) : Met l y_RF_writePages (.code y_RF_writePages b_RF_writePages 2 (some .boolean) :: pu_wA) rm_RF_writePages (pu_pc D pu_cl (pu_ty cI cJ cB cZ) [.ref q_this] [(q_this, .inr (7, [.ref q_draft, .ref q_now, .ref q_before, .ref q_disk, .ref q_row, .ref q_node, .ref q_tree, .ref q_check, .int v_up, .int v_armed])), (q_now, .inr (0, [.ref q_now_bytes, .int v_now_count])), (q_now_bytes, .inl (cB, 1536, .inl v_now_bytes)), (q_disk, .inr (4, [.ref q_disk_file, .ref q_disk_records, .ref q_disk_recorded, .ref q_disk_different, .int v_disk_headThere, .int v_disk_headPages, .int v_disk_headRecords])), (q_disk_file, .inr (0, [.ref q_disk_file_bytes, .int v_disk_file_count])), (q_disk_file_bytes, .inl (cB, 1536, .inl v_disk_file_bytes)), (q_disk_different, .inl (cZ, 25, .inl v_disk_different))] sz) (pu_qi D pu_cl (pu_ty cI cJ cB cZ) [(q_this, .inr (7, [.ref q_draft, .ref q_now, .ref q_before, .ref q_disk, .ref q_row, .ref q_node, .ref q_tree, .ref q_check, .int v_up, .int v_armed])), (q_now, .inr (0, [.ref q_now_bytes, .int v_now_count])), (q_now_bytes, .inl (cB, 1536, .inl v_now_bytes)), (q_disk, .inr (4, [.ref q_disk_file, .ref q_disk_records, .ref q_disk_recorded, .ref q_disk_different, .int v_disk_headThere, .int v_disk_headPages, .int v_disk_headRecords])), (q_disk_file, .inr (0, [.ref q_disk_file_bytes, .int v_disk_file_count])), (q_disk_file_bytes, .inl (cB, 1536, .inl v_disk_file_bytes)), (q_disk_different, .inl (cZ, 25, .inl v_disk_different))] [(q_this, .inr (7, [.ref q_draft, .ref q_now, .ref q_before, .ref q_disk, .ref q_row, .ref q_node, .ref q_tree, .ref q_check, .int v_up, .int o_armed])), (q_now, .inr (0, [.ref q_now_bytes, .int v_now_count])), (q_now_bytes, .inl (cB, 1536, .inl v_now_bytes)), (q_disk, .inr (4, [.ref q_disk_file, .ref q_disk_records, .ref q_disk_recorded, .ref q_disk_different, .int v_disk_headThere, .int v_disk_headPages, .int v_disk_headRecords])), (q_disk_file, .inr (0, [.ref q_disk_file_bytes, .int o_disk_file_count])), (q_disk_file_bytes, .inl (cB, 1536, .inl o_disk_file_bytes)), (q_disk_different, .inl (cZ, 25, .inl v_disk_different))] sz o_r) 0 0 (va_A [(q_this, .inr (7, [.ref q_draft, .ref q_now, .ref q_before, .ref q_disk, .ref q_row, .ref q_node, .ref q_tree, .ref q_check, .int v_up, .int v_armed])), (q_now, .inr (0, [.ref q_now_bytes, .int v_now_count])), (q_now_bytes, .inl (cB, 1536, .inl v_now_bytes)), (q_disk, .inr (4, [.ref q_disk_file, .ref q_disk_records, .ref q_disk_recorded, .ref q_disk_different, .int v_disk_headThere, .int v_disk_headPages, .int v_disk_headRecords])), (q_disk_file, .inr (0, [.ref q_disk_file_bytes, .int v_disk_file_count])), (q_disk_file_bytes, .inl (cB, 1536, .inl v_disk_file_bytes)), (q_disk_different, .inl (cZ, 25, .inl v_disk_different))] sz) := by
  refine pu_mtz [.ref q_this] [(q_this, .inr (7, [.ref q_draft, .ref q_now, .ref q_before, .ref q_disk, .ref q_row, .ref q_node, .ref q_tree, .ref q_check, .int v_up, .int v_armed])), (q_now, .inr (0, [.ref q_now_bytes, .int v_now_count])), (q_now_bytes, .inl (cB, 1536, .inl v_now_bytes)), (q_disk, .inr (4, [.ref q_disk_file, .ref q_disk_records, .ref q_disk_recorded, .ref q_disk_different, .int v_disk_headThere, .int v_disk_headPages, .int v_disk_headRecords])), (q_disk_file, .inr (0, [.ref q_disk_file_bytes, .int v_disk_file_count])), (q_disk_file_bytes, .inl (cB, 1536, .inl v_disk_file_bytes)), (q_disk_different, .inl (cZ, 25, .inl v_disk_different))] [(q_this, .inr (7, [.ref q_draft, .ref q_now, .ref q_before, .ref q_disk, .ref q_row, .ref q_node, .ref q_tree, .ref q_check, .int v_up, .int o_armed])), (q_now, .inr (0, [.ref q_now_bytes, .int v_now_count])), (q_now_bytes, .inl (cB, 1536, .inl v_now_bytes)), (q_disk, .inr (4, [.ref q_disk_file, .ref q_disk_records, .ref q_disk_recorded, .ref q_disk_different, .int v_disk_headThere, .int v_disk_headPages, .int v_disk_headRecords])), (q_disk_file, .inr (0, [.ref q_disk_file_bytes, .int o_disk_file_count])), (q_disk_file_bytes, .inl (cB, 1536, .inl o_disk_file_bytes)), (q_disk_different, .inl (cZ, 25, .inl v_disk_different))] o_r (by decide) (Nat.le_of_ble_eq_true rfl) ?_
  intro p e s m args below meth c A Q ls hx hb hml hts hN hown hK hA hP hD hl hret0
  have hS : va_S A s.heap s.heap [] := va_S.rf
  have hl : lv_has ls 2 [(0, .ref q_this)] := hl
  have hret : ∀ (pc : Nat) (ls : Array Slot) (H : Heap) (locs : List Loc) (y_0 : Int32) (y_1 : Int32) (y_2 : Int32) (y_3 : Nat → Int32), decode b_RF_writePages pc = .ok (.ireturn, 1) → narrow .boolean (.int y_0) = .int y_0 → va_P D pu_cl [(q_this, .inr (7, [.ref q_draft, .ref q_now, .ref q_before, .ref q_disk, .ref q_row, .ref q_node, .ref q_tree, .ref q_check, .int v_up, .int y_1])), (q_now, .inr (0, [.ref q_now_bytes, .int v_now_count])), (q_now_bytes, .inl (cB, 1536, .inl v_now_bytes)), (q_disk, .inr (4, [.ref q_disk_file, .ref q_disk_records, .ref q_disk_recorded, .ref q_disk_different, .int v_disk_headThere, .int v_disk_headPages, .int v_disk_headRecords])), (q_disk_file, .inr (0, [.ref q_disk_file_bytes, .int y_2])), (q_disk_file_bytes, .inl (cB, 1536, .inl y_3)), (q_disk_different, .inl (cZ, 25, .inl v_disk_different))] H → va_D A [(q_this, .inr (7, [.ref q_draft, .ref q_now, .ref q_before, .ref q_disk, .ref q_row, .ref q_node, .ref q_tree, .ref q_check, .int v_up, .int y_1])), (q_now, .inr (0, [.ref q_now_bytes, .int v_now_count])), (q_now_bytes, .inl (cB, 1536, .inl v_now_bytes)), (q_disk, .inr (4, [.ref q_disk_file, .ref q_disk_records, .ref q_disk_recorded, .ref q_disk_different, .int v_disk_headThere, .int v_disk_headPages, .int v_disk_headRecords])), (q_disk_file, .inr (0, [.ref q_disk_file_bytes, .int y_2])), (q_disk_file_bytes, .inl (cB, 1536, .inl y_3)), (q_disk_different, .inl (cZ, 25, .inl v_disk_different))] → va_S A s.heap H locs → some (y_0, y_1, y_2, y_3) = some (o_r, o_armed, o_disk_file_count, o_disk_file_bytes) → W p l e rm_RF_writePages s m args below meth c H locs 0 0 Q (F0 m pc ls [.int y_0]) := by
    intro pc ls H locs y_0 y_1 y_2 y_3 hd hz hP hD hS hf
    cases hf
    exact hret0 pc ls H locs hd hz hP hD hS
  clear hret0
  unfold f_RF_writePages at hf
  skip
  have lb_27 : ∀ (v_armed : Int32) (v_disk_file_count : Int32) (v_disk_file_bytes : Nat → Int32) (x_1 : Int32) (H : Heap) (locs : List Loc) (ls : Array Slot), va_P D pu_cl [(q_this, .inr (7, [.ref q_draft, .ref q_now, .ref q_before, .ref q_disk, .ref q_row, .ref q_node, .ref q_tree, .ref q_check, .int v_up, .int v_armed])), (q_now, .inr (0, [.ref q_now_bytes, .int v_now_count])), (q_now_bytes, .inl (cB, 1536, .inl v_now_bytes)), (q_disk, .inr (4, [.ref q_disk_file, .ref q_disk_records, .ref q_disk_recorded, .ref q_disk_different, .int v_disk_headThere, .int v_disk_headPages, .int v_disk_headRecords])), (q_disk_file, .inr (0, [.ref q_disk_file_bytes, .int v_disk_file_count])), (q_disk_file_bytes, .inl (cB, 1536, .inl v_disk_file_bytes)), (q_disk_different, .inl (cZ, 25, .inl v_disk_different))] H → va_D A [(q_this, .inr (7, [.ref q_draft, .ref q_now, .ref q_before, .ref q_disk, .ref q_row, .ref q_node, .ref q_tree, .ref q_check, .int v_up, .int v_armed])), (q_now, .inr (0, [.ref q_now_bytes, .int v_now_count])), (q_now_bytes, .inl (cB, 1536, .inl v_now_bytes)), (q_disk, .inr (4, [.ref q_disk_file, .ref q_disk_records, .ref q_disk_recorded, .ref q_disk_different, .int v_disk_headThere, .int v_disk_headPages, .int v_disk_headRecords])), (q_disk_file, .inr (0, [.ref q_disk_file_bytes, .int v_disk_file_count])), (q_disk_file_bytes, .inl (cB, 1536, .inl v_disk_file_bytes)), (q_disk_different, .inl (cZ, 25, .inl v_disk_different))] → va_S A s.heap H locs → lv_has ls 2 [(0, .ref q_this), (1, .int x_1)] → q_RF_writePages_27 v_now_count v_now_bytes v_disk_different v_armed v_disk_file_count v_disk_file_bytes x_1 = some (o_r, o_armed, o_disk_file_count, o_disk_file_bytes) → W p l e rm_RF_writePages s m args below meth c H locs 0 0 Q (F0 m 27 ls []) := by
    intro v_armed v_disk_file_count v_disk_file_bytes x_1 H locs ls hP hD hS hl hf
    rw [q_RF_writePages_27] at hf
    refine lv_aload_n hx hb d_RF_writePages_27 rfl (lv_at hl 0 rfl) ?_
    refine gf_RF_29 (v := .ref q_disk) hx hb hts hN hown hK hP 0 rfl rfl d_RF_writePages_28 ?_
    refine lv_aload_n hx hb d_RF_writePages_31 rfl (lv_at hl 0 rfl) ?_
    refine gf_RF_19 (v := .ref q_now) hx hb hts hN hown hK hP 0 rfl rfl d_RF_writePages_32 ?_
    refine lv_iload_n hx hb d_RF_writePages_35 rfl (lv_at hl 1 rfl) ?_
    obtain ⟨w2, hc, hf⟩ := pu_b1_some hf
    refine cl_v (WC := [(q_disk, .inr (4, [.ref q_disk_file, .ref q_disk_records, .ref q_disk_recorded, .ref q_disk_different, .int v_disk_headThere, .int v_disk_headPages, .int v_disk_headRecords])), (q_disk_file, .inr (0, [.ref q_disk_file_bytes, .int v_disk_file_count])), (q_disk_file_bytes, .inl (cB, 1536, .inl v_disk_file_bytes)), (q_now, .inr (0, [.ref q_now_bytes, .int v_now_count])), (q_now_bytes, .inl (cB, 1536, .inl v_now_bytes))]) (WC2 := [(q_disk, .inr (4, [.ref q_disk_file, .ref q_disk_records, .ref q_disk_recorded, .ref q_disk_different, .int v_disk_headThere, .int v_disk_headPages, .int v_disk_headRecords])), (q_disk_file, .inr (0, [.ref q_disk_file_bytes, .int v_disk_file_count])), (q_disk_file_bytes, .inl (cB, 1536, .inl w2)), (q_now, .inr (0, [.ref q_now_bytes, .int v_now_count])), (q_now_bytes, .inl (cB, 1536, .inl v_now_bytes))]) (WR := [(q_this, .inr (7, [.ref q_draft, .ref q_now, .ref q_before, .ref q_disk, .ref q_row, .ref q_node, .ref q_tree, .ref q_check, .int v_up, .int v_armed])), (q_disk_different, .inl (cZ, 25, .inl v_disk_different))]) (WS2 := [(q_this, .inr (7, [.ref q_draft, .ref q_now, .ref q_before, .ref q_disk, .ref q_row, .ref q_node, .ref q_tree, .ref q_check, .int v_up, .int v_armed])), (q_now, .inr (0, [.ref q_now_bytes, .int v_now_count])), (q_now_bytes, .inl (cB, 1536, .inl v_now_bytes)), (q_disk, .inr (4, [.ref q_disk_file, .ref q_disk_records, .ref q_disk_recorded, .ref q_disk_different, .int v_disk_headThere, .int v_disk_headPages, .int v_disk_headRecords])), (q_disk_file, .inr (0, [.ref q_disk_file_bytes, .int v_disk_file_count])), (q_disk_file_bytes, .inl (cB, 1536, .inl w2)), (q_disk_different, .inl (cZ, 25, .inl v_disk_different))]) (pu_rv (cl := pu_cl) (pu_in6 _ (List.mem_of_getElem? (i := 30) rfl)) (pu_in6 _ (List.mem_of_getElem? (i := 31) rfl)) (pu_in6 _ (List.mem_of_getElem? (i := 32) rfl)) (pu_in0 _ (List.mem_of_getElem? (i := 4) rfl)) (pu_in6 _ (List.mem_of_getElem? (i := 33) rfl)) (ci := 4) rfl hd_Disk_tearPage (by decide) ⟨rfl, rfl⟩ rfl rfl (Nat.le_of_ble_eq_true rfl) rfl (As := [.ref q_now, .int x_1]) (rest := []) (WC := [(q_disk, .inr (4, [.ref q_disk_file, .ref q_disk_records, .ref q_disk_recorded, .ref q_disk_different, .int v_disk_headThere, .int v_disk_headPages, .int v_disk_headRecords])), (q_disk_file, .inr (0, [.ref q_disk_file_bytes, .int v_disk_file_count])), (q_disk_file_bytes, .inl (cB, 1536, .inl v_disk_file_bytes)), (q_now, .inr (0, [.ref q_now_bytes, .int v_now_count])), (q_now_bytes, .inl (cB, 1536, .inl v_now_bytes))]) hx hb hml hown hts hN hK hP hD (c_Disk_tearPage l D cI cJ cB cZ H.size q_disk q_disk_file q_disk_records q_disk_recorded q_disk_different q_disk_file_bytes q_now q_now_bytes v_disk_headThere v_disk_headPages v_disk_headRecords v_disk_file_count v_disk_file_bytes v_now_count v_now_bytes x_1 w2 hc) [3, 4, 5, 1, 2] rfl rfl hl.1 d_RF_writePages_36) hP hD hS hA [3, 4, 5, 1, 2] [0, 6] [0, 5, 6, 2, 3, 4, 1] rfl rfl rfl (by decide) rfl rfl (fun H locs hP hD hS => ?_)
    refine lv_iconst (v := 0) hx hb d_RF_writePages_39 rfl ?_
    exact hret _ _ _ _ (0 : Int32) v_armed v_disk_file_count w2 d_RF_writePages_40 (by decide) hP hD hS hf
  have lp_2 : ∀ (n2 : Nat) (v_armed : Int32) (v_disk_file_count : Int32) (v_disk_file_bytes : Nat → Int32) (x_1 : Int32) (H : Heap) (locs : List Loc) (ls : Array Slot), va_P D pu_cl [(q_this, .inr (7, [.ref q_draft, .ref q_now, .ref q_before, .ref q_disk, .ref q_row, .ref q_node, .ref q_tree, .ref q_check, .int v_up, .int v_armed])), (q_now, .inr (0, [.ref q_now_bytes, .int v_now_count])), (q_now_bytes, .inl (cB, 1536, .inl v_now_bytes)), (q_disk, .inr (4, [.ref q_disk_file, .ref q_disk_records, .ref q_disk_recorded, .ref q_disk_different, .int v_disk_headThere, .int v_disk_headPages, .int v_disk_headRecords])), (q_disk_file, .inr (0, [.ref q_disk_file_bytes, .int v_disk_file_count])), (q_disk_file_bytes, .inl (cB, 1536, .inl v_disk_file_bytes)), (q_disk_different, .inl (cZ, 25, .inl v_disk_different))] H → va_D A [(q_this, .inr (7, [.ref q_draft, .ref q_now, .ref q_before, .ref q_disk, .ref q_row, .ref q_node, .ref q_tree, .ref q_check, .int v_up, .int v_armed])), (q_now, .inr (0, [.ref q_now_bytes, .int v_now_count])), (q_now_bytes, .inl (cB, 1536, .inl v_now_bytes)), (q_disk, .inr (4, [.ref q_disk_file, .ref q_disk_records, .ref q_disk_recorded, .ref q_disk_different, .int v_disk_headThere, .int v_disk_headPages, .int v_disk_headRecords])), (q_disk_file, .inr (0, [.ref q_disk_file_bytes, .int v_disk_file_count])), (q_disk_file_bytes, .inl (cB, 1536, .inl v_disk_file_bytes)), (q_disk_different, .inl (cZ, 25, .inl v_disk_different))] → va_S A s.heap H locs → lv_has ls 2 [(0, .ref q_this), (1, .int x_1)] → q_RF_writePages_2 (fun v_armed v_disk_file_count v_disk_file_bytes x_1 => q_RF_writePages_27 v_now_count v_now_bytes v_disk_different v_armed v_disk_file_count v_disk_file_bytes x_1) v_now_count v_now_bytes v_disk_different n2 v_armed v_disk_file_count v_disk_file_bytes x_1 = some (o_r, o_armed, o_disk_file_count, o_disk_file_bytes) → W p l e rm_RF_writePages s m args below meth c H locs 0 0 Q (F0 m 2 ls []) := by
    intro n2
    induction n2 with
    | zero =>
      intro v_armed v_disk_file_count v_disk_file_bytes x_1 H locs ls hP hD hS hl hf
      rw [q_RF_writePages_2] at hf
      cases hf
    | succ n2 ih_2 =>
      have lb_53 : ∀ (v_armed : Int32) (v_disk_file_count : Int32) (v_disk_file_bytes : Nat → Int32) (x_1 : Int32) (H : Heap) (locs : List Loc) (ls : Array Slot), va_P D pu_cl [(q_this, .inr (7, [.ref q_draft, .ref q_now, .ref q_before, .ref q_disk, .ref q_row, .ref q_node, .ref q_tree, .ref q_check, .int v_up, .int v_armed])), (q_now, .inr (0, [.ref q_now_bytes, .int v_now_count])), (q_now_bytes, .inl (cB, 1536, .inl v_now_bytes)), (q_disk, .inr (4, [.ref q_disk_file, .ref q_disk_records, .ref q_disk_recorded, .ref q_disk_different, .int v_disk_headThere, .int v_disk_headPages, .int v_disk_headRecords])), (q_disk_file, .inr (0, [.ref q_disk_file_bytes, .int v_disk_file_count])), (q_disk_file_bytes, .inl (cB, 1536, .inl v_disk_file_bytes)), (q_disk_different, .inl (cZ, 25, .inl v_disk_different))] H → va_D A [(q_this, .inr (7, [.ref q_draft, .ref q_now, .ref q_before, .ref q_disk, .ref q_row, .ref q_node, .ref q_tree, .ref q_check, .int v_up, .int v_armed])), (q_now, .inr (0, [.ref q_now_bytes, .int v_now_count])), (q_now_bytes, .inl (cB, 1536, .inl v_now_bytes)), (q_disk, .inr (4, [.ref q_disk_file, .ref q_disk_records, .ref q_disk_recorded, .ref q_disk_different, .int v_disk_headThere, .int v_disk_headPages, .int v_disk_headRecords])), (q_disk_file, .inr (0, [.ref q_disk_file_bytes, .int v_disk_file_count])), (q_disk_file_bytes, .inl (cB, 1536, .inl v_disk_file_bytes)), (q_disk_different, .inl (cZ, 25, .inl v_disk_different))] → va_S A s.heap H locs → lv_has ls 2 [(0, .ref q_this), (1, .int x_1)] → q_RF_writePages_53 (q_RF_writePages_2 (fun v_armed v_disk_file_count v_disk_file_bytes x_1 => q_RF_writePages_27 v_now_count v_now_bytes v_disk_different v_armed v_disk_file_count v_disk_file_bytes x_1) v_now_count v_now_bytes v_disk_different n2) (fun v_armed v_disk_file_count v_disk_file_bytes x_1 => q_RF_writePages_27 v_now_count v_now_bytes v_disk_different v_armed v_disk_file_count v_disk_file_bytes x_1) v_now_count v_now_bytes v_disk_different v_armed v_disk_file_count v_disk_file_bytes x_1 = some (o_r, o_armed, o_disk_file_count, o_disk_file_bytes) → W p l e rm_RF_writePages s m args below meth c H locs 0 0 Q (F0 m 53 ls []) := by
        intro v_armed v_disk_file_count v_disk_file_bytes x_1 H locs ls hP hD hS hl hf
        rw [q_RF_writePages_53] at hf
        obtain ⟨t3, e_t3, hf⟩ := pu_nm_some hf
        refine lv_iinc (k := 1) (v := t3) hx hb d_RF_writePages_53 hl rfl e_t3.symm (by decide) rfl (fun ls hl => ?_)
        have hl : lv_has ls 2 [(1, .int t3), (0, .ref q_this)] := hl
        refine lv_goto (tgt := 2) hx hb d_RF_writePages_56 rfl ?_
        exact ih_2 v_armed v_disk_file_count v_disk_file_bytes t3 H locs ls hP hD hS (lv_sub hl [1, 0] rfl) hf
      intro v_armed v_disk_file_count v_disk_file_bytes x_1 H locs ls hP hD hS hl hf
      rw [q_RF_writePages_2] at hf
      refine lv_iload_n hx hb d_RF_writePages_2 rfl (lv_at hl 1 rfl) ?_
      refine lv_bipush (v := 24) hx hb d_RF_writePages_3 rfl ?_
      refine lv_icmp_gt (tgt := 59) hx hb d_RF_writePages_5 rfl (fun hc => ?_) (fun hc => ?_)
      · have hf := pu_br_pos hf hc
        refine lv_iconst (v := 1) hx hb d_RF_writePages_59 rfl ?_
        exact hret _ _ _ _ (1 : Int32) v_armed v_disk_file_count v_disk_file_bytes d_RF_writePages_60 (by decide) hP hD hS hf
      have hf := pu_br_neg hf hc
      refine lv_aload_n hx hb d_RF_writePages_8 rfl (lv_at hl 0 rfl) ?_
      refine gf_RF_29 (v := .ref q_disk) hx hb hts hN hown hK hP 0 rfl rfl d_RF_writePages_9 ?_
      refine gf_RF_193 (v := .ref q_disk_different) hx hb hts hN hown hK hP 3 rfl rfl d_RF_writePages_12 ?_
      refine lv_iload_n hx hb d_RF_writePages_15 rfl (lv_at hl 1 rfl) ?_
      obtain ⟨hin, hf⟩ := pu_ck_some hf
      refine va_zald hx hb hK hP 6 3 rfl rfl hin d_RF_writePages_16 ?_
      refine lv_if_eq (tgt := 53) hx hb d_RF_writePages_17 rfl (fun hc => ?_) (fun hc => ?_)
      · have hf := pu_br_pos hf hc
        exact lb_53 v_armed v_disk_file_count v_disk_file_bytes x_1 H locs ls hP hD hS (lv_sub hl [0, 1] rfl) hf
      have hf := pu_br_neg hf hc
      refine lv_aload_n hx hb d_RF_writePages_20 rfl (lv_at hl 0 rfl) ?_
      obtain ⟨r4, w5, hc, hf⟩ := pu_b2_some hf
      refine cl_i (WC := [(q_this, .inr (7, [.ref q_draft, .ref q_now, .ref q_before, .ref q_disk, .ref q_row, .ref q_node, .ref q_tree, .ref q_check, .int v_up, .int v_armed]))]) (WC2 := [(q_this, .inr (7, [.ref q_draft, .ref q_now, .ref q_before, .ref q_disk, .ref q_row, .ref q_node, .ref q_tree, .ref q_check, .int v_up, .int w5]))]) (WR := [(q_now, .inr (0, [.ref q_now_bytes, .int v_now_count])), (q_now_bytes, .inl (cB, 1536, .inl v_now_bytes)), (q_disk, .inr (4, [.ref q_disk_file, .ref q_disk_records, .ref q_disk_recorded, .ref q_disk_different, .int v_disk_headThere, .int v_disk_headPages, .int v_disk_headRecords])), (q_disk_file, .inr (0, [.ref q_disk_file_bytes, .int v_disk_file_count])), (q_disk_file_bytes, .inl (cB, 1536, .inl v_disk_file_bytes)), (q_disk_different, .inl (cZ, 25, .inl v_disk_different))]) (WS2 := [(q_this, .inr (7, [.ref q_draft, .ref q_now, .ref q_before, .ref q_disk, .ref q_row, .ref q_node, .ref q_tree, .ref q_check, .int v_up, .int w5])), (q_now, .inr (0, [.ref q_now_bytes, .int v_now_count])), (q_now_bytes, .inl (cB, 1536, .inl v_now_bytes)), (q_disk, .inr (4, [.ref q_disk_file, .ref q_disk_records, .ref q_disk_recorded, .ref q_disk_different, .int v_disk_headThere, .int v_disk_headPages, .int v_disk_headRecords])), (q_disk_file, .inr (0, [.ref q_disk_file_bytes, .int v_disk_file_count])), (q_disk_file_bytes, .inl (cB, 1536, .inl v_disk_file_bytes)), (q_disk_different, .inl (cZ, 25, .inl v_disk_different))]) (pu_rv (cl := pu_cl) (pu_in6 _ (List.mem_of_getElem? (i := 15) rfl)) (pu_in6 _ (List.mem_of_getElem? (i := 16) rfl)) (pu_in13 _ (List.mem_of_getElem? (i := 57) rfl)) (pu_in0 _ (List.mem_of_getElem? (i := 1) rfl)) (pu_in6 _ (List.mem_of_getElem? (i := 17) rfl)) (ci := 7) rfl hd_RF_writeFails (by decide) ⟨rfl, rfl⟩ rfl rfl (Nat.le_of_ble_eq_true rfl) rfl (As := []) (rest := []) (WC := [(q_this, .inr (7, [.ref q_draft, .ref q_now, .ref q_before, .ref q_disk, .ref q_row, .ref q_node, .ref q_tree, .ref q_check, .int v_up, .int v_armed]))]) hx hb hml hown hts hN hK hP hD (c_RF_writeFails l D cI cJ cB cZ H.size q_this q_draft q_now q_before q_disk q_row q_node q_tree q_check v_up v_armed r4 w5 hc) [0] rfl rfl hl.1 d_RF_writePages_21) hP hD hS hA [0] [1, 2, 3, 4, 5, 6] [6, 0, 1, 2, 3, 4, 5] rfl rfl rfl (by decide) rfl rfl (fun H locs hP hD hS => ?_)
      refine lv_if_eq (tgt := 41) hx hb d_RF_writePages_24 rfl (fun hc => ?_) (fun hc => ?_)
      · have hf := pu_br_pos hf hc
        refine lv_aload_n hx hb d_RF_writePages_41 rfl (lv_at hl 0 rfl) ?_
        refine gf_RF_29 (v := .ref q_disk) hx hb hts hN hown hK hP 0 rfl rfl d_RF_writePages_42 ?_
        refine lv_aload_n hx hb d_RF_writePages_45 rfl (lv_at hl 0 rfl) ?_
        refine gf_RF_19 (v := .ref q_now) hx hb hts hN hown hK hP 0 rfl rfl d_RF_writePages_46 ?_
        refine lv_iload_n hx hb d_RF_writePages_49 rfl (lv_at hl 1 rfl) ?_
        obtain ⟨w7, w8, hc, hf⟩ := pu_b2_some hf
        refine cl_v (WC := [(q_disk, .inr (4, [.ref q_disk_file, .ref q_disk_records, .ref q_disk_recorded, .ref q_disk_different, .int v_disk_headThere, .int v_disk_headPages, .int v_disk_headRecords])), (q_disk_file, .inr (0, [.ref q_disk_file_bytes, .int v_disk_file_count])), (q_disk_file_bytes, .inl (cB, 1536, .inl v_disk_file_bytes)), (q_now, .inr (0, [.ref q_now_bytes, .int v_now_count])), (q_now_bytes, .inl (cB, 1536, .inl v_now_bytes))]) (WC2 := [(q_disk, .inr (4, [.ref q_disk_file, .ref q_disk_records, .ref q_disk_recorded, .ref q_disk_different, .int v_disk_headThere, .int v_disk_headPages, .int v_disk_headRecords])), (q_disk_file, .inr (0, [.ref q_disk_file_bytes, .int w7])), (q_disk_file_bytes, .inl (cB, 1536, .inl w8)), (q_now, .inr (0, [.ref q_now_bytes, .int v_now_count])), (q_now_bytes, .inl (cB, 1536, .inl v_now_bytes))]) (WR := [(q_this, .inr (7, [.ref q_draft, .ref q_now, .ref q_before, .ref q_disk, .ref q_row, .ref q_node, .ref q_tree, .ref q_check, .int v_up, .int w5])), (q_disk_different, .inl (cZ, 25, .inl v_disk_different))]) (WS2 := [(q_this, .inr (7, [.ref q_draft, .ref q_now, .ref q_before, .ref q_disk, .ref q_row, .ref q_node, .ref q_tree, .ref q_check, .int v_up, .int w5])), (q_now, .inr (0, [.ref q_now_bytes, .int v_now_count])), (q_now_bytes, .inl (cB, 1536, .inl v_now_bytes)), (q_disk, .inr (4, [.ref q_disk_file, .ref q_disk_records, .ref q_disk_recorded, .ref q_disk_different, .int v_disk_headThere, .int v_disk_headPages, .int v_disk_headRecords])), (q_disk_file, .inr (0, [.ref q_disk_file_bytes, .int w7])), (q_disk_file_bytes, .inl (cB, 1536, .inl w8)), (q_disk_different, .inl (cZ, 25, .inl v_disk_different))]) (pu_rv (cl := pu_cl) (pu_in6 _ (List.mem_of_getElem? (i := 34) rfl)) (pu_in6 _ (List.mem_of_getElem? (i := 35) rfl)) (pu_in6 _ (List.mem_of_getElem? (i := 36) rfl)) (pu_in0 _ (List.mem_of_getElem? (i := 4) rfl)) (pu_in6 _ (List.mem_of_getElem? (i := 37) rfl)) (ci := 4) rfl hd_Disk_writePage (by decide) ⟨rfl, rfl⟩ rfl rfl (Nat.le_of_ble_eq_true rfl) rfl (As := [.ref q_now, .int x_1]) (rest := []) (WC := [(q_disk, .inr (4, [.ref q_disk_file, .ref q_disk_records, .ref q_disk_recorded, .ref q_disk_different, .int v_disk_headThere, .int v_disk_headPages, .int v_disk_headRecords])), (q_disk_file, .inr (0, [.ref q_disk_file_bytes, .int v_disk_file_count])), (q_disk_file_bytes, .inl (cB, 1536, .inl v_disk_file_bytes)), (q_now, .inr (0, [.ref q_now_bytes, .int v_now_count])), (q_now_bytes, .inl (cB, 1536, .inl v_now_bytes))]) hx hb hml hown hts hN hK hP hD (c_Disk_writePage l D cI cJ cB cZ H.size q_disk q_disk_file q_disk_records q_disk_recorded q_disk_different q_disk_file_bytes q_now q_now_bytes v_disk_headThere v_disk_headPages v_disk_headRecords v_disk_file_count v_disk_file_bytes v_now_count v_now_bytes x_1 w7 w8 hc) [3, 4, 5, 1, 2] rfl rfl hl.1 d_RF_writePages_50) hP hD hS hA [3, 4, 5, 1, 2] [0, 6] [0, 5, 6, 2, 3, 4, 1] rfl rfl rfl (by decide) rfl rfl (fun H locs hP hD hS => ?_)
        exact lb_53 w5 w7 w8 x_1 H locs ls hP hD hS (lv_sub hl [0, 1] rfl) hf
      have hf := pu_br_neg hf hc
      exact lb_27 w5 v_disk_file_count v_disk_file_bytes x_1 H locs ls hP hD hS (lv_sub hl [0, 1] rfl) hf
  obtain ⟨H, hH⟩ : ∃ H, H = s.heap := ⟨_, rfl⟩
  obtain ⟨locs, hlocs⟩ : ∃ locs : List Loc, locs = [] := ⟨_, rfl⟩
  have hP : va_P D pu_cl [(q_this, .inr (7, [.ref q_draft, .ref q_now, .ref q_before, .ref q_disk, .ref q_row, .ref q_node, .ref q_tree, .ref q_check, .int v_up, .int v_armed])), (q_now, .inr (0, [.ref q_now_bytes, .int v_now_count])), (q_now_bytes, .inl (cB, 1536, .inl v_now_bytes)), (q_disk, .inr (4, [.ref q_disk_file, .ref q_disk_records, .ref q_disk_recorded, .ref q_disk_different, .int v_disk_headThere, .int v_disk_headPages, .int v_disk_headRecords])), (q_disk_file, .inr (0, [.ref q_disk_file_bytes, .int v_disk_file_count])), (q_disk_file_bytes, .inl (cB, 1536, .inl v_disk_file_bytes)), (q_disk_different, .inl (cZ, 25, .inl v_disk_different))] H := by rw [hH]; exact hP
  have hS : va_S A s.heap H locs := by rw [hH, hlocs]; exact hS
  have goal : W p l e rm_RF_writePages s m args below meth c H locs 0 0 Q (F0 m 0 ls []) := by
    clear hH hlocs
    refine lv_iconst (v := 1) hx hb d_RF_writePages_0 rfl ?_
    refine lv_istore_n hx hb d_RF_writePages_1 rfl hl (by decide) rfl (fun ls hl => ?_)
    have hl : lv_has ls 2 [(1, .int (1 : Int32)), (0, .ref q_this)] := hl
    exact lp_2 _ v_armed v_disk_file_count v_disk_file_bytes (1 : Int32) H locs ls hP hD hS (lv_sub hl [1, 0] rfl) hf
  rw [hH, hlocs] at goal
  exact goal
theorem d_RF_dropHead_0 : decode b_RF_dropHead 0 = .ok (.aload_n 0, 1) := by decide +kernel
theorem d_RF_dropHead_1 : decode b_RF_dropHead 1 = .ok (.invokevirtual 197, 3) := by decide +kernel
theorem d_RF_dropHead_4 : decode b_RF_dropHead 4 = .ok (.ifCond .eq 5, 3) := by decide +kernel
theorem d_RF_dropHead_7 : decode b_RF_dropHead 7 = .ok (.iconst 0, 1) := by decide +kernel
theorem d_RF_dropHead_8 : decode b_RF_dropHead 8 = .ok (.ireturn, 1) := by decide +kernel
theorem d_RF_dropHead_9 : decode b_RF_dropHead 9 = .ok (.aload_n 0, 1) := by decide +kernel
theorem d_RF_dropHead_10 : decode b_RF_dropHead 10 = .ok (.getfield 29, 3) := by decide +kernel
theorem d_RF_dropHead_13 : decode b_RF_dropHead 13 = .ok (.iconst 0, 1) := by decide +kernel
theorem d_RF_dropHead_14 : decode b_RF_dropHead 14 = .ok (.putfield 177, 3) := by decide +kernel
theorem d_RF_dropHead_17 : decode b_RF_dropHead 17 = .ok (.iconst 1, 1) := by decide +kernel
theorem d_RF_dropHead_18 : decode b_RF_dropHead 18 = .ok (.ireturn, 1) := by decide +kernel
noncomputable def f_RF_dropHead (v_armed : Int32) (v_disk_headThere : Int32) : Option (Int32 × Int32 × Int32) :=
  pu_b2 (f_RF_writeFails v_armed) (fun r1 w2 => pu_br (r1 = 0) (some ((1 : Int32), w2, (0 : Int32))) (some ((0 : Int32), w2, v_disk_headThere)))
abbrev rm_RF_dropHead : Room := { frames := 1, cells := 0, slots := 0, locals := 20 }
set_option maxHeartbeats 8000000 in
set_option maxRecDepth 100000 in
theorem c_RF_dropHead (l : Launch) (D : va_G) (cI cJ cB cZ : ClassId) (sz : Nat) (q_this : Nat) (q_draft : Nat) (q_now : Nat) (q_before : Nat) (q_disk : Nat) (q_row : Nat) (q_node : Nat) (q_tree : Nat) (q_check : Nat) (q_disk_file : Nat) (q_disk_records : Nat) (q_disk_recorded : Nat) (q_disk_different : Nat) (v_up : Int32) (v_armed : Int32) (v_disk_headThere : Int32) (v_disk_headPages : Int32) (v_disk_headRecords : Int32) (o_r : Int32) (o_armed : Int32) (o_disk_headThere : Int32) (hf : f_RF_dropHead v_armed v_disk_headThere = some (o_r, o_armed, o_disk_headThere)) : Met l y_RF_dropHead (.code y_RF_dropHead b_RF_dropHead 1 (some .boolean) :: pu_wA) rm_RF_dropHead (pu_pc D pu_cl (pu_ty cI cJ cB cZ) [.ref q_this] [(q_this, .inr (7, [.ref q_draft, .ref q_now, .ref q_before, .ref q_disk, .ref q_row, .ref q_node, .ref q_tree, .ref q_check, .int v_up, .int v_armed])), (q_disk, .inr (4, [.ref q_disk_file, .ref q_disk_records, .ref q_disk_recorded, .ref q_disk_different, .int v_disk_headThere, .int v_disk_headPages, .int v_disk_headRecords]))] sz) (pu_qi D pu_cl (pu_ty cI cJ cB cZ) [(q_this, .inr (7, [.ref q_draft, .ref q_now, .ref q_before, .ref q_disk, .ref q_row, .ref q_node, .ref q_tree, .ref q_check, .int v_up, .int v_armed])), (q_disk, .inr (4, [.ref q_disk_file, .ref q_disk_records, .ref q_disk_recorded, .ref q_disk_different, .int v_disk_headThere, .int v_disk_headPages, .int v_disk_headRecords]))] [(q_this, .inr (7, [.ref q_draft, .ref q_now, .ref q_before, .ref q_disk, .ref q_row, .ref q_node, .ref q_tree, .ref q_check, .int v_up, .int o_armed])), (q_disk, .inr (4, [.ref q_disk_file, .ref q_disk_records, .ref q_disk_recorded, .ref q_disk_different, .int o_disk_headThere, .int v_disk_headPages, .int v_disk_headRecords]))] sz o_r) 0 0 (va_A [(q_this, .inr (7, [.ref q_draft, .ref q_now, .ref q_before, .ref q_disk, .ref q_row, .ref q_node, .ref q_tree, .ref q_check, .int v_up, .int v_armed])), (q_disk, .inr (4, [.ref q_disk_file, .ref q_disk_records, .ref q_disk_recorded, .ref q_disk_different, .int v_disk_headThere, .int v_disk_headPages, .int v_disk_headRecords]))] sz) := by
  refine pu_mtz [.ref q_this] [(q_this, .inr (7, [.ref q_draft, .ref q_now, .ref q_before, .ref q_disk, .ref q_row, .ref q_node, .ref q_tree, .ref q_check, .int v_up, .int v_armed])), (q_disk, .inr (4, [.ref q_disk_file, .ref q_disk_records, .ref q_disk_recorded, .ref q_disk_different, .int v_disk_headThere, .int v_disk_headPages, .int v_disk_headRecords]))] [(q_this, .inr (7, [.ref q_draft, .ref q_now, .ref q_before, .ref q_disk, .ref q_row, .ref q_node, .ref q_tree, .ref q_check, .int v_up, .int o_armed])), (q_disk, .inr (4, [.ref q_disk_file, .ref q_disk_records, .ref q_disk_recorded, .ref q_disk_different, .int o_disk_headThere, .int v_disk_headPages, .int v_disk_headRecords]))] o_r (by decide) (Nat.le_of_ble_eq_true rfl) ?_
  intro p e s m args below meth c A Q ls hx hb hml hts hN hown hK hA hP hD hl hret0
  have hS : va_S A s.heap s.heap [] := va_S.rf
  have hl : lv_has ls 1 [(0, .ref q_this)] := hl
  have hret : ∀ (pc : Nat) (ls : Array Slot) (H : Heap) (locs : List Loc) (y_0 : Int32) (y_1 : Int32) (y_2 : Int32), decode b_RF_dropHead pc = .ok (.ireturn, 1) → narrow .boolean (.int y_0) = .int y_0 → va_P D pu_cl [(q_this, .inr (7, [.ref q_draft, .ref q_now, .ref q_before, .ref q_disk, .ref q_row, .ref q_node, .ref q_tree, .ref q_check, .int v_up, .int y_1])), (q_disk, .inr (4, [.ref q_disk_file, .ref q_disk_records, .ref q_disk_recorded, .ref q_disk_different, .int y_2, .int v_disk_headPages, .int v_disk_headRecords]))] H → va_D A [(q_this, .inr (7, [.ref q_draft, .ref q_now, .ref q_before, .ref q_disk, .ref q_row, .ref q_node, .ref q_tree, .ref q_check, .int v_up, .int y_1])), (q_disk, .inr (4, [.ref q_disk_file, .ref q_disk_records, .ref q_disk_recorded, .ref q_disk_different, .int y_2, .int v_disk_headPages, .int v_disk_headRecords]))] → va_S A s.heap H locs → some (y_0, y_1, y_2) = some (o_r, o_armed, o_disk_headThere) → W p l e rm_RF_dropHead s m args below meth c H locs 0 0 Q (F0 m pc ls [.int y_0]) := by
    intro pc ls H locs y_0 y_1 y_2 hd hz hP hD hS hf
    cases hf
    exact hret0 pc ls H locs hd hz hP hD hS
  clear hret0
  unfold f_RF_dropHead at hf
  skip
  obtain ⟨H, hH⟩ : ∃ H, H = s.heap := ⟨_, rfl⟩
  obtain ⟨locs, hlocs⟩ : ∃ locs : List Loc, locs = [] := ⟨_, rfl⟩
  have hP : va_P D pu_cl [(q_this, .inr (7, [.ref q_draft, .ref q_now, .ref q_before, .ref q_disk, .ref q_row, .ref q_node, .ref q_tree, .ref q_check, .int v_up, .int v_armed])), (q_disk, .inr (4, [.ref q_disk_file, .ref q_disk_records, .ref q_disk_recorded, .ref q_disk_different, .int v_disk_headThere, .int v_disk_headPages, .int v_disk_headRecords]))] H := by rw [hH]; exact hP
  have hS : va_S A s.heap H locs := by rw [hH, hlocs]; exact hS
  have goal : W p l e rm_RF_dropHead s m args below meth c H locs 0 0 Q (F0 m 0 ls []) := by
    clear hH hlocs
    refine lv_aload_n hx hb d_RF_dropHead_0 rfl (lv_at hl 0 rfl) ?_
    obtain ⟨r1, w2, hc, hf⟩ := pu_b2_some hf
    refine cl_i (WC := [(q_this, .inr (7, [.ref q_draft, .ref q_now, .ref q_before, .ref q_disk, .ref q_row, .ref q_node, .ref q_tree, .ref q_check, .int v_up, .int v_armed]))]) (WC2 := [(q_this, .inr (7, [.ref q_draft, .ref q_now, .ref q_before, .ref q_disk, .ref q_row, .ref q_node, .ref q_tree, .ref q_check, .int v_up, .int w2]))]) (WR := [(q_disk, .inr (4, [.ref q_disk_file, .ref q_disk_records, .ref q_disk_recorded, .ref q_disk_different, .int v_disk_headThere, .int v_disk_headPages, .int v_disk_headRecords]))]) (WS2 := [(q_this, .inr (7, [.ref q_draft, .ref q_now, .ref q_before, .ref q_disk, .ref q_row, .ref q_node, .ref q_tree, .ref q_check, .int v_up, .int w2])), (q_disk, .inr (4, [.ref q_disk_file, .ref q_disk_records, .ref q_disk_recorded, .ref q_disk_different, .int v_disk_headThere, .int v_disk_headPages, .int v_disk_headRecords]))]) (pu_rv (cl := pu_cl) (pu_in6 _ (List.mem_of_getElem? (i := 15) rfl)) (pu_in6 _ (List.mem_of_getElem? (i := 16) rfl)) (pu_in13 _ (List.mem_of_getElem? (i := 57) rfl)) (pu_in0 _ (List.mem_of_getElem? (i := 1) rfl)) (pu_in6 _ (List.mem_of_getElem? (i := 17) rfl)) (ci := 7) rfl hd_RF_writeFails (by decide) ⟨rfl, rfl⟩ rfl rfl (Nat.le_of_ble_eq_true rfl) rfl (As := []) (rest := []) (WC := [(q_this, .inr (7, [.ref q_draft, .ref q_now, .ref q_before, .ref q_disk, .ref q_row, .ref q_node, .ref q_tree, .ref q_check, .int v_up, .int v_armed]))]) hx hb hml hown hts hN hK hP hD (c_RF_writeFails l D cI cJ cB cZ H.size q_this q_draft q_now q_before q_disk q_row q_node q_tree q_check v_up v_armed r1 w2 hc) [0] rfl rfl hl.1 d_RF_dropHead_1) hP hD hS hA [0] [1] [1, 0] rfl rfl rfl (by decide) rfl rfl (fun H locs hP hD hS => ?_)
    refine lv_if_eq (tgt := 9) hx hb d_RF_dropHead_4 rfl (fun hc => ?_) (fun hc => ?_)
    · have hf := pu_br_pos hf hc
      refine lv_aload_n hx hb d_RF_dropHead_9 rfl (lv_at hl 0 rfl) ?_
      refine gf_RF_29 (v := .ref q_disk) hx hb hts hN hown hK hP 0 rfl rfl d_RF_dropHead_10 ?_
      refine lv_iconst (v := 0) hx hb d_RF_dropHead_13 rfl ?_
      refine pf_RF_177 (v := .int (0 : Int32)) hx hb hts hN hown hK hP hD hS 1 rfl (by decide) (by decide) (Nat.le_of_ble_eq_true rfl) d_RF_dropHead_14 (fun H locs hP hD hS => ?_)
      have hP : va_P D pu_cl [(q_this, .inr (7, [.ref q_draft, .ref q_now, .ref q_before, .ref q_disk, .ref q_row, .ref q_node, .ref q_tree, .ref q_check, .int v_up, .int w2])), (q_disk, .inr (4, [.ref q_disk_file, .ref q_disk_records, .ref q_disk_recorded, .ref q_disk_different, .int (0 : Int32), .int v_disk_headPages, .int v_disk_headRecords]))] H := hP
      have hD : va_D A [(q_this, .inr (7, [.ref q_draft, .ref q_now, .ref q_before, .ref q_disk, .ref q_row, .ref q_node, .ref q_tree, .ref q_check, .int v_up, .int w2])), (q_disk, .inr (4, [.ref q_disk_file, .ref q_disk_records, .ref q_disk_recorded, .ref q_disk_different, .int (0 : Int32), .int v_disk_headPages, .int v_disk_headRecords]))] := hD
      refine lv_iconst (v := 1) hx hb d_RF_dropHead_17 rfl ?_
      exact hret _ _ _ _ (1 : Int32) w2 (0 : Int32) d_RF_dropHead_18 (by decide) hP hD hS hf
    have hf := pu_br_neg hf hc
    refine lv_iconst (v := 0) hx hb d_RF_dropHead_7 rfl ?_
    exact hret _ _ _ _ (0 : Int32) w2 v_disk_headThere d_RF_dropHead_8 (by decide) hP hD hS hf
  rw [hH, hlocs] at goal
  exact goal
theorem d_RF_goDown_0 : decode b_RF_goDown 0 = .ok (.aload_n 0, 1) := by decide +kernel
theorem d_RF_goDown_1 : decode b_RF_goDown 1 = .ok (.iconst 0, 1) := by decide +kernel
theorem d_RF_goDown_2 : decode b_RF_goDown 2 = .ok (.putfield 66, 3) := by decide +kernel
theorem d_RF_goDown_5 : decode b_RF_goDown 5 = .ok (.aload_n 0, 1) := by decide +kernel
theorem d_RF_goDown_6 : decode b_RF_goDown 6 = .ok (.iconst (-1), 1) := by decide +kernel
theorem d_RF_goDown_7 : decode b_RF_goDown 7 = .ok (.putfield 70, 3) := by decide +kernel
theorem d_RF_goDown_10 : decode b_RF_goDown 10 = .ok (.return_, 1) := by decide +kernel
noncomputable def f_RF_goDown (v_up : Int32) (v_armed : Int32) : Option (Int32 × Int32) :=
  some ((0 : Int32), (-1 : Int32))
abbrev rm_RF_goDown : Room := { frames := 0, cells := 0, slots := 0, locals := 0 }
set_option maxHeartbeats 8000000 in
set_option maxRecDepth 100000 in
theorem c_RF_goDown (l : Launch) (D : va_G) (cI cJ cB cZ : ClassId) (sz : Nat) (q_this : Nat) (q_draft : Nat) (q_now : Nat) (q_before : Nat) (q_disk : Nat) (q_row : Nat) (q_node : Nat) (q_tree : Nat) (q_check : Nat) (v_up : Int32) (v_armed : Int32) (o_up : Int32) (o_armed : Int32) (hf : f_RF_goDown v_up v_armed = some (o_up, o_armed)) : Met l y_RF_goDown (.code y_RF_goDown b_RF_goDown 1 none :: pu_wA) rm_RF_goDown (pu_pc D pu_cl (pu_ty cI cJ cB cZ) [.ref q_this] [(q_this, .inr (7, [.ref q_draft, .ref q_now, .ref q_before, .ref q_disk, .ref q_row, .ref q_node, .ref q_tree, .ref q_check, .int v_up, .int v_armed]))] sz) (pu_qv D pu_cl (pu_ty cI cJ cB cZ) [(q_this, .inr (7, [.ref q_draft, .ref q_now, .ref q_before, .ref q_disk, .ref q_row, .ref q_node, .ref q_tree, .ref q_check, .int v_up, .int v_armed]))] [(q_this, .inr (7, [.ref q_draft, .ref q_now, .ref q_before, .ref q_disk, .ref q_row, .ref q_node, .ref q_tree, .ref q_check, .int o_up, .int o_armed]))] sz) 0 0 (va_A [(q_this, .inr (7, [.ref q_draft, .ref q_now, .ref q_before, .ref q_disk, .ref q_row, .ref q_node, .ref q_tree, .ref q_check, .int v_up, .int v_armed]))] sz) := by
  refine pu_mtv [.ref q_this] [(q_this, .inr (7, [.ref q_draft, .ref q_now, .ref q_before, .ref q_disk, .ref q_row, .ref q_node, .ref q_tree, .ref q_check, .int v_up, .int v_armed]))] [(q_this, .inr (7, [.ref q_draft, .ref q_now, .ref q_before, .ref q_disk, .ref q_row, .ref q_node, .ref q_tree, .ref q_check, .int o_up, .int o_armed]))] (by decide) (Nat.le_of_ble_eq_true rfl) ?_
  intro p e s m args below meth c A Q ls hx hb hml hts hN hown hK hA hP hD hl hret0
  have hS : va_S A s.heap s.heap [] := va_S.rf
  have hl : lv_has ls 1 [(0, .ref q_this)] := hl
  have hret : ∀ (pc : Nat) (ls : Array Slot) (H : Heap) (locs : List Loc) (y_0 : Int32) (y_1 : Int32), decode b_RF_goDown pc = .ok (.return_, 1) → va_P D pu_cl [(q_this, .inr (7, [.ref q_draft, .ref q_now, .ref q_before, .ref q_disk, .ref q_row, .ref q_node, .ref q_tree, .ref q_check, .int y_0, .int y_1]))] H → va_D A [(q_this, .inr (7, [.ref q_draft, .ref q_now, .ref q_before, .ref q_disk, .ref q_row, .ref q_node, .ref q_tree, .ref q_check, .int y_0, .int y_1]))] → va_S A s.heap H locs → some (y_0, y_1) = some (o_up, o_armed) → W p l e rm_RF_goDown s m args below meth c H locs 0 0 Q (F0 m pc ls []) := by
    intro pc ls H locs y_0 y_1 hd hP hD hS hf
    cases hf
    exact hret0 pc ls H locs hd hP hD hS
  clear hret0
  unfold f_RF_goDown at hf
  skip
  obtain ⟨H, hH⟩ : ∃ H, H = s.heap := ⟨_, rfl⟩
  obtain ⟨locs, hlocs⟩ : ∃ locs : List Loc, locs = [] := ⟨_, rfl⟩
  have hP : va_P D pu_cl [(q_this, .inr (7, [.ref q_draft, .ref q_now, .ref q_before, .ref q_disk, .ref q_row, .ref q_node, .ref q_tree, .ref q_check, .int v_up, .int v_armed]))] H := by rw [hH]; exact hP
  have hS : va_S A s.heap H locs := by rw [hH, hlocs]; exact hS
  have goal : W p l e rm_RF_goDown s m args below meth c H locs 0 0 Q (F0 m 0 ls []) := by
    clear hH hlocs
    refine lv_aload_n hx hb d_RF_goDown_0 rfl (lv_at hl 0 rfl) ?_
    refine lv_iconst (v := 0) hx hb d_RF_goDown_1 rfl ?_
    refine pf_RF_66 (v := .int (0 : Int32)) hx hb hts hN hown hK hP hD hS 0 rfl (by decide) (by decide) (Nat.le_of_ble_eq_true rfl) d_RF_goDown_2 (fun H locs hP hD hS => ?_)
    have hP : va_P D pu_cl [(q_this, .inr (7, [.ref q_draft, .ref q_now, .ref q_before, .ref q_disk, .ref q_row, .ref q_node, .ref q_tree, .ref q_check, .int (0 : Int32), .int v_armed]))] H := hP
    have hD : va_D A [(q_this, .inr (7, [.ref q_draft, .ref q_now, .ref q_before, .ref q_disk, .ref q_row, .ref q_node, .ref q_tree, .ref q_check, .int (0 : Int32), .int v_armed]))] := hD
    refine lv_aload_n hx hb d_RF_goDown_5 rfl (lv_at hl 0 rfl) ?_
    refine lv_iconst (v := -1) hx hb d_RF_goDown_6 rfl ?_
    refine pf_RF_70 (v := .int (-1 : Int32)) hx hb hts hN hown hK hP hD hS 0 rfl rfl rfl (Nat.le_of_ble_eq_true rfl) d_RF_goDown_7 (fun H locs hP hD hS => ?_)
    have hP : va_P D pu_cl [(q_this, .inr (7, [.ref q_draft, .ref q_now, .ref q_before, .ref q_disk, .ref q_row, .ref q_node, .ref q_tree, .ref q_check, .int (0 : Int32), .int (-1 : Int32)]))] H := hP
    have hD : va_D A [(q_this, .inr (7, [.ref q_draft, .ref q_now, .ref q_before, .ref q_disk, .ref q_row, .ref q_node, .ref q_tree, .ref q_check, .int (0 : Int32), .int (-1 : Int32)]))] := hD
    exact hret _ _ _ _ (0 : Int32) (-1 : Int32) d_RF_goDown_10 hP hD hS hf
  rw [hH, hlocs] at goal
  exact goal
theorem d_RF_commit_0 : decode b_RF_commit 0 = .ok (.aload_n 0, 1) := by decide +kernel
theorem d_RF_commit_1 : decode b_RF_commit 1 = .ok (.getfield 66, 3) := by decide +kernel
theorem d_RF_commit_4 : decode b_RF_commit 4 = .ok (.ifCond .ne 6, 3) := by decide +kernel
theorem d_RF_commit_7 : decode b_RF_commit 7 = .ok (.bipush (-3), 2) := by decide +kernel
theorem d_RF_commit_9 : decode b_RF_commit 9 = .ok (.ireturn, 1) := by decide +kernel
theorem d_RF_commit_10 : decode b_RF_commit 10 = .ok (.aload_n 0, 1) := by decide +kernel
theorem d_RF_commit_11 : decode b_RF_commit 11 = .ok (.getfield 29, 3) := by decide +kernel
theorem d_RF_commit_14 : decode b_RF_commit 14 = .ok (.aload_n 0, 1) := by decide +kernel
theorem d_RF_commit_15 : decode b_RF_commit 15 = .ok (.getfield 19, 3) := by decide +kernel
theorem d_RF_commit_18 : decode b_RF_commit 18 = .ok (.invokevirtual 111, 3) := by decide +kernel
theorem d_RF_commit_21 : decode b_RF_commit 21 = .ok (.ifCond .ne 5, 3) := by decide +kernel
theorem d_RF_commit_24 : decode b_RF_commit 24 = .ok (.iconst 0, 1) := by decide +kernel
theorem d_RF_commit_25 : decode b_RF_commit 25 = .ok (.ireturn, 1) := by decide +kernel
theorem d_RF_commit_26 : decode b_RF_commit 26 = .ok (.aload_n 0, 1) := by decide +kernel
theorem d_RF_commit_27 : decode b_RF_commit 27 = .ok (.getfield 19, 3) := by decide +kernel
theorem d_RF_commit_30 : decode b_RF_commit 30 = .ok (.invokevirtual 115, 3) := by decide +kernel
theorem d_RF_commit_33 : decode b_RF_commit 33 = .ok (.aload_n 0, 1) := by decide +kernel
theorem d_RF_commit_34 : decode b_RF_commit 34 = .ok (.getfield 29, 3) := by decide +kernel
theorem d_RF_commit_37 : decode b_RF_commit 37 = .ok (.aload_n 0, 1) := by decide +kernel
theorem d_RF_commit_38 : decode b_RF_commit 38 = .ok (.getfield 19, 3) := by decide +kernel
theorem d_RF_commit_41 : decode b_RF_commit 41 = .ok (.invokevirtual 111, 3) := by decide +kernel
theorem d_RF_commit_44 : decode b_RF_commit 44 = .ok (.istore_n 1, 1) := by decide +kernel
theorem d_RF_commit_45 : decode b_RF_commit 45 = .ok (.aload_n 0, 1) := by decide +kernel
theorem d_RF_commit_46 : decode b_RF_commit 46 = .ok (.invokevirtual 118, 3) := by decide +kernel
theorem d_RF_commit_49 : decode b_RF_commit 49 = .ok (.ifCond .eq 26, 3) := by decide +kernel
theorem d_RF_commit_52 : decode b_RF_commit 52 = .ok (.aload_n 0, 1) := by decide +kernel
theorem d_RF_commit_53 : decode b_RF_commit 53 = .ok (.invokevirtual 121, 3) := by decide +kernel
theorem d_RF_commit_56 : decode b_RF_commit 56 = .ok (.ifCond .eq 19, 3) := by decide +kernel
theorem d_RF_commit_59 : decode b_RF_commit 59 = .ok (.aload_n 0, 1) := by decide +kernel
theorem d_RF_commit_60 : decode b_RF_commit 60 = .ok (.invokevirtual 124, 3) := by decide +kernel
theorem d_RF_commit_63 : decode b_RF_commit 63 = .ok (.ifCond .eq 12, 3) := by decide +kernel
theorem d_RF_commit_66 : decode b_RF_commit 66 = .ok (.aload_n 0, 1) := by decide +kernel
theorem d_RF_commit_67 : decode b_RF_commit 67 = .ok (.invokevirtual 127, 3) := by decide +kernel
theorem d_RF_commit_70 : decode b_RF_commit 70 = .ok (.ifCond .eq 5, 3) := by decide +kernel
theorem d_RF_commit_73 : decode b_RF_commit 73 = .ok (.iload_n 1, 1) := by decide +kernel
theorem d_RF_commit_74 : decode b_RF_commit 74 = .ok (.ireturn, 1) := by decide +kernel
theorem d_RF_commit_75 : decode b_RF_commit 75 = .ok (.aload_n 0, 1) := by decide +kernel
theorem d_RF_commit_76 : decode b_RF_commit 76 = .ok (.invokevirtual 130, 3) := by decide +kernel
theorem d_RF_commit_79 : decode b_RF_commit 79 = .ok (.bipush (-3), 2) := by decide +kernel
theorem d_RF_commit_81 : decode b_RF_commit 81 = .ok (.ireturn, 1) := by decide +kernel
noncomputable def q_RF_commit_75 (v_now_count : Int32) (v_up : Int32) (v_armed : Int32) (v_now_bytes : Nat → Int32) (v_disk_headThere : Int32) (v_disk_headPages : Int32) (v_disk_headRecords : Int32) (v_disk_file_count : Int32) (v_disk_file_bytes : Nat → Int32) (v_disk_records_count : Int32) (v_disk_records_bytes : Nat → Int32) (v_disk_recorded : Nat → Int32) (v_disk_different : Nat → Int32) : Option (Int32 × Int32 × Int32 × (Nat → Int32) × Int32 × Int32 × Int32 × Int32 × (Nat → Int32) × Int32 × (Nat → Int32) × (Nat → Int32) × (Nat → Int32)) :=
  pu_b2 (f_RF_goDown v_up v_armed) (fun w14 w15 => some ((-3 : Int32), w14, w15, v_now_bytes, v_disk_headThere, v_disk_headPages, v_disk_headRecords, v_disk_file_count, v_disk_file_bytes, v_disk_records_count, v_disk_records_bytes, v_disk_recorded, v_disk_different))
noncomputable def f_RF_commit (v_now_count : Int32) (v_up : Int32) (v_armed : Int32) (v_now_bytes : Nat → Int32) (v_disk_headThere : Int32) (v_disk_headPages : Int32) (v_disk_headRecords : Int32) (v_disk_file_count : Int32) (v_disk_file_bytes : Nat → Int32) (v_disk_records_count : Int32) (v_disk_records_bytes : Nat → Int32) (v_disk_recorded : Nat → Int32) (v_disk_different : Nat → Int32) : Option (Int32 × Int32 × Int32 × (Nat → Int32) × Int32 × Int32 × Int32 × Int32 × (Nat → Int32) × Int32 × (Nat → Int32) × (Nat → Int32) × (Nat → Int32)) :=
  pu_br (v_up = 0) (some ((-3 : Int32), v_up, v_armed, v_now_bytes, v_disk_headThere, v_disk_headPages, v_disk_headRecords, v_disk_file_count, v_disk_file_bytes, v_disk_records_count, v_disk_records_bytes, v_disk_recorded, v_disk_different)) (pu_b2 (f_Disk_markDifferent v_disk_file_count v_disk_file_bytes v_now_count v_now_bytes v_disk_different) (fun r1 w2 => pu_br (r1 = 0) (some ((0 : Int32), v_up, v_armed, v_now_bytes, v_disk_headThere, v_disk_headPages, v_disk_headRecords, v_disk_file_count, v_disk_file_bytes, v_disk_records_count, v_disk_records_bytes, v_disk_recorded, w2)) (pu_b1 (f_Pages_countChange v_now_count v_now_bytes) (fun w4 => pu_b2 (f_Disk_markDifferent v_disk_file_count v_disk_file_bytes v_now_count w4 w2) (fun r5 w6 => pu_b6 (f_RF_writeRecords v_disk_file_count v_disk_file_bytes w6 v_armed v_disk_headRecords v_disk_records_count v_disk_records_bytes v_disk_recorded) (fun r7 w8 w9 w10 w11 w12 => pu_br (r7 = 0) (q_RF_commit_75 v_now_count v_up w8 w4 v_disk_headThere v_disk_headPages w9 v_disk_file_count v_disk_file_bytes w10 w11 w12 w6) (pu_b4 (f_RF_writeHead v_disk_file_count w8 v_disk_headThere v_disk_headPages) (fun r16 w17 w18 w19 => pu_br (r16 = 0) (q_RF_commit_75 v_now_count v_up w17 w4 w18 w19 w9 v_disk_file_count v_disk_file_bytes w10 w11 w12 w6) (pu_b4 (f_RF_writePages v_now_count w4 w6 w17 v_disk_file_count v_disk_file_bytes) (fun r20 w21 w22 w23 => pu_br (r20 = 0) (q_RF_commit_75 v_now_count v_up w21 w4 w18 w19 w9 w22 w23 w10 w11 w12 w6) (pu_b3 (f_RF_dropHead w21 w18) (fun r24 w25 w26 => pu_br (r24 = 0) (q_RF_commit_75 v_now_count v_up w25 w4 w26 w19 w9 w22 w23 w10 w11 w12 w6) (some (r5, v_up, w25, w4, w26, w19, w9, w22, w23, w10, w11, w12, w6))))))))))))))
abbrev rm_RF_commit : Room := { frames := 4, cells := 0, slots := 0, locals := 135 }
set_option maxHeartbeats 8000000 in
set_option maxRecDepth 100000 in
theorem c_RF_commit (l : Launch) (D : va_G) (cI cJ cB cZ : ClassId) (sz : Nat) (q_this : Nat) (q_draft : Nat) (q_now : Nat) (q_before : Nat) (q_disk : Nat) (q_row : Nat) (q_node : Nat) (q_tree : Nat) (q_check : Nat) (q_now_bytes : Nat) (q_disk_file : Nat) (q_disk_records : Nat) (q_disk_recorded : Nat) (q_disk_different : Nat) (q_disk_file_bytes : Nat) (q_disk_records_bytes : Nat) (v_up : Int32) (v_armed : Int32) (v_now_count : Int32) (v_now_bytes : Nat → Int32) (v_disk_headThere : Int32) (v_disk_headPages : Int32) (v_disk_headRecords : Int32) (v_disk_file_count : Int32) (v_disk_file_bytes : Nat → Int32) (v_disk_records_count : Int32) (v_disk_records_bytes : Nat → Int32) (v_disk_recorded : Nat → Int32) (v_disk_different : Nat → Int32) (o_r : Int32) (o_up : Int32) (o_armed : Int32) (o_now_bytes : Nat → Int32) (o_disk_headThere : Int32) (o_disk_headPages : Int32) (o_disk_headRecords : Int32) (o_disk_file_count : Int32) (o_disk_file_bytes : Nat → Int32) (o_disk_records_count : Int32) (o_disk_records_bytes : Nat → Int32) (o_disk_recorded : Nat → Int32) (o_disk_different : Nat → Int32) (hf : f_RF_commit v_now_count v_up v_armed v_now_bytes v_disk_headThere v_disk_headPages v_disk_headRecords v_disk_file_count v_disk_file_bytes v_disk_records_count v_disk_records_bytes v_disk_recorded v_disk_different = some (o_r, o_up, o_armed, o_now_bytes, o_disk_headThere, o_disk_headPages, o_disk_headRecords, o_disk_file_count, o_disk_file_bytes, o_disk_records_count, o_disk_records_bytes, o_disk_recorded, o_disk_different)) : Met l y_RF_commit (.code y_RF_commit b_RF_commit 2 (some .int) :: pu_wA) rm_RF_commit (pu_pc D pu_cl (pu_ty cI cJ cB cZ) [.ref q_this] [(q_this, .inr (7, [.ref q_draft, .ref q_now, .ref q_before, .ref q_disk, .ref q_row, .ref q_node, .ref q_tree, .ref q_check, .int v_up, .int v_armed])), (q_now, .inr (0, [.ref q_now_bytes, .int v_now_count])), (q_now_bytes, .inl (cB, 1536, .inl v_now_bytes)), (q_disk, .inr (4, [.ref q_disk_file, .ref q_disk_records, .ref q_disk_recorded, .ref q_disk_different, .int v_disk_headThere, .int v_disk_headPages, .int v_disk_headRecords])), (q_disk_file, .inr (0, [.ref q_disk_file_bytes, .int v_disk_file_count])), (q_disk_file_bytes, .inl (cB, 1536, .inl v_disk_file_bytes)), (q_disk_records, .inr (0, [.ref q_disk_records_bytes, .int v_disk_records_count])), (q_disk_records_bytes, .inl (cB, 1536, .inl v_disk_records_bytes)), (q_disk_recorded, .inl (cZ, 25, .inl v_disk_recorded)), (q_disk_different, .inl (cZ, 25, .inl v_disk_different))] sz) (pu_qi D pu_cl (pu_ty cI cJ cB cZ) [(q_this, .inr (7, [.ref q_draft, .ref q_now, .ref q_before, .ref q_disk, .ref q_row, .ref q_node, .ref q_tree, .ref q_check, .int v_up, .int v_armed])), (q_now, .inr (0, [.ref q_now_bytes, .int v_now_count])), (q_now_bytes, .inl (cB, 1536, .inl v_now_bytes)), (q_disk, .inr (4, [.ref q_disk_file, .ref q_disk_records, .ref q_disk_recorded, .ref q_disk_different, .int v_disk_headThere, .int v_disk_headPages, .int v_disk_headRecords])), (q_disk_file, .inr (0, [.ref q_disk_file_bytes, .int v_disk_file_count])), (q_disk_file_bytes, .inl (cB, 1536, .inl v_disk_file_bytes)), (q_disk_records, .inr (0, [.ref q_disk_records_bytes, .int v_disk_records_count])), (q_disk_records_bytes, .inl (cB, 1536, .inl v_disk_records_bytes)), (q_disk_recorded, .inl (cZ, 25, .inl v_disk_recorded)), (q_disk_different, .inl (cZ, 25, .inl v_disk_different))] [(q_this, .inr (7, [.ref q_draft, .ref q_now, .ref q_before, .ref q_disk, .ref q_row, .ref q_node, .ref q_tree, .ref q_check, .int o_up, .int o_armed])), (q_now, .inr (0, [.ref q_now_bytes, .int v_now_count])), (q_now_bytes, .inl (cB, 1536, .inl o_now_bytes)), (q_disk, .inr (4, [.ref q_disk_file, .ref q_disk_records, .ref q_disk_recorded, .ref q_disk_different, .int o_disk_headThere, .int o_disk_headPages, .int o_disk_headRecords])), (q_disk_file, .inr (0, [.ref q_disk_file_bytes, .int o_disk_file_count])), (q_disk_file_bytes, .inl (cB, 1536, .inl o_disk_file_bytes)), (q_disk_records, .inr (0, [.ref q_disk_records_bytes, .int o_disk_records_count])), (q_disk_records_bytes, .inl (cB, 1536, .inl o_disk_records_bytes)), (q_disk_recorded, .inl (cZ, 25, .inl o_disk_recorded)), (q_disk_different, .inl (cZ, 25, .inl o_disk_different))] sz o_r) 0 0 (va_A [(q_this, .inr (7, [.ref q_draft, .ref q_now, .ref q_before, .ref q_disk, .ref q_row, .ref q_node, .ref q_tree, .ref q_check, .int v_up, .int v_armed])), (q_now, .inr (0, [.ref q_now_bytes, .int v_now_count])), (q_now_bytes, .inl (cB, 1536, .inl v_now_bytes)), (q_disk, .inr (4, [.ref q_disk_file, .ref q_disk_records, .ref q_disk_recorded, .ref q_disk_different, .int v_disk_headThere, .int v_disk_headPages, .int v_disk_headRecords])), (q_disk_file, .inr (0, [.ref q_disk_file_bytes, .int v_disk_file_count])), (q_disk_file_bytes, .inl (cB, 1536, .inl v_disk_file_bytes)), (q_disk_records, .inr (0, [.ref q_disk_records_bytes, .int v_disk_records_count])), (q_disk_records_bytes, .inl (cB, 1536, .inl v_disk_records_bytes)), (q_disk_recorded, .inl (cZ, 25, .inl v_disk_recorded)), (q_disk_different, .inl (cZ, 25, .inl v_disk_different))] sz) := by
  refine pu_mti [.ref q_this] [(q_this, .inr (7, [.ref q_draft, .ref q_now, .ref q_before, .ref q_disk, .ref q_row, .ref q_node, .ref q_tree, .ref q_check, .int v_up, .int v_armed])), (q_now, .inr (0, [.ref q_now_bytes, .int v_now_count])), (q_now_bytes, .inl (cB, 1536, .inl v_now_bytes)), (q_disk, .inr (4, [.ref q_disk_file, .ref q_disk_records, .ref q_disk_recorded, .ref q_disk_different, .int v_disk_headThere, .int v_disk_headPages, .int v_disk_headRecords])), (q_disk_file, .inr (0, [.ref q_disk_file_bytes, .int v_disk_file_count])), (q_disk_file_bytes, .inl (cB, 1536, .inl v_disk_file_bytes)), (q_disk_records, .inr (0, [.ref q_disk_records_bytes, .int v_disk_records_count])), (q_disk_records_bytes, .inl (cB, 1536, .inl v_disk_records_bytes)), (q_disk_recorded, .inl (cZ, 25, .inl v_disk_recorded)), (q_disk_different, .inl (cZ, 25, .inl v_disk_different))] [(q_this, .inr (7, [.ref q_draft, .ref q_now, .ref q_before, .ref q_disk, .ref q_row, .ref q_node, .ref q_tree, .ref q_check, .int o_up, .int o_armed])), (q_now, .inr (0, [.ref q_now_bytes, .int v_now_count])), (q_now_bytes, .inl (cB, 1536, .inl o_now_bytes)), (q_disk, .inr (4, [.ref q_disk_file, .ref q_disk_records, .ref q_disk_recorded, .ref q_disk_different, .int o_disk_headThere, .int o_disk_headPages, .int o_disk_headRecords])), (q_disk_file, .inr (0, [.ref q_disk_file_bytes, .int o_disk_file_count])), (q_disk_file_bytes, .inl (cB, 1536, .inl o_disk_file_bytes)), (q_disk_records, .inr (0, [.ref q_disk_records_bytes, .int o_disk_records_count])), (q_disk_records_bytes, .inl (cB, 1536, .inl o_disk_records_bytes)), (q_disk_recorded, .inl (cZ, 25, .inl o_disk_recorded)), (q_disk_different, .inl (cZ, 25, .inl o_disk_different))] o_r (by decide) (Nat.le_of_ble_eq_true rfl) ?_
  intro p e s m args below meth c A Q ls hx hb hml hts hN hown hK hA hP hD hl hret0
  have hS : va_S A s.heap s.heap [] := va_S.rf
  have hl : lv_has ls 2 [(0, .ref q_this)] := hl
  have hret : ∀ (pc : Nat) (ls : Array Slot) (H : Heap) (locs : List Loc) (y_0 : Int32) (y_1 : Int32) (y_2 : Int32) (y_3 : Nat → Int32) (y_4 : Int32) (y_5 : Int32) (y_6 : Int32) (y_7 : Int32) (y_8 : Nat → Int32) (y_9 : Int32) (y_10 : Nat → Int32) (y_11 : Nat → Int32) (y_12 : Nat → Int32), decode b_RF_commit pc = .ok (.ireturn, 1) → va_P D pu_cl [(q_this, .inr (7, [.ref q_draft, .ref q_now, .ref q_before, .ref q_disk, .ref q_row, .ref q_node, .ref q_tree, .ref q_check, .int y_1, .int y_2])), (q_now, .inr (0, [.ref q_now_bytes, .int v_now_count])), (q_now_bytes, .inl (cB, 1536, .inl y_3)), (q_disk, .inr (4, [.ref q_disk_file, .ref q_disk_records, .ref q_disk_recorded, .ref q_disk_different, .int y_4, .int y_5, .int y_6])), (q_disk_file, .inr (0, [.ref q_disk_file_bytes, .int y_7])), (q_disk_file_bytes, .inl (cB, 1536, .inl y_8)), (q_disk_records, .inr (0, [.ref q_disk_records_bytes, .int y_9])), (q_disk_records_bytes, .inl (cB, 1536, .inl y_10)), (q_disk_recorded, .inl (cZ, 25, .inl y_11)), (q_disk_different, .inl (cZ, 25, .inl y_12))] H → va_D A [(q_this, .inr (7, [.ref q_draft, .ref q_now, .ref q_before, .ref q_disk, .ref q_row, .ref q_node, .ref q_tree, .ref q_check, .int y_1, .int y_2])), (q_now, .inr (0, [.ref q_now_bytes, .int v_now_count])), (q_now_bytes, .inl (cB, 1536, .inl y_3)), (q_disk, .inr (4, [.ref q_disk_file, .ref q_disk_records, .ref q_disk_recorded, .ref q_disk_different, .int y_4, .int y_5, .int y_6])), (q_disk_file, .inr (0, [.ref q_disk_file_bytes, .int y_7])), (q_disk_file_bytes, .inl (cB, 1536, .inl y_8)), (q_disk_records, .inr (0, [.ref q_disk_records_bytes, .int y_9])), (q_disk_records_bytes, .inl (cB, 1536, .inl y_10)), (q_disk_recorded, .inl (cZ, 25, .inl y_11)), (q_disk_different, .inl (cZ, 25, .inl y_12))] → va_S A s.heap H locs → some (y_0, y_1, y_2, y_3, y_4, y_5, y_6, y_7, y_8, y_9, y_10, y_11, y_12) = some (o_r, o_up, o_armed, o_now_bytes, o_disk_headThere, o_disk_headPages, o_disk_headRecords, o_disk_file_count, o_disk_file_bytes, o_disk_records_count, o_disk_records_bytes, o_disk_recorded, o_disk_different) → W p l e rm_RF_commit s m args below meth c H locs 0 0 Q (F0 m pc ls [.int y_0]) := by
    intro pc ls H locs y_0 y_1 y_2 y_3 y_4 y_5 y_6 y_7 y_8 y_9 y_10 y_11 y_12 hd hP hD hS hf
    cases hf
    exact hret0 pc ls H locs hd hP hD hS
  clear hret0
  unfold f_RF_commit at hf
  skip
  have lb_75 : ∀ (v_up : Int32) (v_armed : Int32) (v_now_bytes : Nat → Int32) (v_disk_headThere : Int32) (v_disk_headPages : Int32) (v_disk_headRecords : Int32) (v_disk_file_count : Int32) (v_disk_file_bytes : Nat → Int32) (v_disk_records_count : Int32) (v_disk_records_bytes : Nat → Int32) (v_disk_recorded : Nat → Int32) (v_disk_different : Nat → Int32) (H : Heap) (locs : List Loc) (ls : Array Slot), va_P D pu_cl [(q_this, .inr (7, [.ref q_draft, .ref q_now, .ref q_before, .ref q_disk, .ref q_row, .ref q_node, .ref q_tree, .ref q_check, .int v_up, .int v_armed])), (q_now, .inr (0, [.ref q_now_bytes, .int v_now_count])), (q_now_bytes, .inl (cB, 1536, .inl v_now_bytes)), (q_disk, .inr (4, [.ref q_disk_file, .ref q_disk_records, .ref q_disk_recorded, .ref q_disk_different, .int v_disk_headThere, .int v_disk_headPages, .int v_disk_headRecords])), (q_disk_file, .inr (0, [.ref q_disk_file_bytes, .int v_disk_file_count])), (q_disk_file_bytes, .inl (cB, 1536, .inl v_disk_file_bytes)), (q_disk_records, .inr (0, [.ref q_disk_records_bytes, .int v_disk_records_count])), (q_disk_records_bytes, .inl (cB, 1536, .inl v_disk_records_bytes)), (q_disk_recorded, .inl (cZ, 25, .inl v_disk_recorded)), (q_disk_different, .inl (cZ, 25, .inl v_disk_different))] H → va_D A [(q_this, .inr (7, [.ref q_draft, .ref q_now, .ref q_before, .ref q_disk, .ref q_row, .ref q_node, .ref q_tree, .ref q_check, .int v_up, .int v_armed])), (q_now, .inr (0, [.ref q_now_bytes, .int v_now_count])), (q_now_bytes, .inl (cB, 1536, .inl v_now_bytes)), (q_disk, .inr (4, [.ref q_disk_file, .ref q_disk_records, .ref q_disk_recorded, .ref q_disk_different, .int v_disk_headThere, .int v_disk_headPages, .int v_disk_headRecords])), (q_disk_file, .inr (0, [.ref q_disk_file_bytes, .int v_disk_file_count])), (q_disk_file_bytes, .inl (cB, 1536, .inl v_disk_file_bytes)), (q_disk_records, .inr (0, [.ref q_disk_records_bytes, .int v_disk_records_count])), (q_disk_records_bytes, .inl (cB, 1536, .inl v_disk_records_bytes)), (q_disk_recorded, .inl (cZ, 25, .inl v_disk_recorded)), (q_disk_different, .inl (cZ, 25, .inl v_disk_different))] → va_S A s.heap H locs → lv_has ls 2 [(0, .ref q_this)] → q_RF_commit_75 v_now_count v_up v_armed v_now_bytes v_disk_headThere v_disk_headPages v_disk_headRecords v_disk_file_count v_disk_file_bytes v_disk_records_count v_disk_records_bytes v_disk_recorded v_disk_different = some (o_r, o_up, o_armed, o_now_bytes, o_disk_headThere, o_disk_headPages, o_disk_headRecords, o_disk_file_count, o_disk_file_bytes, o_disk_records_count, o_disk_records_bytes, o_disk_recorded, o_disk_different) → W p l e rm_RF_commit s m args below meth c H locs 0 0 Q (F0 m 75 ls []) := by
    intro v_up v_armed v_now_bytes v_disk_headThere v_disk_headPages v_disk_headRecords v_disk_file_count v_disk_file_bytes v_disk_records_count v_disk_records_bytes v_disk_recorded v_disk_different H locs ls hP hD hS hl hf
    rw [q_RF_commit_75] at hf
    refine lv_aload_n hx hb d_RF_commit_75 rfl (lv_at hl 0 rfl) ?_
    obtain ⟨w14, w15, hc, hf⟩ := pu_b2_some hf
    refine cl_v (WC := [(q_this, .inr (7, [.ref q_draft, .ref q_now, .ref q_before, .ref q_disk, .ref q_row, .ref q_node, .ref q_tree, .ref q_check, .int v_up, .int v_armed]))]) (WC2 := [(q_this, .inr (7, [.ref q_draft, .ref q_now, .ref q_before, .ref q_disk, .ref q_row, .ref q_node, .ref q_tree, .ref q_check, .int w14, .int w15]))]) (WR := [(q_now, .inr (0, [.ref q_now_bytes, .int v_now_count])), (q_now_bytes, .inl (cB, 1536, .inl v_now_bytes)), (q_disk, .inr (4, [.ref q_disk_file, .ref q_disk_records, .ref q_disk_recorded, .ref q_disk_different, .int v_disk_headThere, .int v_disk_headPages, .int v_disk_headRecords])), (q_disk_file, .inr (0, [.ref q_disk_file_bytes, .int v_disk_file_count])), (q_disk_file_bytes, .inl (cB, 1536, .inl v_disk_file_bytes)), (q_disk_records, .inr (0, [.ref q_disk_records_bytes, .int v_disk_records_count])), (q_disk_records_bytes, .inl (cB, 1536, .inl v_disk_records_bytes)), (q_disk_recorded, .inl (cZ, 25, .inl v_disk_recorded)), (q_disk_different, .inl (cZ, 25, .inl v_disk_different))]) (WS2 := [(q_this, .inr (7, [.ref q_draft, .ref q_now, .ref q_before, .ref q_disk, .ref q_row, .ref q_node, .ref q_tree, .ref q_check, .int w14, .int w15])), (q_now, .inr (0, [.ref q_now_bytes, .int v_now_count])), (q_now_bytes, .inl (cB, 1536, .inl v_now_bytes)), (q_disk, .inr (4, [.ref q_disk_file, .ref q_disk_records, .ref q_disk_recorded, .ref q_disk_different, .int v_disk_headThere, .int v_disk_headPages, .int v_disk_headRecords])), (q_disk_file, .inr (0, [.ref q_disk_file_bytes, .int v_disk_file_count])), (q_disk_file_bytes, .inl (cB, 1536, .inl v_disk_file_bytes)), (q_disk_records, .inr (0, [.ref q_disk_records_bytes, .int v_disk_records_count])), (q_disk_records_bytes, .inl (cB, 1536, .inl v_disk_records_bytes)), (q_disk_recorded, .inl (cZ, 25, .inl v_disk_recorded)), (q_disk_different, .inl (cZ, 25, .inl v_disk_different))]) (pu_rv (cl := pu_cl) (pu_in6 _ (List.mem_of_getElem? (i := 47) rfl)) (pu_in6 _ (List.mem_of_getElem? (i := 48) rfl)) (pu_in13 _ (List.mem_of_getElem? (i := 61) rfl)) (pu_in0 _ (List.mem_of_getElem? (i := 1) rfl)) (pu_in6 _ (List.mem_of_getElem? (i := 49) rfl)) (ci := 7) rfl hd_RF_goDown (by decide) ⟨rfl, rfl⟩ rfl rfl (Nat.le_of_ble_eq_true rfl) rfl (As := []) (rest := []) (WC := [(q_this, .inr (7, [.ref q_draft, .ref q_now, .ref q_before, .ref q_disk, .ref q_row, .ref q_node, .ref q_tree, .ref q_check, .int v_up, .int v_armed]))]) hx hb hml hown hts hN hK hP hD (c_RF_goDown l D cI cJ cB cZ H.size q_this q_draft q_now q_before q_disk q_row q_node q_tree q_check v_up v_armed w14 w15 hc) [0] rfl rfl hl.1 d_RF_commit_76) hP hD hS hA [0] [1, 2, 3, 4, 5, 6, 7, 8, 9] [9, 0, 1, 2, 3, 4, 5, 6, 7, 8] rfl rfl rfl (by decide) rfl rfl (fun H locs hP hD hS => ?_)
    refine lv_bipush (v := -3) hx hb d_RF_commit_79 rfl ?_
    exact hret _ _ _ _ (-3 : Int32) w14 w15 v_now_bytes v_disk_headThere v_disk_headPages v_disk_headRecords v_disk_file_count v_disk_file_bytes v_disk_records_count v_disk_records_bytes v_disk_recorded v_disk_different d_RF_commit_81 hP hD hS hf
  obtain ⟨H, hH⟩ : ∃ H, H = s.heap := ⟨_, rfl⟩
  obtain ⟨locs, hlocs⟩ : ∃ locs : List Loc, locs = [] := ⟨_, rfl⟩
  have hP : va_P D pu_cl [(q_this, .inr (7, [.ref q_draft, .ref q_now, .ref q_before, .ref q_disk, .ref q_row, .ref q_node, .ref q_tree, .ref q_check, .int v_up, .int v_armed])), (q_now, .inr (0, [.ref q_now_bytes, .int v_now_count])), (q_now_bytes, .inl (cB, 1536, .inl v_now_bytes)), (q_disk, .inr (4, [.ref q_disk_file, .ref q_disk_records, .ref q_disk_recorded, .ref q_disk_different, .int v_disk_headThere, .int v_disk_headPages, .int v_disk_headRecords])), (q_disk_file, .inr (0, [.ref q_disk_file_bytes, .int v_disk_file_count])), (q_disk_file_bytes, .inl (cB, 1536, .inl v_disk_file_bytes)), (q_disk_records, .inr (0, [.ref q_disk_records_bytes, .int v_disk_records_count])), (q_disk_records_bytes, .inl (cB, 1536, .inl v_disk_records_bytes)), (q_disk_recorded, .inl (cZ, 25, .inl v_disk_recorded)), (q_disk_different, .inl (cZ, 25, .inl v_disk_different))] H := by rw [hH]; exact hP
  have hS : va_S A s.heap H locs := by rw [hH, hlocs]; exact hS
  have goal : W p l e rm_RF_commit s m args below meth c H locs 0 0 Q (F0 m 0 ls []) := by
    clear hH hlocs
    refine lv_aload_n hx hb d_RF_commit_0 rfl (lv_at hl 0 rfl) ?_
    refine gf_RF_66 (v := .int v_up) hx hb hts hN hown hK hP 0 rfl rfl d_RF_commit_1 ?_
    refine lv_if_ne (tgt := 10) hx hb d_RF_commit_4 rfl (fun hc => ?_) (fun hc => ?_)
    · have hf := pu_br_neg hf hc
      refine lv_aload_n hx hb d_RF_commit_10 rfl (lv_at hl 0 rfl) ?_
      refine gf_RF_29 (v := .ref q_disk) hx hb hts hN hown hK hP 0 rfl rfl d_RF_commit_11 ?_
      refine lv_aload_n hx hb d_RF_commit_14 rfl (lv_at hl 0 rfl) ?_
      refine gf_RF_19 (v := .ref q_now) hx hb hts hN hown hK hP 0 rfl rfl d_RF_commit_15 ?_
      obtain ⟨r1, w2, hc, hf⟩ := pu_b2_some hf
      refine cl_i (WC := [(q_disk, .inr (4, [.ref q_disk_file, .ref q_disk_records, .ref q_disk_recorded, .ref q_disk_different, .int v_disk_headThere, .int v_disk_headPages, .int v_disk_headRecords])), (q_disk_file, .inr (0, [.ref q_disk_file_bytes, .int v_disk_file_count])), (q_disk_file_bytes, .inl (cB, 1536, .inl v_disk_file_bytes)), (q_disk_different, .inl (cZ, 25, .inl v_disk_different)), (q_now, .inr (0, [.ref q_now_bytes, .int v_now_count])), (q_now_bytes, .inl (cB, 1536, .inl v_now_bytes))]) (WC2 := [(q_disk, .inr (4, [.ref q_disk_file, .ref q_disk_records, .ref q_disk_recorded, .ref q_disk_different, .int v_disk_headThere, .int v_disk_headPages, .int v_disk_headRecords])), (q_disk_file, .inr (0, [.ref q_disk_file_bytes, .int v_disk_file_count])), (q_disk_file_bytes, .inl (cB, 1536, .inl v_disk_file_bytes)), (q_disk_different, .inl (cZ, 25, .inl w2)), (q_now, .inr (0, [.ref q_now_bytes, .int v_now_count])), (q_now_bytes, .inl (cB, 1536, .inl v_now_bytes))]) (WR := [(q_this, .inr (7, [.ref q_draft, .ref q_now, .ref q_before, .ref q_disk, .ref q_row, .ref q_node, .ref q_tree, .ref q_check, .int v_up, .int v_armed])), (q_disk_records, .inr (0, [.ref q_disk_records_bytes, .int v_disk_records_count])), (q_disk_records_bytes, .inl (cB, 1536, .inl v_disk_records_bytes)), (q_disk_recorded, .inl (cZ, 25, .inl v_disk_recorded))]) (WS2 := [(q_this, .inr (7, [.ref q_draft, .ref q_now, .ref q_before, .ref q_disk, .ref q_row, .ref q_node, .ref q_tree, .ref q_check, .int v_up, .int v_armed])), (q_now, .inr (0, [.ref q_now_bytes, .int v_now_count])), (q_now_bytes, .inl (cB, 1536, .inl v_now_bytes)), (q_disk, .inr (4, [.ref q_disk_file, .ref q_disk_records, .ref q_disk_recorded, .ref q_disk_different, .int v_disk_headThere, .int v_disk_headPages, .int v_disk_headRecords])), (q_disk_file, .inr (0, [.ref q_disk_file_bytes, .int v_disk_file_count])), (q_disk_file_bytes, .inl (cB, 1536, .inl v_disk_file_bytes)), (q_disk_records, .inr (0, [.ref q_disk_records_bytes, .int v_disk_records_count])), (q_disk_records_bytes, .inl (cB, 1536, .inl v_disk_records_bytes)), (q_disk_recorded, .inl (cZ, 25, .inl v_disk_recorded)), (q_disk_different, .inl (cZ, 25, .inl w2))]) (pu_rv (cl := pu_cl) (pu_in5 _ (List.mem_of_getElem? (i := 60) rfl)) (pu_in5 _ (List.mem_of_getElem? (i := 61) rfl)) (pu_in5 _ (List.mem_of_getElem? (i := 62) rfl)) (pu_in0 _ (List.mem_of_getElem? (i := 4) rfl)) (pu_in5 _ (List.mem_of_getElem? (i := 63) rfl)) (ci := 4) rfl hd_Disk_markDifferent (by decide) ⟨rfl, rfl⟩ rfl rfl (Nat.le_of_ble_eq_true rfl) rfl (As := [.ref q_now]) (rest := []) (WC := [(q_disk, .inr (4, [.ref q_disk_file, .ref q_disk_records, .ref q_disk_recorded, .ref q_disk_different, .int v_disk_headThere, .int v_disk_headPages, .int v_disk_headRecords])), (q_disk_file, .inr (0, [.ref q_disk_file_bytes, .int v_disk_file_count])), (q_disk_file_bytes, .inl (cB, 1536, .inl v_disk_file_bytes)), (q_disk_different, .inl (cZ, 25, .inl v_disk_different)), (q_now, .inr (0, [.ref q_now_bytes, .int v_now_count])), (q_now_bytes, .inl (cB, 1536, .inl v_now_bytes))]) hx hb hml hown hts hN hK hP hD (c_Disk_markDifferent l D cI cJ cB cZ H.size q_disk q_disk_file q_disk_records q_disk_recorded q_disk_different q_disk_file_bytes q_now q_now_bytes v_disk_headThere v_disk_headPages v_disk_headRecords v_disk_file_count v_disk_file_bytes v_disk_different v_now_count v_now_bytes r1 w2 hc) [3, 4, 5, 9, 1, 2] rfl rfl hl.1 d_RF_commit_18) hP hD hS hA [3, 4, 5, 9, 1, 2] [0, 6, 7, 8] [0, 8, 9, 4, 5, 6, 1, 2, 3, 7] rfl rfl rfl (by decide) rfl rfl (fun H locs hP hD hS => ?_)
      refine lv_if_ne (tgt := 26) hx hb d_RF_commit_21 rfl (fun hc => ?_) (fun hc => ?_)
      · have hf := pu_br_neg hf hc
        refine lv_aload_n hx hb d_RF_commit_26 rfl (lv_at hl 0 rfl) ?_
        refine gf_RF_19 (v := .ref q_now) hx hb hts hN hown hK hP 0 rfl rfl d_RF_commit_27 ?_
        obtain ⟨w4, hc, hf⟩ := pu_b1_some hf
        refine cl_v (WC := [(q_now, .inr (0, [.ref q_now_bytes, .int v_now_count])), (q_now_bytes, .inl (cB, 1536, .inl v_now_bytes))]) (WC2 := [(q_now, .inr (0, [.ref q_now_bytes, .int v_now_count])), (q_now_bytes, .inl (cB, 1536, .inl w4))]) (WR := [(q_this, .inr (7, [.ref q_draft, .ref q_now, .ref q_before, .ref q_disk, .ref q_row, .ref q_node, .ref q_tree, .ref q_check, .int v_up, .int v_armed])), (q_disk, .inr (4, [.ref q_disk_file, .ref q_disk_records, .ref q_disk_recorded, .ref q_disk_different, .int v_disk_headThere, .int v_disk_headPages, .int v_disk_headRecords])), (q_disk_file, .inr (0, [.ref q_disk_file_bytes, .int v_disk_file_count])), (q_disk_file_bytes, .inl (cB, 1536, .inl v_disk_file_bytes)), (q_disk_records, .inr (0, [.ref q_disk_records_bytes, .int v_disk_records_count])), (q_disk_records_bytes, .inl (cB, 1536, .inl v_disk_records_bytes)), (q_disk_recorded, .inl (cZ, 25, .inl v_disk_recorded)), (q_disk_different, .inl (cZ, 25, .inl w2))]) (WS2 := [(q_this, .inr (7, [.ref q_draft, .ref q_now, .ref q_before, .ref q_disk, .ref q_row, .ref q_node, .ref q_tree, .ref q_check, .int v_up, .int v_armed])), (q_now, .inr (0, [.ref q_now_bytes, .int v_now_count])), (q_now_bytes, .inl (cB, 1536, .inl w4)), (q_disk, .inr (4, [.ref q_disk_file, .ref q_disk_records, .ref q_disk_recorded, .ref q_disk_different, .int v_disk_headThere, .int v_disk_headPages, .int v_disk_headRecords])), (q_disk_file, .inr (0, [.ref q_disk_file_bytes, .int v_disk_file_count])), (q_disk_file_bytes, .inl (cB, 1536, .inl v_disk_file_bytes)), (q_disk_records, .inr (0, [.ref q_disk_records_bytes, .int v_disk_records_count])), (q_disk_records_bytes, .inl (cB, 1536, .inl v_disk_records_bytes)), (q_disk_recorded, .inl (cZ, 25, .inl v_disk_recorded)), (q_disk_different, .inl (cZ, 25, .inl w2))]) (pu_rv (cl := pu_cl) (pu_in6 _ (List.mem_of_getElem? (i := 4) rfl)) (pu_in6 _ (List.mem_of_getElem? (i := 5) rfl)) (pu_in6 _ (List.mem_of_getElem? (i := 6) rfl)) (pu_in0 _ (List.mem_of_getElem? (i := 3) rfl)) (pu_in6 _ (List.mem_of_getElem? (i := 7) rfl)) (ci := 0) rfl hd_Pages_countChange (by decide) ⟨rfl, rfl⟩ rfl rfl (Nat.le_of_ble_eq_true rfl) rfl (As := []) (rest := []) (WC := [(q_now, .inr (0, [.ref q_now_bytes, .int v_now_count])), (q_now_bytes, .inl (cB, 1536, .inl v_now_bytes))]) hx hb hml hown hts hN hK hP hD (c_Pages_countChange l D cI cJ cB cZ H.size q_now q_now_bytes v_now_count v_now_bytes w4 hc) [1, 2] rfl rfl hl.1 d_RF_commit_30) hP hD hS hA [1, 2] [0, 3, 4, 5, 6, 7, 8, 9] [0, 8, 9, 1, 2, 3, 4, 5, 6, 7] rfl rfl rfl (by decide) rfl rfl (fun H locs hP hD hS => ?_)
        refine lv_aload_n hx hb d_RF_commit_33 rfl (lv_at hl 0 rfl) ?_
        refine gf_RF_29 (v := .ref q_disk) hx hb hts hN hown hK hP 0 rfl rfl d_RF_commit_34 ?_
        refine lv_aload_n hx hb d_RF_commit_37 rfl (lv_at hl 0 rfl) ?_
        refine gf_RF_19 (v := .ref q_now) hx hb hts hN hown hK hP 0 rfl rfl d_RF_commit_38 ?_
        obtain ⟨r5, w6, hc, hf⟩ := pu_b2_some hf
        refine cl_i (WC := [(q_disk, .inr (4, [.ref q_disk_file, .ref q_disk_records, .ref q_disk_recorded, .ref q_disk_different, .int v_disk_headThere, .int v_disk_headPages, .int v_disk_headRecords])), (q_disk_file, .inr (0, [.ref q_disk_file_bytes, .int v_disk_file_count])), (q_disk_file_bytes, .inl (cB, 1536, .inl v_disk_file_bytes)), (q_disk_different, .inl (cZ, 25, .inl w2)), (q_now, .inr (0, [.ref q_now_bytes, .int v_now_count])), (q_now_bytes, .inl (cB, 1536, .inl w4))]) (WC2 := [(q_disk, .inr (4, [.ref q_disk_file, .ref q_disk_records, .ref q_disk_recorded, .ref q_disk_different, .int v_disk_headThere, .int v_disk_headPages, .int v_disk_headRecords])), (q_disk_file, .inr (0, [.ref q_disk_file_bytes, .int v_disk_file_count])), (q_disk_file_bytes, .inl (cB, 1536, .inl v_disk_file_bytes)), (q_disk_different, .inl (cZ, 25, .inl w6)), (q_now, .inr (0, [.ref q_now_bytes, .int v_now_count])), (q_now_bytes, .inl (cB, 1536, .inl w4))]) (WR := [(q_this, .inr (7, [.ref q_draft, .ref q_now, .ref q_before, .ref q_disk, .ref q_row, .ref q_node, .ref q_tree, .ref q_check, .int v_up, .int v_armed])), (q_disk_records, .inr (0, [.ref q_disk_records_bytes, .int v_disk_records_count])), (q_disk_records_bytes, .inl (cB, 1536, .inl v_disk_records_bytes)), (q_disk_recorded, .inl (cZ, 25, .inl v_disk_recorded))]) (WS2 := [(q_this, .inr (7, [.ref q_draft, .ref q_now, .ref q_before, .ref q_disk, .ref q_row, .ref q_node, .ref q_tree, .ref q_check, .int v_up, .int v_armed])), (q_now, .inr (0, [.ref q_now_bytes, .int v_now_count])), (q_now_bytes, .inl (cB, 1536, .inl w4)), (q_disk, .inr (4, [.ref q_disk_file, .ref q_disk_records, .ref q_disk_recorded, .ref q_disk_different, .int v_disk_headThere, .int v_disk_headPages, .int v_disk_headRecords])), (q_disk_file, .inr (0, [.ref q_disk_file_bytes, .int v_disk_file_count])), (q_disk_file_bytes, .inl (cB, 1536, .inl v_disk_file_bytes)), (q_disk_records, .inr (0, [.ref q_disk_records_bytes, .int v_disk_records_count])), (q_disk_records_bytes, .inl (cB, 1536, .inl v_disk_records_bytes)), (q_disk_recorded, .inl (cZ, 25, .inl v_disk_recorded)), (q_disk_different, .inl (cZ, 25, .inl w6))]) (pu_rv (cl := pu_cl) (pu_in5 _ (List.mem_of_getElem? (i := 60) rfl)) (pu_in5 _ (List.mem_of_getElem? (i := 61) rfl)) (pu_in5 _ (List.mem_of_getElem? (i := 62) rfl)) (pu_in0 _ (List.mem_of_getElem? (i := 4) rfl)) (pu_in5 _ (List.mem_of_getElem? (i := 63) rfl)) (ci := 4) rfl hd_Disk_markDifferent (by decide) ⟨rfl, rfl⟩ rfl rfl (Nat.le_of_ble_eq_true rfl) rfl (As := [.ref q_now]) (rest := []) (WC := [(q_disk, .inr (4, [.ref q_disk_file, .ref q_disk_records, .ref q_disk_recorded, .ref q_disk_different, .int v_disk_headThere, .int v_disk_headPages, .int v_disk_headRecords])), (q_disk_file, .inr (0, [.ref q_disk_file_bytes, .int v_disk_file_count])), (q_disk_file_bytes, .inl (cB, 1536, .inl v_disk_file_bytes)), (q_disk_different, .inl (cZ, 25, .inl w2)), (q_now, .inr (0, [.ref q_now_bytes, .int v_now_count])), (q_now_bytes, .inl (cB, 1536, .inl w4))]) hx hb hml hown hts hN hK hP hD (c_Disk_markDifferent l D cI cJ cB cZ H.size q_disk q_disk_file q_disk_records q_disk_recorded q_disk_different q_disk_file_bytes q_now q_now_bytes v_disk_headThere v_disk_headPages v_disk_headRecords v_disk_file_count v_disk_file_bytes w2 v_now_count w4 r5 w6 hc) [3, 4, 5, 9, 1, 2] rfl rfl hl.1 d_RF_commit_41) hP hD hS hA [3, 4, 5, 9, 1, 2] [0, 6, 7, 8] [0, 8, 9, 4, 5, 6, 1, 2, 3, 7] rfl rfl rfl (by decide) rfl rfl (fun H locs hP hD hS => ?_)
        refine lv_istore_n hx hb d_RF_commit_44 rfl hl (by decide) rfl (fun ls hl => ?_)
        have hl : lv_has ls 2 [(1, .int r5), (0, .ref q_this)] := hl
        refine lv_aload_n hx hb d_RF_commit_45 rfl (lv_at hl 1 rfl) ?_
        obtain ⟨r7, w8, w9, w10, w11, w12, hc, hf⟩ := pu_b6_some hf
        refine cl_i (WC := [(q_this, .inr (7, [.ref q_draft, .ref q_now, .ref q_before, .ref q_disk, .ref q_row, .ref q_node, .ref q_tree, .ref q_check, .int v_up, .int v_armed])), (q_disk, .inr (4, [.ref q_disk_file, .ref q_disk_records, .ref q_disk_recorded, .ref q_disk_different, .int v_disk_headThere, .int v_disk_headPages, .int v_disk_headRecords])), (q_disk_file, .inr (0, [.ref q_disk_file_bytes, .int v_disk_file_count])), (q_disk_file_bytes, .inl (cB, 1536, .inl v_disk_file_bytes)), (q_disk_records, .inr (0, [.ref q_disk_records_bytes, .int v_disk_records_count])), (q_disk_records_bytes, .inl (cB, 1536, .inl v_disk_records_bytes)), (q_disk_recorded, .inl (cZ, 25, .inl v_disk_recorded)), (q_disk_different, .inl (cZ, 25, .inl w6))]) (WC2 := [(q_this, .inr (7, [.ref q_draft, .ref q_now, .ref q_before, .ref q_disk, .ref q_row, .ref q_node, .ref q_tree, .ref q_check, .int v_up, .int w8])), (q_disk, .inr (4, [.ref q_disk_file, .ref q_disk_records, .ref q_disk_recorded, .ref q_disk_different, .int v_disk_headThere, .int v_disk_headPages, .int w9])), (q_disk_file, .inr (0, [.ref q_disk_file_bytes, .int v_disk_file_count])), (q_disk_file_bytes, .inl (cB, 1536, .inl v_disk_file_bytes)), (q_disk_records, .inr (0, [.ref q_disk_records_bytes, .int w10])), (q_disk_records_bytes, .inl (cB, 1536, .inl w11)), (q_disk_recorded, .inl (cZ, 25, .inl w12)), (q_disk_different, .inl (cZ, 25, .inl w6))]) (WR := [(q_now, .inr (0, [.ref q_now_bytes, .int v_now_count])), (q_now_bytes, .inl (cB, 1536, .inl w4))]) (WS2 := [(q_this, .inr (7, [.ref q_draft, .ref q_now, .ref q_before, .ref q_disk, .ref q_row, .ref q_node, .ref q_tree, .ref q_check, .int v_up, .int w8])), (q_now, .inr (0, [.ref q_now_bytes, .int v_now_count])), (q_now_bytes, .inl (cB, 1536, .inl w4)), (q_disk, .inr (4, [.ref q_disk_file, .ref q_disk_records, .ref q_disk_recorded, .ref q_disk_different, .int v_disk_headThere, .int v_disk_headPages, .int w9])), (q_disk_file, .inr (0, [.ref q_disk_file_bytes, .int v_disk_file_count])), (q_disk_file_bytes, .inl (cB, 1536, .inl v_disk_file_bytes)), (q_disk_records, .inr (0, [.ref q_disk_records_bytes, .int w10])), (q_disk_records_bytes, .inl (cB, 1536, .inl w11)), (q_disk_recorded, .inl (cZ, 25, .inl w12)), (q_disk_different, .inl (cZ, 25, .inl w6))]) (pu_rv (cl := pu_cl) (pu_in6 _ (List.mem_of_getElem? (i := 8) rfl)) (pu_in6 _ (List.mem_of_getElem? (i := 9) rfl)) (pu_in13 _ (List.mem_of_getElem? (i := 56) rfl)) (pu_in0 _ (List.mem_of_getElem? (i := 1) rfl)) (pu_in6 _ (List.mem_of_getElem? (i := 10) rfl)) (ci := 7) rfl hd_RF_writeRecords (by decide) ⟨rfl, rfl⟩ rfl rfl (Nat.le_of_ble_eq_true rfl) rfl (As := []) (rest := []) (WC := [(q_this, .inr (7, [.ref q_draft, .ref q_now, .ref q_before, .ref q_disk, .ref q_row, .ref q_node, .ref q_tree, .ref q_check, .int v_up, .int v_armed])), (q_disk, .inr (4, [.ref q_disk_file, .ref q_disk_records, .ref q_disk_recorded, .ref q_disk_different, .int v_disk_headThere, .int v_disk_headPages, .int v_disk_headRecords])), (q_disk_file, .inr (0, [.ref q_disk_file_bytes, .int v_disk_file_count])), (q_disk_file_bytes, .inl (cB, 1536, .inl v_disk_file_bytes)), (q_disk_records, .inr (0, [.ref q_disk_records_bytes, .int v_disk_records_count])), (q_disk_records_bytes, .inl (cB, 1536, .inl v_disk_records_bytes)), (q_disk_recorded, .inl (cZ, 25, .inl v_disk_recorded)), (q_disk_different, .inl (cZ, 25, .inl w6))]) hx hb hml hown hts hN hK hP hD (c_RF_writeRecords l D cI cJ cB cZ H.size q_this q_draft q_now q_before q_disk q_row q_node q_tree q_check q_disk_file q_disk_records q_disk_recorded q_disk_different q_disk_file_bytes q_disk_records_bytes v_up v_armed v_disk_headThere v_disk_headPages v_disk_headRecords v_disk_file_count v_disk_file_bytes v_disk_records_count v_disk_records_bytes v_disk_recorded w6 r7 w8 w9 w10 w11 w12 hc) [0, 3, 4, 5, 6, 7, 8, 9] rfl rfl hl.1 d_RF_commit_46) hP hD hS hA [0, 3, 4, 5, 6, 7, 8, 9] [1, 2] [2, 0, 1, 3, 4, 5, 6, 7, 8, 9] rfl rfl rfl (by decide) rfl rfl (fun H locs hP hD hS => ?_)
        refine lv_if_eq (tgt := 75) hx hb d_RF_commit_49 rfl (fun hc => ?_) (fun hc => ?_)
        · have hf := pu_br_pos hf hc
          exact lb_75 v_up w8 w4 v_disk_headThere v_disk_headPages w9 v_disk_file_count v_disk_file_bytes w10 w11 w12 w6 H locs ls hP hD hS (lv_sub hl [1] rfl) hf
        have hf := pu_br_neg hf hc
        refine lv_aload_n hx hb d_RF_commit_52 rfl (lv_at hl 1 rfl) ?_
        obtain ⟨r16, w17, w18, w19, hc, hf⟩ := pu_b4_some hf
        refine cl_i (WC := [(q_this, .inr (7, [.ref q_draft, .ref q_now, .ref q_before, .ref q_disk, .ref q_row, .ref q_node, .ref q_tree, .ref q_check, .int v_up, .int w8])), (q_disk, .inr (4, [.ref q_disk_file, .ref q_disk_records, .ref q_disk_recorded, .ref q_disk_different, .int v_disk_headThere, .int v_disk_headPages, .int w9])), (q_disk_file, .inr (0, [.ref q_disk_file_bytes, .int v_disk_file_count]))]) (WC2 := [(q_this, .inr (7, [.ref q_draft, .ref q_now, .ref q_before, .ref q_disk, .ref q_row, .ref q_node, .ref q_tree, .ref q_check, .int v_up, .int w17])), (q_disk, .inr (4, [.ref q_disk_file, .ref q_disk_records, .ref q_disk_recorded, .ref q_disk_different, .int w18, .int w19, .int w9])), (q_disk_file, .inr (0, [.ref q_disk_file_bytes, .int v_disk_file_count]))]) (WR := [(q_now, .inr (0, [.ref q_now_bytes, .int v_now_count])), (q_now_bytes, .inl (cB, 1536, .inl w4)), (q_disk_file_bytes, .inl (cB, 1536, .inl v_disk_file_bytes)), (q_disk_records, .inr (0, [.ref q_disk_records_bytes, .int w10])), (q_disk_records_bytes, .inl (cB, 1536, .inl w11)), (q_disk_recorded, .inl (cZ, 25, .inl w12)), (q_disk_different, .inl (cZ, 25, .inl w6))]) (WS2 := [(q_this, .inr (7, [.ref q_draft, .ref q_now, .ref q_before, .ref q_disk, .ref q_row, .ref q_node, .ref q_tree, .ref q_check, .int v_up, .int w17])), (q_now, .inr (0, [.ref q_now_bytes, .int v_now_count])), (q_now_bytes, .inl (cB, 1536, .inl w4)), (q_disk, .inr (4, [.ref q_disk_file, .ref q_disk_records, .ref q_disk_recorded, .ref q_disk_different, .int w18, .int w19, .int w9])), (q_disk_file, .inr (0, [.ref q_disk_file_bytes, .int v_disk_file_count])), (q_disk_file_bytes, .inl (cB, 1536, .inl v_disk_file_bytes)), (q_disk_records, .inr (0, [.ref q_disk_records_bytes, .int w10])), (q_disk_records_bytes, .inl (cB, 1536, .inl w11)), (q_disk_recorded, .inl (cZ, 25, .inl w12)), (q_disk_different, .inl (cZ, 25, .inl w6))]) (pu_rv (cl := pu_cl) (pu_in6 _ (List.mem_of_getElem? (i := 24) rfl)) (pu_in6 _ (List.mem_of_getElem? (i := 25) rfl)) (pu_in13 _ (List.mem_of_getElem? (i := 58) rfl)) (pu_in0 _ (List.mem_of_getElem? (i := 1) rfl)) (pu_in6 _ (List.mem_of_getElem? (i := 26) rfl)) (ci := 7) rfl hd_RF_writeHead (by decide) ⟨rfl, rfl⟩ rfl rfl (Nat.le_of_ble_eq_true rfl) rfl (As := []) (rest := []) (WC := [(q_this, .inr (7, [.ref q_draft, .ref q_now, .ref q_before, .ref q_disk, .ref q_row, .ref q_node, .ref q_tree, .ref q_check, .int v_up, .int w8])), (q_disk, .inr (4, [.ref q_disk_file, .ref q_disk_records, .ref q_disk_recorded, .ref q_disk_different, .int v_disk_headThere, .int v_disk_headPages, .int w9])), (q_disk_file, .inr (0, [.ref q_disk_file_bytes, .int v_disk_file_count]))]) hx hb hml hown hts hN hK hP hD (c_RF_writeHead l D cI cJ cB cZ H.size q_this q_draft q_now q_before q_disk q_row q_node q_tree q_check q_disk_file q_disk_records q_disk_recorded q_disk_different q_disk_file_bytes v_up w8 v_disk_headThere v_disk_headPages w9 v_disk_file_count r16 w17 w18 w19 hc) [0, 3, 4] rfl rfl hl.1 d_RF_commit_53) hP hD hS hA [0, 3, 4] [1, 2, 5, 6, 7, 8, 9] [7, 0, 1, 8, 9, 2, 3, 4, 5, 6] rfl rfl rfl (by decide) rfl rfl (fun H locs hP hD hS => ?_)
        refine lv_if_eq (tgt := 75) hx hb d_RF_commit_56 rfl (fun hc => ?_) (fun hc => ?_)
        · have hf := pu_br_pos hf hc
          exact lb_75 v_up w17 w4 w18 w19 w9 v_disk_file_count v_disk_file_bytes w10 w11 w12 w6 H locs ls hP hD hS (lv_sub hl [1] rfl) hf
        have hf := pu_br_neg hf hc
        refine lv_aload_n hx hb d_RF_commit_59 rfl (lv_at hl 1 rfl) ?_
        obtain ⟨r20, w21, w22, w23, hc, hf⟩ := pu_b4_some hf
        refine cl_i (WC := [(q_this, .inr (7, [.ref q_draft, .ref q_now, .ref q_before, .ref q_disk, .ref q_row, .ref q_node, .ref q_tree, .ref q_check, .int v_up, .int w17])), (q_now, .inr (0, [.ref q_now_bytes, .int v_now_count])), (q_now_bytes, .inl (cB, 1536, .inl w4)), (q_disk, .inr (4, [.ref q_disk_file, .ref q_disk_records, .ref q_disk_recorded, .ref q_disk_different, .int w18, .int w19, .int w9])), (q_disk_file, .inr (0, [.ref q_disk_file_bytes, .int v_disk_file_count])), (q_disk_file_bytes, .inl (cB, 1536, .inl v_disk_file_bytes)), (q_disk_different, .inl (cZ, 25, .inl w6))]) (WC2 := [(q_this, .inr (7, [.ref q_draft, .ref q_now, .ref q_before, .ref q_disk, .ref q_row, .ref q_node, .ref q_tree, .ref q_check, .int v_up, .int w21])), (q_now, .inr (0, [.ref q_now_bytes, .int v_now_count])), (q_now_bytes, .inl (cB, 1536, .inl w4)), (q_disk, .inr (4, [.ref q_disk_file, .ref q_disk_records, .ref q_disk_recorded, .ref q_disk_different, .int w18, .int w19, .int w9])), (q_disk_file, .inr (0, [.ref q_disk_file_bytes, .int w22])), (q_disk_file_bytes, .inl (cB, 1536, .inl w23)), (q_disk_different, .inl (cZ, 25, .inl w6))]) (WR := [(q_disk_records, .inr (0, [.ref q_disk_records_bytes, .int w10])), (q_disk_records_bytes, .inl (cB, 1536, .inl w11)), (q_disk_recorded, .inl (cZ, 25, .inl w12))]) (WS2 := [(q_this, .inr (7, [.ref q_draft, .ref q_now, .ref q_before, .ref q_disk, .ref q_row, .ref q_node, .ref q_tree, .ref q_check, .int v_up, .int w21])), (q_now, .inr (0, [.ref q_now_bytes, .int v_now_count])), (q_now_bytes, .inl (cB, 1536, .inl w4)), (q_disk, .inr (4, [.ref q_disk_file, .ref q_disk_records, .ref q_disk_recorded, .ref q_disk_different, .int w18, .int w19, .int w9])), (q_disk_file, .inr (0, [.ref q_disk_file_bytes, .int w22])), (q_disk_file_bytes, .inl (cB, 1536, .inl w23)), (q_disk_records, .inr (0, [.ref q_disk_records_bytes, .int w10])), (q_disk_records_bytes, .inl (cB, 1536, .inl w11)), (q_disk_recorded, .inl (cZ, 25, .inl w12)), (q_disk_different, .inl (cZ, 25, .inl w6))]) (pu_rv (cl := pu_cl) (pu_in6 _ (List.mem_of_getElem? (i := 27) rfl)) (pu_in6 _ (List.mem_of_getElem? (i := 28) rfl)) (pu_in13 _ (List.mem_of_getElem? (i := 59) rfl)) (pu_in0 _ (List.mem_of_getElem? (i := 1) rfl)) (pu_in6 _ (List.mem_of_getElem? (i := 29) rfl)) (ci := 7) rfl hd_RF_writePages (by decide) ⟨rfl, rfl⟩ rfl rfl (Nat.le_of_ble_eq_true rfl) rfl (As := []) (rest := []) (WC := [(q_this, .inr (7, [.ref q_draft, .ref q_now, .ref q_before, .ref q_disk, .ref q_row, .ref q_node, .ref q_tree, .ref q_check, .int v_up, .int w17])), (q_now, .inr (0, [.ref q_now_bytes, .int v_now_count])), (q_now_bytes, .inl (cB, 1536, .inl w4)), (q_disk, .inr (4, [.ref q_disk_file, .ref q_disk_records, .ref q_disk_recorded, .ref q_disk_different, .int w18, .int w19, .int w9])), (q_disk_file, .inr (0, [.ref q_disk_file_bytes, .int v_disk_file_count])), (q_disk_file_bytes, .inl (cB, 1536, .inl v_disk_file_bytes)), (q_disk_different, .inl (cZ, 25, .inl w6))]) hx hb hml hown hts hN hK hP hD (c_RF_writePages l D cI cJ cB cZ H.size q_this q_draft q_now q_before q_disk q_row q_node q_tree q_check q_now_bytes q_disk_file q_disk_records q_disk_recorded q_disk_different q_disk_file_bytes v_up w17 v_now_count w4 w18 w19 w9 v_disk_file_count v_disk_file_bytes w6 r20 w21 w22 w23 hc) [0, 1, 2, 3, 4, 5, 9] rfl rfl hl.1 d_RF_commit_60) hP hD hS hA [0, 1, 2, 3, 4, 5, 9] [6, 7, 8] [3, 4, 5, 6, 7, 8, 0, 1, 2, 9] rfl rfl rfl (by decide) rfl rfl (fun H locs hP hD hS => ?_)
        refine lv_if_eq (tgt := 75) hx hb d_RF_commit_63 rfl (fun hc => ?_) (fun hc => ?_)
        · have hf := pu_br_pos hf hc
          exact lb_75 v_up w21 w4 w18 w19 w9 w22 w23 w10 w11 w12 w6 H locs ls hP hD hS (lv_sub hl [1] rfl) hf
        have hf := pu_br_neg hf hc
        refine lv_aload_n hx hb d_RF_commit_66 rfl (lv_at hl 1 rfl) ?_
        obtain ⟨r24, w25, w26, hc, hf⟩ := pu_b3_some hf
        refine cl_i (WC := [(q_this, .inr (7, [.ref q_draft, .ref q_now, .ref q_before, .ref q_disk, .ref q_row, .ref q_node, .ref q_tree, .ref q_check, .int v_up, .int w21])), (q_disk, .inr (4, [.ref q_disk_file, .ref q_disk_records, .ref q_disk_recorded, .ref q_disk_different, .int w18, .int w19, .int w9]))]) (WC2 := [(q_this, .inr (7, [.ref q_draft, .ref q_now, .ref q_before, .ref q_disk, .ref q_row, .ref q_node, .ref q_tree, .ref q_check, .int v_up, .int w25])), (q_disk, .inr (4, [.ref q_disk_file, .ref q_disk_records, .ref q_disk_recorded, .ref q_disk_different, .int w26, .int w19, .int w9]))]) (WR := [(q_now, .inr (0, [.ref q_now_bytes, .int v_now_count])), (q_now_bytes, .inl (cB, 1536, .inl w4)), (q_disk_file, .inr (0, [.ref q_disk_file_bytes, .int w22])), (q_disk_file_bytes, .inl (cB, 1536, .inl w23)), (q_disk_records, .inr (0, [.ref q_disk_records_bytes, .int w10])), (q_disk_records_bytes, .inl (cB, 1536, .inl w11)), (q_disk_recorded, .inl (cZ, 25, .inl w12)), (q_disk_different, .inl (cZ, 25, .inl w6))]) (WS2 := [(q_this, .inr (7, [.ref q_draft, .ref q_now, .ref q_before, .ref q_disk, .ref q_row, .ref q_node, .ref q_tree, .ref q_check, .int v_up, .int w25])), (q_now, .inr (0, [.ref q_now_bytes, .int v_now_count])), (q_now_bytes, .inl (cB, 1536, .inl w4)), (q_disk, .inr (4, [.ref q_disk_file, .ref q_disk_records, .ref q_disk_recorded, .ref q_disk_different, .int w26, .int w19, .int w9])), (q_disk_file, .inr (0, [.ref q_disk_file_bytes, .int w22])), (q_disk_file_bytes, .inl (cB, 1536, .inl w23)), (q_disk_records, .inr (0, [.ref q_disk_records_bytes, .int w10])), (q_disk_records_bytes, .inl (cB, 1536, .inl w11)), (q_disk_recorded, .inl (cZ, 25, .inl w12)), (q_disk_different, .inl (cZ, 25, .inl w6))]) (pu_rv (cl := pu_cl) (pu_in6 _ (List.mem_of_getElem? (i := 44) rfl)) (pu_in6 _ (List.mem_of_getElem? (i := 45) rfl)) (pu_in13 _ (List.mem_of_getElem? (i := 60) rfl)) (pu_in0 _ (List.mem_of_getElem? (i := 1) rfl)) (pu_in6 _ (List.mem_of_getElem? (i := 46) rfl)) (ci := 7) rfl hd_RF_dropHead (by decide) ⟨rfl, rfl⟩ rfl rfl (Nat.le_of_ble_eq_true rfl) rfl (As := []) (rest := []) (WC := [(q_this, .inr (7, [.ref q_draft, .ref q_now, .ref q_before, .ref q_disk, .ref q_row, .ref q_node, .ref q_tree, .ref q_check, .int v_up, .int w21])), (q_disk, .inr (4, [.ref q_disk_file, .ref q_disk_records, .ref q_disk_recorded, .ref q_disk_different, .int w18, .int w19, .int w9]))]) hx hb hml hown hts hN hK hP hD (c_RF_dropHead l D cI cJ cB cZ H.size q_this q_draft q_now q_before q_disk q_row q_node q_tree q_check q_disk_file q_disk_records q_disk_recorded q_disk_different v_up w21 w18 w19 w9 r24 w25 w26 hc) [0, 3] rfl rfl hl.1 d_RF_commit_67) hP hD hS hA [0, 3] [1, 2, 4, 5, 6, 7, 8, 9] [8, 0, 1, 9, 2, 3, 4, 5, 6, 7] rfl rfl rfl (by decide) rfl rfl (fun H locs hP hD hS => ?_)
        refine lv_if_eq (tgt := 75) hx hb d_RF_commit_70 rfl (fun hc => ?_) (fun hc => ?_)
        · have hf := pu_br_pos hf hc
          exact lb_75 v_up w25 w4 w26 w19 w9 w22 w23 w10 w11 w12 w6 H locs ls hP hD hS (lv_sub hl [1] rfl) hf
        have hf := pu_br_neg hf hc
        refine lv_iload_n hx hb d_RF_commit_73 rfl (lv_at hl 0 rfl) ?_
        exact hret _ _ _ _ r5 v_up w25 w4 w26 w19 w9 w22 w23 w10 w11 w12 w6 d_RF_commit_74 hP hD hS hf
      have hf := pu_br_pos hf hc
      refine lv_iconst (v := 0) hx hb d_RF_commit_24 rfl ?_
      exact hret _ _ _ _ (0 : Int32) v_up v_armed v_now_bytes v_disk_headThere v_disk_headPages v_disk_headRecords v_disk_file_count v_disk_file_bytes v_disk_records_count v_disk_records_bytes v_disk_recorded w2 d_RF_commit_25 hP hD hS hf
    have hf := pu_br_pos hf hc
    refine lv_bipush (v := -3) hx hb d_RF_commit_7 rfl ?_
    exact hret _ _ _ _ (-3 : Int32) v_up v_armed v_now_bytes v_disk_headThere v_disk_headPages v_disk_headRecords v_disk_file_count v_disk_file_bytes v_disk_records_count v_disk_records_bytes v_disk_recorded v_disk_different d_RF_commit_9 hP hD hS hf
  rw [hH, hlocs] at goal
  exact goal
theorem d_RF_undo_0 : decode b_RF_undo 0 = .ok (.aload_n 0, 1) := by decide +kernel
theorem d_RF_undo_1 : decode b_RF_undo 1 = .ok (.getfield 66, 3) := by decide +kernel
theorem d_RF_undo_4 : decode b_RF_undo 4 = .ok (.ifCond .ne 5, 3) := by decide +kernel
theorem d_RF_undo_7 : decode b_RF_undo 7 = .ok (.iconst 0, 1) := by decide +kernel
theorem d_RF_undo_8 : decode b_RF_undo 8 = .ok (.ireturn, 1) := by decide +kernel
theorem d_RF_undo_9 : decode b_RF_undo 9 = .ok (.aload_n 0, 1) := by decide +kernel
theorem d_RF_undo_10 : decode b_RF_undo 10 = .ok (.getfield 19, 3) := by decide +kernel
theorem d_RF_undo_13 : decode b_RF_undo 13 = .ok (.aload_n 0, 1) := by decide +kernel
theorem d_RF_undo_14 : decode b_RF_undo 14 = .ok (.getfield 29, 3) := by decide +kernel
theorem d_RF_undo_17 : decode b_RF_undo 17 = .ok (.getfield 58, 3) := by decide +kernel
theorem d_RF_undo_20 : decode b_RF_undo 20 = .ok (.invokevirtual 77, 3) := by decide +kernel
theorem d_RF_undo_23 : decode b_RF_undo 23 = .ok (.iconst 1, 1) := by decide +kernel
theorem d_RF_undo_24 : decode b_RF_undo 24 = .ok (.ireturn, 1) := by decide +kernel
noncomputable def f_RF_undo (v_up : Int32) (v_disk_file_count : Int32) (v_disk_file_bytes : Nat → Int32) (v_now_count : Int32) (v_now_bytes : Nat → Int32) : Option (Int32 × Int32 × (Nat → Int32)) :=
  pu_br (v_up = 0) (some ((0 : Int32), v_now_count, v_now_bytes)) (pu_b2 (f_Pages_copyAll v_disk_file_count v_disk_file_bytes v_now_count v_now_bytes) (fun w2 w3 => some ((1 : Int32), w2, w3)))
abbrev rm_RF_undo : Room := { frames := 2, cells := 0, slots := 0, locals := 89 }
set_option maxHeartbeats 8000000 in
set_option maxRecDepth 100000 in
theorem c_RF_undo (l : Launch) (D : va_G) (cI cJ cB cZ : ClassId) (sz : Nat) (q_this : Nat) (q_draft : Nat) (q_now : Nat) (q_before : Nat) (q_disk : Nat) (q_row : Nat) (q_node : Nat) (q_tree : Nat) (q_check : Nat) (q_now_bytes : Nat) (q_disk_file : Nat) (q_disk_records : Nat) (q_disk_recorded : Nat) (q_disk_different : Nat) (q_disk_file_bytes : Nat) (v_up : Int32) (v_armed : Int32) (v_now_count : Int32) (v_now_bytes : Nat → Int32) (v_disk_headThere : Int32) (v_disk_headPages : Int32) (v_disk_headRecords : Int32) (v_disk_file_count : Int32) (v_disk_file_bytes : Nat → Int32) (o_r : Int32) (o_now_count : Int32) (o_now_bytes : Nat → Int32) (hf : f_RF_undo v_up v_disk_file_count v_disk_file_bytes v_now_count v_now_bytes = some (o_r, o_now_count, o_now_bytes)) : Met l y_RF_undo (.code y_RF_undo b_RF_undo 1 (some .boolean) :: pu_wA) rm_RF_undo (pu_pc D pu_cl (pu_ty cI cJ cB cZ) [.ref q_this] [(q_this, .inr (7, [.ref q_draft, .ref q_now, .ref q_before, .ref q_disk, .ref q_row, .ref q_node, .ref q_tree, .ref q_check, .int v_up, .int v_armed])), (q_now, .inr (0, [.ref q_now_bytes, .int v_now_count])), (q_now_bytes, .inl (cB, 1536, .inl v_now_bytes)), (q_disk, .inr (4, [.ref q_disk_file, .ref q_disk_records, .ref q_disk_recorded, .ref q_disk_different, .int v_disk_headThere, .int v_disk_headPages, .int v_disk_headRecords])), (q_disk_file, .inr (0, [.ref q_disk_file_bytes, .int v_disk_file_count])), (q_disk_file_bytes, .inl (cB, 1536, .inl v_disk_file_bytes))] sz) (pu_qi D pu_cl (pu_ty cI cJ cB cZ) [(q_this, .inr (7, [.ref q_draft, .ref q_now, .ref q_before, .ref q_disk, .ref q_row, .ref q_node, .ref q_tree, .ref q_check, .int v_up, .int v_armed])), (q_now, .inr (0, [.ref q_now_bytes, .int v_now_count])), (q_now_bytes, .inl (cB, 1536, .inl v_now_bytes)), (q_disk, .inr (4, [.ref q_disk_file, .ref q_disk_records, .ref q_disk_recorded, .ref q_disk_different, .int v_disk_headThere, .int v_disk_headPages, .int v_disk_headRecords])), (q_disk_file, .inr (0, [.ref q_disk_file_bytes, .int v_disk_file_count])), (q_disk_file_bytes, .inl (cB, 1536, .inl v_disk_file_bytes))] [(q_this, .inr (7, [.ref q_draft, .ref q_now, .ref q_before, .ref q_disk, .ref q_row, .ref q_node, .ref q_tree, .ref q_check, .int v_up, .int v_armed])), (q_now, .inr (0, [.ref q_now_bytes, .int o_now_count])), (q_now_bytes, .inl (cB, 1536, .inl o_now_bytes)), (q_disk, .inr (4, [.ref q_disk_file, .ref q_disk_records, .ref q_disk_recorded, .ref q_disk_different, .int v_disk_headThere, .int v_disk_headPages, .int v_disk_headRecords])), (q_disk_file, .inr (0, [.ref q_disk_file_bytes, .int v_disk_file_count])), (q_disk_file_bytes, .inl (cB, 1536, .inl v_disk_file_bytes))] sz o_r) 0 0 (va_A [(q_this, .inr (7, [.ref q_draft, .ref q_now, .ref q_before, .ref q_disk, .ref q_row, .ref q_node, .ref q_tree, .ref q_check, .int v_up, .int v_armed])), (q_now, .inr (0, [.ref q_now_bytes, .int v_now_count])), (q_now_bytes, .inl (cB, 1536, .inl v_now_bytes)), (q_disk, .inr (4, [.ref q_disk_file, .ref q_disk_records, .ref q_disk_recorded, .ref q_disk_different, .int v_disk_headThere, .int v_disk_headPages, .int v_disk_headRecords])), (q_disk_file, .inr (0, [.ref q_disk_file_bytes, .int v_disk_file_count])), (q_disk_file_bytes, .inl (cB, 1536, .inl v_disk_file_bytes))] sz) := by
  refine pu_mtz [.ref q_this] [(q_this, .inr (7, [.ref q_draft, .ref q_now, .ref q_before, .ref q_disk, .ref q_row, .ref q_node, .ref q_tree, .ref q_check, .int v_up, .int v_armed])), (q_now, .inr (0, [.ref q_now_bytes, .int v_now_count])), (q_now_bytes, .inl (cB, 1536, .inl v_now_bytes)), (q_disk, .inr (4, [.ref q_disk_file, .ref q_disk_records, .ref q_disk_recorded, .ref q_disk_different, .int v_disk_headThere, .int v_disk_headPages, .int v_disk_headRecords])), (q_disk_file, .inr (0, [.ref q_disk_file_bytes, .int v_disk_file_count])), (q_disk_file_bytes, .inl (cB, 1536, .inl v_disk_file_bytes))] [(q_this, .inr (7, [.ref q_draft, .ref q_now, .ref q_before, .ref q_disk, .ref q_row, .ref q_node, .ref q_tree, .ref q_check, .int v_up, .int v_armed])), (q_now, .inr (0, [.ref q_now_bytes, .int o_now_count])), (q_now_bytes, .inl (cB, 1536, .inl o_now_bytes)), (q_disk, .inr (4, [.ref q_disk_file, .ref q_disk_records, .ref q_disk_recorded, .ref q_disk_different, .int v_disk_headThere, .int v_disk_headPages, .int v_disk_headRecords])), (q_disk_file, .inr (0, [.ref q_disk_file_bytes, .int v_disk_file_count])), (q_disk_file_bytes, .inl (cB, 1536, .inl v_disk_file_bytes))] o_r (by decide) (Nat.le_of_ble_eq_true rfl) ?_
  intro p e s m args below meth c A Q ls hx hb hml hts hN hown hK hA hP hD hl hret0
  have hS : va_S A s.heap s.heap [] := va_S.rf
  have hl : lv_has ls 1 [(0, .ref q_this)] := hl
  have hret : ∀ (pc : Nat) (ls : Array Slot) (H : Heap) (locs : List Loc) (y_0 : Int32) (y_1 : Int32) (y_2 : Nat → Int32), decode b_RF_undo pc = .ok (.ireturn, 1) → narrow .boolean (.int y_0) = .int y_0 → va_P D pu_cl [(q_this, .inr (7, [.ref q_draft, .ref q_now, .ref q_before, .ref q_disk, .ref q_row, .ref q_node, .ref q_tree, .ref q_check, .int v_up, .int v_armed])), (q_now, .inr (0, [.ref q_now_bytes, .int y_1])), (q_now_bytes, .inl (cB, 1536, .inl y_2)), (q_disk, .inr (4, [.ref q_disk_file, .ref q_disk_records, .ref q_disk_recorded, .ref q_disk_different, .int v_disk_headThere, .int v_disk_headPages, .int v_disk_headRecords])), (q_disk_file, .inr (0, [.ref q_disk_file_bytes, .int v_disk_file_count])), (q_disk_file_bytes, .inl (cB, 1536, .inl v_disk_file_bytes))] H → va_D A [(q_this, .inr (7, [.ref q_draft, .ref q_now, .ref q_before, .ref q_disk, .ref q_row, .ref q_node, .ref q_tree, .ref q_check, .int v_up, .int v_armed])), (q_now, .inr (0, [.ref q_now_bytes, .int y_1])), (q_now_bytes, .inl (cB, 1536, .inl y_2)), (q_disk, .inr (4, [.ref q_disk_file, .ref q_disk_records, .ref q_disk_recorded, .ref q_disk_different, .int v_disk_headThere, .int v_disk_headPages, .int v_disk_headRecords])), (q_disk_file, .inr (0, [.ref q_disk_file_bytes, .int v_disk_file_count])), (q_disk_file_bytes, .inl (cB, 1536, .inl v_disk_file_bytes))] → va_S A s.heap H locs → some (y_0, y_1, y_2) = some (o_r, o_now_count, o_now_bytes) → W p l e rm_RF_undo s m args below meth c H locs 0 0 Q (F0 m pc ls [.int y_0]) := by
    intro pc ls H locs y_0 y_1 y_2 hd hz hP hD hS hf
    cases hf
    exact hret0 pc ls H locs hd hz hP hD hS
  clear hret0
  unfold f_RF_undo at hf
  skip
  obtain ⟨H, hH⟩ : ∃ H, H = s.heap := ⟨_, rfl⟩
  obtain ⟨locs, hlocs⟩ : ∃ locs : List Loc, locs = [] := ⟨_, rfl⟩
  have hP : va_P D pu_cl [(q_this, .inr (7, [.ref q_draft, .ref q_now, .ref q_before, .ref q_disk, .ref q_row, .ref q_node, .ref q_tree, .ref q_check, .int v_up, .int v_armed])), (q_now, .inr (0, [.ref q_now_bytes, .int v_now_count])), (q_now_bytes, .inl (cB, 1536, .inl v_now_bytes)), (q_disk, .inr (4, [.ref q_disk_file, .ref q_disk_records, .ref q_disk_recorded, .ref q_disk_different, .int v_disk_headThere, .int v_disk_headPages, .int v_disk_headRecords])), (q_disk_file, .inr (0, [.ref q_disk_file_bytes, .int v_disk_file_count])), (q_disk_file_bytes, .inl (cB, 1536, .inl v_disk_file_bytes))] H := by rw [hH]; exact hP
  have hS : va_S A s.heap H locs := by rw [hH, hlocs]; exact hS
  have goal : W p l e rm_RF_undo s m args below meth c H locs 0 0 Q (F0 m 0 ls []) := by
    clear hH hlocs
    refine lv_aload_n hx hb d_RF_undo_0 rfl (lv_at hl 0 rfl) ?_
    refine gf_RF_66 (v := .int v_up) hx hb hts hN hown hK hP 0 rfl rfl d_RF_undo_1 ?_
    refine lv_if_ne (tgt := 9) hx hb d_RF_undo_4 rfl (fun hc => ?_) (fun hc => ?_)
    · have hf := pu_br_neg hf hc
      refine lv_aload_n hx hb d_RF_undo_9 rfl (lv_at hl 0 rfl) ?_
      refine gf_RF_19 (v := .ref q_now) hx hb hts hN hown hK hP 0 rfl rfl d_RF_undo_10 ?_
      refine lv_aload_n hx hb d_RF_undo_13 rfl (lv_at hl 0 rfl) ?_
      refine gf_RF_29 (v := .ref q_disk) hx hb hts hN hown hK hP 0 rfl rfl d_RF_undo_14 ?_
      refine gf_RF_58 (v := .ref q_disk_file) hx hb hts hN hown hK hP 3 rfl rfl d_RF_undo_17 ?_
      obtain ⟨w2, w3, hc, hf⟩ := pu_b2_some hf
      refine cl_v (WC := [(q_now, .inr (0, [.ref q_now_bytes, .int v_now_count])), (q_now_bytes, .inl (cB, 1536, .inl v_now_bytes)), (q_disk_file, .inr (0, [.ref q_disk_file_bytes, .int v_disk_file_count])), (q_disk_file_bytes, .inl (cB, 1536, .inl v_disk_file_bytes))]) (WC2 := [(q_now, .inr (0, [.ref q_now_bytes, .int w2])), (q_now_bytes, .inl (cB, 1536, .inl w3)), (q_disk_file, .inr (0, [.ref q_disk_file_bytes, .int v_disk_file_count])), (q_disk_file_bytes, .inl (cB, 1536, .inl v_disk_file_bytes))]) (WR := [(q_this, .inr (7, [.ref q_draft, .ref q_now, .ref q_before, .ref q_disk, .ref q_row, .ref q_node, .ref q_tree, .ref q_check, .int v_up, .int v_armed])), (q_disk, .inr (4, [.ref q_disk_file, .ref q_disk_records, .ref q_disk_recorded, .ref q_disk_different, .int v_disk_headThere, .int v_disk_headPages, .int v_disk_headRecords]))]) (WS2 := [(q_this, .inr (7, [.ref q_draft, .ref q_now, .ref q_before, .ref q_disk, .ref q_row, .ref q_node, .ref q_tree, .ref q_check, .int v_up, .int v_armed])), (q_now, .inr (0, [.ref q_now_bytes, .int w2])), (q_now_bytes, .inl (cB, 1536, .inl w3)), (q_disk, .inr (4, [.ref q_disk_file, .ref q_disk_records, .ref q_disk_recorded, .ref q_disk_different, .int v_disk_headThere, .int v_disk_headPages, .int v_disk_headRecords])), (q_disk_file, .inr (0, [.ref q_disk_file_bytes, .int v_disk_file_count])), (q_disk_file_bytes, .inl (cB, 1536, .inl v_disk_file_bytes))]) (pu_rv (cl := pu_cl) (pu_in2 _ (List.mem_of_getElem? (i := 33) rfl)) (pu_in2 _ (List.mem_of_getElem? (i := 34) rfl)) (pu_in2 _ (List.mem_of_getElem? (i := 35) rfl)) (pu_in0 _ (List.mem_of_getElem? (i := 3) rfl)) (pu_in2 _ (List.mem_of_getElem? (i := 36) rfl)) (ci := 0) rfl hd_Pages_copyAll (by decide) ⟨rfl, rfl⟩ rfl rfl (Nat.le_of_ble_eq_true rfl) rfl (As := [.ref q_disk_file]) (rest := []) (WC := [(q_now, .inr (0, [.ref q_now_bytes, .int v_now_count])), (q_now_bytes, .inl (cB, 1536, .inl v_now_bytes)), (q_disk_file, .inr (0, [.ref q_disk_file_bytes, .int v_disk_file_count])), (q_disk_file_bytes, .inl (cB, 1536, .inl v_disk_file_bytes))]) hx hb hml hown hts hN hK hP hD (c_Pages_copyAll l D cI cJ cB cZ H.size q_now q_now_bytes q_disk_file q_disk_file_bytes v_now_count v_now_bytes v_disk_file_count v_disk_file_bytes w2 w3 hc) [1, 2, 4, 5] rfl rfl hl.1 d_RF_undo_20) hP hD hS hA [1, 2, 4, 5] [0, 3] [0, 2, 3, 1, 4, 5] rfl rfl rfl (by decide) rfl rfl (fun H locs hP hD hS => ?_)
      refine lv_iconst (v := 1) hx hb d_RF_undo_23 rfl ?_
      exact hret _ _ _ _ (1 : Int32) w2 w3 d_RF_undo_24 (by decide) hP hD hS hf
    have hf := pu_br_pos hf hc
    refine lv_iconst (v := 0) hx hb d_RF_undo_7 rfl ?_
    exact hret _ _ _ _ (0 : Int32) v_now_count v_now_bytes d_RF_undo_8 (by decide) hP hD hS hf
  rw [hH, hlocs] at goal
  exact goal
theorem d_RF_crash_0 : decode b_RF_crash 0 = .ok (.aload_n 0, 1) := by decide +kernel
theorem d_RF_crash_1 : decode b_RF_crash 1 = .ok (.getfield 66, 3) := by decide +kernel
theorem d_RF_crash_4 : decode b_RF_crash 4 = .ok (.ifCond .ne 5, 3) := by decide +kernel
theorem d_RF_crash_7 : decode b_RF_crash 7 = .ok (.iconst 0, 1) := by decide +kernel
theorem d_RF_crash_8 : decode b_RF_crash 8 = .ok (.ireturn, 1) := by decide +kernel
theorem d_RF_crash_9 : decode b_RF_crash 9 = .ok (.aload_n 0, 1) := by decide +kernel
theorem d_RF_crash_10 : decode b_RF_crash 10 = .ok (.invokevirtual 130, 3) := by decide +kernel
theorem d_RF_crash_13 : decode b_RF_crash 13 = .ok (.iconst 1, 1) := by decide +kernel
theorem d_RF_crash_14 : decode b_RF_crash 14 = .ok (.ireturn, 1) := by decide +kernel
noncomputable def f_RF_crash (v_up : Int32) (v_armed : Int32) : Option (Int32 × Int32 × Int32) :=
  pu_br (v_up = 0) (some ((0 : Int32), v_up, v_armed)) (pu_b2 (f_RF_goDown v_up v_armed) (fun w2 w3 => some ((1 : Int32), w2, w3)))
abbrev rm_RF_crash : Room := { frames := 1, cells := 0, slots := 0, locals := 20 }
set_option maxHeartbeats 8000000 in
set_option maxRecDepth 100000 in
theorem c_RF_crash (l : Launch) (D : va_G) (cI cJ cB cZ : ClassId) (sz : Nat) (q_this : Nat) (q_draft : Nat) (q_now : Nat) (q_before : Nat) (q_disk : Nat) (q_row : Nat) (q_node : Nat) (q_tree : Nat) (q_check : Nat) (v_up : Int32) (v_armed : Int32) (o_r : Int32) (o_up : Int32) (o_armed : Int32) (hf : f_RF_crash v_up v_armed = some (o_r, o_up, o_armed)) : Met l y_RF_crash (.code y_RF_crash b_RF_crash 1 (some .boolean) :: pu_wA) rm_RF_crash (pu_pc D pu_cl (pu_ty cI cJ cB cZ) [.ref q_this] [(q_this, .inr (7, [.ref q_draft, .ref q_now, .ref q_before, .ref q_disk, .ref q_row, .ref q_node, .ref q_tree, .ref q_check, .int v_up, .int v_armed]))] sz) (pu_qi D pu_cl (pu_ty cI cJ cB cZ) [(q_this, .inr (7, [.ref q_draft, .ref q_now, .ref q_before, .ref q_disk, .ref q_row, .ref q_node, .ref q_tree, .ref q_check, .int v_up, .int v_armed]))] [(q_this, .inr (7, [.ref q_draft, .ref q_now, .ref q_before, .ref q_disk, .ref q_row, .ref q_node, .ref q_tree, .ref q_check, .int o_up, .int o_armed]))] sz o_r) 0 0 (va_A [(q_this, .inr (7, [.ref q_draft, .ref q_now, .ref q_before, .ref q_disk, .ref q_row, .ref q_node, .ref q_tree, .ref q_check, .int v_up, .int v_armed]))] sz) := by
  refine pu_mtz [.ref q_this] [(q_this, .inr (7, [.ref q_draft, .ref q_now, .ref q_before, .ref q_disk, .ref q_row, .ref q_node, .ref q_tree, .ref q_check, .int v_up, .int v_armed]))] [(q_this, .inr (7, [.ref q_draft, .ref q_now, .ref q_before, .ref q_disk, .ref q_row, .ref q_node, .ref q_tree, .ref q_check, .int o_up, .int o_armed]))] o_r (by decide) (Nat.le_of_ble_eq_true rfl) ?_
  intro p e s m args below meth c A Q ls hx hb hml hts hN hown hK hA hP hD hl hret0
  have hS : va_S A s.heap s.heap [] := va_S.rf
  have hl : lv_has ls 1 [(0, .ref q_this)] := hl
  have hret : ∀ (pc : Nat) (ls : Array Slot) (H : Heap) (locs : List Loc) (y_0 : Int32) (y_1 : Int32) (y_2 : Int32), decode b_RF_crash pc = .ok (.ireturn, 1) → narrow .boolean (.int y_0) = .int y_0 → va_P D pu_cl [(q_this, .inr (7, [.ref q_draft, .ref q_now, .ref q_before, .ref q_disk, .ref q_row, .ref q_node, .ref q_tree, .ref q_check, .int y_1, .int y_2]))] H → va_D A [(q_this, .inr (7, [.ref q_draft, .ref q_now, .ref q_before, .ref q_disk, .ref q_row, .ref q_node, .ref q_tree, .ref q_check, .int y_1, .int y_2]))] → va_S A s.heap H locs → some (y_0, y_1, y_2) = some (o_r, o_up, o_armed) → W p l e rm_RF_crash s m args below meth c H locs 0 0 Q (F0 m pc ls [.int y_0]) := by
    intro pc ls H locs y_0 y_1 y_2 hd hz hP hD hS hf
    cases hf
    exact hret0 pc ls H locs hd hz hP hD hS
  clear hret0
  unfold f_RF_crash at hf
  skip
  obtain ⟨H, hH⟩ : ∃ H, H = s.heap := ⟨_, rfl⟩
  obtain ⟨locs, hlocs⟩ : ∃ locs : List Loc, locs = [] := ⟨_, rfl⟩
  have hP : va_P D pu_cl [(q_this, .inr (7, [.ref q_draft, .ref q_now, .ref q_before, .ref q_disk, .ref q_row, .ref q_node, .ref q_tree, .ref q_check, .int v_up, .int v_armed]))] H := by rw [hH]; exact hP
  have hS : va_S A s.heap H locs := by rw [hH, hlocs]; exact hS
  have goal : W p l e rm_RF_crash s m args below meth c H locs 0 0 Q (F0 m 0 ls []) := by
    clear hH hlocs
    refine lv_aload_n hx hb d_RF_crash_0 rfl (lv_at hl 0 rfl) ?_
    refine gf_RF_66 (v := .int v_up) hx hb hts hN hown hK hP 0 rfl rfl d_RF_crash_1 ?_
    refine lv_if_ne (tgt := 9) hx hb d_RF_crash_4 rfl (fun hc => ?_) (fun hc => ?_)
    · have hf := pu_br_neg hf hc
      refine lv_aload_n hx hb d_RF_crash_9 rfl (lv_at hl 0 rfl) ?_
      obtain ⟨w2, w3, hc, hf⟩ := pu_b2_some hf
      refine cl_v (WC := [(q_this, .inr (7, [.ref q_draft, .ref q_now, .ref q_before, .ref q_disk, .ref q_row, .ref q_node, .ref q_tree, .ref q_check, .int v_up, .int v_armed]))]) (WC2 := [(q_this, .inr (7, [.ref q_draft, .ref q_now, .ref q_before, .ref q_disk, .ref q_row, .ref q_node, .ref q_tree, .ref q_check, .int w2, .int w3]))]) (WR := []) (WS2 := [(q_this, .inr (7, [.ref q_draft, .ref q_now, .ref q_before, .ref q_disk, .ref q_row, .ref q_node, .ref q_tree, .ref q_check, .int w2, .int w3]))]) (pu_rv (cl := pu_cl) (pu_in6 _ (List.mem_of_getElem? (i := 47) rfl)) (pu_in6 _ (List.mem_of_getElem? (i := 48) rfl)) (pu_in13 _ (List.mem_of_getElem? (i := 61) rfl)) (pu_in0 _ (List.mem_of_getElem? (i := 1) rfl)) (pu_in6 _ (List.mem_of_getElem? (i := 49) rfl)) (ci := 7) rfl hd_RF_goDown (by decide) ⟨rfl, rfl⟩ rfl rfl (Nat.le_of_ble_eq_true rfl) rfl (As := []) (rest := []) (WC := [(q_this, .inr (7, [.ref q_draft, .ref q_now, .ref q_before, .ref q_disk, .ref q_row, .ref q_node, .ref q_tree, .ref q_check, .int v_up, .int v_armed]))]) hx hb hml hown hts hN hK hP hD (c_RF_goDown l D cI cJ cB cZ H.size q_this q_draft q_now q_before q_disk q_row q_node q_tree q_check v_up v_armed w2 w3 hc) [0] rfl rfl hl.1 d_RF_crash_10) hP hD hS hA [0] [] [0] rfl rfl rfl (by decide) rfl rfl (fun H locs hP hD hS => ?_)
      refine lv_iconst (v := 1) hx hb d_RF_crash_13 rfl ?_
      exact hret _ _ _ _ (1 : Int32) w2 w3 d_RF_crash_14 (by decide) hP hD hS hf
    have hf := pu_br_pos hf hc
    refine lv_iconst (v := 0) hx hb d_RF_crash_7 rfl ?_
    exact hret _ _ _ _ (0 : Int32) v_up v_armed d_RF_crash_8 (by decide) hP hD hS hf
  rw [hH, hlocs] at goal
  exact goal
theorem d_RF_arm_0 : decode b_RF_arm 0 = .ok (.aload_n 0, 1) := by decide +kernel
theorem d_RF_arm_1 : decode b_RF_arm 1 = .ok (.getfield 66, 3) := by decide +kernel
theorem d_RF_arm_4 : decode b_RF_arm 4 = .ok (.ifCond .eq 13, 3) := by decide +kernel
theorem d_RF_arm_7 : decode b_RF_arm 7 = .ok (.iload_n 1, 1) := by decide +kernel
theorem d_RF_arm_8 : decode b_RF_arm 8 = .ok (.ifCond .lt 9, 3) := by decide +kernel
theorem d_RF_arm_11 : decode b_RF_arm 11 = .ok (.iload_n 1, 1) := by decide +kernel
theorem d_RF_arm_12 : decode b_RF_arm 12 = .ok (.bipush 60, 2) := by decide +kernel
theorem d_RF_arm_14 : decode b_RF_arm 14 = .ok (.if_icmp .le 5, 3) := by decide +kernel
theorem d_RF_arm_17 : decode b_RF_arm 17 = .ok (.iconst 0, 1) := by decide +kernel
theorem d_RF_arm_18 : decode b_RF_arm 18 = .ok (.ireturn, 1) := by decide +kernel
theorem d_RF_arm_19 : decode b_RF_arm 19 = .ok (.aload_n 0, 1) := by decide +kernel
theorem d_RF_arm_20 : decode b_RF_arm 20 = .ok (.iload_n 1, 1) := by decide +kernel
theorem d_RF_arm_21 : decode b_RF_arm 21 = .ok (.putfield 70, 3) := by decide +kernel
theorem d_RF_arm_24 : decode b_RF_arm 24 = .ok (.iconst 1, 1) := by decide +kernel
theorem d_RF_arm_25 : decode b_RF_arm 25 = .ok (.ireturn, 1) := by decide +kernel
noncomputable def f_RF_arm (v_up : Int32) (v_armed : Int32) (x_1 : Int32) : Option (Int32 × Int32) :=
  pu_br (v_up = 0) (some ((0 : Int32), v_armed)) (pu_br (x_1 < 0) (some ((0 : Int32), v_armed)) (pu_br (x_1 ≤ (60 : Int32)) (some ((1 : Int32), x_1)) (some ((0 : Int32), v_armed))))
abbrev rm_RF_arm : Room := { frames := 0, cells := 0, slots := 0, locals := 0 }
set_option maxHeartbeats 8000000 in
set_option maxRecDepth 100000 in
theorem c_RF_arm (l : Launch) (D : va_G) (cI cJ cB cZ : ClassId) (sz : Nat) (q_this : Nat) (q_draft : Nat) (q_now : Nat) (q_before : Nat) (q_disk : Nat) (q_row : Nat) (q_node : Nat) (q_tree : Nat) (q_check : Nat) (v_up : Int32) (v_armed : Int32) (x_1 : Int32) (o_r : Int32) (o_armed : Int32) (hf : f_RF_arm v_up v_armed x_1 = some (o_r, o_armed)) : Met l y_RF_arm (.code y_RF_arm b_RF_arm 2 (some .boolean) :: pu_wA) rm_RF_arm (pu_pc D pu_cl (pu_ty cI cJ cB cZ) [.ref q_this, .int x_1] [(q_this, .inr (7, [.ref q_draft, .ref q_now, .ref q_before, .ref q_disk, .ref q_row, .ref q_node, .ref q_tree, .ref q_check, .int v_up, .int v_armed]))] sz) (pu_qi D pu_cl (pu_ty cI cJ cB cZ) [(q_this, .inr (7, [.ref q_draft, .ref q_now, .ref q_before, .ref q_disk, .ref q_row, .ref q_node, .ref q_tree, .ref q_check, .int v_up, .int v_armed]))] [(q_this, .inr (7, [.ref q_draft, .ref q_now, .ref q_before, .ref q_disk, .ref q_row, .ref q_node, .ref q_tree, .ref q_check, .int v_up, .int o_armed]))] sz o_r) 0 0 (va_A [(q_this, .inr (7, [.ref q_draft, .ref q_now, .ref q_before, .ref q_disk, .ref q_row, .ref q_node, .ref q_tree, .ref q_check, .int v_up, .int v_armed]))] sz) := by
  refine pu_mtz [.ref q_this, .int x_1] [(q_this, .inr (7, [.ref q_draft, .ref q_now, .ref q_before, .ref q_disk, .ref q_row, .ref q_node, .ref q_tree, .ref q_check, .int v_up, .int v_armed]))] [(q_this, .inr (7, [.ref q_draft, .ref q_now, .ref q_before, .ref q_disk, .ref q_row, .ref q_node, .ref q_tree, .ref q_check, .int v_up, .int o_armed]))] o_r (by decide) (Nat.le_of_ble_eq_true rfl) ?_
  intro p e s m args below meth c A Q ls hx hb hml hts hN hown hK hA hP hD hl hret0
  have hS : va_S A s.heap s.heap [] := va_S.rf
  have hl : lv_has ls 2 [(0, .ref q_this), (1, .int x_1)] := hl
  have hret : ∀ (pc : Nat) (ls : Array Slot) (H : Heap) (locs : List Loc) (y_0 : Int32) (y_1 : Int32), decode b_RF_arm pc = .ok (.ireturn, 1) → narrow .boolean (.int y_0) = .int y_0 → va_P D pu_cl [(q_this, .inr (7, [.ref q_draft, .ref q_now, .ref q_before, .ref q_disk, .ref q_row, .ref q_node, .ref q_tree, .ref q_check, .int v_up, .int y_1]))] H → va_D A [(q_this, .inr (7, [.ref q_draft, .ref q_now, .ref q_before, .ref q_disk, .ref q_row, .ref q_node, .ref q_tree, .ref q_check, .int v_up, .int y_1]))] → va_S A s.heap H locs → some (y_0, y_1) = some (o_r, o_armed) → W p l e rm_RF_arm s m args below meth c H locs 0 0 Q (F0 m pc ls [.int y_0]) := by
    intro pc ls H locs y_0 y_1 hd hz hP hD hS hf
    cases hf
    exact hret0 pc ls H locs hd hz hP hD hS
  clear hret0
  unfold f_RF_arm at hf
  skip
  obtain ⟨H, hH⟩ : ∃ H, H = s.heap := ⟨_, rfl⟩
  obtain ⟨locs, hlocs⟩ : ∃ locs : List Loc, locs = [] := ⟨_, rfl⟩
  have hP : va_P D pu_cl [(q_this, .inr (7, [.ref q_draft, .ref q_now, .ref q_before, .ref q_disk, .ref q_row, .ref q_node, .ref q_tree, .ref q_check, .int v_up, .int v_armed]))] H := by rw [hH]; exact hP
  have hS : va_S A s.heap H locs := by rw [hH, hlocs]; exact hS
  have goal : W p l e rm_RF_arm s m args below meth c H locs 0 0 Q (F0 m 0 ls []) := by
    clear hH hlocs
    refine lv_aload_n hx hb d_RF_arm_0 rfl (lv_at hl 0 rfl) ?_
    refine gf_RF_66 (v := .int v_up) hx hb hts hN hown hK hP 0 rfl rfl d_RF_arm_1 ?_
    refine lv_if_eq (tgt := 17) hx hb d_RF_arm_4 rfl (fun hc => ?_) (fun hc => ?_)
    · have hf := pu_br_pos hf hc
      refine lv_iconst (v := 0) hx hb d_RF_arm_17 rfl ?_
      exact hret _ _ _ _ (0 : Int32) v_armed d_RF_arm_18 (by decide) hP hD hS hf
    have hf := pu_br_neg hf hc
    refine lv_iload_n hx hb d_RF_arm_7 rfl (lv_at hl 1 rfl) ?_
    refine lv_if_lt (tgt := 17) hx hb d_RF_arm_8 rfl (fun hc => ?_) (fun hc => ?_)
    · have hf := pu_br_pos hf hc
      refine lv_iconst (v := 0) hx hb d_RF_arm_17 rfl ?_
      exact hret _ _ _ _ (0 : Int32) v_armed d_RF_arm_18 (by decide) hP hD hS hf
    have hf := pu_br_neg hf hc
    refine lv_iload_n hx hb d_RF_arm_11 rfl (lv_at hl 1 rfl) ?_
    refine lv_bipush (v := 60) hx hb d_RF_arm_12 rfl ?_
    refine lv_icmp_le (tgt := 19) hx hb d_RF_arm_14 rfl (fun hc => ?_) (fun hc => ?_)
    · have hf := pu_br_pos hf hc
      refine lv_aload_n hx hb d_RF_arm_19 rfl (lv_at hl 0 rfl) ?_
      refine lv_iload_n hx hb d_RF_arm_20 rfl (lv_at hl 1 rfl) ?_
      refine pf_RF_70 (v := .int x_1) hx hb hts hN hown hK hP hD hS 0 rfl rfl rfl (Nat.le_of_ble_eq_true rfl) d_RF_arm_21 (fun H locs hP hD hS => ?_)
      have hP : va_P D pu_cl [(q_this, .inr (7, [.ref q_draft, .ref q_now, .ref q_before, .ref q_disk, .ref q_row, .ref q_node, .ref q_tree, .ref q_check, .int v_up, .int x_1]))] H := hP
      have hD : va_D A [(q_this, .inr (7, [.ref q_draft, .ref q_now, .ref q_before, .ref q_disk, .ref q_row, .ref q_node, .ref q_tree, .ref q_check, .int v_up, .int x_1]))] := hD
      refine lv_iconst (v := 1) hx hb d_RF_arm_24 rfl ?_
      exact hret _ _ _ _ (1 : Int32) x_1 d_RF_arm_25 (by decide) hP hD hS hf
    have hf := pu_br_neg hf hc
    refine lv_iconst (v := 0) hx hb d_RF_arm_17 rfl ?_
    exact hret _ _ _ _ (0 : Int32) v_armed d_RF_arm_18 (by decide) hP hD hS hf
  rw [hH, hlocs] at goal
  exact goal
theorem d_Disk_rollBack_0 : decode b_Disk_rollBack 0 = .ok (.aload_n 0, 1) := by decide +kernel
theorem d_Disk_rollBack_1 : decode b_Disk_rollBack 1 = .ok (.getfield 56, 3) := by decide +kernel
theorem d_Disk_rollBack_4 : decode b_Disk_rollBack 4 = .ok (.ifCond .ne 4, 3) := by decide +kernel
theorem d_Disk_rollBack_7 : decode b_Disk_rollBack 7 = .ok (.return_, 1) := by decide +kernel
theorem d_Disk_rollBack_8 : decode b_Disk_rollBack 8 = .ok (.aload_n 0, 1) := by decide +kernel
theorem d_Disk_rollBack_9 : decode b_Disk_rollBack 9 = .ok (.getfield 12, 3) := by decide +kernel
theorem d_Disk_rollBack_12 : decode b_Disk_rollBack 12 = .ok (.aload_n 0, 1) := by decide +kernel
theorem d_Disk_rollBack_13 : decode b_Disk_rollBack 13 = .ok (.getfield 60, 3) := by decide +kernel
theorem d_Disk_rollBack_16 : decode b_Disk_rollBack 16 = .ok (.putfield 28, 3) := by decide +kernel
theorem d_Disk_rollBack_19 : decode b_Disk_rollBack 19 = .ok (.iconst 1, 1) := by decide +kernel
theorem d_Disk_rollBack_20 : decode b_Disk_rollBack 20 = .ok (.istore_n 1, 1) := by decide +kernel
theorem d_Disk_rollBack_21 : decode b_Disk_rollBack 21 = .ok (.iload_n 1, 1) := by decide +kernel
theorem d_Disk_rollBack_22 : decode b_Disk_rollBack 22 = .ok (.bipush 24, 2) := by decide +kernel
theorem d_Disk_rollBack_24 : decode b_Disk_rollBack 24 = .ok (.if_icmp .gt 33, 3) := by decide +kernel
theorem d_Disk_rollBack_27 : decode b_Disk_rollBack 27 = .ok (.aload_n 0, 1) := by decide +kernel
theorem d_Disk_rollBack_28 : decode b_Disk_rollBack 28 = .ok (.getfield 21, 3) := by decide +kernel
theorem d_Disk_rollBack_31 : decode b_Disk_rollBack 31 = .ok (.iload_n 1, 1) := by decide +kernel
theorem d_Disk_rollBack_32 : decode b_Disk_rollBack 32 = .ok (.baload, 1) := by decide +kernel
theorem d_Disk_rollBack_33 : decode b_Disk_rollBack 33 = .ok (.ifCond .eq 18, 3) := by decide +kernel
theorem d_Disk_rollBack_36 : decode b_Disk_rollBack 36 = .ok (.aload_n 0, 1) := by decide +kernel
theorem d_Disk_rollBack_37 : decode b_Disk_rollBack 37 = .ok (.getfield 12, 3) := by decide +kernel
theorem d_Disk_rollBack_40 : decode b_Disk_rollBack 40 = .ok (.iload_n 1, 1) := by decide +kernel
theorem d_Disk_rollBack_41 : decode b_Disk_rollBack 41 = .ok (.aload_n 0, 1) := by decide +kernel
theorem d_Disk_rollBack_42 : decode b_Disk_rollBack 42 = .ok (.getfield 18, 3) := by decide +kernel
theorem d_Disk_rollBack_45 : decode b_Disk_rollBack 45 = .ok (.iload_n 1, 1) := by decide +kernel
theorem d_Disk_rollBack_46 : decode b_Disk_rollBack 46 = .ok (.bipush 64, 2) := by decide +kernel
theorem d_Disk_rollBack_48 : decode b_Disk_rollBack 48 = .ok (.invokevirtual 43, 3) := by decide +kernel
theorem d_Disk_rollBack_51 : decode b_Disk_rollBack 51 = .ok (.iinc 1 1, 3) := by decide +kernel
theorem d_Disk_rollBack_54 : decode b_Disk_rollBack 54 = .ok (.goto (-33), 3) := by decide +kernel
theorem d_Disk_rollBack_57 : decode b_Disk_rollBack 57 = .ok (.aload_n 0, 1) := by decide +kernel
theorem d_Disk_rollBack_58 : decode b_Disk_rollBack 58 = .ok (.iconst 0, 1) := by decide +kernel
theorem d_Disk_rollBack_59 : decode b_Disk_rollBack 59 = .ok (.putfield 56, 3) := by decide +kernel
theorem d_Disk_rollBack_62 : decode b_Disk_rollBack 62 = .ok (.return_, 1) := by decide +kernel
noncomputable def q_Disk_rollBack_57 (v_headPages : Int32) (v_records_count : Int32) (v_records_bytes : Nat → Int32) (v_recorded : Nat → Int32) (v_headThere : Int32) (v_file_count : Int32) (v_file_bytes : Nat → Int32) : Option (Int32 × Int32 × (Nat → Int32)) :=
  some ((0 : Int32), v_file_count, v_file_bytes)
noncomputable def q_Disk_rollBack_51 (kb : (Nat → Int32) → Int32 → Option (Int32 × Int32 × (Nat → Int32))) (kx_57 : (Nat → Int32) → Option (Int32 × Int32 × (Nat → Int32))) (v_headPages : Int32) (v_records_count : Int32) (v_records_bytes : Nat → Int32) (v_recorded : Nat → Int32) (v_headThere : Int32) (v_file_count : Int32) (v_file_bytes : Nat → Int32) (x_1 : Int32) : Option (Int32 × Int32 × (Nat → Int32)) :=
  pu_nm (x_1 + (1 : Int32)) (fun t1 => kb v_file_bytes t1)
noncomputable def q_Disk_rollBack_21 (kx_57 : (Nat → Int32) → Option (Int32 × Int32 × (Nat → Int32))) (v_headPages : Int32) (v_records_count : Int32) (v_records_bytes : Nat → Int32) (v_recorded : Nat → Int32) (v_headThere : Int32) (v_file_count : Int32) : Nat → (Nat → Int32) → Int32 → Option (Int32 × Int32 × (Nat → Int32))
  | 0, _, _ => none
  | n + 1, v_file_bytes, x_1 => pu_br ((24 : Int32) < x_1) (kx_57 v_file_bytes) (pu_ck (vp_in x_1 25) (pu_br ((v_recorded x_1.toNatClampNeg) = 0) (q_Disk_rollBack_51 (q_Disk_rollBack_21 kx_57 v_headPages v_records_count v_records_bytes v_recorded v_headThere v_file_count n) kx_57 v_headPages v_records_count v_records_bytes v_recorded v_headThere v_file_count v_file_bytes x_1) (pu_b1 (f_Pages_copyPage v_file_count v_records_count v_records_bytes v_file_bytes x_1 x_1 (64 : Int32)) (fun w3 => q_Disk_rollBack_51 (q_Disk_rollBack_21 kx_57 v_headPages v_records_count v_records_bytes v_recorded v_headThere v_file_count n) kx_57 v_headPages v_records_count v_records_bytes v_recorded v_headThere v_file_count w3 x_1))))
noncomputable def f_Disk_rollBack (v_headPages : Int32) (v_records_count : Int32) (v_records_bytes : Nat → Int32) (v_recorded : Nat → Int32) (v_headThere : Int32) (v_file_count : Int32) (v_file_bytes : Nat → Int32) : Option (Int32 × Int32 × (Nat → Int32)) :=
  pu_br (v_headThere = 0) (some (v_headThere, v_file_count, v_file_bytes)) (q_Disk_rollBack_21 (fun v_file_bytes => q_Disk_rollBack_57 v_headPages v_records_count v_records_bytes v_recorded v_headThere v_headPages v_file_bytes) v_headPages v_records_count v_records_bytes v_recorded v_headThere v_headPages pu_fu v_file_bytes (1 : Int32))
abbrev rm_Disk_rollBack : Room := { frames := 2, cells := 0, slots := 0, locals := 92 }
set_option maxHeartbeats 8000000 in
set_option maxRecDepth 100000 in
theorem c_Disk_rollBack (l : Launch) (D : va_G) (cI cJ cB cZ : ClassId) (sz : Nat) (q_this : Nat) (q_file : Nat) (q_records : Nat) (q_recorded : Nat) (q_different : Nat) (q_file_bytes : Nat) (q_records_bytes : Nat) (v_headThere : Int32) (v_headPages : Int32) (v_headRecords : Int32) (v_file_count : Int32) (v_file_bytes : Nat → Int32) (v_records_count : Int32) (v_records_bytes : Nat → Int32) (v_recorded : Nat → Int32) (o_headThere : Int32) (o_file_count : Int32) (o_file_bytes : Nat → Int32) (hf : f_Disk_rollBack v_headPages v_records_count v_records_bytes v_recorded v_headThere v_file_count v_file_bytes = some (o_headThere, o_file_count, o_file_bytes)) : Met l y_Disk_rollBack (.code y_Disk_rollBack b_Disk_rollBack 2 none :: pu_wA) rm_Disk_rollBack (pu_pc D pu_cl (pu_ty cI cJ cB cZ) [.ref q_this] [(q_this, .inr (4, [.ref q_file, .ref q_records, .ref q_recorded, .ref q_different, .int v_headThere, .int v_headPages, .int v_headRecords])), (q_file, .inr (0, [.ref q_file_bytes, .int v_file_count])), (q_file_bytes, .inl (cB, 1536, .inl v_file_bytes)), (q_records, .inr (0, [.ref q_records_bytes, .int v_records_count])), (q_records_bytes, .inl (cB, 1536, .inl v_records_bytes)), (q_recorded, .inl (cZ, 25, .inl v_recorded))] sz) (pu_qv D pu_cl (pu_ty cI cJ cB cZ) [(q_this, .inr (4, [.ref q_file, .ref q_records, .ref q_recorded, .ref q_different, .int v_headThere, .int v_headPages, .int v_headRecords])), (q_file, .inr (0, [.ref q_file_bytes, .int v_file_count])), (q_file_bytes, .inl (cB, 1536, .inl v_file_bytes)), (q_records, .inr (0, [.ref q_records_bytes, .int v_records_count])), (q_records_bytes, .inl (cB, 1536, .inl v_records_bytes)), (q_recorded, .inl (cZ, 25, .inl v_recorded))] [(q_this, .inr (4, [.ref q_file, .ref q_records, .ref q_recorded, .ref q_different, .int o_headThere, .int v_headPages, .int v_headRecords])), (q_file, .inr (0, [.ref q_file_bytes, .int o_file_count])), (q_file_bytes, .inl (cB, 1536, .inl o_file_bytes)), (q_records, .inr (0, [.ref q_records_bytes, .int v_records_count])), (q_records_bytes, .inl (cB, 1536, .inl v_records_bytes)), (q_recorded, .inl (cZ, 25, .inl v_recorded))] sz) 0 0 (va_A [(q_this, .inr (4, [.ref q_file, .ref q_records, .ref q_recorded, .ref q_different, .int v_headThere, .int v_headPages, .int v_headRecords])), (q_file, .inr (0, [.ref q_file_bytes, .int v_file_count])), (q_file_bytes, .inl (cB, 1536, .inl v_file_bytes)), (q_records, .inr (0, [.ref q_records_bytes, .int v_records_count])), (q_records_bytes, .inl (cB, 1536, .inl v_records_bytes)), (q_recorded, .inl (cZ, 25, .inl v_recorded))] sz) := by
  refine pu_mtv [.ref q_this] [(q_this, .inr (4, [.ref q_file, .ref q_records, .ref q_recorded, .ref q_different, .int v_headThere, .int v_headPages, .int v_headRecords])), (q_file, .inr (0, [.ref q_file_bytes, .int v_file_count])), (q_file_bytes, .inl (cB, 1536, .inl v_file_bytes)), (q_records, .inr (0, [.ref q_records_bytes, .int v_records_count])), (q_records_bytes, .inl (cB, 1536, .inl v_records_bytes)), (q_recorded, .inl (cZ, 25, .inl v_recorded))] [(q_this, .inr (4, [.ref q_file, .ref q_records, .ref q_recorded, .ref q_different, .int o_headThere, .int v_headPages, .int v_headRecords])), (q_file, .inr (0, [.ref q_file_bytes, .int o_file_count])), (q_file_bytes, .inl (cB, 1536, .inl o_file_bytes)), (q_records, .inr (0, [.ref q_records_bytes, .int v_records_count])), (q_records_bytes, .inl (cB, 1536, .inl v_records_bytes)), (q_recorded, .inl (cZ, 25, .inl v_recorded))] (by decide) (Nat.le_of_ble_eq_true rfl) ?_
  intro p e s m args below meth c A Q ls hx hb hml hts hN hown hK hA hP hD hl hret0
  have hS : va_S A s.heap s.heap [] := va_S.rf
  have hl : lv_has ls 2 [(0, .ref q_this)] := hl
  have hret : ∀ (pc : Nat) (ls : Array Slot) (H : Heap) (locs : List Loc) (y_0 : Int32) (y_1 : Int32) (y_2 : Nat → Int32), decode b_Disk_rollBack pc = .ok (.return_, 1) → va_P D pu_cl [(q_this, .inr (4, [.ref q_file, .ref q_records, .ref q_recorded, .ref q_different, .int y_0, .int v_headPages, .int v_headRecords])), (q_file, .inr (0, [.ref q_file_bytes, .int y_1])), (q_file_bytes, .inl (cB, 1536, .inl y_2)), (q_records, .inr (0, [.ref q_records_bytes, .int v_records_count])), (q_records_bytes, .inl (cB, 1536, .inl v_records_bytes)), (q_recorded, .inl (cZ, 25, .inl v_recorded))] H → va_D A [(q_this, .inr (4, [.ref q_file, .ref q_records, .ref q_recorded, .ref q_different, .int y_0, .int v_headPages, .int v_headRecords])), (q_file, .inr (0, [.ref q_file_bytes, .int y_1])), (q_file_bytes, .inl (cB, 1536, .inl y_2)), (q_records, .inr (0, [.ref q_records_bytes, .int v_records_count])), (q_records_bytes, .inl (cB, 1536, .inl v_records_bytes)), (q_recorded, .inl (cZ, 25, .inl v_recorded))] → va_S A s.heap H locs → some (y_0, y_1, y_2) = some (o_headThere, o_file_count, o_file_bytes) → W p l e rm_Disk_rollBack s m args below meth c H locs 0 0 Q (F0 m pc ls []) := by
    intro pc ls H locs y_0 y_1 y_2 hd hP hD hS hf
    cases hf
    exact hret0 pc ls H locs hd hP hD hS
  clear hret0
  unfold f_Disk_rollBack at hf
  skip
  have lb_57 : ∀ (v_headThere : Int32) (v_file_count : Int32) (v_file_bytes : Nat → Int32) (H : Heap) (locs : List Loc) (ls : Array Slot), va_P D pu_cl [(q_this, .inr (4, [.ref q_file, .ref q_records, .ref q_recorded, .ref q_different, .int v_headThere, .int v_headPages, .int v_headRecords])), (q_file, .inr (0, [.ref q_file_bytes, .int v_file_count])), (q_file_bytes, .inl (cB, 1536, .inl v_file_bytes)), (q_records, .inr (0, [.ref q_records_bytes, .int v_records_count])), (q_records_bytes, .inl (cB, 1536, .inl v_records_bytes)), (q_recorded, .inl (cZ, 25, .inl v_recorded))] H → va_D A [(q_this, .inr (4, [.ref q_file, .ref q_records, .ref q_recorded, .ref q_different, .int v_headThere, .int v_headPages, .int v_headRecords])), (q_file, .inr (0, [.ref q_file_bytes, .int v_file_count])), (q_file_bytes, .inl (cB, 1536, .inl v_file_bytes)), (q_records, .inr (0, [.ref q_records_bytes, .int v_records_count])), (q_records_bytes, .inl (cB, 1536, .inl v_records_bytes)), (q_recorded, .inl (cZ, 25, .inl v_recorded))] → va_S A s.heap H locs → lv_has ls 2 [(0, .ref q_this)] → q_Disk_rollBack_57 v_headPages v_records_count v_records_bytes v_recorded v_headThere v_file_count v_file_bytes = some (o_headThere, o_file_count, o_file_bytes) → W p l e rm_Disk_rollBack s m args below meth c H locs 0 0 Q (F0 m 57 ls []) := by
    intro v_headThere v_file_count v_file_bytes H locs ls hP hD hS hl hf
    rw [q_Disk_rollBack_57] at hf
    refine lv_aload_n hx hb d_Disk_rollBack_57 rfl (lv_at hl 0 rfl) ?_
    refine lv_iconst (v := 0) hx hb d_Disk_rollBack_58 rfl ?_
    refine pf_Disk_56 (v := .int (0 : Int32)) hx hb hts hN hown hK hP hD hS 0 rfl (by decide) (by decide) (Nat.le_of_ble_eq_true rfl) d_Disk_rollBack_59 (fun H locs hP hD hS => ?_)
    have hP : va_P D pu_cl [(q_this, .inr (4, [.ref q_file, .ref q_records, .ref q_recorded, .ref q_different, .int (0 : Int32), .int v_headPages, .int v_headRecords])), (q_file, .inr (0, [.ref q_file_bytes, .int v_file_count])), (q_file_bytes, .inl (cB, 1536, .inl v_file_bytes)), (q_records, .inr (0, [.ref q_records_bytes, .int v_records_count])), (q_records_bytes, .inl (cB, 1536, .inl v_records_bytes)), (q_recorded, .inl (cZ, 25, .inl v_recorded))] H := hP
    have hD : va_D A [(q_this, .inr (4, [.ref q_file, .ref q_records, .ref q_recorded, .ref q_different, .int (0 : Int32), .int v_headPages, .int v_headRecords])), (q_file, .inr (0, [.ref q_file_bytes, .int v_file_count])), (q_file_bytes, .inl (cB, 1536, .inl v_file_bytes)), (q_records, .inr (0, [.ref q_records_bytes, .int v_records_count])), (q_records_bytes, .inl (cB, 1536, .inl v_records_bytes)), (q_recorded, .inl (cZ, 25, .inl v_recorded))] := hD
    exact hret _ _ _ _ (0 : Int32) v_file_count v_file_bytes d_Disk_rollBack_62 hP hD hS hf
  have lp_21 : ∀ (v_headThere : Int32) (v_file_count : Int32) (n21 : Nat) (v_file_bytes : Nat → Int32) (x_1 : Int32) (H : Heap) (locs : List Loc) (ls : Array Slot), va_P D pu_cl [(q_this, .inr (4, [.ref q_file, .ref q_records, .ref q_recorded, .ref q_different, .int v_headThere, .int v_headPages, .int v_headRecords])), (q_file, .inr (0, [.ref q_file_bytes, .int v_file_count])), (q_file_bytes, .inl (cB, 1536, .inl v_file_bytes)), (q_records, .inr (0, [.ref q_records_bytes, .int v_records_count])), (q_records_bytes, .inl (cB, 1536, .inl v_records_bytes)), (q_recorded, .inl (cZ, 25, .inl v_recorded))] H → va_D A [(q_this, .inr (4, [.ref q_file, .ref q_records, .ref q_recorded, .ref q_different, .int v_headThere, .int v_headPages, .int v_headRecords])), (q_file, .inr (0, [.ref q_file_bytes, .int v_file_count])), (q_file_bytes, .inl (cB, 1536, .inl v_file_bytes)), (q_records, .inr (0, [.ref q_records_bytes, .int v_records_count])), (q_records_bytes, .inl (cB, 1536, .inl v_records_bytes)), (q_recorded, .inl (cZ, 25, .inl v_recorded))] → va_S A s.heap H locs → lv_has ls 2 [(0, .ref q_this), (1, .int x_1)] → q_Disk_rollBack_21 (fun v_file_bytes => q_Disk_rollBack_57 v_headPages v_records_count v_records_bytes v_recorded v_headThere v_file_count v_file_bytes) v_headPages v_records_count v_records_bytes v_recorded v_headThere v_file_count n21 v_file_bytes x_1 = some (o_headThere, o_file_count, o_file_bytes) → W p l e rm_Disk_rollBack s m args below meth c H locs 0 0 Q (F0 m 21 ls []) := by
    intro v_headThere v_file_count n21
    induction n21 with
    | zero =>
      intro v_file_bytes x_1 H locs ls hP hD hS hl hf
      rw [q_Disk_rollBack_21] at hf
      cases hf
    | succ n21 ih_21 =>
      have lb_51 : ∀ (v_file_bytes : Nat → Int32) (x_1 : Int32) (H : Heap) (locs : List Loc) (ls : Array Slot), va_P D pu_cl [(q_this, .inr (4, [.ref q_file, .ref q_records, .ref q_recorded, .ref q_different, .int v_headThere, .int v_headPages, .int v_headRecords])), (q_file, .inr (0, [.ref q_file_bytes, .int v_file_count])), (q_file_bytes, .inl (cB, 1536, .inl v_file_bytes)), (q_records, .inr (0, [.ref q_records_bytes, .int v_records_count])), (q_records_bytes, .inl (cB, 1536, .inl v_records_bytes)), (q_recorded, .inl (cZ, 25, .inl v_recorded))] H → va_D A [(q_this, .inr (4, [.ref q_file, .ref q_records, .ref q_recorded, .ref q_different, .int v_headThere, .int v_headPages, .int v_headRecords])), (q_file, .inr (0, [.ref q_file_bytes, .int v_file_count])), (q_file_bytes, .inl (cB, 1536, .inl v_file_bytes)), (q_records, .inr (0, [.ref q_records_bytes, .int v_records_count])), (q_records_bytes, .inl (cB, 1536, .inl v_records_bytes)), (q_recorded, .inl (cZ, 25, .inl v_recorded))] → va_S A s.heap H locs → lv_has ls 2 [(0, .ref q_this), (1, .int x_1)] → q_Disk_rollBack_51 (q_Disk_rollBack_21 (fun v_file_bytes => q_Disk_rollBack_57 v_headPages v_records_count v_records_bytes v_recorded v_headThere v_file_count v_file_bytes) v_headPages v_records_count v_records_bytes v_recorded v_headThere v_file_count n21) (fun v_file_bytes => q_Disk_rollBack_57 v_headPages v_records_count v_records_bytes v_recorded v_headThere v_file_count v_file_bytes) v_headPages v_records_count v_records_bytes v_recorded v_headThere v_file_count v_file_bytes x_1 = some (o_headThere, o_file_count, o_file_bytes) → W p l e rm_Disk_rollBack s m args below meth c H locs 0 0 Q (F0 m 51 ls []) := by
        intro v_file_bytes x_1 H locs ls hP hD hS hl hf
        rw [q_Disk_rollBack_51] at hf
        obtain ⟨t1, e_t1, hf⟩ := pu_nm_some hf
        refine lv_iinc (k := 1) (v := t1) hx hb d_Disk_rollBack_51 hl rfl e_t1.symm (by decide) rfl (fun ls hl => ?_)
        have hl : lv_has ls 2 [(1, .int t1), (0, .ref q_this)] := hl
        refine lv_goto (tgt := 21) hx hb d_Disk_rollBack_54 rfl ?_
        exact ih_21 v_file_bytes t1 H locs ls hP hD hS (lv_sub hl [1, 0] rfl) hf
      intro v_file_bytes x_1 H locs ls hP hD hS hl hf
      rw [q_Disk_rollBack_21] at hf
      refine lv_iload_n hx hb d_Disk_rollBack_21 rfl (lv_at hl 1 rfl) ?_
      refine lv_bipush (v := 24) hx hb d_Disk_rollBack_22 rfl ?_
      refine lv_icmp_gt (tgt := 57) hx hb d_Disk_rollBack_24 rfl (fun hc => ?_) (fun hc => ?_)
      · have hf := pu_br_pos hf hc
        exact lb_57 v_headThere v_file_count v_file_bytes H locs ls hP hD hS (lv_sub hl [0] rfl) hf
      have hf := pu_br_neg hf hc
      refine lv_aload_n hx hb d_Disk_rollBack_27 rfl (lv_at hl 0 rfl) ?_
      refine gf_Disk_21 (v := .ref q_recorded) hx hb hts hN hown hK hP 0 rfl rfl d_Disk_rollBack_28 ?_
      refine lv_iload_n hx hb d_Disk_rollBack_31 rfl (lv_at hl 1 rfl) ?_
      obtain ⟨hin, hf⟩ := pu_ck_some hf
      refine va_zald hx hb hK hP 5 3 rfl rfl hin d_Disk_rollBack_32 ?_
      refine lv_if_eq (tgt := 51) hx hb d_Disk_rollBack_33 rfl (fun hc => ?_) (fun hc => ?_)
      · have hf := pu_br_pos hf hc
        exact lb_51 v_file_bytes x_1 H locs ls hP hD hS (lv_sub hl [0, 1] rfl) hf
      have hf := pu_br_neg hf hc
      refine lv_aload_n hx hb d_Disk_rollBack_36 rfl (lv_at hl 0 rfl) ?_
      refine gf_Disk_12 (v := .ref q_file) hx hb hts hN hown hK hP 0 rfl rfl d_Disk_rollBack_37 ?_
      refine lv_iload_n hx hb d_Disk_rollBack_40 rfl (lv_at hl 1 rfl) ?_
      refine lv_aload_n hx hb d_Disk_rollBack_41 rfl (lv_at hl 0 rfl) ?_
      refine gf_Disk_18 (v := .ref q_records) hx hb hts hN hown hK hP 0 rfl rfl d_Disk_rollBack_42 ?_
      refine lv_iload_n hx hb d_Disk_rollBack_45 rfl (lv_at hl 1 rfl) ?_
      refine lv_bipush (v := 64) hx hb d_Disk_rollBack_46 rfl ?_
      obtain ⟨w3, hc, hf⟩ := pu_b1_some hf
      refine cl_v (WC := [(q_file, .inr (0, [.ref q_file_bytes, .int v_file_count])), (q_file_bytes, .inl (cB, 1536, .inl v_file_bytes)), (q_records, .inr (0, [.ref q_records_bytes, .int v_records_count])), (q_records_bytes, .inl (cB, 1536, .inl v_records_bytes))]) (WC2 := [(q_file, .inr (0, [.ref q_file_bytes, .int v_file_count])), (q_file_bytes, .inl (cB, 1536, .inl w3)), (q_records, .inr (0, [.ref q_records_bytes, .int v_records_count])), (q_records_bytes, .inl (cB, 1536, .inl v_records_bytes))]) (WR := [(q_this, .inr (4, [.ref q_file, .ref q_records, .ref q_recorded, .ref q_different, .int v_headThere, .int v_headPages, .int v_headRecords])), (q_recorded, .inl (cZ, 25, .inl v_recorded))]) (WS2 := [(q_this, .inr (4, [.ref q_file, .ref q_records, .ref q_recorded, .ref q_different, .int v_headThere, .int v_headPages, .int v_headRecords])), (q_file, .inr (0, [.ref q_file_bytes, .int v_file_count])), (q_file_bytes, .inl (cB, 1536, .inl w3)), (q_records, .inr (0, [.ref q_records_bytes, .int v_records_count])), (q_records_bytes, .inl (cB, 1536, .inl v_records_bytes)), (q_recorded, .inl (cZ, 25, .inl v_recorded))]) (pu_rv (cl := pu_cl) (pu_in6 _ (List.mem_of_getElem? (i := 23) rfl)) (pu_in5 _ (List.mem_of_getElem? (i := 49) rfl)) (pu_in5 _ (List.mem_of_getElem? (i := 50) rfl)) (pu_in0 _ (List.mem_of_getElem? (i := 3) rfl)) (pu_in5 _ (List.mem_of_getElem? (i := 51) rfl)) (ci := 0) rfl hd_Pages_copyPage (by decide) ⟨rfl, rfl⟩ rfl rfl (Nat.le_of_ble_eq_true rfl) rfl (As := [.int x_1, .ref q_records, .int x_1, .int (64 : Int32)]) (rest := []) (WC := [(q_file, .inr (0, [.ref q_file_bytes, .int v_file_count])), (q_file_bytes, .inl (cB, 1536, .inl v_file_bytes)), (q_records, .inr (0, [.ref q_records_bytes, .int v_records_count])), (q_records_bytes, .inl (cB, 1536, .inl v_records_bytes))]) hx hb hml hown hts hN hK hP hD (c_Pages_copyPage l D cI cJ cB cZ H.size q_file q_file_bytes q_records q_records_bytes v_file_count v_file_bytes v_records_count v_records_bytes x_1 x_1 (64 : Int32) w3 hc) [1, 2, 3, 4] rfl rfl hl.1 d_Disk_rollBack_48) hP hD hS hA [1, 2, 3, 4] [0, 5] [0, 2, 3, 4, 5, 1] rfl rfl rfl (by decide) rfl rfl (fun H locs hP hD hS => ?_)
      exact lb_51 w3 x_1 H locs ls hP hD hS (lv_sub hl [0, 1] rfl) hf
  obtain ⟨H, hH⟩ : ∃ H, H = s.heap := ⟨_, rfl⟩
  obtain ⟨locs, hlocs⟩ : ∃ locs : List Loc, locs = [] := ⟨_, rfl⟩
  have hP : va_P D pu_cl [(q_this, .inr (4, [.ref q_file, .ref q_records, .ref q_recorded, .ref q_different, .int v_headThere, .int v_headPages, .int v_headRecords])), (q_file, .inr (0, [.ref q_file_bytes, .int v_file_count])), (q_file_bytes, .inl (cB, 1536, .inl v_file_bytes)), (q_records, .inr (0, [.ref q_records_bytes, .int v_records_count])), (q_records_bytes, .inl (cB, 1536, .inl v_records_bytes)), (q_recorded, .inl (cZ, 25, .inl v_recorded))] H := by rw [hH]; exact hP
  have hS : va_S A s.heap H locs := by rw [hH, hlocs]; exact hS
  have goal : W p l e rm_Disk_rollBack s m args below meth c H locs 0 0 Q (F0 m 0 ls []) := by
    clear hH hlocs
    refine lv_aload_n hx hb d_Disk_rollBack_0 rfl (lv_at hl 0 rfl) ?_
    refine gf_Disk_56 (v := .int v_headThere) hx hb hts hN hown hK hP 0 rfl rfl d_Disk_rollBack_1 ?_
    refine lv_if_ne (tgt := 8) hx hb d_Disk_rollBack_4 rfl (fun hc => ?_) (fun hc => ?_)
    · have hf := pu_br_neg hf hc
      refine lv_aload_n hx hb d_Disk_rollBack_8 rfl (lv_at hl 0 rfl) ?_
      refine gf_Disk_12 (v := .ref q_file) hx hb hts hN hown hK hP 0 rfl rfl d_Disk_rollBack_9 ?_
      refine lv_aload_n hx hb d_Disk_rollBack_12 rfl (lv_at hl 0 rfl) ?_
      refine gf_Disk_60 (v := .int v_headPages) hx hb hts hN hown hK hP 0 rfl rfl d_Disk_rollBack_13 ?_
      refine pf_Disk_28 (v := .int v_headPages) hx hb hts hN hown hK hP hD hS 1 rfl rfl rfl (Nat.le_of_ble_eq_true rfl) d_Disk_rollBack_16 (fun H locs hP hD hS => ?_)
      have hP : va_P D pu_cl [(q_this, .inr (4, [.ref q_file, .ref q_records, .ref q_recorded, .ref q_different, .int v_headThere, .int v_headPages, .int v_headRecords])), (q_file, .inr (0, [.ref q_file_bytes, .int v_headPages])), (q_file_bytes, .inl (cB, 1536, .inl v_file_bytes)), (q_records, .inr (0, [.ref q_records_bytes, .int v_records_count])), (q_records_bytes, .inl (cB, 1536, .inl v_records_bytes)), (q_recorded, .inl (cZ, 25, .inl v_recorded))] H := hP
      have hD : va_D A [(q_this, .inr (4, [.ref q_file, .ref q_records, .ref q_recorded, .ref q_different, .int v_headThere, .int v_headPages, .int v_headRecords])), (q_file, .inr (0, [.ref q_file_bytes, .int v_headPages])), (q_file_bytes, .inl (cB, 1536, .inl v_file_bytes)), (q_records, .inr (0, [.ref q_records_bytes, .int v_records_count])), (q_records_bytes, .inl (cB, 1536, .inl v_records_bytes)), (q_recorded, .inl (cZ, 25, .inl v_recorded))] := hD
      refine lv_iconst (v := 1) hx hb d_Disk_rollBack_19 rfl ?_
      refine lv_istore_n hx hb d_Disk_rollBack_20 rfl hl (by decide) rfl (fun ls hl => ?_)
      have hl : lv_has ls 2 [(1, .int (1 : Int32)), (0, .ref q_this)] := hl
      exact lp_21 v_headThere v_headPages _ v_file_bytes (1 : Int32) H locs ls hP hD hS (lv_sub hl [1, 0] rfl) hf
    have hf := pu_br_pos hf hc
    exact hret _ _ _ _ v_headThere v_file_count v_file_bytes d_Disk_rollBack_7 hP hD hS hf
  rw [hH, hlocs] at goal
  exact goal
theorem d_Pages_zerosFrom_0 : decode b_Pages_zerosFrom 0 = .ok (.iload_n 2, 1) := by decide +kernel
theorem d_Pages_zerosFrom_1 : decode b_Pages_zerosFrom 1 = .ok (.istore_n 3, 1) := by decide +kernel
theorem d_Pages_zerosFrom_2 : decode b_Pages_zerosFrom 2 = .ok (.iload_n 3, 1) := by decide +kernel
theorem d_Pages_zerosFrom_3 : decode b_Pages_zerosFrom 3 = .ok (.bipush 64, 2) := by decide +kernel
theorem d_Pages_zerosFrom_5 : decode b_Pages_zerosFrom 5 = .ok (.if_icmp .ge 20, 3) := by decide +kernel
theorem d_Pages_zerosFrom_8 : decode b_Pages_zerosFrom 8 = .ok (.aload_n 0, 1) := by decide +kernel
theorem d_Pages_zerosFrom_9 : decode b_Pages_zerosFrom 9 = .ok (.iload_n 1, 1) := by decide +kernel
theorem d_Pages_zerosFrom_10 : decode b_Pages_zerosFrom 10 = .ok (.iload_n 3, 1) := by decide +kernel
theorem d_Pages_zerosFrom_11 : decode b_Pages_zerosFrom 11 = .ok (.invokevirtual 39, 3) := by decide +kernel
theorem d_Pages_zerosFrom_14 : decode b_Pages_zerosFrom 14 = .ok (.ifCond .eq 5, 3) := by decide +kernel
theorem d_Pages_zerosFrom_17 : decode b_Pages_zerosFrom 17 = .ok (.iconst 0, 1) := by decide +kernel
theorem d_Pages_zerosFrom_18 : decode b_Pages_zerosFrom 18 = .ok (.ireturn, 1) := by decide +kernel
theorem d_Pages_zerosFrom_19 : decode b_Pages_zerosFrom 19 = .ok (.iinc 3 1, 3) := by decide +kernel
theorem d_Pages_zerosFrom_22 : decode b_Pages_zerosFrom 22 = .ok (.goto (-20), 3) := by decide +kernel
theorem d_Pages_zerosFrom_25 : decode b_Pages_zerosFrom 25 = .ok (.iconst 1, 1) := by decide +kernel
theorem d_Pages_zerosFrom_26 : decode b_Pages_zerosFrom 26 = .ok (.ireturn, 1) := by decide +kernel
noncomputable def q_Pages_zerosFrom_2 (v_count : Int32) (v_bytes : Nat → Int32) (x_1 : Int32) : Nat → Int32 → Option (Int32)
  | 0, _ => none
  | n + 1, x_3 => pu_br ((64 : Int32) ≤ x_3) (some (1 : Int32)) (pu_b1 (f_Pages_get v_count v_bytes x_1 x_3) (fun r1 => pu_br (r1 = 0) (pu_nm (x_3 + (1 : Int32)) (fun t2 => q_Pages_zerosFrom_2 v_count v_bytes x_1 n t2)) (some (0 : Int32))))
noncomputable def f_Pages_zerosFrom (v_count : Int32) (v_bytes : Nat → Int32) (x_1 : Int32) (x_2 : Int32) : Option (Int32) :=
  q_Pages_zerosFrom_2 v_count v_bytes x_1 pu_fu x_2
abbrev rm_Pages_zerosFrom : Room := { frames := 2, cells := 0, slots := 0, locals := 44 }
set_option maxHeartbeats 8000000 in
set_option maxRecDepth 100000 in
theorem c_Pages_zerosFrom (l : Launch) (D : va_G) (cI cJ cB cZ : ClassId) (sz : Nat) (q_this : Nat) (q_bytes : Nat) (v_count : Int32) (v_bytes : Nat → Int32) (x_1 : Int32) (x_2 : Int32) (o_r : Int32) (hf : f_Pages_zerosFrom v_count v_bytes x_1 x_2 = some o_r) : Met l y_Pages_zerosFrom (.code y_Pages_zerosFrom b_Pages_zerosFrom 4 (some .boolean) :: pu_wA) rm_Pages_zerosFrom (pu_pc D pu_cl (pu_ty cI cJ cB cZ) [.ref q_this, .int x_1, .int x_2] [(q_this, .inr (0, [.ref q_bytes, .int v_count])), (q_bytes, .inl (cB, 1536, .inl v_bytes))] sz) (pu_qi D pu_cl (pu_ty cI cJ cB cZ) [(q_this, .inr (0, [.ref q_bytes, .int v_count])), (q_bytes, .inl (cB, 1536, .inl v_bytes))] [(q_this, .inr (0, [.ref q_bytes, .int v_count])), (q_bytes, .inl (cB, 1536, .inl v_bytes))] sz o_r) 0 0 (va_A [(q_this, .inr (0, [.ref q_bytes, .int v_count])), (q_bytes, .inl (cB, 1536, .inl v_bytes))] sz) := by
  refine pu_mtz [.ref q_this, .int x_1, .int x_2] [(q_this, .inr (0, [.ref q_bytes, .int v_count])), (q_bytes, .inl (cB, 1536, .inl v_bytes))] [(q_this, .inr (0, [.ref q_bytes, .int v_count])), (q_bytes, .inl (cB, 1536, .inl v_bytes))] o_r (by decide) (Nat.le_of_ble_eq_true rfl) ?_
  intro p e s m args below meth c A Q ls hx hb hml hts hN hown hK hA hP hD hl hret0
  have hS : va_S A s.heap s.heap [] := va_S.rf
  have hl : lv_has ls 4 [(0, .ref q_this), (1, .int x_1), (2, .int x_2)] := hl
  have hret : ∀ (pc : Nat) (ls : Array Slot) (H : Heap) (locs : List Loc) (y_0 : Int32), decode b_Pages_zerosFrom pc = .ok (.ireturn, 1) → narrow .boolean (.int y_0) = .int y_0 → va_P D pu_cl [(q_this, .inr (0, [.ref q_bytes, .int v_count])), (q_bytes, .inl (cB, 1536, .inl v_bytes))] H → va_D A [(q_this, .inr (0, [.ref q_bytes, .int v_count])), (q_bytes, .inl (cB, 1536, .inl v_bytes))] → va_S A s.heap H locs → some y_0 = some o_r → W p l e rm_Pages_zerosFrom s m args below meth c H locs 0 0 Q (F0 m pc ls [.int y_0]) := by
    intro pc ls H locs y_0 hd hz hP hD hS hf
    cases hf
    exact hret0 pc ls H locs hd hz hP hD hS
  clear hret0
  unfold f_Pages_zerosFrom at hf
  skip
  have lp_2 : ∀ (x_1 : Int32) (n2 : Nat) (x_3 : Int32) (H : Heap) (locs : List Loc) (ls : Array Slot), va_P D pu_cl [(q_this, .inr (0, [.ref q_bytes, .int v_count])), (q_bytes, .inl (cB, 1536, .inl v_bytes))] H → va_D A [(q_this, .inr (0, [.ref q_bytes, .int v_count])), (q_bytes, .inl (cB, 1536, .inl v_bytes))] → va_S A s.heap H locs → lv_has ls 4 [(0, .ref q_this), (1, .int x_1), (3, .int x_3)] → q_Pages_zerosFrom_2 v_count v_bytes x_1 n2 x_3 = some o_r → W p l e rm_Pages_zerosFrom s m args below meth c H locs 0 0 Q (F0 m 2 ls []) := by
    intro x_1 n2
    induction n2 with
    | zero =>
      intro x_3 H locs ls hP hD hS hl hf
      rw [q_Pages_zerosFrom_2] at hf
      cases hf
    | succ n2 ih_2 =>
      intro x_3 H locs ls hP hD hS hl hf
      rw [q_Pages_zerosFrom_2] at hf
      refine lv_iload_n hx hb d_Pages_zerosFrom_2 rfl (lv_at hl 2 rfl) ?_
      refine lv_bipush (v := 64) hx hb d_Pages_zerosFrom_3 rfl ?_
      refine lv_icmp_ge (tgt := 25) hx hb d_Pages_zerosFrom_5 rfl (fun hc => ?_) (fun hc => ?_)
      · have hf := pu_br_pos hf hc
        refine lv_iconst (v := 1) hx hb d_Pages_zerosFrom_25 rfl ?_
        exact hret _ _ _ _ (1 : Int32)  d_Pages_zerosFrom_26 (by decide) hP hD hS hf
      have hf := pu_br_neg hf hc
      refine lv_aload_n hx hb d_Pages_zerosFrom_8 rfl (lv_at hl 0 rfl) ?_
      refine lv_iload_n hx hb d_Pages_zerosFrom_9 rfl (lv_at hl 1 rfl) ?_
      refine lv_iload_n hx hb d_Pages_zerosFrom_10 rfl (lv_at hl 2 rfl) ?_
      obtain ⟨r1, hc, hf⟩ := pu_b1_some hf
      refine cl_i (WC := [(q_this, .inr (0, [.ref q_bytes, .int v_count])), (q_bytes, .inl (cB, 1536, .inl v_bytes))]) (WC2 := [(q_this, .inr (0, [.ref q_bytes, .int v_count])), (q_bytes, .inl (cB, 1536, .inl v_bytes))]) (WR := []) (WS2 := [(q_this, .inr (0, [.ref q_bytes, .int v_count])), (q_bytes, .inl (cB, 1536, .inl v_bytes))]) (pu_rv (cl := pu_cl) (pu_in3 _ (List.mem_of_getElem? (i := 37) rfl)) (pu_in3 _ (List.mem_of_getElem? (i := 38) rfl)) (pu_in3 _ (List.mem_of_getElem? (i := 39) rfl)) (pu_in0 _ (List.mem_of_getElem? (i := 3) rfl)) (pu_in3 _ (List.mem_of_getElem? (i := 40) rfl)) (ci := 0) rfl hd_Pages_get (by decide) ⟨rfl, rfl⟩ rfl rfl (Nat.le_of_ble_eq_true rfl) rfl (As := [.int x_1, .int x_3]) (rest := []) (WC := [(q_this, .inr (0, [.ref q_bytes, .int v_count])), (q_bytes, .inl (cB, 1536, .inl v_bytes))]) hx hb hml hown hts hN hK hP hD (c_Pages_get l D cI cJ cB cZ H.size q_this q_bytes v_count v_bytes x_1 x_3 r1 hc) [0, 1] rfl rfl hl.1 d_Pages_zerosFrom_11) hP hD hS hA [0, 1] [] [0, 1] rfl rfl rfl (by decide) rfl rfl (fun H locs hP hD hS => ?_)
      refine lv_if_eq (tgt := 19) hx hb d_Pages_zerosFrom_14 rfl (fun hc => ?_) (fun hc => ?_)
      · have hf := pu_br_pos hf hc
        obtain ⟨t2, e_t2, hf⟩ := pu_nm_some hf
        refine lv_iinc (k := 2) (v := t2) hx hb d_Pages_zerosFrom_19 hl rfl e_t2.symm (by decide) rfl (fun ls hl => ?_)
        have hl : lv_has ls 4 [(3, .int t2), (0, .ref q_this), (1, .int x_1)] := hl
        refine lv_goto (tgt := 2) hx hb d_Pages_zerosFrom_22 rfl ?_
        exact ih_2 t2 H locs ls hP hD hS (lv_sub hl [1, 2, 0] rfl) hf
      have hf := pu_br_neg hf hc
      refine lv_iconst (v := 0) hx hb d_Pages_zerosFrom_17 rfl ?_
      exact hret _ _ _ _ (0 : Int32)  d_Pages_zerosFrom_18 (by decide) hP hD hS hf
  obtain ⟨H, hH⟩ : ∃ H, H = s.heap := ⟨_, rfl⟩
  obtain ⟨locs, hlocs⟩ : ∃ locs : List Loc, locs = [] := ⟨_, rfl⟩
  have hP : va_P D pu_cl [(q_this, .inr (0, [.ref q_bytes, .int v_count])), (q_bytes, .inl (cB, 1536, .inl v_bytes))] H := by rw [hH]; exact hP
  have hS : va_S A s.heap H locs := by rw [hH, hlocs]; exact hS
  have goal : W p l e rm_Pages_zerosFrom s m args below meth c H locs 0 0 Q (F0 m 0 ls []) := by
    clear hH hlocs
    refine lv_iload_n hx hb d_Pages_zerosFrom_0 rfl (lv_at hl 2 rfl) ?_
    refine lv_istore_n hx hb d_Pages_zerosFrom_1 rfl hl (by decide) rfl (fun ls hl => ?_)
    have hl : lv_has ls 4 [(3, .int x_2), (0, .ref q_this), (1, .int x_1), (2, .int x_2)] := hl
    exact lp_2 x_1 _ x_2 H locs ls hP hD hS (lv_sub hl [1, 2, 0] rfl) hf
  rw [hH, hlocs] at goal
  exact goal
theorem d_Check_firstPageHolds_0 : decode b_Check_firstPageHolds 0 = .ok (.aload_n 0, 1) := by decide +kernel
theorem d_Check_firstPageHolds_1 : decode b_Check_firstPageHolds 1 = .ok (.getfield 25, 3) := by decide +kernel
theorem d_Check_firstPageHolds_4 : decode b_Check_firstPageHolds 4 = .ok (.iconst 1, 1) := by decide +kernel
theorem d_Check_firstPageHolds_5 : decode b_Check_firstPageHolds 5 = .ok (.iconst 0, 1) := by decide +kernel
theorem d_Check_firstPageHolds_6 : decode b_Check_firstPageHolds 6 = .ok (.invokevirtual 65, 3) := by decide +kernel
theorem d_Check_firstPageHolds_9 : decode b_Check_firstPageHolds 9 = .ok (.bipush 83, 2) := by decide +kernel
theorem d_Check_firstPageHolds_11 : decode b_Check_firstPageHolds 11 = .ok (.if_icmp .ne 39, 3) := by decide +kernel
theorem d_Check_firstPageHolds_14 : decode b_Check_firstPageHolds 14 = .ok (.aload_n 0, 1) := by decide +kernel
theorem d_Check_firstPageHolds_15 : decode b_Check_firstPageHolds 15 = .ok (.getfield 25, 3) := by decide +kernel
theorem d_Check_firstPageHolds_18 : decode b_Check_firstPageHolds 18 = .ok (.iconst 1, 1) := by decide +kernel
theorem d_Check_firstPageHolds_19 : decode b_Check_firstPageHolds 19 = .ok (.iconst 1, 1) := by decide +kernel
theorem d_Check_firstPageHolds_20 : decode b_Check_firstPageHolds 20 = .ok (.invokevirtual 65, 3) := by decide +kernel
theorem d_Check_firstPageHolds_23 : decode b_Check_firstPageHolds 23 = .ok (.aload_n 0, 1) := by decide +kernel
theorem d_Check_firstPageHolds_24 : decode b_Check_firstPageHolds 24 = .ok (.getfield 25, 3) := by decide +kernel
theorem d_Check_firstPageHolds_27 : decode b_Check_firstPageHolds 27 = .ok (.getfield 69, 3) := by decide +kernel
theorem d_Check_firstPageHolds_30 : decode b_Check_firstPageHolds 30 = .ok (.if_icmp .ne 20, 3) := by decide +kernel
theorem d_Check_firstPageHolds_33 : decode b_Check_firstPageHolds 33 = .ok (.aload_n 0, 1) := by decide +kernel
theorem d_Check_firstPageHolds_34 : decode b_Check_firstPageHolds 34 = .ok (.getfield 25, 3) := by decide +kernel
theorem d_Check_firstPageHolds_37 : decode b_Check_firstPageHolds 37 = .ok (.iconst 1, 1) := by decide +kernel
theorem d_Check_firstPageHolds_38 : decode b_Check_firstPageHolds 38 = .ok (.bipush 7, 2) := by decide +kernel
theorem d_Check_firstPageHolds_40 : decode b_Check_firstPageHolds 40 = .ok (.invokevirtual 72, 3) := by decide +kernel
theorem d_Check_firstPageHolds_43 : decode b_Check_firstPageHolds 43 = .ok (.ifCond .eq 7, 3) := by decide +kernel
theorem d_Check_firstPageHolds_46 : decode b_Check_firstPageHolds 46 = .ok (.iconst 1, 1) := by decide +kernel
theorem d_Check_firstPageHolds_47 : decode b_Check_firstPageHolds 47 = .ok (.goto 4, 3) := by decide +kernel
theorem d_Check_firstPageHolds_50 : decode b_Check_firstPageHolds 50 = .ok (.iconst 0, 1) := by decide +kernel
theorem d_Check_firstPageHolds_51 : decode b_Check_firstPageHolds 51 = .ok (.ireturn, 1) := by decide +kernel
noncomputable def f_Check_firstPageHolds (v_file_count : Int32) (v_file_bytes : Nat → Int32) : Option (Int32) :=
  pu_b1 (f_Pages_get v_file_count v_file_bytes (1 : Int32) (0 : Int32)) (fun r1 => pu_br (r1 = (83 : Int32)) (pu_b1 (f_Pages_get v_file_count v_file_bytes (1 : Int32) (1 : Int32)) (fun r2 => pu_br (r2 = v_file_count) (pu_b1 (f_Pages_zerosFrom v_file_count v_file_bytes (1 : Int32) (7 : Int32)) (fun r3 => pu_br (r3 = 0) (some (0 : Int32)) (some (1 : Int32)))) (some (0 : Int32)))) (some (0 : Int32)))
abbrev rm_Check_firstPageHolds : Room := { frames := 3, cells := 0, slots := 0, locals := 67 }
set_option maxHeartbeats 8000000 in
set_option maxRecDepth 100000 in
theorem c_Check_firstPageHolds (l : Launch) (D : va_G) (cI cJ cB cZ : ClassId) (sz : Nat) (q_this : Nat) (q_file : Nat) (q_node : Nat) (q_row : Nat) (q_reached : Nat) (q_treePages : Nat) (q_lows : Nat) (q_highs : Nat) (q_file_bytes : Nat) (v_treeSize : Int32) (v_file_count : Int32) (v_file_bytes : Nat → Int32) (o_r : Int32) (hf : f_Check_firstPageHolds v_file_count v_file_bytes = some o_r) : Met l y_Check_firstPageHolds (.code y_Check_firstPageHolds b_Check_firstPageHolds 1 (some .boolean) :: pu_wA) rm_Check_firstPageHolds (pu_pc D pu_cl (pu_ty cI cJ cB cZ) [.ref q_this] [(q_this, .inr (6, [.ref q_file, .ref q_node, .ref q_row, .ref q_reached, .ref q_treePages, .ref q_lows, .ref q_highs, .int v_treeSize])), (q_file, .inr (0, [.ref q_file_bytes, .int v_file_count])), (q_file_bytes, .inl (cB, 1536, .inl v_file_bytes))] sz) (pu_qi D pu_cl (pu_ty cI cJ cB cZ) [(q_this, .inr (6, [.ref q_file, .ref q_node, .ref q_row, .ref q_reached, .ref q_treePages, .ref q_lows, .ref q_highs, .int v_treeSize])), (q_file, .inr (0, [.ref q_file_bytes, .int v_file_count])), (q_file_bytes, .inl (cB, 1536, .inl v_file_bytes))] [(q_this, .inr (6, [.ref q_file, .ref q_node, .ref q_row, .ref q_reached, .ref q_treePages, .ref q_lows, .ref q_highs, .int v_treeSize])), (q_file, .inr (0, [.ref q_file_bytes, .int v_file_count])), (q_file_bytes, .inl (cB, 1536, .inl v_file_bytes))] sz o_r) 0 0 (va_A [(q_this, .inr (6, [.ref q_file, .ref q_node, .ref q_row, .ref q_reached, .ref q_treePages, .ref q_lows, .ref q_highs, .int v_treeSize])), (q_file, .inr (0, [.ref q_file_bytes, .int v_file_count])), (q_file_bytes, .inl (cB, 1536, .inl v_file_bytes))] sz) := by
  refine pu_mtz [.ref q_this] [(q_this, .inr (6, [.ref q_file, .ref q_node, .ref q_row, .ref q_reached, .ref q_treePages, .ref q_lows, .ref q_highs, .int v_treeSize])), (q_file, .inr (0, [.ref q_file_bytes, .int v_file_count])), (q_file_bytes, .inl (cB, 1536, .inl v_file_bytes))] [(q_this, .inr (6, [.ref q_file, .ref q_node, .ref q_row, .ref q_reached, .ref q_treePages, .ref q_lows, .ref q_highs, .int v_treeSize])), (q_file, .inr (0, [.ref q_file_bytes, .int v_file_count])), (q_file_bytes, .inl (cB, 1536, .inl v_file_bytes))] o_r (by decide) (Nat.le_of_ble_eq_true rfl) ?_
  intro p e s m args below meth c A Q ls hx hb hml hts hN hown hK hA hP hD hl hret0
  have hS : va_S A s.heap s.heap [] := va_S.rf
  have hl : lv_has ls 1 [(0, .ref q_this)] := hl
  have hret : ∀ (pc : Nat) (ls : Array Slot) (H : Heap) (locs : List Loc) (y_0 : Int32), decode b_Check_firstPageHolds pc = .ok (.ireturn, 1) → narrow .boolean (.int y_0) = .int y_0 → va_P D pu_cl [(q_this, .inr (6, [.ref q_file, .ref q_node, .ref q_row, .ref q_reached, .ref q_treePages, .ref q_lows, .ref q_highs, .int v_treeSize])), (q_file, .inr (0, [.ref q_file_bytes, .int v_file_count])), (q_file_bytes, .inl (cB, 1536, .inl v_file_bytes))] H → va_D A [(q_this, .inr (6, [.ref q_file, .ref q_node, .ref q_row, .ref q_reached, .ref q_treePages, .ref q_lows, .ref q_highs, .int v_treeSize])), (q_file, .inr (0, [.ref q_file_bytes, .int v_file_count])), (q_file_bytes, .inl (cB, 1536, .inl v_file_bytes))] → va_S A s.heap H locs → some y_0 = some o_r → W p l e rm_Check_firstPageHolds s m args below meth c H locs 0 0 Q (F0 m pc ls [.int y_0]) := by
    intro pc ls H locs y_0 hd hz hP hD hS hf
    cases hf
    exact hret0 pc ls H locs hd hz hP hD hS
  clear hret0
  unfold f_Check_firstPageHolds at hf
  skip
  obtain ⟨H, hH⟩ : ∃ H, H = s.heap := ⟨_, rfl⟩
  obtain ⟨locs, hlocs⟩ : ∃ locs : List Loc, locs = [] := ⟨_, rfl⟩
  have hP : va_P D pu_cl [(q_this, .inr (6, [.ref q_file, .ref q_node, .ref q_row, .ref q_reached, .ref q_treePages, .ref q_lows, .ref q_highs, .int v_treeSize])), (q_file, .inr (0, [.ref q_file_bytes, .int v_file_count])), (q_file_bytes, .inl (cB, 1536, .inl v_file_bytes))] H := by rw [hH]; exact hP
  have hS : va_S A s.heap H locs := by rw [hH, hlocs]; exact hS
  have goal : W p l e rm_Check_firstPageHolds s m args below meth c H locs 0 0 Q (F0 m 0 ls []) := by
    clear hH hlocs
    refine lv_aload_n hx hb d_Check_firstPageHolds_0 rfl (lv_at hl 0 rfl) ?_
    refine gf_Check_25 (v := .ref q_file) hx hb hts hN hown hK hP 0 rfl rfl d_Check_firstPageHolds_1 ?_
    refine lv_iconst (v := 1) hx hb d_Check_firstPageHolds_4 rfl ?_
    refine lv_iconst (v := 0) hx hb d_Check_firstPageHolds_5 rfl ?_
    obtain ⟨r1, hc, hf⟩ := pu_b1_some hf
    refine cl_i (WC := [(q_file, .inr (0, [.ref q_file_bytes, .int v_file_count])), (q_file_bytes, .inl (cB, 1536, .inl v_file_bytes))]) (WC2 := [(q_file, .inr (0, [.ref q_file_bytes, .int v_file_count])), (q_file_bytes, .inl (cB, 1536, .inl v_file_bytes))]) (WR := [(q_this, .inr (6, [.ref q_file, .ref q_node, .ref q_row, .ref q_reached, .ref q_treePages, .ref q_lows, .ref q_highs, .int v_treeSize]))]) (WS2 := [(q_this, .inr (6, [.ref q_file, .ref q_node, .ref q_row, .ref q_reached, .ref q_treePages, .ref q_lows, .ref q_highs, .int v_treeSize])), (q_file, .inr (0, [.ref q_file_bytes, .int v_file_count])), (q_file_bytes, .inl (cB, 1536, .inl v_file_bytes))]) (pu_rv (cl := pu_cl) (pu_in7 _ (List.mem_of_getElem? (i := 13) rfl)) (pu_in3 _ (List.mem_of_getElem? (i := 38) rfl)) (pu_in3 _ (List.mem_of_getElem? (i := 39) rfl)) (pu_in0 _ (List.mem_of_getElem? (i := 3) rfl)) (pu_in3 _ (List.mem_of_getElem? (i := 40) rfl)) (ci := 0) rfl hd_Pages_get (by decide) ⟨rfl, rfl⟩ rfl rfl (Nat.le_of_ble_eq_true rfl) rfl (As := [.int (1 : Int32), .int (0 : Int32)]) (rest := []) (WC := [(q_file, .inr (0, [.ref q_file_bytes, .int v_file_count])), (q_file_bytes, .inl (cB, 1536, .inl v_file_bytes))]) hx hb hml hown hts hN hK hP hD (c_Pages_get l D cI cJ cB cZ H.size q_file q_file_bytes v_file_count v_file_bytes (1 : Int32) (0 : Int32) r1 hc) [1, 2] rfl rfl hl.1 d_Check_firstPageHolds_6) hP hD hS hA [1, 2] [0] [0, 1, 2] rfl rfl rfl (by decide) rfl rfl (fun H locs hP hD hS => ?_)
    refine lv_bipush (v := 83) hx hb d_Check_firstPageHolds_9 rfl ?_
    refine lv_icmp_ne (tgt := 50) hx hb d_Check_firstPageHolds_11 rfl (fun hc => ?_) (fun hc => ?_)
    · have hf := pu_br_neg hf hc
      refine lv_iconst (v := 0) hx hb d_Check_firstPageHolds_50 rfl ?_
      exact hret _ _ _ _ (0 : Int32)  d_Check_firstPageHolds_51 (by decide) hP hD hS hf
    have hf := pu_br_pos hf hc
    refine lv_aload_n hx hb d_Check_firstPageHolds_14 rfl (lv_at hl 0 rfl) ?_
    refine gf_Check_25 (v := .ref q_file) hx hb hts hN hown hK hP 0 rfl rfl d_Check_firstPageHolds_15 ?_
    refine lv_iconst (v := 1) hx hb d_Check_firstPageHolds_18 rfl ?_
    refine lv_iconst (v := 1) hx hb d_Check_firstPageHolds_19 rfl ?_
    obtain ⟨r2, hc, hf⟩ := pu_b1_some hf
    refine cl_i (WC := [(q_file, .inr (0, [.ref q_file_bytes, .int v_file_count])), (q_file_bytes, .inl (cB, 1536, .inl v_file_bytes))]) (WC2 := [(q_file, .inr (0, [.ref q_file_bytes, .int v_file_count])), (q_file_bytes, .inl (cB, 1536, .inl v_file_bytes))]) (WR := [(q_this, .inr (6, [.ref q_file, .ref q_node, .ref q_row, .ref q_reached, .ref q_treePages, .ref q_lows, .ref q_highs, .int v_treeSize]))]) (WS2 := [(q_this, .inr (6, [.ref q_file, .ref q_node, .ref q_row, .ref q_reached, .ref q_treePages, .ref q_lows, .ref q_highs, .int v_treeSize])), (q_file, .inr (0, [.ref q_file_bytes, .int v_file_count])), (q_file_bytes, .inl (cB, 1536, .inl v_file_bytes))]) (pu_rv (cl := pu_cl) (pu_in7 _ (List.mem_of_getElem? (i := 13) rfl)) (pu_in3 _ (List.mem_of_getElem? (i := 38) rfl)) (pu_in3 _ (List.mem_of_getElem? (i := 39) rfl)) (pu_in0 _ (List.mem_of_getElem? (i := 3) rfl)) (pu_in3 _ (List.mem_of_getElem? (i := 40) rfl)) (ci := 0) rfl hd_Pages_get (by decide) ⟨rfl, rfl⟩ rfl rfl (Nat.le_of_ble_eq_true rfl) rfl (As := [.int (1 : Int32), .int (1 : Int32)]) (rest := []) (WC := [(q_file, .inr (0, [.ref q_file_bytes, .int v_file_count])), (q_file_bytes, .inl (cB, 1536, .inl v_file_bytes))]) hx hb hml hown hts hN hK hP hD (c_Pages_get l D cI cJ cB cZ H.size q_file q_file_bytes v_file_count v_file_bytes (1 : Int32) (1 : Int32) r2 hc) [1, 2] rfl rfl hl.1 d_Check_firstPageHolds_20) hP hD hS hA [1, 2] [0] [0, 1, 2] rfl rfl rfl (by decide) rfl rfl (fun H locs hP hD hS => ?_)
    refine lv_aload_n hx hb d_Check_firstPageHolds_23 rfl (lv_at hl 0 rfl) ?_
    refine gf_Check_25 (v := .ref q_file) hx hb hts hN hown hK hP 0 rfl rfl d_Check_firstPageHolds_24 ?_
    refine gf_Check_69 (v := .int v_file_count) hx hb hts hN hown hK hP 1 rfl rfl d_Check_firstPageHolds_27 ?_
    refine lv_icmp_ne (tgt := 50) hx hb d_Check_firstPageHolds_30 rfl (fun hc => ?_) (fun hc => ?_)
    · have hf := pu_br_neg hf hc
      refine lv_iconst (v := 0) hx hb d_Check_firstPageHolds_50 rfl ?_
      exact hret _ _ _ _ (0 : Int32)  d_Check_firstPageHolds_51 (by decide) hP hD hS hf
    have hf := pu_br_pos hf hc
    refine lv_aload_n hx hb d_Check_firstPageHolds_33 rfl (lv_at hl 0 rfl) ?_
    refine gf_Check_25 (v := .ref q_file) hx hb hts hN hown hK hP 0 rfl rfl d_Check_firstPageHolds_34 ?_
    refine lv_iconst (v := 1) hx hb d_Check_firstPageHolds_37 rfl ?_
    refine lv_bipush (v := 7) hx hb d_Check_firstPageHolds_38 rfl ?_
    obtain ⟨r3, hc, hf⟩ := pu_b1_some hf
    refine cl_i (WC := [(q_file, .inr (0, [.ref q_file_bytes, .int v_file_count])), (q_file_bytes, .inl (cB, 1536, .inl v_file_bytes))]) (WC2 := [(q_file, .inr (0, [.ref q_file_bytes, .int v_file_count])), (q_file_bytes, .inl (cB, 1536, .inl v_file_bytes))]) (WR := [(q_this, .inr (6, [.ref q_file, .ref q_node, .ref q_row, .ref q_reached, .ref q_treePages, .ref q_lows, .ref q_highs, .int v_treeSize]))]) (WS2 := [(q_this, .inr (6, [.ref q_file, .ref q_node, .ref q_row, .ref q_reached, .ref q_treePages, .ref q_lows, .ref q_highs, .int v_treeSize])), (q_file, .inr (0, [.ref q_file_bytes, .int v_file_count])), (q_file_bytes, .inl (cB, 1536, .inl v_file_bytes))]) (pu_rv (cl := pu_cl) (pu_in7 _ (List.mem_of_getElem? (i := 14) rfl)) (pu_in7 _ (List.mem_of_getElem? (i := 15) rfl)) (pu_in7 _ (List.mem_of_getElem? (i := 16) rfl)) (pu_in0 _ (List.mem_of_getElem? (i := 3) rfl)) (pu_in7 _ (List.mem_of_getElem? (i := 17) rfl)) (ci := 0) rfl hd_Pages_zerosFrom (by decide) ⟨rfl, rfl⟩ rfl rfl (Nat.le_of_ble_eq_true rfl) rfl (As := [.int (1 : Int32), .int (7 : Int32)]) (rest := []) (WC := [(q_file, .inr (0, [.ref q_file_bytes, .int v_file_count])), (q_file_bytes, .inl (cB, 1536, .inl v_file_bytes))]) hx hb hml hown hts hN hK hP hD (c_Pages_zerosFrom l D cI cJ cB cZ H.size q_file q_file_bytes v_file_count v_file_bytes (1 : Int32) (7 : Int32) r3 hc) [1, 2] rfl rfl hl.1 d_Check_firstPageHolds_40) hP hD hS hA [1, 2] [0] [0, 1, 2] rfl rfl rfl (by decide) rfl rfl (fun H locs hP hD hS => ?_)
    refine lv_if_eq (tgt := 50) hx hb d_Check_firstPageHolds_43 rfl (fun hc => ?_) (fun hc => ?_)
    · have hf := pu_br_pos hf hc
      refine lv_iconst (v := 0) hx hb d_Check_firstPageHolds_50 rfl ?_
      exact hret _ _ _ _ (0 : Int32)  d_Check_firstPageHolds_51 (by decide) hP hD hS hf
    have hf := pu_br_neg hf hc
    refine lv_iconst (v := 1) hx hb d_Check_firstPageHolds_46 rfl ?_
    refine lv_goto (tgt := 51) hx hb d_Check_firstPageHolds_47 rfl ?_
    exact hret _ _ _ _ (1 : Int32)  d_Check_firstPageHolds_51 (by decide) hP hD hS hf
  rw [hH, hlocs] at goal
  exact goal
theorem d_Check_reach_0 : decode b_Check_reach 0 = .ok (.iload_n 1, 1) := by decide +kernel
theorem d_Check_reach_1 : decode b_Check_reach 1 = .ok (.iconst 2, 1) := by decide +kernel
theorem d_Check_reach_2 : decode b_Check_reach 2 = .ok (.if_icmp .lt 29, 3) := by decide +kernel
theorem d_Check_reach_5 : decode b_Check_reach 5 = .ok (.iload_n 1, 1) := by decide +kernel
theorem d_Check_reach_6 : decode b_Check_reach 6 = .ok (.bipush 24, 2) := by decide +kernel
theorem d_Check_reach_8 : decode b_Check_reach 8 = .ok (.if_icmp .gt 23, 3) := by decide +kernel
theorem d_Check_reach_11 : decode b_Check_reach 11 = .ok (.iload_n 1, 1) := by decide +kernel
theorem d_Check_reach_12 : decode b_Check_reach 12 = .ok (.aload_n 0, 1) := by decide +kernel
theorem d_Check_reach_13 : decode b_Check_reach 13 = .ok (.getfield 25, 3) := by decide +kernel
theorem d_Check_reach_16 : decode b_Check_reach 16 = .ok (.getfield 69, 3) := by decide +kernel
theorem d_Check_reach_19 : decode b_Check_reach 19 = .ok (.if_icmp .gt 12, 3) := by decide +kernel
theorem d_Check_reach_22 : decode b_Check_reach 22 = .ok (.aload_n 0, 1) := by decide +kernel
theorem d_Check_reach_23 : decode b_Check_reach 23 = .ok (.getfield 9, 3) := by decide +kernel
theorem d_Check_reach_26 : decode b_Check_reach 26 = .ok (.iload_n 1, 1) := by decide +kernel
theorem d_Check_reach_27 : decode b_Check_reach 27 = .ok (.baload, 1) := by decide +kernel
theorem d_Check_reach_28 : decode b_Check_reach 28 = .ok (.ifCond .eq 5, 3) := by decide +kernel
theorem d_Check_reach_31 : decode b_Check_reach 31 = .ok (.iconst 0, 1) := by decide +kernel
theorem d_Check_reach_32 : decode b_Check_reach 32 = .ok (.ireturn, 1) := by decide +kernel
theorem d_Check_reach_33 : decode b_Check_reach 33 = .ok (.aload_n 0, 1) := by decide +kernel
theorem d_Check_reach_34 : decode b_Check_reach 34 = .ok (.getfield 9, 3) := by decide +kernel
theorem d_Check_reach_37 : decode b_Check_reach 37 = .ok (.iload_n 1, 1) := by decide +kernel
theorem d_Check_reach_38 : decode b_Check_reach 38 = .ok (.iconst 1, 1) := by decide +kernel
theorem d_Check_reach_39 : decode b_Check_reach 39 = .ok (.bastore, 1) := by decide +kernel
theorem d_Check_reach_40 : decode b_Check_reach 40 = .ok (.iconst 1, 1) := by decide +kernel
theorem d_Check_reach_41 : decode b_Check_reach 41 = .ok (.ireturn, 1) := by decide +kernel
noncomputable def f_Check_reach (v_file_count : Int32) (v_reached : Nat → Int32) (x_1 : Int32) : Option (Int32 × (Nat → Int32)) :=
  pu_br (x_1 < (2 : Int32)) (some ((0 : Int32), v_reached)) (pu_br ((24 : Int32) < x_1) (some ((0 : Int32), v_reached)) (pu_br (v_file_count < x_1) (some ((0 : Int32), v_reached)) (pu_ck (vp_in x_1 25) (pu_br ((v_reached x_1.toNatClampNeg) = 0) (pu_ck (vp_in x_1 25) (pu_nm (upd v_reached x_1.toNatClampNeg (vp_nar .boolean (1 : Int32))) (fun a1 => some ((1 : Int32), a1)))) (some ((0 : Int32), v_reached))))))
abbrev rm_Check_reach : Room := { frames := 0, cells := 0, slots := 0, locals := 0 }
set_option maxHeartbeats 8000000 in
set_option maxRecDepth 100000 in
theorem c_Check_reach (l : Launch) (D : va_G) (cI cJ cB cZ : ClassId) (sz : Nat) (q_this : Nat) (q_file : Nat) (q_node : Nat) (q_row : Nat) (q_reached : Nat) (q_treePages : Nat) (q_lows : Nat) (q_highs : Nat) (q_file_bytes : Nat) (v_treeSize : Int32) (v_file_count : Int32) (v_reached : Nat → Int32) (x_1 : Int32) (o_r : Int32) (o_reached : Nat → Int32) (hf : f_Check_reach v_file_count v_reached x_1 = some (o_r, o_reached)) : Met l y_Check_reach (.code y_Check_reach b_Check_reach 2 (some .boolean) :: pu_wA) rm_Check_reach (pu_pc D pu_cl (pu_ty cI cJ cB cZ) [.ref q_this, .int x_1] [(q_this, .inr (6, [.ref q_file, .ref q_node, .ref q_row, .ref q_reached, .ref q_treePages, .ref q_lows, .ref q_highs, .int v_treeSize])), (q_file, .inr (0, [.ref q_file_bytes, .int v_file_count])), (q_reached, .inl (cZ, 25, .inl v_reached))] sz) (pu_qi D pu_cl (pu_ty cI cJ cB cZ) [(q_this, .inr (6, [.ref q_file, .ref q_node, .ref q_row, .ref q_reached, .ref q_treePages, .ref q_lows, .ref q_highs, .int v_treeSize])), (q_file, .inr (0, [.ref q_file_bytes, .int v_file_count])), (q_reached, .inl (cZ, 25, .inl v_reached))] [(q_this, .inr (6, [.ref q_file, .ref q_node, .ref q_row, .ref q_reached, .ref q_treePages, .ref q_lows, .ref q_highs, .int v_treeSize])), (q_file, .inr (0, [.ref q_file_bytes, .int v_file_count])), (q_reached, .inl (cZ, 25, .inl o_reached))] sz o_r) 0 0 (va_A [(q_this, .inr (6, [.ref q_file, .ref q_node, .ref q_row, .ref q_reached, .ref q_treePages, .ref q_lows, .ref q_highs, .int v_treeSize])), (q_file, .inr (0, [.ref q_file_bytes, .int v_file_count])), (q_reached, .inl (cZ, 25, .inl v_reached))] sz) := by
  refine pu_mtz [.ref q_this, .int x_1] [(q_this, .inr (6, [.ref q_file, .ref q_node, .ref q_row, .ref q_reached, .ref q_treePages, .ref q_lows, .ref q_highs, .int v_treeSize])), (q_file, .inr (0, [.ref q_file_bytes, .int v_file_count])), (q_reached, .inl (cZ, 25, .inl v_reached))] [(q_this, .inr (6, [.ref q_file, .ref q_node, .ref q_row, .ref q_reached, .ref q_treePages, .ref q_lows, .ref q_highs, .int v_treeSize])), (q_file, .inr (0, [.ref q_file_bytes, .int v_file_count])), (q_reached, .inl (cZ, 25, .inl o_reached))] o_r (by decide) (Nat.le_of_ble_eq_true rfl) ?_
  intro p e s m args below meth c A Q ls hx hb hml hts hN hown hK hA hP hD hl hret0
  have hS : va_S A s.heap s.heap [] := va_S.rf
  have hl : lv_has ls 2 [(0, .ref q_this), (1, .int x_1)] := hl
  have hret : ∀ (pc : Nat) (ls : Array Slot) (H : Heap) (locs : List Loc) (y_0 : Int32) (y_1 : Nat → Int32), decode b_Check_reach pc = .ok (.ireturn, 1) → narrow .boolean (.int y_0) = .int y_0 → va_P D pu_cl [(q_this, .inr (6, [.ref q_file, .ref q_node, .ref q_row, .ref q_reached, .ref q_treePages, .ref q_lows, .ref q_highs, .int v_treeSize])), (q_file, .inr (0, [.ref q_file_bytes, .int v_file_count])), (q_reached, .inl (cZ, 25, .inl y_1))] H → va_D A [(q_this, .inr (6, [.ref q_file, .ref q_node, .ref q_row, .ref q_reached, .ref q_treePages, .ref q_lows, .ref q_highs, .int v_treeSize])), (q_file, .inr (0, [.ref q_file_bytes, .int v_file_count])), (q_reached, .inl (cZ, 25, .inl y_1))] → va_S A s.heap H locs → some (y_0, y_1) = some (o_r, o_reached) → W p l e rm_Check_reach s m args below meth c H locs 0 0 Q (F0 m pc ls [.int y_0]) := by
    intro pc ls H locs y_0 y_1 hd hz hP hD hS hf
    cases hf
    exact hret0 pc ls H locs hd hz hP hD hS
  clear hret0
  unfold f_Check_reach at hf
  skip
  obtain ⟨H, hH⟩ : ∃ H, H = s.heap := ⟨_, rfl⟩
  obtain ⟨locs, hlocs⟩ : ∃ locs : List Loc, locs = [] := ⟨_, rfl⟩
  have hP : va_P D pu_cl [(q_this, .inr (6, [.ref q_file, .ref q_node, .ref q_row, .ref q_reached, .ref q_treePages, .ref q_lows, .ref q_highs, .int v_treeSize])), (q_file, .inr (0, [.ref q_file_bytes, .int v_file_count])), (q_reached, .inl (cZ, 25, .inl v_reached))] H := by rw [hH]; exact hP
  have hS : va_S A s.heap H locs := by rw [hH, hlocs]; exact hS
  have goal : W p l e rm_Check_reach s m args below meth c H locs 0 0 Q (F0 m 0 ls []) := by
    clear hH hlocs
    refine lv_iload_n hx hb d_Check_reach_0 rfl (lv_at hl 1 rfl) ?_
    refine lv_iconst (v := 2) hx hb d_Check_reach_1 rfl ?_
    refine lv_icmp_lt (tgt := 31) hx hb d_Check_reach_2 rfl (fun hc => ?_) (fun hc => ?_)
    · have hf := pu_br_pos hf hc
      refine lv_iconst (v := 0) hx hb d_Check_reach_31 rfl ?_
      exact hret _ _ _ _ (0 : Int32) v_reached d_Check_reach_32 (by decide) hP hD hS hf
    have hf := pu_br_neg hf hc
    refine lv_iload_n hx hb d_Check_reach_5 rfl (lv_at hl 1 rfl) ?_
    refine lv_bipush (v := 24) hx hb d_Check_reach_6 rfl ?_
    refine lv_icmp_gt (tgt := 31) hx hb d_Check_reach_8 rfl (fun hc => ?_) (fun hc => ?_)
    · have hf := pu_br_pos hf hc
      refine lv_iconst (v := 0) hx hb d_Check_reach_31 rfl ?_
      exact hret _ _ _ _ (0 : Int32) v_reached d_Check_reach_32 (by decide) hP hD hS hf
    have hf := pu_br_neg hf hc
    refine lv_iload_n hx hb d_Check_reach_11 rfl (lv_at hl 1 rfl) ?_
    refine lv_aload_n hx hb d_Check_reach_12 rfl (lv_at hl 0 rfl) ?_
    refine gf_Check_25 (v := .ref q_file) hx hb hts hN hown hK hP 0 rfl rfl d_Check_reach_13 ?_
    refine gf_Check_69 (v := .int v_file_count) hx hb hts hN hown hK hP 1 rfl rfl d_Check_reach_16 ?_
    refine lv_icmp_gt (tgt := 31) hx hb d_Check_reach_19 rfl (fun hc => ?_) (fun hc => ?_)
    · have hf := pu_br_pos hf hc
      refine lv_iconst (v := 0) hx hb d_Check_reach_31 rfl ?_
      exact hret _ _ _ _ (0 : Int32) v_reached d_Check_reach_32 (by decide) hP hD hS hf
    have hf := pu_br_neg hf hc
    refine lv_aload_n hx hb d_Check_reach_22 rfl (lv_at hl 0 rfl) ?_
    refine gf_Check_9 (v := .ref q_reached) hx hb hts hN hown hK hP 0 rfl rfl d_Check_reach_23 ?_
    refine lv_iload_n hx hb d_Check_reach_26 rfl (lv_at hl 1 rfl) ?_
    obtain ⟨hin, hf⟩ := pu_ck_some hf
    refine va_zald hx hb hK hP 2 3 rfl rfl hin d_Check_reach_27 ?_
    refine lv_if_eq (tgt := 33) hx hb d_Check_reach_28 rfl (fun hc => ?_) (fun hc => ?_)
    · have hf := pu_br_pos hf hc
      refine lv_aload_n hx hb d_Check_reach_33 rfl (lv_at hl 0 rfl) ?_
      refine gf_Check_9 (v := .ref q_reached) hx hb hts hN hown hK hP 0 rfl rfl d_Check_reach_34 ?_
      refine lv_iload_n hx hb d_Check_reach_37 rfl (lv_at hl 1 rfl) ?_
      refine lv_iconst (v := 1) hx hb d_Check_reach_38 rfl ?_
      obtain ⟨hin, hf⟩ := pu_ck_some hf
      obtain ⟨a1, e_a1, hf⟩ := pu_nm_some hf
      refine va_zast hx hb hK hP hD hS 2 3 rfl rfl hin d_Check_reach_39 (fun H locs hP hD hS => ?_)
      have hP : va_P D pu_cl [(q_this, .inr (6, [.ref q_file, .ref q_node, .ref q_row, .ref q_reached, .ref q_treePages, .ref q_lows, .ref q_highs, .int v_treeSize])), (q_file, .inr (0, [.ref q_file_bytes, .int v_file_count])), (q_reached, .inl (cZ, 25, .inl a1))] H := by rw [e_a1]; exact hP
      have hD : va_D A [(q_this, .inr (6, [.ref q_file, .ref q_node, .ref q_row, .ref q_reached, .ref q_treePages, .ref q_lows, .ref q_highs, .int v_treeSize])), (q_file, .inr (0, [.ref q_file_bytes, .int v_file_count])), (q_reached, .inl (cZ, 25, .inl a1))] := by rw [e_a1]; exact hD
      refine lv_iconst (v := 1) hx hb d_Check_reach_40 rfl ?_
      exact hret _ _ _ _ (1 : Int32) a1 d_Check_reach_41 (by decide) hP hD hS hf
    have hf := pu_br_neg hf hc
    refine lv_iconst (v := 0) hx hb d_Check_reach_31 rfl ?_
    exact hret _ _ _ _ (0 : Int32) v_reached d_Check_reach_32 (by decide) hP hD hS hf
  rw [hH, hlocs] at goal
  exact goal
