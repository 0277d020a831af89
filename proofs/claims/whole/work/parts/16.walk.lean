theorem d_Check_listHolds_0 : decode b_Check_listHolds 0 = .ok (.aload_n 0, 1) := by decide +kernel
theorem d_Check_listHolds_1 : decode b_Check_listHolds 1 = .ok (.getfield 25, 3) := by decide +kernel
theorem d_Check_listHolds_4 : decode b_Check_listHolds 4 = .ok (.iconst 1, 1) := by decide +kernel
theorem d_Check_listHolds_5 : decode b_Check_listHolds 5 = .ok (.iconst 2, 1) := by decide +kernel
theorem d_Check_listHolds_6 : decode b_Check_listHolds 6 = .ok (.invokevirtual 65, 3) := by decide +kernel
theorem d_Check_listHolds_9 : decode b_Check_listHolds 9 = .ok (.istore_n 1, 1) := by decide +kernel
theorem d_Check_listHolds_10 : decode b_Check_listHolds 10 = .ok (.aload_n 0, 1) := by decide +kernel
theorem d_Check_listHolds_11 : decode b_Check_listHolds 11 = .ok (.getfield 25, 3) := by decide +kernel
theorem d_Check_listHolds_14 : decode b_Check_listHolds 14 = .ok (.iconst 1, 1) := by decide +kernel
theorem d_Check_listHolds_15 : decode b_Check_listHolds 15 = .ok (.iconst 3, 1) := by decide +kernel
theorem d_Check_listHolds_16 : decode b_Check_listHolds 16 = .ok (.invokevirtual 65, 3) := by decide +kernel
theorem d_Check_listHolds_19 : decode b_Check_listHolds 19 = .ok (.istore_n 2, 1) := by decide +kernel
theorem d_Check_listHolds_20 : decode b_Check_listHolds 20 = .ok (.iconst 0, 1) := by decide +kernel
theorem d_Check_listHolds_21 : decode b_Check_listHolds 21 = .ok (.istore_n 3, 1) := by decide +kernel
theorem d_Check_listHolds_22 : decode b_Check_listHolds 22 = .ok (.iload_n 3, 1) := by decide +kernel
theorem d_Check_listHolds_23 : decode b_Check_listHolds 23 = .ok (.iload_n 2, 1) := by decide +kernel
theorem d_Check_listHolds_24 : decode b_Check_listHolds 24 = .ok (.if_icmp .ge 41, 3) := by decide +kernel
theorem d_Check_listHolds_27 : decode b_Check_listHolds 27 = .ok (.aload_n 0, 1) := by decide +kernel
theorem d_Check_listHolds_28 : decode b_Check_listHolds 28 = .ok (.iload_n 1, 1) := by decide +kernel
theorem d_Check_listHolds_29 : decode b_Check_listHolds 29 = .ok (.invokevirtual 76, 3) := by decide +kernel
theorem d_Check_listHolds_32 : decode b_Check_listHolds 32 = .ok (.ifCond .eq 15, 3) := by decide +kernel
theorem d_Check_listHolds_35 : decode b_Check_listHolds 35 = .ok (.aload_n 0, 1) := by decide +kernel
theorem d_Check_listHolds_36 : decode b_Check_listHolds 36 = .ok (.getfield 25, 3) := by decide +kernel
theorem d_Check_listHolds_39 : decode b_Check_listHolds 39 = .ok (.iload_n 1, 1) := by decide +kernel
theorem d_Check_listHolds_40 : decode b_Check_listHolds 40 = .ok (.iconst 1, 1) := by decide +kernel
theorem d_Check_listHolds_41 : decode b_Check_listHolds 41 = .ok (.invokevirtual 72, 3) := by decide +kernel
theorem d_Check_listHolds_44 : decode b_Check_listHolds 44 = .ok (.ifCond .ne 5, 3) := by decide +kernel
theorem d_Check_listHolds_47 : decode b_Check_listHolds 47 = .ok (.iconst 0, 1) := by decide +kernel
theorem d_Check_listHolds_48 : decode b_Check_listHolds 48 = .ok (.ireturn, 1) := by decide +kernel
theorem d_Check_listHolds_49 : decode b_Check_listHolds 49 = .ok (.aload_n 0, 1) := by decide +kernel
theorem d_Check_listHolds_50 : decode b_Check_listHolds 50 = .ok (.getfield 25, 3) := by decide +kernel
theorem d_Check_listHolds_53 : decode b_Check_listHolds 53 = .ok (.iload_n 1, 1) := by decide +kernel
theorem d_Check_listHolds_54 : decode b_Check_listHolds 54 = .ok (.iconst 0, 1) := by decide +kernel
theorem d_Check_listHolds_55 : decode b_Check_listHolds 55 = .ok (.invokevirtual 65, 3) := by decide +kernel
theorem d_Check_listHolds_58 : decode b_Check_listHolds 58 = .ok (.istore_n 1, 1) := by decide +kernel
theorem d_Check_listHolds_59 : decode b_Check_listHolds 59 = .ok (.iinc 3 1, 3) := by decide +kernel
theorem d_Check_listHolds_62 : decode b_Check_listHolds 62 = .ok (.goto (-40), 3) := by decide +kernel
theorem d_Check_listHolds_65 : decode b_Check_listHolds 65 = .ok (.iload_n 1, 1) := by decide +kernel
theorem d_Check_listHolds_66 : decode b_Check_listHolds 66 = .ok (.ifCond .ne 7, 3) := by decide +kernel
theorem d_Check_listHolds_69 : decode b_Check_listHolds 69 = .ok (.iconst 1, 1) := by decide +kernel
theorem d_Check_listHolds_70 : decode b_Check_listHolds 70 = .ok (.goto 4, 3) := by decide +kernel
theorem d_Check_listHolds_73 : decode b_Check_listHolds 73 = .ok (.iconst 0, 1) := by decide +kernel
theorem d_Check_listHolds_74 : decode b_Check_listHolds 74 = .ok (.ireturn, 1) := by decide +kernel
noncomputable def q_Check_listHolds_65 (v_file_count : Int32) (v_file_bytes : Nat → Int32) (v_reached : Nat → Int32) (x_1 : Int32) : Option (Int32 × (Nat → Int32)) :=
  pu_br (x_1 = 0) (some ((1 : Int32), v_reached)) (some ((0 : Int32), v_reached))
noncomputable def q_Check_listHolds_22 (kx_65 : (Nat → Int32) → Int32 → Option (Int32 × (Nat → Int32))) (v_file_count : Int32) (v_file_bytes : Nat → Int32) (x_2 : Int32) : Nat → (Nat → Int32) → Int32 → Int32 → Option (Int32 × (Nat → Int32))
  | 0, _, _, _ => none
  | n + 1, v_reached, x_1, x_3 => pu_br (x_2 ≤ x_3) (kx_65 v_reached x_1) (pu_b2 (f_Check_reach v_file_count v_reached x_1) (fun r3 w4 => pu_br (r3 = 0) (some ((0 : Int32), w4)) (pu_b1 (f_Pages_zerosFrom v_file_count v_file_bytes x_1 (1 : Int32)) (fun r5 => pu_br (r5 = 0) (some ((0 : Int32), w4)) (pu_b1 (f_Pages_get v_file_count v_file_bytes x_1 (0 : Int32)) (fun r6 => pu_nm (x_3 + (1 : Int32)) (fun t7 => q_Check_listHolds_22 kx_65 v_file_count v_file_bytes x_2 n w4 r6 t7)))))))
noncomputable def f_Check_listHolds (v_file_count : Int32) (v_file_bytes : Nat → Int32) (v_reached : Nat → Int32) : Option (Int32 × (Nat → Int32)) :=
  pu_b1 (f_Pages_get v_file_count v_file_bytes (1 : Int32) (2 : Int32)) (fun r1 => pu_b1 (f_Pages_get v_file_count v_file_bytes (1 : Int32) (3 : Int32)) (fun r2 => q_Check_listHolds_22 (fun v_reached x_1 => q_Check_listHolds_65 v_file_count v_file_bytes v_reached x_1) v_file_count v_file_bytes r2 pu_fu v_reached r1 (0 : Int32)))
abbrev rm_Check_listHolds : Room := { frames := 3, cells := 0, slots := 0, locals := 67 }
set_option maxHeartbeats 8000000 in
set_option maxRecDepth 100000 in
theorem c_Check_listHolds (l : Launch) (D : va_G) (cI cJ cB cZ : ClassId) (sz : Nat) (q_this : Nat) (q_file : Nat) (q_node : Nat) (q_row : Nat) (q_reached : Nat) (q_treePages : Nat) (q_lows : Nat) (q_highs : Nat) (q_file_bytes : Nat) (v_treeSize : Int32) (v_file_count : Int32) (v_file_bytes : Nat → Int32) (v_reached : Nat → Int32) (o_r : Int32) (o_reached : Nat → Int32) (hf : f_Check_listHolds v_file_count v_file_bytes v_reached = some (o_r, o_reached)) : Met l y_Check_listHolds (.code y_Check_listHolds b_Check_listHolds 4 (some .boolean) :: pu_wA) rm_Check_listHolds (pu_pc D pu_cl (pu_ty cI cJ cB cZ) [.ref q_this] [(q_this, .inr (6, [.ref q_file, .ref q_node, .ref q_row, .ref q_reached, .ref q_treePages, .ref q_lows, .ref q_highs, .int v_treeSize])), (q_file, .inr (0, [.ref q_file_bytes, .int v_file_count])), (q_file_bytes, .inl (cB, 1536, .inl v_file_bytes)), (q_reached, .inl (cZ, 25, .inl v_reached))] sz) (pu_qi D pu_cl (pu_ty cI cJ cB cZ) [(q_this, .inr (6, [.ref q_file, .ref q_node, .ref q_row, .ref q_reached, .ref q_treePages, .ref q_lows, .ref q_highs, .int v_treeSize])), (q_file, .inr (0, [.ref q_file_bytes, .int v_file_count])), (q_file_bytes, .inl (cB, 1536, .inl v_file_bytes)), (q_reached, .inl (cZ, 25, .inl v_reached))] [(q_this, .inr (6, [.ref q_file, .ref q_node, .ref q_row, .ref q_reached, .ref q_treePages, .ref q_lows, .ref q_highs, .int v_treeSize])), (q_file, .inr (0, [.ref q_file_bytes, .int v_file_count])), (q_file_bytes, .inl (cB, 1536, .inl v_file_bytes)), (q_reached, .inl (cZ, 25, .inl o_reached))] sz o_r) 0 0 (va_A [(q_this, .inr (6, [.ref q_file, .ref q_node, .ref q_row, .ref q_reached, .ref q_treePages, .ref q_lows, .ref q_highs, .int v_treeSize])), (q_file, .inr (0, [.ref q_file_bytes, .int v_file_count])), (q_file_bytes, .inl (cB, 1536, .inl v_file_bytes)), (q_reached, .inl (cZ, 25, .inl v_reached))] sz) := by
  refine pu_mtz [.ref q_this] [(q_this, .inr (6, [.ref q_file, .ref q_node, .ref q_row, .ref q_reached, .ref q_treePages, .ref q_lows, .ref q_highs, .int v_treeSize])), (q_file, .inr (0, [.ref q_file_bytes, .int v_file_count])), (q_file_bytes, .inl (cB, 1536, .inl v_file_bytes)), (q_reached, .inl (cZ, 25, .inl v_reached))] [(q_this, .inr (6, [.ref q_file, .ref q_node, .ref q_row, .ref q_reached, .ref q_treePages, .ref q_lows, .ref q_highs, .int v_treeSize])), (q_file, .inr (0, [.ref q_file_bytes, .int v_file_count])), (q_file_bytes, .inl (cB, 1536, .inl v_file_bytes)), (q_reached, .inl (cZ, 25, .inl o_reached))] o_r (by decide) (Nat.le_of_ble_eq_true rfl) ?_
  intro p e s m args below meth c A Q ls hx hb hml hts hN hown hK hA hP hD hl hret0
  have hS : va_S A s.heap s.heap [] := va_S.rf
  have hl : lv_has ls 4 [(0, .ref q_this)] := hl
  have hret : ∀ (pc : Nat) (ls : Array Slot) (H : Heap) (locs : List Loc) (y_0 : Int32) (y_1 : Nat → Int32), decode b_Check_listHolds pc = .ok (.ireturn, 1) → narrow .boolean (.int y_0) = .int y_0 → va_P D pu_cl [(q_this, .inr (6, [.ref q_file, .ref q_node, .ref q_row, .ref q_reached, .ref q_treePages, .ref q_lows, .ref q_highs, .int v_treeSize])), (q_file, .inr (0, [.ref q_file_bytes, .int v_file_count])), (q_file_bytes, .inl (cB, 1536, .inl v_file_bytes)), (q_reached, .inl (cZ, 25, .inl y_1))] H → va_D A [(q_this, .inr (6, [.ref q_file, .ref q_node, .ref q_row, .ref q_reached, .ref q_treePages, .ref q_lows, .ref q_highs, .int v_treeSize])), (q_file, .inr (0, [.ref q_file_bytes, .int v_file_count])), (q_file_bytes, .inl (cB, 1536, .inl v_file_bytes)), (q_reached, .inl (cZ, 25, .inl y_1))] → va_S A s.heap H locs → some (y_0, y_1) = some (o_r, o_reached) → W p l e rm_Check_listHolds s m args below meth c H locs 0 0 Q (F0 m pc ls [.int y_0]) := by
    intro pc ls H locs y_0 y_1 hd hz hP hD hS hf
    cases hf
    exact hret0 pc ls H locs hd hz hP hD hS
  clear hret0
  unfold f_Check_listHolds at hf
  skip
  have lb_65 : ∀ (v_reached : Nat → Int32) (x_1 : Int32) (H : Heap) (locs : List Loc) (ls : Array Slot), va_P D pu_cl [(q_this, .inr (6, [.ref q_file, .ref q_node, .ref q_row, .ref q_reached, .ref q_treePages, .ref q_lows, .ref q_highs, .int v_treeSize])), (q_file, .inr (0, [.ref q_file_bytes, .int v_file_count])), (q_file_bytes, .inl (cB, 1536, .inl v_file_bytes)), (q_reached, .inl (cZ, 25, .inl v_reached))] H → va_D A [(q_this, .inr (6, [.ref q_file, .ref q_node, .ref q_row, .ref q_reached, .ref q_treePages, .ref q_lows, .ref q_highs, .int v_treeSize])), (q_file, .inr (0, [.ref q_file_bytes, .int v_file_count])), (q_file_bytes, .inl (cB, 1536, .inl v_file_bytes)), (q_reached, .inl (cZ, 25, .inl v_reached))] → va_S A s.heap H locs → lv_has ls 4 [(1, .int x_1)] → q_Check_listHolds_65 v_file_count v_file_bytes v_reached x_1 = some (o_r, o_reached) → W p l e rm_Check_listHolds s m args below meth c H locs 0 0 Q (F0 m 65 ls []) := by
    intro v_reached x_1 H locs ls hP hD hS hl hf
    rw [q_Check_listHolds_65] at hf
    refine lv_iload_n hx hb d_Check_listHolds_65 rfl (lv_at hl 0 rfl) ?_
    refine lv_if_ne (tgt := 73) hx hb d_Check_listHolds_66 rfl (fun hc => ?_) (fun hc => ?_)
    · have hf := pu_br_neg hf hc
      refine lv_iconst (v := 0) hx hb d_Check_listHolds_73 rfl ?_
      exact hret _ _ _ _ (0 : Int32) v_reached d_Check_listHolds_74 (by decide) hP hD hS hf
    have hf := pu_br_pos hf hc
    refine lv_iconst (v := 1) hx hb d_Check_listHolds_69 rfl ?_
    refine lv_goto (tgt := 74) hx hb d_Check_listHolds_70 rfl ?_
    exact hret _ _ _ _ (1 : Int32) v_reached d_Check_listHolds_74 (by decide) hP hD hS hf
  have lp_22 : ∀ (x_2 : Int32) (n22 : Nat) (v_reached : Nat → Int32) (x_1 : Int32) (x_3 : Int32) (H : Heap) (locs : List Loc) (ls : Array Slot), va_P D pu_cl [(q_this, .inr (6, [.ref q_file, .ref q_node, .ref q_row, .ref q_reached, .ref q_treePages, .ref q_lows, .ref q_highs, .int v_treeSize])), (q_file, .inr (0, [.ref q_file_bytes, .int v_file_count])), (q_file_bytes, .inl (cB, 1536, .inl v_file_bytes)), (q_reached, .inl (cZ, 25, .inl v_reached))] H → va_D A [(q_this, .inr (6, [.ref q_file, .ref q_node, .ref q_row, .ref q_reached, .ref q_treePages, .ref q_lows, .ref q_highs, .int v_treeSize])), (q_file, .inr (0, [.ref q_file_bytes, .int v_file_count])), (q_file_bytes, .inl (cB, 1536, .inl v_file_bytes)), (q_reached, .inl (cZ, 25, .inl v_reached))] → va_S A s.heap H locs → lv_has ls 4 [(0, .ref q_this), (1, .int x_1), (2, .int x_2), (3, .int x_3)] → q_Check_listHolds_22 (fun v_reached x_1 => q_Check_listHolds_65 v_file_count v_file_bytes v_reached x_1) v_file_count v_file_bytes x_2 n22 v_reached x_1 x_3 = some (o_r, o_reached) → W p l e rm_Check_listHolds s m args below meth c H locs 0 0 Q (F0 m 22 ls []) := by
    intro x_2 n22
    induction n22 with
    | zero =>
      intro v_reached x_1 x_3 H locs ls hP hD hS hl hf
      rw [q_Check_listHolds_22] at hf
      cases hf
    | succ n22 ih_22 =>
      intro v_reached x_1 x_3 H locs ls hP hD hS hl hf
      rw [q_Check_listHolds_22] at hf
      refine lv_iload_n hx hb d_Check_listHolds_22 rfl (lv_at hl 3 rfl) ?_
      refine lv_iload_n hx hb d_Check_listHolds_23 rfl (lv_at hl 2 rfl) ?_
      refine lv_icmp_ge (tgt := 65) hx hb d_Check_listHolds_24 rfl (fun hc => ?_) (fun hc => ?_)
      · have hf := pu_br_pos hf hc
        exact lb_65 v_reached x_1 H locs ls hP hD hS (lv_sub hl [1] rfl) hf
      have hf := pu_br_neg hf hc
      refine lv_aload_n hx hb d_Check_listHolds_27 rfl (lv_at hl 0 rfl) ?_
      refine lv_iload_n hx hb d_Check_listHolds_28 rfl (lv_at hl 1 rfl) ?_
      obtain ⟨r3, w4, hc, hf⟩ := pu_b2_some hf
      refine cl_i (WC := [(q_this, .inr (6, [.ref q_file, .ref q_node, .ref q_row, .ref q_reached, .ref q_treePages, .ref q_lows, .ref q_highs, .int v_treeSize])), (q_file, .inr (0, [.ref q_file_bytes, .int v_file_count])), (q_reached, .inl (cZ, 25, .inl v_reached))]) (WC2 := [(q_this, .inr (6, [.ref q_file, .ref q_node, .ref q_row, .ref q_reached, .ref q_treePages, .ref q_lows, .ref q_highs, .int v_treeSize])), (q_file, .inr (0, [.ref q_file_bytes, .int v_file_count])), (q_reached, .inl (cZ, 25, .inl w4))]) (WR := [(q_file_bytes, .inl (cB, 1536, .inl v_file_bytes))]) (WS2 := [(q_this, .inr (6, [.ref q_file, .ref q_node, .ref q_row, .ref q_reached, .ref q_treePages, .ref q_lows, .ref q_highs, .int v_treeSize])), (q_file, .inr (0, [.ref q_file_bytes, .int v_file_count])), (q_file_bytes, .inl (cB, 1536, .inl v_file_bytes)), (q_reached, .inl (cZ, 25, .inl w4))]) (pu_rv (cl := pu_cl) (pu_in7 _ (List.mem_of_getElem? (i := 21) rfl)) (pu_in7 _ (List.mem_of_getElem? (i := 22) rfl)) (pu_in14 _ (List.mem_of_getElem? (i := 0) rfl)) (pu_in0 _ (List.mem_of_getElem? (i := 8) rfl)) (pu_in7 _ (List.mem_of_getElem? (i := 23) rfl)) (ci := 6) rfl hd_Check_reach (by decide) ⟨rfl, rfl⟩ rfl rfl (Nat.le_of_ble_eq_true rfl) rfl (As := [.int x_1]) (rest := []) (WC := [(q_this, .inr (6, [.ref q_file, .ref q_node, .ref q_row, .ref q_reached, .ref q_treePages, .ref q_lows, .ref q_highs, .int v_treeSize])), (q_file, .inr (0, [.ref q_file_bytes, .int v_file_count])), (q_reached, .inl (cZ, 25, .inl v_reached))]) hx hb hml hown hts hN hK hP hD (c_Check_reach l D cI cJ cB cZ H.size q_this q_file q_node q_row q_reached q_treePages q_lows q_highs q_file_bytes v_treeSize v_file_count v_reached x_1 r3 w4 hc) [0, 1, 3] rfl rfl hl.1 d_Check_listHolds_29) hP hD hS hA [0, 1, 3] [2] [1, 2, 0, 3] rfl rfl rfl (by decide) rfl rfl (fun H locs hP hD hS => ?_)
      refine lv_if_eq (tgt := 47) hx hb d_Check_listHolds_32 rfl (fun hc => ?_) (fun hc => ?_)
      · have hf := pu_br_pos hf hc
        refine lv_iconst (v := 0) hx hb d_Check_listHolds_47 rfl ?_
        exact hret _ _ _ _ (0 : Int32) w4 d_Check_listHolds_48 (by decide) hP hD hS hf
      have hf := pu_br_neg hf hc
      refine lv_aload_n hx hb d_Check_listHolds_35 rfl (lv_at hl 0 rfl) ?_
      refine gf_Check_25 (v := .ref q_file) hx hb hts hN hown hK hP 0 rfl rfl d_Check_listHolds_36 ?_
      refine lv_iload_n hx hb d_Check_listHolds_39 rfl (lv_at hl 1 rfl) ?_
      refine lv_iconst (v := 1) hx hb d_Check_listHolds_40 rfl ?_
      obtain ⟨r5, hc, hf⟩ := pu_b1_some hf
      refine cl_i (WC := [(q_file, .inr (0, [.ref q_file_bytes, .int v_file_count])), (q_file_bytes, .inl (cB, 1536, .inl v_file_bytes))]) (WC2 := [(q_file, .inr (0, [.ref q_file_bytes, .int v_file_count])), (q_file_bytes, .inl (cB, 1536, .inl v_file_bytes))]) (WR := [(q_this, .inr (6, [.ref q_file, .ref q_node, .ref q_row, .ref q_reached, .ref q_treePages, .ref q_lows, .ref q_highs, .int v_treeSize])), (q_reached, .inl (cZ, 25, .inl w4))]) (WS2 := [(q_this, .inr (6, [.ref q_file, .ref q_node, .ref q_row, .ref q_reached, .ref q_treePages, .ref q_lows, .ref q_highs, .int v_treeSize])), (q_file, .inr (0, [.ref q_file_bytes, .int v_file_count])), (q_file_bytes, .inl (cB, 1536, .inl v_file_bytes)), (q_reached, .inl (cZ, 25, .inl w4))]) (pu_rv (cl := pu_cl) (pu_in7 _ (List.mem_of_getElem? (i := 14) rfl)) (pu_in7 _ (List.mem_of_getElem? (i := 15) rfl)) (pu_in7 _ (List.mem_of_getElem? (i := 16) rfl)) (pu_in0 _ (List.mem_of_getElem? (i := 3) rfl)) (pu_in7 _ (List.mem_of_getElem? (i := 17) rfl)) (ci := 0) rfl hd_Pages_zerosFrom (by decide) ⟨rfl, rfl⟩ rfl rfl (Nat.le_of_ble_eq_true rfl) rfl (As := [.int x_1, .int (1 : Int32)]) (rest := []) (WC := [(q_file, .inr (0, [.ref q_file_bytes, .int v_file_count])), (q_file_bytes, .inl (cB, 1536, .inl v_file_bytes))]) hx hb hml hown hts hN hK hP hD (c_Pages_zerosFrom l D cI cJ cB cZ H.size q_file q_file_bytes v_file_count v_file_bytes x_1 (1 : Int32) r5 hc) [1, 2] rfl rfl hl.1 d_Check_listHolds_41) hP hD hS hA [1, 2] [0, 3] [0, 2, 3, 1] rfl rfl rfl (by decide) rfl rfl (fun H locs hP hD hS => ?_)
      refine lv_if_ne (tgt := 49) hx hb d_Check_listHolds_44 rfl (fun hc => ?_) (fun hc => ?_)
      · have hf := pu_br_neg hf hc
        refine lv_aload_n hx hb d_Check_listHolds_49 rfl (lv_at hl 0 rfl) ?_
        refine gf_Check_25 (v := .ref q_file) hx hb hts hN hown hK hP 0 rfl rfl d_Check_listHolds_50 ?_
        refine lv_iload_n hx hb d_Check_listHolds_53 rfl (lv_at hl 1 rfl) ?_
        refine lv_iconst (v := 0) hx hb d_Check_listHolds_54 rfl ?_
        obtain ⟨r6, hc, hf⟩ := pu_b1_some hf
        refine cl_i (WC := [(q_file, .inr (0, [.ref q_file_bytes, .int v_file_count])), (q_file_bytes, .inl (cB, 1536, .inl v_file_bytes))]) (WC2 := [(q_file, .inr (0, [.ref q_file_bytes, .int v_file_count])), (q_file_bytes, .inl (cB, 1536, .inl v_file_bytes))]) (WR := [(q_this, .inr (6, [.ref q_file, .ref q_node, .ref q_row, .ref q_reached, .ref q_treePages, .ref q_lows, .ref q_highs, .int v_treeSize])), (q_reached, .inl (cZ, 25, .inl w4))]) (WS2 := [(q_this, .inr (6, [.ref q_file, .ref q_node, .ref q_row, .ref q_reached, .ref q_treePages, .ref q_lows, .ref q_highs, .int v_treeSize])), (q_file, .inr (0, [.ref q_file_bytes, .int v_file_count])), (q_file_bytes, .inl (cB, 1536, .inl v_file_bytes)), (q_reached, .inl (cZ, 25, .inl w4))]) (pu_rv (cl := pu_cl) (pu_in7 _ (List.mem_of_getElem? (i := 13) rfl)) (pu_in3 _ (List.mem_of_getElem? (i := 38) rfl)) (pu_in3 _ (List.mem_of_getElem? (i := 39) rfl)) (pu_in0 _ (List.mem_of_getElem? (i := 3) rfl)) (pu_in3 _ (List.mem_of_getElem? (i := 40) rfl)) (ci := 0) rfl hd_Pages_get (by decide) ⟨rfl, rfl⟩ rfl rfl (Nat.le_of_ble_eq_true rfl) rfl (As := [.int x_1, .int (0 : Int32)]) (rest := []) (WC := [(q_file, .inr (0, [.ref q_file_bytes, .int v_file_count])), (q_file_bytes, .inl (cB, 1536, .inl v_file_bytes))]) hx hb hml hown hts hN hK hP hD (c_Pages_get l D cI cJ cB cZ H.size q_file q_file_bytes v_file_count v_file_bytes x_1 (0 : Int32) r6 hc) [1, 2] rfl rfl hl.1 d_Check_listHolds_55) hP hD hS hA [1, 2] [0, 3] [0, 2, 3, 1] rfl rfl rfl (by decide) rfl rfl (fun H locs hP hD hS => ?_)
        refine lv_istore_n hx hb d_Check_listHolds_58 rfl hl (by decide) rfl (fun ls hl => ?_)
        have hl : lv_has ls 4 [(1, .int r6), (0, .ref q_this), (2, .int x_2), (3, .int x_3)] := hl
        obtain ⟨t7, e_t7, hf⟩ := pu_nm_some hf
        refine lv_iinc (k := 3) (v := t7) hx hb d_Check_listHolds_59 hl rfl e_t7.symm (by decide) rfl (fun ls hl => ?_)
        have hl : lv_has ls 4 [(3, .int t7), (1, .int r6), (0, .ref q_this), (2, .int x_2)] := hl
        refine lv_goto (tgt := 22) hx hb d_Check_listHolds_62 rfl ?_
        exact ih_22 w4 r6 t7 H locs ls hP hD hS (lv_sub hl [2, 1, 3, 0] rfl) hf
      have hf := pu_br_pos hf hc
      refine lv_iconst (v := 0) hx hb d_Check_listHolds_47 rfl ?_
      exact hret _ _ _ _ (0 : Int32) w4 d_Check_listHolds_48 (by decide) hP hD hS hf
  obtain ⟨H, hH⟩ : ∃ H, H = s.heap := ⟨_, rfl⟩
  obtain ⟨locs, hlocs⟩ : ∃ locs : List Loc, locs = [] := ⟨_, rfl⟩
  have hP : va_P D pu_cl [(q_this, .inr (6, [.ref q_file, .ref q_node, .ref q_row, .ref q_reached, .ref q_treePages, .ref q_lows, .ref q_highs, .int v_treeSize])), (q_file, .inr (0, [.ref q_file_bytes, .int v_file_count])), (q_file_bytes, .inl (cB, 1536, .inl v_file_bytes)), (q_reached, .inl (cZ, 25, .inl v_reached))] H := by rw [hH]; exact hP
  have hS : va_S A s.heap H locs := by rw [hH, hlocs]; exact hS
  have goal : W p l e rm_Check_listHolds s m args below meth c H locs 0 0 Q (F0 m 0 ls []) := by
    clear hH hlocs
    refine lv_aload_n hx hb d_Check_listHolds_0 rfl (lv_at hl 0 rfl) ?_
    refine gf_Check_25 (v := .ref q_file) hx hb hts hN hown hK hP 0 rfl rfl d_Check_listHolds_1 ?_
    refine lv_iconst (v := 1) hx hb d_Check_listHolds_4 rfl ?_
    refine lv_iconst (v := 2) hx hb d_Check_listHolds_5 rfl ?_
    obtain ⟨r1, hc, hf⟩ := pu_b1_some hf
    refine cl_i (WC := [(q_file, .inr (0, [.ref q_file_bytes, .int v_file_count])), (q_file_bytes, .inl (cB, 1536, .inl v_file_bytes))]) (WC2 := [(q_file, .inr (0, [.ref q_file_bytes, .int v_file_count])), (q_file_bytes, .inl (cB, 1536, .inl v_file_bytes))]) (WR := [(q_this, .inr (6, [.ref q_file, .ref q_node, .ref q_row, .ref q_reached, .ref q_treePages, .ref q_lows, .ref q_highs, .int v_treeSize])), (q_reached, .inl (cZ, 25, .inl v_reached))]) (WS2 := [(q_this, .inr (6, [.ref q_file, .ref q_node, .ref q_row, .ref q_reached, .ref q_treePages, .ref q_lows, .ref q_highs, .int v_treeSize])), (q_file, .inr (0, [.ref q_file_bytes, .int v_file_count])), (q_file_bytes, .inl (cB, 1536, .inl v_file_bytes)), (q_reached, .inl (cZ, 25, .inl v_reached))]) (pu_rv (cl := pu_cl) (pu_in7 _ (List.mem_of_getElem? (i := 13) rfl)) (pu_in3 _ (List.mem_of_getElem? (i := 38) rfl)) (pu_in3 _ (List.mem_of_getElem? (i := 39) rfl)) (pu_in0 _ (List.mem_of_getElem? (i := 3) rfl)) (pu_in3 _ (List.mem_of_getElem? (i := 40) rfl)) (ci := 0) rfl hd_Pages_get (by decide) ⟨rfl, rfl⟩ rfl rfl (Nat.le_of_ble_eq_true rfl) rfl (As := [.int (1 : Int32), .int (2 : Int32)]) (rest := []) (WC := [(q_file, .inr (0, [.ref q_file_bytes, .int v_file_count])), (q_file_bytes, .inl (cB, 1536, .inl v_file_bytes))]) hx hb hml hown hts hN hK hP hD (c_Pages_get l D cI cJ cB cZ H.size q_file q_file_bytes v_file_count v_file_bytes (1 : Int32) (2 : Int32) r1 hc) [1, 2] rfl rfl hl.1 d_Check_listHolds_6) hP hD hS hA [1, 2] [0, 3] [0, 2, 3, 1] rfl rfl rfl (by decide) rfl rfl (fun H locs hP hD hS => ?_)
    refine lv_istore_n hx hb d_Check_listHolds_9 rfl hl (by decide) rfl (fun ls hl => ?_)
    have hl : lv_has ls 4 [(1, .int r1), (0, .ref q_this)] := hl
    refine lv_aload_n hx hb d_Check_listHolds_10 rfl (lv_at hl 1 rfl) ?_
    refine gf_Check_25 (v := .ref q_file) hx hb hts hN hown hK hP 0 rfl rfl d_Check_listHolds_11 ?_
    refine lv_iconst (v := 1) hx hb d_Check_listHolds_14 rfl ?_
    refine lv_iconst (v := 3) hx hb d_Check_listHolds_15 rfl ?_
    obtain ⟨r2, hc, hf⟩ := pu_b1_some hf
    refine cl_i (WC := [(q_file, .inr (0, [.ref q_file_bytes, .int v_file_count])), (q_file_bytes, .inl (cB, 1536, .inl v_file_bytes))]) (WC2 := [(q_file, .inr (0, [.ref q_file_bytes, .int v_file_count])), (q_file_bytes, .inl (cB, 1536, .inl v_file_bytes))]) (WR := [(q_this, .inr (6, [.ref q_file, .ref q_node, .ref q_row, .ref q_reached, .ref q_treePages, .ref q_lows, .ref q_highs, .int v_treeSize])), (q_reached, .inl (cZ, 25, .inl v_reached))]) (WS2 := [(q_this, .inr (6, [.ref q_file, .ref q_node, .ref q_row, .ref q_reached, .ref q_treePages, .ref q_lows, .ref q_highs, .int v_treeSize])), (q_file, .inr (0, [.ref q_file_bytes, .int v_file_count])), (q_file_bytes, .inl (cB, 1536, .inl v_file_bytes)), (q_reached, .inl (cZ, 25, .inl v_reached))]) (pu_rv (cl := pu_cl) (pu_in7 _ (List.mem_of_getElem? (i := 13) rfl)) (pu_in3 _ (List.mem_of_getElem? (i := 38) rfl)) (pu_in3 _ (List.mem_of_getElem? (i := 39) rfl)) (pu_in0 _ (List.mem_of_getElem? (i := 3) rfl)) (pu_in3 _ (List.mem_of_getElem? (i := 40) rfl)) (ci := 0) rfl hd_Pages_get (by decide) ⟨rfl, rfl⟩ rfl rfl (Nat.le_of_ble_eq_true rfl) rfl (As := [.int (1 : Int32), .int (3 : Int32)]) (rest := []) (WC := [(q_file, .inr (0, [.ref q_file_bytes, .int v_file_count])), (q_file_bytes, .inl (cB, 1536, .inl v_file_bytes))]) hx hb hml hown hts hN hK hP hD (c_Pages_get l D cI cJ cB cZ H.size q_file q_file_bytes v_file_count v_file_bytes (1 : Int32) (3 : Int32) r2 hc) [1, 2] rfl rfl hl.1 d_Check_listHolds_16) hP hD hS hA [1, 2] [0, 3] [0, 2, 3, 1] rfl rfl rfl (by decide) rfl rfl (fun H locs hP hD hS => ?_)
    refine lv_istore_n hx hb d_Check_listHolds_19 rfl hl (by decide) rfl (fun ls hl => ?_)
    have hl : lv_has ls 4 [(2, .int r2), (1, .int r1), (0, .ref q_this)] := hl
    refine lv_iconst (v := 0) hx hb d_Check_listHolds_20 rfl ?_
    refine lv_istore_n hx hb d_Check_listHolds_21 rfl hl (by decide) rfl (fun ls hl => ?_)
    have hl : lv_has ls 4 [(3, .int (0 : Int32)), (2, .int r2), (1, .int r1), (0, .ref q_this)] := hl
    exact lp_22 r2 _ v_reached r1 (0 : Int32) H locs ls hP hD hS (lv_sub hl [3, 2, 1, 0] rfl) hf
  rw [hH, hlocs] at goal
  exact goal
theorem d_Check_reachTreePage_0 : decode b_Check_reachTreePage 0 = .ok (.aload_n 0, 1) := by decide +kernel
theorem d_Check_reachTreePage_1 : decode b_Check_reachTreePage 1 = .ok (.iload_n 1, 1) := by decide +kernel
theorem d_Check_reachTreePage_2 : decode b_Check_reachTreePage 2 = .ok (.invokevirtual 76, 3) := by decide +kernel
theorem d_Check_reachTreePage_5 : decode b_Check_reachTreePage 5 = .ok (.ifCond .eq 12, 3) := by decide +kernel
theorem d_Check_reachTreePage_8 : decode b_Check_reachTreePage 8 = .ok (.aload_n 0, 1) := by decide +kernel
theorem d_Check_reachTreePage_9 : decode b_Check_reachTreePage 9 = .ok (.getfield 37, 3) := by decide +kernel
theorem d_Check_reachTreePage_12 : decode b_Check_reachTreePage 12 = .ok (.bipush 24, 2) := by decide +kernel
theorem d_Check_reachTreePage_14 : decode b_Check_reachTreePage 14 = .ok (.if_icmp .lt 5, 3) := by decide +kernel
theorem d_Check_reachTreePage_17 : decode b_Check_reachTreePage 17 = .ok (.iconst 0, 1) := by decide +kernel
theorem d_Check_reachTreePage_18 : decode b_Check_reachTreePage 18 = .ok (.ireturn, 1) := by decide +kernel
theorem d_Check_reachTreePage_19 : decode b_Check_reachTreePage 19 = .ok (.aload_n 0, 1) := by decide +kernel
theorem d_Check_reachTreePage_20 : decode b_Check_reachTreePage 20 = .ok (.getfield 15, 3) := by decide +kernel
theorem d_Check_reachTreePage_23 : decode b_Check_reachTreePage 23 = .ok (.aload_n 0, 1) := by decide +kernel
theorem d_Check_reachTreePage_24 : decode b_Check_reachTreePage 24 = .ok (.getfield 37, 3) := by decide +kernel
theorem d_Check_reachTreePage_27 : decode b_Check_reachTreePage 27 = .ok (.iload_n 1, 1) := by decide +kernel
theorem d_Check_reachTreePage_28 : decode b_Check_reachTreePage 28 = .ok (.iastore, 1) := by decide +kernel
theorem d_Check_reachTreePage_29 : decode b_Check_reachTreePage 29 = .ok (.aload_n 0, 1) := by decide +kernel
theorem d_Check_reachTreePage_30 : decode b_Check_reachTreePage 30 = .ok (.getfield 19, 3) := by decide +kernel
theorem d_Check_reachTreePage_33 : decode b_Check_reachTreePage 33 = .ok (.aload_n 0, 1) := by decide +kernel
theorem d_Check_reachTreePage_34 : decode b_Check_reachTreePage 34 = .ok (.getfield 37, 3) := by decide +kernel
theorem d_Check_reachTreePage_37 : decode b_Check_reachTreePage 37 = .ok (.iload_n 2, 1) := by decide +kernel
theorem d_Check_reachTreePage_38 : decode b_Check_reachTreePage 38 = .ok (.iastore, 1) := by decide +kernel
theorem d_Check_reachTreePage_39 : decode b_Check_reachTreePage 39 = .ok (.aload_n 0, 1) := by decide +kernel
theorem d_Check_reachTreePage_40 : decode b_Check_reachTreePage 40 = .ok (.getfield 22, 3) := by decide +kernel
theorem d_Check_reachTreePage_43 : decode b_Check_reachTreePage 43 = .ok (.aload_n 0, 1) := by decide +kernel
theorem d_Check_reachTreePage_44 : decode b_Check_reachTreePage 44 = .ok (.getfield 37, 3) := by decide +kernel
theorem d_Check_reachTreePage_47 : decode b_Check_reachTreePage 47 = .ok (.iload_n 3, 1) := by decide +kernel
theorem d_Check_reachTreePage_48 : decode b_Check_reachTreePage 48 = .ok (.iastore, 1) := by decide +kernel
theorem d_Check_reachTreePage_49 : decode b_Check_reachTreePage 49 = .ok (.aload_n 0, 1) := by decide +kernel
theorem d_Check_reachTreePage_50 : decode b_Check_reachTreePage 50 = .ok (.dup, 1) := by decide +kernel
theorem d_Check_reachTreePage_51 : decode b_Check_reachTreePage 51 = .ok (.getfield 37, 3) := by decide +kernel
theorem d_Check_reachTreePage_54 : decode b_Check_reachTreePage 54 = .ok (.iconst 1, 1) := by decide +kernel
theorem d_Check_reachTreePage_55 : decode b_Check_reachTreePage 55 = .ok (.iadd, 1) := by decide +kernel
theorem d_Check_reachTreePage_56 : decode b_Check_reachTreePage 56 = .ok (.putfield 37, 3) := by decide +kernel
theorem d_Check_reachTreePage_59 : decode b_Check_reachTreePage 59 = .ok (.iconst 1, 1) := by decide +kernel
theorem d_Check_reachTreePage_60 : decode b_Check_reachTreePage 60 = .ok (.ireturn, 1) := by decide +kernel
noncomputable def f_Check_reachTreePage (v_file_count : Int32) (v_treeSize : Int32) (v_reached : Nat → Int32) (v_treePages : Nat → Int32) (v_lows : Nat → Int32) (v_highs : Nat → Int32) (x_1 : Int32) (x_2 : Int32) (x_3 : Int32) : Option (Int32 × Int32 × (Nat → Int32) × (Nat → Int32) × (Nat → Int32) × (Nat → Int32)) :=
  pu_b2 (f_Check_reach v_file_count v_reached x_1) (fun r1 w2 => pu_br (r1 = 0) (some ((0 : Int32), v_treeSize, w2, v_treePages, v_lows, v_highs)) (pu_br (v_treeSize < (24 : Int32)) (pu_ck (vp_in v_treeSize 24) (pu_nm (upd v_treePages v_treeSize.toNatClampNeg x_1) (fun a3 => pu_ck (vp_in v_treeSize 24) (pu_nm (upd v_lows v_treeSize.toNatClampNeg x_2) (fun a4 => pu_ck (vp_in v_treeSize 24) (pu_nm (upd v_highs v_treeSize.toNatClampNeg x_3) (fun a5 => pu_nm (v_treeSize + (1 : Int32)) (fun t6 => some ((1 : Int32), t6, w2, a3, a4, a5))))))))) (some ((0 : Int32), v_treeSize, w2, v_treePages, v_lows, v_highs))))
abbrev rm_Check_reachTreePage : Room := { frames := 1, cells := 0, slots := 0, locals := 21 }
set_option maxHeartbeats 8000000 in
set_option maxRecDepth 100000 in
theorem c_Check_reachTreePage (l : Launch) (D : va_G) (cI cJ cB cZ : ClassId) (sz : Nat) (q_this : Nat) (q_file : Nat) (q_node : Nat) (q_row : Nat) (q_reached : Nat) (q_treePages : Nat) (q_lows : Nat) (q_highs : Nat) (q_file_bytes : Nat) (v_treeSize : Int32) (v_file_count : Int32) (v_reached : Nat → Int32) (v_treePages : Nat → Int32) (v_lows : Nat → Int32) (v_highs : Nat → Int32) (x_1 : Int32) (x_2 : Int32) (x_3 : Int32) (o_r : Int32) (o_treeSize : Int32) (o_reached : Nat → Int32) (o_treePages : Nat → Int32) (o_lows : Nat → Int32) (o_highs : Nat → Int32) (hf : f_Check_reachTreePage v_file_count v_treeSize v_reached v_treePages v_lows v_highs x_1 x_2 x_3 = some (o_r, o_treeSize, o_reached, o_treePages, o_lows, o_highs)) : Met l y_Check_reachTreePage (.code y_Check_reachTreePage b_Check_reachTreePage 4 (some .boolean) :: pu_wA) rm_Check_reachTreePage (pu_pc D pu_cl (pu_ty cI cJ cB cZ) [.ref q_this, .int x_1, .int x_2, .int x_3] [(q_this, .inr (6, [.ref q_file, .ref q_node, .ref q_row, .ref q_reached, .ref q_treePages, .ref q_lows, .ref q_highs, .int v_treeSize])), (q_file, .inr (0, [.ref q_file_bytes, .int v_file_count])), (q_reached, .inl (cZ, 25, .inl v_reached)), (q_treePages, .inl (cI, 24, .inl v_treePages)), (q_lows, .inl (cI, 24, .inl v_lows)), (q_highs, .inl (cI, 24, .inl v_highs))] sz) (pu_qi D pu_cl (pu_ty cI cJ cB cZ) [(q_this, .inr (6, [.ref q_file, .ref q_node, .ref q_row, .ref q_reached, .ref q_treePages, .ref q_lows, .ref q_highs, .int v_treeSize])), (q_file, .inr (0, [.ref q_file_bytes, .int v_file_count])), (q_reached, .inl (cZ, 25, .inl v_reached)), (q_treePages, .inl (cI, 24, .inl v_treePages)), (q_lows, .inl (cI, 24, .inl v_lows)), (q_highs, .inl (cI, 24, .inl v_highs))] [(q_this, .inr (6, [.ref q_file, .ref q_node, .ref q_row, .ref q_reached, .ref q_treePages, .ref q_lows, .ref q_highs, .int o_treeSize])), (q_file, .inr (0, [.ref q_file_bytes, .int v_file_count])), (q_reached, .inl (cZ, 25, .inl o_reached)), (q_treePages, .inl (cI, 24, .inl o_treePages)), (q_lows, .inl (cI, 24, .inl o_lows)), (q_highs, .inl (cI, 24, .inl o_highs))] sz o_r) 0 0 (va_A [(q_this, .inr (6, [.ref q_file, .ref q_node, .ref q_row, .ref q_reached, .ref q_treePages, .ref q_lows, .ref q_highs, .int v_treeSize])), (q_file, .inr (0, [.ref q_file_bytes, .int v_file_count])), (q_reached, .inl (cZ, 25, .inl v_reached)), (q_treePages, .inl (cI, 24, .inl v_treePages)), (q_lows, .inl (cI, 24, .inl v_lows)), (q_highs, .inl (cI, 24, .inl v_highs))] sz) := by
  refine pu_mtz [.ref q_this, .int x_1, .int x_2, .int x_3] [(q_this, .inr (6, [.ref q_file, .ref q_node, .ref q_row, .ref q_reached, .ref q_treePages, .ref q_lows, .ref q_highs, .int v_treeSize])), (q_file, .inr (0, [.ref q_file_bytes, .int v_file_count])), (q_reached, .inl (cZ, 25, .inl v_reached)), (q_treePages, .inl (cI, 24, .inl v_treePages)), (q_lows, .inl (cI, 24, .inl v_lows)), (q_highs, .inl (cI, 24, .inl v_highs))] [(q_this, .inr (6, [.ref q_file, .ref q_node, .ref q_row, .ref q_reached, .ref q_treePages, .ref q_lows, .ref q_highs, .int o_treeSize])), (q_file, .inr (0, [.ref q_file_bytes, .int v_file_count])), (q_reached, .inl (cZ, 25, .inl o_reached)), (q_treePages, .inl (cI, 24, .inl o_treePages)), (q_lows, .inl (cI, 24, .inl o_lows)), (q_highs, .inl (cI, 24, .inl o_highs))] o_r (by decide) (Nat.le_of_ble_eq_true rfl) ?_
  intro p e s m args below meth c A Q ls hx hb hml hts hN hown hK hA hP hD hl hret0
  have hS : va_S A s.heap s.heap [] := va_S.rf
  have hl : lv_has ls 4 [(0, .ref q_this), (1, .int x_1), (2, .int x_2), (3, .int x_3)] := hl
  have hret : ∀ (pc : Nat) (ls : Array Slot) (H : Heap) (locs : List Loc) (y_0 : Int32) (y_1 : Int32) (y_2 : Nat → Int32) (y_3 : Nat → Int32) (y_4 : Nat → Int32) (y_5 : Nat → Int32), decode b_Check_reachTreePage pc = .ok (.ireturn, 1) → narrow .boolean (.int y_0) = .int y_0 → va_P D pu_cl [(q_this, .inr (6, [.ref q_file, .ref q_node, .ref q_row, .ref q_reached, .ref q_treePages, .ref q_lows, .ref q_highs, .int y_1])), (q_file, .inr (0, [.ref q_file_bytes, .int v_file_count])), (q_reached, .inl (cZ, 25, .inl y_2)), (q_treePages, .inl (cI, 24, .inl y_3)), (q_lows, .inl (cI, 24, .inl y_4)), (q_highs, .inl (cI, 24, .inl y_5))] H → va_D A [(q_this, .inr (6, [.ref q_file, .ref q_node, .ref q_row, .ref q_reached, .ref q_treePages, .ref q_lows, .ref q_highs, .int y_1])), (q_file, .inr (0, [.ref q_file_bytes, .int v_file_count])), (q_reached, .inl (cZ, 25, .inl y_2)), (q_treePages, .inl (cI, 24, .inl y_3)), (q_lows, .inl (cI, 24, .inl y_4)), (q_highs, .inl (cI, 24, .inl y_5))] → va_S A s.heap H locs → some (y_0, y_1, y_2, y_3, y_4, y_5) = some (o_r, o_treeSize, o_reached, o_treePages, o_lows, o_highs) → W p l e rm_Check_reachTreePage s m args below meth c H locs 0 0 Q (F0 m pc ls [.int y_0]) := by
    intro pc ls H locs y_0 y_1 y_2 y_3 y_4 y_5 hd hz hP hD hS hf
    cases hf
    exact hret0 pc ls H locs hd hz hP hD hS
  clear hret0
  unfold f_Check_reachTreePage at hf
  skip
  obtain ⟨H, hH⟩ : ∃ H, H = s.heap := ⟨_, rfl⟩
  obtain ⟨locs, hlocs⟩ : ∃ locs : List Loc, locs = [] := ⟨_, rfl⟩
  have hP : va_P D pu_cl [(q_this, .inr (6, [.ref q_file, .ref q_node, .ref q_row, .ref q_reached, .ref q_treePages, .ref q_lows, .ref q_highs, .int v_treeSize])), (q_file, .inr (0, [.ref q_file_bytes, .int v_file_count])), (q_reached, .inl (cZ, 25, .inl v_reached)), (q_treePages, .inl (cI, 24, .inl v_treePages)), (q_lows, .inl (cI, 24, .inl v_lows)), (q_highs, .inl (cI, 24, .inl v_highs))] H := by rw [hH]; exact hP
  have hS : va_S A s.heap H locs := by rw [hH, hlocs]; exact hS
  have goal : W p l e rm_Check_reachTreePage s m args below meth c H locs 0 0 Q (F0 m 0 ls []) := by
    clear hH hlocs
    refine lv_aload_n hx hb d_Check_reachTreePage_0 rfl (lv_at hl 0 rfl) ?_
    refine lv_iload_n hx hb d_Check_reachTreePage_1 rfl (lv_at hl 1 rfl) ?_
    obtain ⟨r1, w2, hc, hf⟩ := pu_b2_some hf
    refine cl_i (WC := [(q_this, .inr (6, [.ref q_file, .ref q_node, .ref q_row, .ref q_reached, .ref q_treePages, .ref q_lows, .ref q_highs, .int v_treeSize])), (q_file, .inr (0, [.ref q_file_bytes, .int v_file_count])), (q_reached, .inl (cZ, 25, .inl v_reached))]) (WC2 := [(q_this, .inr (6, [.ref q_file, .ref q_node, .ref q_row, .ref q_reached, .ref q_treePages, .ref q_lows, .ref q_highs, .int v_treeSize])), (q_file, .inr (0, [.ref q_file_bytes, .int v_file_count])), (q_reached, .inl (cZ, 25, .inl w2))]) (WR := [(q_treePages, .inl (cI, 24, .inl v_treePages)), (q_lows, .inl (cI, 24, .inl v_lows)), (q_highs, .inl (cI, 24, .inl v_highs))]) (WS2 := [(q_this, .inr (6, [.ref q_file, .ref q_node, .ref q_row, .ref q_reached, .ref q_treePages, .ref q_lows, .ref q_highs, .int v_treeSize])), (q_file, .inr (0, [.ref q_file_bytes, .int v_file_count])), (q_reached, .inl (cZ, 25, .inl w2)), (q_treePages, .inl (cI, 24, .inl v_treePages)), (q_lows, .inl (cI, 24, .inl v_lows)), (q_highs, .inl (cI, 24, .inl v_highs))]) (pu_rv (cl := pu_cl) (pu_in7 _ (List.mem_of_getElem? (i := 21) rfl)) (pu_in7 _ (List.mem_of_getElem? (i := 22) rfl)) (pu_in14 _ (List.mem_of_getElem? (i := 0) rfl)) (pu_in0 _ (List.mem_of_getElem? (i := 8) rfl)) (pu_in7 _ (List.mem_of_getElem? (i := 23) rfl)) (ci := 6) rfl hd_Check_reach (by decide) ⟨rfl, rfl⟩ rfl rfl (Nat.le_of_ble_eq_true rfl) rfl (As := [.int x_1]) (rest := []) (WC := [(q_this, .inr (6, [.ref q_file, .ref q_node, .ref q_row, .ref q_reached, .ref q_treePages, .ref q_lows, .ref q_highs, .int v_treeSize])), (q_file, .inr (0, [.ref q_file_bytes, .int v_file_count])), (q_reached, .inl (cZ, 25, .inl v_reached))]) hx hb hml hown hts hN hK hP hD (c_Check_reach l D cI cJ cB cZ H.size q_this q_file q_node q_row q_reached q_treePages q_lows q_highs q_file_bytes v_treeSize v_file_count v_reached x_1 r1 w2 hc) [0, 1, 2] rfl rfl hl.1 d_Check_reachTreePage_2) hP hD hS hA [0, 1, 2] [3, 4, 5] [3, 4, 5, 0, 1, 2] rfl rfl rfl (by decide) rfl rfl (fun H locs hP hD hS => ?_)
    refine lv_if_eq (tgt := 17) hx hb d_Check_reachTreePage_5 rfl (fun hc => ?_) (fun hc => ?_)
    · have hf := pu_br_pos hf hc
      refine lv_iconst (v := 0) hx hb d_Check_reachTreePage_17 rfl ?_
      exact hret _ _ _ _ (0 : Int32) v_treeSize w2 v_treePages v_lows v_highs d_Check_reachTreePage_18 (by decide) hP hD hS hf
    have hf := pu_br_neg hf hc
    refine lv_aload_n hx hb d_Check_reachTreePage_8 rfl (lv_at hl 0 rfl) ?_
    refine gf_Check_37 (v := .int v_treeSize) hx hb hts hN hown hK hP 0 rfl rfl d_Check_reachTreePage_9 ?_
    refine lv_bipush (v := 24) hx hb d_Check_reachTreePage_12 rfl ?_
    refine lv_icmp_lt (tgt := 19) hx hb d_Check_reachTreePage_14 rfl (fun hc => ?_) (fun hc => ?_)
    · have hf := pu_br_pos hf hc
      refine lv_aload_n hx hb d_Check_reachTreePage_19 rfl (lv_at hl 0 rfl) ?_
      refine gf_Check_15 (v := .ref q_treePages) hx hb hts hN hown hK hP 0 rfl rfl d_Check_reachTreePage_20 ?_
      refine lv_aload_n hx hb d_Check_reachTreePage_23 rfl (lv_at hl 0 rfl) ?_
      refine gf_Check_37 (v := .int v_treeSize) hx hb hts hN hown hK hP 0 rfl rfl d_Check_reachTreePage_24 ?_
      refine lv_iload_n hx hb d_Check_reachTreePage_27 rfl (lv_at hl 1 rfl) ?_
      obtain ⟨hin, hf⟩ := pu_ck_some hf
      obtain ⟨a3, e_a3, hf⟩ := pu_nm_some hf
      refine va_iast hx hb hK hP hD hS 3 0 rfl rfl hin d_Check_reachTreePage_28 (fun H locs hP hD hS => ?_)
      have hP : va_P D pu_cl [(q_this, .inr (6, [.ref q_file, .ref q_node, .ref q_row, .ref q_reached, .ref q_treePages, .ref q_lows, .ref q_highs, .int v_treeSize])), (q_file, .inr (0, [.ref q_file_bytes, .int v_file_count])), (q_reached, .inl (cZ, 25, .inl w2)), (q_treePages, .inl (cI, 24, .inl a3)), (q_lows, .inl (cI, 24, .inl v_lows)), (q_highs, .inl (cI, 24, .inl v_highs))] H := by rw [e_a3]; exact hP
      have hD : va_D A [(q_this, .inr (6, [.ref q_file, .ref q_node, .ref q_row, .ref q_reached, .ref q_treePages, .ref q_lows, .ref q_highs, .int v_treeSize])), (q_file, .inr (0, [.ref q_file_bytes, .int v_file_count])), (q_reached, .inl (cZ, 25, .inl w2)), (q_treePages, .inl (cI, 24, .inl a3)), (q_lows, .inl (cI, 24, .inl v_lows)), (q_highs, .inl (cI, 24, .inl v_highs))] := by rw [e_a3]; exact hD
      refine lv_aload_n hx hb d_Check_reachTreePage_29 rfl (lv_at hl 0 rfl) ?_
      refine gf_Check_19 (v := .ref q_lows) hx hb hts hN hown hK hP 0 rfl rfl d_Check_reachTreePage_30 ?_
      refine lv_aload_n hx hb d_Check_reachTreePage_33 rfl (lv_at hl 0 rfl) ?_
      refine gf_Check_37 (v := .int v_treeSize) hx hb hts hN hown hK hP 0 rfl rfl d_Check_reachTreePage_34 ?_
      refine lv_iload_n hx hb d_Check_reachTreePage_37 rfl (lv_at hl 2 rfl) ?_
      obtain ⟨hin, hf⟩ := pu_ck_some hf
      obtain ⟨a4, e_a4, hf⟩ := pu_nm_some hf
      refine va_iast hx hb hK hP hD hS 4 0 rfl rfl hin d_Check_reachTreePage_38 (fun H locs hP hD hS => ?_)
      have hP : va_P D pu_cl [(q_this, .inr (6, [.ref q_file, .ref q_node, .ref q_row, .ref q_reached, .ref q_treePages, .ref q_lows, .ref q_highs, .int v_treeSize])), (q_file, .inr (0, [.ref q_file_bytes, .int v_file_count])), (q_reached, .inl (cZ, 25, .inl w2)), (q_treePages, .inl (cI, 24, .inl a3)), (q_lows, .inl (cI, 24, .inl a4)), (q_highs, .inl (cI, 24, .inl v_highs))] H := by rw [e_a4]; exact hP
      have hD : va_D A [(q_this, .inr (6, [.ref q_file, .ref q_node, .ref q_row, .ref q_reached, .ref q_treePages, .ref q_lows, .ref q_highs, .int v_treeSize])), (q_file, .inr (0, [.ref q_file_bytes, .int v_file_count])), (q_reached, .inl (cZ, 25, .inl w2)), (q_treePages, .inl (cI, 24, .inl a3)), (q_lows, .inl (cI, 24, .inl a4)), (q_highs, .inl (cI, 24, .inl v_highs))] := by rw [e_a4]; exact hD
      refine lv_aload_n hx hb d_Check_reachTreePage_39 rfl (lv_at hl 0 rfl) ?_
      refine gf_Check_22 (v := .ref q_highs) hx hb hts hN hown hK hP 0 rfl rfl d_Check_reachTreePage_40 ?_
      refine lv_aload_n hx hb d_Check_reachTreePage_43 rfl (lv_at hl 0 rfl) ?_
      refine gf_Check_37 (v := .int v_treeSize) hx hb hts hN hown hK hP 0 rfl rfl d_Check_reachTreePage_44 ?_
      refine lv_iload_n hx hb d_Check_reachTreePage_47 rfl (lv_at hl 3 rfl) ?_
      obtain ⟨hin, hf⟩ := pu_ck_some hf
      obtain ⟨a5, e_a5, hf⟩ := pu_nm_some hf
      refine va_iast hx hb hK hP hD hS 5 0 rfl rfl hin d_Check_reachTreePage_48 (fun H locs hP hD hS => ?_)
      have hP : va_P D pu_cl [(q_this, .inr (6, [.ref q_file, .ref q_node, .ref q_row, .ref q_reached, .ref q_treePages, .ref q_lows, .ref q_highs, .int v_treeSize])), (q_file, .inr (0, [.ref q_file_bytes, .int v_file_count])), (q_reached, .inl (cZ, 25, .inl w2)), (q_treePages, .inl (cI, 24, .inl a3)), (q_lows, .inl (cI, 24, .inl a4)), (q_highs, .inl (cI, 24, .inl a5))] H := by rw [e_a5]; exact hP
      have hD : va_D A [(q_this, .inr (6, [.ref q_file, .ref q_node, .ref q_row, .ref q_reached, .ref q_treePages, .ref q_lows, .ref q_highs, .int v_treeSize])), (q_file, .inr (0, [.ref q_file_bytes, .int v_file_count])), (q_reached, .inl (cZ, 25, .inl w2)), (q_treePages, .inl (cI, 24, .inl a3)), (q_lows, .inl (cI, 24, .inl a4)), (q_highs, .inl (cI, 24, .inl a5))] := by rw [e_a5]; exact hD
      refine lv_aload_n hx hb d_Check_reachTreePage_49 rfl (lv_at hl 0 rfl) ?_
      refine lv_dup hx hb d_Check_reachTreePage_50 rfl ?_
      refine gf_Check_37 (v := .int v_treeSize) hx hb hts hN hown hK hP 0 rfl rfl d_Check_reachTreePage_51 ?_
      refine lv_iconst (v := 1) hx hb d_Check_reachTreePage_54 rfl ?_
      refine lv_iadd hx hb d_Check_reachTreePage_55 ?_
      obtain ⟨t6, e_t6, hf⟩ := pu_nm_some hf
      refine pu_ti e_t6 ?_
      refine pf_Check_37 (v := .int t6) hx hb hts hN hown hK hP hD hS 0 rfl rfl rfl (Nat.le_of_ble_eq_true rfl) d_Check_reachTreePage_56 (fun H locs hP hD hS => ?_)
      have hP : va_P D pu_cl [(q_this, .inr (6, [.ref q_file, .ref q_node, .ref q_row, .ref q_reached, .ref q_treePages, .ref q_lows, .ref q_highs, .int t6])), (q_file, .inr (0, [.ref q_file_bytes, .int v_file_count])), (q_reached, .inl (cZ, 25, .inl w2)), (q_treePages, .inl (cI, 24, .inl a3)), (q_lows, .inl (cI, 24, .inl a4)), (q_highs, .inl (cI, 24, .inl a5))] H := hP
      have hD : va_D A [(q_this, .inr (6, [.ref q_file, .ref q_node, .ref q_row, .ref q_reached, .ref q_treePages, .ref q_lows, .ref q_highs, .int t6])), (q_file, .inr (0, [.ref q_file_bytes, .int v_file_count])), (q_reached, .inl (cZ, 25, .inl w2)), (q_treePages, .inl (cI, 24, .inl a3)), (q_lows, .inl (cI, 24, .inl a4)), (q_highs, .inl (cI, 24, .inl a5))] := hD
      refine lv_iconst (v := 1) hx hb d_Check_reachTreePage_59 rfl ?_
      exact hret _ _ _ _ (1 : Int32) t6 w2 a3 a4 a5 d_Check_reachTreePage_60 (by decide) hP hD hS hf
    have hf := pu_br_neg hf hc
    refine lv_iconst (v := 0) hx hb d_Check_reachTreePage_17 rfl ?_
    exact hret _ _ _ _ (0 : Int32) v_treeSize w2 v_treePages v_lows v_highs d_Check_reachTreePage_18 (by decide) hP hD hS hf
  rw [hH, hlocs] at goal
  exact goal
theorem d_Node_cellFits_0 : decode b_Node_cellFits 0 = .ok (.aload_n 0, 1) := by decide +kernel
theorem d_Node_cellFits_1 : decode b_Node_cellFits 1 = .ok (.iload_n 1, 1) := by decide +kernel
theorem d_Node_cellFits_2 : decode b_Node_cellFits 2 = .ok (.invokevirtual 57, 3) := by decide +kernel
theorem d_Node_cellFits_5 : decode b_Node_cellFits 5 = .ok (.istore_n 2, 1) := by decide +kernel
theorem d_Node_cellFits_6 : decode b_Node_cellFits 6 = .ok (.iload_n 2, 1) := by decide +kernel
theorem d_Node_cellFits_7 : decode b_Node_cellFits 7 = .ok (.ifCond .ge 5, 3) := by decide +kernel
theorem d_Node_cellFits_10 : decode b_Node_cellFits 10 = .ok (.iconst 0, 1) := by decide +kernel
theorem d_Node_cellFits_11 : decode b_Node_cellFits 11 = .ok (.ireturn, 1) := by decide +kernel
theorem d_Node_cellFits_12 : decode b_Node_cellFits 12 = .ok (.aload_n 0, 1) := by decide +kernel
theorem d_Node_cellFits_13 : decode b_Node_cellFits 13 = .ok (.getfield 28, 3) := by decide +kernel
theorem d_Node_cellFits_16 : decode b_Node_cellFits 16 = .ok (.ifCond .ne 24, 3) := by decide +kernel
theorem d_Node_cellFits_19 : decode b_Node_cellFits 19 = .ok (.aload_n 0, 1) := by decide +kernel
theorem d_Node_cellFits_20 : decode b_Node_cellFits 20 = .ok (.getfield 19, 3) := by decide +kernel
theorem d_Node_cellFits_23 : decode b_Node_cellFits 23 = .ok (.iload_n 1, 1) := by decide +kernel
theorem d_Node_cellFits_24 : decode b_Node_cellFits 24 = .ok (.iaload, 1) := by decide +kernel
theorem d_Node_cellFits_25 : decode b_Node_cellFits 25 = .ok (.iconst 1, 1) := by decide +kernel
theorem d_Node_cellFits_26 : decode b_Node_cellFits 26 = .ok (.iload_n 2, 1) := by decide +kernel
theorem d_Node_cellFits_27 : decode b_Node_cellFits 27 = .ok (.invokestatic 54, 3) := by decide +kernel
theorem d_Node_cellFits_30 : decode b_Node_cellFits 30 = .ok (.iadd, 1) := by decide +kernel
theorem d_Node_cellFits_31 : decode b_Node_cellFits 31 = .ok (.if_icmp .ne 7, 3) := by decide +kernel
theorem d_Node_cellFits_34 : decode b_Node_cellFits 34 = .ok (.iconst 1, 1) := by decide +kernel
theorem d_Node_cellFits_35 : decode b_Node_cellFits 35 = .ok (.goto 4, 3) := by decide +kernel
theorem d_Node_cellFits_38 : decode b_Node_cellFits 38 = .ok (.iconst 0, 1) := by decide +kernel
theorem d_Node_cellFits_39 : decode b_Node_cellFits 39 = .ok (.ireturn, 1) := by decide +kernel
theorem d_Node_cellFits_40 : decode b_Node_cellFits 40 = .ok (.aload_n 0, 1) := by decide +kernel
theorem d_Node_cellFits_41 : decode b_Node_cellFits 41 = .ok (.iload_n 1, 1) := by decide +kernel
theorem d_Node_cellFits_42 : decode b_Node_cellFits 42 = .ok (.invokevirtual 50, 3) := by decide +kernel
theorem d_Node_cellFits_45 : decode b_Node_cellFits 45 = .ok (.istore_n 3, 1) := by decide +kernel
theorem d_Node_cellFits_46 : decode b_Node_cellFits 46 = .ok (.iload_n 3, 1) := by decide +kernel
theorem d_Node_cellFits_47 : decode b_Node_cellFits 47 = .ok (.bipush 24, 2) := by decide +kernel
theorem d_Node_cellFits_49 : decode b_Node_cellFits 49 = .ok (.if_icmp .le 7, 3) := by decide +kernel
theorem d_Node_cellFits_52 : decode b_Node_cellFits 52 = .ok (.iconst 1, 1) := by decide +kernel
theorem d_Node_cellFits_53 : decode b_Node_cellFits 53 = .ok (.goto 4, 3) := by decide +kernel
theorem d_Node_cellFits_56 : decode b_Node_cellFits 56 = .ok (.iconst 0, 1) := by decide +kernel
theorem d_Node_cellFits_57 : decode b_Node_cellFits 57 = .ok (.istore 4, 2) := by decide +kernel
theorem d_Node_cellFits_59 : decode b_Node_cellFits 59 = .ok (.aload_n 0, 1) := by decide +kernel
theorem d_Node_cellFits_60 : decode b_Node_cellFits 60 = .ok (.getfield 19, 3) := by decide +kernel
theorem d_Node_cellFits_63 : decode b_Node_cellFits 63 = .ok (.iload_n 1, 1) := by decide +kernel
theorem d_Node_cellFits_64 : decode b_Node_cellFits 64 = .ok (.iaload, 1) := by decide +kernel
theorem d_Node_cellFits_65 : decode b_Node_cellFits 65 = .ok (.iload_n 3, 1) := by decide +kernel
theorem d_Node_cellFits_66 : decode b_Node_cellFits 66 = .ok (.invokestatic 54, 3) := by decide +kernel
theorem d_Node_cellFits_69 : decode b_Node_cellFits 69 = .ok (.iload_n 2, 1) := by decide +kernel
theorem d_Node_cellFits_70 : decode b_Node_cellFits 70 = .ok (.invokestatic 54, 3) := by decide +kernel
theorem d_Node_cellFits_73 : decode b_Node_cellFits 73 = .ok (.iadd, 1) := by decide +kernel
theorem d_Node_cellFits_74 : decode b_Node_cellFits 74 = .ok (.iload_n 3, 1) := by decide +kernel
theorem d_Node_cellFits_75 : decode b_Node_cellFits 75 = .ok (.invokestatic 60, 3) := by decide +kernel
theorem d_Node_cellFits_78 : decode b_Node_cellFits 78 = .ok (.iadd, 1) := by decide +kernel
theorem d_Node_cellFits_79 : decode b_Node_cellFits 79 = .ok (.iload 4, 2) := by decide +kernel
theorem d_Node_cellFits_81 : decode b_Node_cellFits 81 = .ok (.iadd, 1) := by decide +kernel
theorem d_Node_cellFits_82 : decode b_Node_cellFits 82 = .ok (.if_icmp .ne 7, 3) := by decide +kernel
theorem d_Node_cellFits_85 : decode b_Node_cellFits 85 = .ok (.iconst 1, 1) := by decide +kernel
theorem d_Node_cellFits_86 : decode b_Node_cellFits 86 = .ok (.goto 4, 3) := by decide +kernel
theorem d_Node_cellFits_89 : decode b_Node_cellFits 89 = .ok (.iconst 0, 1) := by decide +kernel
theorem d_Node_cellFits_90 : decode b_Node_cellFits 90 = .ok (.ireturn, 1) := by decide +kernel
noncomputable def q_Node_cellFits_57 (v_count : Int32) (v_leaf : Int32) (v_bytes : Nat → Int32) (v_starts : Nat → Int32) (v_sizes : Nat → Int32) (x_1 : Int32) (x_2 : Int32) (x_3 : Int32) (s_0 : Int32) : Option (Int32) :=
  pu_ck (vp_in x_1 31) (pu_b1 (f_RF_varintSize x_3) (fun r3 => pu_b1 (f_RF_varintSize x_2) (fun r4 => pu_b1 (f_RF_sizeInLeaf x_3) (fun r5 => pu_br ((v_sizes x_1.toNatClampNeg) = (((r3 + r4) + r5) + s_0)) (some (1 : Int32)) (some (0 : Int32))))))
noncomputable def f_Node_cellFits (v_count : Int32) (v_leaf : Int32) (v_bytes : Nat → Int32) (v_starts : Nat → Int32) (v_sizes : Nat → Int32) (x_1 : Int32) : Option (Int32) :=
  pu_b1 (f_Node_cellKey v_count v_leaf v_bytes v_starts v_sizes x_1) (fun r1 => pu_br (0 ≤ r1) (pu_br (v_leaf = 0) (pu_ck (vp_in x_1 31) (pu_b1 (f_RF_varintSize r1) (fun r6 => pu_br ((v_sizes x_1.toNatClampNeg) = ((1 : Int32) + r6)) (some (1 : Int32)) (some (0 : Int32))))) (pu_b1 (f_Node_recordLength v_count v_bytes v_starts v_sizes x_1) (fun r2 => pu_br (r2 ≤ (24 : Int32)) (q_Node_cellFits_57 v_count v_leaf v_bytes v_starts v_sizes x_1 r1 r2 (0 : Int32)) (q_Node_cellFits_57 v_count v_leaf v_bytes v_starts v_sizes x_1 r1 r2 (1 : Int32))))) (some (0 : Int32)))
abbrev rm_Node_cellFits : Room := { frames := 3, cells := 0, slots := 0, locals := 69 }
set_option maxHeartbeats 8000000 in
set_option maxRecDepth 100000 in
theorem c_Node_cellFits (l : Launch) (D : va_G) (cI cJ cB cZ : ClassId) (sz : Nat) (q_this : Nat) (q_bytes : Nat) (q_starts : Nat) (q_sizes : Nat) (v_count : Int32) (v_last : Int32) (v_leaf : Int32) (v_bytes : Nat → Int32) (v_starts : Nat → Int32) (v_sizes : Nat → Int32) (x_1 : Int32) (o_r : Int32) (hf : f_Node_cellFits v_count v_leaf v_bytes v_starts v_sizes x_1 = some o_r) : Met l y_Node_cellFits (.code y_Node_cellFits b_Node_cellFits 5 (some .boolean) :: pu_wA) rm_Node_cellFits (pu_pc D pu_cl (pu_ty cI cJ cB cZ) [.ref q_this, .int x_1] [(q_this, .inr (3, [.ref q_bytes, .ref q_starts, .ref q_sizes, .int v_count, .int v_last, .int v_leaf])), (q_bytes, .inl (cB, 96, .inl v_bytes)), (q_starts, .inl (cI, 31, .inl v_starts)), (q_sizes, .inl (cI, 31, .inl v_sizes))] sz) (pu_qi D pu_cl (pu_ty cI cJ cB cZ) [(q_this, .inr (3, [.ref q_bytes, .ref q_starts, .ref q_sizes, .int v_count, .int v_last, .int v_leaf])), (q_bytes, .inl (cB, 96, .inl v_bytes)), (q_starts, .inl (cI, 31, .inl v_starts)), (q_sizes, .inl (cI, 31, .inl v_sizes))] [(q_this, .inr (3, [.ref q_bytes, .ref q_starts, .ref q_sizes, .int v_count, .int v_last, .int v_leaf])), (q_bytes, .inl (cB, 96, .inl v_bytes)), (q_starts, .inl (cI, 31, .inl v_starts)), (q_sizes, .inl (cI, 31, .inl v_sizes))] sz o_r) 0 0 (va_A [(q_this, .inr (3, [.ref q_bytes, .ref q_starts, .ref q_sizes, .int v_count, .int v_last, .int v_leaf])), (q_bytes, .inl (cB, 96, .inl v_bytes)), (q_starts, .inl (cI, 31, .inl v_starts)), (q_sizes, .inl (cI, 31, .inl v_sizes))] sz) := by
  refine pu_mtz [.ref q_this, .int x_1] [(q_this, .inr (3, [.ref q_bytes, .ref q_starts, .ref q_sizes, .int v_count, .int v_last, .int v_leaf])), (q_bytes, .inl (cB, 96, .inl v_bytes)), (q_starts, .inl (cI, 31, .inl v_starts)), (q_sizes, .inl (cI, 31, .inl v_sizes))] [(q_this, .inr (3, [.ref q_bytes, .ref q_starts, .ref q_sizes, .int v_count, .int v_last, .int v_leaf])), (q_bytes, .inl (cB, 96, .inl v_bytes)), (q_starts, .inl (cI, 31, .inl v_starts)), (q_sizes, .inl (cI, 31, .inl v_sizes))] o_r (by decide) (Nat.le_of_ble_eq_true rfl) ?_
  intro p e s m args below meth c A Q ls hx hb hml hts hN hown hK hA hP hD hl hret0
  have hS : va_S A s.heap s.heap [] := va_S.rf
  have hl : lv_has ls 5 [(0, .ref q_this), (1, .int x_1)] := hl
  have hret : ∀ (pc : Nat) (ls : Array Slot) (H : Heap) (locs : List Loc) (y_0 : Int32), decode b_Node_cellFits pc = .ok (.ireturn, 1) → narrow .boolean (.int y_0) = .int y_0 → va_P D pu_cl [(q_this, .inr (3, [.ref q_bytes, .ref q_starts, .ref q_sizes, .int v_count, .int v_last, .int v_leaf])), (q_bytes, .inl (cB, 96, .inl v_bytes)), (q_starts, .inl (cI, 31, .inl v_starts)), (q_sizes, .inl (cI, 31, .inl v_sizes))] H → va_D A [(q_this, .inr (3, [.ref q_bytes, .ref q_starts, .ref q_sizes, .int v_count, .int v_last, .int v_leaf])), (q_bytes, .inl (cB, 96, .inl v_bytes)), (q_starts, .inl (cI, 31, .inl v_starts)), (q_sizes, .inl (cI, 31, .inl v_sizes))] → va_S A s.heap H locs → some y_0 = some o_r → W p l e rm_Node_cellFits s m args below meth c H locs 0 0 Q (F0 m pc ls [.int y_0]) := by
    intro pc ls H locs y_0 hd hz hP hD hS hf
    cases hf
    exact hret0 pc ls H locs hd hz hP hD hS
  clear hret0
  unfold f_Node_cellFits at hf
  skip
  have lb_57 : ∀ (x_1 : Int32) (x_2 : Int32) (x_3 : Int32) (s_0 : Int32) (H : Heap) (locs : List Loc) (ls : Array Slot), va_P D pu_cl [(q_this, .inr (3, [.ref q_bytes, .ref q_starts, .ref q_sizes, .int v_count, .int v_last, .int v_leaf])), (q_bytes, .inl (cB, 96, .inl v_bytes)), (q_starts, .inl (cI, 31, .inl v_starts)), (q_sizes, .inl (cI, 31, .inl v_sizes))] H → va_D A [(q_this, .inr (3, [.ref q_bytes, .ref q_starts, .ref q_sizes, .int v_count, .int v_last, .int v_leaf])), (q_bytes, .inl (cB, 96, .inl v_bytes)), (q_starts, .inl (cI, 31, .inl v_starts)), (q_sizes, .inl (cI, 31, .inl v_sizes))] → va_S A s.heap H locs → lv_has ls 5 [(0, .ref q_this), (1, .int x_1), (2, .int x_2), (3, .int x_3)] → q_Node_cellFits_57 v_count v_leaf v_bytes v_starts v_sizes x_1 x_2 x_3 s_0 = some o_r → W p l e rm_Node_cellFits s m args below meth c H locs 0 0 Q (F0 m 57 ls [.int s_0]) := by
    intro x_1 x_2 x_3 s_0 H locs ls hP hD hS hl hf
    rw [q_Node_cellFits_57] at hf
    refine lv_istore hx hb d_Node_cellFits_57 hl (by decide) rfl (fun ls hl => ?_)
    have hl : lv_has ls 5 [(4, .int s_0), (0, .ref q_this), (1, .int x_1), (2, .int x_2), (3, .int x_3)] := hl
    refine lv_aload_n hx hb d_Node_cellFits_59 rfl (lv_at hl 1 rfl) ?_
    refine gf_Node_19 (v := .ref q_sizes) hx hb hts hN hown hK hP 0 rfl rfl d_Node_cellFits_60 ?_
    refine lv_iload_n hx hb d_Node_cellFits_63 rfl (lv_at hl 2 rfl) ?_
    obtain ⟨hin, hf⟩ := pu_ck_some hf
    refine va_iald hx hb hK hP 3 0 rfl rfl hin d_Node_cellFits_64 ?_
    refine lv_iload_n hx hb d_Node_cellFits_65 rfl (lv_at hl 4 rfl) ?_
    obtain ⟨r3, hc, hf⟩ := pu_b1_some hf
    refine cl_i (WC := []) (WC2 := []) (WR := [(q_this, .inr (3, [.ref q_bytes, .ref q_starts, .ref q_sizes, .int v_count, .int v_last, .int v_leaf])), (q_bytes, .inl (cB, 96, .inl v_bytes)), (q_starts, .inl (cI, 31, .inl v_starts)), (q_sizes, .inl (cI, 31, .inl v_sizes))]) (WS2 := [(q_this, .inr (3, [.ref q_bytes, .ref q_starts, .ref q_sizes, .int v_count, .int v_last, .int v_leaf])), (q_bytes, .inl (cB, 96, .inl v_bytes)), (q_starts, .inl (cI, 31, .inl v_starts)), (q_sizes, .inl (cI, 31, .inl v_sizes))]) (pu_rsn (List.mem_of_getElem? (i := 32) rfl) (pu_in4 _ (List.mem_of_getElem? (i := 2) rfl)) (pu_in0 _ (List.mem_of_getElem? (i := 1) rfl)) (pu_in4 _ (List.mem_of_getElem? (i := 3) rfl)) hd_RF_varintSize (by decide) ⟨rfl, rfl⟩ rfl rfl (Nat.le_of_ble_eq_true rfl) (As := [.int x_3]) (rest := [.int (v_sizes x_1.toNatClampNeg)]) (WC := []) hx hb hml hown hts hN hK hP hD (c_RF_varintSize l D cI cJ cB cZ H.size x_3 r3 hc) [] rfl rfl hl.1 d_Node_cellFits_66) hP hD hS hA [] [0, 1, 2, 3] [0, 1, 2, 3] rfl rfl rfl (by decide) rfl rfl (fun H locs hP hD hS => ?_)
    refine lv_iload_n hx hb d_Node_cellFits_69 rfl (lv_at hl 3 rfl) ?_
    obtain ⟨r4, hc, hf⟩ := pu_b1_some hf
    refine cl_i (WC := []) (WC2 := []) (WR := [(q_this, .inr (3, [.ref q_bytes, .ref q_starts, .ref q_sizes, .int v_count, .int v_last, .int v_leaf])), (q_bytes, .inl (cB, 96, .inl v_bytes)), (q_starts, .inl (cI, 31, .inl v_starts)), (q_sizes, .inl (cI, 31, .inl v_sizes))]) (WS2 := [(q_this, .inr (3, [.ref q_bytes, .ref q_starts, .ref q_sizes, .int v_count, .int v_last, .int v_leaf])), (q_bytes, .inl (cB, 96, .inl v_bytes)), (q_starts, .inl (cI, 31, .inl v_starts)), (q_sizes, .inl (cI, 31, .inl v_sizes))]) (pu_rsn (List.mem_of_getElem? (i := 32) rfl) (pu_in4 _ (List.mem_of_getElem? (i := 2) rfl)) (pu_in0 _ (List.mem_of_getElem? (i := 1) rfl)) (pu_in4 _ (List.mem_of_getElem? (i := 3) rfl)) hd_RF_varintSize (by decide) ⟨rfl, rfl⟩ rfl rfl (Nat.le_of_ble_eq_true rfl) (As := [.int x_2]) (rest := [.int r3, .int (v_sizes x_1.toNatClampNeg)]) (WC := []) hx hb hml hown hts hN hK hP hD (c_RF_varintSize l D cI cJ cB cZ H.size x_2 r4 hc) [] rfl rfl hl.1 d_Node_cellFits_70) hP hD hS hA [] [0, 1, 2, 3] [0, 1, 2, 3] rfl rfl rfl (by decide) rfl rfl (fun H locs hP hD hS => ?_)
    refine lv_iadd hx hb d_Node_cellFits_73 ?_
    refine lv_iload_n hx hb d_Node_cellFits_74 rfl (lv_at hl 4 rfl) ?_
    obtain ⟨r5, hc, hf⟩ := pu_b1_some hf
    refine cl_i (WC := []) (WC2 := []) (WR := [(q_this, .inr (3, [.ref q_bytes, .ref q_starts, .ref q_sizes, .int v_count, .int v_last, .int v_leaf])), (q_bytes, .inl (cB, 96, .inl v_bytes)), (q_starts, .inl (cI, 31, .inl v_starts)), (q_sizes, .inl (cI, 31, .inl v_sizes))]) (WS2 := [(q_this, .inr (3, [.ref q_bytes, .ref q_starts, .ref q_sizes, .int v_count, .int v_last, .int v_leaf])), (q_bytes, .inl (cB, 96, .inl v_bytes)), (q_starts, .inl (cI, 31, .inl v_starts)), (q_sizes, .inl (cI, 31, .inl v_sizes))]) (pu_rsn (List.mem_of_getElem? (i := 39) rfl) (pu_in4 _ (List.mem_of_getElem? (i := 30) rfl)) (pu_in0 _ (List.mem_of_getElem? (i := 1) rfl)) (pu_in4 _ (List.mem_of_getElem? (i := 31) rfl)) hd_RF_sizeInLeaf (by decide) ⟨rfl, rfl⟩ rfl rfl (Nat.le_of_ble_eq_true rfl) (As := [.int x_3]) (rest := [.int (r3 + r4), .int (v_sizes x_1.toNatClampNeg)]) (WC := []) hx hb hml hown hts hN hK hP hD (c_RF_sizeInLeaf l D cI cJ cB cZ H.size x_3 r5 hc) [] rfl rfl hl.1 d_Node_cellFits_75) hP hD hS hA [] [0, 1, 2, 3] [0, 1, 2, 3] rfl rfl rfl (by decide) rfl rfl (fun H locs hP hD hS => ?_)
    refine lv_iadd hx hb d_Node_cellFits_78 ?_
    refine lv_iload hx hb d_Node_cellFits_79 (lv_at hl 0 rfl) ?_
    refine lv_iadd hx hb d_Node_cellFits_81 ?_
    refine lv_icmp_ne (tgt := 89) hx hb d_Node_cellFits_82 rfl (fun hc => ?_) (fun hc => ?_)
    · have hf := pu_br_neg hf hc
      refine lv_iconst (v := 0) hx hb d_Node_cellFits_89 rfl ?_
      exact hret _ _ _ _ (0 : Int32)  d_Node_cellFits_90 (by decide) hP hD hS hf
    have hf := pu_br_pos hf hc
    refine lv_iconst (v := 1) hx hb d_Node_cellFits_85 rfl ?_
    refine lv_goto (tgt := 90) hx hb d_Node_cellFits_86 rfl ?_
    exact hret _ _ _ _ (1 : Int32)  d_Node_cellFits_90 (by decide) hP hD hS hf
  obtain ⟨H, hH⟩ : ∃ H, H = s.heap := ⟨_, rfl⟩
  obtain ⟨locs, hlocs⟩ : ∃ locs : List Loc, locs = [] := ⟨_, rfl⟩
  have hP : va_P D pu_cl [(q_this, .inr (3, [.ref q_bytes, .ref q_starts, .ref q_sizes, .int v_count, .int v_last, .int v_leaf])), (q_bytes, .inl (cB, 96, .inl v_bytes)), (q_starts, .inl (cI, 31, .inl v_starts)), (q_sizes, .inl (cI, 31, .inl v_sizes))] H := by rw [hH]; exact hP
  have hS : va_S A s.heap H locs := by rw [hH, hlocs]; exact hS
  have goal : W p l e rm_Node_cellFits s m args below meth c H locs 0 0 Q (F0 m 0 ls []) := by
    clear hH hlocs
    refine lv_aload_n hx hb d_Node_cellFits_0 rfl (lv_at hl 0 rfl) ?_
    refine lv_iload_n hx hb d_Node_cellFits_1 rfl (lv_at hl 1 rfl) ?_
    obtain ⟨r1, hc, hf⟩ := pu_b1_some hf
    refine cl_i (WC := [(q_this, .inr (3, [.ref q_bytes, .ref q_starts, .ref q_sizes, .int v_count, .int v_last, .int v_leaf])), (q_bytes, .inl (cB, 96, .inl v_bytes)), (q_starts, .inl (cI, 31, .inl v_starts)), (q_sizes, .inl (cI, 31, .inl v_sizes))]) (WC2 := [(q_this, .inr (3, [.ref q_bytes, .ref q_starts, .ref q_sizes, .int v_count, .int v_last, .int v_leaf])), (q_bytes, .inl (cB, 96, .inl v_bytes)), (q_starts, .inl (cI, 31, .inl v_starts)), (q_sizes, .inl (cI, 31, .inl v_sizes))]) (WR := []) (WS2 := [(q_this, .inr (3, [.ref q_bytes, .ref q_starts, .ref q_sizes, .int v_count, .int v_last, .int v_leaf])), (q_bytes, .inl (cB, 96, .inl v_bytes)), (q_starts, .inl (cI, 31, .inl v_starts)), (q_sizes, .inl (cI, 31, .inl v_sizes))]) (pu_rv (cl := pu_cl) (pu_in3 _ (List.mem_of_getElem? (i := 53) rfl)) (pu_in3 _ (List.mem_of_getElem? (i := 54) rfl)) (pu_in3 _ (List.mem_of_getElem? (i := 55) rfl)) (pu_in0 _ (List.mem_of_getElem? (i := 6) rfl)) (pu_in3 _ (List.mem_of_getElem? (i := 56) rfl)) (ci := 3) rfl hd_Node_cellKey (by decide) ⟨rfl, rfl⟩ rfl rfl (Nat.le_of_ble_eq_true rfl) rfl (As := [.int x_1]) (rest := []) (WC := [(q_this, .inr (3, [.ref q_bytes, .ref q_starts, .ref q_sizes, .int v_count, .int v_last, .int v_leaf])), (q_bytes, .inl (cB, 96, .inl v_bytes)), (q_starts, .inl (cI, 31, .inl v_starts)), (q_sizes, .inl (cI, 31, .inl v_sizes))]) hx hb hml hown hts hN hK hP hD (c_Node_cellKey l D cI cJ cB cZ H.size q_this q_bytes q_starts q_sizes v_count v_last v_leaf v_bytes v_starts v_sizes x_1 r1 hc) [0, 1, 2, 3] rfl rfl hl.1 d_Node_cellFits_2) hP hD hS hA [0, 1, 2, 3] [] [0, 1, 2, 3] rfl rfl rfl (by decide) rfl rfl (fun H locs hP hD hS => ?_)
    refine lv_istore_n hx hb d_Node_cellFits_5 rfl hl (by decide) rfl (fun ls hl => ?_)
    have hl : lv_has ls 5 [(2, .int r1), (0, .ref q_this), (1, .int x_1)] := hl
    refine lv_iload_n hx hb d_Node_cellFits_6 rfl (lv_at hl 0 rfl) ?_
    refine lv_if_ge (tgt := 12) hx hb d_Node_cellFits_7 rfl (fun hc => ?_) (fun hc => ?_)
    · have hf := pu_br_pos hf hc
      refine lv_aload_n hx hb d_Node_cellFits_12 rfl (lv_at hl 1 rfl) ?_
      refine gf_Node_28 (v := .int v_leaf) hx hb hts hN hown hK hP 0 rfl rfl d_Node_cellFits_13 ?_
      refine lv_if_ne (tgt := 40) hx hb d_Node_cellFits_16 rfl (fun hc => ?_) (fun hc => ?_)
      · have hf := pu_br_neg hf hc
        refine lv_aload_n hx hb d_Node_cellFits_40 rfl (lv_at hl 1 rfl) ?_
        refine lv_iload_n hx hb d_Node_cellFits_41 rfl (lv_at hl 2 rfl) ?_
        obtain ⟨r2, hc, hf⟩ := pu_b1_some hf
        refine cl_i (WC := [(q_this, .inr (3, [.ref q_bytes, .ref q_starts, .ref q_sizes, .int v_count, .int v_last, .int v_leaf])), (q_bytes, .inl (cB, 96, .inl v_bytes)), (q_starts, .inl (cI, 31, .inl v_starts)), (q_sizes, .inl (cI, 31, .inl v_sizes))]) (WC2 := [(q_this, .inr (3, [.ref q_bytes, .ref q_starts, .ref q_sizes, .int v_count, .int v_last, .int v_leaf])), (q_bytes, .inl (cB, 96, .inl v_bytes)), (q_starts, .inl (cI, 31, .inl v_starts)), (q_sizes, .inl (cI, 31, .inl v_sizes))]) (WR := []) (WS2 := [(q_this, .inr (3, [.ref q_bytes, .ref q_starts, .ref q_sizes, .int v_count, .int v_last, .int v_leaf])), (q_bytes, .inl (cB, 96, .inl v_bytes)), (q_starts, .inl (cI, 31, .inl v_starts)), (q_sizes, .inl (cI, 31, .inl v_sizes))]) (pu_rv (cl := pu_cl) (pu_in3 _ (List.mem_of_getElem? (i := 60) rfl)) (pu_in3 _ (List.mem_of_getElem? (i := 61) rfl)) (pu_in3 _ (List.mem_of_getElem? (i := 62) rfl)) (pu_in0 _ (List.mem_of_getElem? (i := 6) rfl)) (pu_in3 _ (List.mem_of_getElem? (i := 63) rfl)) (ci := 3) rfl hd_Node_recordLength (by decide) ⟨rfl, rfl⟩ rfl rfl (Nat.le_of_ble_eq_true rfl) rfl (As := [.int x_1]) (rest := []) (WC := [(q_this, .inr (3, [.ref q_bytes, .ref q_starts, .ref q_sizes, .int v_count, .int v_last, .int v_leaf])), (q_bytes, .inl (cB, 96, .inl v_bytes)), (q_starts, .inl (cI, 31, .inl v_starts)), (q_sizes, .inl (cI, 31, .inl v_sizes))]) hx hb hml hown hts hN hK hP hD (c_Node_recordLength l D cI cJ cB cZ H.size q_this q_bytes q_starts q_sizes v_count v_last v_leaf v_bytes v_starts v_sizes x_1 r2 hc) [0, 1, 2, 3] rfl rfl hl.1 d_Node_cellFits_42) hP hD hS hA [0, 1, 2, 3] [] [0, 1, 2, 3] rfl rfl rfl (by decide) rfl rfl (fun H locs hP hD hS => ?_)
        refine lv_istore_n hx hb d_Node_cellFits_45 rfl hl (by decide) rfl (fun ls hl => ?_)
        have hl : lv_has ls 5 [(3, .int r2), (2, .int r1), (0, .ref q_this), (1, .int x_1)] := hl
        refine lv_iload_n hx hb d_Node_cellFits_46 rfl (lv_at hl 0 rfl) ?_
        refine lv_bipush (v := 24) hx hb d_Node_cellFits_47 rfl ?_
        refine lv_icmp_le (tgt := 56) hx hb d_Node_cellFits_49 rfl (fun hc => ?_) (fun hc => ?_)
        · have hf := pu_br_pos hf hc
          refine lv_iconst (v := 0) hx hb d_Node_cellFits_56 rfl ?_
          exact lb_57 x_1 r1 r2 (0 : Int32) H locs ls hP hD hS (lv_sub hl [2, 3, 1, 0] rfl) hf
        have hf := pu_br_neg hf hc
        refine lv_iconst (v := 1) hx hb d_Node_cellFits_52 rfl ?_
        refine lv_goto (tgt := 57) hx hb d_Node_cellFits_53 rfl ?_
        exact lb_57 x_1 r1 r2 (1 : Int32) H locs ls hP hD hS (lv_sub hl [2, 3, 1, 0] rfl) hf
      have hf := pu_br_pos hf hc
      refine lv_aload_n hx hb d_Node_cellFits_19 rfl (lv_at hl 1 rfl) ?_
      refine gf_Node_19 (v := .ref q_sizes) hx hb hts hN hown hK hP 0 rfl rfl d_Node_cellFits_20 ?_
      refine lv_iload_n hx hb d_Node_cellFits_23 rfl (lv_at hl 2 rfl) ?_
      obtain ⟨hin, hf⟩ := pu_ck_some hf
      refine va_iald hx hb hK hP 3 0 rfl rfl hin d_Node_cellFits_24 ?_
      refine lv_iconst (v := 1) hx hb d_Node_cellFits_25 rfl ?_
      refine lv_iload_n hx hb d_Node_cellFits_26 rfl (lv_at hl 0 rfl) ?_
      obtain ⟨r6, hc, hf⟩ := pu_b1_some hf
      refine cl_i (WC := []) (WC2 := []) (WR := [(q_this, .inr (3, [.ref q_bytes, .ref q_starts, .ref q_sizes, .int v_count, .int v_last, .int v_leaf])), (q_bytes, .inl (cB, 96, .inl v_bytes)), (q_starts, .inl (cI, 31, .inl v_starts)), (q_sizes, .inl (cI, 31, .inl v_sizes))]) (WS2 := [(q_this, .inr (3, [.ref q_bytes, .ref q_starts, .ref q_sizes, .int v_count, .int v_last, .int v_leaf])), (q_bytes, .inl (cB, 96, .inl v_bytes)), (q_starts, .inl (cI, 31, .inl v_starts)), (q_sizes, .inl (cI, 31, .inl v_sizes))]) (pu_rsn (List.mem_of_getElem? (i := 32) rfl) (pu_in4 _ (List.mem_of_getElem? (i := 2) rfl)) (pu_in0 _ (List.mem_of_getElem? (i := 1) rfl)) (pu_in4 _ (List.mem_of_getElem? (i := 3) rfl)) hd_RF_varintSize (by decide) ⟨rfl, rfl⟩ rfl rfl (Nat.le_of_ble_eq_true rfl) (As := [.int r1]) (rest := [.int (1 : Int32), .int (v_sizes x_1.toNatClampNeg)]) (WC := []) hx hb hml hown hts hN hK hP hD (c_RF_varintSize l D cI cJ cB cZ H.size r1 r6 hc) [] rfl rfl hl.1 d_Node_cellFits_27) hP hD hS hA [] [0, 1, 2, 3] [0, 1, 2, 3] rfl rfl rfl (by decide) rfl rfl (fun H locs hP hD hS => ?_)
      refine lv_iadd hx hb d_Node_cellFits_30 ?_
      refine lv_icmp_ne (tgt := 38) hx hb d_Node_cellFits_31 rfl (fun hc => ?_) (fun hc => ?_)
      · have hf := pu_br_neg hf hc
        refine lv_iconst (v := 0) hx hb d_Node_cellFits_38 rfl ?_
        exact hret _ _ _ _ (0 : Int32)  d_Node_cellFits_39 (by decide) hP hD hS hf
      have hf := pu_br_pos hf hc
      refine lv_iconst (v := 1) hx hb d_Node_cellFits_34 rfl ?_
      refine lv_goto (tgt := 39) hx hb d_Node_cellFits_35 rfl ?_
      exact hret _ _ _ _ (1 : Int32)  d_Node_cellFits_39 (by decide) hP hD hS hf
    have hf := pu_br_neg hf hc
    refine lv_iconst (v := 0) hx hb d_Node_cellFits_10 rfl ?_
    exact hret _ _ _ _ (0 : Int32)  d_Node_cellFits_11 (by decide) hP hD hS hf
  rw [hH, hlocs] at goal
  exact goal
theorem d_Check_chainHolds_0 : decode b_Check_chainHolds 0 = .ok (.iload_n 1, 1) := by decide +kernel
theorem d_Check_chainHolds_1 : decode b_Check_chainHolds 1 = .ok (.istore_n 3, 1) := by decide +kernel
theorem d_Check_chainHolds_2 : decode b_Check_chainHolds 2 = .ok (.iload_n 2, 1) := by decide +kernel
theorem d_Check_chainHolds_3 : decode b_Check_chainHolds 3 = .ok (.iload_n 2, 1) := by decide +kernel
theorem d_Check_chainHolds_4 : decode b_Check_chainHolds 4 = .ok (.invokestatic 125, 3) := by decide +kernel
theorem d_Check_chainHolds_7 : decode b_Check_chainHolds 7 = .ok (.isub, 1) := by decide +kernel
theorem d_Check_chainHolds_8 : decode b_Check_chainHolds 8 = .ok (.istore 4, 2) := by decide +kernel
theorem d_Check_chainHolds_10 : decode b_Check_chainHolds 10 = .ok (.iconst 0, 1) := by decide +kernel
theorem d_Check_chainHolds_11 : decode b_Check_chainHolds 11 = .ok (.istore 5, 2) := by decide +kernel
theorem d_Check_chainHolds_13 : decode b_Check_chainHolds 13 = .ok (.iload 5, 2) := by decide +kernel
theorem d_Check_chainHolds_15 : decode b_Check_chainHolds 15 = .ok (.iload_n 2, 1) := by decide +kernel
theorem d_Check_chainHolds_16 : decode b_Check_chainHolds 16 = .ok (.invokestatic 128, 3) := by decide +kernel
theorem d_Check_chainHolds_19 : decode b_Check_chainHolds 19 = .ok (.if_icmp .ge 52, 3) := by decide +kernel
theorem d_Check_chainHolds_22 : decode b_Check_chainHolds 22 = .ok (.aload_n 0, 1) := by decide +kernel
theorem d_Check_chainHolds_23 : decode b_Check_chainHolds 23 = .ok (.iload_n 3, 1) := by decide +kernel
theorem d_Check_chainHolds_24 : decode b_Check_chainHolds 24 = .ok (.invokevirtual 76, 3) := by decide +kernel
theorem d_Check_chainHolds_27 : decode b_Check_chainHolds 27 = .ok (.ifCond .eq 23, 3) := by decide +kernel
theorem d_Check_chainHolds_30 : decode b_Check_chainHolds 30 = .ok (.aload_n 0, 1) := by decide +kernel
theorem d_Check_chainHolds_31 : decode b_Check_chainHolds 31 = .ok (.getfield 25, 3) := by decide +kernel
theorem d_Check_chainHolds_34 : decode b_Check_chainHolds 34 = .ok (.iload_n 3, 1) := by decide +kernel
theorem d_Check_chainHolds_35 : decode b_Check_chainHolds 35 = .ok (.iconst 1, 1) := by decide +kernel
theorem d_Check_chainHolds_36 : decode b_Check_chainHolds 36 = .ok (.bipush 63, 2) := by decide +kernel
theorem d_Check_chainHolds_38 : decode b_Check_chainHolds 38 = .ok (.iload 4, 2) := by decide +kernel
theorem d_Check_chainHolds_40 : decode b_Check_chainHolds 40 = .ok (.invokestatic 131, 3) := by decide +kernel
theorem d_Check_chainHolds_43 : decode b_Check_chainHolds 43 = .ok (.iadd, 1) := by decide +kernel
theorem d_Check_chainHolds_44 : decode b_Check_chainHolds 44 = .ok (.invokevirtual 72, 3) := by decide +kernel
theorem d_Check_chainHolds_47 : decode b_Check_chainHolds 47 = .ok (.ifCond .ne 5, 3) := by decide +kernel
theorem d_Check_chainHolds_50 : decode b_Check_chainHolds 50 = .ok (.iconst 0, 1) := by decide +kernel
theorem d_Check_chainHolds_51 : decode b_Check_chainHolds 51 = .ok (.ireturn, 1) := by decide +kernel
theorem d_Check_chainHolds_52 : decode b_Check_chainHolds 52 = .ok (.iinc 4 (-63), 3) := by decide +kernel
theorem d_Check_chainHolds_55 : decode b_Check_chainHolds 55 = .ok (.aload_n 0, 1) := by decide +kernel
theorem d_Check_chainHolds_56 : decode b_Check_chainHolds 56 = .ok (.getfield 25, 3) := by decide +kernel
theorem d_Check_chainHolds_59 : decode b_Check_chainHolds 59 = .ok (.iload_n 3, 1) := by decide +kernel
theorem d_Check_chainHolds_60 : decode b_Check_chainHolds 60 = .ok (.iconst 0, 1) := by decide +kernel
theorem d_Check_chainHolds_61 : decode b_Check_chainHolds 61 = .ok (.invokevirtual 65, 3) := by decide +kernel
theorem d_Check_chainHolds_64 : decode b_Check_chainHolds 64 = .ok (.istore_n 3, 1) := by decide +kernel
theorem d_Check_chainHolds_65 : decode b_Check_chainHolds 65 = .ok (.iinc 5 1, 3) := by decide +kernel
theorem d_Check_chainHolds_68 : decode b_Check_chainHolds 68 = .ok (.goto (-55), 3) := by decide +kernel
theorem d_Check_chainHolds_71 : decode b_Check_chainHolds 71 = .ok (.iload_n 3, 1) := by decide +kernel
theorem d_Check_chainHolds_72 : decode b_Check_chainHolds 72 = .ok (.ifCond .ne 7, 3) := by decide +kernel
theorem d_Check_chainHolds_75 : decode b_Check_chainHolds 75 = .ok (.iconst 1, 1) := by decide +kernel
theorem d_Check_chainHolds_76 : decode b_Check_chainHolds 76 = .ok (.goto 4, 3) := by decide +kernel
theorem d_Check_chainHolds_79 : decode b_Check_chainHolds 79 = .ok (.iconst 0, 1) := by decide +kernel
theorem d_Check_chainHolds_80 : decode b_Check_chainHolds 80 = .ok (.ireturn, 1) := by decide +kernel
noncomputable def q_Check_chainHolds_71 (v_file_count : Int32) (v_file_bytes : Nat → Int32) (v_reached : Nat → Int32) (x_3 : Int32) : Option (Int32 × (Nat → Int32)) :=
  pu_br (x_3 = 0) (some ((1 : Int32), v_reached)) (some ((0 : Int32), v_reached))
noncomputable def q_Check_chainHolds_13 (kx_71 : (Nat → Int32) → Int32 → Option (Int32 × (Nat → Int32))) (v_file_count : Int32) (v_file_bytes : Nat → Int32) (x_2 : Int32) : Nat → (Nat → Int32) → Int32 → Int32 → Int32 → Option (Int32 × (Nat → Int32))
  | 0, _, _, _, _ => none
  | n + 1, v_reached, x_3, x_4, x_5 => pu_b1 (f_RF_chainPages x_2) (fun r3 => pu_br (r3 ≤ x_5) (kx_71 v_reached x_3) (pu_b2 (f_Check_reach v_file_count v_reached x_3) (fun r4 w5 => pu_br (r4 = 0) (some ((0 : Int32), w5)) (pu_nm (if x_4 < (63 : Int32) then x_4 else (63 : Int32)) (fun t6 => pu_b1 (f_Pages_zerosFrom v_file_count v_file_bytes x_3 ((1 : Int32) + t6)) (fun r7 => pu_br (r7 = 0) (some ((0 : Int32), w5)) (pu_nm (x_4 + (-63 : Int32)) (fun t8 => pu_b1 (f_Pages_get v_file_count v_file_bytes x_3 (0 : Int32)) (fun r9 => pu_nm (x_5 + (1 : Int32)) (fun t10 => q_Check_chainHolds_13 kx_71 v_file_count v_file_bytes x_2 n w5 r9 t8 t10))))))))))
noncomputable def f_Check_chainHolds (v_file_count : Int32) (v_file_bytes : Nat → Int32) (v_reached : Nat → Int32) (x_1 : Int32) (x_2 : Int32) : Option (Int32 × (Nat → Int32)) :=
  pu_b1 (f_RF_sizeInLeaf x_2) (fun r1 => pu_nm (x_2 - r1) (fun t2 => q_Check_chainHolds_13 (fun v_reached x_3 => q_Check_chainHolds_71 v_file_count v_file_bytes v_reached x_3) v_file_count v_file_bytes x_2 pu_fu v_reached x_1 t2 (0 : Int32)))
abbrev rm_Check_chainHolds : Room := { frames := 3, cells := 0, slots := 0, locals := 67 }
set_option maxHeartbeats 8000000 in
set_option maxRecDepth 100000 in
theorem c_Check_chainHolds (l : Launch) (D : va_G) (cI cJ cB cZ : ClassId) (sz : Nat) (q_this : Nat) (q_file : Nat) (q_node : Nat) (q_row : Nat) (q_reached : Nat) (q_treePages : Nat) (q_lows : Nat) (q_highs : Nat) (q_file_bytes : Nat) (v_treeSize : Int32) (v_file_count : Int32) (v_file_bytes : Nat → Int32) (v_reached : Nat → Int32) (x_1 : Int32) (x_2 : Int32) (o_r : Int32) (o_reached : Nat → Int32) (hf : f_Check_chainHolds v_file_count v_file_bytes v_reached x_1 x_2 = some (o_r, o_reached)) : Met l y_Check_chainHolds (.code y_Check_chainHolds b_Check_chainHolds 6 (some .boolean) :: pu_wA) rm_Check_chainHolds (pu_pc D pu_cl (pu_ty cI cJ cB cZ) [.ref q_this, .int x_1, .int x_2] [(q_this, .inr (6, [.ref q_file, .ref q_node, .ref q_row, .ref q_reached, .ref q_treePages, .ref q_lows, .ref q_highs, .int v_treeSize])), (q_file, .inr (0, [.ref q_file_bytes, .int v_file_count])), (q_file_bytes, .inl (cB, 1536, .inl v_file_bytes)), (q_reached, .inl (cZ, 25, .inl v_reached))] sz) (pu_qi D pu_cl (pu_ty cI cJ cB cZ) [(q_this, .inr (6, [.ref q_file, .ref q_node, .ref q_row, .ref q_reached, .ref q_treePages, .ref q_lows, .ref q_highs, .int v_treeSize])), (q_file, .inr (0, [.ref q_file_bytes, .int v_file_count])), (q_file_bytes, .inl (cB, 1536, .inl v_file_bytes)), (q_reached, .inl (cZ, 25, .inl v_reached))] [(q_this, .inr (6, [.ref q_file, .ref q_node, .ref q_row, .ref q_reached, .ref q_treePages, .ref q_lows, .ref q_highs, .int v_treeSize])), (q_file, .inr (0, [.ref q_file_bytes, .int v_file_count])), (q_file_bytes, .inl (cB, 1536, .inl v_file_bytes)), (q_reached, .inl (cZ, 25, .inl o_reached))] sz o_r) 0 0 (va_A [(q_this, .inr (6, [.ref q_file, .ref q_node, .ref q_row, .ref q_reached, .ref q_treePages, .ref q_lows, .ref q_highs, .int v_treeSize])), (q_file, .inr (0, [.ref q_file_bytes, .int v_file_count])), (q_file_bytes, .inl (cB, 1536, .inl v_file_bytes)), (q_reached, .inl (cZ, 25, .inl v_reached))] sz) := by
  refine pu_mtz [.ref q_this, .int x_1, .int x_2] [(q_this, .inr (6, [.ref q_file, .ref q_node, .ref q_row, .ref q_reached, .ref q_treePages, .ref q_lows, .ref q_highs, .int v_treeSize])), (q_file, .inr (0, [.ref q_file_bytes, .int v_file_count])), (q_file_bytes, .inl (cB, 1536, .inl v_file_bytes)), (q_reached, .inl (cZ, 25, .inl v_reached))] [(q_this, .inr (6, [.ref q_file, .ref q_node, .ref q_row, .ref q_reached, .ref q_treePages, .ref q_lows, .ref q_highs, .int v_treeSize])), (q_file, .inr (0, [.ref q_file_bytes, .int v_file_count])), (q_file_bytes, .inl (cB, 1536, .inl v_file_bytes)), (q_reached, .inl (cZ, 25, .inl o_reached))] o_r (by decide) (Nat.le_of_ble_eq_true rfl) ?_
  intro p e s m args below meth c A Q ls hx hb hml hts hN hown hK hA hP hD hl hret0
  have hS : va_S A s.heap s.heap [] := va_S.rf
  have hl : lv_has ls 6 [(0, .ref q_this), (1, .int x_1), (2, .int x_2)] := hl
  have hret : ∀ (pc : Nat) (ls : Array Slot) (H : Heap) (locs : List Loc) (y_0 : Int32) (y_1 : Nat → Int32), decode b_Check_chainHolds pc = .ok (.ireturn, 1) → narrow .boolean (.int y_0) = .int y_0 → va_P D pu_cl [(q_this, .inr (6, [.ref q_file, .ref q_node, .ref q_row, .ref q_reached, .ref q_treePages, .ref q_lows, .ref q_highs, .int v_treeSize])), (q_file, .inr (0, [.ref q_file_bytes, .int v_file_count])), (q_file_bytes, .inl (cB, 1536, .inl v_file_bytes)), (q_reached, .inl (cZ, 25, .inl y_1))] H → va_D A [(q_this, .inr (6, [.ref q_file, .ref q_node, .ref q_row, .ref q_reached, .ref q_treePages, .ref q_lows, .ref q_highs, .int v_treeSize])), (q_file, .inr (0, [.ref q_file_bytes, .int v_file_count])), (q_file_bytes, .inl (cB, 1536, .inl v_file_bytes)), (q_reached, .inl (cZ, 25, .inl y_1))] → va_S A s.heap H locs → some (y_0, y_1) = some (o_r, o_reached) → W p l e rm_Check_chainHolds s m args below meth c H locs 0 0 Q (F0 m pc ls [.int y_0]) := by
    intro pc ls H locs y_0 y_1 hd hz hP hD hS hf
    cases hf
    exact hret0 pc ls H locs hd hz hP hD hS
  clear hret0
  unfold f_Check_chainHolds at hf
  skip
  have lb_71 : ∀ (v_reached : Nat → Int32) (x_3 : Int32) (H : Heap) (locs : List Loc) (ls : Array Slot), va_P D pu_cl [(q_this, .inr (6, [.ref q_file, .ref q_node, .ref q_row, .ref q_reached, .ref q_treePages, .ref q_lows, .ref q_highs, .int v_treeSize])), (q_file, .inr (0, [.ref q_file_bytes, .int v_file_count])), (q_file_bytes, .inl (cB, 1536, .inl v_file_bytes)), (q_reached, .inl (cZ, 25, .inl v_reached))] H → va_D A [(q_this, .inr (6, [.ref q_file, .ref q_node, .ref q_row, .ref q_reached, .ref q_treePages, .ref q_lows, .ref q_highs, .int v_treeSize])), (q_file, .inr (0, [.ref q_file_bytes, .int v_file_count])), (q_file_bytes, .inl (cB, 1536, .inl v_file_bytes)), (q_reached, .inl (cZ, 25, .inl v_reached))] → va_S A s.heap H locs → lv_has ls 6 [(3, .int x_3)] → q_Check_chainHolds_71 v_file_count v_file_bytes v_reached x_3 = some (o_r, o_reached) → W p l e rm_Check_chainHolds s m args below meth c H locs 0 0 Q (F0 m 71 ls []) := by
    intro v_reached x_3 H locs ls hP hD hS hl hf
    rw [q_Check_chainHolds_71] at hf
    refine lv_iload_n hx hb d_Check_chainHolds_71 rfl (lv_at hl 0 rfl) ?_
    refine lv_if_ne (tgt := 79) hx hb d_Check_chainHolds_72 rfl (fun hc => ?_) (fun hc => ?_)
    · have hf := pu_br_neg hf hc
      refine lv_iconst (v := 0) hx hb d_Check_chainHolds_79 rfl ?_
      exact hret _ _ _ _ (0 : Int32) v_reached d_Check_chainHolds_80 (by decide) hP hD hS hf
    have hf := pu_br_pos hf hc
    refine lv_iconst (v := 1) hx hb d_Check_chainHolds_75 rfl ?_
    refine lv_goto (tgt := 80) hx hb d_Check_chainHolds_76 rfl ?_
    exact hret _ _ _ _ (1 : Int32) v_reached d_Check_chainHolds_80 (by decide) hP hD hS hf
  have lp_13 : ∀ (x_2 : Int32) (n13 : Nat) (v_reached : Nat → Int32) (x_3 : Int32) (x_4 : Int32) (x_5 : Int32) (H : Heap) (locs : List Loc) (ls : Array Slot), va_P D pu_cl [(q_this, .inr (6, [.ref q_file, .ref q_node, .ref q_row, .ref q_reached, .ref q_treePages, .ref q_lows, .ref q_highs, .int v_treeSize])), (q_file, .inr (0, [.ref q_file_bytes, .int v_file_count])), (q_file_bytes, .inl (cB, 1536, .inl v_file_bytes)), (q_reached, .inl (cZ, 25, .inl v_reached))] H → va_D A [(q_this, .inr (6, [.ref q_file, .ref q_node, .ref q_row, .ref q_reached, .ref q_treePages, .ref q_lows, .ref q_highs, .int v_treeSize])), (q_file, .inr (0, [.ref q_file_bytes, .int v_file_count])), (q_file_bytes, .inl (cB, 1536, .inl v_file_bytes)), (q_reached, .inl (cZ, 25, .inl v_reached))] → va_S A s.heap H locs → lv_has ls 6 [(0, .ref q_this), (2, .int x_2), (3, .int x_3), (4, .int x_4), (5, .int x_5)] → q_Check_chainHolds_13 (fun v_reached x_3 => q_Check_chainHolds_71 v_file_count v_file_bytes v_reached x_3) v_file_count v_file_bytes x_2 n13 v_reached x_3 x_4 x_5 = some (o_r, o_reached) → W p l e rm_Check_chainHolds s m args below meth c H locs 0 0 Q (F0 m 13 ls []) := by
    intro x_2 n13
    induction n13 with
    | zero =>
      intro v_reached x_3 x_4 x_5 H locs ls hP hD hS hl hf
      rw [q_Check_chainHolds_13] at hf
      cases hf
    | succ n13 ih_13 =>
      intro v_reached x_3 x_4 x_5 H locs ls hP hD hS hl hf
      rw [q_Check_chainHolds_13] at hf
      refine lv_iload hx hb d_Check_chainHolds_13 (lv_at hl 4 rfl) ?_
      refine lv_iload_n hx hb d_Check_chainHolds_15 rfl (lv_at hl 1 rfl) ?_
      obtain ⟨r3, hc, hf⟩ := pu_b1_some hf
      refine cl_i (WC := []) (WC2 := []) (WR := [(q_this, .inr (6, [.ref q_file, .ref q_node, .ref q_row, .ref q_reached, .ref q_treePages, .ref q_lows, .ref q_highs, .int v_treeSize])), (q_file, .inr (0, [.ref q_file_bytes, .int v_file_count])), (q_file_bytes, .inl (cB, 1536, .inl v_file_bytes)), (q_reached, .inl (cZ, 25, .inl v_reached))]) (WS2 := [(q_this, .inr (6, [.ref q_file, .ref q_node, .ref q_row, .ref q_reached, .ref q_treePages, .ref q_lows, .ref q_highs, .int v_treeSize])), (q_file, .inr (0, [.ref q_file_bytes, .int v_file_count])), (q_file_bytes, .inl (cB, 1536, .inl v_file_bytes)), (q_reached, .inl (cZ, 25, .inl v_reached))]) (pu_rsn (List.mem_of_getElem? (i := 41) rfl) (pu_in4 _ (List.mem_of_getElem? (i := 27) rfl)) (pu_in0 _ (List.mem_of_getElem? (i := 1) rfl)) (pu_in4 _ (List.mem_of_getElem? (i := 28) rfl)) hd_RF_chainPages (by decide) ⟨rfl, rfl⟩ rfl rfl (Nat.le_of_ble_eq_true rfl) (As := [.int x_2]) (rest := [.int x_5]) (WC := []) hx hb hml hown hts hN hK hP hD (c_RF_chainPages l D cI cJ cB cZ H.size x_2 r3 hc) [] rfl rfl hl.1 d_Check_chainHolds_16) hP hD hS hA [] [0, 1, 2, 3] [0, 1, 2, 3] rfl rfl rfl (by decide) rfl rfl (fun H locs hP hD hS => ?_)
      refine lv_icmp_ge (tgt := 71) hx hb d_Check_chainHolds_19 rfl (fun hc => ?_) (fun hc => ?_)
      · have hf := pu_br_pos hf hc
        exact lb_71 v_reached x_3 H locs ls hP hD hS (lv_sub hl [2] rfl) hf
      have hf := pu_br_neg hf hc
      refine lv_aload_n hx hb d_Check_chainHolds_22 rfl (lv_at hl 0 rfl) ?_
      refine lv_iload_n hx hb d_Check_chainHolds_23 rfl (lv_at hl 2 rfl) ?_
      obtain ⟨r4, w5, hc, hf⟩ := pu_b2_some hf
      refine cl_i (WC := [(q_this, .inr (6, [.ref q_file, .ref q_node, .ref q_row, .ref q_reached, .ref q_treePages, .ref q_lows, .ref q_highs, .int v_treeSize])), (q_file, .inr (0, [.ref q_file_bytes, .int v_file_count])), (q_reached, .inl (cZ, 25, .inl v_reached))]) (WC2 := [(q_this, .inr (6, [.ref q_file, .ref q_node, .ref q_row, .ref q_reached, .ref q_treePages, .ref q_lows, .ref q_highs, .int v_treeSize])), (q_file, .inr (0, [.ref q_file_bytes, .int v_file_count])), (q_reached, .inl (cZ, 25, .inl w5))]) (WR := [(q_file_bytes, .inl (cB, 1536, .inl v_file_bytes))]) (WS2 := [(q_this, .inr (6, [.ref q_file, .ref q_node, .ref q_row, .ref q_reached, .ref q_treePages, .ref q_lows, .ref q_highs, .int v_treeSize])), (q_file, .inr (0, [.ref q_file_bytes, .int v_file_count])), (q_file_bytes, .inl (cB, 1536, .inl v_file_bytes)), (q_reached, .inl (cZ, 25, .inl w5))]) (pu_rv (cl := pu_cl) (pu_in7 _ (List.mem_of_getElem? (i := 21) rfl)) (pu_in7 _ (List.mem_of_getElem? (i := 22) rfl)) (pu_in14 _ (List.mem_of_getElem? (i := 0) rfl)) (pu_in0 _ (List.mem_of_getElem? (i := 8) rfl)) (pu_in7 _ (List.mem_of_getElem? (i := 23) rfl)) (ci := 6) rfl hd_Check_reach (by decide) ⟨rfl, rfl⟩ rfl rfl (Nat.le_of_ble_eq_true rfl) rfl (As := [.int x_3]) (rest := []) (WC := [(q_this, .inr (6, [.ref q_file, .ref q_node, .ref q_row, .ref q_reached, .ref q_treePages, .ref q_lows, .ref q_highs, .int v_treeSize])), (q_file, .inr (0, [.ref q_file_bytes, .int v_file_count])), (q_reached, .inl (cZ, 25, .inl v_reached))]) hx hb hml hown hts hN hK hP hD (c_Check_reach l D cI cJ cB cZ H.size q_this q_file q_node q_row q_reached q_treePages q_lows q_highs q_file_bytes v_treeSize v_file_count v_reached x_3 r4 w5 hc) [0, 1, 3] rfl rfl hl.1 d_Check_chainHolds_24) hP hD hS hA [0, 1, 3] [2] [1, 2, 0, 3] rfl rfl rfl (by decide) rfl rfl (fun H locs hP hD hS => ?_)
      refine lv_if_eq (tgt := 50) hx hb d_Check_chainHolds_27 rfl (fun hc => ?_) (fun hc => ?_)
      · have hf := pu_br_pos hf hc
        refine lv_iconst (v := 0) hx hb d_Check_chainHolds_50 rfl ?_
        exact hret _ _ _ _ (0 : Int32) w5 d_Check_chainHolds_51 (by decide) hP hD hS hf
      have hf := pu_br_neg hf hc
      refine lv_aload_n hx hb d_Check_chainHolds_30 rfl (lv_at hl 0 rfl) ?_
      refine gf_Check_25 (v := .ref q_file) hx hb hts hN hown hK hP 0 rfl rfl d_Check_chainHolds_31 ?_
      refine lv_iload_n hx hb d_Check_chainHolds_34 rfl (lv_at hl 2 rfl) ?_
      refine lv_iconst (v := 1) hx hb d_Check_chainHolds_35 rfl ?_
      refine lv_bipush (v := 63) hx hb d_Check_chainHolds_36 rfl ?_
      refine lv_iload hx hb d_Check_chainHolds_38 (lv_at hl 3 rfl) ?_
      obtain ⟨t6, e_t6, hf⟩ := pu_nm_some hf
      refine va_mmin hx hb (hml.trans hl.1.symm) hown (hts _ (pu_in7 _ (List.mem_of_getElem? (i := 46) rfl))) (hts _ (pu_in6 _ (List.mem_of_getElem? (i := 39) rfl))) (hts _ (pu_in0 _ (List.mem_of_getElem? (i := 12) rfl))) (hts _ (pu_in6 _ (List.mem_of_getElem? (i := 40) rfl))) (Nat.le_of_ble_eq_true rfl) (Nat.le_of_ble_eq_true rfl) (Nat.zero_le _) (Nat.zero_le _) d_Check_chainHolds_40 ?_
      refine pu_ti e_t6 ?_
      refine lv_iadd hx hb d_Check_chainHolds_43 ?_
      obtain ⟨r7, hc, hf⟩ := pu_b1_some hf
      refine cl_i (WC := [(q_file, .inr (0, [.ref q_file_bytes, .int v_file_count])), (q_file_bytes, .inl (cB, 1536, .inl v_file_bytes))]) (WC2 := [(q_file, .inr (0, [.ref q_file_bytes, .int v_file_count])), (q_file_bytes, .inl (cB, 1536, .inl v_file_bytes))]) (WR := [(q_this, .inr (6, [.ref q_file, .ref q_node, .ref q_row, .ref q_reached, .ref q_treePages, .ref q_lows, .ref q_highs, .int v_treeSize])), (q_reached, .inl (cZ, 25, .inl w5))]) (WS2 := [(q_this, .inr (6, [.ref q_file, .ref q_node, .ref q_row, .ref q_reached, .ref q_treePages, .ref q_lows, .ref q_highs, .int v_treeSize])), (q_file, .inr (0, [.ref q_file_bytes, .int v_file_count])), (q_file_bytes, .inl (cB, 1536, .inl v_file_bytes)), (q_reached, .inl (cZ, 25, .inl w5))]) (pu_rv (cl := pu_cl) (pu_in7 _ (List.mem_of_getElem? (i := 14) rfl)) (pu_in7 _ (List.mem_of_getElem? (i := 15) rfl)) (pu_in7 _ (List.mem_of_getElem? (i := 16) rfl)) (pu_in0 _ (List.mem_of_getElem? (i := 3) rfl)) (pu_in7 _ (List.mem_of_getElem? (i := 17) rfl)) (ci := 0) rfl hd_Pages_zerosFrom (by decide) ⟨rfl, rfl⟩ rfl rfl (Nat.le_of_ble_eq_true rfl) rfl (As := [.int x_3, .int ((1 : Int32) + t6)]) (rest := []) (WC := [(q_file, .inr (0, [.ref q_file_bytes, .int v_file_count])), (q_file_bytes, .inl (cB, 1536, .inl v_file_bytes))]) hx hb hml hown hts hN hK hP hD (c_Pages_zerosFrom l D cI cJ cB cZ H.size q_file q_file_bytes v_file_count v_file_bytes x_3 ((1 : Int32) + t6) r7 hc) [1, 2] rfl rfl hl.1 d_Check_chainHolds_44) hP hD hS hA [1, 2] [0, 3] [0, 2, 3, 1] rfl rfl rfl (by decide) rfl rfl (fun H locs hP hD hS => ?_)
      refine lv_if_ne (tgt := 52) hx hb d_Check_chainHolds_47 rfl (fun hc => ?_) (fun hc => ?_)
      · have hf := pu_br_neg hf hc
        obtain ⟨t8, e_t8, hf⟩ := pu_nm_some hf
        refine lv_iinc (k := 3) (v := t8) hx hb d_Check_chainHolds_52 hl rfl e_t8.symm (by decide) rfl (fun ls hl => ?_)
        have hl : lv_has ls 6 [(4, .int t8), (0, .ref q_this), (2, .int x_2), (3, .int x_3), (5, .int x_5)] := hl
        refine lv_aload_n hx hb d_Check_chainHolds_55 rfl (lv_at hl 1 rfl) ?_
        refine gf_Check_25 (v := .ref q_file) hx hb hts hN hown hK hP 0 rfl rfl d_Check_chainHolds_56 ?_
        refine lv_iload_n hx hb d_Check_chainHolds_59 rfl (lv_at hl 3 rfl) ?_
        refine lv_iconst (v := 0) hx hb d_Check_chainHolds_60 rfl ?_
        obtain ⟨r9, hc, hf⟩ := pu_b1_some hf
        refine cl_i (WC := [(q_file, .inr (0, [.ref q_file_bytes, .int v_file_count])), (q_file_bytes, .inl (cB, 1536, .inl v_file_bytes))]) (WC2 := [(q_file, .inr (0, [.ref q_file_bytes, .int v_file_count])), (q_file_bytes, .inl (cB, 1536, .inl v_file_bytes))]) (WR := [(q_this, .inr (6, [.ref q_file, .ref q_node, .ref q_row, .ref q_reached, .ref q_treePages, .ref q_lows, .ref q_highs, .int v_treeSize])), (q_reached, .inl (cZ, 25, .inl w5))]) (WS2 := [(q_this, .inr (6, [.ref q_file, .ref q_node, .ref q_row, .ref q_reached, .ref q_treePages, .ref q_lows, .ref q_highs, .int v_treeSize])), (q_file, .inr (0, [.ref q_file_bytes, .int v_file_count])), (q_file_bytes, .inl (cB, 1536, .inl v_file_bytes)), (q_reached, .inl (cZ, 25, .inl w5))]) (pu_rv (cl := pu_cl) (pu_in7 _ (List.mem_of_getElem? (i := 13) rfl)) (pu_in3 _ (List.mem_of_getElem? (i := 38) rfl)) (pu_in3 _ (List.mem_of_getElem? (i := 39) rfl)) (pu_in0 _ (List.mem_of_getElem? (i := 3) rfl)) (pu_in3 _ (List.mem_of_getElem? (i := 40) rfl)) (ci := 0) rfl hd_Pages_get (by decide) ⟨rfl, rfl⟩ rfl rfl (Nat.le_of_ble_eq_true rfl) rfl (As := [.int x_3, .int (0 : Int32)]) (rest := []) (WC := [(q_file, .inr (0, [.ref q_file_bytes, .int v_file_count])), (q_file_bytes, .inl (cB, 1536, .inl v_file_bytes))]) hx hb hml hown hts hN hK hP hD (c_Pages_get l D cI cJ cB cZ H.size q_file q_file_bytes v_file_count v_file_bytes x_3 (0 : Int32) r9 hc) [1, 2] rfl rfl hl.1 d_Check_chainHolds_61) hP hD hS hA [1, 2] [0, 3] [0, 2, 3, 1] rfl rfl rfl (by decide) rfl rfl (fun H locs hP hD hS => ?_)
        refine lv_istore_n hx hb d_Check_chainHolds_64 rfl hl (by decide) rfl (fun ls hl => ?_)
        have hl : lv_has ls 6 [(3, .int r9), (4, .int t8), (0, .ref q_this), (2, .int x_2), (5, .int x_5)] := hl
        obtain ⟨t10, e_t10, hf⟩ := pu_nm_some hf
        refine lv_iinc (k := 4) (v := t10) hx hb d_Check_chainHolds_65 hl rfl e_t10.symm (by decide) rfl (fun ls hl => ?_)
        have hl : lv_has ls 6 [(5, .int t10), (3, .int r9), (4, .int t8), (0, .ref q_this), (2, .int x_2)] := hl
        refine lv_goto (tgt := 13) hx hb d_Check_chainHolds_68 rfl ?_
        exact ih_13 w5 r9 t8 t10 H locs ls hP hD hS (lv_sub hl [3, 4, 1, 2, 0] rfl) hf
      have hf := pu_br_pos hf hc
      refine lv_iconst (v := 0) hx hb d_Check_chainHolds_50 rfl ?_
      exact hret _ _ _ _ (0 : Int32) w5 d_Check_chainHolds_51 (by decide) hP hD hS hf
  obtain ⟨H, hH⟩ : ∃ H, H = s.heap := ⟨_, rfl⟩
  obtain ⟨locs, hlocs⟩ : ∃ locs : List Loc, locs = [] := ⟨_, rfl⟩
  have hP : va_P D pu_cl [(q_this, .inr (6, [.ref q_file, .ref q_node, .ref q_row, .ref q_reached, .ref q_treePages, .ref q_lows, .ref q_highs, .int v_treeSize])), (q_file, .inr (0, [.ref q_file_bytes, .int v_file_count])), (q_file_bytes, .inl (cB, 1536, .inl v_file_bytes)), (q_reached, .inl (cZ, 25, .inl v_reached))] H := by rw [hH]; exact hP
  have hS : va_S A s.heap H locs := by rw [hH, hlocs]; exact hS
  have goal : W p l e rm_Check_chainHolds s m args below meth c H locs 0 0 Q (F0 m 0 ls []) := by
    clear hH hlocs
    refine lv_iload_n hx hb d_Check_chainHolds_0 rfl (lv_at hl 1 rfl) ?_
    refine lv_istore_n hx hb d_Check_chainHolds_1 rfl hl (by decide) rfl (fun ls hl => ?_)
    have hl : lv_has ls 6 [(3, .int x_1), (0, .ref q_this), (1, .int x_1), (2, .int x_2)] := hl
    refine lv_iload_n hx hb d_Check_chainHolds_2 rfl (lv_at hl 3 rfl) ?_
    refine lv_iload_n hx hb d_Check_chainHolds_3 rfl (lv_at hl 3 rfl) ?_
    obtain ⟨r1, hc, hf⟩ := pu_b1_some hf
    refine cl_i (WC := []) (WC2 := []) (WR := [(q_this, .inr (6, [.ref q_file, .ref q_node, .ref q_row, .ref q_reached, .ref q_treePages, .ref q_lows, .ref q_highs, .int v_treeSize])), (q_file, .inr (0, [.ref q_file_bytes, .int v_file_count])), (q_file_bytes, .inl (cB, 1536, .inl v_file_bytes)), (q_reached, .inl (cZ, 25, .inl v_reached))]) (WS2 := [(q_this, .inr (6, [.ref q_file, .ref q_node, .ref q_row, .ref q_reached, .ref q_treePages, .ref q_lows, .ref q_highs, .int v_treeSize])), (q_file, .inr (0, [.ref q_file_bytes, .int v_file_count])), (q_file_bytes, .inl (cB, 1536, .inl v_file_bytes)), (q_reached, .inl (cZ, 25, .inl v_reached))]) (pu_rsn (List.mem_of_getElem? (i := 40) rfl) (pu_in4 _ (List.mem_of_getElem? (i := 30) rfl)) (pu_in0 _ (List.mem_of_getElem? (i := 1) rfl)) (pu_in4 _ (List.mem_of_getElem? (i := 31) rfl)) hd_RF_sizeInLeaf (by decide) ⟨rfl, rfl⟩ rfl rfl (Nat.le_of_ble_eq_true rfl) (As := [.int x_2]) (rest := [.int x_2]) (WC := []) hx hb hml hown hts hN hK hP hD (c_RF_sizeInLeaf l D cI cJ cB cZ H.size x_2 r1 hc) [] rfl rfl hl.1 d_Check_chainHolds_4) hP hD hS hA [] [0, 1, 2, 3] [0, 1, 2, 3] rfl rfl rfl (by decide) rfl rfl (fun H locs hP hD hS => ?_)
    refine lv_isub hx hb d_Check_chainHolds_7 ?_
    obtain ⟨t2, e_t2, hf⟩ := pu_nm_some hf
    refine pu_ti e_t2 ?_
    refine lv_istore hx hb d_Check_chainHolds_8 hl (by decide) rfl (fun ls hl => ?_)
    have hl : lv_has ls 6 [(4, .int t2), (3, .int x_1), (0, .ref q_this), (1, .int x_1), (2, .int x_2)] := hl
    refine lv_iconst (v := 0) hx hb d_Check_chainHolds_10 rfl ?_
    refine lv_istore hx hb d_Check_chainHolds_11 hl (by decide) rfl (fun ls hl => ?_)
    have hl : lv_has ls 6 [(5, .int (0 : Int32)), (4, .int t2), (3, .int x_1), (0, .ref q_this), (1, .int x_1), (2, .int x_2)] := hl
    exact lp_13 x_2 _ v_reached x_1 t2 (0 : Int32) H locs ls hP hD hS (lv_sub hl [3, 5, 2, 1, 0] rfl) hf
  rw [hH, hlocs] at goal
  exact goal
theorem d_Node_copyRecord_0 : decode b_Node_copyRecord 0 = .ok (.iload_n 2, 1) := by decide +kernel
theorem d_Node_copyRecord_1 : decode b_Node_copyRecord 1 = .ok (.invokestatic 60, 3) := by decide +kernel
theorem d_Node_copyRecord_4 : decode b_Node_copyRecord 4 = .ok (.istore 4, 2) := by decide +kernel
theorem d_Node_copyRecord_6 : decode b_Node_copyRecord 6 = .ok (.iload_n 2, 1) := by decide +kernel
theorem d_Node_copyRecord_7 : decode b_Node_copyRecord 7 = .ok (.bipush 24, 2) := by decide +kernel
theorem d_Node_copyRecord_9 : decode b_Node_copyRecord 9 = .ok (.if_icmp .le 7, 3) := by decide +kernel
theorem d_Node_copyRecord_12 : decode b_Node_copyRecord 12 = .ok (.iconst 1, 1) := by decide +kernel
theorem d_Node_copyRecord_13 : decode b_Node_copyRecord 13 = .ok (.goto 4, 3) := by decide +kernel
theorem d_Node_copyRecord_16 : decode b_Node_copyRecord 16 = .ok (.iconst 0, 1) := by decide +kernel
theorem d_Node_copyRecord_17 : decode b_Node_copyRecord 17 = .ok (.istore 5, 2) := by decide +kernel
theorem d_Node_copyRecord_19 : decode b_Node_copyRecord 19 = .ok (.aload_n 0, 1) := by decide +kernel
theorem d_Node_copyRecord_20 : decode b_Node_copyRecord 20 = .ok (.iload_n 1, 1) := by decide +kernel
theorem d_Node_copyRecord_21 : decode b_Node_copyRecord 21 = .ok (.invokevirtual 43, 3) := by decide +kernel
theorem d_Node_copyRecord_24 : decode b_Node_copyRecord 24 = .ok (.ifCond .eq 59, 3) := by decide +kernel
theorem d_Node_copyRecord_27 : decode b_Node_copyRecord 27 = .ok (.iload 4, 2) := by decide +kernel
theorem d_Node_copyRecord_29 : decode b_Node_copyRecord 29 = .ok (.ifCond .lt 54, 3) := by decide +kernel
theorem d_Node_copyRecord_32 : decode b_Node_copyRecord 32 = .ok (.iload 4, 2) := by decide +kernel
theorem d_Node_copyRecord_34 : decode b_Node_copyRecord 34 = .ok (.aload_n 3, 1) := by decide +kernel
theorem d_Node_copyRecord_35 : decode b_Node_copyRecord 35 = .ok (.arraylength, 1) := by decide +kernel
theorem d_Node_copyRecord_36 : decode b_Node_copyRecord 36 = .ok (.if_icmp .gt 47, 3) := by decide +kernel
theorem d_Node_copyRecord_39 : decode b_Node_copyRecord 39 = .ok (.iload 4, 2) := by decide +kernel
theorem d_Node_copyRecord_41 : decode b_Node_copyRecord 41 = .ok (.iload 5, 2) := by decide +kernel
theorem d_Node_copyRecord_43 : decode b_Node_copyRecord 43 = .ok (.iadd, 1) := by decide +kernel
theorem d_Node_copyRecord_44 : decode b_Node_copyRecord 44 = .ok (.aload_n 0, 1) := by decide +kernel
theorem d_Node_copyRecord_45 : decode b_Node_copyRecord 45 = .ok (.getfield 19, 3) := by decide +kernel
theorem d_Node_copyRecord_48 : decode b_Node_copyRecord 48 = .ok (.iload_n 1, 1) := by decide +kernel
theorem d_Node_copyRecord_49 : decode b_Node_copyRecord 49 = .ok (.iaload, 1) := by decide +kernel
theorem d_Node_copyRecord_50 : decode b_Node_copyRecord 50 = .ok (.if_icmp .gt 33, 3) := by decide +kernel
theorem d_Node_copyRecord_53 : decode b_Node_copyRecord 53 = .ok (.aload_n 0, 1) := by decide +kernel
theorem d_Node_copyRecord_54 : decode b_Node_copyRecord 54 = .ok (.getfield 11, 3) := by decide +kernel
theorem d_Node_copyRecord_57 : decode b_Node_copyRecord 57 = .ok (.aload_n 0, 1) := by decide +kernel
theorem d_Node_copyRecord_58 : decode b_Node_copyRecord 58 = .ok (.getfield 15, 3) := by decide +kernel
theorem d_Node_copyRecord_61 : decode b_Node_copyRecord 61 = .ok (.iload_n 1, 1) := by decide +kernel
theorem d_Node_copyRecord_62 : decode b_Node_copyRecord 62 = .ok (.iaload, 1) := by decide +kernel
theorem d_Node_copyRecord_63 : decode b_Node_copyRecord 63 = .ok (.aload_n 0, 1) := by decide +kernel
theorem d_Node_copyRecord_64 : decode b_Node_copyRecord 64 = .ok (.getfield 19, 3) := by decide +kernel
theorem d_Node_copyRecord_67 : decode b_Node_copyRecord 67 = .ok (.iload_n 1, 1) := by decide +kernel
theorem d_Node_copyRecord_68 : decode b_Node_copyRecord 68 = .ok (.iaload, 1) := by decide +kernel
theorem d_Node_copyRecord_69 : decode b_Node_copyRecord 69 = .ok (.iadd, 1) := by decide +kernel
theorem d_Node_copyRecord_70 : decode b_Node_copyRecord 70 = .ok (.iload 5, 2) := by decide +kernel
theorem d_Node_copyRecord_72 : decode b_Node_copyRecord 72 = .ok (.isub, 1) := by decide +kernel
theorem d_Node_copyRecord_73 : decode b_Node_copyRecord 73 = .ok (.iload 4, 2) := by decide +kernel
theorem d_Node_copyRecord_75 : decode b_Node_copyRecord 75 = .ok (.isub, 1) := by decide +kernel
theorem d_Node_copyRecord_76 : decode b_Node_copyRecord 76 = .ok (.aload_n 3, 1) := by decide +kernel
theorem d_Node_copyRecord_77 : decode b_Node_copyRecord 77 = .ok (.iconst 0, 1) := by decide +kernel
theorem d_Node_copyRecord_78 : decode b_Node_copyRecord 78 = .ok (.iload 4, 2) := by decide +kernel
theorem d_Node_copyRecord_80 : decode b_Node_copyRecord 80 = .ok (.invokestatic 63, 3) := by decide +kernel
theorem d_Node_copyRecord_83 : decode b_Node_copyRecord 83 = .ok (.return_, 1) := by decide +kernel
noncomputable def q_Node_copyRecord_17 (n_p3 : Nat) (v_count : Int32) (v_bytes : Nat → Int32) (v_starts : Nat → Int32) (v_sizes : Nat → Int32) (v_p3 : Nat → Int32) (x_1 : Int32) (x_4 : Int32) (s_0 : Int32) : Option ((Nat → Int32)) :=
  pu_b1 (f_Node_hasCell v_count x_1) (fun r2 => pu_br (r2 = 0) (some v_p3) (pu_br (x_4 < 0) (some v_p3) (pu_br ((Int32.ofNat n_p3) < x_4) (some v_p3) (pu_ck (vp_in x_1 31) (pu_br ((v_sizes x_1.toNatClampNeg) < (x_4 + s_0)) (some v_p3) (pu_ck (vp_in x_1 31) (pu_ck (vp_in x_1 31) (pu_ck (pu_cp .byte v_bytes ((((v_starts x_1.toNatClampNeg) + (v_sizes x_1.toNatClampNeg)) - s_0) - x_4) (0 : Int32) x_4 96 n_p3) (pu_nm (va_cpy v_bytes v_p3 ((((v_starts x_1.toNatClampNeg) + (v_sizes x_1.toNatClampNeg)) - s_0) - x_4).toNatClampNeg (0 : Int32).toNatClampNeg x_4.toNatClampNeg) (fun a3 => some a3))))))))))
noncomputable def f_Node_copyRecord (n_p3 : Nat) (v_count : Int32) (v_bytes : Nat → Int32) (v_starts : Nat → Int32) (v_sizes : Nat → Int32) (v_p3 : Nat → Int32) (x_1 : Int32) (x_2 : Int32) : Option ((Nat → Int32)) :=
  pu_b1 (f_RF_sizeInLeaf x_2) (fun r1 => pu_br (x_2 ≤ (24 : Int32)) (q_Node_copyRecord_17 n_p3 v_count v_bytes v_starts v_sizes v_p3 x_1 r1 (0 : Int32)) (q_Node_copyRecord_17 n_p3 v_count v_bytes v_starts v_sizes v_p3 x_1 r1 (1 : Int32)))
abbrev rm_Node_copyRecord : Room := { frames := 1, cells := 0, slots := 0, locals := 68 }
set_option maxHeartbeats 8000000 in
set_option maxRecDepth 100000 in
theorem c_Node_copyRecord (l : Launch) (D : va_G) (cI cJ cB cZ : ClassId) (sz : Nat) (q_this : Nat) (q_bytes : Nat) (q_starts : Nat) (q_sizes : Nat) (q_p3 : Nat) (n_p3 : Nat) (v_count : Int32) (v_last : Int32) (v_leaf : Int32) (v_bytes : Nat → Int32) (v_starts : Nat → Int32) (v_sizes : Nat → Int32) (v_p3 : Nat → Int32) (x_1 : Int32) (x_2 : Int32) (o_p3 : Nat → Int32) (hf : f_Node_copyRecord n_p3 v_count v_bytes v_starts v_sizes v_p3 x_1 x_2 = some o_p3) : Met l y_Node_copyRecord (.code y_Node_copyRecord b_Node_copyRecord 6 none :: pu_wA) rm_Node_copyRecord (pu_pc D pu_cl (pu_ty cI cJ cB cZ) [.ref q_this, .int x_1, .int x_2, .ref q_p3] [(q_this, .inr (3, [.ref q_bytes, .ref q_starts, .ref q_sizes, .int v_count, .int v_last, .int v_leaf])), (q_bytes, .inl (cB, 96, .inl v_bytes)), (q_starts, .inl (cI, 31, .inl v_starts)), (q_sizes, .inl (cI, 31, .inl v_sizes)), (q_p3, .inl (cB, n_p3, .inl v_p3))] sz) (pu_qv D pu_cl (pu_ty cI cJ cB cZ) [(q_this, .inr (3, [.ref q_bytes, .ref q_starts, .ref q_sizes, .int v_count, .int v_last, .int v_leaf])), (q_bytes, .inl (cB, 96, .inl v_bytes)), (q_starts, .inl (cI, 31, .inl v_starts)), (q_sizes, .inl (cI, 31, .inl v_sizes)), (q_p3, .inl (cB, n_p3, .inl v_p3))] [(q_this, .inr (3, [.ref q_bytes, .ref q_starts, .ref q_sizes, .int v_count, .int v_last, .int v_leaf])), (q_bytes, .inl (cB, 96, .inl v_bytes)), (q_starts, .inl (cI, 31, .inl v_starts)), (q_sizes, .inl (cI, 31, .inl v_sizes)), (q_p3, .inl (cB, n_p3, .inl o_p3))] sz) 0 0 (va_A [(q_this, .inr (3, [.ref q_bytes, .ref q_starts, .ref q_sizes, .int v_count, .int v_last, .int v_leaf])), (q_bytes, .inl (cB, 96, .inl v_bytes)), (q_starts, .inl (cI, 31, .inl v_starts)), (q_sizes, .inl (cI, 31, .inl v_sizes)), (q_p3, .inl (cB, n_p3, .inl v_p3))] sz) := by
  refine pu_mtv [.ref q_this, .int x_1, .int x_2, .ref q_p3] [(q_this, .inr (3, [.ref q_bytes, .ref q_starts, .ref q_sizes, .int v_count, .int v_last, .int v_leaf])), (q_bytes, .inl (cB, 96, .inl v_bytes)), (q_starts, .inl (cI, 31, .inl v_starts)), (q_sizes, .inl (cI, 31, .inl v_sizes)), (q_p3, .inl (cB, n_p3, .inl v_p3))] [(q_this, .inr (3, [.ref q_bytes, .ref q_starts, .ref q_sizes, .int v_count, .int v_last, .int v_leaf])), (q_bytes, .inl (cB, 96, .inl v_bytes)), (q_starts, .inl (cI, 31, .inl v_starts)), (q_sizes, .inl (cI, 31, .inl v_sizes)), (q_p3, .inl (cB, n_p3, .inl o_p3))] (by decide) (Nat.le_of_ble_eq_true rfl) ?_
  intro p e s m args below meth c A Q ls hx hb hml hts hN hown hK hA hP hD hl hret0
  have hS : va_S A s.heap s.heap [] := va_S.rf
  have hl : lv_has ls 6 [(0, .ref q_this), (1, .int x_1), (2, .int x_2), (3, .ref q_p3)] := hl
  have hret : ∀ (pc : Nat) (ls : Array Slot) (H : Heap) (locs : List Loc) (y_0 : Nat → Int32), decode b_Node_copyRecord pc = .ok (.return_, 1) → va_P D pu_cl [(q_this, .inr (3, [.ref q_bytes, .ref q_starts, .ref q_sizes, .int v_count, .int v_last, .int v_leaf])), (q_bytes, .inl (cB, 96, .inl v_bytes)), (q_starts, .inl (cI, 31, .inl v_starts)), (q_sizes, .inl (cI, 31, .inl v_sizes)), (q_p3, .inl (cB, n_p3, .inl y_0))] H → va_D A [(q_this, .inr (3, [.ref q_bytes, .ref q_starts, .ref q_sizes, .int v_count, .int v_last, .int v_leaf])), (q_bytes, .inl (cB, 96, .inl v_bytes)), (q_starts, .inl (cI, 31, .inl v_starts)), (q_sizes, .inl (cI, 31, .inl v_sizes)), (q_p3, .inl (cB, n_p3, .inl y_0))] → va_S A s.heap H locs → some y_0 = some o_p3 → W p l e rm_Node_copyRecord s m args below meth c H locs 0 0 Q (F0 m pc ls []) := by
    intro pc ls H locs y_0 hd hP hD hS hf
    cases hf
    exact hret0 pc ls H locs hd hP hD hS
  clear hret0
  unfold f_Node_copyRecord at hf
  skip
  have lb_17 : ∀ (v_p3 : Nat → Int32) (x_1 : Int32) (x_4 : Int32) (s_0 : Int32) (H : Heap) (locs : List Loc) (ls : Array Slot), va_P D pu_cl [(q_this, .inr (3, [.ref q_bytes, .ref q_starts, .ref q_sizes, .int v_count, .int v_last, .int v_leaf])), (q_bytes, .inl (cB, 96, .inl v_bytes)), (q_starts, .inl (cI, 31, .inl v_starts)), (q_sizes, .inl (cI, 31, .inl v_sizes)), (q_p3, .inl (cB, n_p3, .inl v_p3))] H → va_D A [(q_this, .inr (3, [.ref q_bytes, .ref q_starts, .ref q_sizes, .int v_count, .int v_last, .int v_leaf])), (q_bytes, .inl (cB, 96, .inl v_bytes)), (q_starts, .inl (cI, 31, .inl v_starts)), (q_sizes, .inl (cI, 31, .inl v_sizes)), (q_p3, .inl (cB, n_p3, .inl v_p3))] → va_S A s.heap H locs → lv_has ls 6 [(0, .ref q_this), (1, .int x_1), (3, .ref q_p3), (4, .int x_4)] → q_Node_copyRecord_17 n_p3 v_count v_bytes v_starts v_sizes v_p3 x_1 x_4 s_0 = some o_p3 → W p l e rm_Node_copyRecord s m args below meth c H locs 0 0 Q (F0 m 17 ls [.int s_0]) := by
    intro v_p3 x_1 x_4 s_0 H locs ls hP hD hS hl hf
    rw [q_Node_copyRecord_17] at hf
    refine lv_istore hx hb d_Node_copyRecord_17 hl (by decide) rfl (fun ls hl => ?_)
    have hl : lv_has ls 6 [(5, .int s_0), (0, .ref q_this), (1, .int x_1), (3, .ref q_p3), (4, .int x_4)] := hl
    refine lv_aload_n hx hb d_Node_copyRecord_19 rfl (lv_at hl 1 rfl) ?_
    refine lv_iload_n hx hb d_Node_copyRecord_20 rfl (lv_at hl 2 rfl) ?_
    obtain ⟨r2, hc, hf⟩ := pu_b1_some hf
    refine cl_i (WC := [(q_this, .inr (3, [.ref q_bytes, .ref q_starts, .ref q_sizes, .int v_count, .int v_last, .int v_leaf]))]) (WC2 := [(q_this, .inr (3, [.ref q_bytes, .ref q_starts, .ref q_sizes, .int v_count, .int v_last, .int v_leaf]))]) (WR := [(q_bytes, .inl (cB, 96, .inl v_bytes)), (q_starts, .inl (cI, 31, .inl v_starts)), (q_sizes, .inl (cI, 31, .inl v_sizes)), (q_p3, .inl (cB, n_p3, .inl v_p3))]) (WS2 := [(q_this, .inr (3, [.ref q_bytes, .ref q_starts, .ref q_sizes, .int v_count, .int v_last, .int v_leaf])), (q_bytes, .inl (cB, 96, .inl v_bytes)), (q_starts, .inl (cI, 31, .inl v_starts)), (q_sizes, .inl (cI, 31, .inl v_sizes)), (q_p3, .inl (cB, n_p3, .inl v_p3))]) (pu_rv (cl := pu_cl) (pu_in3 _ (List.mem_of_getElem? (i := 57) rfl)) (pu_in3 _ (List.mem_of_getElem? (i := 58) rfl)) (pu_in13 _ (List.mem_of_getElem? (i := 46) rfl)) (pu_in0 _ (List.mem_of_getElem? (i := 6) rfl)) (pu_in3 _ (List.mem_of_getElem? (i := 59) rfl)) (ci := 3) rfl hd_Node_hasCell (by decide) ⟨rfl, rfl⟩ rfl rfl (Nat.le_of_ble_eq_true rfl) rfl (As := [.int x_1]) (rest := []) (WC := [(q_this, .inr (3, [.ref q_bytes, .ref q_starts, .ref q_sizes, .int v_count, .int v_last, .int v_leaf]))]) hx hb hml hown hts hN hK hP hD (c_Node_hasCell l D cI cJ cB cZ H.size q_this q_bytes q_starts q_sizes v_count v_last v_leaf x_1 r2 hc) [0] rfl rfl hl.1 d_Node_copyRecord_21) hP hD hS hA [0] [1, 2, 3, 4] [4, 0, 1, 2, 3] rfl rfl rfl (by decide) rfl rfl (fun H locs hP hD hS => ?_)
    refine lv_if_eq (tgt := 83) hx hb d_Node_copyRecord_24 rfl (fun hc => ?_) (fun hc => ?_)
    · have hf := pu_br_pos hf hc
      exact hret _ _ _ _ v_p3 d_Node_copyRecord_83 hP hD hS hf
    have hf := pu_br_neg hf hc
    refine lv_iload hx hb d_Node_copyRecord_27 (lv_at hl 4 rfl) ?_
    refine lv_if_lt (tgt := 83) hx hb d_Node_copyRecord_29 rfl (fun hc => ?_) (fun hc => ?_)
    · have hf := pu_br_pos hf hc
      exact hret _ _ _ _ v_p3 d_Node_copyRecord_83 hP hD hS hf
    have hf := pu_br_neg hf hc
    refine lv_iload hx hb d_Node_copyRecord_32 (lv_at hl 4 rfl) ?_
    refine lv_aload_n hx hb d_Node_copyRecord_34 rfl (lv_at hl 3 rfl) ?_
    refine va_alen (v := Int32.ofNat n_p3) hx hb hK hP 4 2 rfl rfl rfl d_Node_copyRecord_35 ?_
    refine lv_icmp_gt (tgt := 83) hx hb d_Node_copyRecord_36 rfl (fun hc => ?_) (fun hc => ?_)
    · have hf := pu_br_pos hf hc
      exact hret _ _ _ _ v_p3 d_Node_copyRecord_83 hP hD hS hf
    have hf := pu_br_neg hf hc
    refine lv_iload hx hb d_Node_copyRecord_39 (lv_at hl 4 rfl) ?_
    refine lv_iload hx hb d_Node_copyRecord_41 (lv_at hl 0 rfl) ?_
    refine lv_iadd hx hb d_Node_copyRecord_43 ?_
    refine lv_aload_n hx hb d_Node_copyRecord_44 rfl (lv_at hl 1 rfl) ?_
    refine gf_Node_19 (v := .ref q_sizes) hx hb hts hN hown hK hP 0 rfl rfl d_Node_copyRecord_45 ?_
    refine lv_iload_n hx hb d_Node_copyRecord_48 rfl (lv_at hl 2 rfl) ?_
    obtain ⟨hin, hf⟩ := pu_ck_some hf
    refine va_iald hx hb hK hP 3 0 rfl rfl hin d_Node_copyRecord_49 ?_
    refine lv_icmp_gt (tgt := 83) hx hb d_Node_copyRecord_50 rfl (fun hc => ?_) (fun hc => ?_)
    · have hf := pu_br_pos hf hc
      exact hret _ _ _ _ v_p3 d_Node_copyRecord_83 hP hD hS hf
    have hf := pu_br_neg hf hc
    refine lv_aload_n hx hb d_Node_copyRecord_53 rfl (lv_at hl 1 rfl) ?_
    refine gf_Node_11 (v := .ref q_bytes) hx hb hts hN hown hK hP 0 rfl rfl d_Node_copyRecord_54 ?_
    refine lv_aload_n hx hb d_Node_copyRecord_57 rfl (lv_at hl 1 rfl) ?_
    refine gf_Node_15 (v := .ref q_starts) hx hb hts hN hown hK hP 0 rfl rfl d_Node_copyRecord_58 ?_
    refine lv_iload_n hx hb d_Node_copyRecord_61 rfl (lv_at hl 2 rfl) ?_
    obtain ⟨hin, hf⟩ := pu_ck_some hf
    refine va_iald hx hb hK hP 2 0 rfl rfl hin d_Node_copyRecord_62 ?_
    refine lv_aload_n hx hb d_Node_copyRecord_63 rfl (lv_at hl 1 rfl) ?_
    refine gf_Node_19 (v := .ref q_sizes) hx hb hts hN hown hK hP 0 rfl rfl d_Node_copyRecord_64 ?_
    refine lv_iload_n hx hb d_Node_copyRecord_67 rfl (lv_at hl 2 rfl) ?_
    obtain ⟨hin, hf⟩ := pu_ck_some hf
    refine va_iald hx hb hK hP 3 0 rfl rfl hin d_Node_copyRecord_68 ?_
    refine lv_iadd hx hb d_Node_copyRecord_69 ?_
    refine lv_iload hx hb d_Node_copyRecord_70 (lv_at hl 0 rfl) ?_
    refine lv_isub hx hb d_Node_copyRecord_72 ?_
    refine lv_iload hx hb d_Node_copyRecord_73 (lv_at hl 4 rfl) ?_
    refine lv_isub hx hb d_Node_copyRecord_75 ?_
    refine lv_aload_n hx hb d_Node_copyRecord_76 rfl (lv_at hl 3 rfl) ?_
    refine lv_iconst (v := 0) hx hb d_Node_copyRecord_77 rfl ?_
    refine lv_iload hx hb d_Node_copyRecord_78 (lv_at hl 4 rfl) ?_
    obtain ⟨hcp, hf⟩ := pu_ck_some hf
    obtain ⟨a3, e_a3, hf⟩ := pu_nm_some hf
    refine va_copyi hx hb (hml.trans hl.1.symm) hown (hts _ (pu_in4 _ (List.mem_of_getElem? (i := 55) rfl))) (hts _ (pu_in2 _ (List.mem_of_getElem? (i := 39) rfl))) (hts _ (pu_in2 _ (List.mem_of_getElem? (i := 38) rfl))) (hts _ (pu_in0 _ (List.mem_of_getElem? (i := 9) rfl))) hK hP hD hS 1 4 2 2 (ty := .byte) rfl rfl rfl rfl rfl hcp.1 hcp.2.1 hcp.2.2.1 hcp.2.2.2.1 hcp.2.2.2.2.1 hcp.2.2.2.2.2 (Nat.le_of_ble_eq_true rfl) (Nat.le_of_ble_eq_true rfl) d_Node_copyRecord_80 (fun H locs hP hD hS => ?_)
    have hP : va_P D pu_cl [(q_this, .inr (3, [.ref q_bytes, .ref q_starts, .ref q_sizes, .int v_count, .int v_last, .int v_leaf])), (q_bytes, .inl (cB, 96, .inl v_bytes)), (q_starts, .inl (cI, 31, .inl v_starts)), (q_sizes, .inl (cI, 31, .inl v_sizes)), (q_p3, .inl (cB, n_p3, .inl a3))] H := by rw [e_a3]; exact hP
    have hD : va_D A [(q_this, .inr (3, [.ref q_bytes, .ref q_starts, .ref q_sizes, .int v_count, .int v_last, .int v_leaf])), (q_bytes, .inl (cB, 96, .inl v_bytes)), (q_starts, .inl (cI, 31, .inl v_starts)), (q_sizes, .inl (cI, 31, .inl v_sizes)), (q_p3, .inl (cB, n_p3, .inl a3))] := by rw [e_a3]; exact hD
    exact hret _ _ _ _ a3 d_Node_copyRecord_83 hP hD hS hf
  obtain ⟨H, hH⟩ : ∃ H, H = s.heap := ⟨_, rfl⟩
  obtain ⟨locs, hlocs⟩ : ∃ locs : List Loc, locs = [] := ⟨_, rfl⟩
  have hP : va_P D pu_cl [(q_this, .inr (3, [.ref q_bytes, .ref q_starts, .ref q_sizes, .int v_count, .int v_last, .int v_leaf])), (q_bytes, .inl (cB, 96, .inl v_bytes)), (q_starts, .inl (cI, 31, .inl v_starts)), (q_sizes, .inl (cI, 31, .inl v_sizes)), (q_p3, .inl (cB, n_p3, .inl v_p3))] H := by rw [hH]; exact hP
  have hS : va_S A s.heap H locs := by rw [hH, hlocs]; exact hS
  have goal : W p l e rm_Node_copyRecord s m args below meth c H locs 0 0 Q (F0 m 0 ls []) := by
    clear hH hlocs
    refine lv_iload_n hx hb d_Node_copyRecord_0 rfl (lv_at hl 2 rfl) ?_
    obtain ⟨r1, hc, hf⟩ := pu_b1_some hf
    refine cl_i (WC := []) (WC2 := []) (WR := [(q_this, .inr (3, [.ref q_bytes, .ref q_starts, .ref q_sizes, .int v_count, .int v_last, .int v_leaf])), (q_bytes, .inl (cB, 96, .inl v_bytes)), (q_starts, .inl (cI, 31, .inl v_starts)), (q_sizes, .inl (cI, 31, .inl v_sizes)), (q_p3, .inl (cB, n_p3, .inl v_p3))]) (WS2 := [(q_this, .inr (3, [.ref q_bytes, .ref q_starts, .ref q_sizes, .int v_count, .int v_last, .int v_leaf])), (q_bytes, .inl (cB, 96, .inl v_bytes)), (q_starts, .inl (cI, 31, .inl v_starts)), (q_sizes, .inl (cI, 31, .inl v_sizes)), (q_p3, .inl (cB, n_p3, .inl v_p3))]) (pu_rsn (List.mem_of_getElem? (i := 39) rfl) (pu_in4 _ (List.mem_of_getElem? (i := 30) rfl)) (pu_in0 _ (List.mem_of_getElem? (i := 1) rfl)) (pu_in4 _ (List.mem_of_getElem? (i := 31) rfl)) hd_RF_sizeInLeaf (by decide) ⟨rfl, rfl⟩ rfl rfl (Nat.le_of_ble_eq_true rfl) (As := [.int x_2]) (rest := []) (WC := []) hx hb hml hown hts hN hK hP hD (c_RF_sizeInLeaf l D cI cJ cB cZ H.size x_2 r1 hc) [] rfl rfl hl.1 d_Node_copyRecord_1) hP hD hS hA [] [0, 1, 2, 3, 4] [0, 1, 2, 3, 4] rfl rfl rfl (by decide) rfl rfl (fun H locs hP hD hS => ?_)
    refine lv_istore hx hb d_Node_copyRecord_4 hl (by decide) rfl (fun ls hl => ?_)
    have hl : lv_has ls 6 [(4, .int r1), (0, .ref q_this), (1, .int x_1), (2, .int x_2), (3, .ref q_p3)] := hl
    refine lv_iload_n hx hb d_Node_copyRecord_6 rfl (lv_at hl 3 rfl) ?_
    refine lv_bipush (v := 24) hx hb d_Node_copyRecord_7 rfl ?_
    refine lv_icmp_le (tgt := 16) hx hb d_Node_copyRecord_9 rfl (fun hc => ?_) (fun hc => ?_)
    · have hf := pu_br_pos hf hc
      refine lv_iconst (v := 0) hx hb d_Node_copyRecord_16 rfl ?_
      exact lb_17 v_p3 x_1 r1 (0 : Int32) H locs ls hP hD hS (lv_sub hl [1, 2, 4, 0] rfl) hf
    have hf := pu_br_neg hf hc
    refine lv_iconst (v := 1) hx hb d_Node_copyRecord_12 rfl ?_
    refine lv_goto (tgt := 17) hx hb d_Node_copyRecord_13 rfl ?_
    exact lb_17 v_p3 x_1 r1 (1 : Int32) H locs ls hP hD hS (lv_sub hl [1, 2, 4, 0] rfl) hf
  rw [hH, hlocs] at goal
  exact goal
theorem d_Pages_copyOut_0 : decode b_Pages_copyOut 0 = .ok (.aload_n 0, 1) := by decide +kernel
theorem d_Pages_copyOut_1 : decode b_Pages_copyOut 1 = .ok (.iload_n 1, 1) := by decide +kernel
theorem d_Pages_copyOut_2 : decode b_Pages_copyOut 2 = .ok (.iload 4, 2) := by decide +kernel
theorem d_Pages_copyOut_4 : decode b_Pages_copyOut 4 = .ok (.invokevirtual 23, 3) := by decide +kernel
theorem d_Pages_copyOut_7 : decode b_Pages_copyOut 7 = .ok (.ifCond .eq 40, 3) := by decide +kernel
theorem d_Pages_copyOut_10 : decode b_Pages_copyOut 10 = .ok (.iload 4, 2) := by decide +kernel
theorem d_Pages_copyOut_12 : decode b_Pages_copyOut 12 = .ok (.ifCond .lt 35, 3) := by decide +kernel
theorem d_Pages_copyOut_15 : decode b_Pages_copyOut 15 = .ok (.iload_n 3, 1) := by decide +kernel
theorem d_Pages_copyOut_16 : decode b_Pages_copyOut 16 = .ok (.ifCond .lt 31, 3) := by decide +kernel
theorem d_Pages_copyOut_19 : decode b_Pages_copyOut 19 = .ok (.iload_n 3, 1) := by decide +kernel
theorem d_Pages_copyOut_20 : decode b_Pages_copyOut 20 = .ok (.iload 4, 2) := by decide +kernel
theorem d_Pages_copyOut_22 : decode b_Pages_copyOut 22 = .ok (.iadd, 1) := by decide +kernel
theorem d_Pages_copyOut_23 : decode b_Pages_copyOut 23 = .ok (.aload_n 2, 1) := by decide +kernel
theorem d_Pages_copyOut_24 : decode b_Pages_copyOut 24 = .ok (.arraylength, 1) := by decide +kernel
theorem d_Pages_copyOut_25 : decode b_Pages_copyOut 25 = .ok (.if_icmp .gt 22, 3) := by decide +kernel
theorem d_Pages_copyOut_28 : decode b_Pages_copyOut 28 = .ok (.aload_n 0, 1) := by decide +kernel
theorem d_Pages_copyOut_29 : decode b_Pages_copyOut 29 = .ok (.getfield 9, 3) := by decide +kernel
theorem d_Pages_copyOut_32 : decode b_Pages_copyOut 32 = .ok (.iload_n 1, 1) := by decide +kernel
theorem d_Pages_copyOut_33 : decode b_Pages_copyOut 33 = .ok (.iconst 1, 1) := by decide +kernel
theorem d_Pages_copyOut_34 : decode b_Pages_copyOut 34 = .ok (.isub, 1) := by decide +kernel
theorem d_Pages_copyOut_35 : decode b_Pages_copyOut 35 = .ok (.bipush 64, 2) := by decide +kernel
theorem d_Pages_copyOut_37 : decode b_Pages_copyOut 37 = .ok (.imul, 1) := by decide +kernel
theorem d_Pages_copyOut_38 : decode b_Pages_copyOut 38 = .ok (.iconst 1, 1) := by decide +kernel
theorem d_Pages_copyOut_39 : decode b_Pages_copyOut 39 = .ok (.iadd, 1) := by decide +kernel
theorem d_Pages_copyOut_40 : decode b_Pages_copyOut 40 = .ok (.aload_n 2, 1) := by decide +kernel
theorem d_Pages_copyOut_41 : decode b_Pages_copyOut 41 = .ok (.iload_n 3, 1) := by decide +kernel
theorem d_Pages_copyOut_42 : decode b_Pages_copyOut 42 = .ok (.iload 4, 2) := by decide +kernel
theorem d_Pages_copyOut_44 : decode b_Pages_copyOut 44 = .ok (.invokestatic 33, 3) := by decide +kernel
theorem d_Pages_copyOut_47 : decode b_Pages_copyOut 47 = .ok (.return_, 1) := by decide +kernel
noncomputable def f_Pages_copyOut (n_p2 : Nat) (v_count : Int32) (v_bytes : Nat → Int32) (v_p2 : Nat → Int32) (x_1 : Int32) (x_3 : Int32) (x_4 : Int32) : Option ((Nat → Int32)) :=
  pu_b1 (f_Pages_has v_count x_1 x_4) (fun r1 => pu_br (r1 = 0) (some v_p2) (pu_br (x_4 < 0) (some v_p2) (pu_br (x_3 < 0) (some v_p2) (pu_br ((Int32.ofNat n_p2) < (x_3 + x_4)) (some v_p2) (pu_ck (pu_cp .byte v_bytes (((x_1 - (1 : Int32)) * (64 : Int32)) + (1 : Int32)) x_3 x_4 1536 n_p2) (pu_nm (va_cpy v_bytes v_p2 (((x_1 - (1 : Int32)) * (64 : Int32)) + (1 : Int32)).toNatClampNeg x_3.toNatClampNeg x_4.toNatClampNeg) (fun a2 => some a2)))))))
abbrev rm_Pages_copyOut : Room := { frames := 1, cells := 0, slots := 0, locals := 68 }
set_option maxHeartbeats 8000000 in
set_option maxRecDepth 100000 in
theorem c_Pages_copyOut (l : Launch) (D : va_G) (cI cJ cB cZ : ClassId) (sz : Nat) (q_this : Nat) (q_bytes : Nat) (q_p2 : Nat) (n_p2 : Nat) (v_count : Int32) (v_bytes : Nat → Int32) (v_p2 : Nat → Int32) (x_1 : Int32) (x_3 : Int32) (x_4 : Int32) (o_p2 : Nat → Int32) (hf : f_Pages_copyOut n_p2 v_count v_bytes v_p2 x_1 x_3 x_4 = some o_p2) : Met l y_Pages_copyOut (.code y_Pages_copyOut b_Pages_copyOut 5 none :: pu_wA) rm_Pages_copyOut (pu_pc D pu_cl (pu_ty cI cJ cB cZ) [.ref q_this, .int x_1, .ref q_p2, .int x_3, .int x_4] [(q_this, .inr (0, [.ref q_bytes, .int v_count])), (q_bytes, .inl (cB, 1536, .inl v_bytes)), (q_p2, .inl (cB, n_p2, .inl v_p2))] sz) (pu_qv D pu_cl (pu_ty cI cJ cB cZ) [(q_this, .inr (0, [.ref q_bytes, .int v_count])), (q_bytes, .inl (cB, 1536, .inl v_bytes)), (q_p2, .inl (cB, n_p2, .inl v_p2))] [(q_this, .inr (0, [.ref q_bytes, .int v_count])), (q_bytes, .inl (cB, 1536, .inl v_bytes)), (q_p2, .inl (cB, n_p2, .inl o_p2))] sz) 0 0 (va_A [(q_this, .inr (0, [.ref q_bytes, .int v_count])), (q_bytes, .inl (cB, 1536, .inl v_bytes)), (q_p2, .inl (cB, n_p2, .inl v_p2))] sz) := by
  refine pu_mtv [.ref q_this, .int x_1, .ref q_p2, .int x_3, .int x_4] [(q_this, .inr (0, [.ref q_bytes, .int v_count])), (q_bytes, .inl (cB, 1536, .inl v_bytes)), (q_p2, .inl (cB, n_p2, .inl v_p2))] [(q_this, .inr (0, [.ref q_bytes, .int v_count])), (q_bytes, .inl (cB, 1536, .inl v_bytes)), (q_p2, .inl (cB, n_p2, .inl o_p2))] (by decide) (Nat.le_of_ble_eq_true rfl) ?_
  intro p e s m args below meth c A Q ls hx hb hml hts hN hown hK hA hP hD hl hret0
  have hS : va_S A s.heap s.heap [] := va_S.rf
  have hl : lv_has ls 5 [(0, .ref q_this), (1, .int x_1), (2, .ref q_p2), (3, .int x_3), (4, .int x_4)] := hl
  have hret : ∀ (pc : Nat) (ls : Array Slot) (H : Heap) (locs : List Loc) (y_0 : Nat → Int32), decode b_Pages_copyOut pc = .ok (.return_, 1) → va_P D pu_cl [(q_this, .inr (0, [.ref q_bytes, .int v_count])), (q_bytes, .inl (cB, 1536, .inl v_bytes)), (q_p2, .inl (cB, n_p2, .inl y_0))] H → va_D A [(q_this, .inr (0, [.ref q_bytes, .int v_count])), (q_bytes, .inl (cB, 1536, .inl v_bytes)), (q_p2, .inl (cB, n_p2, .inl y_0))] → va_S A s.heap H locs → some y_0 = some o_p2 → W p l e rm_Pages_copyOut s m args below meth c H locs 0 0 Q (F0 m pc ls []) := by
    intro pc ls H locs y_0 hd hP hD hS hf
    cases hf
    exact hret0 pc ls H locs hd hP hD hS
  clear hret0
  unfold f_Pages_copyOut at hf
  skip
  obtain ⟨H, hH⟩ : ∃ H, H = s.heap := ⟨_, rfl⟩
  obtain ⟨locs, hlocs⟩ : ∃ locs : List Loc, locs = [] := ⟨_, rfl⟩
  have hP : va_P D pu_cl [(q_this, .inr (0, [.ref q_bytes, .int v_count])), (q_bytes, .inl (cB, 1536, .inl v_bytes)), (q_p2, .inl (cB, n_p2, .inl v_p2))] H := by rw [hH]; exact hP
  have hS : va_S A s.heap H locs := by rw [hH, hlocs]; exact hS
  have goal : W p l e rm_Pages_copyOut s m args below meth c H locs 0 0 Q (F0 m 0 ls []) := by
    clear hH hlocs
    refine lv_aload_n hx hb d_Pages_copyOut_0 rfl (lv_at hl 0 rfl) ?_
    refine lv_iload_n hx hb d_Pages_copyOut_1 rfl (lv_at hl 1 rfl) ?_
    refine lv_iload hx hb d_Pages_copyOut_2 (lv_at hl 4 rfl) ?_
    obtain ⟨r1, hc, hf⟩ := pu_b1_some hf
    refine cl_i (WC := [(q_this, .inr (0, [.ref q_bytes, .int v_count]))]) (WC2 := [(q_this, .inr (0, [.ref q_bytes, .int v_count]))]) (WR := [(q_bytes, .inl (cB, 1536, .inl v_bytes)), (q_p2, .inl (cB, n_p2, .inl v_p2))]) (WS2 := [(q_this, .inr (0, [.ref q_bytes, .int v_count])), (q_bytes, .inl (cB, 1536, .inl v_bytes)), (q_p2, .inl (cB, n_p2, .inl v_p2))]) (pu_rv (cl := pu_cl) (pu_in2 _ (List.mem_of_getElem? (i := 29) rfl)) (pu_in2 _ (List.mem_of_getElem? (i := 30) rfl)) (pu_in2 _ (List.mem_of_getElem? (i := 31) rfl)) (pu_in0 _ (List.mem_of_getElem? (i := 3) rfl)) (pu_in2 _ (List.mem_of_getElem? (i := 32) rfl)) (ci := 0) rfl hd_Pages_has (by decide) ⟨rfl, rfl⟩ rfl rfl (Nat.le_of_ble_eq_true rfl) rfl (As := [.int x_1, .int x_4]) (rest := []) (WC := [(q_this, .inr (0, [.ref q_bytes, .int v_count]))]) hx hb hml hown hts hN hK hP hD (c_Pages_has l D cI cJ cB cZ H.size q_this q_bytes v_count x_1 x_4 r1 hc) [0] rfl rfl hl.1 d_Pages_copyOut_4) hP hD hS hA [0] [1, 2] [2, 0, 1] rfl rfl rfl (by decide) rfl rfl (fun H locs hP hD hS => ?_)
    refine lv_if_eq (tgt := 47) hx hb d_Pages_copyOut_7 rfl (fun hc => ?_) (fun hc => ?_)
    · have hf := pu_br_pos hf hc
      exact hret _ _ _ _ v_p2 d_Pages_copyOut_47 hP hD hS hf
    have hf := pu_br_neg hf hc
    refine lv_iload hx hb d_Pages_copyOut_10 (lv_at hl 4 rfl) ?_
    refine lv_if_lt (tgt := 47) hx hb d_Pages_copyOut_12 rfl (fun hc => ?_) (fun hc => ?_)
    · have hf := pu_br_pos hf hc
      exact hret _ _ _ _ v_p2 d_Pages_copyOut_47 hP hD hS hf
    have hf := pu_br_neg hf hc
    refine lv_iload_n hx hb d_Pages_copyOut_15 rfl (lv_at hl 3 rfl) ?_
    refine lv_if_lt (tgt := 47) hx hb d_Pages_copyOut_16 rfl (fun hc => ?_) (fun hc => ?_)
    · have hf := pu_br_pos hf hc
      exact hret _ _ _ _ v_p2 d_Pages_copyOut_47 hP hD hS hf
    have hf := pu_br_neg hf hc
    refine lv_iload_n hx hb d_Pages_copyOut_19 rfl (lv_at hl 3 rfl) ?_
    refine lv_iload hx hb d_Pages_copyOut_20 (lv_at hl 4 rfl) ?_
    refine lv_iadd hx hb d_Pages_copyOut_22 ?_
    refine lv_aload_n hx hb d_Pages_copyOut_23 rfl (lv_at hl 2 rfl) ?_
    refine va_alen (v := Int32.ofNat n_p2) hx hb hK hP 2 2 rfl rfl rfl d_Pages_copyOut_24 ?_
    refine lv_icmp_gt (tgt := 47) hx hb d_Pages_copyOut_25 rfl (fun hc => ?_) (fun hc => ?_)
    · have hf := pu_br_pos hf hc
      exact hret _ _ _ _ v_p2 d_Pages_copyOut_47 hP hD hS hf
    have hf := pu_br_neg hf hc
    refine lv_aload_n hx hb d_Pages_copyOut_28 rfl (lv_at hl 0 rfl) ?_
    refine gf_Pages_9 (v := .ref q_bytes) hx hb hts hN hown hK hP 0 rfl rfl d_Pages_copyOut_29 ?_
    refine lv_iload_n hx hb d_Pages_copyOut_32 rfl (lv_at hl 1 rfl) ?_
    refine lv_iconst (v := 1) hx hb d_Pages_copyOut_33 rfl ?_
    refine lv_isub hx hb d_Pages_copyOut_34 ?_
    refine lv_bipush (v := 64) hx hb d_Pages_copyOut_35 rfl ?_
    refine lv_imul hx hb d_Pages_copyOut_37 ?_
    refine lv_iconst (v := 1) hx hb d_Pages_copyOut_38 rfl ?_
    refine lv_iadd hx hb d_Pages_copyOut_39 ?_
    refine lv_aload_n hx hb d_Pages_copyOut_40 rfl (lv_at hl 2 rfl) ?_
    refine lv_iload_n hx hb d_Pages_copyOut_41 rfl (lv_at hl 3 rfl) ?_
    refine lv_iload hx hb d_Pages_copyOut_42 (lv_at hl 4 rfl) ?_
    obtain ⟨hcp, hf⟩ := pu_ck_some hf
    obtain ⟨a2, e_a2, hf⟩ := pu_nm_some hf
    refine va_copyi hx hb (hml.trans hl.1.symm) hown (hts _ (pu_in2 _ (List.mem_of_getElem? (i := 37) rfl))) (hts _ (pu_in2 _ (List.mem_of_getElem? (i := 39) rfl))) (hts _ (pu_in2 _ (List.mem_of_getElem? (i := 38) rfl))) (hts _ (pu_in0 _ (List.mem_of_getElem? (i := 9) rfl))) hK hP hD hS 1 2 2 2 (ty := .byte) rfl rfl rfl rfl rfl hcp.1 hcp.2.1 hcp.2.2.1 hcp.2.2.2.1 hcp.2.2.2.2.1 hcp.2.2.2.2.2 (Nat.le_of_ble_eq_true rfl) (Nat.le_of_ble_eq_true rfl) d_Pages_copyOut_44 (fun H locs hP hD hS => ?_)
    have hP : va_P D pu_cl [(q_this, .inr (0, [.ref q_bytes, .int v_count])), (q_bytes, .inl (cB, 1536, .inl v_bytes)), (q_p2, .inl (cB, n_p2, .inl a2))] H := by rw [e_a2]; exact hP
    have hD : va_D A [(q_this, .inr (0, [.ref q_bytes, .int v_count])), (q_bytes, .inl (cB, 1536, .inl v_bytes)), (q_p2, .inl (cB, n_p2, .inl a2))] := by rw [e_a2]; exact hD
    exact hret _ _ _ _ a2 d_Pages_copyOut_47 hP hD hS hf
  rw [hH, hlocs] at goal
  exact goal
theorem d_Rec_read_0 : decode b_Rec_read 0 = .ok (.aload_n 2, 1) := by decide +kernel
theorem d_Rec_read_1 : decode b_Rec_read 1 = .ok (.iload_n 3, 1) := by decide +kernel
theorem d_Rec_read_2 : decode b_Rec_read 2 = .ok (.invokevirtual 60, 3) := by decide +kernel
theorem d_Rec_read_5 : decode b_Rec_read 5 = .ok (.istore 4, 2) := by decide +kernel
theorem d_Rec_read_7 : decode b_Rec_read 7 = .ok (.aload_n 0, 1) := by decide +kernel
theorem d_Rec_read_8 : decode b_Rec_read 8 = .ok (.iconst 0, 1) := by decide +kernel
theorem d_Rec_read_9 : decode b_Rec_read 9 = .ok (.putfield 37, 3) := by decide +kernel
theorem d_Rec_read_12 : decode b_Rec_read 12 = .ok (.iload 4, 2) := by decide +kernel
theorem d_Rec_read_14 : decode b_Rec_read 14 = .ok (.ifCond .lt 11, 3) := by decide +kernel
theorem d_Rec_read_17 : decode b_Rec_read 17 = .ok (.iload 4, 2) := by decide +kernel
theorem d_Rec_read_19 : decode b_Rec_read 19 = .ok (.sipush 307, 3) := by decide +kernel
theorem d_Rec_read_22 : decode b_Rec_read 22 = .ok (.if_icmp .le 4, 3) := by decide +kernel
theorem d_Rec_read_25 : decode b_Rec_read 25 = .ok (.return_, 1) := by decide +kernel
theorem d_Rec_read_26 : decode b_Rec_read 26 = .ok (.aload_n 0, 1) := by decide +kernel
theorem d_Rec_read_27 : decode b_Rec_read 27 = .ok (.iload 4, 2) := by decide +kernel
theorem d_Rec_read_29 : decode b_Rec_read 29 = .ok (.invokestatic 65, 3) := by decide +kernel
theorem d_Rec_read_32 : decode b_Rec_read 32 = .ok (.putfield 37, 3) := by decide +kernel
theorem d_Rec_read_35 : decode b_Rec_read 35 = .ok (.aload_n 2, 1) := by decide +kernel
theorem d_Rec_read_36 : decode b_Rec_read 36 = .ok (.iload_n 3, 1) := by decide +kernel
theorem d_Rec_read_37 : decode b_Rec_read 37 = .ok (.iload 4, 2) := by decide +kernel
theorem d_Rec_read_39 : decode b_Rec_read 39 = .ok (.aload_n 0, 1) := by decide +kernel
theorem d_Rec_read_40 : decode b_Rec_read 40 = .ok (.getfield 9, 3) := by decide +kernel
theorem d_Rec_read_43 : decode b_Rec_read 43 = .ok (.invokevirtual 68, 3) := by decide +kernel
theorem d_Rec_read_46 : decode b_Rec_read 46 = .ok (.aload_n 2, 1) := by decide +kernel
theorem d_Rec_read_47 : decode b_Rec_read 47 = .ok (.iload_n 3, 1) := by decide +kernel
theorem d_Rec_read_48 : decode b_Rec_read 48 = .ok (.iload 4, 2) := by decide +kernel
theorem d_Rec_read_50 : decode b_Rec_read 50 = .ok (.invokevirtual 72, 3) := by decide +kernel
theorem d_Rec_read_53 : decode b_Rec_read 53 = .ok (.istore 5, 2) := by decide +kernel
theorem d_Rec_read_55 : decode b_Rec_read 55 = .ok (.iconst 0, 1) := by decide +kernel
theorem d_Rec_read_56 : decode b_Rec_read 56 = .ok (.istore 6, 2) := by decide +kernel
theorem d_Rec_read_58 : decode b_Rec_read 58 = .ok (.iload 6, 2) := by decide +kernel
theorem d_Rec_read_60 : decode b_Rec_read 60 = .ok (.iload 4, 2) := by decide +kernel
theorem d_Rec_read_62 : decode b_Rec_read 62 = .ok (.invokestatic 76, 3) := by decide +kernel
theorem d_Rec_read_65 : decode b_Rec_read 65 = .ok (.if_icmp .ge 59, 3) := by decide +kernel
theorem d_Rec_read_68 : decode b_Rec_read 68 = .ok (.bipush 63, 2) := by decide +kernel
theorem d_Rec_read_70 : decode b_Rec_read 70 = .ok (.iload 4, 2) := by decide +kernel
theorem d_Rec_read_72 : decode b_Rec_read 72 = .ok (.aload_n 0, 1) := by decide +kernel
theorem d_Rec_read_73 : decode b_Rec_read 73 = .ok (.getfield 37, 3) := by decide +kernel
theorem d_Rec_read_76 : decode b_Rec_read 76 = .ok (.isub, 1) := by decide +kernel
theorem d_Rec_read_77 : decode b_Rec_read 77 = .ok (.invokestatic 79, 3) := by decide +kernel
theorem d_Rec_read_80 : decode b_Rec_read 80 = .ok (.istore 7, 2) := by decide +kernel
theorem d_Rec_read_82 : decode b_Rec_read 82 = .ok (.aload_n 1, 1) := by decide +kernel
theorem d_Rec_read_83 : decode b_Rec_read 83 = .ok (.iload 5, 2) := by decide +kernel
theorem d_Rec_read_85 : decode b_Rec_read 85 = .ok (.aload_n 0, 1) := by decide +kernel
theorem d_Rec_read_86 : decode b_Rec_read 86 = .ok (.getfield 9, 3) := by decide +kernel
theorem d_Rec_read_89 : decode b_Rec_read 89 = .ok (.aload_n 0, 1) := by decide +kernel
theorem d_Rec_read_90 : decode b_Rec_read 90 = .ok (.getfield 37, 3) := by decide +kernel
theorem d_Rec_read_93 : decode b_Rec_read 93 = .ok (.iload 7, 2) := by decide +kernel
theorem d_Rec_read_95 : decode b_Rec_read 95 = .ok (.invokevirtual 84, 3) := by decide +kernel
theorem d_Rec_read_98 : decode b_Rec_read 98 = .ok (.aload_n 0, 1) := by decide +kernel
theorem d_Rec_read_99 : decode b_Rec_read 99 = .ok (.dup, 1) := by decide +kernel
theorem d_Rec_read_100 : decode b_Rec_read 100 = .ok (.getfield 37, 3) := by decide +kernel
theorem d_Rec_read_103 : decode b_Rec_read 103 = .ok (.iload 7, 2) := by decide +kernel
theorem d_Rec_read_105 : decode b_Rec_read 105 = .ok (.iadd, 1) := by decide +kernel
theorem d_Rec_read_106 : decode b_Rec_read 106 = .ok (.putfield 37, 3) := by decide +kernel
theorem d_Rec_read_109 : decode b_Rec_read 109 = .ok (.aload_n 1, 1) := by decide +kernel
theorem d_Rec_read_110 : decode b_Rec_read 110 = .ok (.iload 5, 2) := by decide +kernel
theorem d_Rec_read_112 : decode b_Rec_read 112 = .ok (.iconst 0, 1) := by decide +kernel
theorem d_Rec_read_113 : decode b_Rec_read 113 = .ok (.invokevirtual 90, 3) := by decide +kernel
theorem d_Rec_read_116 : decode b_Rec_read 116 = .ok (.istore 5, 2) := by decide +kernel
theorem d_Rec_read_118 : decode b_Rec_read 118 = .ok (.iinc 6 1, 3) := by decide +kernel
theorem d_Rec_read_121 : decode b_Rec_read 121 = .ok (.goto (-63), 3) := by decide +kernel
theorem d_Rec_read_124 : decode b_Rec_read 124 = .ok (.return_, 1) := by decide +kernel
noncomputable def q_Rec_read_58 (v_p1_count : Int32) (v_p1_bytes : Nat → Int32) (v_p2_count : Int32) (v_p2_bytes : Nat → Int32) (v_p2_starts : Nat → Int32) (v_p2_sizes : Nat → Int32) (x_4 : Int32) : Nat → Int32 → (Nat → Int32) → Int32 → Int32 → Option (Int32 × (Nat → Int32))
  | 0, _, _, _, _ => none
  | n + 1, v_length, v_bytes, x_5, x_6 => pu_b1 (f_RF_chainPages x_4) (fun r6 => pu_br (r6 ≤ x_6) (some (v_length, v_bytes)) (pu_nm (if (x_4 - v_length) < (63 : Int32) then (x_4 - v_length) else (63 : Int32)) (fun t7 => pu_b1 (f_Pages_copyOut 307 v_p1_count v_p1_bytes v_bytes x_5 v_length t7) (fun w9 => pu_nm (v_length + t7) (fun t10 => pu_b1 (f_Pages_get v_p1_count v_p1_bytes x_5 (0 : Int32)) (fun r11 => pu_nm (x_6 + (1 : Int32)) (fun t12 => q_Rec_read_58 v_p1_count v_p1_bytes v_p2_count v_p2_bytes v_p2_starts v_p2_sizes x_4 n t10 w9 r11 t12)))))))
noncomputable def f_Rec_read (v_p1_count : Int32) (v_p1_bytes : Nat → Int32) (v_p2_count : Int32) (v_p2_bytes : Nat → Int32) (v_p2_starts : Nat → Int32) (v_p2_sizes : Nat → Int32) (v_length : Int32) (v_bytes : Nat → Int32) (x_3 : Int32) : Option (Int32 × (Nat → Int32)) :=
  pu_b1 (f_Node_recordLength v_p2_count v_p2_bytes v_p2_starts v_p2_sizes x_3) (fun r1 => pu_br (r1 < 0) (some ((0 : Int32), v_bytes)) (pu_br (r1 ≤ (307 : Int32)) (pu_b1 (f_RF_sizeInLeaf r1) (fun r2 => pu_b1 (f_Node_copyRecord 307 v_p2_count v_p2_bytes v_p2_starts v_p2_sizes v_bytes x_3 r1) (fun w4 => pu_b1 (f_Node_chainStart v_p2_count v_p2_bytes v_p2_starts v_p2_sizes x_3 r1) (fun r5 => q_Rec_read_58 v_p1_count v_p1_bytes v_p2_count v_p2_bytes v_p2_starts v_p2_sizes r1 pu_fu r2 w4 r5 (0 : Int32))))) (some ((0 : Int32), v_bytes))))
abbrev rm_Rec_read : Room := { frames := 2, cells := 0, slots := 0, locals := 93 }
set_option maxHeartbeats 8000000 in
set_option maxRecDepth 100000 in
theorem c_Rec_read (l : Launch) (D : va_G) (cI cJ cB cZ : ClassId) (sz : Nat) (q_this : Nat) (q_bytes : Nat) (q_codes : Nat) (q_starts : Nat) (q_p1 : Nat) (q_p1_bytes : Nat) (q_p2 : Nat) (q_p2_bytes : Nat) (q_p2_starts : Nat) (q_p2_sizes : Nat) (v_length : Int32) (v_count : Int32) (v_bytes : Nat → Int32) (v_p1_count : Int32) (v_p1_bytes : Nat → Int32) (v_p2_count : Int32) (v_p2_last : Int32) (v_p2_leaf : Int32) (v_p2_bytes : Nat → Int32) (v_p2_starts : Nat → Int32) (v_p2_sizes : Nat → Int32) (x_3 : Int32) (o_length : Int32) (o_bytes : Nat → Int32) (hf : f_Rec_read v_p1_count v_p1_bytes v_p2_count v_p2_bytes v_p2_starts v_p2_sizes v_length v_bytes x_3 = some (o_length, o_bytes)) : Met l y_Rec_read (.code y_Rec_read b_Rec_read 8 none :: pu_wA) rm_Rec_read (pu_pc D pu_cl (pu_ty cI cJ cB cZ) [.ref q_this, .ref q_p1, .ref q_p2, .int x_3] [(q_this, .inr (2, [.ref q_bytes, .int v_length, .ref q_codes, .ref q_starts, .int v_count])), (q_bytes, .inl (cB, 307, .inl v_bytes)), (q_p1, .inr (0, [.ref q_p1_bytes, .int v_p1_count])), (q_p1_bytes, .inl (cB, 1536, .inl v_p1_bytes)), (q_p2, .inr (3, [.ref q_p2_bytes, .ref q_p2_starts, .ref q_p2_sizes, .int v_p2_count, .int v_p2_last, .int v_p2_leaf])), (q_p2_bytes, .inl (cB, 96, .inl v_p2_bytes)), (q_p2_starts, .inl (cI, 31, .inl v_p2_starts)), (q_p2_sizes, .inl (cI, 31, .inl v_p2_sizes))] sz) (pu_qv D pu_cl (pu_ty cI cJ cB cZ) [(q_this, .inr (2, [.ref q_bytes, .int v_length, .ref q_codes, .ref q_starts, .int v_count])), (q_bytes, .inl (cB, 307, .inl v_bytes)), (q_p1, .inr (0, [.ref q_p1_bytes, .int v_p1_count])), (q_p1_bytes, .inl (cB, 1536, .inl v_p1_bytes)), (q_p2, .inr (3, [.ref q_p2_bytes, .ref q_p2_starts, .ref q_p2_sizes, .int v_p2_count, .int v_p2_last, .int v_p2_leaf])), (q_p2_bytes, .inl (cB, 96, .inl v_p2_bytes)), (q_p2_starts, .inl (cI, 31, .inl v_p2_starts)), (q_p2_sizes, .inl (cI, 31, .inl v_p2_sizes))] [(q_this, .inr (2, [.ref q_bytes, .int o_length, .ref q_codes, .ref q_starts, .int v_count])), (q_bytes, .inl (cB, 307, .inl o_bytes)), (q_p1, .inr (0, [.ref q_p1_bytes, .int v_p1_count])), (q_p1_bytes, .inl (cB, 1536, .inl v_p1_bytes)), (q_p2, .inr (3, [.ref q_p2_bytes, .ref q_p2_starts, .ref q_p2_sizes, .int v_p2_count, .int v_p2_last, .int v_p2_leaf])), (q_p2_bytes, .inl (cB, 96, .inl v_p2_bytes)), (q_p2_starts, .inl (cI, 31, .inl v_p2_starts)), (q_p2_sizes, .inl (cI, 31, .inl v_p2_sizes))] sz) 0 0 (va_A [(q_this, .inr (2, [.ref q_bytes, .int v_length, .ref q_codes, .ref q_starts, .int v_count])), (q_bytes, .inl (cB, 307, .inl v_bytes)), (q_p1, .inr (0, [.ref q_p1_bytes, .int v_p1_count])), (q_p1_bytes, .inl (cB, 1536, .inl v_p1_bytes)), (q_p2, .inr (3, [.ref q_p2_bytes, .ref q_p2_starts, .ref q_p2_sizes, .int v_p2_count, .int v_p2_last, .int v_p2_leaf])), (q_p2_bytes, .inl (cB, 96, .inl v_p2_bytes)), (q_p2_starts, .inl (cI, 31, .inl v_p2_starts)), (q_p2_sizes, .inl (cI, 31, .inl v_p2_sizes))] sz) := by
  refine pu_mtv [.ref q_this, .ref q_p1, .ref q_p2, .int x_3] [(q_this, .inr (2, [.ref q_bytes, .int v_length, .ref q_codes, .ref q_starts, .int v_count])), (q_bytes, .inl (cB, 307, .inl v_bytes)), (q_p1, .inr (0, [.ref q_p1_bytes, .int v_p1_count])), (q_p1_bytes, .inl (cB, 1536, .inl v_p1_bytes)), (q_p2, .inr (3, [.ref q_p2_bytes, .ref q_p2_starts, .ref q_p2_sizes, .int v_p2_count, .int v_p2_last, .int v_p2_leaf])), (q_p2_bytes, .inl (cB, 96, .inl v_p2_bytes)), (q_p2_starts, .inl (cI, 31, .inl v_p2_starts)), (q_p2_sizes, .inl (cI, 31, .inl v_p2_sizes))] [(q_this, .inr (2, [.ref q_bytes, .int o_length, .ref q_codes, .ref q_starts, .int v_count])), (q_bytes, .inl (cB, 307, .inl o_bytes)), (q_p1, .inr (0, [.ref q_p1_bytes, .int v_p1_count])), (q_p1_bytes, .inl (cB, 1536, .inl v_p1_bytes)), (q_p2, .inr (3, [.ref q_p2_bytes, .ref q_p2_starts, .ref q_p2_sizes, .int v_p2_count, .int v_p2_last, .int v_p2_leaf])), (q_p2_bytes, .inl (cB, 96, .inl v_p2_bytes)), (q_p2_starts, .inl (cI, 31, .inl v_p2_starts)), (q_p2_sizes, .inl (cI, 31, .inl v_p2_sizes))] (by decide) (Nat.le_of_ble_eq_true rfl) ?_
  intro p e s m args below meth c A Q ls hx hb hml hts hN hown hK hA hP hD hl hret0
  have hS : va_S A s.heap s.heap [] := va_S.rf
  have hl : lv_has ls 8 [(0, .ref q_this), (1, .ref q_p1), (2, .ref q_p2), (3, .int x_3)] := hl
  have hret : ∀ (pc : Nat) (ls : Array Slot) (H : Heap) (locs : List Loc) (y_0 : Int32) (y_1 : Nat → Int32), decode b_Rec_read pc = .ok (.return_, 1) → va_P D pu_cl [(q_this, .inr (2, [.ref q_bytes, .int y_0, .ref q_codes, .ref q_starts, .int v_count])), (q_bytes, .inl (cB, 307, .inl y_1)), (q_p1, .inr (0, [.ref q_p1_bytes, .int v_p1_count])), (q_p1_bytes, .inl (cB, 1536, .inl v_p1_bytes)), (q_p2, .inr (3, [.ref q_p2_bytes, .ref q_p2_starts, .ref q_p2_sizes, .int v_p2_count, .int v_p2_last, .int v_p2_leaf])), (q_p2_bytes, .inl (cB, 96, .inl v_p2_bytes)), (q_p2_starts, .inl (cI, 31, .inl v_p2_starts)), (q_p2_sizes, .inl (cI, 31, .inl v_p2_sizes))] H → va_D A [(q_this, .inr (2, [.ref q_bytes, .int y_0, .ref q_codes, .ref q_starts, .int v_count])), (q_bytes, .inl (cB, 307, .inl y_1)), (q_p1, .inr (0, [.ref q_p1_bytes, .int v_p1_count])), (q_p1_bytes, .inl (cB, 1536, .inl v_p1_bytes)), (q_p2, .inr (3, [.ref q_p2_bytes, .ref q_p2_starts, .ref q_p2_sizes, .int v_p2_count, .int v_p2_last, .int v_p2_leaf])), (q_p2_bytes, .inl (cB, 96, .inl v_p2_bytes)), (q_p2_starts, .inl (cI, 31, .inl v_p2_starts)), (q_p2_sizes, .inl (cI, 31, .inl v_p2_sizes))] → va_S A s.heap H locs → some (y_0, y_1) = some (o_length, o_bytes) → W p l e rm_Rec_read s m args below meth c H locs 0 0 Q (F0 m pc ls []) := by
    intro pc ls H locs y_0 y_1 hd hP hD hS hf
    cases hf
    exact hret0 pc ls H locs hd hP hD hS
  clear hret0
  unfold f_Rec_read at hf
  skip
  have lp_58 : ∀ (x_4 : Int32) (n58 : Nat) (v_length : Int32) (v_bytes : Nat → Int32) (x_5 : Int32) (x_6 : Int32) (H : Heap) (locs : List Loc) (ls : Array Slot), va_P D pu_cl [(q_this, .inr (2, [.ref q_bytes, .int v_length, .ref q_codes, .ref q_starts, .int v_count])), (q_bytes, .inl (cB, 307, .inl v_bytes)), (q_p1, .inr (0, [.ref q_p1_bytes, .int v_p1_count])), (q_p1_bytes, .inl (cB, 1536, .inl v_p1_bytes)), (q_p2, .inr (3, [.ref q_p2_bytes, .ref q_p2_starts, .ref q_p2_sizes, .int v_p2_count, .int v_p2_last, .int v_p2_leaf])), (q_p2_bytes, .inl (cB, 96, .inl v_p2_bytes)), (q_p2_starts, .inl (cI, 31, .inl v_p2_starts)), (q_p2_sizes, .inl (cI, 31, .inl v_p2_sizes))] H → va_D A [(q_this, .inr (2, [.ref q_bytes, .int v_length, .ref q_codes, .ref q_starts, .int v_count])), (q_bytes, .inl (cB, 307, .inl v_bytes)), (q_p1, .inr (0, [.ref q_p1_bytes, .int v_p1_count])), (q_p1_bytes, .inl (cB, 1536, .inl v_p1_bytes)), (q_p2, .inr (3, [.ref q_p2_bytes, .ref q_p2_starts, .ref q_p2_sizes, .int v_p2_count, .int v_p2_last, .int v_p2_leaf])), (q_p2_bytes, .inl (cB, 96, .inl v_p2_bytes)), (q_p2_starts, .inl (cI, 31, .inl v_p2_starts)), (q_p2_sizes, .inl (cI, 31, .inl v_p2_sizes))] → va_S A s.heap H locs → lv_has ls 8 [(0, .ref q_this), (1, .ref q_p1), (4, .int x_4), (5, .int x_5), (6, .int x_6)] → q_Rec_read_58 v_p1_count v_p1_bytes v_p2_count v_p2_bytes v_p2_starts v_p2_sizes x_4 n58 v_length v_bytes x_5 x_6 = some (o_length, o_bytes) → W p l e rm_Rec_read s m args below meth c H locs 0 0 Q (F0 m 58 ls []) := by
    intro x_4 n58
    induction n58 with
    | zero =>
      intro v_length v_bytes x_5 x_6 H locs ls hP hD hS hl hf
      rw [q_Rec_read_58] at hf
      cases hf
    | succ n58 ih_58 =>
      intro v_length v_bytes x_5 x_6 H locs ls hP hD hS hl hf
      rw [q_Rec_read_58] at hf
      refine lv_iload hx hb d_Rec_read_58 (lv_at hl 4 rfl) ?_
      refine lv_iload hx hb d_Rec_read_60 (lv_at hl 2 rfl) ?_
      obtain ⟨r6, hc, hf⟩ := pu_b1_some hf
      refine cl_i (WC := []) (WC2 := []) (WR := [(q_this, .inr (2, [.ref q_bytes, .int v_length, .ref q_codes, .ref q_starts, .int v_count])), (q_bytes, .inl (cB, 307, .inl v_bytes)), (q_p1, .inr (0, [.ref q_p1_bytes, .int v_p1_count])), (q_p1_bytes, .inl (cB, 1536, .inl v_p1_bytes)), (q_p2, .inr (3, [.ref q_p2_bytes, .ref q_p2_starts, .ref q_p2_sizes, .int v_p2_count, .int v_p2_last, .int v_p2_leaf])), (q_p2_bytes, .inl (cB, 96, .inl v_p2_bytes)), (q_p2_starts, .inl (cI, 31, .inl v_p2_starts)), (q_p2_sizes, .inl (cI, 31, .inl v_p2_sizes))]) (WS2 := [(q_this, .inr (2, [.ref q_bytes, .int v_length, .ref q_codes, .ref q_starts, .int v_count])), (q_bytes, .inl (cB, 307, .inl v_bytes)), (q_p1, .inr (0, [.ref q_p1_bytes, .int v_p1_count])), (q_p1_bytes, .inl (cB, 1536, .inl v_p1_bytes)), (q_p2, .inr (3, [.ref q_p2_bytes, .ref q_p2_starts, .ref q_p2_sizes, .int v_p2_count, .int v_p2_last, .int v_p2_leaf])), (q_p2_bytes, .inl (cB, 96, .inl v_p2_bytes)), (q_p2_starts, .inl (cI, 31, .inl v_p2_starts)), (q_p2_sizes, .inl (cI, 31, .inl v_p2_sizes))]) (pu_rsn (List.mem_of_getElem? (i := 43) rfl) (pu_in4 _ (List.mem_of_getElem? (i := 27) rfl)) (pu_in0 _ (List.mem_of_getElem? (i := 1) rfl)) (pu_in4 _ (List.mem_of_getElem? (i := 28) rfl)) hd_RF_chainPages (by decide) ⟨rfl, rfl⟩ rfl rfl (Nat.le_of_ble_eq_true rfl) (As := [.int x_4]) (rest := [.int x_6]) (WC := []) hx hb hml hown hts hN hK hP hD (c_RF_chainPages l D cI cJ cB cZ H.size x_4 r6 hc) [] rfl rfl hl.1 d_Rec_read_62) hP hD hS hA [] [0, 1, 2, 3, 4, 5, 6, 7] [0, 1, 2, 3, 4, 5, 6, 7] rfl rfl rfl (by decide) rfl rfl (fun H locs hP hD hS => ?_)
      refine lv_icmp_ge (tgt := 124) hx hb d_Rec_read_65 rfl (fun hc => ?_) (fun hc => ?_)
      · have hf := pu_br_pos hf hc
        exact hret _ _ _ _ v_length v_bytes d_Rec_read_124 hP hD hS hf
      have hf := pu_br_neg hf hc
      refine lv_bipush (v := 63) hx hb d_Rec_read_68 rfl ?_
      refine lv_iload hx hb d_Rec_read_70 (lv_at hl 2 rfl) ?_
      refine lv_aload_n hx hb d_Rec_read_72 rfl (lv_at hl 0 rfl) ?_
      refine gf_Rec_37 (v := .int v_length) hx hb hts hN hown hK hP 0 rfl rfl d_Rec_read_73 ?_
      refine lv_isub hx hb d_Rec_read_76 ?_
      obtain ⟨t7, e_t7, hf⟩ := pu_nm_some hf
      refine va_mmin hx hb (hml.trans hl.1.symm) hown (hts _ (pu_in7 _ (List.mem_of_getElem? (i := 57) rfl))) (hts _ (pu_in6 _ (List.mem_of_getElem? (i := 39) rfl))) (hts _ (pu_in0 _ (List.mem_of_getElem? (i := 12) rfl))) (hts _ (pu_in6 _ (List.mem_of_getElem? (i := 40) rfl))) (Nat.le_of_ble_eq_true rfl) (Nat.le_of_ble_eq_true rfl) (Nat.zero_le _) (Nat.zero_le _) d_Rec_read_77 ?_
      refine pu_ti e_t7 ?_
      refine lv_istore hx hb d_Rec_read_80 hl (by decide) rfl (fun ls hl => ?_)
      have hl : lv_has ls 8 [(7, .int t7), (0, .ref q_this), (1, .ref q_p1), (4, .int x_4), (5, .int x_5), (6, .int x_6)] := hl
      refine lv_aload_n hx hb d_Rec_read_82 rfl (lv_at hl 2 rfl) ?_
      refine lv_iload hx hb d_Rec_read_83 (lv_at hl 4 rfl) ?_
      refine lv_aload_n hx hb d_Rec_read_85 rfl (lv_at hl 1 rfl) ?_
      refine gf_Rec_9 (v := .ref q_bytes) hx hb hts hN hown hK hP 0 rfl rfl d_Rec_read_86 ?_
      refine lv_aload_n hx hb d_Rec_read_89 rfl (lv_at hl 1 rfl) ?_
      refine gf_Rec_37 (v := .int v_length) hx hb hts hN hown hK hP 0 rfl rfl d_Rec_read_90 ?_
      refine lv_iload hx hb d_Rec_read_93 (lv_at hl 0 rfl) ?_
      obtain ⟨w9, hc, hf⟩ := pu_b1_some hf
      refine cl_v (WC := [(q_p1, .inr (0, [.ref q_p1_bytes, .int v_p1_count])), (q_p1_bytes, .inl (cB, 1536, .inl v_p1_bytes)), (q_bytes, .inl (cB, 307, .inl v_bytes))]) (WC2 := [(q_p1, .inr (0, [.ref q_p1_bytes, .int v_p1_count])), (q_p1_bytes, .inl (cB, 1536, .inl v_p1_bytes)), (q_bytes, .inl (cB, 307, .inl w9))]) (WR := [(q_this, .inr (2, [.ref q_bytes, .int v_length, .ref q_codes, .ref q_starts, .int v_count])), (q_p2, .inr (3, [.ref q_p2_bytes, .ref q_p2_starts, .ref q_p2_sizes, .int v_p2_count, .int v_p2_last, .int v_p2_leaf])), (q_p2_bytes, .inl (cB, 96, .inl v_p2_bytes)), (q_p2_starts, .inl (cI, 31, .inl v_p2_starts)), (q_p2_sizes, .inl (cI, 31, .inl v_p2_sizes))]) (WS2 := [(q_this, .inr (2, [.ref q_bytes, .int v_length, .ref q_codes, .ref q_starts, .int v_count])), (q_bytes, .inl (cB, 307, .inl w9)), (q_p1, .inr (0, [.ref q_p1_bytes, .int v_p1_count])), (q_p1_bytes, .inl (cB, 1536, .inl v_p1_bytes)), (q_p2, .inr (3, [.ref q_p2_bytes, .ref q_p2_starts, .ref q_p2_sizes, .int v_p2_count, .int v_p2_last, .int v_p2_leaf])), (q_p2_bytes, .inl (cB, 96, .inl v_p2_bytes)), (q_p2_starts, .inl (cI, 31, .inl v_p2_starts)), (q_p2_sizes, .inl (cI, 31, .inl v_p2_sizes))]) (pu_rv (cl := pu_cl) (pu_in7 _ (List.mem_of_getElem? (i := 58) rfl)) (pu_in7 _ (List.mem_of_getElem? (i := 59) rfl)) (pu_in7 _ (List.mem_of_getElem? (i := 60) rfl)) (pu_in0 _ (List.mem_of_getElem? (i := 3) rfl)) (pu_in7 _ (List.mem_of_getElem? (i := 61) rfl)) (ci := 0) rfl hd_Pages_copyOut (by decide) ⟨rfl, rfl⟩ rfl rfl (Nat.le_of_ble_eq_true rfl) rfl (As := [.int x_5, .ref q_bytes, .int v_length, .int t7]) (rest := []) (WC := [(q_p1, .inr (0, [.ref q_p1_bytes, .int v_p1_count])), (q_p1_bytes, .inl (cB, 1536, .inl v_p1_bytes)), (q_bytes, .inl (cB, 307, .inl v_bytes))]) hx hb hml hown hts hN hK hP hD (c_Pages_copyOut l D cI cJ cB cZ H.size q_p1 q_p1_bytes q_bytes 307 v_p1_count v_p1_bytes v_bytes x_5 v_length t7 w9 hc) [2, 3, 1] rfl rfl hl.1 d_Rec_read_95) hP hD hS hA [2, 3, 1] [0, 4, 5, 6, 7] [0, 7, 5, 6, 1, 2, 3, 4] rfl rfl rfl (by decide) rfl rfl (fun H locs hP hD hS => ?_)
      refine lv_aload_n hx hb d_Rec_read_98 rfl (lv_at hl 1 rfl) ?_
      refine lv_dup hx hb d_Rec_read_99 rfl ?_
      refine gf_Rec_37 (v := .int v_length) hx hb hts hN hown hK hP 0 rfl rfl d_Rec_read_100 ?_
      refine lv_iload hx hb d_Rec_read_103 (lv_at hl 0 rfl) ?_
      refine lv_iadd hx hb d_Rec_read_105 ?_
      obtain ⟨t10, e_t10, hf⟩ := pu_nm_some hf
      refine pu_ti e_t10 ?_
      refine pf_Rec_37 (v := .int t10) hx hb hts hN hown hK hP hD hS 0 rfl rfl rfl (Nat.le_of_ble_eq_true rfl) d_Rec_read_106 (fun H locs hP hD hS => ?_)
      have hP : va_P D pu_cl [(q_this, .inr (2, [.ref q_bytes, .int t10, .ref q_codes, .ref q_starts, .int v_count])), (q_bytes, .inl (cB, 307, .inl w9)), (q_p1, .inr (0, [.ref q_p1_bytes, .int v_p1_count])), (q_p1_bytes, .inl (cB, 1536, .inl v_p1_bytes)), (q_p2, .inr (3, [.ref q_p2_bytes, .ref q_p2_starts, .ref q_p2_sizes, .int v_p2_count, .int v_p2_last, .int v_p2_leaf])), (q_p2_bytes, .inl (cB, 96, .inl v_p2_bytes)), (q_p2_starts, .inl (cI, 31, .inl v_p2_starts)), (q_p2_sizes, .inl (cI, 31, .inl v_p2_sizes))] H := hP
      have hD : va_D A [(q_this, .inr (2, [.ref q_bytes, .int t10, .ref q_codes, .ref q_starts, .int v_count])), (q_bytes, .inl (cB, 307, .inl w9)), (q_p1, .inr (0, [.ref q_p1_bytes, .int v_p1_count])), (q_p1_bytes, .inl (cB, 1536, .inl v_p1_bytes)), (q_p2, .inr (3, [.ref q_p2_bytes, .ref q_p2_starts, .ref q_p2_sizes, .int v_p2_count, .int v_p2_last, .int v_p2_leaf])), (q_p2_bytes, .inl (cB, 96, .inl v_p2_bytes)), (q_p2_starts, .inl (cI, 31, .inl v_p2_starts)), (q_p2_sizes, .inl (cI, 31, .inl v_p2_sizes))] := hD
      refine lv_aload_n hx hb d_Rec_read_109 rfl (lv_at hl 2 rfl) ?_
      refine lv_iload hx hb d_Rec_read_110 (lv_at hl 4 rfl) ?_
      refine lv_iconst (v := 0) hx hb d_Rec_read_112 rfl ?_
      obtain ⟨r11, hc, hf⟩ := pu_b1_some hf
      refine cl_i (WC := [(q_p1, .inr (0, [.ref q_p1_bytes, .int v_p1_count])), (q_p1_bytes, .inl (cB, 1536, .inl v_p1_bytes))]) (WC2 := [(q_p1, .inr (0, [.ref q_p1_bytes, .int v_p1_count])), (q_p1_bytes, .inl (cB, 1536, .inl v_p1_bytes))]) (WR := [(q_this, .inr (2, [.ref q_bytes, .int t10, .ref q_codes, .ref q_starts, .int v_count])), (q_bytes, .inl (cB, 307, .inl w9)), (q_p2, .inr (3, [.ref q_p2_bytes, .ref q_p2_starts, .ref q_p2_sizes, .int v_p2_count, .int v_p2_last, .int v_p2_leaf])), (q_p2_bytes, .inl (cB, 96, .inl v_p2_bytes)), (q_p2_starts, .inl (cI, 31, .inl v_p2_starts)), (q_p2_sizes, .inl (cI, 31, .inl v_p2_sizes))]) (WS2 := [(q_this, .inr (2, [.ref q_bytes, .int t10, .ref q_codes, .ref q_starts, .int v_count])), (q_bytes, .inl (cB, 307, .inl w9)), (q_p1, .inr (0, [.ref q_p1_bytes, .int v_p1_count])), (q_p1_bytes, .inl (cB, 1536, .inl v_p1_bytes)), (q_p2, .inr (3, [.ref q_p2_bytes, .ref q_p2_starts, .ref q_p2_sizes, .int v_p2_count, .int v_p2_last, .int v_p2_leaf])), (q_p2_bytes, .inl (cB, 96, .inl v_p2_bytes)), (q_p2_starts, .inl (cI, 31, .inl v_p2_starts)), (q_p2_sizes, .inl (cI, 31, .inl v_p2_sizes))]) (pu_rv (cl := pu_cl) (pu_in7 _ (List.mem_of_getElem? (i := 62) rfl)) (pu_in3 _ (List.mem_of_getElem? (i := 38) rfl)) (pu_in3 _ (List.mem_of_getElem? (i := 39) rfl)) (pu_in0 _ (List.mem_of_getElem? (i := 3) rfl)) (pu_in3 _ (List.mem_of_getElem? (i := 40) rfl)) (ci := 0) rfl hd_Pages_get (by decide) ⟨rfl, rfl⟩ rfl rfl (Nat.le_of_ble_eq_true rfl) rfl (As := [.int x_5, .int (0 : Int32)]) (rest := []) (WC := [(q_p1, .inr (0, [.ref q_p1_bytes, .int v_p1_count])), (q_p1_bytes, .inl (cB, 1536, .inl v_p1_bytes))]) hx hb hml hown hts hN hK hP hD (c_Pages_get l D cI cJ cB cZ H.size q_p1 q_p1_bytes v_p1_count v_p1_bytes x_5 (0 : Int32) r11 hc) [2, 3] rfl rfl hl.1 d_Rec_read_113) hP hD hS hA [2, 3] [0, 1, 4, 5, 6, 7] [0, 1, 6, 7, 2, 3, 4, 5] rfl rfl rfl (by decide) rfl rfl (fun H locs hP hD hS => ?_)
      refine lv_istore hx hb d_Rec_read_116 hl (by decide) rfl (fun ls hl => ?_)
      have hl : lv_has ls 8 [(5, .int r11), (7, .int t7), (0, .ref q_this), (1, .ref q_p1), (4, .int x_4), (6, .int x_6)] := hl
      obtain ⟨t12, e_t12, hf⟩ := pu_nm_some hf
      refine lv_iinc (k := 5) (v := t12) hx hb d_Rec_read_118 hl rfl e_t12.symm (by decide) rfl (fun ls hl => ?_)
      have hl : lv_has ls 8 [(6, .int t12), (5, .int r11), (7, .int t7), (0, .ref q_this), (1, .ref q_p1), (4, .int x_4)] := hl
      refine lv_goto (tgt := 58) hx hb d_Rec_read_121 rfl ?_
      exact ih_58 t10 w9 r11 t12 H locs ls hP hD hS (lv_sub hl [3, 4, 5, 1, 0] rfl) hf
  obtain ⟨H, hH⟩ : ∃ H, H = s.heap := ⟨_, rfl⟩
  obtain ⟨locs, hlocs⟩ : ∃ locs : List Loc, locs = [] := ⟨_, rfl⟩
  have hP : va_P D pu_cl [(q_this, .inr (2, [.ref q_bytes, .int v_length, .ref q_codes, .ref q_starts, .int v_count])), (q_bytes, .inl (cB, 307, .inl v_bytes)), (q_p1, .inr (0, [.ref q_p1_bytes, .int v_p1_count])), (q_p1_bytes, .inl (cB, 1536, .inl v_p1_bytes)), (q_p2, .inr (3, [.ref q_p2_bytes, .ref q_p2_starts, .ref q_p2_sizes, .int v_p2_count, .int v_p2_last, .int v_p2_leaf])), (q_p2_bytes, .inl (cB, 96, .inl v_p2_bytes)), (q_p2_starts, .inl (cI, 31, .inl v_p2_starts)), (q_p2_sizes, .inl (cI, 31, .inl v_p2_sizes))] H := by rw [hH]; exact hP
  have hS : va_S A s.heap H locs := by rw [hH, hlocs]; exact hS
  have goal : W p l e rm_Rec_read s m args below meth c H locs 0 0 Q (F0 m 0 ls []) := by
    clear hH hlocs
    refine lv_aload_n hx hb d_Rec_read_0 rfl (lv_at hl 2 rfl) ?_
    refine lv_iload_n hx hb d_Rec_read_1 rfl (lv_at hl 3 rfl) ?_
    obtain ⟨r1, hc, hf⟩ := pu_b1_some hf
    refine cl_i (WC := [(q_p2, .inr (3, [.ref q_p2_bytes, .ref q_p2_starts, .ref q_p2_sizes, .int v_p2_count, .int v_p2_last, .int v_p2_leaf])), (q_p2_bytes, .inl (cB, 96, .inl v_p2_bytes)), (q_p2_starts, .inl (cI, 31, .inl v_p2_starts)), (q_p2_sizes, .inl (cI, 31, .inl v_p2_sizes))]) (WC2 := [(q_p2, .inr (3, [.ref q_p2_bytes, .ref q_p2_starts, .ref q_p2_sizes, .int v_p2_count, .int v_p2_last, .int v_p2_leaf])), (q_p2_bytes, .inl (cB, 96, .inl v_p2_bytes)), (q_p2_starts, .inl (cI, 31, .inl v_p2_starts)), (q_p2_sizes, .inl (cI, 31, .inl v_p2_sizes))]) (WR := [(q_this, .inr (2, [.ref q_bytes, .int v_length, .ref q_codes, .ref q_starts, .int v_count])), (q_bytes, .inl (cB, 307, .inl v_bytes)), (q_p1, .inr (0, [.ref q_p1_bytes, .int v_p1_count])), (q_p1_bytes, .inl (cB, 1536, .inl v_p1_bytes))]) (WS2 := [(q_this, .inr (2, [.ref q_bytes, .int v_length, .ref q_codes, .ref q_starts, .int v_count])), (q_bytes, .inl (cB, 307, .inl v_bytes)), (q_p1, .inr (0, [.ref q_p1_bytes, .int v_p1_count])), (q_p1_bytes, .inl (cB, 1536, .inl v_p1_bytes)), (q_p2, .inr (3, [.ref q_p2_bytes, .ref q_p2_starts, .ref q_p2_sizes, .int v_p2_count, .int v_p2_last, .int v_p2_leaf])), (q_p2_bytes, .inl (cB, 96, .inl v_p2_bytes)), (q_p2_starts, .inl (cI, 31, .inl v_p2_starts)), (q_p2_sizes, .inl (cI, 31, .inl v_p2_sizes))]) (pu_rv (cl := pu_cl) (pu_in7 _ (List.mem_of_getElem? (i := 51) rfl)) (pu_in3 _ (List.mem_of_getElem? (i := 61) rfl)) (pu_in3 _ (List.mem_of_getElem? (i := 62) rfl)) (pu_in0 _ (List.mem_of_getElem? (i := 6) rfl)) (pu_in3 _ (List.mem_of_getElem? (i := 63) rfl)) (ci := 3) rfl hd_Node_recordLength (by decide) ⟨rfl, rfl⟩ rfl rfl (Nat.le_of_ble_eq_true rfl) rfl (As := [.int x_3]) (rest := []) (WC := [(q_p2, .inr (3, [.ref q_p2_bytes, .ref q_p2_starts, .ref q_p2_sizes, .int v_p2_count, .int v_p2_last, .int v_p2_leaf])), (q_p2_bytes, .inl (cB, 96, .inl v_p2_bytes)), (q_p2_starts, .inl (cI, 31, .inl v_p2_starts)), (q_p2_sizes, .inl (cI, 31, .inl v_p2_sizes))]) hx hb hml hown hts hN hK hP hD (c_Node_recordLength l D cI cJ cB cZ H.size q_p2 q_p2_bytes q_p2_starts q_p2_sizes v_p2_count v_p2_last v_p2_leaf v_p2_bytes v_p2_starts v_p2_sizes x_3 r1 hc) [4, 5, 6, 7] rfl rfl hl.1 d_Rec_read_2) hP hD hS hA [4, 5, 6, 7] [0, 1, 2, 3] [0, 1, 2, 3, 4, 5, 6, 7] rfl rfl rfl (by decide) rfl rfl (fun H locs hP hD hS => ?_)
    refine lv_istore hx hb d_Rec_read_5 hl (by decide) rfl (fun ls hl => ?_)
    have hl : lv_has ls 8 [(4, .int r1), (0, .ref q_this), (1, .ref q_p1), (2, .ref q_p2), (3, .int x_3)] := hl
    refine lv_aload_n hx hb d_Rec_read_7 rfl (lv_at hl 1 rfl) ?_
    refine lv_iconst (v := 0) hx hb d_Rec_read_8 rfl ?_
    refine pf_Rec_37 (v := .int (0 : Int32)) hx hb hts hN hown hK hP hD hS 0 rfl rfl rfl (Nat.le_of_ble_eq_true rfl) d_Rec_read_9 (fun H locs hP hD hS => ?_)
    have hP : va_P D pu_cl [(q_this, .inr (2, [.ref q_bytes, .int (0 : Int32), .ref q_codes, .ref q_starts, .int v_count])), (q_bytes, .inl (cB, 307, .inl v_bytes)), (q_p1, .inr (0, [.ref q_p1_bytes, .int v_p1_count])), (q_p1_bytes, .inl (cB, 1536, .inl v_p1_bytes)), (q_p2, .inr (3, [.ref q_p2_bytes, .ref q_p2_starts, .ref q_p2_sizes, .int v_p2_count, .int v_p2_last, .int v_p2_leaf])), (q_p2_bytes, .inl (cB, 96, .inl v_p2_bytes)), (q_p2_starts, .inl (cI, 31, .inl v_p2_starts)), (q_p2_sizes, .inl (cI, 31, .inl v_p2_sizes))] H := hP
    have hD : va_D A [(q_this, .inr (2, [.ref q_bytes, .int (0 : Int32), .ref q_codes, .ref q_starts, .int v_count])), (q_bytes, .inl (cB, 307, .inl v_bytes)), (q_p1, .inr (0, [.ref q_p1_bytes, .int v_p1_count])), (q_p1_bytes, .inl (cB, 1536, .inl v_p1_bytes)), (q_p2, .inr (3, [.ref q_p2_bytes, .ref q_p2_starts, .ref q_p2_sizes, .int v_p2_count, .int v_p2_last, .int v_p2_leaf])), (q_p2_bytes, .inl (cB, 96, .inl v_p2_bytes)), (q_p2_starts, .inl (cI, 31, .inl v_p2_starts)), (q_p2_sizes, .inl (cI, 31, .inl v_p2_sizes))] := hD
    refine lv_iload hx hb d_Rec_read_12 (lv_at hl 0 rfl) ?_
    refine lv_if_lt (tgt := 25) hx hb d_Rec_read_14 rfl (fun hc => ?_) (fun hc => ?_)
    · have hf := pu_br_pos hf hc
      exact hret _ _ _ _ (0 : Int32) v_bytes d_Rec_read_25 hP hD hS hf
    have hf := pu_br_neg hf hc
    refine lv_iload hx hb d_Rec_read_17 (lv_at hl 0 rfl) ?_
    refine lv_sipush (v := 307) hx hb d_Rec_read_19 rfl ?_
    refine lv_icmp_le (tgt := 26) hx hb d_Rec_read_22 rfl (fun hc => ?_) (fun hc => ?_)
    · have hf := pu_br_pos hf hc
      refine lv_aload_n hx hb d_Rec_read_26 rfl (lv_at hl 1 rfl) ?_
      refine lv_iload hx hb d_Rec_read_27 (lv_at hl 0 rfl) ?_
      obtain ⟨r2, hc, hf⟩ := pu_b1_some hf
      refine cl_i (WC := []) (WC2 := []) (WR := [(q_this, .inr (2, [.ref q_bytes, .int (0 : Int32), .ref q_codes, .ref q_starts, .int v_count])), (q_bytes, .inl (cB, 307, .inl v_bytes)), (q_p1, .inr (0, [.ref q_p1_bytes, .int v_p1_count])), (q_p1_bytes, .inl (cB, 1536, .inl v_p1_bytes)), (q_p2, .inr (3, [.ref q_p2_bytes, .ref q_p2_starts, .ref q_p2_sizes, .int v_p2_count, .int v_p2_last, .int v_p2_leaf])), (q_p2_bytes, .inl (cB, 96, .inl v_p2_bytes)), (q_p2_starts, .inl (cI, 31, .inl v_p2_starts)), (q_p2_sizes, .inl (cI, 31, .inl v_p2_sizes))]) (WS2 := [(q_this, .inr (2, [.ref q_bytes, .int (0 : Int32), .ref q_codes, .ref q_starts, .int v_count])), (q_bytes, .inl (cB, 307, .inl v_bytes)), (q_p1, .inr (0, [.ref q_p1_bytes, .int v_p1_count])), (q_p1_bytes, .inl (cB, 1536, .inl v_p1_bytes)), (q_p2, .inr (3, [.ref q_p2_bytes, .ref q_p2_starts, .ref q_p2_sizes, .int v_p2_count, .int v_p2_last, .int v_p2_leaf])), (q_p2_bytes, .inl (cB, 96, .inl v_p2_bytes)), (q_p2_starts, .inl (cI, 31, .inl v_p2_starts)), (q_p2_sizes, .inl (cI, 31, .inl v_p2_sizes))]) (pu_rsn (List.mem_of_getElem? (i := 42) rfl) (pu_in4 _ (List.mem_of_getElem? (i := 30) rfl)) (pu_in0 _ (List.mem_of_getElem? (i := 1) rfl)) (pu_in4 _ (List.mem_of_getElem? (i := 31) rfl)) hd_RF_sizeInLeaf (by decide) ⟨rfl, rfl⟩ rfl rfl (Nat.le_of_ble_eq_true rfl) (As := [.int r1]) (rest := [.ref q_this]) (WC := []) hx hb hml hown hts hN hK hP hD (c_RF_sizeInLeaf l D cI cJ cB cZ H.size r1 r2 hc) [] rfl rfl hl.1 d_Rec_read_29) hP hD hS hA [] [0, 1, 2, 3, 4, 5, 6, 7] [0, 1, 2, 3, 4, 5, 6, 7] rfl rfl rfl (by decide) rfl rfl (fun H locs hP hD hS => ?_)
      refine pf_Rec_37 (v := .int r2) hx hb hts hN hown hK hP hD hS 0 rfl rfl rfl (Nat.le_of_ble_eq_true rfl) d_Rec_read_32 (fun H locs hP hD hS => ?_)
      have hP : va_P D pu_cl [(q_this, .inr (2, [.ref q_bytes, .int r2, .ref q_codes, .ref q_starts, .int v_count])), (q_bytes, .inl (cB, 307, .inl v_bytes)), (q_p1, .inr (0, [.ref q_p1_bytes, .int v_p1_count])), (q_p1_bytes, .inl (cB, 1536, .inl v_p1_bytes)), (q_p2, .inr (3, [.ref q_p2_bytes, .ref q_p2_starts, .ref q_p2_sizes, .int v_p2_count, .int v_p2_last, .int v_p2_leaf])), (q_p2_bytes, .inl (cB, 96, .inl v_p2_bytes)), (q_p2_starts, .inl (cI, 31, .inl v_p2_starts)), (q_p2_sizes, .inl (cI, 31, .inl v_p2_sizes))] H := hP
      have hD : va_D A [(q_this, .inr (2, [.ref q_bytes, .int r2, .ref q_codes, .ref q_starts, .int v_count])), (q_bytes, .inl (cB, 307, .inl v_bytes)), (q_p1, .inr (0, [.ref q_p1_bytes, .int v_p1_count])), (q_p1_bytes, .inl (cB, 1536, .inl v_p1_bytes)), (q_p2, .inr (3, [.ref q_p2_bytes, .ref q_p2_starts, .ref q_p2_sizes, .int v_p2_count, .int v_p2_last, .int v_p2_leaf])), (q_p2_bytes, .inl (cB, 96, .inl v_p2_bytes)), (q_p2_starts, .inl (cI, 31, .inl v_p2_starts)), (q_p2_sizes, .inl (cI, 31, .inl v_p2_sizes))] := hD
      refine lv_aload_n hx hb d_Rec_read_35 rfl (lv_at hl 3 rfl) ?_
      refine lv_iload_n hx hb d_Rec_read_36 rfl (lv_at hl 4 rfl) ?_
      refine lv_iload hx hb d_Rec_read_37 (lv_at hl 0 rfl) ?_
      refine lv_aload_n hx hb d_Rec_read_39 rfl (lv_at hl 1 rfl) ?_
      refine gf_Rec_9 (v := .ref q_bytes) hx hb hts hN hown hK hP 0 rfl rfl d_Rec_read_40 ?_
      obtain ⟨w4, hc, hf⟩ := pu_b1_some hf
      refine cl_v (WC := [(q_p2, .inr (3, [.ref q_p2_bytes, .ref q_p2_starts, .ref q_p2_sizes, .int v_p2_count, .int v_p2_last, .int v_p2_leaf])), (q_p2_bytes, .inl (cB, 96, .inl v_p2_bytes)), (q_p2_starts, .inl (cI, 31, .inl v_p2_starts)), (q_p2_sizes, .inl (cI, 31, .inl v_p2_sizes)), (q_bytes, .inl (cB, 307, .inl v_bytes))]) (WC2 := [(q_p2, .inr (3, [.ref q_p2_bytes, .ref q_p2_starts, .ref q_p2_sizes, .int v_p2_count, .int v_p2_last, .int v_p2_leaf])), (q_p2_bytes, .inl (cB, 96, .inl v_p2_bytes)), (q_p2_starts, .inl (cI, 31, .inl v_p2_starts)), (q_p2_sizes, .inl (cI, 31, .inl v_p2_sizes)), (q_bytes, .inl (cB, 307, .inl w4))]) (WR := [(q_this, .inr (2, [.ref q_bytes, .int r2, .ref q_codes, .ref q_starts, .int v_count])), (q_p1, .inr (0, [.ref q_p1_bytes, .int v_p1_count])), (q_p1_bytes, .inl (cB, 1536, .inl v_p1_bytes))]) (WS2 := [(q_this, .inr (2, [.ref q_bytes, .int r2, .ref q_codes, .ref q_starts, .int v_count])), (q_bytes, .inl (cB, 307, .inl w4)), (q_p1, .inr (0, [.ref q_p1_bytes, .int v_p1_count])), (q_p1_bytes, .inl (cB, 1536, .inl v_p1_bytes)), (q_p2, .inr (3, [.ref q_p2_bytes, .ref q_p2_starts, .ref q_p2_sizes, .int v_p2_count, .int v_p2_last, .int v_p2_leaf])), (q_p2_bytes, .inl (cB, 96, .inl v_p2_bytes)), (q_p2_starts, .inl (cI, 31, .inl v_p2_starts)), (q_p2_sizes, .inl (cI, 31, .inl v_p2_sizes))]) (pu_rv (cl := pu_cl) (pu_in7 _ (List.mem_of_getElem? (i := 52) rfl)) (pu_in7 _ (List.mem_of_getElem? (i := 53) rfl)) (pu_in7 _ (List.mem_of_getElem? (i := 54) rfl)) (pu_in0 _ (List.mem_of_getElem? (i := 6) rfl)) (pu_in7 _ (List.mem_of_getElem? (i := 55) rfl)) (ci := 3) rfl hd_Node_copyRecord (by decide) ⟨rfl, rfl⟩ rfl rfl (Nat.le_of_ble_eq_true rfl) rfl (As := [.int x_3, .int r1, .ref q_bytes]) (rest := []) (WC := [(q_p2, .inr (3, [.ref q_p2_bytes, .ref q_p2_starts, .ref q_p2_sizes, .int v_p2_count, .int v_p2_last, .int v_p2_leaf])), (q_p2_bytes, .inl (cB, 96, .inl v_p2_bytes)), (q_p2_starts, .inl (cI, 31, .inl v_p2_starts)), (q_p2_sizes, .inl (cI, 31, .inl v_p2_sizes)), (q_bytes, .inl (cB, 307, .inl v_bytes))]) hx hb hml hown hts hN hK hP hD (c_Node_copyRecord l D cI cJ cB cZ H.size q_p2 q_p2_bytes q_p2_starts q_p2_sizes q_bytes 307 v_p2_count v_p2_last v_p2_leaf v_p2_bytes v_p2_starts v_p2_sizes v_bytes x_3 r1 w4 hc) [4, 5, 6, 7, 1] rfl rfl hl.1 d_Rec_read_43) hP hD hS hA [4, 5, 6, 7, 1] [0, 2, 3] [0, 7, 1, 2, 3, 4, 5, 6] rfl rfl rfl (by decide) rfl rfl (fun H locs hP hD hS => ?_)
      refine lv_aload_n hx hb d_Rec_read_46 rfl (lv_at hl 3 rfl) ?_
      refine lv_iload_n hx hb d_Rec_read_47 rfl (lv_at hl 4 rfl) ?_
      refine lv_iload hx hb d_Rec_read_48 (lv_at hl 0 rfl) ?_
      obtain ⟨r5, hc, hf⟩ := pu_b1_some hf
      refine cl_i (WC := [(q_p2, .inr (3, [.ref q_p2_bytes, .ref q_p2_starts, .ref q_p2_sizes, .int v_p2_count, .int v_p2_last, .int v_p2_leaf])), (q_p2_bytes, .inl (cB, 96, .inl v_p2_bytes)), (q_p2_starts, .inl (cI, 31, .inl v_p2_starts)), (q_p2_sizes, .inl (cI, 31, .inl v_p2_sizes))]) (WC2 := [(q_p2, .inr (3, [.ref q_p2_bytes, .ref q_p2_starts, .ref q_p2_sizes, .int v_p2_count, .int v_p2_last, .int v_p2_leaf])), (q_p2_bytes, .inl (cB, 96, .inl v_p2_bytes)), (q_p2_starts, .inl (cI, 31, .inl v_p2_starts)), (q_p2_sizes, .inl (cI, 31, .inl v_p2_sizes))]) (WR := [(q_this, .inr (2, [.ref q_bytes, .int r2, .ref q_codes, .ref q_starts, .int v_count])), (q_bytes, .inl (cB, 307, .inl w4)), (q_p1, .inr (0, [.ref q_p1_bytes, .int v_p1_count])), (q_p1_bytes, .inl (cB, 1536, .inl v_p1_bytes))]) (WS2 := [(q_this, .inr (2, [.ref q_bytes, .int r2, .ref q_codes, .ref q_starts, .int v_count])), (q_bytes, .inl (cB, 307, .inl w4)), (q_p1, .inr (0, [.ref q_p1_bytes, .int v_p1_count])), (q_p1_bytes, .inl (cB, 1536, .inl v_p1_bytes)), (q_p2, .inr (3, [.ref q_p2_bytes, .ref q_p2_starts, .ref q_p2_sizes, .int v_p2_count, .int v_p2_last, .int v_p2_leaf])), (q_p2_bytes, .inl (cB, 96, .inl v_p2_bytes)), (q_p2_starts, .inl (cI, 31, .inl v_p2_starts)), (q_p2_sizes, .inl (cI, 31, .inl v_p2_sizes))]) (pu_rv (cl := pu_cl) (pu_in7 _ (List.mem_of_getElem? (i := 56) rfl)) (pu_in5 _ (List.mem_of_getElem? (i := 30) rfl)) (pu_in5 _ (List.mem_of_getElem? (i := 31) rfl)) (pu_in0 _ (List.mem_of_getElem? (i := 6) rfl)) (pu_in5 _ (List.mem_of_getElem? (i := 32) rfl)) (ci := 3) rfl hd_Node_chainStart (by decide) ⟨rfl, rfl⟩ rfl rfl (Nat.le_of_ble_eq_true rfl) rfl (As := [.int x_3, .int r1]) (rest := []) (WC := [(q_p2, .inr (3, [.ref q_p2_bytes, .ref q_p2_starts, .ref q_p2_sizes, .int v_p2_count, .int v_p2_last, .int v_p2_leaf])), (q_p2_bytes, .inl (cB, 96, .inl v_p2_bytes)), (q_p2_starts, .inl (cI, 31, .inl v_p2_starts)), (q_p2_sizes, .inl (cI, 31, .inl v_p2_sizes))]) hx hb hml hown hts hN hK hP hD (c_Node_chainStart l D cI cJ cB cZ H.size q_p2 q_p2_bytes q_p2_starts q_p2_sizes v_p2_count v_p2_last v_p2_leaf v_p2_bytes v_p2_starts v_p2_sizes x_3 r1 r5 hc) [4, 5, 6, 7] rfl rfl hl.1 d_Rec_read_50) hP hD hS hA [4, 5, 6, 7] [0, 1, 2, 3] [0, 1, 2, 3, 4, 5, 6, 7] rfl rfl rfl (by decide) rfl rfl (fun H locs hP hD hS => ?_)
      refine lv_istore hx hb d_Rec_read_53 hl (by decide) rfl (fun ls hl => ?_)
      have hl : lv_has ls 8 [(5, .int r5), (4, .int r1), (0, .ref q_this), (1, .ref q_p1), (2, .ref q_p2), (3, .int x_3)] := hl
      refine lv_iconst (v := 0) hx hb d_Rec_read_55 rfl ?_
      refine lv_istore hx hb d_Rec_read_56 hl (by decide) rfl (fun ls hl => ?_)
      have hl : lv_has ls 8 [(6, .int (0 : Int32)), (5, .int r5), (4, .int r1), (0, .ref q_this), (1, .ref q_p1), (2, .ref q_p2), (3, .int x_3)] := hl
      exact lp_58 r1 _ r2 w4 r5 (0 : Int32) H locs ls hP hD hS (lv_sub hl [3, 4, 2, 1, 0] rfl) hf
    have hf := pu_br_neg hf hc
    exact hret _ _ _ _ (0 : Int32) v_bytes d_Rec_read_25 hP hD hS hf
  rw [hH, hlocs] at goal
  exact goal
theorem d_Rec_decodeCodes_0 : decode b_Rec_decodeCodes 0 = .ok (.iconst 1, 1) := by decide +kernel
theorem d_Rec_decodeCodes_1 : decode b_Rec_decodeCodes 1 = .ok (.istore_n 2, 1) := by decide +kernel
theorem d_Rec_decodeCodes_2 : decode b_Rec_decodeCodes 2 = .ok (.aload_n 0, 1) := by decide +kernel
theorem d_Rec_decodeCodes_3 : decode b_Rec_decodeCodes 3 = .ok (.iconst 0, 1) := by decide +kernel
theorem d_Rec_decodeCodes_4 : decode b_Rec_decodeCodes 4 = .ok (.putfield 96, 3) := by decide +kernel
theorem d_Rec_decodeCodes_7 : decode b_Rec_decodeCodes 7 = .ok (.iconst 0, 1) := by decide +kernel
theorem d_Rec_decodeCodes_8 : decode b_Rec_decodeCodes 8 = .ok (.istore_n 3, 1) := by decide +kernel
theorem d_Rec_decodeCodes_9 : decode b_Rec_decodeCodes 9 = .ok (.iload_n 3, 1) := by decide +kernel
theorem d_Rec_decodeCodes_10 : decode b_Rec_decodeCodes 10 = .ok (.iconst 3, 1) := by decide +kernel
theorem d_Rec_decodeCodes_11 : decode b_Rec_decodeCodes 11 = .ok (.if_icmp .ge 61, 3) := by decide +kernel
theorem d_Rec_decodeCodes_14 : decode b_Rec_decodeCodes 14 = .ok (.iload_n 2, 1) := by decide +kernel
theorem d_Rec_decodeCodes_15 : decode b_Rec_decodeCodes 15 = .ok (.iload_n 1, 1) := by decide +kernel
theorem d_Rec_decodeCodes_16 : decode b_Rec_decodeCodes 16 = .ok (.if_icmp .ge 56, 3) := by decide +kernel
theorem d_Rec_decodeCodes_19 : decode b_Rec_decodeCodes 19 = .ok (.aload_n 0, 1) := by decide +kernel
theorem d_Rec_decodeCodes_20 : decode b_Rec_decodeCodes 20 = .ok (.getfield 9, 3) := by decide +kernel
theorem d_Rec_decodeCodes_23 : decode b_Rec_decodeCodes 23 = .ok (.iload_n 2, 1) := by decide +kernel
theorem d_Rec_decodeCodes_24 : decode b_Rec_decodeCodes 24 = .ok (.iload_n 1, 1) := by decide +kernel
theorem d_Rec_decodeCodes_25 : decode b_Rec_decodeCodes 25 = .ok (.invokestatic 105, 3) := by decide +kernel
theorem d_Rec_decodeCodes_28 : decode b_Rec_decodeCodes 28 = .ok (.istore 4, 2) := by decide +kernel
theorem d_Rec_decodeCodes_30 : decode b_Rec_decodeCodes 30 = .ok (.iload 4, 2) := by decide +kernel
theorem d_Rec_decodeCodes_32 : decode b_Rec_decodeCodes 32 = .ok (.invokestatic 44, 3) := by decide +kernel
theorem d_Rec_decodeCodes_35 : decode b_Rec_decodeCodes 35 = .ok (.ifCond .ge 5, 3) := by decide +kernel
theorem d_Rec_decodeCodes_38 : decode b_Rec_decodeCodes 38 = .ok (.iconst (-1), 1) := by decide +kernel
theorem d_Rec_decodeCodes_39 : decode b_Rec_decodeCodes 39 = .ok (.ireturn, 1) := by decide +kernel
theorem d_Rec_decodeCodes_40 : decode b_Rec_decodeCodes 40 = .ok (.aload_n 0, 1) := by decide +kernel
theorem d_Rec_decodeCodes_41 : decode b_Rec_decodeCodes 41 = .ok (.getfield 15, 3) := by decide +kernel
theorem d_Rec_decodeCodes_44 : decode b_Rec_decodeCodes 44 = .ok (.iload_n 3, 1) := by decide +kernel
theorem d_Rec_decodeCodes_45 : decode b_Rec_decodeCodes 45 = .ok (.iload 4, 2) := by decide +kernel
theorem d_Rec_decodeCodes_47 : decode b_Rec_decodeCodes 47 = .ok (.iastore, 1) := by decide +kernel
theorem d_Rec_decodeCodes_48 : decode b_Rec_decodeCodes 48 = .ok (.aload_n 0, 1) := by decide +kernel
theorem d_Rec_decodeCodes_49 : decode b_Rec_decodeCodes 49 = .ok (.dup, 1) := by decide +kernel
theorem d_Rec_decodeCodes_50 : decode b_Rec_decodeCodes 50 = .ok (.getfield 96, 3) := by decide +kernel
theorem d_Rec_decodeCodes_53 : decode b_Rec_decodeCodes 53 = .ok (.iconst 1, 1) := by decide +kernel
theorem d_Rec_decodeCodes_54 : decode b_Rec_decodeCodes 54 = .ok (.iadd, 1) := by decide +kernel
theorem d_Rec_decodeCodes_55 : decode b_Rec_decodeCodes 55 = .ok (.putfield 96, 3) := by decide +kernel
theorem d_Rec_decodeCodes_58 : decode b_Rec_decodeCodes 58 = .ok (.iload_n 2, 1) := by decide +kernel
theorem d_Rec_decodeCodes_59 : decode b_Rec_decodeCodes 59 = .ok (.iload 4, 2) := by decide +kernel
theorem d_Rec_decodeCodes_61 : decode b_Rec_decodeCodes 61 = .ok (.invokestatic 29, 3) := by decide +kernel
theorem d_Rec_decodeCodes_64 : decode b_Rec_decodeCodes 64 = .ok (.iadd, 1) := by decide +kernel
theorem d_Rec_decodeCodes_65 : decode b_Rec_decodeCodes 65 = .ok (.istore_n 2, 1) := by decide +kernel
theorem d_Rec_decodeCodes_66 : decode b_Rec_decodeCodes 66 = .ok (.iinc 3 1, 3) := by decide +kernel
theorem d_Rec_decodeCodes_69 : decode b_Rec_decodeCodes 69 = .ok (.goto (-60), 3) := by decide +kernel
theorem d_Rec_decodeCodes_72 : decode b_Rec_decodeCodes 72 = .ok (.iload_n 2, 1) := by decide +kernel
theorem d_Rec_decodeCodes_73 : decode b_Rec_decodeCodes 73 = .ok (.ireturn, 1) := by decide +kernel
noncomputable def q_Rec_decodeCodes_9 (v_bytes : Nat → Int32) (x_1 : Int32) : Nat → Int32 → (Nat → Int32) → Int32 → Int32 → Option (Int32 × Int32 × (Nat → Int32))
  | 0, _, _, _, _ => none
  | n + 1, v_count, v_codes, x_2, x_3 => pu_br ((3 : Int32) ≤ x_3) (some (x_2, v_count, v_codes)) (pu_br (x_1 ≤ x_2) (some (x_2, v_count, v_codes)) (pu_b1 (f_RF_readVarint 307 v_bytes x_2 x_1) (fun r1 => pu_b1 (f_RF_valueSize r1) (fun r2 => pu_br (0 ≤ r2) (pu_ck (vp_in x_3 3) (pu_nm (upd v_codes x_3.toNatClampNeg r1) (fun a3 => pu_nm (v_count + (1 : Int32)) (fun t4 => pu_b1 (f_RF_varintSize r1) (fun r5 => pu_nm (x_2 + r5) (fun t6 => pu_nm (x_3 + (1 : Int32)) (fun t7 => q_Rec_decodeCodes_9 v_bytes x_1 n t4 a3 t6 t7))))))) (some ((-1 : Int32), v_count, v_codes))))))
noncomputable def f_Rec_decodeCodes (v_bytes : Nat → Int32) (v_count : Int32) (v_codes : Nat → Int32) (x_1 : Int32) : Option (Int32 × Int32 × (Nat → Int32)) :=
  q_Rec_decodeCodes_9 v_bytes x_1 pu_fu (0 : Int32) v_codes (1 : Int32) (0 : Int32)
abbrev rm_Rec_decodeCodes : Room := { frames := 1, cells := 0, slots := 0, locals := 25 }
set_option maxHeartbeats 8000000 in
set_option maxRecDepth 100000 in
theorem c_Rec_decodeCodes (l : Launch) (D : va_G) (cI cJ cB cZ : ClassId) (sz : Nat) (q_this : Nat) (q_bytes : Nat) (q_codes : Nat) (q_starts : Nat) (v_length : Int32) (v_count : Int32) (v_bytes : Nat → Int32) (v_codes : Nat → Int32) (x_1 : Int32) (o_r : Int32) (o_count : Int32) (o_codes : Nat → Int32) (hf : f_Rec_decodeCodes v_bytes v_count v_codes x_1 = some (o_r, o_count, o_codes)) : Met l y_Rec_decodeCodes (.code y_Rec_decodeCodes b_Rec_decodeCodes 5 (some .int) :: pu_wA) rm_Rec_decodeCodes (pu_pc D pu_cl (pu_ty cI cJ cB cZ) [.ref q_this, .int x_1] [(q_this, .inr (2, [.ref q_bytes, .int v_length, .ref q_codes, .ref q_starts, .int v_count])), (q_bytes, .inl (cB, 307, .inl v_bytes)), (q_codes, .inl (cI, 3, .inl v_codes))] sz) (pu_qi D pu_cl (pu_ty cI cJ cB cZ) [(q_this, .inr (2, [.ref q_bytes, .int v_length, .ref q_codes, .ref q_starts, .int v_count])), (q_bytes, .inl (cB, 307, .inl v_bytes)), (q_codes, .inl (cI, 3, .inl v_codes))] [(q_this, .inr (2, [.ref q_bytes, .int v_length, .ref q_codes, .ref q_starts, .int o_count])), (q_bytes, .inl (cB, 307, .inl v_bytes)), (q_codes, .inl (cI, 3, .inl o_codes))] sz o_r) 0 0 (va_A [(q_this, .inr (2, [.ref q_bytes, .int v_length, .ref q_codes, .ref q_starts, .int v_count])), (q_bytes, .inl (cB, 307, .inl v_bytes)), (q_codes, .inl (cI, 3, .inl v_codes))] sz) := by
  refine pu_mti [.ref q_this, .int x_1] [(q_this, .inr (2, [.ref q_bytes, .int v_length, .ref q_codes, .ref q_starts, .int v_count])), (q_bytes, .inl (cB, 307, .inl v_bytes)), (q_codes, .inl (cI, 3, .inl v_codes))] [(q_this, .inr (2, [.ref q_bytes, .int v_length, .ref q_codes, .ref q_starts, .int o_count])), (q_bytes, .inl (cB, 307, .inl v_bytes)), (q_codes, .inl (cI, 3, .inl o_codes))] o_r (by decide) (Nat.le_of_ble_eq_true rfl) ?_
  intro p e s m args below meth c A Q ls hx hb hml hts hN hown hK hA hP hD hl hret0
  have hS : va_S A s.heap s.heap [] := va_S.rf
  have hl : lv_has ls 5 [(0, .ref q_this), (1, .int x_1)] := hl
  have hret : ∀ (pc : Nat) (ls : Array Slot) (H : Heap) (locs : List Loc) (y_0 : Int32) (y_1 : Int32) (y_2 : Nat → Int32), decode b_Rec_decodeCodes pc = .ok (.ireturn, 1) → va_P D pu_cl [(q_this, .inr (2, [.ref q_bytes, .int v_length, .ref q_codes, .ref q_starts, .int y_1])), (q_bytes, .inl (cB, 307, .inl v_bytes)), (q_codes, .inl (cI, 3, .inl y_2))] H → va_D A [(q_this, .inr (2, [.ref q_bytes, .int v_length, .ref q_codes, .ref q_starts, .int y_1])), (q_bytes, .inl (cB, 307, .inl v_bytes)), (q_codes, .inl (cI, 3, .inl y_2))] → va_S A s.heap H locs → some (y_0, y_1, y_2) = some (o_r, o_count, o_codes) → W p l e rm_Rec_decodeCodes s m args below meth c H locs 0 0 Q (F0 m pc ls [.int y_0]) := by
    intro pc ls H locs y_0 y_1 y_2 hd hP hD hS hf
    cases hf
    exact hret0 pc ls H locs hd hP hD hS
  clear hret0
  unfold f_Rec_decodeCodes at hf
  skip
  have lp_9 : ∀ (x_1 : Int32) (n9 : Nat) (v_count : Int32) (v_codes : Nat → Int32) (x_2 : Int32) (x_3 : Int32) (H : Heap) (locs : List Loc) (ls : Array Slot), va_P D pu_cl [(q_this, .inr (2, [.ref q_bytes, .int v_length, .ref q_codes, .ref q_starts, .int v_count])), (q_bytes, .inl (cB, 307, .inl v_bytes)), (q_codes, .inl (cI, 3, .inl v_codes))] H → va_D A [(q_this, .inr (2, [.ref q_bytes, .int v_length, .ref q_codes, .ref q_starts, .int v_count])), (q_bytes, .inl (cB, 307, .inl v_bytes)), (q_codes, .inl (cI, 3, .inl v_codes))] → va_S A s.heap H locs → lv_has ls 5 [(0, .ref q_this), (1, .int x_1), (2, .int x_2), (3, .int x_3)] → q_Rec_decodeCodes_9 v_bytes x_1 n9 v_count v_codes x_2 x_3 = some (o_r, o_count, o_codes) → W p l e rm_Rec_decodeCodes s m args below meth c H locs 0 0 Q (F0 m 9 ls []) := by
    intro x_1 n9
    induction n9 with
    | zero =>
      intro v_count v_codes x_2 x_3 H locs ls hP hD hS hl hf
      rw [q_Rec_decodeCodes_9] at hf
      cases hf
    | succ n9 ih_9 =>
      intro v_count v_codes x_2 x_3 H locs ls hP hD hS hl hf
      rw [q_Rec_decodeCodes_9] at hf
      refine lv_iload_n hx hb d_Rec_decodeCodes_9 rfl (lv_at hl 3 rfl) ?_
      refine lv_iconst (v := 3) hx hb d_Rec_decodeCodes_10 rfl ?_
      refine lv_icmp_ge (tgt := 72) hx hb d_Rec_decodeCodes_11 rfl (fun hc => ?_) (fun hc => ?_)
      · have hf := pu_br_pos hf hc
        refine lv_iload_n hx hb d_Rec_decodeCodes_72 rfl (lv_at hl 2 rfl) ?_
        exact hret _ _ _ _ x_2 v_count v_codes d_Rec_decodeCodes_73 hP hD hS hf
      have hf := pu_br_neg hf hc
      refine lv_iload_n hx hb d_Rec_decodeCodes_14 rfl (lv_at hl 2 rfl) ?_
      refine lv_iload_n hx hb d_Rec_decodeCodes_15 rfl (lv_at hl 1 rfl) ?_
      refine lv_icmp_ge (tgt := 72) hx hb d_Rec_decodeCodes_16 rfl (fun hc => ?_) (fun hc => ?_)
      · have hf := pu_br_pos hf hc
        refine lv_iload_n hx hb d_Rec_decodeCodes_72 rfl (lv_at hl 2 rfl) ?_
        exact hret _ _ _ _ x_2 v_count v_codes d_Rec_decodeCodes_73 hP hD hS hf
      have hf := pu_br_neg hf hc
      refine lv_aload_n hx hb d_Rec_decodeCodes_19 rfl (lv_at hl 0 rfl) ?_
      refine gf_Rec_9 (v := .ref q_bytes) hx hb hts hN hown hK hP 0 rfl rfl d_Rec_decodeCodes_20 ?_
      refine lv_iload_n hx hb d_Rec_decodeCodes_23 rfl (lv_at hl 2 rfl) ?_
      refine lv_iload_n hx hb d_Rec_decodeCodes_24 rfl (lv_at hl 1 rfl) ?_
      obtain ⟨r1, hc, hf⟩ := pu_b1_some hf
      refine cl_i (WC := [(q_bytes, .inl (cB, 307, .inl v_bytes))]) (WC2 := [(q_bytes, .inl (cB, 307, .inl v_bytes))]) (WR := [(q_this, .inr (2, [.ref q_bytes, .int v_length, .ref q_codes, .ref q_starts, .int v_count])), (q_codes, .inl (cI, 3, .inl v_codes))]) (WS2 := [(q_this, .inr (2, [.ref q_bytes, .int v_length, .ref q_codes, .ref q_starts, .int v_count])), (q_bytes, .inl (cB, 307, .inl v_bytes)), (q_codes, .inl (cI, 3, .inl v_codes))]) (pu_rsn (List.mem_of_getElem? (i := 44) rfl) (pu_in4 _ (List.mem_of_getElem? (i := 0) rfl)) (pu_in0 _ (List.mem_of_getElem? (i := 1) rfl)) (pu_in4 _ (List.mem_of_getElem? (i := 1) rfl)) hd_RF_readVarint (by decide) ⟨rfl, rfl⟩ rfl rfl (Nat.le_of_ble_eq_true rfl) (As := [.ref q_bytes, .int x_2, .int x_1]) (rest := []) (WC := [(q_bytes, .inl (cB, 307, .inl v_bytes))]) hx hb hml hown hts hN hK hP hD (c_RF_readVarint l D cI cJ cB cZ H.size q_bytes 307 v_bytes x_2 x_1 r1 hc) [1] rfl rfl hl.1 d_Rec_decodeCodes_25) hP hD hS hA [1] [0, 2] [0, 2, 1] rfl rfl rfl (by decide) rfl rfl (fun H locs hP hD hS => ?_)
      refine lv_istore hx hb d_Rec_decodeCodes_28 hl (by decide) rfl (fun ls hl => ?_)
      have hl : lv_has ls 5 [(4, .int r1), (0, .ref q_this), (1, .int x_1), (2, .int x_2), (3, .int x_3)] := hl
      refine lv_iload hx hb d_Rec_decodeCodes_30 (lv_at hl 0 rfl) ?_
      obtain ⟨r2, hc, hf⟩ := pu_b1_some hf
      refine cl_i (WC := []) (WC2 := []) (WR := [(q_this, .inr (2, [.ref q_bytes, .int v_length, .ref q_codes, .ref q_starts, .int v_count])), (q_bytes, .inl (cB, 307, .inl v_bytes)), (q_codes, .inl (cI, 3, .inl v_codes))]) (WS2 := [(q_this, .inr (2, [.ref q_bytes, .int v_length, .ref q_codes, .ref q_starts, .int v_count])), (q_bytes, .inl (cB, 307, .inl v_bytes)), (q_codes, .inl (cI, 3, .inl v_codes))]) (pu_rsn (List.mem_of_getElem? (i := 35) rfl) (pu_in3 _ (List.mem_of_getElem? (i := 18) rfl)) (pu_in0 _ (List.mem_of_getElem? (i := 1) rfl)) (pu_in3 _ (List.mem_of_getElem? (i := 19) rfl)) hd_RF_valueSize (by decide) ⟨rfl, rfl⟩ rfl rfl (Nat.le_of_ble_eq_true rfl) (As := [.int r1]) (rest := []) (WC := []) hx hb hml hown hts hN hK hP hD (c_RF_valueSize l D cI cJ cB cZ H.size r1 r2 hc) [] rfl rfl hl.1 d_Rec_decodeCodes_32) hP hD hS hA [] [0, 1, 2] [0, 1, 2] rfl rfl rfl (by decide) rfl rfl (fun H locs hP hD hS => ?_)
      refine lv_if_ge (tgt := 40) hx hb d_Rec_decodeCodes_35 rfl (fun hc => ?_) (fun hc => ?_)
      · have hf := pu_br_pos hf hc
        refine lv_aload_n hx hb d_Rec_decodeCodes_40 rfl (lv_at hl 1 rfl) ?_
        refine gf_Rec_15 (v := .ref q_codes) hx hb hts hN hown hK hP 0 rfl rfl d_Rec_decodeCodes_41 ?_
        refine lv_iload_n hx hb d_Rec_decodeCodes_44 rfl (lv_at hl 4 rfl) ?_
        refine lv_iload hx hb d_Rec_decodeCodes_45 (lv_at hl 0 rfl) ?_
        obtain ⟨hin, hf⟩ := pu_ck_some hf
        obtain ⟨a3, e_a3, hf⟩ := pu_nm_some hf
        refine va_iast hx hb hK hP hD hS 2 0 rfl rfl hin d_Rec_decodeCodes_47 (fun H locs hP hD hS => ?_)
        have hP : va_P D pu_cl [(q_this, .inr (2, [.ref q_bytes, .int v_length, .ref q_codes, .ref q_starts, .int v_count])), (q_bytes, .inl (cB, 307, .inl v_bytes)), (q_codes, .inl (cI, 3, .inl a3))] H := by rw [e_a3]; exact hP
        have hD : va_D A [(q_this, .inr (2, [.ref q_bytes, .int v_length, .ref q_codes, .ref q_starts, .int v_count])), (q_bytes, .inl (cB, 307, .inl v_bytes)), (q_codes, .inl (cI, 3, .inl a3))] := by rw [e_a3]; exact hD
        refine lv_aload_n hx hb d_Rec_decodeCodes_48 rfl (lv_at hl 1 rfl) ?_
        refine lv_dup hx hb d_Rec_decodeCodes_49 rfl ?_
        refine gf_Rec_96 (v := .int v_count) hx hb hts hN hown hK hP 0 rfl rfl d_Rec_decodeCodes_50 ?_
        refine lv_iconst (v := 1) hx hb d_Rec_decodeCodes_53 rfl ?_
        refine lv_iadd hx hb d_Rec_decodeCodes_54 ?_
        obtain ⟨t4, e_t4, hf⟩ := pu_nm_some hf
        refine pu_ti e_t4 ?_
        refine pf_Rec_96 (v := .int t4) hx hb hts hN hown hK hP hD hS 0 rfl rfl rfl (Nat.le_of_ble_eq_true rfl) d_Rec_decodeCodes_55 (fun H locs hP hD hS => ?_)
        have hP : va_P D pu_cl [(q_this, .inr (2, [.ref q_bytes, .int v_length, .ref q_codes, .ref q_starts, .int t4])), (q_bytes, .inl (cB, 307, .inl v_bytes)), (q_codes, .inl (cI, 3, .inl a3))] H := hP
        have hD : va_D A [(q_this, .inr (2, [.ref q_bytes, .int v_length, .ref q_codes, .ref q_starts, .int t4])), (q_bytes, .inl (cB, 307, .inl v_bytes)), (q_codes, .inl (cI, 3, .inl a3))] := hD
        refine lv_iload_n hx hb d_Rec_decodeCodes_58 rfl (lv_at hl 3 rfl) ?_
        refine lv_iload hx hb d_Rec_decodeCodes_59 (lv_at hl 0 rfl) ?_
        obtain ⟨r5, hc, hf⟩ := pu_b1_some hf
        refine cl_i (WC := []) (WC2 := []) (WR := [(q_this, .inr (2, [.ref q_bytes, .int v_length, .ref q_codes, .ref q_starts, .int t4])), (q_bytes, .inl (cB, 307, .inl v_bytes)), (q_codes, .inl (cI, 3, .inl a3))]) (WS2 := [(q_this, .inr (2, [.ref q_bytes, .int v_length, .ref q_codes, .ref q_starts, .int t4])), (q_bytes, .inl (cB, 307, .inl v_bytes)), (q_codes, .inl (cI, 3, .inl a3))]) (pu_rsn (List.mem_of_getElem? (i := 33) rfl) (pu_in4 _ (List.mem_of_getElem? (i := 2) rfl)) (pu_in0 _ (List.mem_of_getElem? (i := 1) rfl)) (pu_in4 _ (List.mem_of_getElem? (i := 3) rfl)) hd_RF_varintSize (by decide) ⟨rfl, rfl⟩ rfl rfl (Nat.le_of_ble_eq_true rfl) (As := [.int r1]) (rest := [.int x_2]) (WC := []) hx hb hml hown hts hN hK hP hD (c_RF_varintSize l D cI cJ cB cZ H.size r1 r5 hc) [] rfl rfl hl.1 d_Rec_decodeCodes_61) hP hD hS hA [] [0, 1, 2] [0, 1, 2] rfl rfl rfl (by decide) rfl rfl (fun H locs hP hD hS => ?_)
        refine lv_iadd hx hb d_Rec_decodeCodes_64 ?_
        obtain ⟨t6, e_t6, hf⟩ := pu_nm_some hf
        refine pu_ti e_t6 ?_
        refine lv_istore_n hx hb d_Rec_decodeCodes_65 rfl hl (by decide) rfl (fun ls hl => ?_)
        have hl : lv_has ls 5 [(2, .int t6), (4, .int r1), (0, .ref q_this), (1, .int x_1), (3, .int x_3)] := hl
        obtain ⟨t7, e_t7, hf⟩ := pu_nm_some hf
        refine lv_iinc (k := 4) (v := t7) hx hb d_Rec_decodeCodes_66 hl rfl e_t7.symm (by decide) rfl (fun ls hl => ?_)
        have hl : lv_has ls 5 [(3, .int t7), (2, .int t6), (4, .int r1), (0, .ref q_this), (1, .int x_1)] := hl
        refine lv_goto (tgt := 9) hx hb d_Rec_decodeCodes_69 rfl ?_
        exact ih_9 t4 a3 t6 t7 H locs ls hP hD hS (lv_sub hl [3, 4, 1, 0] rfl) hf
      have hf := pu_br_neg hf hc
      refine lv_iconst (v := -1) hx hb d_Rec_decodeCodes_38 rfl ?_
      exact hret _ _ _ _ (-1 : Int32) v_count v_codes d_Rec_decodeCodes_39 hP hD hS hf
  obtain ⟨H, hH⟩ : ∃ H, H = s.heap := ⟨_, rfl⟩
  obtain ⟨locs, hlocs⟩ : ∃ locs : List Loc, locs = [] := ⟨_, rfl⟩
  have hP : va_P D pu_cl [(q_this, .inr (2, [.ref q_bytes, .int v_length, .ref q_codes, .ref q_starts, .int v_count])), (q_bytes, .inl (cB, 307, .inl v_bytes)), (q_codes, .inl (cI, 3, .inl v_codes))] H := by rw [hH]; exact hP
  have hS : va_S A s.heap H locs := by rw [hH, hlocs]; exact hS
  have goal : W p l e rm_Rec_decodeCodes s m args below meth c H locs 0 0 Q (F0 m 0 ls []) := by
    clear hH hlocs
    refine lv_iconst (v := 1) hx hb d_Rec_decodeCodes_0 rfl ?_
    refine lv_istore_n hx hb d_Rec_decodeCodes_1 rfl hl (by decide) rfl (fun ls hl => ?_)
    have hl : lv_has ls 5 [(2, .int (1 : Int32)), (0, .ref q_this), (1, .int x_1)] := hl
    refine lv_aload_n hx hb d_Rec_decodeCodes_2 rfl (lv_at hl 1 rfl) ?_
    refine lv_iconst (v := 0) hx hb d_Rec_decodeCodes_3 rfl ?_
    refine pf_Rec_96 (v := .int (0 : Int32)) hx hb hts hN hown hK hP hD hS 0 rfl rfl rfl (Nat.le_of_ble_eq_true rfl) d_Rec_decodeCodes_4 (fun H locs hP hD hS => ?_)
    have hP : va_P D pu_cl [(q_this, .inr (2, [.ref q_bytes, .int v_length, .ref q_codes, .ref q_starts, .int (0 : Int32)])), (q_bytes, .inl (cB, 307, .inl v_bytes)), (q_codes, .inl (cI, 3, .inl v_codes))] H := hP
    have hD : va_D A [(q_this, .inr (2, [.ref q_bytes, .int v_length, .ref q_codes, .ref q_starts, .int (0 : Int32)])), (q_bytes, .inl (cB, 307, .inl v_bytes)), (q_codes, .inl (cI, 3, .inl v_codes))] := hD
    refine lv_iconst (v := 0) hx hb d_Rec_decodeCodes_7 rfl ?_
    refine lv_istore_n hx hb d_Rec_decodeCodes_8 rfl hl (by decide) rfl (fun ls hl => ?_)
    have hl : lv_has ls 5 [(3, .int (0 : Int32)), (2, .int (1 : Int32)), (0, .ref q_this), (1, .int x_1)] := hl
    exact lp_9 x_1 _ (0 : Int32) v_codes (1 : Int32) (0 : Int32) H locs ls hP hD hS (lv_sub hl [2, 3, 1, 0] rfl) hf
  rw [hH, hlocs] at goal
  exact goal
