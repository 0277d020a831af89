theorem d_Node_dropCell_0 : decode b_Node_dropCell 0 = .ok (.aload_n 0, 1) := by decide +kernel
theorem d_Node_dropCell_1 : decode b_Node_dropCell 1 = .ok (.iload_n 1, 1) := by decide +kernel
theorem d_Node_dropCell_2 : decode b_Node_dropCell 2 = .ok (.invokevirtual 43, 3) := by decide +kernel
theorem d_Node_dropCell_5 : decode b_Node_dropCell 5 = .ok (.ifCond .eq 59, 3) := by decide +kernel
theorem d_Node_dropCell_8 : decode b_Node_dropCell 8 = .ok (.aload_n 0, 1) := by decide +kernel
theorem d_Node_dropCell_9 : decode b_Node_dropCell 9 = .ok (.getfield 15, 3) := by decide +kernel
theorem d_Node_dropCell_12 : decode b_Node_dropCell 12 = .ok (.iload_n 1, 1) := by decide +kernel
theorem d_Node_dropCell_13 : decode b_Node_dropCell 13 = .ok (.iconst 1, 1) := by decide +kernel
theorem d_Node_dropCell_14 : decode b_Node_dropCell 14 = .ok (.iadd, 1) := by decide +kernel
theorem d_Node_dropCell_15 : decode b_Node_dropCell 15 = .ok (.aload_n 0, 1) := by decide +kernel
theorem d_Node_dropCell_16 : decode b_Node_dropCell 16 = .ok (.getfield 15, 3) := by decide +kernel
theorem d_Node_dropCell_19 : decode b_Node_dropCell 19 = .ok (.iload_n 1, 1) := by decide +kernel
theorem d_Node_dropCell_20 : decode b_Node_dropCell 20 = .ok (.aload_n 0, 1) := by decide +kernel
theorem d_Node_dropCell_21 : decode b_Node_dropCell 21 = .ok (.getfield 36, 3) := by decide +kernel
theorem d_Node_dropCell_24 : decode b_Node_dropCell 24 = .ok (.iload_n 1, 1) := by decide +kernel
theorem d_Node_dropCell_25 : decode b_Node_dropCell 25 = .ok (.isub, 1) := by decide +kernel
theorem d_Node_dropCell_26 : decode b_Node_dropCell 26 = .ok (.iconst 1, 1) := by decide +kernel
theorem d_Node_dropCell_27 : decode b_Node_dropCell 27 = .ok (.isub, 1) := by decide +kernel
theorem d_Node_dropCell_28 : decode b_Node_dropCell 28 = .ok (.invokestatic 63, 3) := by decide +kernel
theorem d_Node_dropCell_31 : decode b_Node_dropCell 31 = .ok (.aload_n 0, 1) := by decide +kernel
theorem d_Node_dropCell_32 : decode b_Node_dropCell 32 = .ok (.getfield 19, 3) := by decide +kernel
theorem d_Node_dropCell_35 : decode b_Node_dropCell 35 = .ok (.iload_n 1, 1) := by decide +kernel
theorem d_Node_dropCell_36 : decode b_Node_dropCell 36 = .ok (.iconst 1, 1) := by decide +kernel
theorem d_Node_dropCell_37 : decode b_Node_dropCell 37 = .ok (.iadd, 1) := by decide +kernel
theorem d_Node_dropCell_38 : decode b_Node_dropCell 38 = .ok (.aload_n 0, 1) := by decide +kernel
theorem d_Node_dropCell_39 : decode b_Node_dropCell 39 = .ok (.getfield 19, 3) := by decide +kernel
theorem d_Node_dropCell_42 : decode b_Node_dropCell 42 = .ok (.iload_n 1, 1) := by decide +kernel
theorem d_Node_dropCell_43 : decode b_Node_dropCell 43 = .ok (.aload_n 0, 1) := by decide +kernel
theorem d_Node_dropCell_44 : decode b_Node_dropCell 44 = .ok (.getfield 36, 3) := by decide +kernel
theorem d_Node_dropCell_47 : decode b_Node_dropCell 47 = .ok (.iload_n 1, 1) := by decide +kernel
theorem d_Node_dropCell_48 : decode b_Node_dropCell 48 = .ok (.isub, 1) := by decide +kernel
theorem d_Node_dropCell_49 : decode b_Node_dropCell 49 = .ok (.iconst 1, 1) := by decide +kernel
theorem d_Node_dropCell_50 : decode b_Node_dropCell 50 = .ok (.isub, 1) := by decide +kernel
theorem d_Node_dropCell_51 : decode b_Node_dropCell 51 = .ok (.invokestatic 63, 3) := by decide +kernel
theorem d_Node_dropCell_54 : decode b_Node_dropCell 54 = .ok (.aload_n 0, 1) := by decide +kernel
theorem d_Node_dropCell_55 : decode b_Node_dropCell 55 = .ok (.dup, 1) := by decide +kernel
theorem d_Node_dropCell_56 : decode b_Node_dropCell 56 = .ok (.getfield 36, 3) := by decide +kernel
theorem d_Node_dropCell_59 : decode b_Node_dropCell 59 = .ok (.iconst 1, 1) := by decide +kernel
theorem d_Node_dropCell_60 : decode b_Node_dropCell 60 = .ok (.isub, 1) := by decide +kernel
theorem d_Node_dropCell_61 : decode b_Node_dropCell 61 = .ok (.putfield 36, 3) := by decide +kernel
theorem d_Node_dropCell_64 : decode b_Node_dropCell 64 = .ok (.return_, 1) := by decide +kernel
noncomputable def f_Node_dropCell (v_count : Int32) (v_starts : Nat → Int32) (v_sizes : Nat → Int32) (x_1 : Int32) : Option (Int32 × (Nat → Int32) × (Nat → Int32)) :=
  pu_b1 (f_Node_hasCell v_count x_1) (fun r1 => pu_br (r1 = 0) (some (v_count, v_starts, v_sizes)) (pu_ck (pu_cp .int v_starts (x_1 + (1 : Int32)) x_1 ((v_count - x_1) - (1 : Int32)) 31 31) (pu_nm (va_cpy v_starts v_starts (x_1 + (1 : Int32)).toNatClampNeg x_1.toNatClampNeg ((v_count - x_1) - (1 : Int32)).toNatClampNeg) (fun a2 => pu_ck (pu_cp .int v_sizes (x_1 + (1 : Int32)) x_1 ((v_count - x_1) - (1 : Int32)) 31 31) (pu_nm (va_cpy v_sizes v_sizes (x_1 + (1 : Int32)).toNatClampNeg x_1.toNatClampNeg ((v_count - x_1) - (1 : Int32)).toNatClampNeg) (fun a3 => pu_nm (v_count - (1 : Int32)) (fun t4 => some (t4, a2, a3))))))))
abbrev rm_Node_dropCell : Room := { frames := 1, cells := 0, slots := 0, locals := 68 }
set_option maxHeartbeats 8000000 in
set_option maxRecDepth 100000 in
theorem c_Node_dropCell (l : Launch) (D : va_G) (cI cJ cB cZ : ClassId) (sz : Nat) (q_this : Nat) (q_bytes : Nat) (q_starts : Nat) (q_sizes : Nat) (v_count : Int32) (v_last : Int32) (v_leaf : Int32) (v_starts : Nat → Int32) (v_sizes : Nat → Int32) (x_1 : Int32) (o_count : Int32) (o_starts : Nat → Int32) (o_sizes : Nat → Int32) (hf : f_Node_dropCell v_count v_starts v_sizes x_1 = some (o_count, o_starts, o_sizes)) : Met l y_Node_dropCell (.code y_Node_dropCell b_Node_dropCell 2 none :: pu_wA) rm_Node_dropCell (pu_pc D pu_cl (pu_ty cI cJ cB cZ) [.ref q_this, .int x_1] [(q_this, .inr (3, [.ref q_bytes, .ref q_starts, .ref q_sizes, .int v_count, .int v_last, .int v_leaf])), (q_starts, .inl (cI, 31, .inl v_starts)), (q_sizes, .inl (cI, 31, .inl v_sizes))] sz) (pu_qv D pu_cl (pu_ty cI cJ cB cZ) [(q_this, .inr (3, [.ref q_bytes, .ref q_starts, .ref q_sizes, .int v_count, .int v_last, .int v_leaf])), (q_starts, .inl (cI, 31, .inl v_starts)), (q_sizes, .inl (cI, 31, .inl v_sizes))] [(q_this, .inr (3, [.ref q_bytes, .ref q_starts, .ref q_sizes, .int o_count, .int v_last, .int v_leaf])), (q_starts, .inl (cI, 31, .inl o_starts)), (q_sizes, .inl (cI, 31, .inl o_sizes))] sz) 0 0 (va_A [(q_this, .inr (3, [.ref q_bytes, .ref q_starts, .ref q_sizes, .int v_count, .int v_last, .int v_leaf])), (q_starts, .inl (cI, 31, .inl v_starts)), (q_sizes, .inl (cI, 31, .inl v_sizes))] sz) := by
  refine pu_mtv [.ref q_this, .int x_1] [(q_this, .inr (3, [.ref q_bytes, .ref q_starts, .ref q_sizes, .int v_count, .int v_last, .int v_leaf])), (q_starts, .inl (cI, 31, .inl v_starts)), (q_sizes, .inl (cI, 31, .inl v_sizes))] [(q_this, .inr (3, [.ref q_bytes, .ref q_starts, .ref q_sizes, .int o_count, .int v_last, .int v_leaf])), (q_starts, .inl (cI, 31, .inl o_starts)), (q_sizes, .inl (cI, 31, .inl o_sizes))] (by decide) (Nat.le_of_ble_eq_true rfl) ?_
  intro p e s m args below meth c A Q ls hx hb hml hts hN hown hK hA hP hD hl hret0
  have hS : va_S A s.heap s.heap [] := va_S.rf
  have hl : lv_has ls 2 [(0, .ref q_this), (1, .int x_1)] := hl
  have hret : ∀ (pc : Nat) (ls : Array Slot) (H : Heap) (locs : List Loc) (y_0 : Int32) (y_1 : Nat → Int32) (y_2 : Nat → Int32), decode b_Node_dropCell pc = .ok (.return_, 1) → va_P D pu_cl [(q_this, .inr (3, [.ref q_bytes, .ref q_starts, .ref q_sizes, .int y_0, .int v_last, .int v_leaf])), (q_starts, .inl (cI, 31, .inl y_1)), (q_sizes, .inl (cI, 31, .inl y_2))] H → va_D A [(q_this, .inr (3, [.ref q_bytes, .ref q_starts, .ref q_sizes, .int y_0, .int v_last, .int v_leaf])), (q_starts, .inl (cI, 31, .inl y_1)), (q_sizes, .inl (cI, 31, .inl y_2))] → va_S A s.heap H locs → some (y_0, y_1, y_2) = some (o_count, o_starts, o_sizes) → W p l e rm_Node_dropCell s m args below meth c H locs 0 0 Q (F0 m pc ls []) := by
    intro pc ls H locs y_0 y_1 y_2 hd hP hD hS hf
    cases hf
    exact hret0 pc ls H locs hd hP hD hS
  clear hret0
  unfold f_Node_dropCell at hf
  skip
  obtain ⟨H, hH⟩ : ∃ H, H = s.heap := ⟨_, rfl⟩
  obtain ⟨locs, hlocs⟩ : ∃ locs : List Loc, locs = [] := ⟨_, rfl⟩
  have hP : va_P D pu_cl [(q_this, .inr (3, [.ref q_bytes, .ref q_starts, .ref q_sizes, .int v_count, .int v_last, .int v_leaf])), (q_starts, .inl (cI, 31, .inl v_starts)), (q_sizes, .inl (cI, 31, .inl v_sizes))] H := by rw [hH]; exact hP
  have hS : va_S A s.heap H locs := by rw [hH, hlocs]; exact hS
  have goal : W p l e rm_Node_dropCell s m args below meth c H locs 0 0 Q (F0 m 0 ls []) := by
    clear hH hlocs
    refine lv_aload_n hx hb d_Node_dropCell_0 rfl (lv_at hl 0 rfl) ?_
    refine lv_iload_n hx hb d_Node_dropCell_1 rfl (lv_at hl 1 rfl) ?_
    obtain ⟨r1, hc, hf⟩ := pu_b1_some hf
    refine cl_i (WC := [(q_this, .inr (3, [.ref q_bytes, .ref q_starts, .ref q_sizes, .int v_count, .int v_last, .int v_leaf]))]) (WC2 := [(q_this, .inr (3, [.ref q_bytes, .ref q_starts, .ref q_sizes, .int v_count, .int v_last, .int v_leaf]))]) (WR := [(q_starts, .inl (cI, 31, .inl v_starts)), (q_sizes, .inl (cI, 31, .inl v_sizes))]) (WS2 := [(q_this, .inr (3, [.ref q_bytes, .ref q_starts, .ref q_sizes, .int v_count, .int v_last, .int v_leaf])), (q_starts, .inl (cI, 31, .inl v_starts)), (q_sizes, .inl (cI, 31, .inl v_sizes))]) (pu_rv (cl := pu_cl) (pu_in3 _ (List.mem_of_getElem? (i := 57) rfl)) (pu_in3 _ (List.mem_of_getElem? (i := 58) rfl)) (pu_in13 _ (List.mem_of_getElem? (i := 46) rfl)) (pu_in0 _ (List.mem_of_getElem? (i := 6) rfl)) (pu_in3 _ (List.mem_of_getElem? (i := 59) rfl)) (ci := 3) rfl hd_Node_hasCell (by decide) ⟨rfl, rfl⟩ rfl rfl (Nat.le_of_ble_eq_true rfl) rfl (As := [.int x_1]) (rest := []) (WC := [(q_this, .inr (3, [.ref q_bytes, .ref q_starts, .ref q_sizes, .int v_count, .int v_last, .int v_leaf]))]) hx hb hml hown hts hN hK hP hD (c_Node_hasCell l D cI cJ cB cZ H.size q_this q_bytes q_starts q_sizes v_count v_last v_leaf x_1 r1 hc) [0] rfl rfl hl.1 d_Node_dropCell_2) hP hD hS hA [0] [1, 2] [2, 0, 1] rfl rfl rfl (by decide) rfl rfl (fun H locs hP hD hS => ?_)
    refine lv_if_eq (tgt := 64) hx hb d_Node_dropCell_5 rfl (fun hc => ?_) (fun hc => ?_)
    · have hf := pu_br_pos hf hc
      exact hret _ _ _ _ v_count v_starts v_sizes d_Node_dropCell_64 hP hD hS hf
    have hf := pu_br_neg hf hc
    refine lv_aload_n hx hb d_Node_dropCell_8 rfl (lv_at hl 0 rfl) ?_
    refine gf_Node_15 (v := .ref q_starts) hx hb hts hN hown hK hP 0 rfl rfl d_Node_dropCell_9 ?_
    refine lv_iload_n hx hb d_Node_dropCell_12 rfl (lv_at hl 1 rfl) ?_
    refine lv_iconst (v := 1) hx hb d_Node_dropCell_13 rfl ?_
    refine lv_iadd hx hb d_Node_dropCell_14 ?_
    refine lv_aload_n hx hb d_Node_dropCell_15 rfl (lv_at hl 0 rfl) ?_
    refine gf_Node_15 (v := .ref q_starts) hx hb hts hN hown hK hP 0 rfl rfl d_Node_dropCell_16 ?_
    refine lv_iload_n hx hb d_Node_dropCell_19 rfl (lv_at hl 1 rfl) ?_
    refine lv_aload_n hx hb d_Node_dropCell_20 rfl (lv_at hl 0 rfl) ?_
    refine gf_Node_36 (v := .int v_count) hx hb hts hN hown hK hP 0 rfl rfl d_Node_dropCell_21 ?_
    refine lv_iload_n hx hb d_Node_dropCell_24 rfl (lv_at hl 1 rfl) ?_
    refine lv_isub hx hb d_Node_dropCell_25 ?_
    refine lv_iconst (v := 1) hx hb d_Node_dropCell_26 rfl ?_
    refine lv_isub hx hb d_Node_dropCell_27 ?_
    obtain ⟨hcp, hf⟩ := pu_ck_some hf
    obtain ⟨a2, e_a2, hf⟩ := pu_nm_some hf
    refine va_copyi hx hb (hml.trans hl.1.symm) hown (hts _ (pu_in4 _ (List.mem_of_getElem? (i := 55) rfl))) (hts _ (pu_in2 _ (List.mem_of_getElem? (i := 39) rfl))) (hts _ (pu_in2 _ (List.mem_of_getElem? (i := 38) rfl))) (hts _ (pu_in0 _ (List.mem_of_getElem? (i := 9) rfl))) hK hP hD hS 1 1 0 0 (ty := .int) rfl rfl rfl rfl rfl hcp.1 hcp.2.1 hcp.2.2.1 hcp.2.2.2.1 hcp.2.2.2.2.1 hcp.2.2.2.2.2 (Nat.le_of_ble_eq_true rfl) (Nat.le_of_ble_eq_true rfl) d_Node_dropCell_28 (fun H locs hP hD hS => ?_)
    have hP : va_P D pu_cl [(q_this, .inr (3, [.ref q_bytes, .ref q_starts, .ref q_sizes, .int v_count, .int v_last, .int v_leaf])), (q_starts, .inl (cI, 31, .inl a2)), (q_sizes, .inl (cI, 31, .inl v_sizes))] H := by rw [e_a2]; exact hP
    have hD : va_D A [(q_this, .inr (3, [.ref q_bytes, .ref q_starts, .ref q_sizes, .int v_count, .int v_last, .int v_leaf])), (q_starts, .inl (cI, 31, .inl a2)), (q_sizes, .inl (cI, 31, .inl v_sizes))] := by rw [e_a2]; exact hD
    refine lv_aload_n hx hb d_Node_dropCell_31 rfl (lv_at hl 0 rfl) ?_
    refine gf_Node_19 (v := .ref q_sizes) hx hb hts hN hown hK hP 0 rfl rfl d_Node_dropCell_32 ?_
    refine lv_iload_n hx hb d_Node_dropCell_35 rfl (lv_at hl 1 rfl) ?_
    refine lv_iconst (v := 1) hx hb d_Node_dropCell_36 rfl ?_
    refine lv_iadd hx hb d_Node_dropCell_37 ?_
    refine lv_aload_n hx hb d_Node_dropCell_38 rfl (lv_at hl 0 rfl) ?_
    refine gf_Node_19 (v := .ref q_sizes) hx hb hts hN hown hK hP 0 rfl rfl d_Node_dropCell_39 ?_
    refine lv_iload_n hx hb d_Node_dropCell_42 rfl (lv_at hl 1 rfl) ?_
    refine lv_aload_n hx hb d_Node_dropCell_43 rfl (lv_at hl 0 rfl) ?_
    refine gf_Node_36 (v := .int v_count) hx hb hts hN hown hK hP 0 rfl rfl d_Node_dropCell_44 ?_
    refine lv_iload_n hx hb d_Node_dropCell_47 rfl (lv_at hl 1 rfl) ?_
    refine lv_isub hx hb d_Node_dropCell_48 ?_
    refine lv_iconst (v := 1) hx hb d_Node_dropCell_49 rfl ?_
    refine lv_isub hx hb d_Node_dropCell_50 ?_
    obtain ⟨hcp, hf⟩ := pu_ck_some hf
    obtain ⟨a3, e_a3, hf⟩ := pu_nm_some hf
    refine va_copyi hx hb (hml.trans hl.1.symm) hown (hts _ (pu_in4 _ (List.mem_of_getElem? (i := 55) rfl))) (hts _ (pu_in2 _ (List.mem_of_getElem? (i := 39) rfl))) (hts _ (pu_in2 _ (List.mem_of_getElem? (i := 38) rfl))) (hts _ (pu_in0 _ (List.mem_of_getElem? (i := 9) rfl))) hK hP hD hS 2 2 0 0 (ty := .int) rfl rfl rfl rfl rfl hcp.1 hcp.2.1 hcp.2.2.1 hcp.2.2.2.1 hcp.2.2.2.2.1 hcp.2.2.2.2.2 (Nat.le_of_ble_eq_true rfl) (Nat.le_of_ble_eq_true rfl) d_Node_dropCell_51 (fun H locs hP hD hS => ?_)
    have hP : va_P D pu_cl [(q_this, .inr (3, [.ref q_bytes, .ref q_starts, .ref q_sizes, .int v_count, .int v_last, .int v_leaf])), (q_starts, .inl (cI, 31, .inl a2)), (q_sizes, .inl (cI, 31, .inl a3))] H := by rw [e_a3]; exact hP
    have hD : va_D A [(q_this, .inr (3, [.ref q_bytes, .ref q_starts, .ref q_sizes, .int v_count, .int v_last, .int v_leaf])), (q_starts, .inl (cI, 31, .inl a2)), (q_sizes, .inl (cI, 31, .inl a3))] := by rw [e_a3]; exact hD
    refine lv_aload_n hx hb d_Node_dropCell_54 rfl (lv_at hl 0 rfl) ?_
    refine lv_dup hx hb d_Node_dropCell_55 rfl ?_
    refine gf_Node_36 (v := .int v_count) hx hb hts hN hown hK hP 0 rfl rfl d_Node_dropCell_56 ?_
    refine lv_iconst (v := 1) hx hb d_Node_dropCell_59 rfl ?_
    refine lv_isub hx hb d_Node_dropCell_60 ?_
    obtain ⟨t4, e_t4, hf⟩ := pu_nm_some hf
    refine pu_ti e_t4 ?_
    refine pf_Node_36 (v := .int t4) hx hb hts hN hown hK hP hD hS 0 rfl rfl rfl (Nat.le_of_ble_eq_true rfl) d_Node_dropCell_61 (fun H locs hP hD hS => ?_)
    have hP : va_P D pu_cl [(q_this, .inr (3, [.ref q_bytes, .ref q_starts, .ref q_sizes, .int t4, .int v_last, .int v_leaf])), (q_starts, .inl (cI, 31, .inl a2)), (q_sizes, .inl (cI, 31, .inl a3))] H := hP
    have hD : va_D A [(q_this, .inr (3, [.ref q_bytes, .ref q_starts, .ref q_sizes, .int t4, .int v_last, .int v_leaf])), (q_starts, .inl (cI, 31, .inl a2)), (q_sizes, .inl (cI, 31, .inl a3))] := hD
    exact hret _ _ _ _ t4 a2 a3 d_Node_dropCell_64 hP hD hS hf
  rw [hH, hlocs] at goal
  exact goal
theorem d_Pages_freePage_0 : decode b_Pages_freePage 0 = .ok (.aload_n 0, 1) := by decide +kernel
theorem d_Pages_freePage_1 : decode b_Pages_freePage 1 = .ok (.iload_n 1, 1) := by decide +kernel
theorem d_Pages_freePage_2 : decode b_Pages_freePage 2 = .ok (.invokevirtual 43, 3) := by decide +kernel
theorem d_Pages_freePage_5 : decode b_Pages_freePage 5 = .ok (.aload_n 0, 1) := by decide +kernel
theorem d_Pages_freePage_6 : decode b_Pages_freePage 6 = .ok (.iload_n 1, 1) := by decide +kernel
theorem d_Pages_freePage_7 : decode b_Pages_freePage 7 = .ok (.iconst 0, 1) := by decide +kernel
theorem d_Pages_freePage_8 : decode b_Pages_freePage 8 = .ok (.aload_n 0, 1) := by decide +kernel
theorem d_Pages_freePage_9 : decode b_Pages_freePage 9 = .ok (.iconst 1, 1) := by decide +kernel
theorem d_Pages_freePage_10 : decode b_Pages_freePage 10 = .ok (.iconst 2, 1) := by decide +kernel
theorem d_Pages_freePage_11 : decode b_Pages_freePage 11 = .ok (.invokevirtual 39, 3) := by decide +kernel
theorem d_Pages_freePage_14 : decode b_Pages_freePage 14 = .ok (.invokevirtual 19, 3) := by decide +kernel
theorem d_Pages_freePage_17 : decode b_Pages_freePage 17 = .ok (.aload_n 0, 1) := by decide +kernel
theorem d_Pages_freePage_18 : decode b_Pages_freePage 18 = .ok (.iconst 1, 1) := by decide +kernel
theorem d_Pages_freePage_19 : decode b_Pages_freePage 19 = .ok (.iconst 2, 1) := by decide +kernel
theorem d_Pages_freePage_20 : decode b_Pages_freePage 20 = .ok (.iload_n 1, 1) := by decide +kernel
theorem d_Pages_freePage_21 : decode b_Pages_freePage 21 = .ok (.invokevirtual 19, 3) := by decide +kernel
theorem d_Pages_freePage_24 : decode b_Pages_freePage 24 = .ok (.aload_n 0, 1) := by decide +kernel
theorem d_Pages_freePage_25 : decode b_Pages_freePage 25 = .ok (.iconst 1, 1) := by decide +kernel
theorem d_Pages_freePage_26 : decode b_Pages_freePage 26 = .ok (.iconst 3, 1) := by decide +kernel
theorem d_Pages_freePage_27 : decode b_Pages_freePage 27 = .ok (.aload_n 0, 1) := by decide +kernel
theorem d_Pages_freePage_28 : decode b_Pages_freePage 28 = .ok (.iconst 1, 1) := by decide +kernel
theorem d_Pages_freePage_29 : decode b_Pages_freePage 29 = .ok (.iconst 3, 1) := by decide +kernel
theorem d_Pages_freePage_30 : decode b_Pages_freePage 30 = .ok (.invokevirtual 39, 3) := by decide +kernel
theorem d_Pages_freePage_33 : decode b_Pages_freePage 33 = .ok (.iconst 1, 1) := by decide +kernel
theorem d_Pages_freePage_34 : decode b_Pages_freePage 34 = .ok (.iadd, 1) := by decide +kernel
theorem d_Pages_freePage_35 : decode b_Pages_freePage 35 = .ok (.invokevirtual 19, 3) := by decide +kernel
theorem d_Pages_freePage_38 : decode b_Pages_freePage 38 = .ok (.return_, 1) := by decide +kernel
noncomputable def f_Pages_freePage (v_count : Int32) (v_bytes : Nat → Int32) (x_1 : Int32) : Option ((Nat → Int32)) :=
  pu_b1 (f_Pages_wipe v_count v_bytes x_1) (fun w2 => pu_b1 (f_Pages_get v_count w2 (1 : Int32) (2 : Int32)) (fun r3 => pu_b1 (f_Pages_put v_count w2 x_1 (0 : Int32) r3) (fun w5 => pu_b1 (f_Pages_put v_count w5 (1 : Int32) (2 : Int32) x_1) (fun w7 => pu_b1 (f_Pages_get v_count w7 (1 : Int32) (3 : Int32)) (fun r8 => pu_b1 (f_Pages_put v_count w7 (1 : Int32) (3 : Int32) (r8 + (1 : Int32))) (fun w10 => some w10))))))
abbrev rm_Pages_freePage : Room := { frames := 3, cells := 0, slots := 0, locals := 68 }
set_option maxHeartbeats 8000000 in
set_option maxRecDepth 100000 in
theorem c_Pages_freePage (l : Launch) (D : va_G) (cI cJ cB cZ : ClassId) (sz : Nat) (q_this : Nat) (q_bytes : Nat) (v_count : Int32) (v_bytes : Nat → Int32) (x_1 : Int32) (o_bytes : Nat → Int32) (hf : f_Pages_freePage v_count v_bytes x_1 = some o_bytes) : Met l y_Pages_freePage (.code y_Pages_freePage b_Pages_freePage 2 none :: pu_wA) rm_Pages_freePage (pu_pc D pu_cl (pu_ty cI cJ cB cZ) [.ref q_this, .int x_1] [(q_this, .inr (0, [.ref q_bytes, .int v_count])), (q_bytes, .inl (cB, 1536, .inl v_bytes))] sz) (pu_qv D pu_cl (pu_ty cI cJ cB cZ) [(q_this, .inr (0, [.ref q_bytes, .int v_count])), (q_bytes, .inl (cB, 1536, .inl v_bytes))] [(q_this, .inr (0, [.ref q_bytes, .int v_count])), (q_bytes, .inl (cB, 1536, .inl o_bytes))] sz) 0 0 (va_A [(q_this, .inr (0, [.ref q_bytes, .int v_count])), (q_bytes, .inl (cB, 1536, .inl v_bytes))] sz) := by
  refine pu_mtv [.ref q_this, .int x_1] [(q_this, .inr (0, [.ref q_bytes, .int v_count])), (q_bytes, .inl (cB, 1536, .inl v_bytes))] [(q_this, .inr (0, [.ref q_bytes, .int v_count])), (q_bytes, .inl (cB, 1536, .inl o_bytes))] (by decide) (Nat.le_of_ble_eq_true rfl) ?_
  intro p e s m args below meth c A Q ls hx hb hml hts hN hown hK hA hP hD hl hret0
  have hS : va_S A s.heap s.heap [] := va_S.rf
  have hl : lv_has ls 2 [(0, .ref q_this), (1, .int x_1)] := hl
  have hret : ∀ (pc : Nat) (ls : Array Slot) (H : Heap) (locs : List Loc) (y_0 : Nat → Int32), decode b_Pages_freePage pc = .ok (.return_, 1) → va_P D pu_cl [(q_this, .inr (0, [.ref q_bytes, .int v_count])), (q_bytes, .inl (cB, 1536, .inl y_0))] H → va_D A [(q_this, .inr (0, [.ref q_bytes, .int v_count])), (q_bytes, .inl (cB, 1536, .inl y_0))] → va_S A s.heap H locs → some y_0 = some o_bytes → W p l e rm_Pages_freePage s m args below meth c H locs 0 0 Q (F0 m pc ls []) := by
    intro pc ls H locs y_0 hd hP hD hS hf
    cases hf
    exact hret0 pc ls H locs hd hP hD hS
  clear hret0
  unfold f_Pages_freePage at hf
  skip
  obtain ⟨H, hH⟩ : ∃ H, H = s.heap := ⟨_, rfl⟩
  obtain ⟨locs, hlocs⟩ : ∃ locs : List Loc, locs = [] := ⟨_, rfl⟩
  have hP : va_P D pu_cl [(q_this, .inr (0, [.ref q_bytes, .int v_count])), (q_bytes, .inl (cB, 1536, .inl v_bytes))] H := by rw [hH]; exact hP
  have hS : va_S A s.heap H locs := by rw [hH, hlocs]; exact hS
  have goal : W p l e rm_Pages_freePage s m args below meth c H locs 0 0 Q (F0 m 0 ls []) := by
    clear hH hlocs
    refine lv_aload_n hx hb d_Pages_freePage_0 rfl (lv_at hl 0 rfl) ?_
    refine lv_iload_n hx hb d_Pages_freePage_1 rfl (lv_at hl 1 rfl) ?_
    obtain ⟨w2, hc, hf⟩ := pu_b1_some hf
    refine cl_v (WC := [(q_this, .inr (0, [.ref q_bytes, .int v_count])), (q_bytes, .inl (cB, 1536, .inl v_bytes))]) (WC2 := [(q_this, .inr (0, [.ref q_bytes, .int v_count])), (q_bytes, .inl (cB, 1536, .inl w2))]) (WR := []) (WS2 := [(q_this, .inr (0, [.ref q_bytes, .int v_count])), (q_bytes, .inl (cB, 1536, .inl w2))]) (pu_rv (cl := pu_cl) (pu_in4 _ (List.mem_of_getElem? (i := 36) rfl)) (pu_in4 _ (List.mem_of_getElem? (i := 37) rfl)) (pu_in4 _ (List.mem_of_getElem? (i := 38) rfl)) (pu_in0 _ (List.mem_of_getElem? (i := 3) rfl)) (pu_in4 _ (List.mem_of_getElem? (i := 39) rfl)) (ci := 0) rfl hd_Pages_wipe (by decide) ⟨rfl, rfl⟩ rfl rfl (Nat.le_of_ble_eq_true rfl) rfl (As := [.int x_1]) (rest := []) (WC := [(q_this, .inr (0, [.ref q_bytes, .int v_count])), (q_bytes, .inl (cB, 1536, .inl v_bytes))]) hx hb hml hown hts hN hK hP hD (c_Pages_wipe l D cI cJ cB cZ H.size q_this q_bytes v_count v_bytes x_1 w2 hc) [0, 1] rfl rfl hl.1 d_Pages_freePage_2) hP hD hS hA [0, 1] [] [0, 1] rfl rfl rfl (by decide) rfl rfl (fun H locs hP hD hS => ?_)
    refine lv_aload_n hx hb d_Pages_freePage_5 rfl (lv_at hl 0 rfl) ?_
    refine lv_iload_n hx hb d_Pages_freePage_6 rfl (lv_at hl 1 rfl) ?_
    refine lv_iconst (v := 0) hx hb d_Pages_freePage_7 rfl ?_
    refine lv_aload_n hx hb d_Pages_freePage_8 rfl (lv_at hl 0 rfl) ?_
    refine lv_iconst (v := 1) hx hb d_Pages_freePage_9 rfl ?_
    refine lv_iconst (v := 2) hx hb d_Pages_freePage_10 rfl ?_
    obtain ⟨r3, hc, hf⟩ := pu_b1_some hf
    refine cl_i (WC := [(q_this, .inr (0, [.ref q_bytes, .int v_count])), (q_bytes, .inl (cB, 1536, .inl w2))]) (WC2 := [(q_this, .inr (0, [.ref q_bytes, .int v_count])), (q_bytes, .inl (cB, 1536, .inl w2))]) (WR := []) (WS2 := [(q_this, .inr (0, [.ref q_bytes, .int v_count])), (q_bytes, .inl (cB, 1536, .inl w2))]) (pu_rv (cl := pu_cl) (pu_in3 _ (List.mem_of_getElem? (i := 37) rfl)) (pu_in3 _ (List.mem_of_getElem? (i := 38) rfl)) (pu_in3 _ (List.mem_of_getElem? (i := 39) rfl)) (pu_in0 _ (List.mem_of_getElem? (i := 3) rfl)) (pu_in3 _ (List.mem_of_getElem? (i := 40) rfl)) (ci := 0) rfl hd_Pages_get (by decide) ⟨rfl, rfl⟩ rfl rfl (Nat.le_of_ble_eq_true rfl) rfl (As := [.int (1 : Int32), .int (2 : Int32)]) (rest := [.int (0 : Int32), .int x_1, .ref q_this]) (WC := [(q_this, .inr (0, [.ref q_bytes, .int v_count])), (q_bytes, .inl (cB, 1536, .inl w2))]) hx hb hml hown hts hN hK hP hD (c_Pages_get l D cI cJ cB cZ H.size q_this q_bytes v_count w2 (1 : Int32) (2 : Int32) r3 hc) [0, 1] rfl rfl hl.1 d_Pages_freePage_11) hP hD hS hA [0, 1] [] [0, 1] rfl rfl rfl (by decide) rfl rfl (fun H locs hP hD hS => ?_)
    obtain ⟨w5, hc, hf⟩ := pu_b1_some hf
    refine cl_v (WC := [(q_this, .inr (0, [.ref q_bytes, .int v_count])), (q_bytes, .inl (cB, 1536, .inl w2))]) (WC2 := [(q_this, .inr (0, [.ref q_bytes, .int v_count])), (q_bytes, .inl (cB, 1536, .inl w5))]) (WR := []) (WS2 := [(q_this, .inr (0, [.ref q_bytes, .int v_count])), (q_bytes, .inl (cB, 1536, .inl w5))]) (pu_rv (cl := pu_cl) (pu_in2 _ (List.mem_of_getElem? (i := 25) rfl)) (pu_in2 _ (List.mem_of_getElem? (i := 26) rfl)) (pu_in2 _ (List.mem_of_getElem? (i := 27) rfl)) (pu_in0 _ (List.mem_of_getElem? (i := 3) rfl)) (pu_in2 _ (List.mem_of_getElem? (i := 28) rfl)) (ci := 0) rfl hd_Pages_put (by decide) ⟨rfl, rfl⟩ rfl rfl (Nat.le_of_ble_eq_true rfl) rfl (As := [.int x_1, .int (0 : Int32), .int r3]) (rest := []) (WC := [(q_this, .inr (0, [.ref q_bytes, .int v_count])), (q_bytes, .inl (cB, 1536, .inl w2))]) hx hb hml hown hts hN hK hP hD (c_Pages_put l D cI cJ cB cZ H.size q_this q_bytes v_count w2 x_1 (0 : Int32) r3 w5 hc) [0, 1] rfl rfl hl.1 d_Pages_freePage_14) hP hD hS hA [0, 1] [] [0, 1] rfl rfl rfl (by decide) rfl rfl (fun H locs hP hD hS => ?_)
    refine lv_aload_n hx hb d_Pages_freePage_17 rfl (lv_at hl 0 rfl) ?_
    refine lv_iconst (v := 1) hx hb d_Pages_freePage_18 rfl ?_
    refine lv_iconst (v := 2) hx hb d_Pages_freePage_19 rfl ?_
    refine lv_iload_n hx hb d_Pages_freePage_20 rfl (lv_at hl 1 rfl) ?_
    obtain ⟨w7, hc, hf⟩ := pu_b1_some hf
    refine cl_v (WC := [(q_this, .inr (0, [.ref q_bytes, .int v_count])), (q_bytes, .inl (cB, 1536, .inl w5))]) (WC2 := [(q_this, .inr (0, [.ref q_bytes, .int v_count])), (q_bytes, .inl (cB, 1536, .inl w7))]) (WR := []) (WS2 := [(q_this, .inr (0, [.ref q_bytes, .int v_count])), (q_bytes, .inl (cB, 1536, .inl w7))]) (pu_rv (cl := pu_cl) (pu_in2 _ (List.mem_of_getElem? (i := 25) rfl)) (pu_in2 _ (List.mem_of_getElem? (i := 26) rfl)) (pu_in2 _ (List.mem_of_getElem? (i := 27) rfl)) (pu_in0 _ (List.mem_of_getElem? (i := 3) rfl)) (pu_in2 _ (List.mem_of_getElem? (i := 28) rfl)) (ci := 0) rfl hd_Pages_put (by decide) ⟨rfl, rfl⟩ rfl rfl (Nat.le_of_ble_eq_true rfl) rfl (As := [.int (1 : Int32), .int (2 : Int32), .int x_1]) (rest := []) (WC := [(q_this, .inr (0, [.ref q_bytes, .int v_count])), (q_bytes, .inl (cB, 1536, .inl w5))]) hx hb hml hown hts hN hK hP hD (c_Pages_put l D cI cJ cB cZ H.size q_this q_bytes v_count w5 (1 : Int32) (2 : Int32) x_1 w7 hc) [0, 1] rfl rfl hl.1 d_Pages_freePage_21) hP hD hS hA [0, 1] [] [0, 1] rfl rfl rfl (by decide) rfl rfl (fun H locs hP hD hS => ?_)
    refine lv_aload_n hx hb d_Pages_freePage_24 rfl (lv_at hl 0 rfl) ?_
    refine lv_iconst (v := 1) hx hb d_Pages_freePage_25 rfl ?_
    refine lv_iconst (v := 3) hx hb d_Pages_freePage_26 rfl ?_
    refine lv_aload_n hx hb d_Pages_freePage_27 rfl (lv_at hl 0 rfl) ?_
    refine lv_iconst (v := 1) hx hb d_Pages_freePage_28 rfl ?_
    refine lv_iconst (v := 3) hx hb d_Pages_freePage_29 rfl ?_
    obtain ⟨r8, hc, hf⟩ := pu_b1_some hf
    refine cl_i (WC := [(q_this, .inr (0, [.ref q_bytes, .int v_count])), (q_bytes, .inl (cB, 1536, .inl w7))]) (WC2 := [(q_this, .inr (0, [.ref q_bytes, .int v_count])), (q_bytes, .inl (cB, 1536, .inl w7))]) (WR := []) (WS2 := [(q_this, .inr (0, [.ref q_bytes, .int v_count])), (q_bytes, .inl (cB, 1536, .inl w7))]) (pu_rv (cl := pu_cl) (pu_in3 _ (List.mem_of_getElem? (i := 37) rfl)) (pu_in3 _ (List.mem_of_getElem? (i := 38) rfl)) (pu_in3 _ (List.mem_of_getElem? (i := 39) rfl)) (pu_in0 _ (List.mem_of_getElem? (i := 3) rfl)) (pu_in3 _ (List.mem_of_getElem? (i := 40) rfl)) (ci := 0) rfl hd_Pages_get (by decide) ⟨rfl, rfl⟩ rfl rfl (Nat.le_of_ble_eq_true rfl) rfl (As := [.int (1 : Int32), .int (3 : Int32)]) (rest := [.int (3 : Int32), .int (1 : Int32), .ref q_this]) (WC := [(q_this, .inr (0, [.ref q_bytes, .int v_count])), (q_bytes, .inl (cB, 1536, .inl w7))]) hx hb hml hown hts hN hK hP hD (c_Pages_get l D cI cJ cB cZ H.size q_this q_bytes v_count w7 (1 : Int32) (3 : Int32) r8 hc) [0, 1] rfl rfl hl.1 d_Pages_freePage_30) hP hD hS hA [0, 1] [] [0, 1] rfl rfl rfl (by decide) rfl rfl (fun H locs hP hD hS => ?_)
    refine lv_iconst (v := 1) hx hb d_Pages_freePage_33 rfl ?_
    refine lv_iadd hx hb d_Pages_freePage_34 ?_
    obtain ⟨w10, hc, hf⟩ := pu_b1_some hf
    refine cl_v (WC := [(q_this, .inr (0, [.ref q_bytes, .int v_count])), (q_bytes, .inl (cB, 1536, .inl w7))]) (WC2 := [(q_this, .inr (0, [.ref q_bytes, .int v_count])), (q_bytes, .inl (cB, 1536, .inl w10))]) (WR := []) (WS2 := [(q_this, .inr (0, [.ref q_bytes, .int v_count])), (q_bytes, .inl (cB, 1536, .inl w10))]) (pu_rv (cl := pu_cl) (pu_in2 _ (List.mem_of_getElem? (i := 25) rfl)) (pu_in2 _ (List.mem_of_getElem? (i := 26) rfl)) (pu_in2 _ (List.mem_of_getElem? (i := 27) rfl)) (pu_in0 _ (List.mem_of_getElem? (i := 3) rfl)) (pu_in2 _ (List.mem_of_getElem? (i := 28) rfl)) (ci := 0) rfl hd_Pages_put (by decide) ⟨rfl, rfl⟩ rfl rfl (Nat.le_of_ble_eq_true rfl) rfl (As := [.int (1 : Int32), .int (3 : Int32), .int (r8 + (1 : Int32))]) (rest := []) (WC := [(q_this, .inr (0, [.ref q_bytes, .int v_count])), (q_bytes, .inl (cB, 1536, .inl w7))]) hx hb hml hown hts hN hK hP hD (c_Pages_put l D cI cJ cB cZ H.size q_this q_bytes v_count w7 (1 : Int32) (3 : Int32) (r8 + (1 : Int32)) w10 hc) [0, 1] rfl rfl hl.1 d_Pages_freePage_35) hP hD hS hA [0, 1] [] [0, 1] rfl rfl rfl (by decide) rfl rfl (fun H locs hP hD hS => ?_)
    exact hret _ _ _ _ w10 d_Pages_freePage_38 hP hD hS hf
  rw [hH, hlocs] at goal
  exact goal
theorem d_Pages_copyPage_0 : decode b_Pages_copyPage 0 = .ok (.aload_n 0, 1) := by decide +kernel
theorem d_Pages_copyPage_1 : decode b_Pages_copyPage 1 = .ok (.iload_n 1, 1) := by decide +kernel
theorem d_Pages_copyPage_2 : decode b_Pages_copyPage 2 = .ok (.iload 4, 2) := by decide +kernel
theorem d_Pages_copyPage_4 : decode b_Pages_copyPage 4 = .ok (.iconst 1, 1) := by decide +kernel
theorem d_Pages_copyPage_5 : decode b_Pages_copyPage 5 = .ok (.isub, 1) := by decide +kernel
theorem d_Pages_copyPage_6 : decode b_Pages_copyPage 6 = .ok (.invokevirtual 23, 3) := by decide +kernel
theorem d_Pages_copyPage_9 : decode b_Pages_copyPage 9 = .ok (.ifCond .eq 40, 3) := by decide +kernel
theorem d_Pages_copyPage_12 : decode b_Pages_copyPage 12 = .ok (.aload_n 2, 1) := by decide +kernel
theorem d_Pages_copyPage_13 : decode b_Pages_copyPage 13 = .ok (.iload_n 3, 1) := by decide +kernel
theorem d_Pages_copyPage_14 : decode b_Pages_copyPage 14 = .ok (.iload 4, 2) := by decide +kernel
theorem d_Pages_copyPage_16 : decode b_Pages_copyPage 16 = .ok (.iconst 1, 1) := by decide +kernel
theorem d_Pages_copyPage_17 : decode b_Pages_copyPage 17 = .ok (.isub, 1) := by decide +kernel
theorem d_Pages_copyPage_18 : decode b_Pages_copyPage 18 = .ok (.invokevirtual 23, 3) := by decide +kernel
theorem d_Pages_copyPage_21 : decode b_Pages_copyPage 21 = .ok (.ifCond .eq 28, 3) := by decide +kernel
theorem d_Pages_copyPage_24 : decode b_Pages_copyPage 24 = .ok (.aload_n 2, 1) := by decide +kernel
theorem d_Pages_copyPage_25 : decode b_Pages_copyPage 25 = .ok (.getfield 9, 3) := by decide +kernel
theorem d_Pages_copyPage_28 : decode b_Pages_copyPage 28 = .ok (.iload_n 3, 1) := by decide +kernel
theorem d_Pages_copyPage_29 : decode b_Pages_copyPage 29 = .ok (.iconst 1, 1) := by decide +kernel
theorem d_Pages_copyPage_30 : decode b_Pages_copyPage 30 = .ok (.isub, 1) := by decide +kernel
theorem d_Pages_copyPage_31 : decode b_Pages_copyPage 31 = .ok (.bipush 64, 2) := by decide +kernel
theorem d_Pages_copyPage_33 : decode b_Pages_copyPage 33 = .ok (.imul, 1) := by decide +kernel
theorem d_Pages_copyPage_34 : decode b_Pages_copyPage 34 = .ok (.aload_n 0, 1) := by decide +kernel
theorem d_Pages_copyPage_35 : decode b_Pages_copyPage 35 = .ok (.getfield 9, 3) := by decide +kernel
theorem d_Pages_copyPage_38 : decode b_Pages_copyPage 38 = .ok (.iload_n 1, 1) := by decide +kernel
theorem d_Pages_copyPage_39 : decode b_Pages_copyPage 39 = .ok (.iconst 1, 1) := by decide +kernel
theorem d_Pages_copyPage_40 : decode b_Pages_copyPage 40 = .ok (.isub, 1) := by decide +kernel
theorem d_Pages_copyPage_41 : decode b_Pages_copyPage 41 = .ok (.bipush 64, 2) := by decide +kernel
theorem d_Pages_copyPage_43 : decode b_Pages_copyPage 43 = .ok (.imul, 1) := by decide +kernel
theorem d_Pages_copyPage_44 : decode b_Pages_copyPage 44 = .ok (.iload 4, 2) := by decide +kernel
theorem d_Pages_copyPage_46 : decode b_Pages_copyPage 46 = .ok (.invokestatic 33, 3) := by decide +kernel
theorem d_Pages_copyPage_49 : decode b_Pages_copyPage 49 = .ok (.return_, 1) := by decide +kernel
noncomputable def f_Pages_copyPage_al (v_count : Int32) (v_bytes : Nat → Int32) (x_1 : Int32) (x_3 : Int32) (x_4 : Int32) : Option ((Nat → Int32)) :=
  pu_b1 (f_Pages_has v_count x_1 (x_4 - (1 : Int32))) (fun r1 => pu_br (r1 = 0) (some v_bytes) (pu_b1 (f_Pages_has v_count x_3 (x_4 - (1 : Int32))) (fun r2 => pu_br (r2 = 0) (some v_bytes) (pu_ck (pu_cp .byte v_bytes ((x_3 - (1 : Int32)) * (64 : Int32)) ((x_1 - (1 : Int32)) * (64 : Int32)) x_4 1536 1536) (pu_nm (va_cpy v_bytes v_bytes ((x_3 - (1 : Int32)) * (64 : Int32)).toNatClampNeg ((x_1 - (1 : Int32)) * (64 : Int32)).toNatClampNeg x_4.toNatClampNeg) (fun a3 => some a3))))))
abbrev rm_Pages_copyPage_al : Room := { frames := 1, cells := 0, slots := 0, locals := 68 }
set_option maxHeartbeats 8000000 in
set_option maxRecDepth 100000 in
theorem c_Pages_copyPage_al (l : Launch) (D : va_G) (cI cJ cB cZ : ClassId) (sz : Nat) (q_this : Nat) (q_bytes : Nat) (v_count : Int32) (v_bytes : Nat → Int32) (x_1 : Int32) (x_3 : Int32) (x_4 : Int32) (o_bytes : Nat → Int32) (hf : f_Pages_copyPage_al v_count v_bytes x_1 x_3 x_4 = some o_bytes) : Met l y_Pages_copyPage (.code y_Pages_copyPage b_Pages_copyPage 5 none :: pu_wA) rm_Pages_copyPage_al (pu_pc D pu_cl (pu_ty cI cJ cB cZ) [.ref q_this, .int x_1, .ref q_this, .int x_3, .int x_4] [(q_this, .inr (0, [.ref q_bytes, .int v_count])), (q_bytes, .inl (cB, 1536, .inl v_bytes))] sz) (pu_qv D pu_cl (pu_ty cI cJ cB cZ) [(q_this, .inr (0, [.ref q_bytes, .int v_count])), (q_bytes, .inl (cB, 1536, .inl v_bytes))] [(q_this, .inr (0, [.ref q_bytes, .int v_count])), (q_bytes, .inl (cB, 1536, .inl o_bytes))] sz) 0 0 (va_A [(q_this, .inr (0, [.ref q_bytes, .int v_count])), (q_bytes, .inl (cB, 1536, .inl v_bytes))] sz) := by
  refine pu_mtv [.ref q_this, .int x_1, .ref q_this, .int x_3, .int x_4] [(q_this, .inr (0, [.ref q_bytes, .int v_count])), (q_bytes, .inl (cB, 1536, .inl v_bytes))] [(q_this, .inr (0, [.ref q_bytes, .int v_count])), (q_bytes, .inl (cB, 1536, .inl o_bytes))] (by decide) (Nat.le_of_ble_eq_true rfl) ?_
  intro p e s m args below meth c A Q ls hx hb hml hts hN hown hK hA hP hD hl hret0
  have hS : va_S A s.heap s.heap [] := va_S.rf
  have hl : lv_has ls 5 [(0, .ref q_this), (1, .int x_1), (2, .ref q_this), (3, .int x_3), (4, .int x_4)] := hl
  have hret : ∀ (pc : Nat) (ls : Array Slot) (H : Heap) (locs : List Loc) (y_0 : Nat → Int32), decode b_Pages_copyPage pc = .ok (.return_, 1) → va_P D pu_cl [(q_this, .inr (0, [.ref q_bytes, .int v_count])), (q_bytes, .inl (cB, 1536, .inl y_0))] H → va_D A [(q_this, .inr (0, [.ref q_bytes, .int v_count])), (q_bytes, .inl (cB, 1536, .inl y_0))] → va_S A s.heap H locs → some y_0 = some o_bytes → W p l e rm_Pages_copyPage_al s m args below meth c H locs 0 0 Q (F0 m pc ls []) := by
    intro pc ls H locs y_0 hd hP hD hS hf
    cases hf
    exact hret0 pc ls H locs hd hP hD hS
  clear hret0
  unfold f_Pages_copyPage_al at hf
  skip
  obtain ⟨H, hH⟩ : ∃ H, H = s.heap := ⟨_, rfl⟩
  obtain ⟨locs, hlocs⟩ : ∃ locs : List Loc, locs = [] := ⟨_, rfl⟩
  have hP : va_P D pu_cl [(q_this, .inr (0, [.ref q_bytes, .int v_count])), (q_bytes, .inl (cB, 1536, .inl v_bytes))] H := by rw [hH]; exact hP
  have hS : va_S A s.heap H locs := by rw [hH, hlocs]; exact hS
  have goal : W p l e rm_Pages_copyPage_al s m args below meth c H locs 0 0 Q (F0 m 0 ls []) := by
    clear hH hlocs
    refine lv_aload_n hx hb d_Pages_copyPage_0 rfl (lv_at hl 0 rfl) ?_
    refine lv_iload_n hx hb d_Pages_copyPage_1 rfl (lv_at hl 1 rfl) ?_
    refine lv_iload hx hb d_Pages_copyPage_2 (lv_at hl 4 rfl) ?_
    refine lv_iconst (v := 1) hx hb d_Pages_copyPage_4 rfl ?_
    refine lv_isub hx hb d_Pages_copyPage_5 ?_
    obtain ⟨r1, hc, hf⟩ := pu_b1_some hf
    refine cl_i (WC := [(q_this, .inr (0, [.ref q_bytes, .int v_count]))]) (WC2 := [(q_this, .inr (0, [.ref q_bytes, .int v_count]))]) (WR := [(q_bytes, .inl (cB, 1536, .inl v_bytes))]) (WS2 := [(q_this, .inr (0, [.ref q_bytes, .int v_count])), (q_bytes, .inl (cB, 1536, .inl v_bytes))]) (pu_rv (cl := pu_cl) (pu_in2 _ (List.mem_of_getElem? (i := 29) rfl)) (pu_in2 _ (List.mem_of_getElem? (i := 30) rfl)) (pu_in2 _ (List.mem_of_getElem? (i := 31) rfl)) (pu_in0 _ (List.mem_of_getElem? (i := 3) rfl)) (pu_in2 _ (List.mem_of_getElem? (i := 32) rfl)) (ci := 0) rfl hd_Pages_has (by decide) ⟨rfl, rfl⟩ rfl rfl (Nat.le_of_ble_eq_true rfl) rfl (As := [.int x_1, .int (x_4 - (1 : Int32))]) (rest := []) (WC := [(q_this, .inr (0, [.ref q_bytes, .int v_count]))]) hx hb hml hown hts hN hK hP hD (c_Pages_has l D cI cJ cB cZ H.size q_this q_bytes v_count x_1 (x_4 - (1 : Int32)) r1 hc) [0] rfl rfl hl.1 d_Pages_copyPage_6) hP hD hS hA [0] [1] [1, 0] rfl rfl rfl (by decide) rfl rfl (fun H locs hP hD hS => ?_)
    refine lv_if_eq (tgt := 49) hx hb d_Pages_copyPage_9 rfl (fun hc => ?_) (fun hc => ?_)
    · have hf := pu_br_pos hf hc
      exact hret _ _ _ _ v_bytes d_Pages_copyPage_49 hP hD hS hf
    have hf := pu_br_neg hf hc
    refine lv_aload_n hx hb d_Pages_copyPage_12 rfl (lv_at hl 2 rfl) ?_
    refine lv_iload_n hx hb d_Pages_copyPage_13 rfl (lv_at hl 3 rfl) ?_
    refine lv_iload hx hb d_Pages_copyPage_14 (lv_at hl 4 rfl) ?_
    refine lv_iconst (v := 1) hx hb d_Pages_copyPage_16 rfl ?_
    refine lv_isub hx hb d_Pages_copyPage_17 ?_
    obtain ⟨r2, hc, hf⟩ := pu_b1_some hf
    refine cl_i (WC := [(q_this, .inr (0, [.ref q_bytes, .int v_count]))]) (WC2 := [(q_this, .inr (0, [.ref q_bytes, .int v_count]))]) (WR := [(q_bytes, .inl (cB, 1536, .inl v_bytes))]) (WS2 := [(q_this, .inr (0, [.ref q_bytes, .int v_count])), (q_bytes, .inl (cB, 1536, .inl v_bytes))]) (pu_rv (cl := pu_cl) (pu_in2 _ (List.mem_of_getElem? (i := 29) rfl)) (pu_in2 _ (List.mem_of_getElem? (i := 30) rfl)) (pu_in2 _ (List.mem_of_getElem? (i := 31) rfl)) (pu_in0 _ (List.mem_of_getElem? (i := 3) rfl)) (pu_in2 _ (List.mem_of_getElem? (i := 32) rfl)) (ci := 0) rfl hd_Pages_has (by decide) ⟨rfl, rfl⟩ rfl rfl (Nat.le_of_ble_eq_true rfl) rfl (As := [.int x_3, .int (x_4 - (1 : Int32))]) (rest := []) (WC := [(q_this, .inr (0, [.ref q_bytes, .int v_count]))]) hx hb hml hown hts hN hK hP hD (c_Pages_has l D cI cJ cB cZ H.size q_this q_bytes v_count x_3 (x_4 - (1 : Int32)) r2 hc) [0] rfl rfl hl.1 d_Pages_copyPage_18) hP hD hS hA [0] [1] [1, 0] rfl rfl rfl (by decide) rfl rfl (fun H locs hP hD hS => ?_)
    refine lv_if_eq (tgt := 49) hx hb d_Pages_copyPage_21 rfl (fun hc => ?_) (fun hc => ?_)
    · have hf := pu_br_pos hf hc
      exact hret _ _ _ _ v_bytes d_Pages_copyPage_49 hP hD hS hf
    have hf := pu_br_neg hf hc
    refine lv_aload_n hx hb d_Pages_copyPage_24 rfl (lv_at hl 2 rfl) ?_
    refine gf_Pages_9 (v := .ref q_bytes) hx hb hts hN hown hK hP 0 rfl rfl d_Pages_copyPage_25 ?_
    refine lv_iload_n hx hb d_Pages_copyPage_28 rfl (lv_at hl 3 rfl) ?_
    refine lv_iconst (v := 1) hx hb d_Pages_copyPage_29 rfl ?_
    refine lv_isub hx hb d_Pages_copyPage_30 ?_
    refine lv_bipush (v := 64) hx hb d_Pages_copyPage_31 rfl ?_
    refine lv_imul hx hb d_Pages_copyPage_33 ?_
    refine lv_aload_n hx hb d_Pages_copyPage_34 rfl (lv_at hl 0 rfl) ?_
    refine gf_Pages_9 (v := .ref q_bytes) hx hb hts hN hown hK hP 0 rfl rfl d_Pages_copyPage_35 ?_
    refine lv_iload_n hx hb d_Pages_copyPage_38 rfl (lv_at hl 1 rfl) ?_
    refine lv_iconst (v := 1) hx hb d_Pages_copyPage_39 rfl ?_
    refine lv_isub hx hb d_Pages_copyPage_40 ?_
    refine lv_bipush (v := 64) hx hb d_Pages_copyPage_41 rfl ?_
    refine lv_imul hx hb d_Pages_copyPage_43 ?_
    refine lv_iload hx hb d_Pages_copyPage_44 (lv_at hl 4 rfl) ?_
    obtain ⟨hcp, hf⟩ := pu_ck_some hf
    obtain ⟨a3, e_a3, hf⟩ := pu_nm_some hf
    refine va_copyi hx hb (hml.trans hl.1.symm) hown (hts _ (pu_in2 _ (List.mem_of_getElem? (i := 37) rfl))) (hts _ (pu_in2 _ (List.mem_of_getElem? (i := 39) rfl))) (hts _ (pu_in2 _ (List.mem_of_getElem? (i := 38) rfl))) (hts _ (pu_in0 _ (List.mem_of_getElem? (i := 9) rfl))) hK hP hD hS 1 1 2 2 (ty := .byte) rfl rfl rfl rfl rfl hcp.1 hcp.2.1 hcp.2.2.1 hcp.2.2.2.1 hcp.2.2.2.2.1 hcp.2.2.2.2.2 (Nat.le_of_ble_eq_true rfl) (Nat.le_of_ble_eq_true rfl) d_Pages_copyPage_46 (fun H locs hP hD hS => ?_)
    have hP : va_P D pu_cl [(q_this, .inr (0, [.ref q_bytes, .int v_count])), (q_bytes, .inl (cB, 1536, .inl a3))] H := by rw [e_a3]; exact hP
    have hD : va_D A [(q_this, .inr (0, [.ref q_bytes, .int v_count])), (q_bytes, .inl (cB, 1536, .inl a3))] := by rw [e_a3]; exact hD
    exact hret _ _ _ _ a3 d_Pages_copyPage_49 hP hD hS hf
  rw [hH, hlocs] at goal
  exact goal
theorem d_Node_setChild_0 : decode b_Node_setChild 0 = .ok (.aload_n 0, 1) := by decide +kernel
theorem d_Node_setChild_1 : decode b_Node_setChild 1 = .ok (.iload_n 1, 1) := by decide +kernel
theorem d_Node_setChild_2 : decode b_Node_setChild 2 = .ok (.invokevirtual 43, 3) := by decide +kernel
theorem d_Node_setChild_5 : decode b_Node_setChild 5 = .ok (.ifCond .eq 19, 3) := by decide +kernel
theorem d_Node_setChild_8 : decode b_Node_setChild 8 = .ok (.aload_n 0, 1) := by decide +kernel
theorem d_Node_setChild_9 : decode b_Node_setChild 9 = .ok (.getfield 11, 3) := by decide +kernel
theorem d_Node_setChild_12 : decode b_Node_setChild 12 = .ok (.aload_n 0, 1) := by decide +kernel
theorem d_Node_setChild_13 : decode b_Node_setChild 13 = .ok (.getfield 15, 3) := by decide +kernel
theorem d_Node_setChild_16 : decode b_Node_setChild 16 = .ok (.iload_n 1, 1) := by decide +kernel
theorem d_Node_setChild_17 : decode b_Node_setChild 17 = .ok (.iaload, 1) := by decide +kernel
theorem d_Node_setChild_18 : decode b_Node_setChild 18 = .ok (.iload_n 2, 1) := by decide +kernel
theorem d_Node_setChild_19 : decode b_Node_setChild 19 = .ok (.i2b, 1) := by decide +kernel
theorem d_Node_setChild_20 : decode b_Node_setChild 20 = .ok (.bastore, 1) := by decide +kernel
theorem d_Node_setChild_21 : decode b_Node_setChild 21 = .ok (.goto 8, 3) := by decide +kernel
theorem d_Node_setChild_24 : decode b_Node_setChild 24 = .ok (.aload_n 0, 1) := by decide +kernel
theorem d_Node_setChild_25 : decode b_Node_setChild 25 = .ok (.iload_n 2, 1) := by decide +kernel
theorem d_Node_setChild_26 : decode b_Node_setChild 26 = .ok (.putfield 32, 3) := by decide +kernel
theorem d_Node_setChild_29 : decode b_Node_setChild 29 = .ok (.return_, 1) := by decide +kernel
noncomputable def f_Node_setChild (v_count : Int32) (v_starts : Nat → Int32) (v_last : Int32) (v_bytes : Nat → Int32) (x_1 : Int32) (x_2 : Int32) : Option (Int32 × (Nat → Int32)) :=
  pu_b1 (f_Node_hasCell v_count x_1) (fun r1 => pu_br (r1 = 0) (some (x_2, v_bytes)) (pu_ck (vp_in x_1 31) (pu_ck (vp_in (v_starts x_1.toNatClampNeg) 96) (pu_nm (upd v_bytes (v_starts x_1.toNatClampNeg).toNatClampNeg (vp_nar .byte x_2.toInt8.toInt32)) (fun a2 => some (v_last, a2))))))
abbrev rm_Node_setChild : Room := { frames := 1, cells := 0, slots := 0, locals := 21 }
set_option maxHeartbeats 8000000 in
set_option maxRecDepth 100000 in
theorem c_Node_setChild (l : Launch) (D : va_G) (cI cJ cB cZ : ClassId) (sz : Nat) (q_this : Nat) (q_bytes : Nat) (q_starts : Nat) (q_sizes : Nat) (v_count : Int32) (v_last : Int32) (v_leaf : Int32) (v_bytes : Nat → Int32) (v_starts : Nat → Int32) (x_1 : Int32) (x_2 : Int32) (o_last : Int32) (o_bytes : Nat → Int32) (hf : f_Node_setChild v_count v_starts v_last v_bytes x_1 x_2 = some (o_last, o_bytes)) : Met l y_Node_setChild (.code y_Node_setChild b_Node_setChild 3 none :: pu_wA) rm_Node_setChild (pu_pc D pu_cl (pu_ty cI cJ cB cZ) [.ref q_this, .int x_1, .int x_2] [(q_this, .inr (3, [.ref q_bytes, .ref q_starts, .ref q_sizes, .int v_count, .int v_last, .int v_leaf])), (q_bytes, .inl (cB, 96, .inl v_bytes)), (q_starts, .inl (cI, 31, .inl v_starts))] sz) (pu_qv D pu_cl (pu_ty cI cJ cB cZ) [(q_this, .inr (3, [.ref q_bytes, .ref q_starts, .ref q_sizes, .int v_count, .int v_last, .int v_leaf])), (q_bytes, .inl (cB, 96, .inl v_bytes)), (q_starts, .inl (cI, 31, .inl v_starts))] [(q_this, .inr (3, [.ref q_bytes, .ref q_starts, .ref q_sizes, .int v_count, .int o_last, .int v_leaf])), (q_bytes, .inl (cB, 96, .inl o_bytes)), (q_starts, .inl (cI, 31, .inl v_starts))] sz) 0 0 (va_A [(q_this, .inr (3, [.ref q_bytes, .ref q_starts, .ref q_sizes, .int v_count, .int v_last, .int v_leaf])), (q_bytes, .inl (cB, 96, .inl v_bytes)), (q_starts, .inl (cI, 31, .inl v_starts))] sz) := by
  refine pu_mtv [.ref q_this, .int x_1, .int x_2] [(q_this, .inr (3, [.ref q_bytes, .ref q_starts, .ref q_sizes, .int v_count, .int v_last, .int v_leaf])), (q_bytes, .inl (cB, 96, .inl v_bytes)), (q_starts, .inl (cI, 31, .inl v_starts))] [(q_this, .inr (3, [.ref q_bytes, .ref q_starts, .ref q_sizes, .int v_count, .int o_last, .int v_leaf])), (q_bytes, .inl (cB, 96, .inl o_bytes)), (q_starts, .inl (cI, 31, .inl v_starts))] (by decide) (Nat.le_of_ble_eq_true rfl) ?_
  intro p e s m args below meth c A Q ls hx hb hml hts hN hown hK hA hP hD hl hret0
  have hS : va_S A s.heap s.heap [] := va_S.rf
  have hl : lv_has ls 3 [(0, .ref q_this), (1, .int x_1), (2, .int x_2)] := hl
  have hret : ∀ (pc : Nat) (ls : Array Slot) (H : Heap) (locs : List Loc) (y_0 : Int32) (y_1 : Nat → Int32), decode b_Node_setChild pc = .ok (.return_, 1) → va_P D pu_cl [(q_this, .inr (3, [.ref q_bytes, .ref q_starts, .ref q_sizes, .int v_count, .int y_0, .int v_leaf])), (q_bytes, .inl (cB, 96, .inl y_1)), (q_starts, .inl (cI, 31, .inl v_starts))] H → va_D A [(q_this, .inr (3, [.ref q_bytes, .ref q_starts, .ref q_sizes, .int v_count, .int y_0, .int v_leaf])), (q_bytes, .inl (cB, 96, .inl y_1)), (q_starts, .inl (cI, 31, .inl v_starts))] → va_S A s.heap H locs → some (y_0, y_1) = some (o_last, o_bytes) → W p l e rm_Node_setChild s m args below meth c H locs 0 0 Q (F0 m pc ls []) := by
    intro pc ls H locs y_0 y_1 hd hP hD hS hf
    cases hf
    exact hret0 pc ls H locs hd hP hD hS
  clear hret0
  unfold f_Node_setChild at hf
  skip
  obtain ⟨H, hH⟩ : ∃ H, H = s.heap := ⟨_, rfl⟩
  obtain ⟨locs, hlocs⟩ : ∃ locs : List Loc, locs = [] := ⟨_, rfl⟩
  have hP : va_P D pu_cl [(q_this, .inr (3, [.ref q_bytes, .ref q_starts, .ref q_sizes, .int v_count, .int v_last, .int v_leaf])), (q_bytes, .inl (cB, 96, .inl v_bytes)), (q_starts, .inl (cI, 31, .inl v_starts))] H := by rw [hH]; exact hP
  have hS : va_S A s.heap H locs := by rw [hH, hlocs]; exact hS
  have goal : W p l e rm_Node_setChild s m args below meth c H locs 0 0 Q (F0 m 0 ls []) := by
    clear hH hlocs
    refine lv_aload_n hx hb d_Node_setChild_0 rfl (lv_at hl 0 rfl) ?_
    refine lv_iload_n hx hb d_Node_setChild_1 rfl (lv_at hl 1 rfl) ?_
    obtain ⟨r1, hc, hf⟩ := pu_b1_some hf
    refine cl_i (WC := [(q_this, .inr (3, [.ref q_bytes, .ref q_starts, .ref q_sizes, .int v_count, .int v_last, .int v_leaf]))]) (WC2 := [(q_this, .inr (3, [.ref q_bytes, .ref q_starts, .ref q_sizes, .int v_count, .int v_last, .int v_leaf]))]) (WR := [(q_bytes, .inl (cB, 96, .inl v_bytes)), (q_starts, .inl (cI, 31, .inl v_starts))]) (WS2 := [(q_this, .inr (3, [.ref q_bytes, .ref q_starts, .ref q_sizes, .int v_count, .int v_last, .int v_leaf])), (q_bytes, .inl (cB, 96, .inl v_bytes)), (q_starts, .inl (cI, 31, .inl v_starts))]) (pu_rv (cl := pu_cl) (pu_in3 _ (List.mem_of_getElem? (i := 57) rfl)) (pu_in3 _ (List.mem_of_getElem? (i := 58) rfl)) (pu_in13 _ (List.mem_of_getElem? (i := 46) rfl)) (pu_in0 _ (List.mem_of_getElem? (i := 6) rfl)) (pu_in3 _ (List.mem_of_getElem? (i := 59) rfl)) (ci := 3) rfl hd_Node_hasCell (by decide) ⟨rfl, rfl⟩ rfl rfl (Nat.le_of_ble_eq_true rfl) rfl (As := [.int x_1]) (rest := []) (WC := [(q_this, .inr (3, [.ref q_bytes, .ref q_starts, .ref q_sizes, .int v_count, .int v_last, .int v_leaf]))]) hx hb hml hown hts hN hK hP hD (c_Node_hasCell l D cI cJ cB cZ H.size q_this q_bytes q_starts q_sizes v_count v_last v_leaf x_1 r1 hc) [0] rfl rfl hl.1 d_Node_setChild_2) hP hD hS hA [0] [1, 2] [2, 0, 1] rfl rfl rfl (by decide) rfl rfl (fun H locs hP hD hS => ?_)
    refine lv_if_eq (tgt := 24) hx hb d_Node_setChild_5 rfl (fun hc => ?_) (fun hc => ?_)
    · have hf := pu_br_pos hf hc
      refine lv_aload_n hx hb d_Node_setChild_24 rfl (lv_at hl 0 rfl) ?_
      refine lv_iload_n hx hb d_Node_setChild_25 rfl (lv_at hl 2 rfl) ?_
      refine pf_Node_32 (v := .int x_2) hx hb hts hN hown hK hP hD hS 0 rfl rfl rfl (Nat.le_of_ble_eq_true rfl) d_Node_setChild_26 (fun H locs hP hD hS => ?_)
      have hP : va_P D pu_cl [(q_this, .inr (3, [.ref q_bytes, .ref q_starts, .ref q_sizes, .int v_count, .int x_2, .int v_leaf])), (q_bytes, .inl (cB, 96, .inl v_bytes)), (q_starts, .inl (cI, 31, .inl v_starts))] H := hP
      have hD : va_D A [(q_this, .inr (3, [.ref q_bytes, .ref q_starts, .ref q_sizes, .int v_count, .int x_2, .int v_leaf])), (q_bytes, .inl (cB, 96, .inl v_bytes)), (q_starts, .inl (cI, 31, .inl v_starts))] := hD
      exact hret _ _ _ _ x_2 v_bytes d_Node_setChild_29 hP hD hS hf
    have hf := pu_br_neg hf hc
    refine lv_aload_n hx hb d_Node_setChild_8 rfl (lv_at hl 0 rfl) ?_
    refine gf_Node_11 (v := .ref q_bytes) hx hb hts hN hown hK hP 0 rfl rfl d_Node_setChild_9 ?_
    refine lv_aload_n hx hb d_Node_setChild_12 rfl (lv_at hl 0 rfl) ?_
    refine gf_Node_15 (v := .ref q_starts) hx hb hts hN hown hK hP 0 rfl rfl d_Node_setChild_13 ?_
    refine lv_iload_n hx hb d_Node_setChild_16 rfl (lv_at hl 1 rfl) ?_
    obtain ⟨hin, hf⟩ := pu_ck_some hf
    refine va_iald hx hb hK hP 2 0 rfl rfl hin d_Node_setChild_17 ?_
    refine lv_iload_n hx hb d_Node_setChild_18 rfl (lv_at hl 2 rfl) ?_
    refine lv_i2b hx hb d_Node_setChild_19 rfl ?_
    obtain ⟨hin, hf⟩ := pu_ck_some hf
    obtain ⟨a2, e_a2, hf⟩ := pu_nm_some hf
    refine va_bast hx hb hK hP hD hS 1 2 rfl rfl hin d_Node_setChild_20 (fun H locs hP hD hS => ?_)
    have hP : va_P D pu_cl [(q_this, .inr (3, [.ref q_bytes, .ref q_starts, .ref q_sizes, .int v_count, .int v_last, .int v_leaf])), (q_bytes, .inl (cB, 96, .inl a2)), (q_starts, .inl (cI, 31, .inl v_starts))] H := by rw [e_a2]; exact hP
    have hD : va_D A [(q_this, .inr (3, [.ref q_bytes, .ref q_starts, .ref q_sizes, .int v_count, .int v_last, .int v_leaf])), (q_bytes, .inl (cB, 96, .inl a2)), (q_starts, .inl (cI, 31, .inl v_starts))] := by rw [e_a2]; exact hD
    refine lv_goto (tgt := 29) hx hb d_Node_setChild_21 rfl ?_
    exact hret _ _ _ _ v_last a2 d_Node_setChild_29 hP hD hS hf
  rw [hH, hlocs] at goal
  exact goal
theorem d_Tree_dropInner_0 : decode b_Tree_dropInner 0 = .ok (.aload_n 0, 1) := by decide +kernel
theorem d_Tree_dropInner_1 : decode b_Tree_dropInner 1 = .ok (.getfield 48, 3) := by decide +kernel
theorem d_Tree_dropInner_4 : decode b_Tree_dropInner 4 = .ok (.iconst 2, 1) := by decide +kernel
theorem d_Tree_dropInner_5 : decode b_Tree_dropInner 5 = .ok (.if_icmp .ge 27, 3) := by decide +kernel
theorem d_Tree_dropInner_8 : decode b_Tree_dropInner 8 = .ok (.aload_n 0, 1) := by decide +kernel
theorem d_Tree_dropInner_9 : decode b_Tree_dropInner 9 = .ok (.getfield 30, 3) := by decide +kernel
theorem d_Tree_dropInner_12 : decode b_Tree_dropInner 12 = .ok (.iload_n 1, 1) := by decide +kernel
theorem d_Tree_dropInner_13 : decode b_Tree_dropInner 13 = .ok (.aload_n 0, 1) := by decide +kernel
theorem d_Tree_dropInner_14 : decode b_Tree_dropInner 14 = .ok (.getfield 30, 3) := by decide +kernel
theorem d_Tree_dropInner_17 : decode b_Tree_dropInner 17 = .ok (.iload_n 2, 1) := by decide +kernel
theorem d_Tree_dropInner_18 : decode b_Tree_dropInner 18 = .ok (.bipush 64, 2) := by decide +kernel
theorem d_Tree_dropInner_20 : decode b_Tree_dropInner 20 = .ok (.invokevirtual 181, 3) := by decide +kernel
theorem d_Tree_dropInner_23 : decode b_Tree_dropInner 23 = .ok (.aload_n 0, 1) := by decide +kernel
theorem d_Tree_dropInner_24 : decode b_Tree_dropInner 24 = .ok (.getfield 30, 3) := by decide +kernel
theorem d_Tree_dropInner_27 : decode b_Tree_dropInner 27 = .ok (.iload_n 2, 1) := by decide +kernel
theorem d_Tree_dropInner_28 : decode b_Tree_dropInner 28 = .ok (.invokevirtual 172, 3) := by decide +kernel
theorem d_Tree_dropInner_31 : decode b_Tree_dropInner 31 = .ok (.return_, 1) := by decide +kernel
theorem d_Tree_dropInner_32 : decode b_Tree_dropInner 32 = .ok (.aload_n 0, 1) := by decide +kernel
theorem d_Tree_dropInner_33 : decode b_Tree_dropInner 33 = .ok (.getfield 34, 3) := by decide +kernel
theorem d_Tree_dropInner_36 : decode b_Tree_dropInner 36 = .ok (.aload_n 0, 1) := by decide +kernel
theorem d_Tree_dropInner_37 : decode b_Tree_dropInner 37 = .ok (.getfield 30, 3) := by decide +kernel
theorem d_Tree_dropInner_40 : decode b_Tree_dropInner 40 = .ok (.aload_n 0, 1) := by decide +kernel
theorem d_Tree_dropInner_41 : decode b_Tree_dropInner 41 = .ok (.getfield 9, 3) := by decide +kernel
theorem d_Tree_dropInner_44 : decode b_Tree_dropInner 44 = .ok (.aload_n 0, 1) := by decide +kernel
theorem d_Tree_dropInner_45 : decode b_Tree_dropInner 45 = .ok (.getfield 48, 3) := by decide +kernel
theorem d_Tree_dropInner_48 : decode b_Tree_dropInner 48 = .ok (.iconst 2, 1) := by decide +kernel
theorem d_Tree_dropInner_49 : decode b_Tree_dropInner 49 = .ok (.isub, 1) := by decide +kernel
theorem d_Tree_dropInner_50 : decode b_Tree_dropInner 50 = .ok (.iaload, 1) := by decide +kernel
theorem d_Tree_dropInner_51 : decode b_Tree_dropInner 51 = .ok (.invokevirtual 52, 3) := by decide +kernel
theorem d_Tree_dropInner_54 : decode b_Tree_dropInner 54 = .ok (.pop, 1) := by decide +kernel
theorem d_Tree_dropInner_55 : decode b_Tree_dropInner 55 = .ok (.aload_n 0, 1) := by decide +kernel
theorem d_Tree_dropInner_56 : decode b_Tree_dropInner 56 = .ok (.getfield 34, 3) := by decide +kernel
theorem d_Tree_dropInner_59 : decode b_Tree_dropInner 59 = .ok (.aload_n 0, 1) := by decide +kernel
theorem d_Tree_dropInner_60 : decode b_Tree_dropInner 60 = .ok (.getfield 15, 3) := by decide +kernel
theorem d_Tree_dropInner_63 : decode b_Tree_dropInner 63 = .ok (.aload_n 0, 1) := by decide +kernel
theorem d_Tree_dropInner_64 : decode b_Tree_dropInner 64 = .ok (.getfield 48, 3) := by decide +kernel
theorem d_Tree_dropInner_67 : decode b_Tree_dropInner 67 = .ok (.iconst 2, 1) := by decide +kernel
theorem d_Tree_dropInner_68 : decode b_Tree_dropInner 68 = .ok (.isub, 1) := by decide +kernel
theorem d_Tree_dropInner_69 : decode b_Tree_dropInner 69 = .ok (.iaload, 1) := by decide +kernel
theorem d_Tree_dropInner_70 : decode b_Tree_dropInner 70 = .ok (.iload_n 2, 1) := by decide +kernel
theorem d_Tree_dropInner_71 : decode b_Tree_dropInner 71 = .ok (.invokevirtual 185, 3) := by decide +kernel
theorem d_Tree_dropInner_74 : decode b_Tree_dropInner 74 = .ok (.aload_n 0, 1) := by decide +kernel
theorem d_Tree_dropInner_75 : decode b_Tree_dropInner 75 = .ok (.getfield 34, 3) := by decide +kernel
theorem d_Tree_dropInner_78 : decode b_Tree_dropInner 78 = .ok (.aload_n 0, 1) := by decide +kernel
theorem d_Tree_dropInner_79 : decode b_Tree_dropInner 79 = .ok (.getfield 30, 3) := by decide +kernel
theorem d_Tree_dropInner_82 : decode b_Tree_dropInner 82 = .ok (.aload_n 0, 1) := by decide +kernel
theorem d_Tree_dropInner_83 : decode b_Tree_dropInner 83 = .ok (.getfield 9, 3) := by decide +kernel
theorem d_Tree_dropInner_86 : decode b_Tree_dropInner 86 = .ok (.aload_n 0, 1) := by decide +kernel
theorem d_Tree_dropInner_87 : decode b_Tree_dropInner 87 = .ok (.getfield 48, 3) := by decide +kernel
theorem d_Tree_dropInner_90 : decode b_Tree_dropInner 90 = .ok (.iconst 2, 1) := by decide +kernel
theorem d_Tree_dropInner_91 : decode b_Tree_dropInner 91 = .ok (.isub, 1) := by decide +kernel
theorem d_Tree_dropInner_92 : decode b_Tree_dropInner 92 = .ok (.iaload, 1) := by decide +kernel
theorem d_Tree_dropInner_93 : decode b_Tree_dropInner 93 = .ok (.invokevirtual 145, 3) := by decide +kernel
theorem d_Tree_dropInner_96 : decode b_Tree_dropInner 96 = .ok (.aload_n 0, 1) := by decide +kernel
theorem d_Tree_dropInner_97 : decode b_Tree_dropInner 97 = .ok (.getfield 30, 3) := by decide +kernel
theorem d_Tree_dropInner_100 : decode b_Tree_dropInner 100 = .ok (.iload_n 1, 1) := by decide +kernel
theorem d_Tree_dropInner_101 : decode b_Tree_dropInner 101 = .ok (.invokevirtual 172, 3) := by decide +kernel
theorem d_Tree_dropInner_104 : decode b_Tree_dropInner 104 = .ok (.return_, 1) := by decide +kernel
noncomputable def f_Tree_dropInner (v_depth : Int32) (v_pages_count : Int32) (v_path : Nat → Int32) (v_slots : Nat → Int32) (v_pages_bytes : Nat → Int32) (v_node_count : Int32) (v_node_last : Int32) (v_node_leaf : Int32) (v_node_bytes : Nat → Int32) (v_node_starts : Nat → Int32) (v_node_sizes : Nat → Int32) (x_1 : Int32) (x_2 : Int32) : Option ((Nat → Int32) × Int32 × Int32 × Int32 × (Nat → Int32) × (Nat → Int32) × (Nat → Int32)) :=
  pu_br ((2 : Int32) ≤ v_depth) (pu_ck (vp_in (v_depth - (2 : Int32)) 25) (pu_b7 (f_Node_load v_pages_count v_pages_bytes v_node_count v_node_last v_node_leaf v_node_bytes v_node_starts v_node_sizes (v_path (v_depth - (2 : Int32)).toNatClampNeg)) (fun r1 w2 w3 w4 w5 w6 w7 => pu_ck (vp_in (v_depth - (2 : Int32)) 25) (pu_b2 (f_Node_setChild w2 w6 w3 w5 (v_slots (v_depth - (2 : Int32)).toNatClampNeg) x_2) (fun w9 w10 => pu_ck (vp_in (v_depth - (2 : Int32)) 25) (pu_b1 (f_Node_storeAll w2 w9 w4 w10 w6 w7 v_pages_count v_pages_bytes (v_path (v_depth - (2 : Int32)).toNatClampNeg)) (fun w12 => pu_b1 (f_Pages_freePage v_pages_count w12 x_1) (fun w14 => some (w14, w2, w9, w4, w10, w6, w7))))))))) (pu_b1 (f_Pages_copyPage_al v_pages_count v_pages_bytes x_1 x_2 (64 : Int32)) (fun w16 => pu_b1 (f_Pages_freePage v_pages_count w16 x_2) (fun w18 => some (w18, v_node_count, v_node_last, v_node_leaf, v_node_bytes, v_node_starts, v_node_sizes))))
abbrev rm_Tree_dropInner : Room := { frames := 5, cells := 0, slots := 0, locals := 118 }
set_option maxHeartbeats 8000000 in
set_option maxRecDepth 100000 in
theorem c_Tree_dropInner (l : Launch) (D : va_G) (cI cJ cB cZ : ClassId) (sz : Nat) (q_this : Nat) (q_pages : Nat) (q_node : Nat) (q_row : Nat) (q_path : Nat) (q_slots : Nat) (q_cell : Nat) (q_waiting : Nat) (q_leaves : Nat) (q_pages_bytes : Nat) (q_node_bytes : Nat) (q_node_starts : Nat) (q_node_sizes : Nat) (v_depth : Int32) (v_slot : Int32) (v_cellSize : Int32) (v_pages_count : Int32) (v_pages_bytes : Nat → Int32) (v_node_count : Int32) (v_node_last : Int32) (v_node_leaf : Int32) (v_node_bytes : Nat → Int32) (v_node_starts : Nat → Int32) (v_node_sizes : Nat → Int32) (v_path : Nat → Int32) (v_slots : Nat → Int32) (x_1 : Int32) (x_2 : Int32) (o_pages_bytes : Nat → Int32) (o_node_count : Int32) (o_node_last : Int32) (o_node_leaf : Int32) (o_node_bytes : Nat → Int32) (o_node_starts : Nat → Int32) (o_node_sizes : Nat → Int32) (hf : f_Tree_dropInner v_depth v_pages_count v_path v_slots v_pages_bytes v_node_count v_node_last v_node_leaf v_node_bytes v_node_starts v_node_sizes x_1 x_2 = some (o_pages_bytes, o_node_count, o_node_last, o_node_leaf, o_node_bytes, o_node_starts, o_node_sizes)) : Met l y_Tree_dropInner (.code y_Tree_dropInner b_Tree_dropInner 3 none :: pu_wA) rm_Tree_dropInner (pu_pc D pu_cl (pu_ty cI cJ cB cZ) [.ref q_this, .int x_1, .int x_2] [(q_this, .inr (5, [.ref q_pages, .ref q_node, .ref q_row, .ref q_path, .ref q_slots, .int v_depth, .int v_slot, .ref q_cell, .int v_cellSize, .ref q_waiting, .ref q_leaves])), (q_pages, .inr (0, [.ref q_pages_bytes, .int v_pages_count])), (q_pages_bytes, .inl (cB, 1536, .inl v_pages_bytes)), (q_node, .inr (3, [.ref q_node_bytes, .ref q_node_starts, .ref q_node_sizes, .int v_node_count, .int v_node_last, .int v_node_leaf])), (q_node_bytes, .inl (cB, 96, .inl v_node_bytes)), (q_node_starts, .inl (cI, 31, .inl v_node_starts)), (q_node_sizes, .inl (cI, 31, .inl v_node_sizes)), (q_path, .inl (cI, 25, .inl v_path)), (q_slots, .inl (cI, 25, .inl v_slots))] sz) (pu_qv D pu_cl (pu_ty cI cJ cB cZ) [(q_this, .inr (5, [.ref q_pages, .ref q_node, .ref q_row, .ref q_path, .ref q_slots, .int v_depth, .int v_slot, .ref q_cell, .int v_cellSize, .ref q_waiting, .ref q_leaves])), (q_pages, .inr (0, [.ref q_pages_bytes, .int v_pages_count])), (q_pages_bytes, .inl (cB, 1536, .inl v_pages_bytes)), (q_node, .inr (3, [.ref q_node_bytes, .ref q_node_starts, .ref q_node_sizes, .int v_node_count, .int v_node_last, .int v_node_leaf])), (q_node_bytes, .inl (cB, 96, .inl v_node_bytes)), (q_node_starts, .inl (cI, 31, .inl v_node_starts)), (q_node_sizes, .inl (cI, 31, .inl v_node_sizes)), (q_path, .inl (cI, 25, .inl v_path)), (q_slots, .inl (cI, 25, .inl v_slots))] [(q_this, .inr (5, [.ref q_pages, .ref q_node, .ref q_row, .ref q_path, .ref q_slots, .int v_depth, .int v_slot, .ref q_cell, .int v_cellSize, .ref q_waiting, .ref q_leaves])), (q_pages, .inr (0, [.ref q_pages_bytes, .int v_pages_count])), (q_pages_bytes, .inl (cB, 1536, .inl o_pages_bytes)), (q_node, .inr (3, [.ref q_node_bytes, .ref q_node_starts, .ref q_node_sizes, .int o_node_count, .int o_node_last, .int o_node_leaf])), (q_node_bytes, .inl (cB, 96, .inl o_node_bytes)), (q_node_starts, .inl (cI, 31, .inl o_node_starts)), (q_node_sizes, .inl (cI, 31, .inl o_node_sizes)), (q_path, .inl (cI, 25, .inl v_path)), (q_slots, .inl (cI, 25, .inl v_slots))] sz) 0 0 (va_A [(q_this, .inr (5, [.ref q_pages, .ref q_node, .ref q_row, .ref q_path, .ref q_slots, .int v_depth, .int v_slot, .ref q_cell, .int v_cellSize, .ref q_waiting, .ref q_leaves])), (q_pages, .inr (0, [.ref q_pages_bytes, .int v_pages_count])), (q_pages_bytes, .inl (cB, 1536, .inl v_pages_bytes)), (q_node, .inr (3, [.ref q_node_bytes, .ref q_node_starts, .ref q_node_sizes, .int v_node_count, .int v_node_last, .int v_node_leaf])), (q_node_bytes, .inl (cB, 96, .inl v_node_bytes)), (q_node_starts, .inl (cI, 31, .inl v_node_starts)), (q_node_sizes, .inl (cI, 31, .inl v_node_sizes)), (q_path, .inl (cI, 25, .inl v_path)), (q_slots, .inl (cI, 25, .inl v_slots))] sz) := by
  refine pu_mtv [.ref q_this, .int x_1, .int x_2] [(q_this, .inr (5, [.ref q_pages, .ref q_node, .ref q_row, .ref q_path, .ref q_slots, .int v_depth, .int v_slot, .ref q_cell, .int v_cellSize, .ref q_waiting, .ref q_leaves])), (q_pages, .inr (0, [.ref q_pages_bytes, .int v_pages_count])), (q_pages_bytes, .inl (cB, 1536, .inl v_pages_bytes)), (q_node, .inr (3, [.ref q_node_bytes, .ref q_node_starts, .ref q_node_sizes, .int v_node_count, .int v_node_last, .int v_node_leaf])), (q_node_bytes, .inl (cB, 96, .inl v_node_bytes)), (q_node_starts, .inl (cI, 31, .inl v_node_starts)), (q_node_sizes, .inl (cI, 31, .inl v_node_sizes)), (q_path, .inl (cI, 25, .inl v_path)), (q_slots, .inl (cI, 25, .inl v_slots))] [(q_this, .inr (5, [.ref q_pages, .ref q_node, .ref q_row, .ref q_path, .ref q_slots, .int v_depth, .int v_slot, .ref q_cell, .int v_cellSize, .ref q_waiting, .ref q_leaves])), (q_pages, .inr (0, [.ref q_pages_bytes, .int v_pages_count])), (q_pages_bytes, .inl (cB, 1536, .inl o_pages_bytes)), (q_node, .inr (3, [.ref q_node_bytes, .ref q_node_starts, .ref q_node_sizes, .int o_node_count, .int o_node_last, .int o_node_leaf])), (q_node_bytes, .inl (cB, 96, .inl o_node_bytes)), (q_node_starts, .inl (cI, 31, .inl o_node_starts)), (q_node_sizes, .inl (cI, 31, .inl o_node_sizes)), (q_path, .inl (cI, 25, .inl v_path)), (q_slots, .inl (cI, 25, .inl v_slots))] (by decide) (Nat.le_of_ble_eq_true rfl) ?_
  intro p e s m args below meth c A Q ls hx hb hml hts hN hown hK hA hP hD hl hret0
  have hS : va_S A s.heap s.heap [] := va_S.rf
  have hl : lv_has ls 3 [(0, .ref q_this), (1, .int x_1), (2, .int x_2)] := hl
  have hret : ∀ (pc : Nat) (ls : Array Slot) (H : Heap) (locs : List Loc) (y_0 : Nat → Int32) (y_1 : Int32) (y_2 : Int32) (y_3 : Int32) (y_4 : Nat → Int32) (y_5 : Nat → Int32) (y_6 : Nat → Int32), decode b_Tree_dropInner pc = .ok (.return_, 1) → va_P D pu_cl [(q_this, .inr (5, [.ref q_pages, .ref q_node, .ref q_row, .ref q_path, .ref q_slots, .int v_depth, .int v_slot, .ref q_cell, .int v_cellSize, .ref q_waiting, .ref q_leaves])), (q_pages, .inr (0, [.ref q_pages_bytes, .int v_pages_count])), (q_pages_bytes, .inl (cB, 1536, .inl y_0)), (q_node, .inr (3, [.ref q_node_bytes, .ref q_node_starts, .ref q_node_sizes, .int y_1, .int y_2, .int y_3])), (q_node_bytes, .inl (cB, 96, .inl y_4)), (q_node_starts, .inl (cI, 31, .inl y_5)), (q_node_sizes, .inl (cI, 31, .inl y_6)), (q_path, .inl (cI, 25, .inl v_path)), (q_slots, .inl (cI, 25, .inl v_slots))] H → va_D A [(q_this, .inr (5, [.ref q_pages, .ref q_node, .ref q_row, .ref q_path, .ref q_slots, .int v_depth, .int v_slot, .ref q_cell, .int v_cellSize, .ref q_waiting, .ref q_leaves])), (q_pages, .inr (0, [.ref q_pages_bytes, .int v_pages_count])), (q_pages_bytes, .inl (cB, 1536, .inl y_0)), (q_node, .inr (3, [.ref q_node_bytes, .ref q_node_starts, .ref q_node_sizes, .int y_1, .int y_2, .int y_3])), (q_node_bytes, .inl (cB, 96, .inl y_4)), (q_node_starts, .inl (cI, 31, .inl y_5)), (q_node_sizes, .inl (cI, 31, .inl y_6)), (q_path, .inl (cI, 25, .inl v_path)), (q_slots, .inl (cI, 25, .inl v_slots))] → va_S A s.heap H locs → some (y_0, y_1, y_2, y_3, y_4, y_5, y_6) = some (o_pages_bytes, o_node_count, o_node_last, o_node_leaf, o_node_bytes, o_node_starts, o_node_sizes) → W p l e rm_Tree_dropInner s m args below meth c H locs 0 0 Q (F0 m pc ls []) := by
    intro pc ls H locs y_0 y_1 y_2 y_3 y_4 y_5 y_6 hd hP hD hS hf
    cases hf
    exact hret0 pc ls H locs hd hP hD hS
  clear hret0
  unfold f_Tree_dropInner at hf
  skip
  obtain ⟨H, hH⟩ : ∃ H, H = s.heap := ⟨_, rfl⟩
  obtain ⟨locs, hlocs⟩ : ∃ locs : List Loc, locs = [] := ⟨_, rfl⟩
  have hP : va_P D pu_cl [(q_this, .inr (5, [.ref q_pages, .ref q_node, .ref q_row, .ref q_path, .ref q_slots, .int v_depth, .int v_slot, .ref q_cell, .int v_cellSize, .ref q_waiting, .ref q_leaves])), (q_pages, .inr (0, [.ref q_pages_bytes, .int v_pages_count])), (q_pages_bytes, .inl (cB, 1536, .inl v_pages_bytes)), (q_node, .inr (3, [.ref q_node_bytes, .ref q_node_starts, .ref q_node_sizes, .int v_node_count, .int v_node_last, .int v_node_leaf])), (q_node_bytes, .inl (cB, 96, .inl v_node_bytes)), (q_node_starts, .inl (cI, 31, .inl v_node_starts)), (q_node_sizes, .inl (cI, 31, .inl v_node_sizes)), (q_path, .inl (cI, 25, .inl v_path)), (q_slots, .inl (cI, 25, .inl v_slots))] H := by rw [hH]; exact hP
  have hS : va_S A s.heap H locs := by rw [hH, hlocs]; exact hS
  have goal : W p l e rm_Tree_dropInner s m args below meth c H locs 0 0 Q (F0 m 0 ls []) := by
    clear hH hlocs
    refine lv_aload_n hx hb d_Tree_dropInner_0 rfl (lv_at hl 0 rfl) ?_
    refine gf_Tree_48 (v := .int v_depth) hx hb hts hN hown hK hP 0 rfl rfl d_Tree_dropInner_1 ?_
    refine lv_iconst (v := 2) hx hb d_Tree_dropInner_4 rfl ?_
    refine lv_icmp_ge (tgt := 32) hx hb d_Tree_dropInner_5 rfl (fun hc => ?_) (fun hc => ?_)
    · have hf := pu_br_pos hf hc
      refine lv_aload_n hx hb d_Tree_dropInner_32 rfl (lv_at hl 0 rfl) ?_
      refine gf_Tree_34 (v := .ref q_node) hx hb hts hN hown hK hP 0 rfl rfl d_Tree_dropInner_33 ?_
      refine lv_aload_n hx hb d_Tree_dropInner_36 rfl (lv_at hl 0 rfl) ?_
      refine gf_Tree_30 (v := .ref q_pages) hx hb hts hN hown hK hP 0 rfl rfl d_Tree_dropInner_37 ?_
      refine lv_aload_n hx hb d_Tree_dropInner_40 rfl (lv_at hl 0 rfl) ?_
      refine gf_Tree_9 (v := .ref q_path) hx hb hts hN hown hK hP 0 rfl rfl d_Tree_dropInner_41 ?_
      refine lv_aload_n hx hb d_Tree_dropInner_44 rfl (lv_at hl 0 rfl) ?_
      refine gf_Tree_48 (v := .int v_depth) hx hb hts hN hown hK hP 0 rfl rfl d_Tree_dropInner_45 ?_
      refine lv_iconst (v := 2) hx hb d_Tree_dropInner_48 rfl ?_
      refine lv_isub hx hb d_Tree_dropInner_49 ?_
      obtain ⟨hin, hf⟩ := pu_ck_some hf
      refine va_iald hx hb hK hP 7 0 rfl rfl hin d_Tree_dropInner_50 ?_
      obtain ⟨r1, w2, w3, w4, w5, w6, w7, hc, hf⟩ := pu_b7_some hf
      refine cl_i (WC := [(q_node, .inr (3, [.ref q_node_bytes, .ref q_node_starts, .ref q_node_sizes, .int v_node_count, .int v_node_last, .int v_node_leaf])), (q_node_bytes, .inl (cB, 96, .inl v_node_bytes)), (q_node_starts, .inl (cI, 31, .inl v_node_starts)), (q_node_sizes, .inl (cI, 31, .inl v_node_sizes)), (q_pages, .inr (0, [.ref q_pages_bytes, .int v_pages_count])), (q_pages_bytes, .inl (cB, 1536, .inl v_pages_bytes))]) (WC2 := [(q_node, .inr (3, [.ref q_node_bytes, .ref q_node_starts, .ref q_node_sizes, .int w2, .int w3, .int w4])), (q_node_bytes, .inl (cB, 96, .inl w5)), (q_node_starts, .inl (cI, 31, .inl w6)), (q_node_sizes, .inl (cI, 31, .inl w7)), (q_pages, .inr (0, [.ref q_pages_bytes, .int v_pages_count])), (q_pages_bytes, .inl (cB, 1536, .inl v_pages_bytes))]) (WR := [(q_this, .inr (5, [.ref q_pages, .ref q_node, .ref q_row, .ref q_path, .ref q_slots, .int v_depth, .int v_slot, .ref q_cell, .int v_cellSize, .ref q_waiting, .ref q_leaves])), (q_path, .inl (cI, 25, .inl v_path)), (q_slots, .inl (cI, 25, .inl v_slots))]) (WS2 := [(q_this, .inr (5, [.ref q_pages, .ref q_node, .ref q_row, .ref q_path, .ref q_slots, .int v_depth, .int v_slot, .ref q_cell, .int v_cellSize, .ref q_waiting, .ref q_leaves])), (q_pages, .inr (0, [.ref q_pages_bytes, .int v_pages_count])), (q_pages_bytes, .inl (cB, 1536, .inl v_pages_bytes)), (q_node, .inr (3, [.ref q_node_bytes, .ref q_node_starts, .ref q_node_sizes, .int w2, .int w3, .int w4])), (q_node_bytes, .inl (cB, 96, .inl w5)), (q_node_starts, .inl (cI, 31, .inl w6)), (q_node_sizes, .inl (cI, 31, .inl w7)), (q_path, .inl (cI, 25, .inl v_path)), (q_slots, .inl (cI, 25, .inl v_slots))]) (pu_rv (cl := pu_cl) (pu_in3 _ (List.mem_of_getElem? (i := 41) rfl)) (pu_in3 _ (List.mem_of_getElem? (i := 42) rfl)) (pu_in3 _ (List.mem_of_getElem? (i := 43) rfl)) (pu_in0 _ (List.mem_of_getElem? (i := 6) rfl)) (pu_in3 _ (List.mem_of_getElem? (i := 44) rfl)) (ci := 3) rfl hd_Node_load (by decide) ⟨rfl, rfl⟩ rfl rfl (Nat.le_of_ble_eq_true rfl) rfl (As := [.ref q_pages, .int (v_path (v_depth - (2 : Int32)).toNatClampNeg)]) (rest := []) (WC := [(q_node, .inr (3, [.ref q_node_bytes, .ref q_node_starts, .ref q_node_sizes, .int v_node_count, .int v_node_last, .int v_node_leaf])), (q_node_bytes, .inl (cB, 96, .inl v_node_bytes)), (q_node_starts, .inl (cI, 31, .inl v_node_starts)), (q_node_sizes, .inl (cI, 31, .inl v_node_sizes)), (q_pages, .inr (0, [.ref q_pages_bytes, .int v_pages_count])), (q_pages_bytes, .inl (cB, 1536, .inl v_pages_bytes))]) hx hb hml hown hts hN hK hP hD (c_Node_load l D cI cJ cB cZ H.size q_node q_node_bytes q_node_starts q_node_sizes q_pages q_pages_bytes v_node_count v_node_last v_node_leaf v_node_bytes v_node_starts v_node_sizes v_pages_count v_pages_bytes (v_path (v_depth - (2 : Int32)).toNatClampNeg) r1 w2 w3 w4 w5 w6 w7 hc) [3, 4, 5, 6, 1, 2] rfl rfl hl.1 d_Tree_dropInner_51) hP hD hS hA [3, 4, 5, 6, 1, 2] [0, 7, 8] [0, 7, 8, 3, 4, 5, 6, 1, 2] rfl rfl rfl (by decide) rfl rfl (fun H locs hP hD hS => ?_)
      refine lv_pop hx hb d_Tree_dropInner_54 rfl ?_
      refine lv_aload_n hx hb d_Tree_dropInner_55 rfl (lv_at hl 0 rfl) ?_
      refine gf_Tree_34 (v := .ref q_node) hx hb hts hN hown hK hP 0 rfl rfl d_Tree_dropInner_56 ?_
      refine lv_aload_n hx hb d_Tree_dropInner_59 rfl (lv_at hl 0 rfl) ?_
      refine gf_Tree_15 (v := .ref q_slots) hx hb hts hN hown hK hP 0 rfl rfl d_Tree_dropInner_60 ?_
      refine lv_aload_n hx hb d_Tree_dropInner_63 rfl (lv_at hl 0 rfl) ?_
      refine gf_Tree_48 (v := .int v_depth) hx hb hts hN hown hK hP 0 rfl rfl d_Tree_dropInner_64 ?_
      refine lv_iconst (v := 2) hx hb d_Tree_dropInner_67 rfl ?_
      refine lv_isub hx hb d_Tree_dropInner_68 ?_
      obtain ⟨hin, hf⟩ := pu_ck_some hf
      refine va_iald hx hb hK hP 8 0 rfl rfl hin d_Tree_dropInner_69 ?_
      refine lv_iload_n hx hb d_Tree_dropInner_70 rfl (lv_at hl 2 rfl) ?_
      obtain ⟨w9, w10, hc, hf⟩ := pu_b2_some hf
      refine cl_v (WC := [(q_node, .inr (3, [.ref q_node_bytes, .ref q_node_starts, .ref q_node_sizes, .int w2, .int w3, .int w4])), (q_node_bytes, .inl (cB, 96, .inl w5)), (q_node_starts, .inl (cI, 31, .inl w6))]) (WC2 := [(q_node, .inr (3, [.ref q_node_bytes, .ref q_node_starts, .ref q_node_sizes, .int w2, .int w9, .int w4])), (q_node_bytes, .inl (cB, 96, .inl w10)), (q_node_starts, .inl (cI, 31, .inl w6))]) (WR := [(q_this, .inr (5, [.ref q_pages, .ref q_node, .ref q_row, .ref q_path, .ref q_slots, .int v_depth, .int v_slot, .ref q_cell, .int v_cellSize, .ref q_waiting, .ref q_leaves])), (q_pages, .inr (0, [.ref q_pages_bytes, .int v_pages_count])), (q_pages_bytes, .inl (cB, 1536, .inl v_pages_bytes)), (q_node_sizes, .inl (cI, 31, .inl w7)), (q_path, .inl (cI, 25, .inl v_path)), (q_slots, .inl (cI, 25, .inl v_slots))]) (WS2 := [(q_this, .inr (5, [.ref q_pages, .ref q_node, .ref q_row, .ref q_path, .ref q_slots, .int v_depth, .int v_slot, .ref q_cell, .int v_cellSize, .ref q_waiting, .ref q_leaves])), (q_pages, .inr (0, [.ref q_pages_bytes, .int v_pages_count])), (q_pages_bytes, .inl (cB, 1536, .inl v_pages_bytes)), (q_node, .inr (3, [.ref q_node_bytes, .ref q_node_starts, .ref q_node_sizes, .int w2, .int w9, .int w4])), (q_node_bytes, .inl (cB, 96, .inl w10)), (q_node_starts, .inl (cI, 31, .inl w6)), (q_node_sizes, .inl (cI, 31, .inl w7)), (q_path, .inl (cI, 25, .inl v_path)), (q_slots, .inl (cI, 25, .inl v_slots))]) (pu_rv (cl := pu_cl) (pu_in5 _ (List.mem_of_getElem? (i := 52) rfl)) (pu_in5 _ (List.mem_of_getElem? (i := 53) rfl)) (pu_in5 _ (List.mem_of_getElem? (i := 54) rfl)) (pu_in0 _ (List.mem_of_getElem? (i := 6) rfl)) (pu_in5 _ (List.mem_of_getElem? (i := 55) rfl)) (ci := 3) rfl hd_Node_setChild (by decide) ⟨rfl, rfl⟩ rfl rfl (Nat.le_of_ble_eq_true rfl) rfl (As := [.int (v_slots (v_depth - (2 : Int32)).toNatClampNeg), .int x_2]) (rest := []) (WC := [(q_node, .inr (3, [.ref q_node_bytes, .ref q_node_starts, .ref q_node_sizes, .int w2, .int w3, .int w4])), (q_node_bytes, .inl (cB, 96, .inl w5)), (q_node_starts, .inl (cI, 31, .inl w6))]) hx hb hml hown hts hN hK hP hD (c_Node_setChild l D cI cJ cB cZ H.size q_node q_node_bytes q_node_starts q_node_sizes w2 w3 w4 w5 w6 (v_slots (v_depth - (2 : Int32)).toNatClampNeg) x_2 w9 w10 hc) [3, 4, 5] rfl rfl hl.1 d_Tree_dropInner_71) hP hD hS hA [3, 4, 5] [0, 1, 2, 6, 7, 8] [0, 1, 2, 6, 7, 8, 3, 4, 5] rfl rfl rfl (by decide) rfl rfl (fun H locs hP hD hS => ?_)
      refine lv_aload_n hx hb d_Tree_dropInner_74 rfl (lv_at hl 0 rfl) ?_
      refine gf_Tree_34 (v := .ref q_node) hx hb hts hN hown hK hP 0 rfl rfl d_Tree_dropInner_75 ?_
      refine lv_aload_n hx hb d_Tree_dropInner_78 rfl (lv_at hl 0 rfl) ?_
      refine gf_Tree_30 (v := .ref q_pages) hx hb hts hN hown hK hP 0 rfl rfl d_Tree_dropInner_79 ?_
      refine lv_aload_n hx hb d_Tree_dropInner_82 rfl (lv_at hl 0 rfl) ?_
      refine gf_Tree_9 (v := .ref q_path) hx hb hts hN hown hK hP 0 rfl rfl d_Tree_dropInner_83 ?_
      refine lv_aload_n hx hb d_Tree_dropInner_86 rfl (lv_at hl 0 rfl) ?_
      refine gf_Tree_48 (v := .int v_depth) hx hb hts hN hown hK hP 0 rfl rfl d_Tree_dropInner_87 ?_
      refine lv_iconst (v := 2) hx hb d_Tree_dropInner_90 rfl ?_
      refine lv_isub hx hb d_Tree_dropInner_91 ?_
      obtain ⟨hin, hf⟩ := pu_ck_some hf
      refine va_iald hx hb hK hP 7 0 rfl rfl hin d_Tree_dropInner_92 ?_
      obtain ⟨w12, hc, hf⟩ := pu_b1_some hf
      refine cl_v (WC := [(q_node, .inr (3, [.ref q_node_bytes, .ref q_node_starts, .ref q_node_sizes, .int w2, .int w9, .int w4])), (q_node_bytes, .inl (cB, 96, .inl w10)), (q_node_starts, .inl (cI, 31, .inl w6)), (q_node_sizes, .inl (cI, 31, .inl w7)), (q_pages, .inr (0, [.ref q_pages_bytes, .int v_pages_count])), (q_pages_bytes, .inl (cB, 1536, .inl v_pages_bytes))]) (WC2 := [(q_node, .inr (3, [.ref q_node_bytes, .ref q_node_starts, .ref q_node_sizes, .int w2, .int w9, .int w4])), (q_node_bytes, .inl (cB, 96, .inl w10)), (q_node_starts, .inl (cI, 31, .inl w6)), (q_node_sizes, .inl (cI, 31, .inl w7)), (q_pages, .inr (0, [.ref q_pages_bytes, .int v_pages_count])), (q_pages_bytes, .inl (cB, 1536, .inl w12))]) (WR := [(q_this, .inr (5, [.ref q_pages, .ref q_node, .ref q_row, .ref q_path, .ref q_slots, .int v_depth, .int v_slot, .ref q_cell, .int v_cellSize, .ref q_waiting, .ref q_leaves])), (q_path, .inl (cI, 25, .inl v_path)), (q_slots, .inl (cI, 25, .inl v_slots))]) (WS2 := [(q_this, .inr (5, [.ref q_pages, .ref q_node, .ref q_row, .ref q_path, .ref q_slots, .int v_depth, .int v_slot, .ref q_cell, .int v_cellSize, .ref q_waiting, .ref q_leaves])), (q_pages, .inr (0, [.ref q_pages_bytes, .int v_pages_count])), (q_pages_bytes, .inl (cB, 1536, .inl w12)), (q_node, .inr (3, [.ref q_node_bytes, .ref q_node_starts, .ref q_node_sizes, .int w2, .int w9, .int w4])), (q_node_bytes, .inl (cB, 96, .inl w10)), (q_node_starts, .inl (cI, 31, .inl w6)), (q_node_sizes, .inl (cI, 31, .inl w7)), (q_path, .inl (cI, 25, .inl v_path)), (q_slots, .inl (cI, 25, .inl v_slots))]) (pu_rv (cl := pu_cl) (pu_in5 _ (List.mem_of_getElem? (i := 15) rfl)) (pu_in5 _ (List.mem_of_getElem? (i := 16) rfl)) (pu_in5 _ (List.mem_of_getElem? (i := 17) rfl)) (pu_in0 _ (List.mem_of_getElem? (i := 6) rfl)) (pu_in5 _ (List.mem_of_getElem? (i := 18) rfl)) (ci := 3) rfl hd_Node_storeAll (by decide) ⟨rfl, rfl⟩ rfl rfl (Nat.le_of_ble_eq_true rfl) rfl (As := [.ref q_pages, .int (v_path (v_depth - (2 : Int32)).toNatClampNeg)]) (rest := []) (WC := [(q_node, .inr (3, [.ref q_node_bytes, .ref q_node_starts, .ref q_node_sizes, .int w2, .int w9, .int w4])), (q_node_bytes, .inl (cB, 96, .inl w10)), (q_node_starts, .inl (cI, 31, .inl w6)), (q_node_sizes, .inl (cI, 31, .inl w7)), (q_pages, .inr (0, [.ref q_pages_bytes, .int v_pages_count])), (q_pages_bytes, .inl (cB, 1536, .inl v_pages_bytes))]) hx hb hml hown hts hN hK hP hD (c_Node_storeAll l D cI cJ cB cZ H.size q_node q_node_bytes q_node_starts q_node_sizes q_pages q_pages_bytes w2 w9 w4 w10 w6 w7 v_pages_count v_pages_bytes (v_path (v_depth - (2 : Int32)).toNatClampNeg) w12 hc) [3, 4, 5, 6, 1, 2] rfl rfl hl.1 d_Tree_dropInner_93) hP hD hS hA [3, 4, 5, 6, 1, 2] [0, 7, 8] [0, 7, 8, 3, 4, 5, 6, 1, 2] rfl rfl rfl (by decide) rfl rfl (fun H locs hP hD hS => ?_)
      refine lv_aload_n hx hb d_Tree_dropInner_96 rfl (lv_at hl 0 rfl) ?_
      refine gf_Tree_30 (v := .ref q_pages) hx hb hts hN hown hK hP 0 rfl rfl d_Tree_dropInner_97 ?_
      refine lv_iload_n hx hb d_Tree_dropInner_100 rfl (lv_at hl 1 rfl) ?_
      obtain ⟨w14, hc, hf⟩ := pu_b1_some hf
      refine cl_v (WC := [(q_pages, .inr (0, [.ref q_pages_bytes, .int v_pages_count])), (q_pages_bytes, .inl (cB, 1536, .inl w12))]) (WC2 := [(q_pages, .inr (0, [.ref q_pages_bytes, .int v_pages_count])), (q_pages_bytes, .inl (cB, 1536, .inl w14))]) (WR := [(q_this, .inr (5, [.ref q_pages, .ref q_node, .ref q_row, .ref q_path, .ref q_slots, .int v_depth, .int v_slot, .ref q_cell, .int v_cellSize, .ref q_waiting, .ref q_leaves])), (q_node, .inr (3, [.ref q_node_bytes, .ref q_node_starts, .ref q_node_sizes, .int w2, .int w9, .int w4])), (q_node_bytes, .inl (cB, 96, .inl w10)), (q_node_starts, .inl (cI, 31, .inl w6)), (q_node_sizes, .inl (cI, 31, .inl w7)), (q_path, .inl (cI, 25, .inl v_path)), (q_slots, .inl (cI, 25, .inl v_slots))]) (WS2 := [(q_this, .inr (5, [.ref q_pages, .ref q_node, .ref q_row, .ref q_path, .ref q_slots, .int v_depth, .int v_slot, .ref q_cell, .int v_cellSize, .ref q_waiting, .ref q_leaves])), (q_pages, .inr (0, [.ref q_pages_bytes, .int v_pages_count])), (q_pages_bytes, .inl (cB, 1536, .inl w14)), (q_node, .inr (3, [.ref q_node_bytes, .ref q_node_starts, .ref q_node_sizes, .int w2, .int w9, .int w4])), (q_node_bytes, .inl (cB, 96, .inl w10)), (q_node_starts, .inl (cI, 31, .inl w6)), (q_node_sizes, .inl (cI, 31, .inl w7)), (q_path, .inl (cI, 25, .inl v_path)), (q_slots, .inl (cI, 25, .inl v_slots))]) (pu_rv (cl := pu_cl) (pu_in5 _ (List.mem_of_getElem? (i := 38) rfl)) (pu_in5 _ (List.mem_of_getElem? (i := 39) rfl)) (pu_in5 _ (List.mem_of_getElem? (i := 40) rfl)) (pu_in0 _ (List.mem_of_getElem? (i := 3) rfl)) (pu_in5 _ (List.mem_of_getElem? (i := 41) rfl)) (ci := 0) rfl hd_Pages_freePage (by decide) ⟨rfl, rfl⟩ rfl rfl (Nat.le_of_ble_eq_true rfl) rfl (As := [.int x_1]) (rest := []) (WC := [(q_pages, .inr (0, [.ref q_pages_bytes, .int v_pages_count])), (q_pages_bytes, .inl (cB, 1536, .inl w12))]) hx hb hml hown hts hN hK hP hD (c_Pages_freePage l D cI cJ cB cZ H.size q_pages q_pages_bytes v_pages_count w12 x_1 w14 hc) [1, 2] rfl rfl hl.1 d_Tree_dropInner_101) hP hD hS hA [1, 2] [0, 3, 4, 5, 6, 7, 8] [0, 7, 8, 1, 2, 3, 4, 5, 6] rfl rfl rfl (by decide) rfl rfl (fun H locs hP hD hS => ?_)
      exact hret _ _ _ _ w14 w2 w9 w4 w10 w6 w7 d_Tree_dropInner_104 hP hD hS hf
    have hf := pu_br_neg hf hc
    refine lv_aload_n hx hb d_Tree_dropInner_8 rfl (lv_at hl 0 rfl) ?_
    refine gf_Tree_30 (v := .ref q_pages) hx hb hts hN hown hK hP 0 rfl rfl d_Tree_dropInner_9 ?_
    refine lv_iload_n hx hb d_Tree_dropInner_12 rfl (lv_at hl 1 rfl) ?_
    refine lv_aload_n hx hb d_Tree_dropInner_13 rfl (lv_at hl 0 rfl) ?_
    refine gf_Tree_30 (v := .ref q_pages) hx hb hts hN hown hK hP 0 rfl rfl d_Tree_dropInner_14 ?_
    refine lv_iload_n hx hb d_Tree_dropInner_17 rfl (lv_at hl 2 rfl) ?_
    refine lv_bipush (v := 64) hx hb d_Tree_dropInner_18 rfl ?_
    obtain ⟨w16, hc, hf⟩ := pu_b1_some hf
    refine cl_v (WC := [(q_pages, .inr (0, [.ref q_pages_bytes, .int v_pages_count])), (q_pages_bytes, .inl (cB, 1536, .inl v_pages_bytes))]) (WC2 := [(q_pages, .inr (0, [.ref q_pages_bytes, .int v_pages_count])), (q_pages_bytes, .inl (cB, 1536, .inl w16))]) (WR := [(q_this, .inr (5, [.ref q_pages, .ref q_node, .ref q_row, .ref q_path, .ref q_slots, .int v_depth, .int v_slot, .ref q_cell, .int v_cellSize, .ref q_waiting, .ref q_leaves])), (q_node, .inr (3, [.ref q_node_bytes, .ref q_node_starts, .ref q_node_sizes, .int v_node_count, .int v_node_last, .int v_node_leaf])), (q_node_bytes, .inl (cB, 96, .inl v_node_bytes)), (q_node_starts, .inl (cI, 31, .inl v_node_starts)), (q_node_sizes, .inl (cI, 31, .inl v_node_sizes)), (q_path, .inl (cI, 25, .inl v_path)), (q_slots, .inl (cI, 25, .inl v_slots))]) (WS2 := [(q_this, .inr (5, [.ref q_pages, .ref q_node, .ref q_row, .ref q_path, .ref q_slots, .int v_depth, .int v_slot, .ref q_cell, .int v_cellSize, .ref q_waiting, .ref q_leaves])), (q_pages, .inr (0, [.ref q_pages_bytes, .int v_pages_count])), (q_pages_bytes, .inl (cB, 1536, .inl w16)), (q_node, .inr (3, [.ref q_node_bytes, .ref q_node_starts, .ref q_node_sizes, .int v_node_count, .int v_node_last, .int v_node_leaf])), (q_node_bytes, .inl (cB, 96, .inl v_node_bytes)), (q_node_starts, .inl (cI, 31, .inl v_node_starts)), (q_node_sizes, .inl (cI, 31, .inl v_node_sizes)), (q_path, .inl (cI, 25, .inl v_path)), (q_slots, .inl (cI, 25, .inl v_slots))]) (pu_rv (cl := pu_cl) (pu_in5 _ (List.mem_of_getElem? (i := 48) rfl)) (pu_in5 _ (List.mem_of_getElem? (i := 49) rfl)) (pu_in5 _ (List.mem_of_getElem? (i := 50) rfl)) (pu_in0 _ (List.mem_of_getElem? (i := 3) rfl)) (pu_in5 _ (List.mem_of_getElem? (i := 51) rfl)) (ci := 0) rfl hd_Pages_copyPage (by decide) ⟨rfl, rfl⟩ rfl rfl (Nat.le_of_ble_eq_true rfl) rfl (As := [.int x_1, .ref q_pages, .int x_2, .int (64 : Int32)]) (rest := []) (WC := [(q_pages, .inr (0, [.ref q_pages_bytes, .int v_pages_count])), (q_pages_bytes, .inl (cB, 1536, .inl v_pages_bytes))]) hx hb hml hown hts hN hK hP hD (c_Pages_copyPage_al l D cI cJ cB cZ H.size q_pages q_pages_bytes v_pages_count v_pages_bytes x_1 x_2 (64 : Int32) w16 hc) [1, 2] rfl rfl hl.1 d_Tree_dropInner_20) hP hD hS hA [1, 2] [0, 3, 4, 5, 6, 7, 8] [0, 7, 8, 1, 2, 3, 4, 5, 6] rfl rfl rfl (by decide) rfl rfl (fun H locs hP hD hS => ?_)
    refine lv_aload_n hx hb d_Tree_dropInner_23 rfl (lv_at hl 0 rfl) ?_
    refine gf_Tree_30 (v := .ref q_pages) hx hb hts hN hown hK hP 0 rfl rfl d_Tree_dropInner_24 ?_
    refine lv_iload_n hx hb d_Tree_dropInner_27 rfl (lv_at hl 2 rfl) ?_
    obtain ⟨w18, hc, hf⟩ := pu_b1_some hf
    refine cl_v (WC := [(q_pages, .inr (0, [.ref q_pages_bytes, .int v_pages_count])), (q_pages_bytes, .inl (cB, 1536, .inl w16))]) (WC2 := [(q_pages, .inr (0, [.ref q_pages_bytes, .int v_pages_count])), (q_pages_bytes, .inl (cB, 1536, .inl w18))]) (WR := [(q_this, .inr (5, [.ref q_pages, .ref q_node, .ref q_row, .ref q_path, .ref q_slots, .int v_depth, .int v_slot, .ref q_cell, .int v_cellSize, .ref q_waiting, .ref q_leaves])), (q_node, .inr (3, [.ref q_node_bytes, .ref q_node_starts, .ref q_node_sizes, .int v_node_count, .int v_node_last, .int v_node_leaf])), (q_node_bytes, .inl (cB, 96, .inl v_node_bytes)), (q_node_starts, .inl (cI, 31, .inl v_node_starts)), (q_node_sizes, .inl (cI, 31, .inl v_node_sizes)), (q_path, .inl (cI, 25, .inl v_path)), (q_slots, .inl (cI, 25, .inl v_slots))]) (WS2 := [(q_this, .inr (5, [.ref q_pages, .ref q_node, .ref q_row, .ref q_path, .ref q_slots, .int v_depth, .int v_slot, .ref q_cell, .int v_cellSize, .ref q_waiting, .ref q_leaves])), (q_pages, .inr (0, [.ref q_pages_bytes, .int v_pages_count])), (q_pages_bytes, .inl (cB, 1536, .inl w18)), (q_node, .inr (3, [.ref q_node_bytes, .ref q_node_starts, .ref q_node_sizes, .int v_node_count, .int v_node_last, .int v_node_leaf])), (q_node_bytes, .inl (cB, 96, .inl v_node_bytes)), (q_node_starts, .inl (cI, 31, .inl v_node_starts)), (q_node_sizes, .inl (cI, 31, .inl v_node_sizes)), (q_path, .inl (cI, 25, .inl v_path)), (q_slots, .inl (cI, 25, .inl v_slots))]) (pu_rv (cl := pu_cl) (pu_in5 _ (List.mem_of_getElem? (i := 38) rfl)) (pu_in5 _ (List.mem_of_getElem? (i := 39) rfl)) (pu_in5 _ (List.mem_of_getElem? (i := 40) rfl)) (pu_in0 _ (List.mem_of_getElem? (i := 3) rfl)) (pu_in5 _ (List.mem_of_getElem? (i := 41) rfl)) (ci := 0) rfl hd_Pages_freePage (by decide) ⟨rfl, rfl⟩ rfl rfl (Nat.le_of_ble_eq_true rfl) rfl (As := [.int x_2]) (rest := []) (WC := [(q_pages, .inr (0, [.ref q_pages_bytes, .int v_pages_count])), (q_pages_bytes, .inl (cB, 1536, .inl w16))]) hx hb hml hown hts hN hK hP hD (c_Pages_freePage l D cI cJ cB cZ H.size q_pages q_pages_bytes v_pages_count w16 x_2 w18 hc) [1, 2] rfl rfl hl.1 d_Tree_dropInner_28) hP hD hS hA [1, 2] [0, 3, 4, 5, 6, 7, 8] [0, 7, 8, 1, 2, 3, 4, 5, 6] rfl rfl rfl (by decide) rfl rfl (fun H locs hP hD hS => ?_)
    exact hret _ _ _ _ w18 v_node_count v_node_last v_node_leaf v_node_bytes v_node_starts v_node_sizes d_Tree_dropInner_31 hP hD hS hf
  rw [hH, hlocs] at goal
  exact goal
theorem d_Tree_dropLeaf_0 : decode b_Tree_dropLeaf 0 = .ok (.aload_n 0, 1) := by decide +kernel
theorem d_Tree_dropLeaf_1 : decode b_Tree_dropLeaf 1 = .ok (.getfield 30, 3) := by decide +kernel
theorem d_Tree_dropLeaf_4 : decode b_Tree_dropLeaf 4 = .ok (.aload_n 0, 1) := by decide +kernel
theorem d_Tree_dropLeaf_5 : decode b_Tree_dropLeaf 5 = .ok (.getfield 9, 3) := by decide +kernel
theorem d_Tree_dropLeaf_8 : decode b_Tree_dropLeaf 8 = .ok (.aload_n 0, 1) := by decide +kernel
theorem d_Tree_dropLeaf_9 : decode b_Tree_dropLeaf 9 = .ok (.getfield 48, 3) := by decide +kernel
theorem d_Tree_dropLeaf_12 : decode b_Tree_dropLeaf 12 = .ok (.iaload, 1) := by decide +kernel
theorem d_Tree_dropLeaf_13 : decode b_Tree_dropLeaf 13 = .ok (.invokevirtual 172, 3) := by decide +kernel
theorem d_Tree_dropLeaf_16 : decode b_Tree_dropLeaf 16 = .ok (.aload_n 0, 1) := by decide +kernel
theorem d_Tree_dropLeaf_17 : decode b_Tree_dropLeaf 17 = .ok (.getfield 34, 3) := by decide +kernel
theorem d_Tree_dropLeaf_20 : decode b_Tree_dropLeaf 20 = .ok (.aload_n 0, 1) := by decide +kernel
theorem d_Tree_dropLeaf_21 : decode b_Tree_dropLeaf 21 = .ok (.getfield 30, 3) := by decide +kernel
theorem d_Tree_dropLeaf_24 : decode b_Tree_dropLeaf 24 = .ok (.iload_n 1, 1) := by decide +kernel
theorem d_Tree_dropLeaf_25 : decode b_Tree_dropLeaf 25 = .ok (.invokevirtual 52, 3) := by decide +kernel
theorem d_Tree_dropLeaf_28 : decode b_Tree_dropLeaf 28 = .ok (.pop, 1) := by decide +kernel
theorem d_Tree_dropLeaf_29 : decode b_Tree_dropLeaf 29 = .ok (.iload_n 2, 1) := by decide +kernel
theorem d_Tree_dropLeaf_30 : decode b_Tree_dropLeaf 30 = .ok (.istore_n 3, 1) := by decide +kernel
theorem d_Tree_dropLeaf_31 : decode b_Tree_dropLeaf 31 = .ok (.iload_n 2, 1) := by decide +kernel
theorem d_Tree_dropLeaf_32 : decode b_Tree_dropLeaf 32 = .ok (.aload_n 0, 1) := by decide +kernel
theorem d_Tree_dropLeaf_33 : decode b_Tree_dropLeaf 33 = .ok (.getfield 34, 3) := by decide +kernel
theorem d_Tree_dropLeaf_36 : decode b_Tree_dropLeaf 36 = .ok (.getfield 132, 3) := by decide +kernel
theorem d_Tree_dropLeaf_39 : decode b_Tree_dropLeaf 39 = .ok (.if_icmp .lt 28, 3) := by decide +kernel
theorem d_Tree_dropLeaf_42 : decode b_Tree_dropLeaf 42 = .ok (.aload_n 0, 1) := by decide +kernel
theorem d_Tree_dropLeaf_43 : decode b_Tree_dropLeaf 43 = .ok (.getfield 34, 3) := by decide +kernel
theorem d_Tree_dropLeaf_46 : decode b_Tree_dropLeaf 46 = .ok (.getfield 132, 3) := by decide +kernel
theorem d_Tree_dropLeaf_49 : decode b_Tree_dropLeaf 49 = .ok (.iconst 1, 1) := by decide +kernel
theorem d_Tree_dropLeaf_50 : decode b_Tree_dropLeaf 50 = .ok (.isub, 1) := by decide +kernel
theorem d_Tree_dropLeaf_51 : decode b_Tree_dropLeaf 51 = .ok (.istore_n 3, 1) := by decide +kernel
theorem d_Tree_dropLeaf_52 : decode b_Tree_dropLeaf 52 = .ok (.aload_n 0, 1) := by decide +kernel
theorem d_Tree_dropLeaf_53 : decode b_Tree_dropLeaf 53 = .ok (.getfield 34, 3) := by decide +kernel
theorem d_Tree_dropLeaf_56 : decode b_Tree_dropLeaf 56 = .ok (.aload_n 0, 1) := by decide +kernel
theorem d_Tree_dropLeaf_57 : decode b_Tree_dropLeaf 57 = .ok (.getfield 34, 3) := by decide +kernel
theorem d_Tree_dropLeaf_60 : decode b_Tree_dropLeaf 60 = .ok (.iload_n 3, 1) := by decide +kernel
theorem d_Tree_dropLeaf_61 : decode b_Tree_dropLeaf 61 = .ok (.invokevirtual 67, 3) := by decide +kernel
theorem d_Tree_dropLeaf_64 : decode b_Tree_dropLeaf 64 = .ok (.putfield 157, 3) := by decide +kernel
theorem d_Tree_dropLeaf_67 : decode b_Tree_dropLeaf 67 = .ok (.aload_n 0, 1) := by decide +kernel
theorem d_Tree_dropLeaf_68 : decode b_Tree_dropLeaf 68 = .ok (.getfield 34, 3) := by decide +kernel
theorem d_Tree_dropLeaf_71 : decode b_Tree_dropLeaf 71 = .ok (.iload_n 3, 1) := by decide +kernel
theorem d_Tree_dropLeaf_72 : decode b_Tree_dropLeaf 72 = .ok (.invokevirtual 166, 3) := by decide +kernel
theorem d_Tree_dropLeaf_75 : decode b_Tree_dropLeaf 75 = .ok (.aload_n 0, 1) := by decide +kernel
theorem d_Tree_dropLeaf_76 : decode b_Tree_dropLeaf 76 = .ok (.getfield 34, 3) := by decide +kernel
theorem d_Tree_dropLeaf_79 : decode b_Tree_dropLeaf 79 = .ok (.aload_n 0, 1) := by decide +kernel
theorem d_Tree_dropLeaf_80 : decode b_Tree_dropLeaf 80 = .ok (.getfield 30, 3) := by decide +kernel
theorem d_Tree_dropLeaf_83 : decode b_Tree_dropLeaf 83 = .ok (.iload_n 1, 1) := by decide +kernel
theorem d_Tree_dropLeaf_84 : decode b_Tree_dropLeaf 84 = .ok (.invokevirtual 145, 3) := by decide +kernel
theorem d_Tree_dropLeaf_87 : decode b_Tree_dropLeaf 87 = .ok (.aload_n 0, 1) := by decide +kernel
theorem d_Tree_dropLeaf_88 : decode b_Tree_dropLeaf 88 = .ok (.getfield 34, 3) := by decide +kernel
theorem d_Tree_dropLeaf_91 : decode b_Tree_dropLeaf 91 = .ok (.getfield 132, 3) := by decide +kernel
theorem d_Tree_dropLeaf_94 : decode b_Tree_dropLeaf 94 = .ok (.ifCond .ne 15, 3) := by decide +kernel
theorem d_Tree_dropLeaf_97 : decode b_Tree_dropLeaf 97 = .ok (.aload_n 0, 1) := by decide +kernel
theorem d_Tree_dropLeaf_98 : decode b_Tree_dropLeaf 98 = .ok (.iload_n 1, 1) := by decide +kernel
theorem d_Tree_dropLeaf_99 : decode b_Tree_dropLeaf 99 = .ok (.aload_n 0, 1) := by decide +kernel
theorem d_Tree_dropLeaf_100 : decode b_Tree_dropLeaf 100 = .ok (.getfield 34, 3) := by decide +kernel
theorem d_Tree_dropLeaf_103 : decode b_Tree_dropLeaf 103 = .ok (.getfield 157, 3) := by decide +kernel
theorem d_Tree_dropLeaf_106 : decode b_Tree_dropLeaf 106 = .ok (.invokevirtual 178, 3) := by decide +kernel
theorem d_Tree_dropLeaf_109 : decode b_Tree_dropLeaf 109 = .ok (.return_, 1) := by decide +kernel
noncomputable def q_Tree_dropLeaf_67 (v_depth : Int32) (v_pages_count : Int32) (v_path : Nat → Int32) (v_slots : Nat → Int32) (v_pages_bytes : Nat → Int32) (v_node_count : Int32) (v_node_last : Int32) (v_node_leaf : Int32) (v_node_bytes : Nat → Int32) (v_node_starts : Nat → Int32) (v_node_sizes : Nat → Int32) (x_1 : Int32) (x_3 : Int32) : Option ((Nat → Int32) × Int32 × Int32 × Int32 × (Nat → Int32) × (Nat → Int32) × (Nat → Int32)) :=
  pu_b3 (f_Node_dropCell v_node_count v_node_starts v_node_sizes x_3) (fun w11 w12 w13 => pu_b1 (f_Node_storeAll w11 v_node_last v_node_leaf v_node_bytes w12 w13 v_pages_count v_pages_bytes x_1) (fun w15 => pu_br (w11 = 0) (pu_b7 (f_Tree_dropInner v_depth v_pages_count v_path v_slots w15 w11 v_node_last v_node_leaf v_node_bytes w12 w13 x_1 v_node_last) (fun w17 w18 w19 w20 w21 w22 w23 => some (w17, w18, w19, w20, w21, w22, w23))) (some (w15, w11, v_node_last, v_node_leaf, v_node_bytes, w12, w13))))
noncomputable def f_Tree_dropLeaf (v_depth : Int32) (v_pages_count : Int32) (v_path : Nat → Int32) (v_slots : Nat → Int32) (v_pages_bytes : Nat → Int32) (v_node_count : Int32) (v_node_last : Int32) (v_node_leaf : Int32) (v_node_bytes : Nat → Int32) (v_node_starts : Nat → Int32) (v_node_sizes : Nat → Int32) (x_1 : Int32) (x_2 : Int32) : Option ((Nat → Int32) × Int32 × Int32 × Int32 × (Nat → Int32) × (Nat → Int32) × (Nat → Int32)) :=
  pu_ck (vp_in v_depth 25) (pu_b1 (f_Pages_freePage v_pages_count v_pages_bytes (v_path v_depth.toNatClampNeg)) (fun w2 => pu_b7 (f_Node_load v_pages_count w2 v_node_count v_node_last v_node_leaf v_node_bytes v_node_starts v_node_sizes x_1) (fun r3 w4 w5 w6 w7 w8 w9 => pu_br (x_2 < w4) (q_Tree_dropLeaf_67 v_depth v_pages_count v_path v_slots w2 w4 w5 w6 w7 w8 w9 x_1 x_2) (pu_nm (w4 - (1 : Int32)) (fun t24 => pu_b1 (f_Node_child w4 w5 w7 w8 t24) (fun r25 => q_Tree_dropLeaf_67 v_depth v_pages_count v_path v_slots w2 w4 r25 w6 w7 w8 w9 x_1 t24))))))
abbrev rm_Tree_dropLeaf : Room := { frames := 6, cells := 0, slots := 0, locals := 140 }
set_option maxHeartbeats 8000000 in
set_option maxRecDepth 100000 in
theorem c_Tree_dropLeaf (l : Launch) (D : va_G) (cI cJ cB cZ : ClassId) (sz : Nat) (q_this : Nat) (q_pages : Nat) (q_node : Nat) (q_row : Nat) (q_path : Nat) (q_slots : Nat) (q_cell : Nat) (q_waiting : Nat) (q_leaves : Nat) (q_pages_bytes : Nat) (q_node_bytes : Nat) (q_node_starts : Nat) (q_node_sizes : Nat) (v_depth : Int32) (v_slot : Int32) (v_cellSize : Int32) (v_pages_count : Int32) (v_pages_bytes : Nat → Int32) (v_node_count : Int32) (v_node_last : Int32) (v_node_leaf : Int32) (v_node_bytes : Nat → Int32) (v_node_starts : Nat → Int32) (v_node_sizes : Nat → Int32) (v_path : Nat → Int32) (v_slots : Nat → Int32) (x_1 : Int32) (x_2 : Int32) (o_pages_bytes : Nat → Int32) (o_node_count : Int32) (o_node_last : Int32) (o_node_leaf : Int32) (o_node_bytes : Nat → Int32) (o_node_starts : Nat → Int32) (o_node_sizes : Nat → Int32) (hf : f_Tree_dropLeaf v_depth v_pages_count v_path v_slots v_pages_bytes v_node_count v_node_last v_node_leaf v_node_bytes v_node_starts v_node_sizes x_1 x_2 = some (o_pages_bytes, o_node_count, o_node_last, o_node_leaf, o_node_bytes, o_node_starts, o_node_sizes)) : Met l y_Tree_dropLeaf (.code y_Tree_dropLeaf b_Tree_dropLeaf 4 none :: pu_wA) rm_Tree_dropLeaf (pu_pc D pu_cl (pu_ty cI cJ cB cZ) [.ref q_this, .int x_1, .int x_2] [(q_this, .inr (5, [.ref q_pages, .ref q_node, .ref q_row, .ref q_path, .ref q_slots, .int v_depth, .int v_slot, .ref q_cell, .int v_cellSize, .ref q_waiting, .ref q_leaves])), (q_pages, .inr (0, [.ref q_pages_bytes, .int v_pages_count])), (q_pages_bytes, .inl (cB, 1536, .inl v_pages_bytes)), (q_node, .inr (3, [.ref q_node_bytes, .ref q_node_starts, .ref q_node_sizes, .int v_node_count, .int v_node_last, .int v_node_leaf])), (q_node_bytes, .inl (cB, 96, .inl v_node_bytes)), (q_node_starts, .inl (cI, 31, .inl v_node_starts)), (q_node_sizes, .inl (cI, 31, .inl v_node_sizes)), (q_path, .inl (cI, 25, .inl v_path)), (q_slots, .inl (cI, 25, .inl v_slots))] sz) (pu_qv D pu_cl (pu_ty cI cJ cB cZ) [(q_this, .inr (5, [.ref q_pages, .ref q_node, .ref q_row, .ref q_path, .ref q_slots, .int v_depth, .int v_slot, .ref q_cell, .int v_cellSize, .ref q_waiting, .ref q_leaves])), (q_pages, .inr (0, [.ref q_pages_bytes, .int v_pages_count])), (q_pages_bytes, .inl (cB, 1536, .inl v_pages_bytes)), (q_node, .inr (3, [.ref q_node_bytes, .ref q_node_starts, .ref q_node_sizes, .int v_node_count, .int v_node_last, .int v_node_leaf])), (q_node_bytes, .inl (cB, 96, .inl v_node_bytes)), (q_node_starts, .inl (cI, 31, .inl v_node_starts)), (q_node_sizes, .inl (cI, 31, .inl v_node_sizes)), (q_path, .inl (cI, 25, .inl v_path)), (q_slots, .inl (cI, 25, .inl v_slots))] [(q_this, .inr (5, [.ref q_pages, .ref q_node, .ref q_row, .ref q_path, .ref q_slots, .int v_depth, .int v_slot, .ref q_cell, .int v_cellSize, .ref q_waiting, .ref q_leaves])), (q_pages, .inr (0, [.ref q_pages_bytes, .int v_pages_count])), (q_pages_bytes, .inl (cB, 1536, .inl o_pages_bytes)), (q_node, .inr (3, [.ref q_node_bytes, .ref q_node_starts, .ref q_node_sizes, .int o_node_count, .int o_node_last, .int o_node_leaf])), (q_node_bytes, .inl (cB, 96, .inl o_node_bytes)), (q_node_starts, .inl (cI, 31, .inl o_node_starts)), (q_node_sizes, .inl (cI, 31, .inl o_node_sizes)), (q_path, .inl (cI, 25, .inl v_path)), (q_slots, .inl (cI, 25, .inl v_slots))] sz) 0 0 (va_A [(q_this, .inr (5, [.ref q_pages, .ref q_node, .ref q_row, .ref q_path, .ref q_slots, .int v_depth, .int v_slot, .ref q_cell, .int v_cellSize, .ref q_waiting, .ref q_leaves])), (q_pages, .inr (0, [.ref q_pages_bytes, .int v_pages_count])), (q_pages_bytes, .inl (cB, 1536, .inl v_pages_bytes)), (q_node, .inr (3, [.ref q_node_bytes, .ref q_node_starts, .ref q_node_sizes, .int v_node_count, .int v_node_last, .int v_node_leaf])), (q_node_bytes, .inl (cB, 96, .inl v_node_bytes)), (q_node_starts, .inl (cI, 31, .inl v_node_starts)), (q_node_sizes, .inl (cI, 31, .inl v_node_sizes)), (q_path, .inl (cI, 25, .inl v_path)), (q_slots, .inl (cI, 25, .inl v_slots))] sz) := by
  refine pu_mtv [.ref q_this, .int x_1, .int x_2] [(q_this, .inr (5, [.ref q_pages, .ref q_node, .ref q_row, .ref q_path, .ref q_slots, .int v_depth, .int v_slot, .ref q_cell, .int v_cellSize, .ref q_waiting, .ref q_leaves])), (q_pages, .inr (0, [.ref q_pages_bytes, .int v_pages_count])), (q_pages_bytes, .inl (cB, 1536, .inl v_pages_bytes)), (q_node, .inr (3, [.ref q_node_bytes, .ref q_node_starts, .ref q_node_sizes, .int v_node_count, .int v_node_last, .int v_node_leaf])), (q_node_bytes, .inl (cB, 96, .inl v_node_bytes)), (q_node_starts, .inl (cI, 31, .inl v_node_starts)), (q_node_sizes, .inl (cI, 31, .inl v_node_sizes)), (q_path, .inl (cI, 25, .inl v_path)), (q_slots, .inl (cI, 25, .inl v_slots))] [(q_this, .inr (5, [.ref q_pages, .ref q_node, .ref q_row, .ref q_path, .ref q_slots, .int v_depth, .int v_slot, .ref q_cell, .int v_cellSize, .ref q_waiting, .ref q_leaves])), (q_pages, .inr (0, [.ref q_pages_bytes, .int v_pages_count])), (q_pages_bytes, .inl (cB, 1536, .inl o_pages_bytes)), (q_node, .inr (3, [.ref q_node_bytes, .ref q_node_starts, .ref q_node_sizes, .int o_node_count, .int o_node_last, .int o_node_leaf])), (q_node_bytes, .inl (cB, 96, .inl o_node_bytes)), (q_node_starts, .inl (cI, 31, .inl o_node_starts)), (q_node_sizes, .inl (cI, 31, .inl o_node_sizes)), (q_path, .inl (cI, 25, .inl v_path)), (q_slots, .inl (cI, 25, .inl v_slots))] (by decide) (Nat.le_of_ble_eq_true rfl) ?_
  intro p e s m args below meth c A Q ls hx hb hml hts hN hown hK hA hP hD hl hret0
  have hS : va_S A s.heap s.heap [] := va_S.rf
  have hl : lv_has ls 4 [(0, .ref q_this), (1, .int x_1), (2, .int x_2)] := hl
  have hret : ∀ (pc : Nat) (ls : Array Slot) (H : Heap) (locs : List Loc) (y_0 : Nat → Int32) (y_1 : Int32) (y_2 : Int32) (y_3 : Int32) (y_4 : Nat → Int32) (y_5 : Nat → Int32) (y_6 : Nat → Int32), decode b_Tree_dropLeaf pc = .ok (.return_, 1) → va_P D pu_cl [(q_this, .inr (5, [.ref q_pages, .ref q_node, .ref q_row, .ref q_path, .ref q_slots, .int v_depth, .int v_slot, .ref q_cell, .int v_cellSize, .ref q_waiting, .ref q_leaves])), (q_pages, .inr (0, [.ref q_pages_bytes, .int v_pages_count])), (q_pages_bytes, .inl (cB, 1536, .inl y_0)), (q_node, .inr (3, [.ref q_node_bytes, .ref q_node_starts, .ref q_node_sizes, .int y_1, .int y_2, .int y_3])), (q_node_bytes, .inl (cB, 96, .inl y_4)), (q_node_starts, .inl (cI, 31, .inl y_5)), (q_node_sizes, .inl (cI, 31, .inl y_6)), (q_path, .inl (cI, 25, .inl v_path)), (q_slots, .inl (cI, 25, .inl v_slots))] H → va_D A [(q_this, .inr (5, [.ref q_pages, .ref q_node, .ref q_row, .ref q_path, .ref q_slots, .int v_depth, .int v_slot, .ref q_cell, .int v_cellSize, .ref q_waiting, .ref q_leaves])), (q_pages, .inr (0, [.ref q_pages_bytes, .int v_pages_count])), (q_pages_bytes, .inl (cB, 1536, .inl y_0)), (q_node, .inr (3, [.ref q_node_bytes, .ref q_node_starts, .ref q_node_sizes, .int y_1, .int y_2, .int y_3])), (q_node_bytes, .inl (cB, 96, .inl y_4)), (q_node_starts, .inl (cI, 31, .inl y_5)), (q_node_sizes, .inl (cI, 31, .inl y_6)), (q_path, .inl (cI, 25, .inl v_path)), (q_slots, .inl (cI, 25, .inl v_slots))] → va_S A s.heap H locs → some (y_0, y_1, y_2, y_3, y_4, y_5, y_6) = some (o_pages_bytes, o_node_count, o_node_last, o_node_leaf, o_node_bytes, o_node_starts, o_node_sizes) → W p l e rm_Tree_dropLeaf s m args below meth c H locs 0 0 Q (F0 m pc ls []) := by
    intro pc ls H locs y_0 y_1 y_2 y_3 y_4 y_5 y_6 hd hP hD hS hf
    cases hf
    exact hret0 pc ls H locs hd hP hD hS
  clear hret0
  unfold f_Tree_dropLeaf at hf
  skip
  have lb_67 : ∀ (v_pages_bytes : Nat → Int32) (v_node_count : Int32) (v_node_last : Int32) (v_node_leaf : Int32) (v_node_bytes : Nat → Int32) (v_node_starts : Nat → Int32) (v_node_sizes : Nat → Int32) (x_1 : Int32) (x_3 : Int32) (H : Heap) (locs : List Loc) (ls : Array Slot), va_P D pu_cl [(q_this, .inr (5, [.ref q_pages, .ref q_node, .ref q_row, .ref q_path, .ref q_slots, .int v_depth, .int v_slot, .ref q_cell, .int v_cellSize, .ref q_waiting, .ref q_leaves])), (q_pages, .inr (0, [.ref q_pages_bytes, .int v_pages_count])), (q_pages_bytes, .inl (cB, 1536, .inl v_pages_bytes)), (q_node, .inr (3, [.ref q_node_bytes, .ref q_node_starts, .ref q_node_sizes, .int v_node_count, .int v_node_last, .int v_node_leaf])), (q_node_bytes, .inl (cB, 96, .inl v_node_bytes)), (q_node_starts, .inl (cI, 31, .inl v_node_starts)), (q_node_sizes, .inl (cI, 31, .inl v_node_sizes)), (q_path, .inl (cI, 25, .inl v_path)), (q_slots, .inl (cI, 25, .inl v_slots))] H → va_D A [(q_this, .inr (5, [.ref q_pages, .ref q_node, .ref q_row, .ref q_path, .ref q_slots, .int v_depth, .int v_slot, .ref q_cell, .int v_cellSize, .ref q_waiting, .ref q_leaves])), (q_pages, .inr (0, [.ref q_pages_bytes, .int v_pages_count])), (q_pages_bytes, .inl (cB, 1536, .inl v_pages_bytes)), (q_node, .inr (3, [.ref q_node_bytes, .ref q_node_starts, .ref q_node_sizes, .int v_node_count, .int v_node_last, .int v_node_leaf])), (q_node_bytes, .inl (cB, 96, .inl v_node_bytes)), (q_node_starts, .inl (cI, 31, .inl v_node_starts)), (q_node_sizes, .inl (cI, 31, .inl v_node_sizes)), (q_path, .inl (cI, 25, .inl v_path)), (q_slots, .inl (cI, 25, .inl v_slots))] → va_S A s.heap H locs → lv_has ls 4 [(0, .ref q_this), (1, .int x_1), (3, .int x_3)] → q_Tree_dropLeaf_67 v_depth v_pages_count v_path v_slots v_pages_bytes v_node_count v_node_last v_node_leaf v_node_bytes v_node_starts v_node_sizes x_1 x_3 = some (o_pages_bytes, o_node_count, o_node_last, o_node_leaf, o_node_bytes, o_node_starts, o_node_sizes) → W p l e rm_Tree_dropLeaf s m args below meth c H locs 0 0 Q (F0 m 67 ls []) := by
    intro v_pages_bytes v_node_count v_node_last v_node_leaf v_node_bytes v_node_starts v_node_sizes x_1 x_3 H locs ls hP hD hS hl hf
    rw [q_Tree_dropLeaf_67] at hf
    refine lv_aload_n hx hb d_Tree_dropLeaf_67 rfl (lv_at hl 0 rfl) ?_
    refine gf_Tree_34 (v := .ref q_node) hx hb hts hN hown hK hP 0 rfl rfl d_Tree_dropLeaf_68 ?_
    refine lv_iload_n hx hb d_Tree_dropLeaf_71 rfl (lv_at hl 2 rfl) ?_
    obtain ⟨w11, w12, w13, hc, hf⟩ := pu_b3_some hf
    refine cl_v (WC := [(q_node, .inr (3, [.ref q_node_bytes, .ref q_node_starts, .ref q_node_sizes, .int v_node_count, .int v_node_last, .int v_node_leaf])), (q_node_starts, .inl (cI, 31, .inl v_node_starts)), (q_node_sizes, .inl (cI, 31, .inl v_node_sizes))]) (WC2 := [(q_node, .inr (3, [.ref q_node_bytes, .ref q_node_starts, .ref q_node_sizes, .int w11, .int v_node_last, .int v_node_leaf])), (q_node_starts, .inl (cI, 31, .inl w12)), (q_node_sizes, .inl (cI, 31, .inl w13))]) (WR := [(q_this, .inr (5, [.ref q_pages, .ref q_node, .ref q_row, .ref q_path, .ref q_slots, .int v_depth, .int v_slot, .ref q_cell, .int v_cellSize, .ref q_waiting, .ref q_leaves])), (q_pages, .inr (0, [.ref q_pages_bytes, .int v_pages_count])), (q_pages_bytes, .inl (cB, 1536, .inl v_pages_bytes)), (q_node_bytes, .inl (cB, 96, .inl v_node_bytes)), (q_path, .inl (cI, 25, .inl v_path)), (q_slots, .inl (cI, 25, .inl v_slots))]) (WS2 := [(q_this, .inr (5, [.ref q_pages, .ref q_node, .ref q_row, .ref q_path, .ref q_slots, .int v_depth, .int v_slot, .ref q_cell, .int v_cellSize, .ref q_waiting, .ref q_leaves])), (q_pages, .inr (0, [.ref q_pages_bytes, .int v_pages_count])), (q_pages_bytes, .inl (cB, 1536, .inl v_pages_bytes)), (q_node, .inr (3, [.ref q_node_bytes, .ref q_node_starts, .ref q_node_sizes, .int w11, .int v_node_last, .int v_node_leaf])), (q_node_bytes, .inl (cB, 96, .inl v_node_bytes)), (q_node_starts, .inl (cI, 31, .inl w12)), (q_node_sizes, .inl (cI, 31, .inl w13)), (q_path, .inl (cI, 25, .inl v_path)), (q_slots, .inl (cI, 25, .inl v_slots))]) (pu_rv (cl := pu_cl) (pu_in5 _ (List.mem_of_getElem? (i := 33) rfl)) (pu_in5 _ (List.mem_of_getElem? (i := 34) rfl)) (pu_in5 _ (List.mem_of_getElem? (i := 35) rfl)) (pu_in0 _ (List.mem_of_getElem? (i := 6) rfl)) (pu_in5 _ (List.mem_of_getElem? (i := 36) rfl)) (ci := 3) rfl hd_Node_dropCell (by decide) ⟨rfl, rfl⟩ rfl rfl (Nat.le_of_ble_eq_true rfl) rfl (As := [.int x_3]) (rest := []) (WC := [(q_node, .inr (3, [.ref q_node_bytes, .ref q_node_starts, .ref q_node_sizes, .int v_node_count, .int v_node_last, .int v_node_leaf])), (q_node_starts, .inl (cI, 31, .inl v_node_starts)), (q_node_sizes, .inl (cI, 31, .inl v_node_sizes))]) hx hb hml hown hts hN hK hP hD (c_Node_dropCell l D cI cJ cB cZ H.size q_node q_node_bytes q_node_starts q_node_sizes v_node_count v_node_last v_node_leaf v_node_starts v_node_sizes x_3 w11 w12 w13 hc) [3, 5, 6] rfl rfl hl.1 d_Tree_dropLeaf_72) hP hD hS hA [3, 5, 6] [0, 1, 2, 4, 7, 8] [0, 1, 2, 6, 3, 7, 8, 4, 5] rfl rfl rfl (by decide) rfl rfl (fun H locs hP hD hS => ?_)
    refine lv_aload_n hx hb d_Tree_dropLeaf_75 rfl (lv_at hl 0 rfl) ?_
    refine gf_Tree_34 (v := .ref q_node) hx hb hts hN hown hK hP 0 rfl rfl d_Tree_dropLeaf_76 ?_
    refine lv_aload_n hx hb d_Tree_dropLeaf_79 rfl (lv_at hl 0 rfl) ?_
    refine gf_Tree_30 (v := .ref q_pages) hx hb hts hN hown hK hP 0 rfl rfl d_Tree_dropLeaf_80 ?_
    refine lv_iload_n hx hb d_Tree_dropLeaf_83 rfl (lv_at hl 1 rfl) ?_
    obtain ⟨w15, hc, hf⟩ := pu_b1_some hf
    refine cl_v (WC := [(q_node, .inr (3, [.ref q_node_bytes, .ref q_node_starts, .ref q_node_sizes, .int w11, .int v_node_last, .int v_node_leaf])), (q_node_bytes, .inl (cB, 96, .inl v_node_bytes)), (q_node_starts, .inl (cI, 31, .inl w12)), (q_node_sizes, .inl (cI, 31, .inl w13)), (q_pages, .inr (0, [.ref q_pages_bytes, .int v_pages_count])), (q_pages_bytes, .inl (cB, 1536, .inl v_pages_bytes))]) (WC2 := [(q_node, .inr (3, [.ref q_node_bytes, .ref q_node_starts, .ref q_node_sizes, .int w11, .int v_node_last, .int v_node_leaf])), (q_node_bytes, .inl (cB, 96, .inl v_node_bytes)), (q_node_starts, .inl (cI, 31, .inl w12)), (q_node_sizes, .inl (cI, 31, .inl w13)), (q_pages, .inr (0, [.ref q_pages_bytes, .int v_pages_count])), (q_pages_bytes, .inl (cB, 1536, .inl w15))]) (WR := [(q_this, .inr (5, [.ref q_pages, .ref q_node, .ref q_row, .ref q_path, .ref q_slots, .int v_depth, .int v_slot, .ref q_cell, .int v_cellSize, .ref q_waiting, .ref q_leaves])), (q_path, .inl (cI, 25, .inl v_path)), (q_slots, .inl (cI, 25, .inl v_slots))]) (WS2 := [(q_this, .inr (5, [.ref q_pages, .ref q_node, .ref q_row, .ref q_path, .ref q_slots, .int v_depth, .int v_slot, .ref q_cell, .int v_cellSize, .ref q_waiting, .ref q_leaves])), (q_pages, .inr (0, [.ref q_pages_bytes, .int v_pages_count])), (q_pages_bytes, .inl (cB, 1536, .inl w15)), (q_node, .inr (3, [.ref q_node_bytes, .ref q_node_starts, .ref q_node_sizes, .int w11, .int v_node_last, .int v_node_leaf])), (q_node_bytes, .inl (cB, 96, .inl v_node_bytes)), (q_node_starts, .inl (cI, 31, .inl w12)), (q_node_sizes, .inl (cI, 31, .inl w13)), (q_path, .inl (cI, 25, .inl v_path)), (q_slots, .inl (cI, 25, .inl v_slots))]) (pu_rv (cl := pu_cl) (pu_in5 _ (List.mem_of_getElem? (i := 15) rfl)) (pu_in5 _ (List.mem_of_getElem? (i := 16) rfl)) (pu_in5 _ (List.mem_of_getElem? (i := 17) rfl)) (pu_in0 _ (List.mem_of_getElem? (i := 6) rfl)) (pu_in5 _ (List.mem_of_getElem? (i := 18) rfl)) (ci := 3) rfl hd_Node_storeAll (by decide) ⟨rfl, rfl⟩ rfl rfl (Nat.le_of_ble_eq_true rfl) rfl (As := [.ref q_pages, .int x_1]) (rest := []) (WC := [(q_node, .inr (3, [.ref q_node_bytes, .ref q_node_starts, .ref q_node_sizes, .int w11, .int v_node_last, .int v_node_leaf])), (q_node_bytes, .inl (cB, 96, .inl v_node_bytes)), (q_node_starts, .inl (cI, 31, .inl w12)), (q_node_sizes, .inl (cI, 31, .inl w13)), (q_pages, .inr (0, [.ref q_pages_bytes, .int v_pages_count])), (q_pages_bytes, .inl (cB, 1536, .inl v_pages_bytes))]) hx hb hml hown hts hN hK hP hD (c_Node_storeAll l D cI cJ cB cZ H.size q_node q_node_bytes q_node_starts q_node_sizes q_pages q_pages_bytes w11 v_node_last v_node_leaf v_node_bytes w12 w13 v_pages_count v_pages_bytes x_1 w15 hc) [3, 4, 5, 6, 1, 2] rfl rfl hl.1 d_Tree_dropLeaf_84) hP hD hS hA [3, 4, 5, 6, 1, 2] [0, 7, 8] [0, 7, 8, 3, 4, 5, 6, 1, 2] rfl rfl rfl (by decide) rfl rfl (fun H locs hP hD hS => ?_)
    refine lv_aload_n hx hb d_Tree_dropLeaf_87 rfl (lv_at hl 0 rfl) ?_
    refine gf_Tree_34 (v := .ref q_node) hx hb hts hN hown hK hP 0 rfl rfl d_Tree_dropLeaf_88 ?_
    refine gf_Tree_132 (v := .int w11) hx hb hts hN hown hK hP 3 rfl rfl d_Tree_dropLeaf_91 ?_
    refine lv_if_ne (tgt := 109) hx hb d_Tree_dropLeaf_94 rfl (fun hc => ?_) (fun hc => ?_)
    · have hf := pu_br_neg hf hc
      exact hret _ _ _ _ w15 w11 v_node_last v_node_leaf v_node_bytes w12 w13 d_Tree_dropLeaf_109 hP hD hS hf
    have hf := pu_br_pos hf hc
    refine lv_aload_n hx hb d_Tree_dropLeaf_97 rfl (lv_at hl 0 rfl) ?_
    refine lv_iload_n hx hb d_Tree_dropLeaf_98 rfl (lv_at hl 1 rfl) ?_
    refine lv_aload_n hx hb d_Tree_dropLeaf_99 rfl (lv_at hl 0 rfl) ?_
    refine gf_Tree_34 (v := .ref q_node) hx hb hts hN hown hK hP 0 rfl rfl d_Tree_dropLeaf_100 ?_
    refine gf_Tree_157 (v := .int v_node_last) hx hb hts hN hown hK hP 3 rfl rfl d_Tree_dropLeaf_103 ?_
    obtain ⟨w17, w18, w19, w20, w21, w22, w23, hc, hf⟩ := pu_b7_some hf
    refine cl_v (WC := [(q_this, .inr (5, [.ref q_pages, .ref q_node, .ref q_row, .ref q_path, .ref q_slots, .int v_depth, .int v_slot, .ref q_cell, .int v_cellSize, .ref q_waiting, .ref q_leaves])), (q_pages, .inr (0, [.ref q_pages_bytes, .int v_pages_count])), (q_pages_bytes, .inl (cB, 1536, .inl w15)), (q_node, .inr (3, [.ref q_node_bytes, .ref q_node_starts, .ref q_node_sizes, .int w11, .int v_node_last, .int v_node_leaf])), (q_node_bytes, .inl (cB, 96, .inl v_node_bytes)), (q_node_starts, .inl (cI, 31, .inl w12)), (q_node_sizes, .inl (cI, 31, .inl w13)), (q_path, .inl (cI, 25, .inl v_path)), (q_slots, .inl (cI, 25, .inl v_slots))]) (WC2 := [(q_this, .inr (5, [.ref q_pages, .ref q_node, .ref q_row, .ref q_path, .ref q_slots, .int v_depth, .int v_slot, .ref q_cell, .int v_cellSize, .ref q_waiting, .ref q_leaves])), (q_pages, .inr (0, [.ref q_pages_bytes, .int v_pages_count])), (q_pages_bytes, .inl (cB, 1536, .inl w17)), (q_node, .inr (3, [.ref q_node_bytes, .ref q_node_starts, .ref q_node_sizes, .int w18, .int w19, .int w20])), (q_node_bytes, .inl (cB, 96, .inl w21)), (q_node_starts, .inl (cI, 31, .inl w22)), (q_node_sizes, .inl (cI, 31, .inl w23)), (q_path, .inl (cI, 25, .inl v_path)), (q_slots, .inl (cI, 25, .inl v_slots))]) (WR := []) (WS2 := [(q_this, .inr (5, [.ref q_pages, .ref q_node, .ref q_row, .ref q_path, .ref q_slots, .int v_depth, .int v_slot, .ref q_cell, .int v_cellSize, .ref q_waiting, .ref q_leaves])), (q_pages, .inr (0, [.ref q_pages_bytes, .int v_pages_count])), (q_pages_bytes, .inl (cB, 1536, .inl w17)), (q_node, .inr (3, [.ref q_node_bytes, .ref q_node_starts, .ref q_node_sizes, .int w18, .int w19, .int w20])), (q_node_bytes, .inl (cB, 96, .inl w21)), (q_node_starts, .inl (cI, 31, .inl w22)), (q_node_sizes, .inl (cI, 31, .inl w23)), (q_path, .inl (cI, 25, .inl v_path)), (q_slots, .inl (cI, 25, .inl v_slots))]) (pu_rv (cl := pu_cl) (pu_in5 _ (List.mem_of_getElem? (i := 45) rfl)) (pu_in5 _ (List.mem_of_getElem? (i := 46) rfl)) (pu_in13 _ (List.mem_of_getElem? (i := 55) rfl)) (pu_in0 _ (List.mem_of_getElem? (i := 7) rfl)) (pu_in5 _ (List.mem_of_getElem? (i := 47) rfl)) (ci := 5) rfl hd_Tree_dropInner (by decide) ⟨rfl, rfl⟩ rfl rfl (Nat.le_of_ble_eq_true rfl) rfl (As := [.int x_1, .int v_node_last]) (rest := []) (WC := [(q_this, .inr (5, [.ref q_pages, .ref q_node, .ref q_row, .ref q_path, .ref q_slots, .int v_depth, .int v_slot, .ref q_cell, .int v_cellSize, .ref q_waiting, .ref q_leaves])), (q_pages, .inr (0, [.ref q_pages_bytes, .int v_pages_count])), (q_pages_bytes, .inl (cB, 1536, .inl w15)), (q_node, .inr (3, [.ref q_node_bytes, .ref q_node_starts, .ref q_node_sizes, .int w11, .int v_node_last, .int v_node_leaf])), (q_node_bytes, .inl (cB, 96, .inl v_node_bytes)), (q_node_starts, .inl (cI, 31, .inl w12)), (q_node_sizes, .inl (cI, 31, .inl w13)), (q_path, .inl (cI, 25, .inl v_path)), (q_slots, .inl (cI, 25, .inl v_slots))]) hx hb hml hown hts hN hK hP hD (c_Tree_dropInner l D cI cJ cB cZ H.size q_this q_pages q_node q_row q_path q_slots q_cell q_waiting q_leaves q_pages_bytes q_node_bytes q_node_starts q_node_sizes v_depth v_slot v_cellSize v_pages_count w15 w11 v_node_last v_node_leaf v_node_bytes w12 w13 v_path v_slots x_1 v_node_last w17 w18 w19 w20 w21 w22 w23 hc) [0, 1, 2, 3, 4, 5, 6, 7, 8] rfl rfl hl.1 d_Tree_dropLeaf_106) hP hD hS hA [0, 1, 2, 3, 4, 5, 6, 7, 8] [] [0, 1, 2, 3, 4, 5, 6, 7, 8] rfl rfl rfl (by decide) rfl rfl (fun H locs hP hD hS => ?_)
    exact hret _ _ _ _ w17 w18 w19 w20 w21 w22 w23 d_Tree_dropLeaf_109 hP hD hS hf
  obtain ⟨H, hH⟩ : ∃ H, H = s.heap := ⟨_, rfl⟩
  obtain ⟨locs, hlocs⟩ : ∃ locs : List Loc, locs = [] := ⟨_, rfl⟩
  have hP : va_P D pu_cl [(q_this, .inr (5, [.ref q_pages, .ref q_node, .ref q_row, .ref q_path, .ref q_slots, .int v_depth, .int v_slot, .ref q_cell, .int v_cellSize, .ref q_waiting, .ref q_leaves])), (q_pages, .inr (0, [.ref q_pages_bytes, .int v_pages_count])), (q_pages_bytes, .inl (cB, 1536, .inl v_pages_bytes)), (q_node, .inr (3, [.ref q_node_bytes, .ref q_node_starts, .ref q_node_sizes, .int v_node_count, .int v_node_last, .int v_node_leaf])), (q_node_bytes, .inl (cB, 96, .inl v_node_bytes)), (q_node_starts, .inl (cI, 31, .inl v_node_starts)), (q_node_sizes, .inl (cI, 31, .inl v_node_sizes)), (q_path, .inl (cI, 25, .inl v_path)), (q_slots, .inl (cI, 25, .inl v_slots))] H := by rw [hH]; exact hP
  have hS : va_S A s.heap H locs := by rw [hH, hlocs]; exact hS
  have goal : W p l e rm_Tree_dropLeaf s m args below meth c H locs 0 0 Q (F0 m 0 ls []) := by
    clear hH hlocs
    refine lv_aload_n hx hb d_Tree_dropLeaf_0 rfl (lv_at hl 0 rfl) ?_
    refine gf_Tree_30 (v := .ref q_pages) hx hb hts hN hown hK hP 0 rfl rfl d_Tree_dropLeaf_1 ?_
    refine lv_aload_n hx hb d_Tree_dropLeaf_4 rfl (lv_at hl 0 rfl) ?_
    refine gf_Tree_9 (v := .ref q_path) hx hb hts hN hown hK hP 0 rfl rfl d_Tree_dropLeaf_5 ?_
    refine lv_aload_n hx hb d_Tree_dropLeaf_8 rfl (lv_at hl 0 rfl) ?_
    refine gf_Tree_48 (v := .int v_depth) hx hb hts hN hown hK hP 0 rfl rfl d_Tree_dropLeaf_9 ?_
    obtain ⟨hin, hf⟩ := pu_ck_some hf
    refine va_iald hx hb hK hP 7 0 rfl rfl hin d_Tree_dropLeaf_12 ?_
    obtain ⟨w2, hc, hf⟩ := pu_b1_some hf
    refine cl_v (WC := [(q_pages, .inr (0, [.ref q_pages_bytes, .int v_pages_count])), (q_pages_bytes, .inl (cB, 1536, .inl v_pages_bytes))]) (WC2 := [(q_pages, .inr (0, [.ref q_pages_bytes, .int v_pages_count])), (q_pages_bytes, .inl (cB, 1536, .inl w2))]) (WR := [(q_this, .inr (5, [.ref q_pages, .ref q_node, .ref q_row, .ref q_path, .ref q_slots, .int v_depth, .int v_slot, .ref q_cell, .int v_cellSize, .ref q_waiting, .ref q_leaves])), (q_node, .inr (3, [.ref q_node_bytes, .ref q_node_starts, .ref q_node_sizes, .int v_node_count, .int v_node_last, .int v_node_leaf])), (q_node_bytes, .inl (cB, 96, .inl v_node_bytes)), (q_node_starts, .inl (cI, 31, .inl v_node_starts)), (q_node_sizes, .inl (cI, 31, .inl v_node_sizes)), (q_path, .inl (cI, 25, .inl v_path)), (q_slots, .inl (cI, 25, .inl v_slots))]) (WS2 := [(q_this, .inr (5, [.ref q_pages, .ref q_node, .ref q_row, .ref q_path, .ref q_slots, .int v_depth, .int v_slot, .ref q_cell, .int v_cellSize, .ref q_waiting, .ref q_leaves])), (q_pages, .inr (0, [.ref q_pages_bytes, .int v_pages_count])), (q_pages_bytes, .inl (cB, 1536, .inl w2)), (q_node, .inr (3, [.ref q_node_bytes, .ref q_node_starts, .ref q_node_sizes, .int v_node_count, .int v_node_last, .int v_node_leaf])), (q_node_bytes, .inl (cB, 96, .inl v_node_bytes)), (q_node_starts, .inl (cI, 31, .inl v_node_starts)), (q_node_sizes, .inl (cI, 31, .inl v_node_sizes)), (q_path, .inl (cI, 25, .inl v_path)), (q_slots, .inl (cI, 25, .inl v_slots))]) (pu_rv (cl := pu_cl) (pu_in5 _ (List.mem_of_getElem? (i := 38) rfl)) (pu_in5 _ (List.mem_of_getElem? (i := 39) rfl)) (pu_in5 _ (List.mem_of_getElem? (i := 40) rfl)) (pu_in0 _ (List.mem_of_getElem? (i := 3) rfl)) (pu_in5 _ (List.mem_of_getElem? (i := 41) rfl)) (ci := 0) rfl hd_Pages_freePage (by decide) ⟨rfl, rfl⟩ rfl rfl (Nat.le_of_ble_eq_true rfl) rfl (As := [.int (v_path v_depth.toNatClampNeg)]) (rest := []) (WC := [(q_pages, .inr (0, [.ref q_pages_bytes, .int v_pages_count])), (q_pages_bytes, .inl (cB, 1536, .inl v_pages_bytes))]) hx hb hml hown hts hN hK hP hD (c_Pages_freePage l D cI cJ cB cZ H.size q_pages q_pages_bytes v_pages_count v_pages_bytes (v_path v_depth.toNatClampNeg) w2 hc) [1, 2] rfl rfl hl.1 d_Tree_dropLeaf_13) hP hD hS hA [1, 2] [0, 3, 4, 5, 6, 7, 8] [0, 7, 8, 1, 2, 3, 4, 5, 6] rfl rfl rfl (by decide) rfl rfl (fun H locs hP hD hS => ?_)
    refine lv_aload_n hx hb d_Tree_dropLeaf_16 rfl (lv_at hl 0 rfl) ?_
    refine gf_Tree_34 (v := .ref q_node) hx hb hts hN hown hK hP 0 rfl rfl d_Tree_dropLeaf_17 ?_
    refine lv_aload_n hx hb d_Tree_dropLeaf_20 rfl (lv_at hl 0 rfl) ?_
    refine gf_Tree_30 (v := .ref q_pages) hx hb hts hN hown hK hP 0 rfl rfl d_Tree_dropLeaf_21 ?_
    refine lv_iload_n hx hb d_Tree_dropLeaf_24 rfl (lv_at hl 1 rfl) ?_
    obtain ⟨r3, w4, w5, w6, w7, w8, w9, hc, hf⟩ := pu_b7_some hf
    refine cl_i (WC := [(q_node, .inr (3, [.ref q_node_bytes, .ref q_node_starts, .ref q_node_sizes, .int v_node_count, .int v_node_last, .int v_node_leaf])), (q_node_bytes, .inl (cB, 96, .inl v_node_bytes)), (q_node_starts, .inl (cI, 31, .inl v_node_starts)), (q_node_sizes, .inl (cI, 31, .inl v_node_sizes)), (q_pages, .inr (0, [.ref q_pages_bytes, .int v_pages_count])), (q_pages_bytes, .inl (cB, 1536, .inl w2))]) (WC2 := [(q_node, .inr (3, [.ref q_node_bytes, .ref q_node_starts, .ref q_node_sizes, .int w4, .int w5, .int w6])), (q_node_bytes, .inl (cB, 96, .inl w7)), (q_node_starts, .inl (cI, 31, .inl w8)), (q_node_sizes, .inl (cI, 31, .inl w9)), (q_pages, .inr (0, [.ref q_pages_bytes, .int v_pages_count])), (q_pages_bytes, .inl (cB, 1536, .inl w2))]) (WR := [(q_this, .inr (5, [.ref q_pages, .ref q_node, .ref q_row, .ref q_path, .ref q_slots, .int v_depth, .int v_slot, .ref q_cell, .int v_cellSize, .ref q_waiting, .ref q_leaves])), (q_path, .inl (cI, 25, .inl v_path)), (q_slots, .inl (cI, 25, .inl v_slots))]) (WS2 := [(q_this, .inr (5, [.ref q_pages, .ref q_node, .ref q_row, .ref q_path, .ref q_slots, .int v_depth, .int v_slot, .ref q_cell, .int v_cellSize, .ref q_waiting, .ref q_leaves])), (q_pages, .inr (0, [.ref q_pages_bytes, .int v_pages_count])), (q_pages_bytes, .inl (cB, 1536, .inl w2)), (q_node, .inr (3, [.ref q_node_bytes, .ref q_node_starts, .ref q_node_sizes, .int w4, .int w5, .int w6])), (q_node_bytes, .inl (cB, 96, .inl w7)), (q_node_starts, .inl (cI, 31, .inl w8)), (q_node_sizes, .inl (cI, 31, .inl w9)), (q_path, .inl (cI, 25, .inl v_path)), (q_slots, .inl (cI, 25, .inl v_slots))]) (pu_rv (cl := pu_cl) (pu_in3 _ (List.mem_of_getElem? (i := 41) rfl)) (pu_in3 _ (List.mem_of_getElem? (i := 42) rfl)) (pu_in3 _ (List.mem_of_getElem? (i := 43) rfl)) (pu_in0 _ (List.mem_of_getElem? (i := 6) rfl)) (pu_in3 _ (List.mem_of_getElem? (i := 44) rfl)) (ci := 3) rfl hd_Node_load (by decide) ⟨rfl, rfl⟩ rfl rfl (Nat.le_of_ble_eq_true rfl) rfl (As := [.ref q_pages, .int x_1]) (rest := []) (WC := [(q_node, .inr (3, [.ref q_node_bytes, .ref q_node_starts, .ref q_node_sizes, .int v_node_count, .int v_node_last, .int v_node_leaf])), (q_node_bytes, .inl (cB, 96, .inl v_node_bytes)), (q_node_starts, .inl (cI, 31, .inl v_node_starts)), (q_node_sizes, .inl (cI, 31, .inl v_node_sizes)), (q_pages, .inr (0, [.ref q_pages_bytes, .int v_pages_count])), (q_pages_bytes, .inl (cB, 1536, .inl w2))]) hx hb hml hown hts hN hK hP hD (c_Node_load l D cI cJ cB cZ H.size q_node q_node_bytes q_node_starts q_node_sizes q_pages q_pages_bytes v_node_count v_node_last v_node_leaf v_node_bytes v_node_starts v_node_sizes v_pages_count w2 x_1 r3 w4 w5 w6 w7 w8 w9 hc) [3, 4, 5, 6, 1, 2] rfl rfl hl.1 d_Tree_dropLeaf_25) hP hD hS hA [3, 4, 5, 6, 1, 2] [0, 7, 8] [0, 7, 8, 3, 4, 5, 6, 1, 2] rfl rfl rfl (by decide) rfl rfl (fun H locs hP hD hS => ?_)
    refine lv_pop hx hb d_Tree_dropLeaf_28 rfl ?_
    refine lv_iload_n hx hb d_Tree_dropLeaf_29 rfl (lv_at hl 2 rfl) ?_
    refine lv_istore_n hx hb d_Tree_dropLeaf_30 rfl hl (by decide) rfl (fun ls hl => ?_)
    have hl : lv_has ls 4 [(3, .int x_2), (0, .ref q_this), (1, .int x_1), (2, .int x_2)] := hl
    refine lv_iload_n hx hb d_Tree_dropLeaf_31 rfl (lv_at hl 3 rfl) ?_
    refine lv_aload_n hx hb d_Tree_dropLeaf_32 rfl (lv_at hl 1 rfl) ?_
    refine gf_Tree_34 (v := .ref q_node) hx hb hts hN hown hK hP 0 rfl rfl d_Tree_dropLeaf_33 ?_
    refine gf_Tree_132 (v := .int w4) hx hb hts hN hown hK hP 3 rfl rfl d_Tree_dropLeaf_36 ?_
    refine lv_icmp_lt (tgt := 67) hx hb d_Tree_dropLeaf_39 rfl (fun hc => ?_) (fun hc => ?_)
    · have hf := pu_br_pos hf hc
      exact lb_67 w2 w4 w5 w6 w7 w8 w9 x_1 x_2 H locs ls hP hD hS (lv_sub hl [1, 2, 0] rfl) hf
    have hf := pu_br_neg hf hc
    refine lv_aload_n hx hb d_Tree_dropLeaf_42 rfl (lv_at hl 1 rfl) ?_
    refine gf_Tree_34 (v := .ref q_node) hx hb hts hN hown hK hP 0 rfl rfl d_Tree_dropLeaf_43 ?_
    refine gf_Tree_132 (v := .int w4) hx hb hts hN hown hK hP 3 rfl rfl d_Tree_dropLeaf_46 ?_
    refine lv_iconst (v := 1) hx hb d_Tree_dropLeaf_49 rfl ?_
    refine lv_isub hx hb d_Tree_dropLeaf_50 ?_
    obtain ⟨t24, e_t24, hf⟩ := pu_nm_some hf
    refine pu_ti e_t24 ?_
    refine lv_istore_n hx hb d_Tree_dropLeaf_51 rfl hl (by decide) rfl (fun ls hl => ?_)
    have hl : lv_has ls 4 [(3, .int t24), (0, .ref q_this), (1, .int x_1), (2, .int x_2)] := hl
    refine lv_aload_n hx hb d_Tree_dropLeaf_52 rfl (lv_at hl 1 rfl) ?_
    refine gf_Tree_34 (v := .ref q_node) hx hb hts hN hown hK hP 0 rfl rfl d_Tree_dropLeaf_53 ?_
    refine lv_aload_n hx hb d_Tree_dropLeaf_56 rfl (lv_at hl 1 rfl) ?_
    refine gf_Tree_34 (v := .ref q_node) hx hb hts hN hown hK hP 0 rfl rfl d_Tree_dropLeaf_57 ?_
    refine lv_iload_n hx hb d_Tree_dropLeaf_60 rfl (lv_at hl 0 rfl) ?_
    obtain ⟨r25, hc, hf⟩ := pu_b1_some hf
    refine cl_i (WC := [(q_node, .inr (3, [.ref q_node_bytes, .ref q_node_starts, .ref q_node_sizes, .int w4, .int w5, .int w6])), (q_node_bytes, .inl (cB, 96, .inl w7)), (q_node_starts, .inl (cI, 31, .inl w8))]) (WC2 := [(q_node, .inr (3, [.ref q_node_bytes, .ref q_node_starts, .ref q_node_sizes, .int w4, .int w5, .int w6])), (q_node_bytes, .inl (cB, 96, .inl w7)), (q_node_starts, .inl (cI, 31, .inl w8))]) (WR := [(q_this, .inr (5, [.ref q_pages, .ref q_node, .ref q_row, .ref q_path, .ref q_slots, .int v_depth, .int v_slot, .ref q_cell, .int v_cellSize, .ref q_waiting, .ref q_leaves])), (q_pages, .inr (0, [.ref q_pages_bytes, .int v_pages_count])), (q_pages_bytes, .inl (cB, 1536, .inl w2)), (q_node_sizes, .inl (cI, 31, .inl w9)), (q_path, .inl (cI, 25, .inl v_path)), (q_slots, .inl (cI, 25, .inl v_slots))]) (WS2 := [(q_this, .inr (5, [.ref q_pages, .ref q_node, .ref q_row, .ref q_path, .ref q_slots, .int v_depth, .int v_slot, .ref q_cell, .int v_cellSize, .ref q_waiting, .ref q_leaves])), (q_pages, .inr (0, [.ref q_pages_bytes, .int v_pages_count])), (q_pages_bytes, .inl (cB, 1536, .inl w2)), (q_node, .inr (3, [.ref q_node_bytes, .ref q_node_starts, .ref q_node_sizes, .int w4, .int w5, .int w6])), (q_node_bytes, .inl (cB, 96, .inl w7)), (q_node_starts, .inl (cI, 31, .inl w8)), (q_node_sizes, .inl (cI, 31, .inl w9)), (q_path, .inl (cI, 25, .inl v_path)), (q_slots, .inl (cI, 25, .inl v_slots))]) (pu_rv (cl := pu_cl) (pu_in4 _ (List.mem_of_getElem? (i := 4) rfl)) (pu_in4 _ (List.mem_of_getElem? (i := 5) rfl)) (pu_in4 _ (List.mem_of_getElem? (i := 6) rfl)) (pu_in0 _ (List.mem_of_getElem? (i := 6) rfl)) (pu_in4 _ (List.mem_of_getElem? (i := 7) rfl)) (ci := 3) rfl hd_Node_child (by decide) ⟨rfl, rfl⟩ rfl rfl (Nat.le_of_ble_eq_true rfl) rfl (As := [.int t24]) (rest := [.ref q_node]) (WC := [(q_node, .inr (3, [.ref q_node_bytes, .ref q_node_starts, .ref q_node_sizes, .int w4, .int w5, .int w6])), (q_node_bytes, .inl (cB, 96, .inl w7)), (q_node_starts, .inl (cI, 31, .inl w8))]) hx hb hml hown hts hN hK hP hD (c_Node_child l D cI cJ cB cZ H.size q_node q_node_bytes q_node_starts q_node_sizes w4 w5 w6 w7 w8 t24 r25 hc) [3, 4, 5] rfl rfl hl.1 d_Tree_dropLeaf_61) hP hD hS hA [3, 4, 5] [0, 1, 2, 6, 7, 8] [0, 1, 2, 6, 7, 8, 3, 4, 5] rfl rfl rfl (by decide) rfl rfl (fun H locs hP hD hS => ?_)
    refine pf_Tree_157 (v := .int r25) hx hb hts hN hown hK hP hD hS 3 rfl rfl rfl (Nat.le_of_ble_eq_true rfl) d_Tree_dropLeaf_64 (fun H locs hP hD hS => ?_)
    have hP : va_P D pu_cl [(q_this, .inr (5, [.ref q_pages, .ref q_node, .ref q_row, .ref q_path, .ref q_slots, .int v_depth, .int v_slot, .ref q_cell, .int v_cellSize, .ref q_waiting, .ref q_leaves])), (q_pages, .inr (0, [.ref q_pages_bytes, .int v_pages_count])), (q_pages_bytes, .inl (cB, 1536, .inl w2)), (q_node, .inr (3, [.ref q_node_bytes, .ref q_node_starts, .ref q_node_sizes, .int w4, .int r25, .int w6])), (q_node_bytes, .inl (cB, 96, .inl w7)), (q_node_starts, .inl (cI, 31, .inl w8)), (q_node_sizes, .inl (cI, 31, .inl w9)), (q_path, .inl (cI, 25, .inl v_path)), (q_slots, .inl (cI, 25, .inl v_slots))] H := hP
    have hD : va_D A [(q_this, .inr (5, [.ref q_pages, .ref q_node, .ref q_row, .ref q_path, .ref q_slots, .int v_depth, .int v_slot, .ref q_cell, .int v_cellSize, .ref q_waiting, .ref q_leaves])), (q_pages, .inr (0, [.ref q_pages_bytes, .int v_pages_count])), (q_pages_bytes, .inl (cB, 1536, .inl w2)), (q_node, .inr (3, [.ref q_node_bytes, .ref q_node_starts, .ref q_node_sizes, .int w4, .int r25, .int w6])), (q_node_bytes, .inl (cB, 96, .inl w7)), (q_node_starts, .inl (cI, 31, .inl w8)), (q_node_sizes, .inl (cI, 31, .inl w9)), (q_path, .inl (cI, 25, .inl v_path)), (q_slots, .inl (cI, 25, .inl v_slots))] := hD
    exact lb_67 w2 w4 r25 w6 w7 w8 w9 x_1 t24 H locs ls hP hD hS (lv_sub hl [1, 2, 0] rfl) hf
  rw [hH, hlocs] at goal
  exact goal
theorem d_Tree_takeOut_0 : decode b_Tree_takeOut 0 = .ok (.aload_n 0, 1) := by decide +kernel
theorem d_Tree_takeOut_1 : decode b_Tree_takeOut 1 = .ok (.getfield 34, 3) := by decide +kernel
theorem d_Tree_takeOut_4 : decode b_Tree_takeOut 4 = .ok (.aload_n 0, 1) := by decide +kernel
theorem d_Tree_takeOut_5 : decode b_Tree_takeOut 5 = .ok (.getfield 60, 3) := by decide +kernel
theorem d_Tree_takeOut_8 : decode b_Tree_takeOut 8 = .ok (.invokevirtual 160, 3) := by decide +kernel
theorem d_Tree_takeOut_11 : decode b_Tree_takeOut 11 = .ok (.istore_n 1, 1) := by decide +kernel
theorem d_Tree_takeOut_12 : decode b_Tree_takeOut 12 = .ok (.aload_n 0, 1) := by decide +kernel
theorem d_Tree_takeOut_13 : decode b_Tree_takeOut 13 = .ok (.getfield 34, 3) := by decide +kernel
theorem d_Tree_takeOut_16 : decode b_Tree_takeOut 16 = .ok (.aload_n 0, 1) := by decide +kernel
theorem d_Tree_takeOut_17 : decode b_Tree_takeOut 17 = .ok (.getfield 60, 3) := by decide +kernel
theorem d_Tree_takeOut_20 : decode b_Tree_takeOut 20 = .ok (.iload_n 1, 1) := by decide +kernel
theorem d_Tree_takeOut_21 : decode b_Tree_takeOut 21 = .ok (.invokevirtual 163, 3) := by decide +kernel
theorem d_Tree_takeOut_24 : decode b_Tree_takeOut 24 = .ok (.istore_n 2, 1) := by decide +kernel
theorem d_Tree_takeOut_25 : decode b_Tree_takeOut 25 = .ok (.aload_n 0, 1) := by decide +kernel
theorem d_Tree_takeOut_26 : decode b_Tree_takeOut 26 = .ok (.getfield 34, 3) := by decide +kernel
theorem d_Tree_takeOut_29 : decode b_Tree_takeOut 29 = .ok (.aload_n 0, 1) := by decide +kernel
theorem d_Tree_takeOut_30 : decode b_Tree_takeOut 30 = .ok (.getfield 60, 3) := by decide +kernel
theorem d_Tree_takeOut_33 : decode b_Tree_takeOut 33 = .ok (.invokevirtual 166, 3) := by decide +kernel
theorem d_Tree_takeOut_36 : decode b_Tree_takeOut 36 = .ok (.aload_n 0, 1) := by decide +kernel
theorem d_Tree_takeOut_37 : decode b_Tree_takeOut 37 = .ok (.getfield 34, 3) := by decide +kernel
theorem d_Tree_takeOut_40 : decode b_Tree_takeOut 40 = .ok (.aload_n 0, 1) := by decide +kernel
theorem d_Tree_takeOut_41 : decode b_Tree_takeOut 41 = .ok (.getfield 30, 3) := by decide +kernel
theorem d_Tree_takeOut_44 : decode b_Tree_takeOut 44 = .ok (.aload_n 0, 1) := by decide +kernel
theorem d_Tree_takeOut_45 : decode b_Tree_takeOut 45 = .ok (.getfield 9, 3) := by decide +kernel
theorem d_Tree_takeOut_48 : decode b_Tree_takeOut 48 = .ok (.aload_n 0, 1) := by decide +kernel
theorem d_Tree_takeOut_49 : decode b_Tree_takeOut 49 = .ok (.getfield 48, 3) := by decide +kernel
theorem d_Tree_takeOut_52 : decode b_Tree_takeOut 52 = .ok (.iaload, 1) := by decide +kernel
theorem d_Tree_takeOut_53 : decode b_Tree_takeOut 53 = .ok (.invokevirtual 145, 3) := by decide +kernel
theorem d_Tree_takeOut_56 : decode b_Tree_takeOut 56 = .ok (.iconst 0, 1) := by decide +kernel
theorem d_Tree_takeOut_57 : decode b_Tree_takeOut 57 = .ok (.istore_n 3, 1) := by decide +kernel
theorem d_Tree_takeOut_58 : decode b_Tree_takeOut 58 = .ok (.iload_n 3, 1) := by decide +kernel
theorem d_Tree_takeOut_59 : decode b_Tree_takeOut 59 = .ok (.iload_n 1, 1) := by decide +kernel
theorem d_Tree_takeOut_60 : decode b_Tree_takeOut 60 = .ok (.invokestatic 103, 3) := by decide +kernel
theorem d_Tree_takeOut_63 : decode b_Tree_takeOut 63 = .ok (.if_icmp .ge 31, 3) := by decide +kernel
theorem d_Tree_takeOut_66 : decode b_Tree_takeOut 66 = .ok (.aload_n 0, 1) := by decide +kernel
theorem d_Tree_takeOut_67 : decode b_Tree_takeOut 67 = .ok (.getfield 30, 3) := by decide +kernel
theorem d_Tree_takeOut_70 : decode b_Tree_takeOut 70 = .ok (.iload_n 2, 1) := by decide +kernel
theorem d_Tree_takeOut_71 : decode b_Tree_takeOut 71 = .ok (.iconst 0, 1) := by decide +kernel
theorem d_Tree_takeOut_72 : decode b_Tree_takeOut 72 = .ok (.invokevirtual 169, 3) := by decide +kernel
theorem d_Tree_takeOut_75 : decode b_Tree_takeOut 75 = .ok (.istore 4, 2) := by decide +kernel
theorem d_Tree_takeOut_77 : decode b_Tree_takeOut 77 = .ok (.aload_n 0, 1) := by decide +kernel
theorem d_Tree_takeOut_78 : decode b_Tree_takeOut 78 = .ok (.getfield 30, 3) := by decide +kernel
theorem d_Tree_takeOut_81 : decode b_Tree_takeOut 81 = .ok (.iload_n 2, 1) := by decide +kernel
theorem d_Tree_takeOut_82 : decode b_Tree_takeOut 82 = .ok (.invokevirtual 172, 3) := by decide +kernel
theorem d_Tree_takeOut_85 : decode b_Tree_takeOut 85 = .ok (.iload 4, 2) := by decide +kernel
theorem d_Tree_takeOut_87 : decode b_Tree_takeOut 87 = .ok (.istore_n 2, 1) := by decide +kernel
theorem d_Tree_takeOut_88 : decode b_Tree_takeOut 88 = .ok (.iinc 3 1, 3) := by decide +kernel
theorem d_Tree_takeOut_91 : decode b_Tree_takeOut 91 = .ok (.goto (-33), 3) := by decide +kernel
theorem d_Tree_takeOut_94 : decode b_Tree_takeOut 94 = .ok (.aload_n 0, 1) := by decide +kernel
theorem d_Tree_takeOut_95 : decode b_Tree_takeOut 95 = .ok (.getfield 34, 3) := by decide +kernel
theorem d_Tree_takeOut_98 : decode b_Tree_takeOut 98 = .ok (.getfield 132, 3) := by decide +kernel
theorem d_Tree_takeOut_101 : decode b_Tree_takeOut 101 = .ok (.ifCond .ne 36, 3) := by decide +kernel
theorem d_Tree_takeOut_104 : decode b_Tree_takeOut 104 = .ok (.aload_n 0, 1) := by decide +kernel
theorem d_Tree_takeOut_105 : decode b_Tree_takeOut 105 = .ok (.getfield 48, 3) := by decide +kernel
theorem d_Tree_takeOut_108 : decode b_Tree_takeOut 108 = .ok (.ifCond .le 29, 3) := by decide +kernel
theorem d_Tree_takeOut_111 : decode b_Tree_takeOut 111 = .ok (.aload_n 0, 1) := by decide +kernel
theorem d_Tree_takeOut_112 : decode b_Tree_takeOut 112 = .ok (.aload_n 0, 1) := by decide +kernel
theorem d_Tree_takeOut_113 : decode b_Tree_takeOut 113 = .ok (.getfield 9, 3) := by decide +kernel
theorem d_Tree_takeOut_116 : decode b_Tree_takeOut 116 = .ok (.aload_n 0, 1) := by decide +kernel
theorem d_Tree_takeOut_117 : decode b_Tree_takeOut 117 = .ok (.getfield 48, 3) := by decide +kernel
theorem d_Tree_takeOut_120 : decode b_Tree_takeOut 120 = .ok (.iconst 1, 1) := by decide +kernel
theorem d_Tree_takeOut_121 : decode b_Tree_takeOut 121 = .ok (.isub, 1) := by decide +kernel
theorem d_Tree_takeOut_122 : decode b_Tree_takeOut 122 = .ok (.iaload, 1) := by decide +kernel
theorem d_Tree_takeOut_123 : decode b_Tree_takeOut 123 = .ok (.aload_n 0, 1) := by decide +kernel
theorem d_Tree_takeOut_124 : decode b_Tree_takeOut 124 = .ok (.getfield 15, 3) := by decide +kernel
theorem d_Tree_takeOut_127 : decode b_Tree_takeOut 127 = .ok (.aload_n 0, 1) := by decide +kernel
theorem d_Tree_takeOut_128 : decode b_Tree_takeOut 128 = .ok (.getfield 48, 3) := by decide +kernel
theorem d_Tree_takeOut_131 : decode b_Tree_takeOut 131 = .ok (.iconst 1, 1) := by decide +kernel
theorem d_Tree_takeOut_132 : decode b_Tree_takeOut 132 = .ok (.isub, 1) := by decide +kernel
theorem d_Tree_takeOut_133 : decode b_Tree_takeOut 133 = .ok (.iaload, 1) := by decide +kernel
theorem d_Tree_takeOut_134 : decode b_Tree_takeOut 134 = .ok (.invokevirtual 175, 3) := by decide +kernel
theorem d_Tree_takeOut_137 : decode b_Tree_takeOut 137 = .ok (.return_, 1) := by decide +kernel
noncomputable def q_Tree_takeOut_94 (v_depth : Int32) (v_slot : Int32) (v_pages_count : Int32) (v_path : Nat → Int32) (v_slots : Nat → Int32) (v_pages_bytes : Nat → Int32) (v_node_count : Int32) (v_node_last : Int32) (v_node_leaf : Int32) (v_node_bytes : Nat → Int32) (v_node_starts : Nat → Int32) (v_node_sizes : Nat → Int32) : Option ((Nat → Int32) × Int32 × Int32 × Int32 × (Nat → Int32) × (Nat → Int32) × (Nat → Int32)) :=
  pu_br (v_node_count = 0) (pu_br (v_depth ≤ 0) (some (v_pages_bytes, v_node_count, v_node_last, v_node_leaf, v_node_bytes, v_node_starts, v_node_sizes)) (pu_ck (vp_in (v_depth - (1 : Int32)) 25) (pu_ck (vp_in (v_depth - (1 : Int32)) 25) (pu_b7 (f_Tree_dropLeaf v_depth v_pages_count v_path v_slots v_pages_bytes v_node_count v_node_last v_node_leaf v_node_bytes v_node_starts v_node_sizes (v_path (v_depth - (1 : Int32)).toNatClampNeg) (v_slots (v_depth - (1 : Int32)).toNatClampNeg)) (fun w10 w11 w12 w13 w14 w15 w16 => some (w10, w11, w12, w13, w14, w15, w16)))))) (some (v_pages_bytes, v_node_count, v_node_last, v_node_leaf, v_node_bytes, v_node_starts, v_node_sizes))
noncomputable def q_Tree_takeOut_58 (kx_94 : (Nat → Int32) → Option ((Nat → Int32) × Int32 × Int32 × Int32 × (Nat → Int32) × (Nat → Int32) × (Nat → Int32))) (v_depth : Int32) (v_slot : Int32) (v_pages_count : Int32) (v_path : Nat → Int32) (v_slots : Nat → Int32) (v_node_count : Int32) (v_node_last : Int32) (v_node_leaf : Int32) (v_node_bytes : Nat → Int32) (v_node_starts : Nat → Int32) (v_node_sizes : Nat → Int32) (x_1 : Int32) : Nat → (Nat → Int32) → Int32 → Int32 → Option ((Nat → Int32) × Int32 × Int32 × Int32 × (Nat → Int32) × (Nat → Int32) × (Nat → Int32))
  | 0, _, _, _ => none
  | n + 1, v_pages_bytes, x_2, x_3 => pu_b1 (f_RF_chainPages x_1) (fun r17 => pu_br (r17 ≤ x_3) (kx_94 v_pages_bytes) (pu_b1 (f_Pages_get v_pages_count v_pages_bytes x_2 (0 : Int32)) (fun r18 => pu_b1 (f_Pages_freePage v_pages_count v_pages_bytes x_2) (fun w20 => pu_nm (x_3 + (1 : Int32)) (fun t21 => q_Tree_takeOut_58 kx_94 v_depth v_slot v_pages_count v_path v_slots v_node_count v_node_last v_node_leaf v_node_bytes v_node_starts v_node_sizes x_1 n w20 r18 t21)))))
noncomputable def f_Tree_takeOut (v_depth : Int32) (v_slot : Int32) (v_pages_count : Int32) (v_path : Nat → Int32) (v_slots : Nat → Int32) (v_pages_bytes : Nat → Int32) (v_node_count : Int32) (v_node_last : Int32) (v_node_leaf : Int32) (v_node_bytes : Nat → Int32) (v_node_starts : Nat → Int32) (v_node_sizes : Nat → Int32) : Option ((Nat → Int32) × Int32 × Int32 × Int32 × (Nat → Int32) × (Nat → Int32) × (Nat → Int32)) :=
  pu_b1 (f_Node_recordLength v_node_count v_node_bytes v_node_starts v_node_sizes v_slot) (fun r1 => pu_b1 (f_Node_chainStart v_node_count v_node_bytes v_node_starts v_node_sizes v_slot r1) (fun r2 => pu_b3 (f_Node_dropCell v_node_count v_node_starts v_node_sizes v_slot) (fun w4 w5 w6 => pu_ck (vp_in v_depth 25) (pu_b1 (f_Node_storeAll w4 v_node_last v_node_leaf v_node_bytes w5 w6 v_pages_count v_pages_bytes (v_path v_depth.toNatClampNeg)) (fun w8 => q_Tree_takeOut_58 (fun v_pages_bytes => q_Tree_takeOut_94 v_depth v_slot v_pages_count v_path v_slots v_pages_bytes w4 v_node_last v_node_leaf v_node_bytes w5 w6) v_depth v_slot v_pages_count v_path v_slots w4 v_node_last v_node_leaf v_node_bytes w5 w6 r1 pu_fu w8 r2 (0 : Int32))))))
abbrev rm_Tree_takeOut : Room := { frames := 7, cells := 0, slots := 0, locals := 163 }
set_option maxHeartbeats 8000000 in
set_option maxRecDepth 100000 in
theorem c_Tree_takeOut (l : Launch) (D : va_G) (cI cJ cB cZ : ClassId) (sz : Nat) (q_this : Nat) (q_pages : Nat) (q_node : Nat) (q_row : Nat) (q_path : Nat) (q_slots : Nat) (q_cell : Nat) (q_waiting : Nat) (q_leaves : Nat) (q_pages_bytes : Nat) (q_node_bytes : Nat) (q_node_starts : Nat) (q_node_sizes : Nat) (v_depth : Int32) (v_slot : Int32) (v_cellSize : Int32) (v_pages_count : Int32) (v_pages_bytes : Nat → Int32) (v_node_count : Int32) (v_node_last : Int32) (v_node_leaf : Int32) (v_node_bytes : Nat → Int32) (v_node_starts : Nat → Int32) (v_node_sizes : Nat → Int32) (v_path : Nat → Int32) (v_slots : Nat → Int32) (o_pages_bytes : Nat → Int32) (o_node_count : Int32) (o_node_last : Int32) (o_node_leaf : Int32) (o_node_bytes : Nat → Int32) (o_node_starts : Nat → Int32) (o_node_sizes : Nat → Int32) (hf : f_Tree_takeOut v_depth v_slot v_pages_count v_path v_slots v_pages_bytes v_node_count v_node_last v_node_leaf v_node_bytes v_node_starts v_node_sizes = some (o_pages_bytes, o_node_count, o_node_last, o_node_leaf, o_node_bytes, o_node_starts, o_node_sizes)) : Met l y_Tree_takeOut (.code y_Tree_takeOut b_Tree_takeOut 5 none :: pu_wA) rm_Tree_takeOut (pu_pc D pu_cl (pu_ty cI cJ cB cZ) [.ref q_this] [(q_this, .inr (5, [.ref q_pages, .ref q_node, .ref q_row, .ref q_path, .ref q_slots, .int v_depth, .int v_slot, .ref q_cell, .int v_cellSize, .ref q_waiting, .ref q_leaves])), (q_pages, .inr (0, [.ref q_pages_bytes, .int v_pages_count])), (q_pages_bytes, .inl (cB, 1536, .inl v_pages_bytes)), (q_node, .inr (3, [.ref q_node_bytes, .ref q_node_starts, .ref q_node_sizes, .int v_node_count, .int v_node_last, .int v_node_leaf])), (q_node_bytes, .inl (cB, 96, .inl v_node_bytes)), (q_node_starts, .inl (cI, 31, .inl v_node_starts)), (q_node_sizes, .inl (cI, 31, .inl v_node_sizes)), (q_path, .inl (cI, 25, .inl v_path)), (q_slots, .inl (cI, 25, .inl v_slots))] sz) (pu_qv D pu_cl (pu_ty cI cJ cB cZ) [(q_this, .inr (5, [.ref q_pages, .ref q_node, .ref q_row, .ref q_path, .ref q_slots, .int v_depth, .int v_slot, .ref q_cell, .int v_cellSize, .ref q_waiting, .ref q_leaves])), (q_pages, .inr (0, [.ref q_pages_bytes, .int v_pages_count])), (q_pages_bytes, .inl (cB, 1536, .inl v_pages_bytes)), (q_node, .inr (3, [.ref q_node_bytes, .ref q_node_starts, .ref q_node_sizes, .int v_node_count, .int v_node_last, .int v_node_leaf])), (q_node_bytes, .inl (cB, 96, .inl v_node_bytes)), (q_node_starts, .inl (cI, 31, .inl v_node_starts)), (q_node_sizes, .inl (cI, 31, .inl v_node_sizes)), (q_path, .inl (cI, 25, .inl v_path)), (q_slots, .inl (cI, 25, .inl v_slots))] [(q_this, .inr (5, [.ref q_pages, .ref q_node, .ref q_row, .ref q_path, .ref q_slots, .int v_depth, .int v_slot, .ref q_cell, .int v_cellSize, .ref q_waiting, .ref q_leaves])), (q_pages, .inr (0, [.ref q_pages_bytes, .int v_pages_count])), (q_pages_bytes, .inl (cB, 1536, .inl o_pages_bytes)), (q_node, .inr (3, [.ref q_node_bytes, .ref q_node_starts, .ref q_node_sizes, .int o_node_count, .int o_node_last, .int o_node_leaf])), (q_node_bytes, .inl (cB, 96, .inl o_node_bytes)), (q_node_starts, .inl (cI, 31, .inl o_node_starts)), (q_node_sizes, .inl (cI, 31, .inl o_node_sizes)), (q_path, .inl (cI, 25, .inl v_path)), (q_slots, .inl (cI, 25, .inl v_slots))] sz) 0 0 (va_A [(q_this, .inr (5, [.ref q_pages, .ref q_node, .ref q_row, .ref q_path, .ref q_slots, .int v_depth, .int v_slot, .ref q_cell, .int v_cellSize, .ref q_waiting, .ref q_leaves])), (q_pages, .inr (0, [.ref q_pages_bytes, .int v_pages_count])), (q_pages_bytes, .inl (cB, 1536, .inl v_pages_bytes)), (q_node, .inr (3, [.ref q_node_bytes, .ref q_node_starts, .ref q_node_sizes, .int v_node_count, .int v_node_last, .int v_node_leaf])), (q_node_bytes, .inl (cB, 96, .inl v_node_bytes)), (q_node_starts, .inl (cI, 31, .inl v_node_starts)), (q_node_sizes, .inl (cI, 31, .inl v_node_sizes)), (q_path, .inl (cI, 25, .inl v_path)), (q_slots, .inl (cI, 25, .inl v_slots))] sz) := by
  refine pu_mtv [.ref q_this] [(q_this, .inr (5, [.ref q_pages, .ref q_node, .ref q_row, .ref q_path, .ref q_slots, .int v_depth, .int v_slot, .ref q_cell, .int v_cellSize, .ref q_waiting, .ref q_leaves])), (q_pages, .inr (0, [.ref q_pages_bytes, .int v_pages_count])), (q_pages_bytes, .inl (cB, 1536, .inl v_pages_bytes)), (q_node, .inr (3, [.ref q_node_bytes, .ref q_node_starts, .ref q_node_sizes, .int v_node_count, .int v_node_last, .int v_node_leaf])), (q_node_bytes, .inl (cB, 96, .inl v_node_bytes)), (q_node_starts, .inl (cI, 31, .inl v_node_starts)), (q_node_sizes, .inl (cI, 31, .inl v_node_sizes)), (q_path, .inl (cI, 25, .inl v_path)), (q_slots, .inl (cI, 25, .inl v_slots))] [(q_this, .inr (5, [.ref q_pages, .ref q_node, .ref q_row, .ref q_path, .ref q_slots, .int v_depth, .int v_slot, .ref q_cell, .int v_cellSize, .ref q_waiting, .ref q_leaves])), (q_pages, .inr (0, [.ref q_pages_bytes, .int v_pages_count])), (q_pages_bytes, .inl (cB, 1536, .inl o_pages_bytes)), (q_node, .inr (3, [.ref q_node_bytes, .ref q_node_starts, .ref q_node_sizes, .int o_node_count, .int o_node_last, .int o_node_leaf])), (q_node_bytes, .inl (cB, 96, .inl o_node_bytes)), (q_node_starts, .inl (cI, 31, .inl o_node_starts)), (q_node_sizes, .inl (cI, 31, .inl o_node_sizes)), (q_path, .inl (cI, 25, .inl v_path)), (q_slots, .inl (cI, 25, .inl v_slots))] (by decide) (Nat.le_of_ble_eq_true rfl) ?_
  intro p e s m args below meth c A Q ls hx hb hml hts hN hown hK hA hP hD hl hret0
  have hS : va_S A s.heap s.heap [] := va_S.rf
  have hl : lv_has ls 5 [(0, .ref q_this)] := hl
  have hret : ∀ (pc : Nat) (ls : Array Slot) (H : Heap) (locs : List Loc) (y_0 : Nat → Int32) (y_1 : Int32) (y_2 : Int32) (y_3 : Int32) (y_4 : Nat → Int32) (y_5 : Nat → Int32) (y_6 : Nat → Int32), decode b_Tree_takeOut pc = .ok (.return_, 1) → va_P D pu_cl [(q_this, .inr (5, [.ref q_pages, .ref q_node, .ref q_row, .ref q_path, .ref q_slots, .int v_depth, .int v_slot, .ref q_cell, .int v_cellSize, .ref q_waiting, .ref q_leaves])), (q_pages, .inr (0, [.ref q_pages_bytes, .int v_pages_count])), (q_pages_bytes, .inl (cB, 1536, .inl y_0)), (q_node, .inr (3, [.ref q_node_bytes, .ref q_node_starts, .ref q_node_sizes, .int y_1, .int y_2, .int y_3])), (q_node_bytes, .inl (cB, 96, .inl y_4)), (q_node_starts, .inl (cI, 31, .inl y_5)), (q_node_sizes, .inl (cI, 31, .inl y_6)), (q_path, .inl (cI, 25, .inl v_path)), (q_slots, .inl (cI, 25, .inl v_slots))] H → va_D A [(q_this, .inr (5, [.ref q_pages, .ref q_node, .ref q_row, .ref q_path, .ref q_slots, .int v_depth, .int v_slot, .ref q_cell, .int v_cellSize, .ref q_waiting, .ref q_leaves])), (q_pages, .inr (0, [.ref q_pages_bytes, .int v_pages_count])), (q_pages_bytes, .inl (cB, 1536, .inl y_0)), (q_node, .inr (3, [.ref q_node_bytes, .ref q_node_starts, .ref q_node_sizes, .int y_1, .int y_2, .int y_3])), (q_node_bytes, .inl (cB, 96, .inl y_4)), (q_node_starts, .inl (cI, 31, .inl y_5)), (q_node_sizes, .inl (cI, 31, .inl y_6)), (q_path, .inl (cI, 25, .inl v_path)), (q_slots, .inl (cI, 25, .inl v_slots))] → va_S A s.heap H locs → some (y_0, y_1, y_2, y_3, y_4, y_5, y_6) = some (o_pages_bytes, o_node_count, o_node_last, o_node_leaf, o_node_bytes, o_node_starts, o_node_sizes) → W p l e rm_Tree_takeOut s m args below meth c H locs 0 0 Q (F0 m pc ls []) := by
    intro pc ls H locs y_0 y_1 y_2 y_3 y_4 y_5 y_6 hd hP hD hS hf
    cases hf
    exact hret0 pc ls H locs hd hP hD hS
  clear hret0
  unfold f_Tree_takeOut at hf
  skip
  have lb_94 : ∀ (v_pages_bytes : Nat → Int32) (v_node_count : Int32) (v_node_last : Int32) (v_node_leaf : Int32) (v_node_bytes : Nat → Int32) (v_node_starts : Nat → Int32) (v_node_sizes : Nat → Int32) (H : Heap) (locs : List Loc) (ls : Array Slot), va_P D pu_cl [(q_this, .inr (5, [.ref q_pages, .ref q_node, .ref q_row, .ref q_path, .ref q_slots, .int v_depth, .int v_slot, .ref q_cell, .int v_cellSize, .ref q_waiting, .ref q_leaves])), (q_pages, .inr (0, [.ref q_pages_bytes, .int v_pages_count])), (q_pages_bytes, .inl (cB, 1536, .inl v_pages_bytes)), (q_node, .inr (3, [.ref q_node_bytes, .ref q_node_starts, .ref q_node_sizes, .int v_node_count, .int v_node_last, .int v_node_leaf])), (q_node_bytes, .inl (cB, 96, .inl v_node_bytes)), (q_node_starts, .inl (cI, 31, .inl v_node_starts)), (q_node_sizes, .inl (cI, 31, .inl v_node_sizes)), (q_path, .inl (cI, 25, .inl v_path)), (q_slots, .inl (cI, 25, .inl v_slots))] H → va_D A [(q_this, .inr (5, [.ref q_pages, .ref q_node, .ref q_row, .ref q_path, .ref q_slots, .int v_depth, .int v_slot, .ref q_cell, .int v_cellSize, .ref q_waiting, .ref q_leaves])), (q_pages, .inr (0, [.ref q_pages_bytes, .int v_pages_count])), (q_pages_bytes, .inl (cB, 1536, .inl v_pages_bytes)), (q_node, .inr (3, [.ref q_node_bytes, .ref q_node_starts, .ref q_node_sizes, .int v_node_count, .int v_node_last, .int v_node_leaf])), (q_node_bytes, .inl (cB, 96, .inl v_node_bytes)), (q_node_starts, .inl (cI, 31, .inl v_node_starts)), (q_node_sizes, .inl (cI, 31, .inl v_node_sizes)), (q_path, .inl (cI, 25, .inl v_path)), (q_slots, .inl (cI, 25, .inl v_slots))] → va_S A s.heap H locs → lv_has ls 5 [(0, .ref q_this)] → q_Tree_takeOut_94 v_depth v_slot v_pages_count v_path v_slots v_pages_bytes v_node_count v_node_last v_node_leaf v_node_bytes v_node_starts v_node_sizes = some (o_pages_bytes, o_node_count, o_node_last, o_node_leaf, o_node_bytes, o_node_starts, o_node_sizes) → W p l e rm_Tree_takeOut s m args below meth c H locs 0 0 Q (F0 m 94 ls []) := by
    intro v_pages_bytes v_node_count v_node_last v_node_leaf v_node_bytes v_node_starts v_node_sizes H locs ls hP hD hS hl hf
    rw [q_Tree_takeOut_94] at hf
    refine lv_aload_n hx hb d_Tree_takeOut_94 rfl (lv_at hl 0 rfl) ?_
    refine gf_Tree_34 (v := .ref q_node) hx hb hts hN hown hK hP 0 rfl rfl d_Tree_takeOut_95 ?_
    refine gf_Tree_132 (v := .int v_node_count) hx hb hts hN hown hK hP 3 rfl rfl d_Tree_takeOut_98 ?_
    refine lv_if_ne (tgt := 137) hx hb d_Tree_takeOut_101 rfl (fun hc => ?_) (fun hc => ?_)
    · have hf := pu_br_neg hf hc
      exact hret _ _ _ _ v_pages_bytes v_node_count v_node_last v_node_leaf v_node_bytes v_node_starts v_node_sizes d_Tree_takeOut_137 hP hD hS hf
    have hf := pu_br_pos hf hc
    refine lv_aload_n hx hb d_Tree_takeOut_104 rfl (lv_at hl 0 rfl) ?_
    refine gf_Tree_48 (v := .int v_depth) hx hb hts hN hown hK hP 0 rfl rfl d_Tree_takeOut_105 ?_
    refine lv_if_le (tgt := 137) hx hb d_Tree_takeOut_108 rfl (fun hc => ?_) (fun hc => ?_)
    · have hf := pu_br_pos hf hc
      exact hret _ _ _ _ v_pages_bytes v_node_count v_node_last v_node_leaf v_node_bytes v_node_starts v_node_sizes d_Tree_takeOut_137 hP hD hS hf
    have hf := pu_br_neg hf hc
    refine lv_aload_n hx hb d_Tree_takeOut_111 rfl (lv_at hl 0 rfl) ?_
    refine lv_aload_n hx hb d_Tree_takeOut_112 rfl (lv_at hl 0 rfl) ?_
    refine gf_Tree_9 (v := .ref q_path) hx hb hts hN hown hK hP 0 rfl rfl d_Tree_takeOut_113 ?_
    refine lv_aload_n hx hb d_Tree_takeOut_116 rfl (lv_at hl 0 rfl) ?_
    refine gf_Tree_48 (v := .int v_depth) hx hb hts hN hown hK hP 0 rfl rfl d_Tree_takeOut_117 ?_
    refine lv_iconst (v := 1) hx hb d_Tree_takeOut_120 rfl ?_
    refine lv_isub hx hb d_Tree_takeOut_121 ?_
    obtain ⟨hin, hf⟩ := pu_ck_some hf
    refine va_iald hx hb hK hP 7 0 rfl rfl hin d_Tree_takeOut_122 ?_
    refine lv_aload_n hx hb d_Tree_takeOut_123 rfl (lv_at hl 0 rfl) ?_
    refine gf_Tree_15 (v := .ref q_slots) hx hb hts hN hown hK hP 0 rfl rfl d_Tree_takeOut_124 ?_
    refine lv_aload_n hx hb d_Tree_takeOut_127 rfl (lv_at hl 0 rfl) ?_
    refine gf_Tree_48 (v := .int v_depth) hx hb hts hN hown hK hP 0 rfl rfl d_Tree_takeOut_128 ?_
    refine lv_iconst (v := 1) hx hb d_Tree_takeOut_131 rfl ?_
    refine lv_isub hx hb d_Tree_takeOut_132 ?_
    obtain ⟨hin, hf⟩ := pu_ck_some hf
    refine va_iald hx hb hK hP 8 0 rfl rfl hin d_Tree_takeOut_133 ?_
    obtain ⟨w10, w11, w12, w13, w14, w15, w16, hc, hf⟩ := pu_b7_some hf
    refine cl_v (WC := [(q_this, .inr (5, [.ref q_pages, .ref q_node, .ref q_row, .ref q_path, .ref q_slots, .int v_depth, .int v_slot, .ref q_cell, .int v_cellSize, .ref q_waiting, .ref q_leaves])), (q_pages, .inr (0, [.ref q_pages_bytes, .int v_pages_count])), (q_pages_bytes, .inl (cB, 1536, .inl v_pages_bytes)), (q_node, .inr (3, [.ref q_node_bytes, .ref q_node_starts, .ref q_node_sizes, .int v_node_count, .int v_node_last, .int v_node_leaf])), (q_node_bytes, .inl (cB, 96, .inl v_node_bytes)), (q_node_starts, .inl (cI, 31, .inl v_node_starts)), (q_node_sizes, .inl (cI, 31, .inl v_node_sizes)), (q_path, .inl (cI, 25, .inl v_path)), (q_slots, .inl (cI, 25, .inl v_slots))]) (WC2 := [(q_this, .inr (5, [.ref q_pages, .ref q_node, .ref q_row, .ref q_path, .ref q_slots, .int v_depth, .int v_slot, .ref q_cell, .int v_cellSize, .ref q_waiting, .ref q_leaves])), (q_pages, .inr (0, [.ref q_pages_bytes, .int v_pages_count])), (q_pages_bytes, .inl (cB, 1536, .inl w10)), (q_node, .inr (3, [.ref q_node_bytes, .ref q_node_starts, .ref q_node_sizes, .int w11, .int w12, .int w13])), (q_node_bytes, .inl (cB, 96, .inl w14)), (q_node_starts, .inl (cI, 31, .inl w15)), (q_node_sizes, .inl (cI, 31, .inl w16)), (q_path, .inl (cI, 25, .inl v_path)), (q_slots, .inl (cI, 25, .inl v_slots))]) (WR := []) (WS2 := [(q_this, .inr (5, [.ref q_pages, .ref q_node, .ref q_row, .ref q_path, .ref q_slots, .int v_depth, .int v_slot, .ref q_cell, .int v_cellSize, .ref q_waiting, .ref q_leaves])), (q_pages, .inr (0, [.ref q_pages_bytes, .int v_pages_count])), (q_pages_bytes, .inl (cB, 1536, .inl w10)), (q_node, .inr (3, [.ref q_node_bytes, .ref q_node_starts, .ref q_node_sizes, .int w11, .int w12, .int w13])), (q_node_bytes, .inl (cB, 96, .inl w14)), (q_node_starts, .inl (cI, 31, .inl w15)), (q_node_sizes, .inl (cI, 31, .inl w16)), (q_path, .inl (cI, 25, .inl v_path)), (q_slots, .inl (cI, 25, .inl v_slots))]) (pu_rv (cl := pu_cl) (pu_in5 _ (List.mem_of_getElem? (i := 42) rfl)) (pu_in5 _ (List.mem_of_getElem? (i := 43) rfl)) (pu_in13 _ (List.mem_of_getElem? (i := 54) rfl)) (pu_in0 _ (List.mem_of_getElem? (i := 7) rfl)) (pu_in5 _ (List.mem_of_getElem? (i := 44) rfl)) (ci := 5) rfl hd_Tree_dropLeaf (by decide) ⟨rfl, rfl⟩ rfl rfl (Nat.le_of_ble_eq_true rfl) rfl (As := [.int (v_path (v_depth - (1 : Int32)).toNatClampNeg), .int (v_slots (v_depth - (1 : Int32)).toNatClampNeg)]) (rest := []) (WC := [(q_this, .inr (5, [.ref q_pages, .ref q_node, .ref q_row, .ref q_path, .ref q_slots, .int v_depth, .int v_slot, .ref q_cell, .int v_cellSize, .ref q_waiting, .ref q_leaves])), (q_pages, .inr (0, [.ref q_pages_bytes, .int v_pages_count])), (q_pages_bytes, .inl (cB, 1536, .inl v_pages_bytes)), (q_node, .inr (3, [.ref q_node_bytes, .ref q_node_starts, .ref q_node_sizes, .int v_node_count, .int v_node_last, .int v_node_leaf])), (q_node_bytes, .inl (cB, 96, .inl v_node_bytes)), (q_node_starts, .inl (cI, 31, .inl v_node_starts)), (q_node_sizes, .inl (cI, 31, .inl v_node_sizes)), (q_path, .inl (cI, 25, .inl v_path)), (q_slots, .inl (cI, 25, .inl v_slots))]) hx hb hml hown hts hN hK hP hD (c_Tree_dropLeaf l D cI cJ cB cZ H.size q_this q_pages q_node q_row q_path q_slots q_cell q_waiting q_leaves q_pages_bytes q_node_bytes q_node_starts q_node_sizes v_depth v_slot v_cellSize v_pages_count v_pages_bytes v_node_count v_node_last v_node_leaf v_node_bytes v_node_starts v_node_sizes v_path v_slots (v_path (v_depth - (1 : Int32)).toNatClampNeg) (v_slots (v_depth - (1 : Int32)).toNatClampNeg) w10 w11 w12 w13 w14 w15 w16 hc) [0, 1, 2, 3, 4, 5, 6, 7, 8] rfl rfl hl.1 d_Tree_takeOut_134) hP hD hS hA [0, 1, 2, 3, 4, 5, 6, 7, 8] [] [0, 1, 2, 3, 4, 5, 6, 7, 8] rfl rfl rfl (by decide) rfl rfl (fun H locs hP hD hS => ?_)
    exact hret _ _ _ _ w10 w11 w12 w13 w14 w15 w16 d_Tree_takeOut_137 hP hD hS hf
  have lp_58 : ∀ (v_node_count : Int32) (v_node_last : Int32) (v_node_leaf : Int32) (v_node_bytes : Nat → Int32) (v_node_starts : Nat → Int32) (v_node_sizes : Nat → Int32) (x_1 : Int32) (n58 : Nat) (v_pages_bytes : Nat → Int32) (x_2 : Int32) (x_3 : Int32) (H : Heap) (locs : List Loc) (ls : Array Slot), va_P D pu_cl [(q_this, .inr (5, [.ref q_pages, .ref q_node, .ref q_row, .ref q_path, .ref q_slots, .int v_depth, .int v_slot, .ref q_cell, .int v_cellSize, .ref q_waiting, .ref q_leaves])), (q_pages, .inr (0, [.ref q_pages_bytes, .int v_pages_count])), (q_pages_bytes, .inl (cB, 1536, .inl v_pages_bytes)), (q_node, .inr (3, [.ref q_node_bytes, .ref q_node_starts, .ref q_node_sizes, .int v_node_count, .int v_node_last, .int v_node_leaf])), (q_node_bytes, .inl (cB, 96, .inl v_node_bytes)), (q_node_starts, .inl (cI, 31, .inl v_node_starts)), (q_node_sizes, .inl (cI, 31, .inl v_node_sizes)), (q_path, .inl (cI, 25, .inl v_path)), (q_slots, .inl (cI, 25, .inl v_slots))] H → va_D A [(q_this, .inr (5, [.ref q_pages, .ref q_node, .ref q_row, .ref q_path, .ref q_slots, .int v_depth, .int v_slot, .ref q_cell, .int v_cellSize, .ref q_waiting, .ref q_leaves])), (q_pages, .inr (0, [.ref q_pages_bytes, .int v_pages_count])), (q_pages_bytes, .inl (cB, 1536, .inl v_pages_bytes)), (q_node, .inr (3, [.ref q_node_bytes, .ref q_node_starts, .ref q_node_sizes, .int v_node_count, .int v_node_last, .int v_node_leaf])), (q_node_bytes, .inl (cB, 96, .inl v_node_bytes)), (q_node_starts, .inl (cI, 31, .inl v_node_starts)), (q_node_sizes, .inl (cI, 31, .inl v_node_sizes)), (q_path, .inl (cI, 25, .inl v_path)), (q_slots, .inl (cI, 25, .inl v_slots))] → va_S A s.heap H locs → lv_has ls 5 [(0, .ref q_this), (1, .int x_1), (2, .int x_2), (3, .int x_3)] → q_Tree_takeOut_58 (fun v_pages_bytes => q_Tree_takeOut_94 v_depth v_slot v_pages_count v_path v_slots v_pages_bytes v_node_count v_node_last v_node_leaf v_node_bytes v_node_starts v_node_sizes) v_depth v_slot v_pages_count v_path v_slots v_node_count v_node_last v_node_leaf v_node_bytes v_node_starts v_node_sizes x_1 n58 v_pages_bytes x_2 x_3 = some (o_pages_bytes, o_node_count, o_node_last, o_node_leaf, o_node_bytes, o_node_starts, o_node_sizes) → W p l e rm_Tree_takeOut s m args below meth c H locs 0 0 Q (F0 m 58 ls []) := by
    intro v_node_count v_node_last v_node_leaf v_node_bytes v_node_starts v_node_sizes x_1 n58
    induction n58 with
    | zero =>
      intro v_pages_bytes x_2 x_3 H locs ls hP hD hS hl hf
      rw [q_Tree_takeOut_58] at hf
      cases hf
    | succ n58 ih_58 =>
      intro v_pages_bytes x_2 x_3 H locs ls hP hD hS hl hf
      rw [q_Tree_takeOut_58] at hf
      refine lv_iload_n hx hb d_Tree_takeOut_58 rfl (lv_at hl 3 rfl) ?_
      refine lv_iload_n hx hb d_Tree_takeOut_59 rfl (lv_at hl 1 rfl) ?_
      obtain ⟨r17, hc, hf⟩ := pu_b1_some hf
      refine cl_i (WC := []) (WC2 := []) (WR := [(q_this, .inr (5, [.ref q_pages, .ref q_node, .ref q_row, .ref q_path, .ref q_slots, .int v_depth, .int v_slot, .ref q_cell, .int v_cellSize, .ref q_waiting, .ref q_leaves])), (q_pages, .inr (0, [.ref q_pages_bytes, .int v_pages_count])), (q_pages_bytes, .inl (cB, 1536, .inl v_pages_bytes)), (q_node, .inr (3, [.ref q_node_bytes, .ref q_node_starts, .ref q_node_sizes, .int v_node_count, .int v_node_last, .int v_node_leaf])), (q_node_bytes, .inl (cB, 96, .inl v_node_bytes)), (q_node_starts, .inl (cI, 31, .inl v_node_starts)), (q_node_sizes, .inl (cI, 31, .inl v_node_sizes)), (q_path, .inl (cI, 25, .inl v_path)), (q_slots, .inl (cI, 25, .inl v_slots))]) (WS2 := [(q_this, .inr (5, [.ref q_pages, .ref q_node, .ref q_row, .ref q_path, .ref q_slots, .int v_depth, .int v_slot, .ref q_cell, .int v_cellSize, .ref q_waiting, .ref q_leaves])), (q_pages, .inr (0, [.ref q_pages_bytes, .int v_pages_count])), (q_pages_bytes, .inl (cB, 1536, .inl v_pages_bytes)), (q_node, .inr (3, [.ref q_node_bytes, .ref q_node_starts, .ref q_node_sizes, .int v_node_count, .int v_node_last, .int v_node_leaf])), (q_node_bytes, .inl (cB, 96, .inl v_node_bytes)), (q_node_starts, .inl (cI, 31, .inl v_node_starts)), (q_node_sizes, .inl (cI, 31, .inl v_node_sizes)), (q_path, .inl (cI, 25, .inl v_path)), (q_slots, .inl (cI, 25, .inl v_slots))]) (pu_rsn (List.mem_of_getElem? (i := 36) rfl) (pu_in4 _ (List.mem_of_getElem? (i := 27) rfl)) (pu_in0 _ (List.mem_of_getElem? (i := 1) rfl)) (pu_in4 _ (List.mem_of_getElem? (i := 28) rfl)) hd_RF_chainPages (by decide) ⟨rfl, rfl⟩ rfl rfl (Nat.le_of_ble_eq_true rfl) (As := [.int x_1]) (rest := [.int x_3]) (WC := []) hx hb hml hown hts hN hK hP hD (c_RF_chainPages l D cI cJ cB cZ H.size x_1 r17 hc) [] rfl rfl hl.1 d_Tree_takeOut_60) hP hD hS hA [] [0, 1, 2, 3, 4, 5, 6, 7, 8] [0, 1, 2, 3, 4, 5, 6, 7, 8] rfl rfl rfl (by decide) rfl rfl (fun H locs hP hD hS => ?_)
      refine lv_icmp_ge (tgt := 94) hx hb d_Tree_takeOut_63 rfl (fun hc => ?_) (fun hc => ?_)
      · have hf := pu_br_pos hf hc
        exact lb_94 v_pages_bytes v_node_count v_node_last v_node_leaf v_node_bytes v_node_starts v_node_sizes H locs ls hP hD hS (lv_sub hl [0] rfl) hf
      have hf := pu_br_neg hf hc
      refine lv_aload_n hx hb d_Tree_takeOut_66 rfl (lv_at hl 0 rfl) ?_
      refine gf_Tree_30 (v := .ref q_pages) hx hb hts hN hown hK hP 0 rfl rfl d_Tree_takeOut_67 ?_
      refine lv_iload_n hx hb d_Tree_takeOut_70 rfl (lv_at hl 2 rfl) ?_
      refine lv_iconst (v := 0) hx hb d_Tree_takeOut_71 rfl ?_
      obtain ⟨r18, hc, hf⟩ := pu_b1_some hf
      refine cl_i (WC := [(q_pages, .inr (0, [.ref q_pages_bytes, .int v_pages_count])), (q_pages_bytes, .inl (cB, 1536, .inl v_pages_bytes))]) (WC2 := [(q_pages, .inr (0, [.ref q_pages_bytes, .int v_pages_count])), (q_pages_bytes, .inl (cB, 1536, .inl v_pages_bytes))]) (WR := [(q_this, .inr (5, [.ref q_pages, .ref q_node, .ref q_row, .ref q_path, .ref q_slots, .int v_depth, .int v_slot, .ref q_cell, .int v_cellSize, .ref q_waiting, .ref q_leaves])), (q_node, .inr (3, [.ref q_node_bytes, .ref q_node_starts, .ref q_node_sizes, .int v_node_count, .int v_node_last, .int v_node_leaf])), (q_node_bytes, .inl (cB, 96, .inl v_node_bytes)), (q_node_starts, .inl (cI, 31, .inl v_node_starts)), (q_node_sizes, .inl (cI, 31, .inl v_node_sizes)), (q_path, .inl (cI, 25, .inl v_path)), (q_slots, .inl (cI, 25, .inl v_slots))]) (WS2 := [(q_this, .inr (5, [.ref q_pages, .ref q_node, .ref q_row, .ref q_path, .ref q_slots, .int v_depth, .int v_slot, .ref q_cell, .int v_cellSize, .ref q_waiting, .ref q_leaves])), (q_pages, .inr (0, [.ref q_pages_bytes, .int v_pages_count])), (q_pages_bytes, .inl (cB, 1536, .inl v_pages_bytes)), (q_node, .inr (3, [.ref q_node_bytes, .ref q_node_starts, .ref q_node_sizes, .int v_node_count, .int v_node_last, .int v_node_leaf])), (q_node_bytes, .inl (cB, 96, .inl v_node_bytes)), (q_node_starts, .inl (cI, 31, .inl v_node_starts)), (q_node_sizes, .inl (cI, 31, .inl v_node_sizes)), (q_path, .inl (cI, 25, .inl v_path)), (q_slots, .inl (cI, 25, .inl v_slots))]) (pu_rv (cl := pu_cl) (pu_in5 _ (List.mem_of_getElem? (i := 37) rfl)) (pu_in3 _ (List.mem_of_getElem? (i := 38) rfl)) (pu_in3 _ (List.mem_of_getElem? (i := 39) rfl)) (pu_in0 _ (List.mem_of_getElem? (i := 3) rfl)) (pu_in3 _ (List.mem_of_getElem? (i := 40) rfl)) (ci := 0) rfl hd_Pages_get (by decide) ⟨rfl, rfl⟩ rfl rfl (Nat.le_of_ble_eq_true rfl) rfl (As := [.int x_2, .int (0 : Int32)]) (rest := []) (WC := [(q_pages, .inr (0, [.ref q_pages_bytes, .int v_pages_count])), (q_pages_bytes, .inl (cB, 1536, .inl v_pages_bytes))]) hx hb hml hown hts hN hK hP hD (c_Pages_get l D cI cJ cB cZ H.size q_pages q_pages_bytes v_pages_count v_pages_bytes x_2 (0 : Int32) r18 hc) [1, 2] rfl rfl hl.1 d_Tree_takeOut_72) hP hD hS hA [1, 2] [0, 3, 4, 5, 6, 7, 8] [0, 7, 8, 1, 2, 3, 4, 5, 6] rfl rfl rfl (by decide) rfl rfl (fun H locs hP hD hS => ?_)
      refine lv_istore hx hb d_Tree_takeOut_75 hl (by decide) rfl (fun ls hl => ?_)
      have hl : lv_has ls 5 [(4, .int r18), (0, .ref q_this), (1, .int x_1), (2, .int x_2), (3, .int x_3)] := hl
      refine lv_aload_n hx hb d_Tree_takeOut_77 rfl (lv_at hl 1 rfl) ?_
      refine gf_Tree_30 (v := .ref q_pages) hx hb hts hN hown hK hP 0 rfl rfl d_Tree_takeOut_78 ?_
      refine lv_iload_n hx hb d_Tree_takeOut_81 rfl (lv_at hl 3 rfl) ?_
      obtain ⟨w20, hc, hf⟩ := pu_b1_some hf
      refine cl_v (WC := [(q_pages, .inr (0, [.ref q_pages_bytes, .int v_pages_count])), (q_pages_bytes, .inl (cB, 1536, .inl v_pages_bytes))]) (WC2 := [(q_pages, .inr (0, [.ref q_pages_bytes, .int v_pages_count])), (q_pages_bytes, .inl (cB, 1536, .inl w20))]) (WR := [(q_this, .inr (5, [.ref q_pages, .ref q_node, .ref q_row, .ref q_path, .ref q_slots, .int v_depth, .int v_slot, .ref q_cell, .int v_cellSize, .ref q_waiting, .ref q_leaves])), (q_node, .inr (3, [.ref q_node_bytes, .ref q_node_starts, .ref q_node_sizes, .int v_node_count, .int v_node_last, .int v_node_leaf])), (q_node_bytes, .inl (cB, 96, .inl v_node_bytes)), (q_node_starts, .inl (cI, 31, .inl v_node_starts)), (q_node_sizes, .inl (cI, 31, .inl v_node_sizes)), (q_path, .inl (cI, 25, .inl v_path)), (q_slots, .inl (cI, 25, .inl v_slots))]) (WS2 := [(q_this, .inr (5, [.ref q_pages, .ref q_node, .ref q_row, .ref q_path, .ref q_slots, .int v_depth, .int v_slot, .ref q_cell, .int v_cellSize, .ref q_waiting, .ref q_leaves])), (q_pages, .inr (0, [.ref q_pages_bytes, .int v_pages_count])), (q_pages_bytes, .inl (cB, 1536, .inl w20)), (q_node, .inr (3, [.ref q_node_bytes, .ref q_node_starts, .ref q_node_sizes, .int v_node_count, .int v_node_last, .int v_node_leaf])), (q_node_bytes, .inl (cB, 96, .inl v_node_bytes)), (q_node_starts, .inl (cI, 31, .inl v_node_starts)), (q_node_sizes, .inl (cI, 31, .inl v_node_sizes)), (q_path, .inl (cI, 25, .inl v_path)), (q_slots, .inl (cI, 25, .inl v_slots))]) (pu_rv (cl := pu_cl) (pu_in5 _ (List.mem_of_getElem? (i := 38) rfl)) (pu_in5 _ (List.mem_of_getElem? (i := 39) rfl)) (pu_in5 _ (List.mem_of_getElem? (i := 40) rfl)) (pu_in0 _ (List.mem_of_getElem? (i := 3) rfl)) (pu_in5 _ (List.mem_of_getElem? (i := 41) rfl)) (ci := 0) rfl hd_Pages_freePage (by decide) ⟨rfl, rfl⟩ rfl rfl (Nat.le_of_ble_eq_true rfl) rfl (As := [.int x_2]) (rest := []) (WC := [(q_pages, .inr (0, [.ref q_pages_bytes, .int v_pages_count])), (q_pages_bytes, .inl (cB, 1536, .inl v_pages_bytes))]) hx hb hml hown hts hN hK hP hD (c_Pages_freePage l D cI cJ cB cZ H.size q_pages q_pages_bytes v_pages_count v_pages_bytes x_2 w20 hc) [1, 2] rfl rfl hl.1 d_Tree_takeOut_82) hP hD hS hA [1, 2] [0, 3, 4, 5, 6, 7, 8] [0, 7, 8, 1, 2, 3, 4, 5, 6] rfl rfl rfl (by decide) rfl rfl (fun H locs hP hD hS => ?_)
      refine lv_iload hx hb d_Tree_takeOut_85 (lv_at hl 0 rfl) ?_
      refine lv_istore_n hx hb d_Tree_takeOut_87 rfl hl (by decide) rfl (fun ls hl => ?_)
      have hl : lv_has ls 5 [(2, .int r18), (4, .int r18), (0, .ref q_this), (1, .int x_1), (3, .int x_3)] := hl
      obtain ⟨t21, e_t21, hf⟩ := pu_nm_some hf
      refine lv_iinc (k := 4) (v := t21) hx hb d_Tree_takeOut_88 hl rfl e_t21.symm (by decide) rfl (fun ls hl => ?_)
      have hl : lv_has ls 5 [(3, .int t21), (2, .int r18), (4, .int r18), (0, .ref q_this), (1, .int x_1)] := hl
      refine lv_goto (tgt := 58) hx hb d_Tree_takeOut_91 rfl ?_
      exact ih_58 w20 r18 t21 H locs ls hP hD hS (lv_sub hl [3, 4, 1, 0] rfl) hf
  obtain ⟨H, hH⟩ : ∃ H, H = s.heap := ⟨_, rfl⟩
  obtain ⟨locs, hlocs⟩ : ∃ locs : List Loc, locs = [] := ⟨_, rfl⟩
  have hP : va_P D pu_cl [(q_this, .inr (5, [.ref q_pages, .ref q_node, .ref q_row, .ref q_path, .ref q_slots, .int v_depth, .int v_slot, .ref q_cell, .int v_cellSize, .ref q_waiting, .ref q_leaves])), (q_pages, .inr (0, [.ref q_pages_bytes, .int v_pages_count])), (q_pages_bytes, .inl (cB, 1536, .inl v_pages_bytes)), (q_node, .inr (3, [.ref q_node_bytes, .ref q_node_starts, .ref q_node_sizes, .int v_node_count, .int v_node_last, .int v_node_leaf])), (q_node_bytes, .inl (cB, 96, .inl v_node_bytes)), (q_node_starts, .inl (cI, 31, .inl v_node_starts)), (q_node_sizes, .inl (cI, 31, .inl v_node_sizes)), (q_path, .inl (cI, 25, .inl v_path)), (q_slots, .inl (cI, 25, .inl v_slots))] H := by rw [hH]; exact hP
  have hS : va_S A s.heap H locs := by rw [hH, hlocs]; exact hS
  have goal : W p l e rm_Tree_takeOut s m args below meth c H locs 0 0 Q (F0 m 0 ls []) := by
    clear hH hlocs
    refine lv_aload_n hx hb d_Tree_takeOut_0 rfl (lv_at hl 0 rfl) ?_
    refine gf_Tree_34 (v := .ref q_node) hx hb hts hN hown hK hP 0 rfl rfl d_Tree_takeOut_1 ?_
    refine lv_aload_n hx hb d_Tree_takeOut_4 rfl (lv_at hl 0 rfl) ?_
    refine gf_Tree_60 (v := .int v_slot) hx hb hts hN hown hK hP 0 rfl rfl d_Tree_takeOut_5 ?_
    obtain ⟨r1, hc, hf⟩ := pu_b1_some hf
    refine cl_i (WC := [(q_node, .inr (3, [.ref q_node_bytes, .ref q_node_starts, .ref q_node_sizes, .int v_node_count, .int v_node_last, .int v_node_leaf])), (q_node_bytes, .inl (cB, 96, .inl v_node_bytes)), (q_node_starts, .inl (cI, 31, .inl v_node_starts)), (q_node_sizes, .inl (cI, 31, .inl v_node_sizes))]) (WC2 := [(q_node, .inr (3, [.ref q_node_bytes, .ref q_node_starts, .ref q_node_sizes, .int v_node_count, .int v_node_last, .int v_node_leaf])), (q_node_bytes, .inl (cB, 96, .inl v_node_bytes)), (q_node_starts, .inl (cI, 31, .inl v_node_starts)), (q_node_sizes, .inl (cI, 31, .inl v_node_sizes))]) (WR := [(q_this, .inr (5, [.ref q_pages, .ref q_node, .ref q_row, .ref q_path, .ref q_slots, .int v_depth, .int v_slot, .ref q_cell, .int v_cellSize, .ref q_waiting, .ref q_leaves])), (q_pages, .inr (0, [.ref q_pages_bytes, .int v_pages_count])), (q_pages_bytes, .inl (cB, 1536, .inl v_pages_bytes)), (q_path, .inl (cI, 25, .inl v_path)), (q_slots, .inl (cI, 25, .inl v_slots))]) (WS2 := [(q_this, .inr (5, [.ref q_pages, .ref q_node, .ref q_row, .ref q_path, .ref q_slots, .int v_depth, .int v_slot, .ref q_cell, .int v_cellSize, .ref q_waiting, .ref q_leaves])), (q_pages, .inr (0, [.ref q_pages_bytes, .int v_pages_count])), (q_pages_bytes, .inl (cB, 1536, .inl v_pages_bytes)), (q_node, .inr (3, [.ref q_node_bytes, .ref q_node_starts, .ref q_node_sizes, .int v_node_count, .int v_node_last, .int v_node_leaf])), (q_node_bytes, .inl (cB, 96, .inl v_node_bytes)), (q_node_starts, .inl (cI, 31, .inl v_node_starts)), (q_node_sizes, .inl (cI, 31, .inl v_node_sizes)), (q_path, .inl (cI, 25, .inl v_path)), (q_slots, .inl (cI, 25, .inl v_slots))]) (pu_rv (cl := pu_cl) (pu_in5 _ (List.mem_of_getElem? (i := 28) rfl)) (pu_in3 _ (List.mem_of_getElem? (i := 61) rfl)) (pu_in3 _ (List.mem_of_getElem? (i := 62) rfl)) (pu_in0 _ (List.mem_of_getElem? (i := 6) rfl)) (pu_in3 _ (List.mem_of_getElem? (i := 63) rfl)) (ci := 3) rfl hd_Node_recordLength (by decide) ⟨rfl, rfl⟩ rfl rfl (Nat.le_of_ble_eq_true rfl) rfl (As := [.int v_slot]) (rest := []) (WC := [(q_node, .inr (3, [.ref q_node_bytes, .ref q_node_starts, .ref q_node_sizes, .int v_node_count, .int v_node_last, .int v_node_leaf])), (q_node_bytes, .inl (cB, 96, .inl v_node_bytes)), (q_node_starts, .inl (cI, 31, .inl v_node_starts)), (q_node_sizes, .inl (cI, 31, .inl v_node_sizes))]) hx hb hml hown hts hN hK hP hD (c_Node_recordLength l D cI cJ cB cZ H.size q_node q_node_bytes q_node_starts q_node_sizes v_node_count v_node_last v_node_leaf v_node_bytes v_node_starts v_node_sizes v_slot r1 hc) [3, 4, 5, 6] rfl rfl hl.1 d_Tree_takeOut_8) hP hD hS hA [3, 4, 5, 6] [0, 1, 2, 7, 8] [0, 1, 2, 5, 6, 7, 8, 3, 4] rfl rfl rfl (by decide) rfl rfl (fun H locs hP hD hS => ?_)
    refine lv_istore_n hx hb d_Tree_takeOut_11 rfl hl (by decide) rfl (fun ls hl => ?_)
    have hl : lv_has ls 5 [(1, .int r1), (0, .ref q_this)] := hl
    refine lv_aload_n hx hb d_Tree_takeOut_12 rfl (lv_at hl 1 rfl) ?_
    refine gf_Tree_34 (v := .ref q_node) hx hb hts hN hown hK hP 0 rfl rfl d_Tree_takeOut_13 ?_
    refine lv_aload_n hx hb d_Tree_takeOut_16 rfl (lv_at hl 1 rfl) ?_
    refine gf_Tree_60 (v := .int v_slot) hx hb hts hN hown hK hP 0 rfl rfl d_Tree_takeOut_17 ?_
    refine lv_iload_n hx hb d_Tree_takeOut_20 rfl (lv_at hl 0 rfl) ?_
    obtain ⟨r2, hc, hf⟩ := pu_b1_some hf
    refine cl_i (WC := [(q_node, .inr (3, [.ref q_node_bytes, .ref q_node_starts, .ref q_node_sizes, .int v_node_count, .int v_node_last, .int v_node_leaf])), (q_node_bytes, .inl (cB, 96, .inl v_node_bytes)), (q_node_starts, .inl (cI, 31, .inl v_node_starts)), (q_node_sizes, .inl (cI, 31, .inl v_node_sizes))]) (WC2 := [(q_node, .inr (3, [.ref q_node_bytes, .ref q_node_starts, .ref q_node_sizes, .int v_node_count, .int v_node_last, .int v_node_leaf])), (q_node_bytes, .inl (cB, 96, .inl v_node_bytes)), (q_node_starts, .inl (cI, 31, .inl v_node_starts)), (q_node_sizes, .inl (cI, 31, .inl v_node_sizes))]) (WR := [(q_this, .inr (5, [.ref q_pages, .ref q_node, .ref q_row, .ref q_path, .ref q_slots, .int v_depth, .int v_slot, .ref q_cell, .int v_cellSize, .ref q_waiting, .ref q_leaves])), (q_pages, .inr (0, [.ref q_pages_bytes, .int v_pages_count])), (q_pages_bytes, .inl (cB, 1536, .inl v_pages_bytes)), (q_path, .inl (cI, 25, .inl v_path)), (q_slots, .inl (cI, 25, .inl v_slots))]) (WS2 := [(q_this, .inr (5, [.ref q_pages, .ref q_node, .ref q_row, .ref q_path, .ref q_slots, .int v_depth, .int v_slot, .ref q_cell, .int v_cellSize, .ref q_waiting, .ref q_leaves])), (q_pages, .inr (0, [.ref q_pages_bytes, .int v_pages_count])), (q_pages_bytes, .inl (cB, 1536, .inl v_pages_bytes)), (q_node, .inr (3, [.ref q_node_bytes, .ref q_node_starts, .ref q_node_sizes, .int v_node_count, .int v_node_last, .int v_node_leaf])), (q_node_bytes, .inl (cB, 96, .inl v_node_bytes)), (q_node_starts, .inl (cI, 31, .inl v_node_starts)), (q_node_sizes, .inl (cI, 31, .inl v_node_sizes)), (q_path, .inl (cI, 25, .inl v_path)), (q_slots, .inl (cI, 25, .inl v_slots))]) (pu_rv (cl := pu_cl) (pu_in5 _ (List.mem_of_getElem? (i := 29) rfl)) (pu_in5 _ (List.mem_of_getElem? (i := 30) rfl)) (pu_in5 _ (List.mem_of_getElem? (i := 31) rfl)) (pu_in0 _ (List.mem_of_getElem? (i := 6) rfl)) (pu_in5 _ (List.mem_of_getElem? (i := 32) rfl)) (ci := 3) rfl hd_Node_chainStart (by decide) ⟨rfl, rfl⟩ rfl rfl (Nat.le_of_ble_eq_true rfl) rfl (As := [.int v_slot, .int r1]) (rest := []) (WC := [(q_node, .inr (3, [.ref q_node_bytes, .ref q_node_starts, .ref q_node_sizes, .int v_node_count, .int v_node_last, .int v_node_leaf])), (q_node_bytes, .inl (cB, 96, .inl v_node_bytes)), (q_node_starts, .inl (cI, 31, .inl v_node_starts)), (q_node_sizes, .inl (cI, 31, .inl v_node_sizes))]) hx hb hml hown hts hN hK hP hD (c_Node_chainStart l D cI cJ cB cZ H.size q_node q_node_bytes q_node_starts q_node_sizes v_node_count v_node_last v_node_leaf v_node_bytes v_node_starts v_node_sizes v_slot r1 r2 hc) [3, 4, 5, 6] rfl rfl hl.1 d_Tree_takeOut_21) hP hD hS hA [3, 4, 5, 6] [0, 1, 2, 7, 8] [0, 1, 2, 5, 6, 7, 8, 3, 4] rfl rfl rfl (by decide) rfl rfl (fun H locs hP hD hS => ?_)
    refine lv_istore_n hx hb d_Tree_takeOut_24 rfl hl (by decide) rfl (fun ls hl => ?_)
    have hl : lv_has ls 5 [(2, .int r2), (1, .int r1), (0, .ref q_this)] := hl
    refine lv_aload_n hx hb d_Tree_takeOut_25 rfl (lv_at hl 2 rfl) ?_
    refine gf_Tree_34 (v := .ref q_node) hx hb hts hN hown hK hP 0 rfl rfl d_Tree_takeOut_26 ?_
    refine lv_aload_n hx hb d_Tree_takeOut_29 rfl (lv_at hl 2 rfl) ?_
    refine gf_Tree_60 (v := .int v_slot) hx hb hts hN hown hK hP 0 rfl rfl d_Tree_takeOut_30 ?_
    obtain ⟨w4, w5, w6, hc, hf⟩ := pu_b3_some hf
    refine cl_v (WC := [(q_node, .inr (3, [.ref q_node_bytes, .ref q_node_starts, .ref q_node_sizes, .int v_node_count, .int v_node_last, .int v_node_leaf])), (q_node_starts, .inl (cI, 31, .inl v_node_starts)), (q_node_sizes, .inl (cI, 31, .inl v_node_sizes))]) (WC2 := [(q_node, .inr (3, [.ref q_node_bytes, .ref q_node_starts, .ref q_node_sizes, .int w4, .int v_node_last, .int v_node_leaf])), (q_node_starts, .inl (cI, 31, .inl w5)), (q_node_sizes, .inl (cI, 31, .inl w6))]) (WR := [(q_this, .inr (5, [.ref q_pages, .ref q_node, .ref q_row, .ref q_path, .ref q_slots, .int v_depth, .int v_slot, .ref q_cell, .int v_cellSize, .ref q_waiting, .ref q_leaves])), (q_pages, .inr (0, [.ref q_pages_bytes, .int v_pages_count])), (q_pages_bytes, .inl (cB, 1536, .inl v_pages_bytes)), (q_node_bytes, .inl (cB, 96, .inl v_node_bytes)), (q_path, .inl (cI, 25, .inl v_path)), (q_slots, .inl (cI, 25, .inl v_slots))]) (WS2 := [(q_this, .inr (5, [.ref q_pages, .ref q_node, .ref q_row, .ref q_path, .ref q_slots, .int v_depth, .int v_slot, .ref q_cell, .int v_cellSize, .ref q_waiting, .ref q_leaves])), (q_pages, .inr (0, [.ref q_pages_bytes, .int v_pages_count])), (q_pages_bytes, .inl (cB, 1536, .inl v_pages_bytes)), (q_node, .inr (3, [.ref q_node_bytes, .ref q_node_starts, .ref q_node_sizes, .int w4, .int v_node_last, .int v_node_leaf])), (q_node_bytes, .inl (cB, 96, .inl v_node_bytes)), (q_node_starts, .inl (cI, 31, .inl w5)), (q_node_sizes, .inl (cI, 31, .inl w6)), (q_path, .inl (cI, 25, .inl v_path)), (q_slots, .inl (cI, 25, .inl v_slots))]) (pu_rv (cl := pu_cl) (pu_in5 _ (List.mem_of_getElem? (i := 33) rfl)) (pu_in5 _ (List.mem_of_getElem? (i := 34) rfl)) (pu_in5 _ (List.mem_of_getElem? (i := 35) rfl)) (pu_in0 _ (List.mem_of_getElem? (i := 6) rfl)) (pu_in5 _ (List.mem_of_getElem? (i := 36) rfl)) (ci := 3) rfl hd_Node_dropCell (by decide) ⟨rfl, rfl⟩ rfl rfl (Nat.le_of_ble_eq_true rfl) rfl (As := [.int v_slot]) (rest := []) (WC := [(q_node, .inr (3, [.ref q_node_bytes, .ref q_node_starts, .ref q_node_sizes, .int v_node_count, .int v_node_last, .int v_node_leaf])), (q_node_starts, .inl (cI, 31, .inl v_node_starts)), (q_node_sizes, .inl (cI, 31, .inl v_node_sizes))]) hx hb hml hown hts hN hK hP hD (c_Node_dropCell l D cI cJ cB cZ H.size q_node q_node_bytes q_node_starts q_node_sizes v_node_count v_node_last v_node_leaf v_node_starts v_node_sizes v_slot w4 w5 w6 hc) [3, 5, 6] rfl rfl hl.1 d_Tree_takeOut_33) hP hD hS hA [3, 5, 6] [0, 1, 2, 4, 7, 8] [0, 1, 2, 6, 3, 7, 8, 4, 5] rfl rfl rfl (by decide) rfl rfl (fun H locs hP hD hS => ?_)
    refine lv_aload_n hx hb d_Tree_takeOut_36 rfl (lv_at hl 2 rfl) ?_
    refine gf_Tree_34 (v := .ref q_node) hx hb hts hN hown hK hP 0 rfl rfl d_Tree_takeOut_37 ?_
    refine lv_aload_n hx hb d_Tree_takeOut_40 rfl (lv_at hl 2 rfl) ?_
    refine gf_Tree_30 (v := .ref q_pages) hx hb hts hN hown hK hP 0 rfl rfl d_Tree_takeOut_41 ?_
    refine lv_aload_n hx hb d_Tree_takeOut_44 rfl (lv_at hl 2 rfl) ?_
    refine gf_Tree_9 (v := .ref q_path) hx hb hts hN hown hK hP 0 rfl rfl d_Tree_takeOut_45 ?_
    refine lv_aload_n hx hb d_Tree_takeOut_48 rfl (lv_at hl 2 rfl) ?_
    refine gf_Tree_48 (v := .int v_depth) hx hb hts hN hown hK hP 0 rfl rfl d_Tree_takeOut_49 ?_
    obtain ⟨hin, hf⟩ := pu_ck_some hf
    refine va_iald hx hb hK hP 7 0 rfl rfl hin d_Tree_takeOut_52 ?_
    obtain ⟨w8, hc, hf⟩ := pu_b1_some hf
    refine cl_v (WC := [(q_node, .inr (3, [.ref q_node_bytes, .ref q_node_starts, .ref q_node_sizes, .int w4, .int v_node_last, .int v_node_leaf])), (q_node_bytes, .inl (cB, 96, .inl v_node_bytes)), (q_node_starts, .inl (cI, 31, .inl w5)), (q_node_sizes, .inl (cI, 31, .inl w6)), (q_pages, .inr (0, [.ref q_pages_bytes, .int v_pages_count])), (q_pages_bytes, .inl (cB, 1536, .inl v_pages_bytes))]) (WC2 := [(q_node, .inr (3, [.ref q_node_bytes, .ref q_node_starts, .ref q_node_sizes, .int w4, .int v_node_last, .int v_node_leaf])), (q_node_bytes, .inl (cB, 96, .inl v_node_bytes)), (q_node_starts, .inl (cI, 31, .inl w5)), (q_node_sizes, .inl (cI, 31, .inl w6)), (q_pages, .inr (0, [.ref q_pages_bytes, .int v_pages_count])), (q_pages_bytes, .inl (cB, 1536, .inl w8))]) (WR := [(q_this, .inr (5, [.ref q_pages, .ref q_node, .ref q_row, .ref q_path, .ref q_slots, .int v_depth, .int v_slot, .ref q_cell, .int v_cellSize, .ref q_waiting, .ref q_leaves])), (q_path, .inl (cI, 25, .inl v_path)), (q_slots, .inl (cI, 25, .inl v_slots))]) (WS2 := [(q_this, .inr (5, [.ref q_pages, .ref q_node, .ref q_row, .ref q_path, .ref q_slots, .int v_depth, .int v_slot, .ref q_cell, .int v_cellSize, .ref q_waiting, .ref q_leaves])), (q_pages, .inr (0, [.ref q_pages_bytes, .int v_pages_count])), (q_pages_bytes, .inl (cB, 1536, .inl w8)), (q_node, .inr (3, [.ref q_node_bytes, .ref q_node_starts, .ref q_node_sizes, .int w4, .int v_node_last, .int v_node_leaf])), (q_node_bytes, .inl (cB, 96, .inl v_node_bytes)), (q_node_starts, .inl (cI, 31, .inl w5)), (q_node_sizes, .inl (cI, 31, .inl w6)), (q_path, .inl (cI, 25, .inl v_path)), (q_slots, .inl (cI, 25, .inl v_slots))]) (pu_rv (cl := pu_cl) (pu_in5 _ (List.mem_of_getElem? (i := 15) rfl)) (pu_in5 _ (List.mem_of_getElem? (i := 16) rfl)) (pu_in5 _ (List.mem_of_getElem? (i := 17) rfl)) (pu_in0 _ (List.mem_of_getElem? (i := 6) rfl)) (pu_in5 _ (List.mem_of_getElem? (i := 18) rfl)) (ci := 3) rfl hd_Node_storeAll (by decide) ⟨rfl, rfl⟩ rfl rfl (Nat.le_of_ble_eq_true rfl) rfl (As := [.ref q_pages, .int (v_path v_depth.toNatClampNeg)]) (rest := []) (WC := [(q_node, .inr (3, [.ref q_node_bytes, .ref q_node_starts, .ref q_node_sizes, .int w4, .int v_node_last, .int v_node_leaf])), (q_node_bytes, .inl (cB, 96, .inl v_node_bytes)), (q_node_starts, .inl (cI, 31, .inl w5)), (q_node_sizes, .inl (cI, 31, .inl w6)), (q_pages, .inr (0, [.ref q_pages_bytes, .int v_pages_count])), (q_pages_bytes, .inl (cB, 1536, .inl v_pages_bytes))]) hx hb hml hown hts hN hK hP hD (c_Node_storeAll l D cI cJ cB cZ H.size q_node q_node_bytes q_node_starts q_node_sizes q_pages q_pages_bytes w4 v_node_last v_node_leaf v_node_bytes w5 w6 v_pages_count v_pages_bytes (v_path v_depth.toNatClampNeg) w8 hc) [3, 4, 5, 6, 1, 2] rfl rfl hl.1 d_Tree_takeOut_53) hP hD hS hA [3, 4, 5, 6, 1, 2] [0, 7, 8] [0, 7, 8, 3, 4, 5, 6, 1, 2] rfl rfl rfl (by decide) rfl rfl (fun H locs hP hD hS => ?_)
    refine lv_iconst (v := 0) hx hb d_Tree_takeOut_56 rfl ?_
    refine lv_istore_n hx hb d_Tree_takeOut_57 rfl hl (by decide) rfl (fun ls hl => ?_)
    have hl : lv_has ls 5 [(3, .int (0 : Int32)), (2, .int r2), (1, .int r1), (0, .ref q_this)] := hl
    exact lp_58 w4 v_node_last v_node_leaf v_node_bytes w5 w6 r1 _ w8 r2 (0 : Int32) H locs ls hP hD hS (lv_sub hl [3, 2, 1, 0] rfl) hf
  rw [hH, hlocs] at goal
  exact goal
theorem d_RF_remove_0 : decode b_RF_remove 0 = .ok (.aload_n 0, 1) := by decide +kernel
theorem d_RF_remove_1 : decode b_RF_remove 1 = .ok (.getfield 66, 3) := by decide +kernel
theorem d_RF_remove_4 : decode b_RF_remove 4 = .ok (.ifCond .ne 6, 3) := by decide +kernel
theorem d_RF_remove_7 : decode b_RF_remove 7 = .ok (.bipush (-3), 2) := by decide +kernel
theorem d_RF_remove_9 : decode b_RF_remove 9 = .ok (.ireturn, 1) := by decide +kernel
theorem d_RF_remove_10 : decode b_RF_remove 10 = .ok (.aload_n 0, 1) := by decide +kernel
theorem d_RF_remove_11 : decode b_RF_remove 11 = .ok (.getfield 52, 3) := by decide +kernel
theorem d_RF_remove_14 : decode b_RF_remove 14 = .ok (.iload_n 1, 1) := by decide +kernel
theorem d_RF_remove_15 : decode b_RF_remove 15 = .ok (.invokevirtual 97, 3) := by decide +kernel
theorem d_RF_remove_18 : decode b_RF_remove 18 = .ok (.ifCond .ne 5, 3) := by decide +kernel
theorem d_RF_remove_21 : decode b_RF_remove 21 = .ok (.iconst 0, 1) := by decide +kernel
theorem d_RF_remove_22 : decode b_RF_remove 22 = .ok (.ireturn, 1) := by decide +kernel
theorem d_RF_remove_23 : decode b_RF_remove 23 = .ok (.aload_n 0, 1) := by decide +kernel
theorem d_RF_remove_24 : decode b_RF_remove 24 = .ok (.getfield 52, 3) := by decide +kernel
theorem d_RF_remove_27 : decode b_RF_remove 27 = .ok (.invokevirtual 108, 3) := by decide +kernel
theorem d_RF_remove_30 : decode b_RF_remove 30 = .ok (.iconst 1, 1) := by decide +kernel
theorem d_RF_remove_31 : decode b_RF_remove 31 = .ok (.ireturn, 1) := by decide +kernel
noncomputable def f_RF_remove (v_up : Int32) (v_now_count : Int32) (v_now_bytes : Nat → Int32) (v_node_count : Int32) (v_node_last : Int32) (v_node_leaf : Int32) (v_node_bytes : Nat → Int32) (v_node_starts : Nat → Int32) (v_node_sizes : Nat → Int32) (v_tree_depth : Int32) (v_tree_slot : Int32) (v_tree_path : Nat → Int32) (v_tree_slots : Nat → Int32) (x_1 : Int32) : Option (Int32 × (Nat → Int32) × Int32 × Int32 × Int32 × (Nat → Int32) × (Nat → Int32) × (Nat → Int32) × Int32 × Int32 × (Nat → Int32) × (Nat → Int32)) :=
  pu_br (v_up = 0) (some ((-3 : Int32), v_now_bytes, v_node_count, v_node_last, v_node_leaf, v_node_bytes, v_node_starts, v_node_sizes, v_tree_depth, v_tree_slot, v_tree_path, v_tree_slots)) (pu_b11 (f_Tree_find v_now_count v_now_bytes v_tree_depth v_tree_slot v_node_count v_node_last v_node_leaf v_node_bytes v_node_starts v_node_sizes v_tree_path v_tree_slots x_1) (fun r1 w2 w3 w4 w5 w6 w7 w8 w9 w10 w11 => pu_br (r1 = 0) (some ((0 : Int32), v_now_bytes, w4, w5, w6, w7, w8, w9, w2, w3, w10, w11)) (pu_b7 (f_Tree_takeOut w2 w3 v_now_count w10 w11 v_now_bytes w4 w5 w6 w7 w8 w9) (fun w13 w14 w15 w16 w17 w18 w19 => some ((1 : Int32), w13, w14, w15, w16, w17, w18, w19, w2, w3, w10, w11)))))
abbrev rm_RF_remove : Room := { frames := 8, cells := 0, slots := 0, locals := 187 }
set_option maxHeartbeats 8000000 in
set_option maxRecDepth 100000 in
theorem c_RF_remove (l : Launch) (D : va_G) (cI cJ cB cZ : ClassId) (sz : Nat) (q_this : Nat) (q_draft : Nat) (q_now : Nat) (q_before : Nat) (q_disk : Nat) (q_row : Nat) (q_node : Nat) (q_tree : Nat) (q_check : Nat) (q_now_bytes : Nat) (q_node_bytes : Nat) (q_node_starts : Nat) (q_node_sizes : Nat) (q_tree_path : Nat) (q_tree_slots : Nat) (q_tree_cell : Nat) (q_tree_waiting : Nat) (q_tree_leaves : Nat) (v_up : Int32) (v_armed : Int32) (v_now_count : Int32) (v_now_bytes : Nat → Int32) (v_node_count : Int32) (v_node_last : Int32) (v_node_leaf : Int32) (v_node_bytes : Nat → Int32) (v_node_starts : Nat → Int32) (v_node_sizes : Nat → Int32) (v_tree_depth : Int32) (v_tree_slot : Int32) (v_tree_cellSize : Int32) (v_tree_path : Nat → Int32) (v_tree_slots : Nat → Int32) (x_1 : Int32) (o_r : Int32) (o_now_bytes : Nat → Int32) (o_node_count : Int32) (o_node_last : Int32) (o_node_leaf : Int32) (o_node_bytes : Nat → Int32) (o_node_starts : Nat → Int32) (o_node_sizes : Nat → Int32) (o_tree_depth : Int32) (o_tree_slot : Int32) (o_tree_path : Nat → Int32) (o_tree_slots : Nat → Int32) (hf : f_RF_remove v_up v_now_count v_now_bytes v_node_count v_node_last v_node_leaf v_node_bytes v_node_starts v_node_sizes v_tree_depth v_tree_slot v_tree_path v_tree_slots x_1 = some (o_r, o_now_bytes, o_node_count, o_node_last, o_node_leaf, o_node_bytes, o_node_starts, o_node_sizes, o_tree_depth, o_tree_slot, o_tree_path, o_tree_slots)) : Met l y_RF_remove (.code y_RF_remove b_RF_remove 2 (some .int) :: pu_wA) rm_RF_remove (pu_pc D pu_cl (pu_ty cI cJ cB cZ) [.ref q_this, .int x_1] [(q_this, .inr (7, [.ref q_draft, .ref q_now, .ref q_before, .ref q_disk, .ref q_row, .ref q_node, .ref q_tree, .ref q_check, .int v_up, .int v_armed])), (q_now, .inr (0, [.ref q_now_bytes, .int v_now_count])), (q_now_bytes, .inl (cB, 1536, .inl v_now_bytes)), (q_node, .inr (3, [.ref q_node_bytes, .ref q_node_starts, .ref q_node_sizes, .int v_node_count, .int v_node_last, .int v_node_leaf])), (q_node_bytes, .inl (cB, 96, .inl v_node_bytes)), (q_node_starts, .inl (cI, 31, .inl v_node_starts)), (q_node_sizes, .inl (cI, 31, .inl v_node_sizes)), (q_tree, .inr (5, [.ref q_now, .ref q_node, .ref q_row, .ref q_tree_path, .ref q_tree_slots, .int v_tree_depth, .int v_tree_slot, .ref q_tree_cell, .int v_tree_cellSize, .ref q_tree_waiting, .ref q_tree_leaves])), (q_tree_path, .inl (cI, 25, .inl v_tree_path)), (q_tree_slots, .inl (cI, 25, .inl v_tree_slots))] sz) (pu_qi D pu_cl (pu_ty cI cJ cB cZ) [(q_this, .inr (7, [.ref q_draft, .ref q_now, .ref q_before, .ref q_disk, .ref q_row, .ref q_node, .ref q_tree, .ref q_check, .int v_up, .int v_armed])), (q_now, .inr (0, [.ref q_now_bytes, .int v_now_count])), (q_now_bytes, .inl (cB, 1536, .inl v_now_bytes)), (q_node, .inr (3, [.ref q_node_bytes, .ref q_node_starts, .ref q_node_sizes, .int v_node_count, .int v_node_last, .int v_node_leaf])), (q_node_bytes, .inl (cB, 96, .inl v_node_bytes)), (q_node_starts, .inl (cI, 31, .inl v_node_starts)), (q_node_sizes, .inl (cI, 31, .inl v_node_sizes)), (q_tree, .inr (5, [.ref q_now, .ref q_node, .ref q_row, .ref q_tree_path, .ref q_tree_slots, .int v_tree_depth, .int v_tree_slot, .ref q_tree_cell, .int v_tree_cellSize, .ref q_tree_waiting, .ref q_tree_leaves])), (q_tree_path, .inl (cI, 25, .inl v_tree_path)), (q_tree_slots, .inl (cI, 25, .inl v_tree_slots))] [(q_this, .inr (7, [.ref q_draft, .ref q_now, .ref q_before, .ref q_disk, .ref q_row, .ref q_node, .ref q_tree, .ref q_check, .int v_up, .int v_armed])), (q_now, .inr (0, [.ref q_now_bytes, .int v_now_count])), (q_now_bytes, .inl (cB, 1536, .inl o_now_bytes)), (q_node, .inr (3, [.ref q_node_bytes, .ref q_node_starts, .ref q_node_sizes, .int o_node_count, .int o_node_last, .int o_node_leaf])), (q_node_bytes, .inl (cB, 96, .inl o_node_bytes)), (q_node_starts, .inl (cI, 31, .inl o_node_starts)), (q_node_sizes, .inl (cI, 31, .inl o_node_sizes)), (q_tree, .inr (5, [.ref q_now, .ref q_node, .ref q_row, .ref q_tree_path, .ref q_tree_slots, .int o_tree_depth, .int o_tree_slot, .ref q_tree_cell, .int v_tree_cellSize, .ref q_tree_waiting, .ref q_tree_leaves])), (q_tree_path, .inl (cI, 25, .inl o_tree_path)), (q_tree_slots, .inl (cI, 25, .inl o_tree_slots))] sz o_r) 0 0 (va_A [(q_this, .inr (7, [.ref q_draft, .ref q_now, .ref q_before, .ref q_disk, .ref q_row, .ref q_node, .ref q_tree, .ref q_check, .int v_up, .int v_armed])), (q_now, .inr (0, [.ref q_now_bytes, .int v_now_count])), (q_now_bytes, .inl (cB, 1536, .inl v_now_bytes)), (q_node, .inr (3, [.ref q_node_bytes, .ref q_node_starts, .ref q_node_sizes, .int v_node_count, .int v_node_last, .int v_node_leaf])), (q_node_bytes, .inl (cB, 96, .inl v_node_bytes)), (q_node_starts, .inl (cI, 31, .inl v_node_starts)), (q_node_sizes, .inl (cI, 31, .inl v_node_sizes)), (q_tree, .inr (5, [.ref q_now, .ref q_node, .ref q_row, .ref q_tree_path, .ref q_tree_slots, .int v_tree_depth, .int v_tree_slot, .ref q_tree_cell, .int v_tree_cellSize, .ref q_tree_waiting, .ref q_tree_leaves])), (q_tree_path, .inl (cI, 25, .inl v_tree_path)), (q_tree_slots, .inl (cI, 25, .inl v_tree_slots))] sz) := by
  refine pu_mti [.ref q_this, .int x_1] [(q_this, .inr (7, [.ref q_draft, .ref q_now, .ref q_before, .ref q_disk, .ref q_row, .ref q_node, .ref q_tree, .ref q_check, .int v_up, .int v_armed])), (q_now, .inr (0, [.ref q_now_bytes, .int v_now_count])), (q_now_bytes, .inl (cB, 1536, .inl v_now_bytes)), (q_node, .inr (3, [.ref q_node_bytes, .ref q_node_starts, .ref q_node_sizes, .int v_node_count, .int v_node_last, .int v_node_leaf])), (q_node_bytes, .inl (cB, 96, .inl v_node_bytes)), (q_node_starts, .inl (cI, 31, .inl v_node_starts)), (q_node_sizes, .inl (cI, 31, .inl v_node_sizes)), (q_tree, .inr (5, [.ref q_now, .ref q_node, .ref q_row, .ref q_tree_path, .ref q_tree_slots, .int v_tree_depth, .int v_tree_slot, .ref q_tree_cell, .int v_tree_cellSize, .ref q_tree_waiting, .ref q_tree_leaves])), (q_tree_path, .inl (cI, 25, .inl v_tree_path)), (q_tree_slots, .inl (cI, 25, .inl v_tree_slots))] [(q_this, .inr (7, [.ref q_draft, .ref q_now, .ref q_before, .ref q_disk, .ref q_row, .ref q_node, .ref q_tree, .ref q_check, .int v_up, .int v_armed])), (q_now, .inr (0, [.ref q_now_bytes, .int v_now_count])), (q_now_bytes, .inl (cB, 1536, .inl o_now_bytes)), (q_node, .inr (3, [.ref q_node_bytes, .ref q_node_starts, .ref q_node_sizes, .int o_node_count, .int o_node_last, .int o_node_leaf])), (q_node_bytes, .inl (cB, 96, .inl o_node_bytes)), (q_node_starts, .inl (cI, 31, .inl o_node_starts)), (q_node_sizes, .inl (cI, 31, .inl o_node_sizes)), (q_tree, .inr (5, [.ref q_now, .ref q_node, .ref q_row, .ref q_tree_path, .ref q_tree_slots, .int o_tree_depth, .int o_tree_slot, .ref q_tree_cell, .int v_tree_cellSize, .ref q_tree_waiting, .ref q_tree_leaves])), (q_tree_path, .inl (cI, 25, .inl o_tree_path)), (q_tree_slots, .inl (cI, 25, .inl o_tree_slots))] o_r (by decide) (Nat.le_of_ble_eq_true rfl) ?_
  intro p e s m args below meth c A Q ls hx hb hml hts hN hown hK hA hP hD hl hret0
  have hS : va_S A s.heap s.heap [] := va_S.rf
  have hl : lv_has ls 2 [(0, .ref q_this), (1, .int x_1)] := hl
  have hret : ∀ (pc : Nat) (ls : Array Slot) (H : Heap) (locs : List Loc) (y_0 : Int32) (y_1 : Nat → Int32) (y_2 : Int32) (y_3 : Int32) (y_4 : Int32) (y_5 : Nat → Int32) (y_6 : Nat → Int32) (y_7 : Nat → Int32) (y_8 : Int32) (y_9 : Int32) (y_10 : Nat → Int32) (y_11 : Nat → Int32), decode b_RF_remove pc = .ok (.ireturn, 1) → va_P D pu_cl [(q_this, .inr (7, [.ref q_draft, .ref q_now, .ref q_before, .ref q_disk, .ref q_row, .ref q_node, .ref q_tree, .ref q_check, .int v_up, .int v_armed])), (q_now, .inr (0, [.ref q_now_bytes, .int v_now_count])), (q_now_bytes, .inl (cB, 1536, .inl y_1)), (q_node, .inr (3, [.ref q_node_bytes, .ref q_node_starts, .ref q_node_sizes, .int y_2, .int y_3, .int y_4])), (q_node_bytes, .inl (cB, 96, .inl y_5)), (q_node_starts, .inl (cI, 31, .inl y_6)), (q_node_sizes, .inl (cI, 31, .inl y_7)), (q_tree, .inr (5, [.ref q_now, .ref q_node, .ref q_row, .ref q_tree_path, .ref q_tree_slots, .int y_8, .int y_9, .ref q_tree_cell, .int v_tree_cellSize, .ref q_tree_waiting, .ref q_tree_leaves])), (q_tree_path, .inl (cI, 25, .inl y_10)), (q_tree_slots, .inl (cI, 25, .inl y_11))] H → va_D A [(q_this, .inr (7, [.ref q_draft, .ref q_now, .ref q_before, .ref q_disk, .ref q_row, .ref q_node, .ref q_tree, .ref q_check, .int v_up, .int v_armed])), (q_now, .inr (0, [.ref q_now_bytes, .int v_now_count])), (q_now_bytes, .inl (cB, 1536, .inl y_1)), (q_node, .inr (3, [.ref q_node_bytes, .ref q_node_starts, .ref q_node_sizes, .int y_2, .int y_3, .int y_4])), (q_node_bytes, .inl (cB, 96, .inl y_5)), (q_node_starts, .inl (cI, 31, .inl y_6)), (q_node_sizes, .inl (cI, 31, .inl y_7)), (q_tree, .inr (5, [.ref q_now, .ref q_node, .ref q_row, .ref q_tree_path, .ref q_tree_slots, .int y_8, .int y_9, .ref q_tree_cell, .int v_tree_cellSize, .ref q_tree_waiting, .ref q_tree_leaves])), (q_tree_path, .inl (cI, 25, .inl y_10)), (q_tree_slots, .inl (cI, 25, .inl y_11))] → va_S A s.heap H locs → some (y_0, y_1, y_2, y_3, y_4, y_5, y_6, y_7, y_8, y_9, y_10, y_11) = some (o_r, o_now_bytes, o_node_count, o_node_last, o_node_leaf, o_node_bytes, o_node_starts, o_node_sizes, o_tree_depth, o_tree_slot, o_tree_path, o_tree_slots) → W p l e rm_RF_remove s m args below meth c H locs 0 0 Q (F0 m pc ls [.int y_0]) := by
    intro pc ls H locs y_0 y_1 y_2 y_3 y_4 y_5 y_6 y_7 y_8 y_9 y_10 y_11 hd hP hD hS hf
    cases hf
    exact hret0 pc ls H locs hd hP hD hS
  clear hret0
  unfold f_RF_remove at hf
  skip
  obtain ⟨H, hH⟩ : ∃ H, H = s.heap := ⟨_, rfl⟩
  obtain ⟨locs, hlocs⟩ : ∃ locs : List Loc, locs = [] := ⟨_, rfl⟩
  have hP : va_P D pu_cl [(q_this, .inr (7, [.ref q_draft, .ref q_now, .ref q_before, .ref q_disk, .ref q_row, .ref q_node, .ref q_tree, .ref q_check, .int v_up, .int v_armed])), (q_now, .inr (0, [.ref q_now_bytes, .int v_now_count])), (q_now_bytes, .inl (cB, 1536, .inl v_now_bytes)), (q_node, .inr (3, [.ref q_node_bytes, .ref q_node_starts, .ref q_node_sizes, .int v_node_count, .int v_node_last, .int v_node_leaf])), (q_node_bytes, .inl (cB, 96, .inl v_node_bytes)), (q_node_starts, .inl (cI, 31, .inl v_node_starts)), (q_node_sizes, .inl (cI, 31, .inl v_node_sizes)), (q_tree, .inr (5, [.ref q_now, .ref q_node, .ref q_row, .ref q_tree_path, .ref q_tree_slots, .int v_tree_depth, .int v_tree_slot, .ref q_tree_cell, .int v_tree_cellSize, .ref q_tree_waiting, .ref q_tree_leaves])), (q_tree_path, .inl (cI, 25, .inl v_tree_path)), (q_tree_slots, .inl (cI, 25, .inl v_tree_slots))] H := by rw [hH]; exact hP
  have hS : va_S A s.heap H locs := by rw [hH, hlocs]; exact hS
  have goal : W p l e rm_RF_remove s m args below meth c H locs 0 0 Q (F0 m 0 ls []) := by
    clear hH hlocs
    refine lv_aload_n hx hb d_RF_remove_0 rfl (lv_at hl 0 rfl) ?_
    refine gf_RF_66 (v := .int v_up) hx hb hts hN hown hK hP 0 rfl rfl d_RF_remove_1 ?_
    refine lv_if_ne (tgt := 10) hx hb d_RF_remove_4 rfl (fun hc => ?_) (fun hc => ?_)
    · have hf := pu_br_neg hf hc
      refine lv_aload_n hx hb d_RF_remove_10 rfl (lv_at hl 0 rfl) ?_
      refine gf_RF_52 (v := .ref q_tree) hx hb hts hN hown hK hP 0 rfl rfl d_RF_remove_11 ?_
      refine lv_iload_n hx hb d_RF_remove_14 rfl (lv_at hl 1 rfl) ?_
      obtain ⟨r1, w2, w3, w4, w5, w6, w7, w8, w9, w10, w11, hc, hf⟩ := pu_b11_some hf
      refine cl_i (WC := [(q_tree, .inr (5, [.ref q_now, .ref q_node, .ref q_row, .ref q_tree_path, .ref q_tree_slots, .int v_tree_depth, .int v_tree_slot, .ref q_tree_cell, .int v_tree_cellSize, .ref q_tree_waiting, .ref q_tree_leaves])), (q_now, .inr (0, [.ref q_now_bytes, .int v_now_count])), (q_now_bytes, .inl (cB, 1536, .inl v_now_bytes)), (q_node, .inr (3, [.ref q_node_bytes, .ref q_node_starts, .ref q_node_sizes, .int v_node_count, .int v_node_last, .int v_node_leaf])), (q_node_bytes, .inl (cB, 96, .inl v_node_bytes)), (q_node_starts, .inl (cI, 31, .inl v_node_starts)), (q_node_sizes, .inl (cI, 31, .inl v_node_sizes)), (q_tree_path, .inl (cI, 25, .inl v_tree_path)), (q_tree_slots, .inl (cI, 25, .inl v_tree_slots))]) (WC2 := [(q_tree, .inr (5, [.ref q_now, .ref q_node, .ref q_row, .ref q_tree_path, .ref q_tree_slots, .int w2, .int w3, .ref q_tree_cell, .int v_tree_cellSize, .ref q_tree_waiting, .ref q_tree_leaves])), (q_now, .inr (0, [.ref q_now_bytes, .int v_now_count])), (q_now_bytes, .inl (cB, 1536, .inl v_now_bytes)), (q_node, .inr (3, [.ref q_node_bytes, .ref q_node_starts, .ref q_node_sizes, .int w4, .int w5, .int w6])), (q_node_bytes, .inl (cB, 96, .inl w7)), (q_node_starts, .inl (cI, 31, .inl w8)), (q_node_sizes, .inl (cI, 31, .inl w9)), (q_tree_path, .inl (cI, 25, .inl w10)), (q_tree_slots, .inl (cI, 25, .inl w11))]) (WR := [(q_this, .inr (7, [.ref q_draft, .ref q_now, .ref q_before, .ref q_disk, .ref q_row, .ref q_node, .ref q_tree, .ref q_check, .int v_up, .int v_armed]))]) (WS2 := [(q_this, .inr (7, [.ref q_draft, .ref q_now, .ref q_before, .ref q_disk, .ref q_row, .ref q_node, .ref q_tree, .ref q_check, .int v_up, .int v_armed])), (q_now, .inr (0, [.ref q_now_bytes, .int v_now_count])), (q_now_bytes, .inl (cB, 1536, .inl v_now_bytes)), (q_node, .inr (3, [.ref q_node_bytes, .ref q_node_starts, .ref q_node_sizes, .int w4, .int w5, .int w6])), (q_node_bytes, .inl (cB, 96, .inl w7)), (q_node_starts, .inl (cI, 31, .inl w8)), (q_node_sizes, .inl (cI, 31, .inl w9)), (q_tree, .inr (5, [.ref q_now, .ref q_node, .ref q_row, .ref q_tree_path, .ref q_tree_slots, .int w2, .int w3, .ref q_tree_cell, .int v_tree_cellSize, .ref q_tree_waiting, .ref q_tree_leaves])), (q_tree_path, .inl (cI, 25, .inl w10)), (q_tree_slots, .inl (cI, 25, .inl w11))]) (pu_rv (cl := pu_cl) (pu_in3 _ (List.mem_of_getElem? (i := 29) rfl)) (pu_in3 _ (List.mem_of_getElem? (i := 30) rfl)) (pu_in3 _ (List.mem_of_getElem? (i := 31) rfl)) (pu_in0 _ (List.mem_of_getElem? (i := 7) rfl)) (pu_in3 _ (List.mem_of_getElem? (i := 32) rfl)) (ci := 5) rfl hd_Tree_find (by decide) ⟨rfl, rfl⟩ rfl rfl (Nat.le_of_ble_eq_true rfl) rfl (As := [.int x_1]) (rest := []) (WC := [(q_tree, .inr (5, [.ref q_now, .ref q_node, .ref q_row, .ref q_tree_path, .ref q_tree_slots, .int v_tree_depth, .int v_tree_slot, .ref q_tree_cell, .int v_tree_cellSize, .ref q_tree_waiting, .ref q_tree_leaves])), (q_now, .inr (0, [.ref q_now_bytes, .int v_now_count])), (q_now_bytes, .inl (cB, 1536, .inl v_now_bytes)), (q_node, .inr (3, [.ref q_node_bytes, .ref q_node_starts, .ref q_node_sizes, .int v_node_count, .int v_node_last, .int v_node_leaf])), (q_node_bytes, .inl (cB, 96, .inl v_node_bytes)), (q_node_starts, .inl (cI, 31, .inl v_node_starts)), (q_node_sizes, .inl (cI, 31, .inl v_node_sizes)), (q_tree_path, .inl (cI, 25, .inl v_tree_path)), (q_tree_slots, .inl (cI, 25, .inl v_tree_slots))]) hx hb hml hown hts hN hK hP hD (c_Tree_find l D cI cJ cB cZ H.size q_tree q_now q_node q_row q_tree_path q_tree_slots q_tree_cell q_tree_waiting q_tree_leaves q_now_bytes q_node_bytes q_node_starts q_node_sizes v_tree_depth v_tree_slot v_tree_cellSize v_now_count v_now_bytes v_node_count v_node_last v_node_leaf v_node_bytes v_node_starts v_node_sizes v_tree_path v_tree_slots x_1 r1 w2 w3 w4 w5 w6 w7 w8 w9 w10 w11 hc) [7, 1, 2, 3, 4, 5, 6, 8, 9] rfl rfl hl.1 d_RF_remove_15) hP hD hS hA [7, 1, 2, 3, 4, 5, 6, 8, 9] [0] [0, 2, 3, 4, 5, 6, 7, 1, 8, 9] rfl rfl rfl (by decide) rfl rfl (fun H locs hP hD hS => ?_)
      refine lv_if_ne (tgt := 23) hx hb d_RF_remove_18 rfl (fun hc => ?_) (fun hc => ?_)
      · have hf := pu_br_neg hf hc
        refine lv_aload_n hx hb d_RF_remove_23 rfl (lv_at hl 0 rfl) ?_
        refine gf_RF_52 (v := .ref q_tree) hx hb hts hN hown hK hP 0 rfl rfl d_RF_remove_24 ?_
        obtain ⟨w13, w14, w15, w16, w17, w18, w19, hc, hf⟩ := pu_b7_some hf
        refine cl_v (WC := [(q_tree, .inr (5, [.ref q_now, .ref q_node, .ref q_row, .ref q_tree_path, .ref q_tree_slots, .int w2, .int w3, .ref q_tree_cell, .int v_tree_cellSize, .ref q_tree_waiting, .ref q_tree_leaves])), (q_now, .inr (0, [.ref q_now_bytes, .int v_now_count])), (q_now_bytes, .inl (cB, 1536, .inl v_now_bytes)), (q_node, .inr (3, [.ref q_node_bytes, .ref q_node_starts, .ref q_node_sizes, .int w4, .int w5, .int w6])), (q_node_bytes, .inl (cB, 96, .inl w7)), (q_node_starts, .inl (cI, 31, .inl w8)), (q_node_sizes, .inl (cI, 31, .inl w9)), (q_tree_path, .inl (cI, 25, .inl w10)), (q_tree_slots, .inl (cI, 25, .inl w11))]) (WC2 := [(q_tree, .inr (5, [.ref q_now, .ref q_node, .ref q_row, .ref q_tree_path, .ref q_tree_slots, .int w2, .int w3, .ref q_tree_cell, .int v_tree_cellSize, .ref q_tree_waiting, .ref q_tree_leaves])), (q_now, .inr (0, [.ref q_now_bytes, .int v_now_count])), (q_now_bytes, .inl (cB, 1536, .inl w13)), (q_node, .inr (3, [.ref q_node_bytes, .ref q_node_starts, .ref q_node_sizes, .int w14, .int w15, .int w16])), (q_node_bytes, .inl (cB, 96, .inl w17)), (q_node_starts, .inl (cI, 31, .inl w18)), (q_node_sizes, .inl (cI, 31, .inl w19)), (q_tree_path, .inl (cI, 25, .inl w10)), (q_tree_slots, .inl (cI, 25, .inl w11))]) (WR := [(q_this, .inr (7, [.ref q_draft, .ref q_now, .ref q_before, .ref q_disk, .ref q_row, .ref q_node, .ref q_tree, .ref q_check, .int v_up, .int v_armed]))]) (WS2 := [(q_this, .inr (7, [.ref q_draft, .ref q_now, .ref q_before, .ref q_disk, .ref q_row, .ref q_node, .ref q_tree, .ref q_check, .int v_up, .int v_armed])), (q_now, .inr (0, [.ref q_now_bytes, .int v_now_count])), (q_now_bytes, .inl (cB, 1536, .inl w13)), (q_node, .inr (3, [.ref q_node_bytes, .ref q_node_starts, .ref q_node_sizes, .int w14, .int w15, .int w16])), (q_node_bytes, .inl (cB, 96, .inl w17)), (q_node_starts, .inl (cI, 31, .inl w18)), (q_node_sizes, .inl (cI, 31, .inl w19)), (q_tree, .inr (5, [.ref q_now, .ref q_node, .ref q_row, .ref q_tree_path, .ref q_tree_slots, .int w2, .int w3, .ref q_tree_cell, .int v_tree_cellSize, .ref q_tree_waiting, .ref q_tree_leaves])), (q_tree_path, .inl (cI, 25, .inl w10)), (q_tree_slots, .inl (cI, 25, .inl w11))]) (pu_rv (cl := pu_cl) (pu_in5 _ (List.mem_of_getElem? (i := 24) rfl)) (pu_in5 _ (List.mem_of_getElem? (i := 25) rfl)) (pu_in5 _ (List.mem_of_getElem? (i := 26) rfl)) (pu_in0 _ (List.mem_of_getElem? (i := 7) rfl)) (pu_in5 _ (List.mem_of_getElem? (i := 27) rfl)) (ci := 5) rfl hd_Tree_takeOut (by decide) ⟨rfl, rfl⟩ rfl rfl (Nat.le_of_ble_eq_true rfl) rfl (As := []) (rest := []) (WC := [(q_tree, .inr (5, [.ref q_now, .ref q_node, .ref q_row, .ref q_tree_path, .ref q_tree_slots, .int w2, .int w3, .ref q_tree_cell, .int v_tree_cellSize, .ref q_tree_waiting, .ref q_tree_leaves])), (q_now, .inr (0, [.ref q_now_bytes, .int v_now_count])), (q_now_bytes, .inl (cB, 1536, .inl v_now_bytes)), (q_node, .inr (3, [.ref q_node_bytes, .ref q_node_starts, .ref q_node_sizes, .int w4, .int w5, .int w6])), (q_node_bytes, .inl (cB, 96, .inl w7)), (q_node_starts, .inl (cI, 31, .inl w8)), (q_node_sizes, .inl (cI, 31, .inl w9)), (q_tree_path, .inl (cI, 25, .inl w10)), (q_tree_slots, .inl (cI, 25, .inl w11))]) hx hb hml hown hts hN hK hP hD (c_Tree_takeOut l D cI cJ cB cZ H.size q_tree q_now q_node q_row q_tree_path q_tree_slots q_tree_cell q_tree_waiting q_tree_leaves q_now_bytes q_node_bytes q_node_starts q_node_sizes w2 w3 v_tree_cellSize v_now_count v_now_bytes w4 w5 w6 w7 w8 w9 w10 w11 w13 w14 w15 w16 w17 w18 w19 hc) [7, 1, 2, 3, 4, 5, 6, 8, 9] rfl rfl hl.1 d_RF_remove_27) hP hD hS hA [7, 1, 2, 3, 4, 5, 6, 8, 9] [0] [0, 2, 3, 4, 5, 6, 7, 1, 8, 9] rfl rfl rfl (by decide) rfl rfl (fun H locs hP hD hS => ?_)
        refine lv_iconst (v := 1) hx hb d_RF_remove_30 rfl ?_
        exact hret _ _ _ _ (1 : Int32) w13 w14 w15 w16 w17 w18 w19 w2 w3 w10 w11 d_RF_remove_31 hP hD hS hf
      have hf := pu_br_pos hf hc
      refine lv_iconst (v := 0) hx hb d_RF_remove_21 rfl ?_
      exact hret _ _ _ _ (0 : Int32) v_now_bytes w4 w5 w6 w7 w8 w9 w2 w3 w10 w11 d_RF_remove_22 hP hD hS hf
    have hf := pu_br_pos hf hc
    refine lv_bipush (v := -3) hx hb d_RF_remove_7 rfl ?_
    exact hret _ _ _ _ (-3 : Int32) v_now_bytes v_node_count v_node_last v_node_leaf v_node_bytes v_node_starts v_node_sizes v_tree_depth v_tree_slot v_tree_path v_tree_slots d_RF_remove_9 hP hD hS hf
  rw [hH, hlocs] at goal
  exact goal
theorem d_Pages_samePage_0 : decode b_Pages_samePage 0 = .ok (.iconst 0, 1) := by decide +kernel
theorem d_Pages_samePage_1 : decode b_Pages_samePage 1 = .ok (.istore_n 3, 1) := by decide +kernel
theorem d_Pages_samePage_2 : decode b_Pages_samePage 2 = .ok (.iload_n 3, 1) := by decide +kernel
theorem d_Pages_samePage_3 : decode b_Pages_samePage 3 = .ok (.bipush 64, 2) := by decide +kernel
theorem d_Pages_samePage_5 : decode b_Pages_samePage 5 = .ok (.if_icmp .ge 26, 3) := by decide +kernel
theorem d_Pages_samePage_8 : decode b_Pages_samePage 8 = .ok (.aload_n 0, 1) := by decide +kernel
theorem d_Pages_samePage_9 : decode b_Pages_samePage 9 = .ok (.iload_n 1, 1) := by decide +kernel
theorem d_Pages_samePage_10 : decode b_Pages_samePage 10 = .ok (.iload_n 3, 1) := by decide +kernel
theorem d_Pages_samePage_11 : decode b_Pages_samePage 11 = .ok (.invokevirtual 39, 3) := by decide +kernel
theorem d_Pages_samePage_14 : decode b_Pages_samePage 14 = .ok (.aload_n 2, 1) := by decide +kernel
theorem d_Pages_samePage_15 : decode b_Pages_samePage 15 = .ok (.iload_n 1, 1) := by decide +kernel
theorem d_Pages_samePage_16 : decode b_Pages_samePage 16 = .ok (.iload_n 3, 1) := by decide +kernel
theorem d_Pages_samePage_17 : decode b_Pages_samePage 17 = .ok (.invokevirtual 39, 3) := by decide +kernel
theorem d_Pages_samePage_20 : decode b_Pages_samePage 20 = .ok (.if_icmp .eq 5, 3) := by decide +kernel
theorem d_Pages_samePage_23 : decode b_Pages_samePage 23 = .ok (.iconst 0, 1) := by decide +kernel
theorem d_Pages_samePage_24 : decode b_Pages_samePage 24 = .ok (.ireturn, 1) := by decide +kernel
theorem d_Pages_samePage_25 : decode b_Pages_samePage 25 = .ok (.iinc 3 1, 3) := by decide +kernel
theorem d_Pages_samePage_28 : decode b_Pages_samePage 28 = .ok (.goto (-26), 3) := by decide +kernel
theorem d_Pages_samePage_31 : decode b_Pages_samePage 31 = .ok (.iconst 1, 1) := by decide +kernel
theorem d_Pages_samePage_32 : decode b_Pages_samePage 32 = .ok (.ireturn, 1) := by decide +kernel
noncomputable def q_Pages_samePage_2 (v_count : Int32) (v_bytes : Nat → Int32) (v_p2_count : Int32) (v_p2_bytes : Nat → Int32) (x_1 : Int32) : Nat → Int32 → Option (Int32)
  | 0, _ => none
  | n + 1, x_3 => pu_br ((64 : Int32) ≤ x_3) (some (1 : Int32)) (pu_b1 (f_Pages_get v_count v_bytes x_1 x_3) (fun r1 => pu_b1 (f_Pages_get v_p2_count v_p2_bytes x_1 x_3) (fun r2 => pu_br (r1 = r2) (pu_nm (x_3 + (1 : Int32)) (fun t3 => q_Pages_samePage_2 v_count v_bytes v_p2_count v_p2_bytes x_1 n t3)) (some (0 : Int32)))))
noncomputable def f_Pages_samePage (v_count : Int32) (v_bytes : Nat → Int32) (v_p2_count : Int32) (v_p2_bytes : Nat → Int32) (x_1 : Int32) : Option (Int32) :=
  q_Pages_samePage_2 v_count v_bytes v_p2_count v_p2_bytes x_1 pu_fu (0 : Int32)
abbrev rm_Pages_samePage : Room := { frames := 2, cells := 0, slots := 0, locals := 44 }
set_option maxHeartbeats 8000000 in
set_option maxRecDepth 100000 in
theorem c_Pages_samePage (l : Launch) (D : va_G) (cI cJ cB cZ : ClassId) (sz : Nat) (q_this : Nat) (q_bytes : Nat) (q_p2 : Nat) (q_p2_bytes : Nat) (v_count : Int32) (v_bytes : Nat → Int32) (v_p2_count : Int32) (v_p2_bytes : Nat → Int32) (x_1 : Int32) (o_r : Int32) (hf : f_Pages_samePage v_count v_bytes v_p2_count v_p2_bytes x_1 = some o_r) : Met l y_Pages_samePage (.code y_Pages_samePage b_Pages_samePage 4 (some .boolean) :: pu_wA) rm_Pages_samePage (pu_pc D pu_cl (pu_ty cI cJ cB cZ) [.ref q_this, .int x_1, .ref q_p2] [(q_this, .inr (0, [.ref q_bytes, .int v_count])), (q_bytes, .inl (cB, 1536, .inl v_bytes)), (q_p2, .inr (0, [.ref q_p2_bytes, .int v_p2_count])), (q_p2_bytes, .inl (cB, 1536, .inl v_p2_bytes))] sz) (pu_qi D pu_cl (pu_ty cI cJ cB cZ) [(q_this, .inr (0, [.ref q_bytes, .int v_count])), (q_bytes, .inl (cB, 1536, .inl v_bytes)), (q_p2, .inr (0, [.ref q_p2_bytes, .int v_p2_count])), (q_p2_bytes, .inl (cB, 1536, .inl v_p2_bytes))] [(q_this, .inr (0, [.ref q_bytes, .int v_count])), (q_bytes, .inl (cB, 1536, .inl v_bytes)), (q_p2, .inr (0, [.ref q_p2_bytes, .int v_p2_count])), (q_p2_bytes, .inl (cB, 1536, .inl v_p2_bytes))] sz o_r) 0 0 (va_A [(q_this, .inr (0, [.ref q_bytes, .int v_count])), (q_bytes, .inl (cB, 1536, .inl v_bytes)), (q_p2, .inr (0, [.ref q_p2_bytes, .int v_p2_count])), (q_p2_bytes, .inl (cB, 1536, .inl v_p2_bytes))] sz) := by
  refine pu_mtz [.ref q_this, .int x_1, .ref q_p2] [(q_this, .inr (0, [.ref q_bytes, .int v_count])), (q_bytes, .inl (cB, 1536, .inl v_bytes)), (q_p2, .inr (0, [.ref q_p2_bytes, .int v_p2_count])), (q_p2_bytes, .inl (cB, 1536, .inl v_p2_bytes))] [(q_this, .inr (0, [.ref q_bytes, .int v_count])), (q_bytes, .inl (cB, 1536, .inl v_bytes)), (q_p2, .inr (0, [.ref q_p2_bytes, .int v_p2_count])), (q_p2_bytes, .inl (cB, 1536, .inl v_p2_bytes))] o_r (by decide) (Nat.le_of_ble_eq_true rfl) ?_
  intro p e s m args below meth c A Q ls hx hb hml hts hN hown hK hA hP hD hl hret0
  have hS : va_S A s.heap s.heap [] := va_S.rf
  have hl : lv_has ls 4 [(0, .ref q_this), (1, .int x_1), (2, .ref q_p2)] := hl
  have hret : ∀ (pc : Nat) (ls : Array Slot) (H : Heap) (locs : List Loc) (y_0 : Int32), decode b_Pages_samePage pc = .ok (.ireturn, 1) → narrow .boolean (.int y_0) = .int y_0 → va_P D pu_cl [(q_this, .inr (0, [.ref q_bytes, .int v_count])), (q_bytes, .inl (cB, 1536, .inl v_bytes)), (q_p2, .inr (0, [.ref q_p2_bytes, .int v_p2_count])), (q_p2_bytes, .inl (cB, 1536, .inl v_p2_bytes))] H → va_D A [(q_this, .inr (0, [.ref q_bytes, .int v_count])), (q_bytes, .inl (cB, 1536, .inl v_bytes)), (q_p2, .inr (0, [.ref q_p2_bytes, .int v_p2_count])), (q_p2_bytes, .inl (cB, 1536, .inl v_p2_bytes))] → va_S A s.heap H locs → some y_0 = some o_r → W p l e rm_Pages_samePage s m args below meth c H locs 0 0 Q (F0 m pc ls [.int y_0]) := by
    intro pc ls H locs y_0 hd hz hP hD hS hf
    cases hf
    exact hret0 pc ls H locs hd hz hP hD hS
  clear hret0
  unfold f_Pages_samePage at hf
  skip
  have lp_2 : ∀ (x_1 : Int32) (n2 : Nat) (x_3 : Int32) (H : Heap) (locs : List Loc) (ls : Array Slot), va_P D pu_cl [(q_this, .inr (0, [.ref q_bytes, .int v_count])), (q_bytes, .inl (cB, 1536, .inl v_bytes)), (q_p2, .inr (0, [.ref q_p2_bytes, .int v_p2_count])), (q_p2_bytes, .inl (cB, 1536, .inl v_p2_bytes))] H → va_D A [(q_this, .inr (0, [.ref q_bytes, .int v_count])), (q_bytes, .inl (cB, 1536, .inl v_bytes)), (q_p2, .inr (0, [.ref q_p2_bytes, .int v_p2_count])), (q_p2_bytes, .inl (cB, 1536, .inl v_p2_bytes))] → va_S A s.heap H locs → lv_has ls 4 [(0, .ref q_this), (1, .int x_1), (2, .ref q_p2), (3, .int x_3)] → q_Pages_samePage_2 v_count v_bytes v_p2_count v_p2_bytes x_1 n2 x_3 = some o_r → W p l e rm_Pages_samePage s m args below meth c H locs 0 0 Q (F0 m 2 ls []) := by
    intro x_1 n2
    induction n2 with
    | zero =>
      intro x_3 H locs ls hP hD hS hl hf
      rw [q_Pages_samePage_2] at hf
      cases hf
    | succ n2 ih_2 =>
      intro x_3 H locs ls hP hD hS hl hf
      rw [q_Pages_samePage_2] at hf
      refine lv_iload_n hx hb d_Pages_samePage_2 rfl (lv_at hl 3 rfl) ?_
      refine lv_bipush (v := 64) hx hb d_Pages_samePage_3 rfl ?_
      refine lv_icmp_ge (tgt := 31) hx hb d_Pages_samePage_5 rfl (fun hc => ?_) (fun hc => ?_)
      · have hf := pu_br_pos hf hc
        refine lv_iconst (v := 1) hx hb d_Pages_samePage_31 rfl ?_
        exact hret _ _ _ _ (1 : Int32)  d_Pages_samePage_32 (by decide) hP hD hS hf
      have hf := pu_br_neg hf hc
      refine lv_aload_n hx hb d_Pages_samePage_8 rfl (lv_at hl 0 rfl) ?_
      refine lv_iload_n hx hb d_Pages_samePage_9 rfl (lv_at hl 1 rfl) ?_
      refine lv_iload_n hx hb d_Pages_samePage_10 rfl (lv_at hl 3 rfl) ?_
      obtain ⟨r1, hc, hf⟩ := pu_b1_some hf
      refine cl_i (WC := [(q_this, .inr (0, [.ref q_bytes, .int v_count])), (q_bytes, .inl (cB, 1536, .inl v_bytes))]) (WC2 := [(q_this, .inr (0, [.ref q_bytes, .int v_count])), (q_bytes, .inl (cB, 1536, .inl v_bytes))]) (WR := [(q_p2, .inr (0, [.ref q_p2_bytes, .int v_p2_count])), (q_p2_bytes, .inl (cB, 1536, .inl v_p2_bytes))]) (WS2 := [(q_this, .inr (0, [.ref q_bytes, .int v_count])), (q_bytes, .inl (cB, 1536, .inl v_bytes)), (q_p2, .inr (0, [.ref q_p2_bytes, .int v_p2_count])), (q_p2_bytes, .inl (cB, 1536, .inl v_p2_bytes))]) (pu_rv (cl := pu_cl) (pu_in3 _ (List.mem_of_getElem? (i := 37) rfl)) (pu_in3 _ (List.mem_of_getElem? (i := 38) rfl)) (pu_in3 _ (List.mem_of_getElem? (i := 39) rfl)) (pu_in0 _ (List.mem_of_getElem? (i := 3) rfl)) (pu_in3 _ (List.mem_of_getElem? (i := 40) rfl)) (ci := 0) rfl hd_Pages_get (by decide) ⟨rfl, rfl⟩ rfl rfl (Nat.le_of_ble_eq_true rfl) rfl (As := [.int x_1, .int x_3]) (rest := []) (WC := [(q_this, .inr (0, [.ref q_bytes, .int v_count])), (q_bytes, .inl (cB, 1536, .inl v_bytes))]) hx hb hml hown hts hN hK hP hD (c_Pages_get l D cI cJ cB cZ H.size q_this q_bytes v_count v_bytes x_1 x_3 r1 hc) [0, 1] rfl rfl hl.1 d_Pages_samePage_11) hP hD hS hA [0, 1] [2, 3] [2, 3, 0, 1] rfl rfl rfl (by decide) rfl rfl (fun H locs hP hD hS => ?_)
      refine lv_aload_n hx hb d_Pages_samePage_14 rfl (lv_at hl 2 rfl) ?_
      refine lv_iload_n hx hb d_Pages_samePage_15 rfl (lv_at hl 1 rfl) ?_
      refine lv_iload_n hx hb d_Pages_samePage_16 rfl (lv_at hl 3 rfl) ?_
      obtain ⟨r2, hc, hf⟩ := pu_b1_some hf
      refine cl_i (WC := [(q_p2, .inr (0, [.ref q_p2_bytes, .int v_p2_count])), (q_p2_bytes, .inl (cB, 1536, .inl v_p2_bytes))]) (WC2 := [(q_p2, .inr (0, [.ref q_p2_bytes, .int v_p2_count])), (q_p2_bytes, .inl (cB, 1536, .inl v_p2_bytes))]) (WR := [(q_this, .inr (0, [.ref q_bytes, .int v_count])), (q_bytes, .inl (cB, 1536, .inl v_bytes))]) (WS2 := [(q_this, .inr (0, [.ref q_bytes, .int v_count])), (q_bytes, .inl (cB, 1536, .inl v_bytes)), (q_p2, .inr (0, [.ref q_p2_bytes, .int v_p2_count])), (q_p2_bytes, .inl (cB, 1536, .inl v_p2_bytes))]) (pu_rv (cl := pu_cl) (pu_in3 _ (List.mem_of_getElem? (i := 37) rfl)) (pu_in3 _ (List.mem_of_getElem? (i := 38) rfl)) (pu_in3 _ (List.mem_of_getElem? (i := 39) rfl)) (pu_in0 _ (List.mem_of_getElem? (i := 3) rfl)) (pu_in3 _ (List.mem_of_getElem? (i := 40) rfl)) (ci := 0) rfl hd_Pages_get (by decide) ⟨rfl, rfl⟩ rfl rfl (Nat.le_of_ble_eq_true rfl) rfl (As := [.int x_1, .int x_3]) (rest := [.int r1]) (WC := [(q_p2, .inr (0, [.ref q_p2_bytes, .int v_p2_count])), (q_p2_bytes, .inl (cB, 1536, .inl v_p2_bytes))]) hx hb hml hown hts hN hK hP hD (c_Pages_get l D cI cJ cB cZ H.size q_p2 q_p2_bytes v_p2_count v_p2_bytes x_1 x_3 r2 hc) [2, 3] rfl rfl hl.1 d_Pages_samePage_17) hP hD hS hA [2, 3] [0, 1] [0, 1, 2, 3] rfl rfl rfl (by decide) rfl rfl (fun H locs hP hD hS => ?_)
      refine lv_icmp_eq (tgt := 25) hx hb d_Pages_samePage_20 rfl (fun hc => ?_) (fun hc => ?_)
      · have hf := pu_br_pos hf hc
        obtain ⟨t3, e_t3, hf⟩ := pu_nm_some hf
        refine lv_iinc (k := 3) (v := t3) hx hb d_Pages_samePage_25 hl rfl e_t3.symm (by decide) rfl (fun ls hl => ?_)
        have hl : lv_has ls 4 [(3, .int t3), (0, .ref q_this), (1, .int x_1), (2, .ref q_p2)] := hl
        refine lv_goto (tgt := 2) hx hb d_Pages_samePage_28 rfl ?_
        exact ih_2 t3 H locs ls hP hD hS (lv_sub hl [1, 2, 3, 0] rfl) hf
      have hf := pu_br_neg hf hc
      refine lv_iconst (v := 0) hx hb d_Pages_samePage_23 rfl ?_
      exact hret _ _ _ _ (0 : Int32)  d_Pages_samePage_24 (by decide) hP hD hS hf
  obtain ⟨H, hH⟩ : ∃ H, H = s.heap := ⟨_, rfl⟩
  obtain ⟨locs, hlocs⟩ : ∃ locs : List Loc, locs = [] := ⟨_, rfl⟩
  have hP : va_P D pu_cl [(q_this, .inr (0, [.ref q_bytes, .int v_count])), (q_bytes, .inl (cB, 1536, .inl v_bytes)), (q_p2, .inr (0, [.ref q_p2_bytes, .int v_p2_count])), (q_p2_bytes, .inl (cB, 1536, .inl v_p2_bytes))] H := by rw [hH]; exact hP
  have hS : va_S A s.heap H locs := by rw [hH, hlocs]; exact hS
  have goal : W p l e rm_Pages_samePage s m args below meth c H locs 0 0 Q (F0 m 0 ls []) := by
    clear hH hlocs
    refine lv_iconst (v := 0) hx hb d_Pages_samePage_0 rfl ?_
    refine lv_istore_n hx hb d_Pages_samePage_1 rfl hl (by decide) rfl (fun ls hl => ?_)
    have hl : lv_has ls 4 [(3, .int (0 : Int32)), (0, .ref q_this), (1, .int x_1), (2, .ref q_p2)] := hl
    exact lp_2 x_1 _ (0 : Int32) H locs ls hP hD hS (lv_sub hl [1, 2, 3, 0] rfl) hf
  rw [hH, hlocs] at goal
  exact goal
theorem d_Disk_markDifferent_0 : decode b_Disk_markDifferent 0 = .ok (.iconst 0, 1) := by decide +kernel
theorem d_Disk_markDifferent_1 : decode b_Disk_markDifferent 1 = .ok (.istore_n 2, 1) := by decide +kernel
theorem d_Disk_markDifferent_2 : decode b_Disk_markDifferent 2 = .ok (.iconst 1, 1) := by decide +kernel
theorem d_Disk_markDifferent_3 : decode b_Disk_markDifferent 3 = .ok (.istore_n 3, 1) := by decide +kernel
theorem d_Disk_markDifferent_4 : decode b_Disk_markDifferent 4 = .ok (.iload_n 3, 1) := by decide +kernel
theorem d_Disk_markDifferent_5 : decode b_Disk_markDifferent 5 = .ok (.bipush 24, 2) := by decide +kernel
theorem d_Disk_markDifferent_7 : decode b_Disk_markDifferent 7 = .ok (.if_icmp .gt 63, 3) := by decide +kernel
theorem d_Disk_markDifferent_10 : decode b_Disk_markDifferent 10 = .ok (.aload_n 0, 1) := by decide +kernel
theorem d_Disk_markDifferent_11 : decode b_Disk_markDifferent 11 = .ok (.getfield 25, 3) := by decide +kernel
theorem d_Disk_markDifferent_14 : decode b_Disk_markDifferent 14 = .ok (.iload_n 3, 1) := by decide +kernel
theorem d_Disk_markDifferent_15 : decode b_Disk_markDifferent 15 = .ok (.iload_n 3, 1) := by decide +kernel
theorem d_Disk_markDifferent_16 : decode b_Disk_markDifferent 16 = .ok (.aload_n 1, 1) := by decide +kernel
theorem d_Disk_markDifferent_17 : decode b_Disk_markDifferent 17 = .ok (.getfield 28, 3) := by decide +kernel
theorem d_Disk_markDifferent_20 : decode b_Disk_markDifferent 20 = .ok (.if_icmp .gt 30, 3) := by decide +kernel
theorem d_Disk_markDifferent_23 : decode b_Disk_markDifferent 23 = .ok (.iload_n 3, 1) := by decide +kernel
theorem d_Disk_markDifferent_24 : decode b_Disk_markDifferent 24 = .ok (.aload_n 0, 1) := by decide +kernel
theorem d_Disk_markDifferent_25 : decode b_Disk_markDifferent 25 = .ok (.getfield 12, 3) := by decide +kernel
theorem d_Disk_markDifferent_28 : decode b_Disk_markDifferent 28 = .ok (.getfield 28, 3) := by decide +kernel
theorem d_Disk_markDifferent_31 : decode b_Disk_markDifferent 31 = .ok (.if_icmp .gt 15, 3) := by decide +kernel
theorem d_Disk_markDifferent_34 : decode b_Disk_markDifferent 34 = .ok (.aload_n 1, 1) := by decide +kernel
theorem d_Disk_markDifferent_35 : decode b_Disk_markDifferent 35 = .ok (.iload_n 3, 1) := by decide +kernel
theorem d_Disk_markDifferent_36 : decode b_Disk_markDifferent 36 = .ok (.aload_n 0, 1) := by decide +kernel
theorem d_Disk_markDifferent_37 : decode b_Disk_markDifferent 37 = .ok (.getfield 12, 3) := by decide +kernel
theorem d_Disk_markDifferent_40 : decode b_Disk_markDifferent 40 = .ok (.invokevirtual 32, 3) := by decide +kernel
theorem d_Disk_markDifferent_43 : decode b_Disk_markDifferent 43 = .ok (.ifCond .ne 7, 3) := by decide +kernel
theorem d_Disk_markDifferent_46 : decode b_Disk_markDifferent 46 = .ok (.iconst 1, 1) := by decide +kernel
theorem d_Disk_markDifferent_47 : decode b_Disk_markDifferent 47 = .ok (.goto 4, 3) := by decide +kernel
theorem d_Disk_markDifferent_50 : decode b_Disk_markDifferent 50 = .ok (.iconst 0, 1) := by decide +kernel
theorem d_Disk_markDifferent_51 : decode b_Disk_markDifferent 51 = .ok (.bastore, 1) := by decide +kernel
theorem d_Disk_markDifferent_52 : decode b_Disk_markDifferent 52 = .ok (.aload_n 0, 1) := by decide +kernel
theorem d_Disk_markDifferent_53 : decode b_Disk_markDifferent 53 = .ok (.getfield 25, 3) := by decide +kernel
theorem d_Disk_markDifferent_56 : decode b_Disk_markDifferent 56 = .ok (.iload_n 3, 1) := by decide +kernel
theorem d_Disk_markDifferent_57 : decode b_Disk_markDifferent 57 = .ok (.baload, 1) := by decide +kernel
theorem d_Disk_markDifferent_58 : decode b_Disk_markDifferent 58 = .ok (.ifCond .eq 6, 3) := by decide +kernel
theorem d_Disk_markDifferent_61 : decode b_Disk_markDifferent 61 = .ok (.iinc 2 1, 3) := by decide +kernel
theorem d_Disk_markDifferent_64 : decode b_Disk_markDifferent 64 = .ok (.iinc 3 1, 3) := by decide +kernel
theorem d_Disk_markDifferent_67 : decode b_Disk_markDifferent 67 = .ok (.goto (-63), 3) := by decide +kernel
theorem d_Disk_markDifferent_70 : decode b_Disk_markDifferent 70 = .ok (.iload_n 2, 1) := by decide +kernel
theorem d_Disk_markDifferent_71 : decode b_Disk_markDifferent 71 = .ok (.ireturn, 1) := by decide +kernel
noncomputable def q_Disk_markDifferent_64 (kb : (Nat → Int32) → Int32 → Int32 → Option (Int32 × (Nat → Int32))) (v_file_count : Int32) (v_file_bytes : Nat → Int32) (v_p1_count : Int32) (v_p1_bytes : Nat → Int32) (v_different : Nat → Int32) (x_2 : Int32) (x_3 : Int32) : Option (Int32 × (Nat → Int32)) :=
  pu_nm (x_3 + (1 : Int32)) (fun t2 => kb v_different x_2 t2)
noncomputable def q_Disk_markDifferent_51 (kb : (Nat → Int32) → Int32 → Int32 → Option (Int32 × (Nat → Int32))) (v_file_count : Int32) (v_file_bytes : Nat → Int32) (v_p1_count : Int32) (v_p1_bytes : Nat → Int32) (v_different : Nat → Int32) (x_2 : Int32) (x_3 : Int32) (s_1 : Int32) (s_2 : Int32) : Option (Int32 × (Nat → Int32)) :=
  pu_ck (vp_in s_1 25) (pu_nm (upd v_different s_1.toNatClampNeg (vp_nar .boolean s_2)) (fun a1 => pu_ck (vp_in x_3 25) (pu_br ((a1 x_3.toNatClampNeg) = 0) (q_Disk_markDifferent_64 kb v_file_count v_file_bytes v_p1_count v_p1_bytes a1 x_2 x_3) (pu_nm (x_2 + (1 : Int32)) (fun t3 => q_Disk_markDifferent_64 kb v_file_count v_file_bytes v_p1_count v_p1_bytes a1 t3 x_3)))))
noncomputable def q_Disk_markDifferent_50 (kb : (Nat → Int32) → Int32 → Int32 → Option (Int32 × (Nat → Int32))) (v_file_count : Int32) (v_file_bytes : Nat → Int32) (v_p1_count : Int32) (v_p1_bytes : Nat → Int32) (v_different : Nat → Int32) (x_2 : Int32) (x_3 : Int32) (s_1 : Int32) : Option (Int32 × (Nat → Int32)) :=
  q_Disk_markDifferent_51 kb v_file_count v_file_bytes v_p1_count v_p1_bytes v_different x_2 x_3 s_1 (0 : Int32)
noncomputable def q_Disk_markDifferent_46 (kb : (Nat → Int32) → Int32 → Int32 → Option (Int32 × (Nat → Int32))) (v_file_count : Int32) (v_file_bytes : Nat → Int32) (v_p1_count : Int32) (v_p1_bytes : Nat → Int32) (v_different : Nat → Int32) (x_2 : Int32) (x_3 : Int32) (s_1 : Int32) : Option (Int32 × (Nat → Int32)) :=
  q_Disk_markDifferent_51 kb v_file_count v_file_bytes v_p1_count v_p1_bytes v_different x_2 x_3 s_1 (1 : Int32)
noncomputable def q_Disk_markDifferent_4 (v_file_count : Int32) (v_file_bytes : Nat → Int32) (v_p1_count : Int32) (v_p1_bytes : Nat → Int32) : Nat → (Nat → Int32) → Int32 → Int32 → Option (Int32 × (Nat → Int32))
  | 0, _, _, _ => none
  | n + 1, v_different, x_2, x_3 => pu_br ((24 : Int32) < x_3) (some (x_2, v_different)) (pu_br (v_p1_count < x_3) (q_Disk_markDifferent_50 (q_Disk_markDifferent_4 v_file_count v_file_bytes v_p1_count v_p1_bytes n) v_file_count v_file_bytes v_p1_count v_p1_bytes v_different x_2 x_3 x_3) (pu_br (v_file_count < x_3) (q_Disk_markDifferent_46 (q_Disk_markDifferent_4 v_file_count v_file_bytes v_p1_count v_p1_bytes n) v_file_count v_file_bytes v_p1_count v_p1_bytes v_different x_2 x_3 x_3) (pu_b1 (f_Pages_samePage v_p1_count v_p1_bytes v_file_count v_file_bytes x_3) (fun r4 => pu_br (r4 = 0) (q_Disk_markDifferent_46 (q_Disk_markDifferent_4 v_file_count v_file_bytes v_p1_count v_p1_bytes n) v_file_count v_file_bytes v_p1_count v_p1_bytes v_different x_2 x_3 x_3) (q_Disk_markDifferent_50 (q_Disk_markDifferent_4 v_file_count v_file_bytes v_p1_count v_p1_bytes n) v_file_count v_file_bytes v_p1_count v_p1_bytes v_different x_2 x_3 x_3)))))
noncomputable def f_Disk_markDifferent (v_file_count : Int32) (v_file_bytes : Nat → Int32) (v_p1_count : Int32) (v_p1_bytes : Nat → Int32) (v_different : Nat → Int32) : Option (Int32 × (Nat → Int32)) :=
  q_Disk_markDifferent_4 v_file_count v_file_bytes v_p1_count v_p1_bytes pu_fu v_different (0 : Int32) (1 : Int32)
abbrev rm_Disk_markDifferent : Room := { frames := 3, cells := 0, slots := 0, locals := 67 }
set_option maxHeartbeats 8000000 in
set_option maxRecDepth 100000 in
theorem c_Disk_markDifferent (l : Launch) (D : va_G) (cI cJ cB cZ : ClassId) (sz : Nat) (q_this : Nat) (q_file : Nat) (q_records : Nat) (q_recorded : Nat) (q_different : Nat) (q_file_bytes : Nat) (q_p1 : Nat) (q_p1_bytes : Nat) (v_headThere : Int32) (v_headPages : Int32) (v_headRecords : Int32) (v_file_count : Int32) (v_file_bytes : Nat → Int32) (v_different : Nat → Int32) (v_p1_count : Int32) (v_p1_bytes : Nat → Int32) (o_r : Int32) (o_different : Nat → Int32) (hf : f_Disk_markDifferent v_file_count v_file_bytes v_p1_count v_p1_bytes v_different = some (o_r, o_different)) : Met l y_Disk_markDifferent (.code y_Disk_markDifferent b_Disk_markDifferent 4 (some .int) :: pu_wA) rm_Disk_markDifferent (pu_pc D pu_cl (pu_ty cI cJ cB cZ) [.ref q_this, .ref q_p1] [(q_this, .inr (4, [.ref q_file, .ref q_records, .ref q_recorded, .ref q_different, .int v_headThere, .int v_headPages, .int v_headRecords])), (q_file, .inr (0, [.ref q_file_bytes, .int v_file_count])), (q_file_bytes, .inl (cB, 1536, .inl v_file_bytes)), (q_different, .inl (cZ, 25, .inl v_different)), (q_p1, .inr (0, [.ref q_p1_bytes, .int v_p1_count])), (q_p1_bytes, .inl (cB, 1536, .inl v_p1_bytes))] sz) (pu_qi D pu_cl (pu_ty cI cJ cB cZ) [(q_this, .inr (4, [.ref q_file, .ref q_records, .ref q_recorded, .ref q_different, .int v_headThere, .int v_headPages, .int v_headRecords])), (q_file, .inr (0, [.ref q_file_bytes, .int v_file_count])), (q_file_bytes, .inl (cB, 1536, .inl v_file_bytes)), (q_different, .inl (cZ, 25, .inl v_different)), (q_p1, .inr (0, [.ref q_p1_bytes, .int v_p1_count])), (q_p1_bytes, .inl (cB, 1536, .inl v_p1_bytes))] [(q_this, .inr (4, [.ref q_file, .ref q_records, .ref q_recorded, .ref q_different, .int v_headThere, .int v_headPages, .int v_headRecords])), (q_file, .inr (0, [.ref q_file_bytes, .int v_file_count])), (q_file_bytes, .inl (cB, 1536, .inl v_file_bytes)), (q_different, .inl (cZ, 25, .inl o_different)), (q_p1, .inr (0, [.ref q_p1_bytes, .int v_p1_count])), (q_p1_bytes, .inl (cB, 1536, .inl v_p1_bytes))] sz o_r) 0 0 (va_A [(q_this, .inr (4, [.ref q_file, .ref q_records, .ref q_recorded, .ref q_different, .int v_headThere, .int v_headPages, .int v_headRecords])), (q_file, .inr (0, [.ref q_file_bytes, .int v_file_count])), (q_file_bytes, .inl (cB, 1536, .inl v_file_bytes)), (q_different, .inl (cZ, 25, .inl v_different)), (q_p1, .inr (0, [.ref q_p1_bytes, .int v_p1_count])), (q_p1_bytes, .inl (cB, 1536, .inl v_p1_bytes))] sz) := by
  refine pu_mti [.ref q_this, .ref q_p1] [(q_this, .inr (4, [.ref q_file, .ref q_records, .ref q_recorded, .ref q_different, .int v_headThere, .int v_headPages, .int v_headRecords])), (q_file, .inr (0, [.ref q_file_bytes, .int v_file_count])), (q_file_bytes, .inl (cB, 1536, .inl v_file_bytes)), (q_different, .inl (cZ, 25, .inl v_different)), (q_p1, .inr (0, [.ref q_p1_bytes, .int v_p1_count])), (q_p1_bytes, .inl (cB, 1536, .inl v_p1_bytes))] [(q_this, .inr (4, [.ref q_file, .ref q_records, .ref q_recorded, .ref q_different, .int v_headThere, .int v_headPages, .int v_headRecords])), (q_file, .inr (0, [.ref q_file_bytes, .int v_file_count])), (q_file_bytes, .inl (cB, 1536, .inl v_file_bytes)), (q_different, .inl (cZ, 25, .inl o_different)), (q_p1, .inr (0, [.ref q_p1_bytes, .int v_p1_count])), (q_p1_bytes, .inl (cB, 1536, .inl v_p1_bytes))] o_r (by decide) (Nat.le_of_ble_eq_true rfl) ?_
  intro p e s m args below meth c A Q ls hx hb hml hts hN hown hK hA hP hD hl hret0
  have hS : va_S A s.heap s.heap [] := va_S.rf
  have hl : lv_has ls 4 [(0, .ref q_this), (1, .ref q_p1)] := hl
  have hret : ∀ (pc : Nat) (ls : Array Slot) (H : Heap) (locs : List Loc) (y_0 : Int32) (y_1 : Nat → Int32), decode b_Disk_markDifferent pc = .ok (.ireturn, 1) → va_P D pu_cl [(q_this, .inr (4, [.ref q_file, .ref q_records, .ref q_recorded, .ref q_different, .int v_headThere, .int v_headPages, .int v_headRecords])), (q_file, .inr (0, [.ref q_file_bytes, .int v_file_count])), (q_file_bytes, .inl (cB, 1536, .inl v_file_bytes)), (q_different, .inl (cZ, 25, .inl y_1)), (q_p1, .inr (0, [.ref q_p1_bytes, .int v_p1_count])), (q_p1_bytes, .inl (cB, 1536, .inl v_p1_bytes))] H → va_D A [(q_this, .inr (4, [.ref q_file, .ref q_records, .ref q_recorded, .ref q_different, .int v_headThere, .int v_headPages, .int v_headRecords])), (q_file, .inr (0, [.ref q_file_bytes, .int v_file_count])), (q_file_bytes, .inl (cB, 1536, .inl v_file_bytes)), (q_different, .inl (cZ, 25, .inl y_1)), (q_p1, .inr (0, [.ref q_p1_bytes, .int v_p1_count])), (q_p1_bytes, .inl (cB, 1536, .inl v_p1_bytes))] → va_S A s.heap H locs → some (y_0, y_1) = some (o_r, o_different) → W p l e rm_Disk_markDifferent s m args below meth c H locs 0 0 Q (F0 m pc ls [.int y_0]) := by
    intro pc ls H locs y_0 y_1 hd hP hD hS hf
    cases hf
    exact hret0 pc ls H locs hd hP hD hS
  clear hret0
  unfold f_Disk_markDifferent at hf
  skip
  have lp_4 : ∀ (n4 : Nat) (v_different : Nat → Int32) (x_2 : Int32) (x_3 : Int32) (H : Heap) (locs : List Loc) (ls : Array Slot), va_P D pu_cl [(q_this, .inr (4, [.ref q_file, .ref q_records, .ref q_recorded, .ref q_different, .int v_headThere, .int v_headPages, .int v_headRecords])), (q_file, .inr (0, [.ref q_file_bytes, .int v_file_count])), (q_file_bytes, .inl (cB, 1536, .inl v_file_bytes)), (q_different, .inl (cZ, 25, .inl v_different)), (q_p1, .inr (0, [.ref q_p1_bytes, .int v_p1_count])), (q_p1_bytes, .inl (cB, 1536, .inl v_p1_bytes))] H → va_D A [(q_this, .inr (4, [.ref q_file, .ref q_records, .ref q_recorded, .ref q_different, .int v_headThere, .int v_headPages, .int v_headRecords])), (q_file, .inr (0, [.ref q_file_bytes, .int v_file_count])), (q_file_bytes, .inl (cB, 1536, .inl v_file_bytes)), (q_different, .inl (cZ, 25, .inl v_different)), (q_p1, .inr (0, [.ref q_p1_bytes, .int v_p1_count])), (q_p1_bytes, .inl (cB, 1536, .inl v_p1_bytes))] → va_S A s.heap H locs → lv_has ls 4 [(0, .ref q_this), (1, .ref q_p1), (2, .int x_2), (3, .int x_3)] → q_Disk_markDifferent_4 v_file_count v_file_bytes v_p1_count v_p1_bytes n4 v_different x_2 x_3 = some (o_r, o_different) → W p l e rm_Disk_markDifferent s m args below meth c H locs 0 0 Q (F0 m 4 ls []) := by
    intro n4
    induction n4 with
    | zero =>
      intro v_different x_2 x_3 H locs ls hP hD hS hl hf
      rw [q_Disk_markDifferent_4] at hf
      cases hf
    | succ n4 ih_4 =>
      have lb_64 : ∀ (v_different : Nat → Int32) (x_2 : Int32) (x_3 : Int32) (H : Heap) (locs : List Loc) (ls : Array Slot), va_P D pu_cl [(q_this, .inr (4, [.ref q_file, .ref q_records, .ref q_recorded, .ref q_different, .int v_headThere, .int v_headPages, .int v_headRecords])), (q_file, .inr (0, [.ref q_file_bytes, .int v_file_count])), (q_file_bytes, .inl (cB, 1536, .inl v_file_bytes)), (q_different, .inl (cZ, 25, .inl v_different)), (q_p1, .inr (0, [.ref q_p1_bytes, .int v_p1_count])), (q_p1_bytes, .inl (cB, 1536, .inl v_p1_bytes))] H → va_D A [(q_this, .inr (4, [.ref q_file, .ref q_records, .ref q_recorded, .ref q_different, .int v_headThere, .int v_headPages, .int v_headRecords])), (q_file, .inr (0, [.ref q_file_bytes, .int v_file_count])), (q_file_bytes, .inl (cB, 1536, .inl v_file_bytes)), (q_different, .inl (cZ, 25, .inl v_different)), (q_p1, .inr (0, [.ref q_p1_bytes, .int v_p1_count])), (q_p1_bytes, .inl (cB, 1536, .inl v_p1_bytes))] → va_S A s.heap H locs → lv_has ls 4 [(0, .ref q_this), (1, .ref q_p1), (2, .int x_2), (3, .int x_3)] → q_Disk_markDifferent_64 (q_Disk_markDifferent_4 v_file_count v_file_bytes v_p1_count v_p1_bytes n4) v_file_count v_file_bytes v_p1_count v_p1_bytes v_different x_2 x_3 = some (o_r, o_different) → W p l e rm_Disk_markDifferent s m args below meth c H locs 0 0 Q (F0 m 64 ls []) := by
        intro v_different x_2 x_3 H locs ls hP hD hS hl hf
        rw [q_Disk_markDifferent_64] at hf
        obtain ⟨t2, e_t2, hf⟩ := pu_nm_some hf
        refine lv_iinc (k := 3) (v := t2) hx hb d_Disk_markDifferent_64 hl rfl e_t2.symm (by decide) rfl (fun ls hl => ?_)
        have hl : lv_has ls 4 [(3, .int t2), (0, .ref q_this), (1, .ref q_p1), (2, .int x_2)] := hl
        refine lv_goto (tgt := 4) hx hb d_Disk_markDifferent_67 rfl ?_
        exact ih_4 v_different x_2 t2 H locs ls hP hD hS (lv_sub hl [1, 2, 3, 0] rfl) hf
      have lb_51 : ∀ (v_different : Nat → Int32) (x_2 : Int32) (x_3 : Int32) (s_1 : Int32) (s_2 : Int32) (H : Heap) (locs : List Loc) (ls : Array Slot), va_P D pu_cl [(q_this, .inr (4, [.ref q_file, .ref q_records, .ref q_recorded, .ref q_different, .int v_headThere, .int v_headPages, .int v_headRecords])), (q_file, .inr (0, [.ref q_file_bytes, .int v_file_count])), (q_file_bytes, .inl (cB, 1536, .inl v_file_bytes)), (q_different, .inl (cZ, 25, .inl v_different)), (q_p1, .inr (0, [.ref q_p1_bytes, .int v_p1_count])), (q_p1_bytes, .inl (cB, 1536, .inl v_p1_bytes))] H → va_D A [(q_this, .inr (4, [.ref q_file, .ref q_records, .ref q_recorded, .ref q_different, .int v_headThere, .int v_headPages, .int v_headRecords])), (q_file, .inr (0, [.ref q_file_bytes, .int v_file_count])), (q_file_bytes, .inl (cB, 1536, .inl v_file_bytes)), (q_different, .inl (cZ, 25, .inl v_different)), (q_p1, .inr (0, [.ref q_p1_bytes, .int v_p1_count])), (q_p1_bytes, .inl (cB, 1536, .inl v_p1_bytes))] → va_S A s.heap H locs → lv_has ls 4 [(0, .ref q_this), (1, .ref q_p1), (2, .int x_2), (3, .int x_3)] → q_Disk_markDifferent_51 (q_Disk_markDifferent_4 v_file_count v_file_bytes v_p1_count v_p1_bytes n4) v_file_count v_file_bytes v_p1_count v_p1_bytes v_different x_2 x_3 s_1 s_2 = some (o_r, o_different) → W p l e rm_Disk_markDifferent s m args below meth c H locs 0 0 Q (F0 m 51 ls [.int s_2, .int s_1, .ref q_different]) := by
        intro v_different x_2 x_3 s_1 s_2 H locs ls hP hD hS hl hf
        rw [q_Disk_markDifferent_51] at hf
        obtain ⟨hin, hf⟩ := pu_ck_some hf
        obtain ⟨a1, e_a1, hf⟩ := pu_nm_some hf
        refine va_zast hx hb hK hP hD hS 3 3 rfl rfl hin d_Disk_markDifferent_51 (fun H locs hP hD hS => ?_)
        have hP : va_P D pu_cl [(q_this, .inr (4, [.ref q_file, .ref q_records, .ref q_recorded, .ref q_different, .int v_headThere, .int v_headPages, .int v_headRecords])), (q_file, .inr (0, [.ref q_file_bytes, .int v_file_count])), (q_file_bytes, .inl (cB, 1536, .inl v_file_bytes)), (q_different, .inl (cZ, 25, .inl a1)), (q_p1, .inr (0, [.ref q_p1_bytes, .int v_p1_count])), (q_p1_bytes, .inl (cB, 1536, .inl v_p1_bytes))] H := by rw [e_a1]; exact hP
        have hD : va_D A [(q_this, .inr (4, [.ref q_file, .ref q_records, .ref q_recorded, .ref q_different, .int v_headThere, .int v_headPages, .int v_headRecords])), (q_file, .inr (0, [.ref q_file_bytes, .int v_file_count])), (q_file_bytes, .inl (cB, 1536, .inl v_file_bytes)), (q_different, .inl (cZ, 25, .inl a1)), (q_p1, .inr (0, [.ref q_p1_bytes, .int v_p1_count])), (q_p1_bytes, .inl (cB, 1536, .inl v_p1_bytes))] := by rw [e_a1]; exact hD
        refine lv_aload_n hx hb d_Disk_markDifferent_52 rfl (lv_at hl 0 rfl) ?_
        refine gf_Disk_25 (v := .ref q_different) hx hb hts hN hown hK hP 0 rfl rfl d_Disk_markDifferent_53 ?_
        refine lv_iload_n hx hb d_Disk_markDifferent_56 rfl (lv_at hl 3 rfl) ?_
        obtain ⟨hin, hf⟩ := pu_ck_some hf
        refine va_zald hx hb hK hP 3 3 rfl rfl hin d_Disk_markDifferent_57 ?_
        refine lv_if_eq (tgt := 64) hx hb d_Disk_markDifferent_58 rfl (fun hc => ?_) (fun hc => ?_)
        · have hf := pu_br_pos hf hc
          exact lb_64 a1 x_2 x_3 H locs ls hP hD hS (lv_sub hl [0, 1, 2, 3] rfl) hf
        have hf := pu_br_neg hf hc
        obtain ⟨t3, e_t3, hf⟩ := pu_nm_some hf
        refine lv_iinc (k := 2) (v := t3) hx hb d_Disk_markDifferent_61 hl rfl e_t3.symm (by decide) rfl (fun ls hl => ?_)
        have hl : lv_has ls 4 [(2, .int t3), (0, .ref q_this), (1, .ref q_p1), (3, .int x_3)] := hl
        exact lb_64 a1 t3 x_3 H locs ls hP hD hS (lv_sub hl [1, 2, 0, 3] rfl) hf
      have lb_50 : ∀ (v_different : Nat → Int32) (x_2 : Int32) (x_3 : Int32) (s_1 : Int32) (H : Heap) (locs : List Loc) (ls : Array Slot), va_P D pu_cl [(q_this, .inr (4, [.ref q_file, .ref q_records, .ref q_recorded, .ref q_different, .int v_headThere, .int v_headPages, .int v_headRecords])), (q_file, .inr (0, [.ref q_file_bytes, .int v_file_count])), (q_file_bytes, .inl (cB, 1536, .inl v_file_bytes)), (q_different, .inl (cZ, 25, .inl v_different)), (q_p1, .inr (0, [.ref q_p1_bytes, .int v_p1_count])), (q_p1_bytes, .inl (cB, 1536, .inl v_p1_bytes))] H → va_D A [(q_this, .inr (4, [.ref q_file, .ref q_records, .ref q_recorded, .ref q_different, .int v_headThere, .int v_headPages, .int v_headRecords])), (q_file, .inr (0, [.ref q_file_bytes, .int v_file_count])), (q_file_bytes, .inl (cB, 1536, .inl v_file_bytes)), (q_different, .inl (cZ, 25, .inl v_different)), (q_p1, .inr (0, [.ref q_p1_bytes, .int v_p1_count])), (q_p1_bytes, .inl (cB, 1536, .inl v_p1_bytes))] → va_S A s.heap H locs → lv_has ls 4 [(0, .ref q_this), (1, .ref q_p1), (2, .int x_2), (3, .int x_3)] → q_Disk_markDifferent_50 (q_Disk_markDifferent_4 v_file_count v_file_bytes v_p1_count v_p1_bytes n4) v_file_count v_file_bytes v_p1_count v_p1_bytes v_different x_2 x_3 s_1 = some (o_r, o_different) → W p l e rm_Disk_markDifferent s m args below meth c H locs 0 0 Q (F0 m 50 ls [.int s_1, .ref q_different]) := by
        intro v_different x_2 x_3 s_1 H locs ls hP hD hS hl hf
        rw [q_Disk_markDifferent_50] at hf
        refine lv_iconst (v := 0) hx hb d_Disk_markDifferent_50 rfl ?_
        exact lb_51 v_different x_2 x_3 s_1 (0 : Int32) H locs ls hP hD hS (lv_sub hl [0, 1, 2, 3] rfl) hf
      have lb_46 : ∀ (v_different : Nat → Int32) (x_2 : Int32) (x_3 : Int32) (s_1 : Int32) (H : Heap) (locs : List Loc) (ls : Array Slot), va_P D pu_cl [(q_this, .inr (4, [.ref q_file, .ref q_records, .ref q_recorded, .ref q_different, .int v_headThere, .int v_headPages, .int v_headRecords])), (q_file, .inr (0, [.ref q_file_bytes, .int v_file_count])), (q_file_bytes, .inl (cB, 1536, .inl v_file_bytes)), (q_different, .inl (cZ, 25, .inl v_different)), (q_p1, .inr (0, [.ref q_p1_bytes, .int v_p1_count])), (q_p1_bytes, .inl (cB, 1536, .inl v_p1_bytes))] H → va_D A [(q_this, .inr (4, [.ref q_file, .ref q_records, .ref q_recorded, .ref q_different, .int v_headThere, .int v_headPages, .int v_headRecords])), (q_file, .inr (0, [.ref q_file_bytes, .int v_file_count])), (q_file_bytes, .inl (cB, 1536, .inl v_file_bytes)), (q_different, .inl (cZ, 25, .inl v_different)), (q_p1, .inr (0, [.ref q_p1_bytes, .int v_p1_count])), (q_p1_bytes, .inl (cB, 1536, .inl v_p1_bytes))] → va_S A s.heap H locs → lv_has ls 4 [(0, .ref q_this), (1, .ref q_p1), (2, .int x_2), (3, .int x_3)] → q_Disk_markDifferent_46 (q_Disk_markDifferent_4 v_file_count v_file_bytes v_p1_count v_p1_bytes n4) v_file_count v_file_bytes v_p1_count v_p1_bytes v_different x_2 x_3 s_1 = some (o_r, o_different) → W p l e rm_Disk_markDifferent s m args below meth c H locs 0 0 Q (F0 m 46 ls [.int s_1, .ref q_different]) := by
        intro v_different x_2 x_3 s_1 H locs ls hP hD hS hl hf
        rw [q_Disk_markDifferent_46] at hf
        refine lv_iconst (v := 1) hx hb d_Disk_markDifferent_46 rfl ?_
        refine lv_goto (tgt := 51) hx hb d_Disk_markDifferent_47 rfl ?_
        exact lb_51 v_different x_2 x_3 s_1 (1 : Int32) H locs ls hP hD hS (lv_sub hl [0, 1, 2, 3] rfl) hf
      intro v_different x_2 x_3 H locs ls hP hD hS hl hf
      rw [q_Disk_markDifferent_4] at hf
      refine lv_iload_n hx hb d_Disk_markDifferent_4 rfl (lv_at hl 3 rfl) ?_
      refine lv_bipush (v := 24) hx hb d_Disk_markDifferent_5 rfl ?_
      refine lv_icmp_gt (tgt := 70) hx hb d_Disk_markDifferent_7 rfl (fun hc => ?_) (fun hc => ?_)
      · have hf := pu_br_pos hf hc
        refine lv_iload_n hx hb d_Disk_markDifferent_70 rfl (lv_at hl 2 rfl) ?_
        exact hret _ _ _ _ x_2 v_different d_Disk_markDifferent_71 hP hD hS hf
      have hf := pu_br_neg hf hc
      refine lv_aload_n hx hb d_Disk_markDifferent_10 rfl (lv_at hl 0 rfl) ?_
      refine gf_Disk_25 (v := .ref q_different) hx hb hts hN hown hK hP 0 rfl rfl d_Disk_markDifferent_11 ?_
      refine lv_iload_n hx hb d_Disk_markDifferent_14 rfl (lv_at hl 3 rfl) ?_
      refine lv_iload_n hx hb d_Disk_markDifferent_15 rfl (lv_at hl 3 rfl) ?_
      refine lv_aload_n hx hb d_Disk_markDifferent_16 rfl (lv_at hl 1 rfl) ?_
      refine gf_Disk_28 (v := .int v_p1_count) hx hb hts hN hown hK hP 4 rfl rfl d_Disk_markDifferent_17 ?_
      refine lv_icmp_gt (tgt := 50) hx hb d_Disk_markDifferent_20 rfl (fun hc => ?_) (fun hc => ?_)
      · have hf := pu_br_pos hf hc
        exact lb_50 v_different x_2 x_3 x_3 H locs ls hP hD hS (lv_sub hl [0, 1, 2, 3] rfl) hf
      have hf := pu_br_neg hf hc
      refine lv_iload_n hx hb d_Disk_markDifferent_23 rfl (lv_at hl 3 rfl) ?_
      refine lv_aload_n hx hb d_Disk_markDifferent_24 rfl (lv_at hl 0 rfl) ?_
      refine gf_Disk_12 (v := .ref q_file) hx hb hts hN hown hK hP 0 rfl rfl d_Disk_markDifferent_25 ?_
      refine gf_Disk_28 (v := .int v_file_count) hx hb hts hN hown hK hP 1 rfl rfl d_Disk_markDifferent_28 ?_
      refine lv_icmp_gt (tgt := 46) hx hb d_Disk_markDifferent_31 rfl (fun hc => ?_) (fun hc => ?_)
      · have hf := pu_br_pos hf hc
        exact lb_46 v_different x_2 x_3 x_3 H locs ls hP hD hS (lv_sub hl [0, 1, 2, 3] rfl) hf
      have hf := pu_br_neg hf hc
      refine lv_aload_n hx hb d_Disk_markDifferent_34 rfl (lv_at hl 1 rfl) ?_
      refine lv_iload_n hx hb d_Disk_markDifferent_35 rfl (lv_at hl 3 rfl) ?_
      refine lv_aload_n hx hb d_Disk_markDifferent_36 rfl (lv_at hl 0 rfl) ?_
      refine gf_Disk_12 (v := .ref q_file) hx hb hts hN hown hK hP 0 rfl rfl d_Disk_markDifferent_37 ?_
      obtain ⟨r4, hc, hf⟩ := pu_b1_some hf
      refine cl_i (WC := [(q_p1, .inr (0, [.ref q_p1_bytes, .int v_p1_count])), (q_p1_bytes, .inl (cB, 1536, .inl v_p1_bytes)), (q_file, .inr (0, [.ref q_file_bytes, .int v_file_count])), (q_file_bytes, .inl (cB, 1536, .inl v_file_bytes))]) (WC2 := [(q_p1, .inr (0, [.ref q_p1_bytes, .int v_p1_count])), (q_p1_bytes, .inl (cB, 1536, .inl v_p1_bytes)), (q_file, .inr (0, [.ref q_file_bytes, .int v_file_count])), (q_file_bytes, .inl (cB, 1536, .inl v_file_bytes))]) (WR := [(q_this, .inr (4, [.ref q_file, .ref q_records, .ref q_recorded, .ref q_different, .int v_headThere, .int v_headPages, .int v_headRecords])), (q_different, .inl (cZ, 25, .inl v_different))]) (WS2 := [(q_this, .inr (4, [.ref q_file, .ref q_records, .ref q_recorded, .ref q_different, .int v_headThere, .int v_headPages, .int v_headRecords])), (q_file, .inr (0, [.ref q_file_bytes, .int v_file_count])), (q_file_bytes, .inl (cB, 1536, .inl v_file_bytes)), (q_different, .inl (cZ, 25, .inl v_different)), (q_p1, .inr (0, [.ref q_p1_bytes, .int v_p1_count])), (q_p1_bytes, .inl (cB, 1536, .inl v_p1_bytes))]) (pu_rv (cl := pu_cl) (pu_in6 _ (List.mem_of_getElem? (i := 0) rfl)) (pu_in6 _ (List.mem_of_getElem? (i := 1) rfl)) (pu_in6 _ (List.mem_of_getElem? (i := 2) rfl)) (pu_in0 _ (List.mem_of_getElem? (i := 3) rfl)) (pu_in6 _ (List.mem_of_getElem? (i := 3) rfl)) (ci := 0) rfl hd_Pages_samePage (by decide) ⟨rfl, rfl⟩ rfl rfl (Nat.le_of_ble_eq_true rfl) rfl (As := [.int x_3, .ref q_file]) (rest := [.int x_3, .ref q_different]) (WC := [(q_p1, .inr (0, [.ref q_p1_bytes, .int v_p1_count])), (q_p1_bytes, .inl (cB, 1536, .inl v_p1_bytes)), (q_file, .inr (0, [.ref q_file_bytes, .int v_file_count])), (q_file_bytes, .inl (cB, 1536, .inl v_file_bytes))]) hx hb hml hown hts hN hK hP hD (c_Pages_samePage l D cI cJ cB cZ H.size q_p1 q_p1_bytes q_file q_file_bytes v_p1_count v_p1_bytes v_file_count v_file_bytes x_3 r4 hc) [4, 5, 1, 2] rfl rfl hl.1 d_Disk_markDifferent_40) hP hD hS hA [4, 5, 1, 2] [0, 3] [0, 4, 5, 1, 2, 3] rfl rfl rfl (by decide) rfl rfl (fun H locs hP hD hS => ?_)
      refine lv_if_ne (tgt := 50) hx hb d_Disk_markDifferent_43 rfl (fun hc => ?_) (fun hc => ?_)
      · have hf := pu_br_neg hf hc
        exact lb_50 v_different x_2 x_3 x_3 H locs ls hP hD hS (lv_sub hl [0, 1, 2, 3] rfl) hf
      have hf := pu_br_pos hf hc
      exact lb_46 v_different x_2 x_3 x_3 H locs ls hP hD hS (lv_sub hl [0, 1, 2, 3] rfl) hf
  obtain ⟨H, hH⟩ : ∃ H, H = s.heap := ⟨_, rfl⟩
  obtain ⟨locs, hlocs⟩ : ∃ locs : List Loc, locs = [] := ⟨_, rfl⟩
  have hP : va_P D pu_cl [(q_this, .inr (4, [.ref q_file, .ref q_records, .ref q_recorded, .ref q_different, .int v_headThere, .int v_headPages, .int v_headRecords])), (q_file, .inr (0, [.ref q_file_bytes, .int v_file_count])), (q_file_bytes, .inl (cB, 1536, .inl v_file_bytes)), (q_different, .inl (cZ, 25, .inl v_different)), (q_p1, .inr (0, [.ref q_p1_bytes, .int v_p1_count])), (q_p1_bytes, .inl (cB, 1536, .inl v_p1_bytes))] H := by rw [hH]; exact hP
  have hS : va_S A s.heap H locs := by rw [hH, hlocs]; exact hS
  have goal : W p l e rm_Disk_markDifferent s m args below meth c H locs 0 0 Q (F0 m 0 ls []) := by
    clear hH hlocs
    refine lv_iconst (v := 0) hx hb d_Disk_markDifferent_0 rfl ?_
    refine lv_istore_n hx hb d_Disk_markDifferent_1 rfl hl (by decide) rfl (fun ls hl => ?_)
    have hl : lv_has ls 4 [(2, .int (0 : Int32)), (0, .ref q_this), (1, .ref q_p1)] := hl
    refine lv_iconst (v := 1) hx hb d_Disk_markDifferent_2 rfl ?_
    refine lv_istore_n hx hb d_Disk_markDifferent_3 rfl hl (by decide) rfl (fun ls hl => ?_)
    have hl : lv_has ls 4 [(3, .int (1 : Int32)), (2, .int (0 : Int32)), (0, .ref q_this), (1, .ref q_p1)] := hl
    exact lp_4 _ v_different (0 : Int32) (1 : Int32) H locs ls hP hD hS (lv_sub hl [2, 3, 1, 0] rfl) hf
  rw [hH, hlocs] at goal
  exact goal
theorem d_Pages_countChange_0 : decode b_Pages_countChange 0 = .ok (.aload_n 0, 1) := by decide +kernel
theorem d_Pages_countChange_1 : decode b_Pages_countChange 1 = .ok (.iconst 1, 1) := by decide +kernel
theorem d_Pages_countChange_2 : decode b_Pages_countChange 2 = .ok (.iconst 4, 1) := by decide +kernel
theorem d_Pages_countChange_3 : decode b_Pages_countChange 3 = .ok (.invokevirtual 39, 3) := by decide +kernel
theorem d_Pages_countChange_6 : decode b_Pages_countChange 6 = .ok (.bipush 8, 2) := by decide +kernel
theorem d_Pages_countChange_8 : decode b_Pages_countChange 8 = .ok (.ishl, 1) := by decide +kernel
theorem d_Pages_countChange_9 : decode b_Pages_countChange 9 = .ok (.aload_n 0, 1) := by decide +kernel
theorem d_Pages_countChange_10 : decode b_Pages_countChange 10 = .ok (.iconst 1, 1) := by decide +kernel
theorem d_Pages_countChange_11 : decode b_Pages_countChange 11 = .ok (.iconst 5, 1) := by decide +kernel
theorem d_Pages_countChange_12 : decode b_Pages_countChange 12 = .ok (.invokevirtual 39, 3) := by decide +kernel
theorem d_Pages_countChange_15 : decode b_Pages_countChange 15 = .ok (.ior, 1) := by decide +kernel
theorem d_Pages_countChange_16 : decode b_Pages_countChange 16 = .ok (.iconst 1, 1) := by decide +kernel
theorem d_Pages_countChange_17 : decode b_Pages_countChange 17 = .ok (.iadd, 1) := by decide +kernel
theorem d_Pages_countChange_18 : decode b_Pages_countChange 18 = .ok (.istore_n 1, 1) := by decide +kernel
theorem d_Pages_countChange_19 : decode b_Pages_countChange 19 = .ok (.aload_n 0, 1) := by decide +kernel
theorem d_Pages_countChange_20 : decode b_Pages_countChange 20 = .ok (.iconst 1, 1) := by decide +kernel
theorem d_Pages_countChange_21 : decode b_Pages_countChange 21 = .ok (.iconst 4, 1) := by decide +kernel
theorem d_Pages_countChange_22 : decode b_Pages_countChange 22 = .ok (.iload_n 1, 1) := by decide +kernel
theorem d_Pages_countChange_23 : decode b_Pages_countChange 23 = .ok (.bipush 8, 2) := by decide +kernel
theorem d_Pages_countChange_25 : decode b_Pages_countChange 25 = .ok (.ishr, 1) := by decide +kernel
theorem d_Pages_countChange_26 : decode b_Pages_countChange 26 = .ok (.invokevirtual 19, 3) := by decide +kernel
theorem d_Pages_countChange_29 : decode b_Pages_countChange 29 = .ok (.aload_n 0, 1) := by decide +kernel
theorem d_Pages_countChange_30 : decode b_Pages_countChange 30 = .ok (.iconst 1, 1) := by decide +kernel
theorem d_Pages_countChange_31 : decode b_Pages_countChange 31 = .ok (.iconst 5, 1) := by decide +kernel
theorem d_Pages_countChange_32 : decode b_Pages_countChange 32 = .ok (.iload_n 1, 1) := by decide +kernel
theorem d_Pages_countChange_33 : decode b_Pages_countChange 33 = .ok (.invokevirtual 19, 3) := by decide +kernel
theorem d_Pages_countChange_36 : decode b_Pages_countChange 36 = .ok (.return_, 1) := by decide +kernel
noncomputable def f_Pages_countChange (v_count : Int32) (v_bytes : Nat → Int32) : Option ((Nat → Int32)) :=
  pu_b1 (f_Pages_get v_count v_bytes (1 : Int32) (4 : Int32)) (fun r1 => pu_b1 (f_Pages_get v_count v_bytes (1 : Int32) (5 : Int32)) (fun r2 => pu_nm (((r1 <<< ((8 : Int32) &&& 31)) ||| r2) + (1 : Int32)) (fun t3 => pu_b1 (f_Pages_put v_count v_bytes (1 : Int32) (4 : Int32) (t3 >>> ((8 : Int32) &&& 31))) (fun w5 => pu_b1 (f_Pages_put v_count w5 (1 : Int32) (5 : Int32) t3) (fun w7 => some w7)))))
abbrev rm_Pages_countChange : Room := { frames := 2, cells := 0, slots := 0, locals := 45 }
set_option maxHeartbeats 8000000 in
set_option maxRecDepth 100000 in
theorem c_Pages_countChange (l : Launch) (D : va_G) (cI cJ cB cZ : ClassId) (sz : Nat) (q_this : Nat) (q_bytes : Nat) (v_count : Int32) (v_bytes : Nat → Int32) (o_bytes : Nat → Int32) (hf : f_Pages_countChange v_count v_bytes = some o_bytes) : Met l y_Pages_countChange (.code y_Pages_countChange b_Pages_countChange 2 none :: pu_wA) rm_Pages_countChange (pu_pc D pu_cl (pu_ty cI cJ cB cZ) [.ref q_this] [(q_this, .inr (0, [.ref q_bytes, .int v_count])), (q_bytes, .inl (cB, 1536, .inl v_bytes))] sz) (pu_qv D pu_cl (pu_ty cI cJ cB cZ) [(q_this, .inr (0, [.ref q_bytes, .int v_count])), (q_bytes, .inl (cB, 1536, .inl v_bytes))] [(q_this, .inr (0, [.ref q_bytes, .int v_count])), (q_bytes, .inl (cB, 1536, .inl o_bytes))] sz) 0 0 (va_A [(q_this, .inr (0, [.ref q_bytes, .int v_count])), (q_bytes, .inl (cB, 1536, .inl v_bytes))] sz) := by
  refine pu_mtv [.ref q_this] [(q_this, .inr (0, [.ref q_bytes, .int v_count])), (q_bytes, .inl (cB, 1536, .inl v_bytes))] [(q_this, .inr (0, [.ref q_bytes, .int v_count])), (q_bytes, .inl (cB, 1536, .inl o_bytes))] (by decide) (Nat.le_of_ble_eq_true rfl) ?_
  intro p e s m args below meth c A Q ls hx hb hml hts hN hown hK hA hP hD hl hret0
  have hS : va_S A s.heap s.heap [] := va_S.rf
  have hl : lv_has ls 2 [(0, .ref q_this)] := hl
  have hret : ∀ (pc : Nat) (ls : Array Slot) (H : Heap) (locs : List Loc) (y_0 : Nat → Int32), decode b_Pages_countChange pc = .ok (.return_, 1) → va_P D pu_cl [(q_this, .inr (0, [.ref q_bytes, .int v_count])), (q_bytes, .inl (cB, 1536, .inl y_0))] H → va_D A [(q_this, .inr (0, [.ref q_bytes, .int v_count])), (q_bytes, .inl (cB, 1536, .inl y_0))] → va_S A s.heap H locs → some y_0 = some o_bytes → W p l e rm_Pages_countChange s m args below meth c H locs 0 0 Q (F0 m pc ls []) := by
    intro pc ls H locs y_0 hd hP hD hS hf
    cases hf
    exact hret0 pc ls H locs hd hP hD hS
  clear hret0
  unfold f_Pages_countChange at hf
  skip
  obtain ⟨H, hH⟩ : ∃ H, H = s.heap := ⟨_, rfl⟩
  obtain ⟨locs, hlocs⟩ : ∃ locs : List Loc, locs = [] := ⟨_, rfl⟩
  have hP : va_P D pu_cl [(q_this, .inr (0, [.ref q_bytes, .int v_count])), (q_bytes, .inl (cB, 1536, .inl v_bytes))] H := by rw [hH]; exact hP
  have hS : va_S A s.heap H locs := by rw [hH, hlocs]; exact hS
  have goal : W p l e rm_Pages_countChange s m args below meth c H locs 0 0 Q (F0 m 0 ls []) := by
    clear hH hlocs
    refine lv_aload_n hx hb d_Pages_countChange_0 rfl (lv_at hl 0 rfl) ?_
    refine lv_iconst (v := 1) hx hb d_Pages_countChange_1 rfl ?_
    refine lv_iconst (v := 4) hx hb d_Pages_countChange_2 rfl ?_
    obtain ⟨r1, hc, hf⟩ := pu_b1_some hf
    refine cl_i (WC := [(q_this, .inr (0, [.ref q_bytes, .int v_count])), (q_bytes, .inl (cB, 1536, .inl v_bytes))]) (WC2 := [(q_this, .inr (0, [.ref q_bytes, .int v_count])), (q_bytes, .inl (cB, 1536, .inl v_bytes))]) (WR := []) (WS2 := [(q_this, .inr (0, [.ref q_bytes, .int v_count])), (q_bytes, .inl (cB, 1536, .inl v_bytes))]) (pu_rv (cl := pu_cl) (pu_in3 _ (List.mem_of_getElem? (i := 37) rfl)) (pu_in3 _ (List.mem_of_getElem? (i := 38) rfl)) (pu_in3 _ (List.mem_of_getElem? (i := 39) rfl)) (pu_in0 _ (List.mem_of_getElem? (i := 3) rfl)) (pu_in3 _ (List.mem_of_getElem? (i := 40) rfl)) (ci := 0) rfl hd_Pages_get (by decide) ⟨rfl, rfl⟩ rfl rfl (Nat.le_of_ble_eq_true rfl) rfl (As := [.int (1 : Int32), .int (4 : Int32)]) (rest := []) (WC := [(q_this, .inr (0, [.ref q_bytes, .int v_count])), (q_bytes, .inl (cB, 1536, .inl v_bytes))]) hx hb hml hown hts hN hK hP hD (c_Pages_get l D cI cJ cB cZ H.size q_this q_bytes v_count v_bytes (1 : Int32) (4 : Int32) r1 hc) [0, 1] rfl rfl hl.1 d_Pages_countChange_3) hP hD hS hA [0, 1] [] [0, 1] rfl rfl rfl (by decide) rfl rfl (fun H locs hP hD hS => ?_)
    refine lv_bipush (v := 8) hx hb d_Pages_countChange_6 rfl ?_
    refine lv_ishl hx hb d_Pages_countChange_8 ?_
    refine lv_aload_n hx hb d_Pages_countChange_9 rfl (lv_at hl 0 rfl) ?_
    refine lv_iconst (v := 1) hx hb d_Pages_countChange_10 rfl ?_
    refine lv_iconst (v := 5) hx hb d_Pages_countChange_11 rfl ?_
    obtain ⟨r2, hc, hf⟩ := pu_b1_some hf
    refine cl_i (WC := [(q_this, .inr (0, [.ref q_bytes, .int v_count])), (q_bytes, .inl (cB, 1536, .inl v_bytes))]) (WC2 := [(q_this, .inr (0, [.ref q_bytes, .int v_count])), (q_bytes, .inl (cB, 1536, .inl v_bytes))]) (WR := []) (WS2 := [(q_this, .inr (0, [.ref q_bytes, .int v_count])), (q_bytes, .inl (cB, 1536, .inl v_bytes))]) (pu_rv (cl := pu_cl) (pu_in3 _ (List.mem_of_getElem? (i := 37) rfl)) (pu_in3 _ (List.mem_of_getElem? (i := 38) rfl)) (pu_in3 _ (List.mem_of_getElem? (i := 39) rfl)) (pu_in0 _ (List.mem_of_getElem? (i := 3) rfl)) (pu_in3 _ (List.mem_of_getElem? (i := 40) rfl)) (ci := 0) rfl hd_Pages_get (by decide) ⟨rfl, rfl⟩ rfl rfl (Nat.le_of_ble_eq_true rfl) rfl (As := [.int (1 : Int32), .int (5 : Int32)]) (rest := [.int (r1 <<< ((8 : Int32) &&& 31))]) (WC := [(q_this, .inr (0, [.ref q_bytes, .int v_count])), (q_bytes, .inl (cB, 1536, .inl v_bytes))]) hx hb hml hown hts hN hK hP hD (c_Pages_get l D cI cJ cB cZ H.size q_this q_bytes v_count v_bytes (1 : Int32) (5 : Int32) r2 hc) [0, 1] rfl rfl hl.1 d_Pages_countChange_12) hP hD hS hA [0, 1] [] [0, 1] rfl rfl rfl (by decide) rfl rfl (fun H locs hP hD hS => ?_)
    refine lv_ior hx hb d_Pages_countChange_15 ?_
    refine lv_iconst (v := 1) hx hb d_Pages_countChange_16 rfl ?_
    refine lv_iadd hx hb d_Pages_countChange_17 ?_
    obtain ⟨t3, e_t3, hf⟩ := pu_nm_some hf
    refine pu_ti e_t3 ?_
    refine lv_istore_n hx hb d_Pages_countChange_18 rfl hl (by decide) rfl (fun ls hl => ?_)
    have hl : lv_has ls 2 [(1, .int t3), (0, .ref q_this)] := hl
    refine lv_aload_n hx hb d_Pages_countChange_19 rfl (lv_at hl 1 rfl) ?_
    refine lv_iconst (v := 1) hx hb d_Pages_countChange_20 rfl ?_
    refine lv_iconst (v := 4) hx hb d_Pages_countChange_21 rfl ?_
    refine lv_iload_n hx hb d_Pages_countChange_22 rfl (lv_at hl 0 rfl) ?_
    refine lv_bipush (v := 8) hx hb d_Pages_countChange_23 rfl ?_
    refine lv_ishr hx hb d_Pages_countChange_25 ?_
    obtain ⟨w5, hc, hf⟩ := pu_b1_some hf
    refine cl_v (WC := [(q_this, .inr (0, [.ref q_bytes, .int v_count])), (q_bytes, .inl (cB, 1536, .inl v_bytes))]) (WC2 := [(q_this, .inr (0, [.ref q_bytes, .int v_count])), (q_bytes, .inl (cB, 1536, .inl w5))]) (WR := []) (WS2 := [(q_this, .inr (0, [.ref q_bytes, .int v_count])), (q_bytes, .inl (cB, 1536, .inl w5))]) (pu_rv (cl := pu_cl) (pu_in2 _ (List.mem_of_getElem? (i := 25) rfl)) (pu_in2 _ (List.mem_of_getElem? (i := 26) rfl)) (pu_in2 _ (List.mem_of_getElem? (i := 27) rfl)) (pu_in0 _ (List.mem_of_getElem? (i := 3) rfl)) (pu_in2 _ (List.mem_of_getElem? (i := 28) rfl)) (ci := 0) rfl hd_Pages_put (by decide) ⟨rfl, rfl⟩ rfl rfl (Nat.le_of_ble_eq_true rfl) rfl (As := [.int (1 : Int32), .int (4 : Int32), .int (t3 >>> ((8 : Int32) &&& 31))]) (rest := []) (WC := [(q_this, .inr (0, [.ref q_bytes, .int v_count])), (q_bytes, .inl (cB, 1536, .inl v_bytes))]) hx hb hml hown hts hN hK hP hD (c_Pages_put l D cI cJ cB cZ H.size q_this q_bytes v_count v_bytes (1 : Int32) (4 : Int32) (t3 >>> ((8 : Int32) &&& 31)) w5 hc) [0, 1] rfl rfl hl.1 d_Pages_countChange_26) hP hD hS hA [0, 1] [] [0, 1] rfl rfl rfl (by decide) rfl rfl (fun H locs hP hD hS => ?_)
    refine lv_aload_n hx hb d_Pages_countChange_29 rfl (lv_at hl 1 rfl) ?_
    refine lv_iconst (v := 1) hx hb d_Pages_countChange_30 rfl ?_
    refine lv_iconst (v := 5) hx hb d_Pages_countChange_31 rfl ?_
    refine lv_iload_n hx hb d_Pages_countChange_32 rfl (lv_at hl 0 rfl) ?_
    obtain ⟨w7, hc, hf⟩ := pu_b1_some hf
    refine cl_v (WC := [(q_this, .inr (0, [.ref q_bytes, .int v_count])), (q_bytes, .inl (cB, 1536, .inl w5))]) (WC2 := [(q_this, .inr (0, [.ref q_bytes, .int v_count])), (q_bytes, .inl (cB, 1536, .inl w7))]) (WR := []) (WS2 := [(q_this, .inr (0, [.ref q_bytes, .int v_count])), (q_bytes, .inl (cB, 1536, .inl w7))]) (pu_rv (cl := pu_cl) (pu_in2 _ (List.mem_of_getElem? (i := 25) rfl)) (pu_in2 _ (List.mem_of_getElem? (i := 26) rfl)) (pu_in2 _ (List.mem_of_getElem? (i := 27) rfl)) (pu_in0 _ (List.mem_of_getElem? (i := 3) rfl)) (pu_in2 _ (List.mem_of_getElem? (i := 28) rfl)) (ci := 0) rfl hd_Pages_put (by decide) ⟨rfl, rfl⟩ rfl rfl (Nat.le_of_ble_eq_true rfl) rfl (As := [.int (1 : Int32), .int (5 : Int32), .int t3]) (rest := []) (WC := [(q_this, .inr (0, [.ref q_bytes, .int v_count])), (q_bytes, .inl (cB, 1536, .inl w5))]) hx hb hml hown hts hN hK hP hD (c_Pages_put l D cI cJ cB cZ H.size q_this q_bytes v_count w5 (1 : Int32) (5 : Int32) t3 w7 hc) [0, 1] rfl rfl hl.1 d_Pages_countChange_33) hP hD hS hA [0, 1] [] [0, 1] rfl rfl rfl (by decide) rfl rfl (fun H locs hP hD hS => ?_)
    exact hret _ _ _ _ w7 d_Pages_countChange_36 hP hD hS hf
  rw [hH, hlocs] at goal
  exact goal
