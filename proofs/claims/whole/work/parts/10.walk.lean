theorem d_RF_codeOf_0 : decode b_RF_codeOf 0 = .ok (.lload_n 0, 1) := by decide +kernel
theorem d_RF_codeOf_1 : decode b_RF_codeOf 1 = .ok (.lconst 0, 1) := by decide +kernel
theorem d_RF_codeOf_2 : decode b_RF_codeOf 2 = .ok (.lcmp, 1) := by decide +kernel
theorem d_RF_codeOf_3 : decode b_RF_codeOf 3 = .ok (.ifCond .eq 9, 3) := by decide +kernel
theorem d_RF_codeOf_6 : decode b_RF_codeOf 6 = .ok (.lload_n 0, 1) := by decide +kernel
theorem d_RF_codeOf_7 : decode b_RF_codeOf 7 = .ok (.lconst 1, 1) := by decide +kernel
theorem d_RF_codeOf_8 : decode b_RF_codeOf 8 = .ok (.lcmp, 1) := by decide +kernel
theorem d_RF_codeOf_9 : decode b_RF_codeOf 9 = .ok (.ifCond .ne 9, 3) := by decide +kernel
theorem d_RF_codeOf_12 : decode b_RF_codeOf 12 = .ok (.bipush 8, 2) := by decide +kernel
theorem d_RF_codeOf_14 : decode b_RF_codeOf 14 = .ok (.lload_n 0, 1) := by decide +kernel
theorem d_RF_codeOf_15 : decode b_RF_codeOf 15 = .ok (.l2i, 1) := by decide +kernel
theorem d_RF_codeOf_16 : decode b_RF_codeOf 16 = .ok (.iadd, 1) := by decide +kernel
theorem d_RF_codeOf_17 : decode b_RF_codeOf 17 = .ok (.ireturn, 1) := by decide +kernel
theorem d_RF_codeOf_18 : decode b_RF_codeOf 18 = .ok (.lload_n 0, 1) := by decide +kernel
theorem d_RF_codeOf_19 : decode b_RF_codeOf 19 = .ok (.lload_n 0, 1) := by decide +kernel
theorem d_RF_codeOf_20 : decode b_RF_codeOf 20 = .ok (.l2i, 1) := by decide +kernel
theorem d_RF_codeOf_21 : decode b_RF_codeOf 21 = .ok (.i2b, 1) := by decide +kernel
theorem d_RF_codeOf_22 : decode b_RF_codeOf 22 = .ok (.i2l, 1) := by decide +kernel
theorem d_RF_codeOf_23 : decode b_RF_codeOf 23 = .ok (.lcmp, 1) := by decide +kernel
theorem d_RF_codeOf_24 : decode b_RF_codeOf 24 = .ok (.ifCond .ne 5, 3) := by decide +kernel
theorem d_RF_codeOf_27 : decode b_RF_codeOf 27 = .ok (.iconst 1, 1) := by decide +kernel
theorem d_RF_codeOf_28 : decode b_RF_codeOf 28 = .ok (.ireturn, 1) := by decide +kernel
theorem d_RF_codeOf_29 : decode b_RF_codeOf 29 = .ok (.lload_n 0, 1) := by decide +kernel
theorem d_RF_codeOf_30 : decode b_RF_codeOf 30 = .ok (.lload_n 0, 1) := by decide +kernel
theorem d_RF_codeOf_31 : decode b_RF_codeOf 31 = .ok (.l2i, 1) := by decide +kernel
theorem d_RF_codeOf_32 : decode b_RF_codeOf 32 = .ok (.i2s, 1) := by decide +kernel
theorem d_RF_codeOf_33 : decode b_RF_codeOf 33 = .ok (.i2l, 1) := by decide +kernel
theorem d_RF_codeOf_34 : decode b_RF_codeOf 34 = .ok (.lcmp, 1) := by decide +kernel
theorem d_RF_codeOf_35 : decode b_RF_codeOf 35 = .ok (.ifCond .ne 5, 3) := by decide +kernel
theorem d_RF_codeOf_38 : decode b_RF_codeOf 38 = .ok (.iconst 2, 1) := by decide +kernel
theorem d_RF_codeOf_39 : decode b_RF_codeOf 39 = .ok (.ireturn, 1) := by decide +kernel
theorem d_RF_codeOf_40 : decode b_RF_codeOf 40 = .ok (.lload_n 0, 1) := by decide +kernel
theorem d_RF_codeOf_41 : decode b_RF_codeOf 41 = .ok (.lload_n 0, 1) := by decide +kernel
theorem d_RF_codeOf_42 : decode b_RF_codeOf 42 = .ok (.l2i, 1) := by decide +kernel
theorem d_RF_codeOf_43 : decode b_RF_codeOf 43 = .ok (.i2l, 1) := by decide +kernel
theorem d_RF_codeOf_44 : decode b_RF_codeOf 44 = .ok (.lcmp, 1) := by decide +kernel
theorem d_RF_codeOf_45 : decode b_RF_codeOf 45 = .ok (.ifCond .ne 7, 3) := by decide +kernel
theorem d_RF_codeOf_48 : decode b_RF_codeOf 48 = .ok (.iconst 4, 1) := by decide +kernel
theorem d_RF_codeOf_49 : decode b_RF_codeOf 49 = .ok (.goto 5, 3) := by decide +kernel
theorem d_RF_codeOf_52 : decode b_RF_codeOf 52 = .ok (.bipush 6, 2) := by decide +kernel
theorem d_RF_codeOf_54 : decode b_RF_codeOf 54 = .ok (.ireturn, 1) := by decide +kernel
noncomputable def q_RF_codeOf_12 (x_0 : Int64) : Option (Int32) :=
  some ((8 : Int32) + x_0.toInt32)
noncomputable def f_RF_codeOf (x_0 : Int64) : Option (Int32) :=
  pu_br ((lg_cmp x_0 (0 : Int64)) = 0) (q_RF_codeOf_12 x_0) (pu_br ((lg_cmp x_0 (1 : Int64)) = 0) (q_RF_codeOf_12 x_0) (pu_br ((lg_cmp x_0 x_0.toInt32.toInt8.toInt32.toInt64) = 0) (some (1 : Int32)) (pu_br ((lg_cmp x_0 x_0.toInt32.toInt16.toInt32.toInt64) = 0) (some (2 : Int32)) (pu_br ((lg_cmp x_0 x_0.toInt32.toInt64) = 0) (some (4 : Int32)) (some (6 : Int32))))))
abbrev rm_RF_codeOf : Room := { frames := 0, cells := 0, slots := 0, locals := 0 }
set_option maxHeartbeats 8000000 in
set_option maxRecDepth 100000 in
theorem c_RF_codeOf (l : Launch) (D : va_G) (cI cJ cB cZ : ClassId) (sz : Nat) (x_0 : Int64) (o_r : Int32) (hf : f_RF_codeOf x_0 = some o_r) : Met l y_RF_codeOf (.code y_RF_codeOf b_RF_codeOf 2 (some .int) :: pu_wA) rm_RF_codeOf (pu_pc D pu_cl (pu_ty cI cJ cB cZ) [.long x_0] [] sz) (pu_qi D pu_cl (pu_ty cI cJ cB cZ) [] [] sz o_r) 0 0 (va_A [] sz) := by
  refine pu_mti [.long x_0] [] [] o_r (by decide) (Nat.le_of_ble_eq_true rfl) ?_
  intro p e s m args below meth c A Q ls hx hb hml hts hN hown hK hA hP hD hl hret0
  have hS : va_S A s.heap s.heap [] := va_S.rf
  have hl : lv_has ls 2 [(0, .long x_0)] := hl
  have hret : ∀ (pc : Nat) (ls : Array Slot) (H : Heap) (locs : List Loc) (y_0 : Int32), decode b_RF_codeOf pc = .ok (.ireturn, 1) → va_P D pu_cl [] H → va_D A [] → va_S A s.heap H locs → some y_0 = some o_r → W p l e rm_RF_codeOf s m args below meth c H locs 0 0 Q (F0 m pc ls [.int y_0]) := by
    intro pc ls H locs y_0 hd hP hD hS hf
    cases hf
    exact hret0 pc ls H locs hd hP hD hS
  clear hret0
  unfold f_RF_codeOf at hf
  skip
  have lb_12 : ∀ (x_0 : Int64) (H : Heap) (locs : List Loc) (ls : Array Slot), va_P D pu_cl [] H → va_D A [] → va_S A s.heap H locs → lv_has ls 2 [(0, .long x_0)] → q_RF_codeOf_12 x_0 = some o_r → W p l e rm_RF_codeOf s m args below meth c H locs 0 0 Q (F0 m 12 ls []) := by
    intro x_0 H locs ls hP hD hS hl hf
    rw [q_RF_codeOf_12] at hf
    refine lv_bipush (v := 8) hx hb d_RF_codeOf_12 rfl ?_
    refine lv_lload_n hx hb d_RF_codeOf_14 rfl (lv_at hl 0 rfl) ?_
    refine lv_l2i hx hb d_RF_codeOf_15 rfl ?_
    refine lv_iadd hx hb d_RF_codeOf_16 ?_
    exact hret _ _ _ _ ((8 : Int32) + x_0.toInt32)  d_RF_codeOf_17 hP hD hS hf
  obtain ⟨H, hH⟩ : ∃ H, H = s.heap := ⟨_, rfl⟩
  obtain ⟨locs, hlocs⟩ : ∃ locs : List Loc, locs = [] := ⟨_, rfl⟩
  have hP : va_P D pu_cl [] H := by rw [hH]; exact hP
  have hS : va_S A s.heap H locs := by rw [hH, hlocs]; exact hS
  have goal : W p l e rm_RF_codeOf s m args below meth c H locs 0 0 Q (F0 m 0 ls []) := by
    clear hH hlocs
    refine lv_lload_n hx hb d_RF_codeOf_0 rfl (lv_at hl 0 rfl) ?_
    refine lv_lconst (v := 0) hx hb d_RF_codeOf_1 rfl ?_
    refine W.lcmp hx hb d_RF_codeOf_2 ?_
    refine lv_if_eq (tgt := 12) hx hb d_RF_codeOf_3 rfl (fun hc => ?_) (fun hc => ?_)
    · have hf := pu_br_pos hf hc
      exact lb_12 x_0 H locs ls hP hD hS (lv_sub hl [0] rfl) hf
    have hf := pu_br_neg hf hc
    refine lv_lload_n hx hb d_RF_codeOf_6 rfl (lv_at hl 0 rfl) ?_
    refine lv_lconst (v := 1) hx hb d_RF_codeOf_7 rfl ?_
    refine W.lcmp hx hb d_RF_codeOf_8 ?_
    refine lv_if_ne (tgt := 18) hx hb d_RF_codeOf_9 rfl (fun hc => ?_) (fun hc => ?_)
    · have hf := pu_br_neg hf hc
      refine lv_lload_n hx hb d_RF_codeOf_18 rfl (lv_at hl 0 rfl) ?_
      refine lv_lload_n hx hb d_RF_codeOf_19 rfl (lv_at hl 0 rfl) ?_
      refine lv_l2i hx hb d_RF_codeOf_20 rfl ?_
      refine lv_i2b hx hb d_RF_codeOf_21 rfl ?_
      refine lv_i2l hx hb d_RF_codeOf_22 rfl ?_
      refine W.lcmp hx hb d_RF_codeOf_23 ?_
      refine lv_if_ne (tgt := 29) hx hb d_RF_codeOf_24 rfl (fun hc => ?_) (fun hc => ?_)
      · have hf := pu_br_neg hf hc
        refine lv_lload_n hx hb d_RF_codeOf_29 rfl (lv_at hl 0 rfl) ?_
        refine lv_lload_n hx hb d_RF_codeOf_30 rfl (lv_at hl 0 rfl) ?_
        refine lv_l2i hx hb d_RF_codeOf_31 rfl ?_
        refine lv_i2s hx hb d_RF_codeOf_32 rfl ?_
        refine lv_i2l hx hb d_RF_codeOf_33 rfl ?_
        refine W.lcmp hx hb d_RF_codeOf_34 ?_
        refine lv_if_ne (tgt := 40) hx hb d_RF_codeOf_35 rfl (fun hc => ?_) (fun hc => ?_)
        · have hf := pu_br_neg hf hc
          refine lv_lload_n hx hb d_RF_codeOf_40 rfl (lv_at hl 0 rfl) ?_
          refine lv_lload_n hx hb d_RF_codeOf_41 rfl (lv_at hl 0 rfl) ?_
          refine lv_l2i hx hb d_RF_codeOf_42 rfl ?_
          refine lv_i2l hx hb d_RF_codeOf_43 rfl ?_
          refine W.lcmp hx hb d_RF_codeOf_44 ?_
          refine lv_if_ne (tgt := 52) hx hb d_RF_codeOf_45 rfl (fun hc => ?_) (fun hc => ?_)
          · have hf := pu_br_neg hf hc
            refine lv_bipush (v := 6) hx hb d_RF_codeOf_52 rfl ?_
            exact hret _ _ _ _ (6 : Int32)  d_RF_codeOf_54 hP hD hS hf
          have hf := pu_br_pos hf hc
          refine lv_iconst (v := 4) hx hb d_RF_codeOf_48 rfl ?_
          refine lv_goto (tgt := 54) hx hb d_RF_codeOf_49 rfl ?_
          exact hret _ _ _ _ (4 : Int32)  d_RF_codeOf_54 hP hD hS hf
        have hf := pu_br_pos hf hc
        refine lv_iconst (v := 2) hx hb d_RF_codeOf_38 rfl ?_
        exact hret _ _ _ _ (2 : Int32)  d_RF_codeOf_39 hP hD hS hf
      have hf := pu_br_pos hf hc
      refine lv_iconst (v := 1) hx hb d_RF_codeOf_27 rfl ?_
      exact hret _ _ _ _ (1 : Int32)  d_RF_codeOf_28 hP hD hS hf
    have hf := pu_br_pos hf hc
    exact lb_12 x_0 H locs ls hP hD hS (lv_sub hl [0] rfl) hf
  rw [hH, hlocs] at goal
  exact goal
theorem d_Draft_addNumber_0 : decode b_Draft_addNumber 0 = .ok (.aload_n 0, 1) := by decide +kernel
theorem d_Draft_addNumber_1 : decode b_Draft_addNumber 1 = .ok (.getfield 23, 3) := by decide +kernel
theorem d_Draft_addNumber_4 : decode b_Draft_addNumber 4 = .ok (.iconst 3, 1) := by decide +kernel
theorem d_Draft_addNumber_5 : decode b_Draft_addNumber 5 = .ok (.if_icmp .lt 5, 3) := by decide +kernel
theorem d_Draft_addNumber_8 : decode b_Draft_addNumber 8 = .ok (.iconst 0, 1) := by decide +kernel
theorem d_Draft_addNumber_9 : decode b_Draft_addNumber 9 = .ok (.ireturn, 1) := by decide +kernel
theorem d_Draft_addNumber_10 : decode b_Draft_addNumber 10 = .ok (.aload_n 0, 1) := by decide +kernel
theorem d_Draft_addNumber_11 : decode b_Draft_addNumber 11 = .ok (.getfield 9, 3) := by decide +kernel
theorem d_Draft_addNumber_14 : decode b_Draft_addNumber 14 = .ok (.aload_n 0, 1) := by decide +kernel
theorem d_Draft_addNumber_15 : decode b_Draft_addNumber 15 = .ok (.getfield 23, 3) := by decide +kernel
theorem d_Draft_addNumber_18 : decode b_Draft_addNumber 18 = .ok (.lload_n 1, 1) := by decide +kernel
theorem d_Draft_addNumber_19 : decode b_Draft_addNumber 19 = .ok (.invokestatic 27, 3) := by decide +kernel
theorem d_Draft_addNumber_22 : decode b_Draft_addNumber 22 = .ok (.iastore, 1) := by decide +kernel
theorem d_Draft_addNumber_23 : decode b_Draft_addNumber 23 = .ok (.aload_n 0, 1) := by decide +kernel
theorem d_Draft_addNumber_24 : decode b_Draft_addNumber 24 = .ok (.getfield 15, 3) := by decide +kernel
theorem d_Draft_addNumber_27 : decode b_Draft_addNumber 27 = .ok (.aload_n 0, 1) := by decide +kernel
theorem d_Draft_addNumber_28 : decode b_Draft_addNumber 28 = .ok (.getfield 23, 3) := by decide +kernel
theorem d_Draft_addNumber_31 : decode b_Draft_addNumber 31 = .ok (.lload_n 1, 1) := by decide +kernel
theorem d_Draft_addNumber_32 : decode b_Draft_addNumber 32 = .ok (.lastore, 1) := by decide +kernel
theorem d_Draft_addNumber_33 : decode b_Draft_addNumber 33 = .ok (.aload_n 0, 1) := by decide +kernel
theorem d_Draft_addNumber_34 : decode b_Draft_addNumber 34 = .ok (.dup, 1) := by decide +kernel
theorem d_Draft_addNumber_35 : decode b_Draft_addNumber 35 = .ok (.getfield 23, 3) := by decide +kernel
theorem d_Draft_addNumber_38 : decode b_Draft_addNumber 38 = .ok (.iconst 1, 1) := by decide +kernel
theorem d_Draft_addNumber_39 : decode b_Draft_addNumber 39 = .ok (.iadd, 1) := by decide +kernel
theorem d_Draft_addNumber_40 : decode b_Draft_addNumber 40 = .ok (.putfield 23, 3) := by decide +kernel
theorem d_Draft_addNumber_43 : decode b_Draft_addNumber 43 = .ok (.iconst 1, 1) := by decide +kernel
theorem d_Draft_addNumber_44 : decode b_Draft_addNumber 44 = .ok (.ireturn, 1) := by decide +kernel
noncomputable def f_Draft_addNumber (v_count : Int32) (v_codes : Nat → Int32) (v_numbers : Nat → Int64) (x_1 : Int64) : Option (Int32 × Int32 × (Nat → Int32) × (Nat → Int64)) :=
  pu_br (v_count < (3 : Int32)) (pu_b1 (f_RF_codeOf x_1) (fun r1 => pu_ck (vp_in v_count 3) (pu_nm (upd v_codes v_count.toNatClampNeg r1) (fun a2 => pu_ck (vp_in v_count 3) (pu_nm (vp_updL v_numbers v_count.toNatClampNeg x_1) (fun a3 => pu_nm (v_count + (1 : Int32)) (fun t4 => some ((1 : Int32), t4, a2, a3)))))))) (some ((0 : Int32), v_count, v_codes, v_numbers))
abbrev rm_Draft_addNumber : Room := { frames := 1, cells := 0, slots := 0, locals := 21 }
set_option maxHeartbeats 8000000 in
set_option maxRecDepth 100000 in
theorem c_Draft_addNumber (l : Launch) (D : va_G) (cI cJ cB cZ : ClassId) (sz : Nat) (q_this : Nat) (q_codes : Nat) (q_numbers : Nat) (q_blobs : Nat) (v_count : Int32) (v_codes : Nat → Int32) (v_numbers : Nat → Int64) (x_1 : Int64) (o_r : Int32) (o_count : Int32) (o_codes : Nat → Int32) (o_numbers : Nat → Int64) (hf : f_Draft_addNumber v_count v_codes v_numbers x_1 = some (o_r, o_count, o_codes, o_numbers)) : Met l y_Draft_addNumber (.code y_Draft_addNumber b_Draft_addNumber 3 (some .boolean) :: pu_wA) rm_Draft_addNumber (pu_pc D pu_cl (pu_ty cI cJ cB cZ) [.ref q_this, .long x_1] [(q_this, .inr (1, [.ref q_codes, .ref q_numbers, .ref q_blobs, .int v_count])), (q_codes, .inl (cI, 3, .inl v_codes)), (q_numbers, .inl (cJ, 3, .inr (.inl v_numbers)))] sz) (pu_qi D pu_cl (pu_ty cI cJ cB cZ) [(q_this, .inr (1, [.ref q_codes, .ref q_numbers, .ref q_blobs, .int v_count])), (q_codes, .inl (cI, 3, .inl v_codes)), (q_numbers, .inl (cJ, 3, .inr (.inl v_numbers)))] [(q_this, .inr (1, [.ref q_codes, .ref q_numbers, .ref q_blobs, .int o_count])), (q_codes, .inl (cI, 3, .inl o_codes)), (q_numbers, .inl (cJ, 3, .inr (.inl o_numbers)))] sz o_r) 0 0 (va_A [(q_this, .inr (1, [.ref q_codes, .ref q_numbers, .ref q_blobs, .int v_count])), (q_codes, .inl (cI, 3, .inl v_codes)), (q_numbers, .inl (cJ, 3, .inr (.inl v_numbers)))] sz) := by
  refine pu_mtz [.ref q_this, .long x_1] [(q_this, .inr (1, [.ref q_codes, .ref q_numbers, .ref q_blobs, .int v_count])), (q_codes, .inl (cI, 3, .inl v_codes)), (q_numbers, .inl (cJ, 3, .inr (.inl v_numbers)))] [(q_this, .inr (1, [.ref q_codes, .ref q_numbers, .ref q_blobs, .int o_count])), (q_codes, .inl (cI, 3, .inl o_codes)), (q_numbers, .inl (cJ, 3, .inr (.inl o_numbers)))] o_r (by decide) (Nat.le_of_ble_eq_true rfl) ?_
  intro p e s m args below meth c A Q ls hx hb hml hts hN hown hK hA hP hD hl hret0
  have hS : va_S A s.heap s.heap [] := va_S.rf
  have hl : lv_has ls 3 [(0, .ref q_this), (1, .long x_1)] := hl
  have hret : ∀ (pc : Nat) (ls : Array Slot) (H : Heap) (locs : List Loc) (y_0 : Int32) (y_1 : Int32) (y_2 : Nat → Int32) (y_3 : Nat → Int64), decode b_Draft_addNumber pc = .ok (.ireturn, 1) → narrow .boolean (.int y_0) = .int y_0 → va_P D pu_cl [(q_this, .inr (1, [.ref q_codes, .ref q_numbers, .ref q_blobs, .int y_1])), (q_codes, .inl (cI, 3, .inl y_2)), (q_numbers, .inl (cJ, 3, .inr (.inl y_3)))] H → va_D A [(q_this, .inr (1, [.ref q_codes, .ref q_numbers, .ref q_blobs, .int y_1])), (q_codes, .inl (cI, 3, .inl y_2)), (q_numbers, .inl (cJ, 3, .inr (.inl y_3)))] → va_S A s.heap H locs → some (y_0, y_1, y_2, y_3) = some (o_r, o_count, o_codes, o_numbers) → W p l e rm_Draft_addNumber s m args below meth c H locs 0 0 Q (F0 m pc ls [.int y_0]) := by
    intro pc ls H locs y_0 y_1 y_2 y_3 hd hz hP hD hS hf
    cases hf
    exact hret0 pc ls H locs hd hz hP hD hS
  clear hret0
  unfold f_Draft_addNumber at hf
  skip
  obtain ⟨H, hH⟩ : ∃ H, H = s.heap := ⟨_, rfl⟩
  obtain ⟨locs, hlocs⟩ : ∃ locs : List Loc, locs = [] := ⟨_, rfl⟩
  have hP : va_P D pu_cl [(q_this, .inr (1, [.ref q_codes, .ref q_numbers, .ref q_blobs, .int v_count])), (q_codes, .inl (cI, 3, .inl v_codes)), (q_numbers, .inl (cJ, 3, .inr (.inl v_numbers)))] H := by rw [hH]; exact hP
  have hS : va_S A s.heap H locs := by rw [hH, hlocs]; exact hS
  have goal : W p l e rm_Draft_addNumber s m args below meth c H locs 0 0 Q (F0 m 0 ls []) := by
    clear hH hlocs
    refine lv_aload_n hx hb d_Draft_addNumber_0 rfl (lv_at hl 0 rfl) ?_
    refine gf_Draft_23 (v := .int v_count) hx hb hts hN hown hK hP 0 rfl rfl d_Draft_addNumber_1 ?_
    refine lv_iconst (v := 3) hx hb d_Draft_addNumber_4 rfl ?_
    refine lv_icmp_lt (tgt := 10) hx hb d_Draft_addNumber_5 rfl (fun hc => ?_) (fun hc => ?_)
    · have hf := pu_br_pos hf hc
      refine lv_aload_n hx hb d_Draft_addNumber_10 rfl (lv_at hl 0 rfl) ?_
      refine gf_Draft_9 (v := .ref q_codes) hx hb hts hN hown hK hP 0 rfl rfl d_Draft_addNumber_11 ?_
      refine lv_aload_n hx hb d_Draft_addNumber_14 rfl (lv_at hl 0 rfl) ?_
      refine gf_Draft_23 (v := .int v_count) hx hb hts hN hown hK hP 0 rfl rfl d_Draft_addNumber_15 ?_
      refine lv_lload_n hx hb d_Draft_addNumber_18 rfl (lv_at hl 1 rfl) ?_
      obtain ⟨r1, hc, hf⟩ := pu_b1_some hf
      refine cl_i (WC := []) (WC2 := []) (WR := [(q_this, .inr (1, [.ref q_codes, .ref q_numbers, .ref q_blobs, .int v_count])), (q_codes, .inl (cI, 3, .inl v_codes)), (q_numbers, .inl (cJ, 3, .inr (.inl v_numbers)))]) (WS2 := [(q_this, .inr (1, [.ref q_codes, .ref q_numbers, .ref q_blobs, .int v_count])), (q_codes, .inl (cI, 3, .inl v_codes)), (q_numbers, .inl (cJ, 3, .inr (.inl v_numbers)))]) (pu_rsn (List.mem_of_getElem? (i := 29) rfl) (pu_in3 _ (List.mem_of_getElem? (i := 4) rfl)) (pu_in0 _ (List.mem_of_getElem? (i := 1) rfl)) (pu_in3 _ (List.mem_of_getElem? (i := 5) rfl)) hd_RF_codeOf (by decide) ⟨rfl, rfl⟩ rfl rfl (Nat.le_of_ble_eq_true rfl) (As := [.long x_1]) (rest := [.int v_count, .ref q_codes]) (WC := []) hx hb hml hown hts hN hK hP hD (c_RF_codeOf l D cI cJ cB cZ H.size x_1 r1 hc) [] rfl rfl hl.1 d_Draft_addNumber_19) hP hD hS hA [] [0, 1, 2] [0, 1, 2] rfl rfl rfl (by decide) rfl rfl (fun H locs hP hD hS => ?_)
      obtain ⟨hin, hf⟩ := pu_ck_some hf
      obtain ⟨a2, e_a2, hf⟩ := pu_nm_some hf
      refine va_iast hx hb hK hP hD hS 1 0 rfl rfl hin d_Draft_addNumber_22 (fun H locs hP hD hS => ?_)
      have hP : va_P D pu_cl [(q_this, .inr (1, [.ref q_codes, .ref q_numbers, .ref q_blobs, .int v_count])), (q_codes, .inl (cI, 3, .inl a2)), (q_numbers, .inl (cJ, 3, .inr (.inl v_numbers)))] H := by rw [e_a2]; exact hP
      have hD : va_D A [(q_this, .inr (1, [.ref q_codes, .ref q_numbers, .ref q_blobs, .int v_count])), (q_codes, .inl (cI, 3, .inl a2)), (q_numbers, .inl (cJ, 3, .inr (.inl v_numbers)))] := by rw [e_a2]; exact hD
      refine lv_aload_n hx hb d_Draft_addNumber_23 rfl (lv_at hl 0 rfl) ?_
      refine gf_Draft_15 (v := .ref q_numbers) hx hb hts hN hown hK hP 0 rfl rfl d_Draft_addNumber_24 ?_
      refine lv_aload_n hx hb d_Draft_addNumber_27 rfl (lv_at hl 0 rfl) ?_
      refine gf_Draft_23 (v := .int v_count) hx hb hts hN hown hK hP 0 rfl rfl d_Draft_addNumber_28 ?_
      refine lv_lload_n hx hb d_Draft_addNumber_31 rfl (lv_at hl 1 rfl) ?_
      obtain ⟨hin, hf⟩ := pu_ck_some hf
      obtain ⟨a3, e_a3, hf⟩ := pu_nm_some hf
      refine va_last hx hb hK hP hD hS 2 1 rfl rfl hin d_Draft_addNumber_32 (fun H locs hP hD hS => ?_)
      have hP : va_P D pu_cl [(q_this, .inr (1, [.ref q_codes, .ref q_numbers, .ref q_blobs, .int v_count])), (q_codes, .inl (cI, 3, .inl a2)), (q_numbers, .inl (cJ, 3, .inr (.inl a3)))] H := by rw [e_a3]; exact hP
      have hD : va_D A [(q_this, .inr (1, [.ref q_codes, .ref q_numbers, .ref q_blobs, .int v_count])), (q_codes, .inl (cI, 3, .inl a2)), (q_numbers, .inl (cJ, 3, .inr (.inl a3)))] := by rw [e_a3]; exact hD
      refine lv_aload_n hx hb d_Draft_addNumber_33 rfl (lv_at hl 0 rfl) ?_
      refine lv_dup hx hb d_Draft_addNumber_34 rfl ?_
      refine gf_Draft_23 (v := .int v_count) hx hb hts hN hown hK hP 0 rfl rfl d_Draft_addNumber_35 ?_
      refine lv_iconst (v := 1) hx hb d_Draft_addNumber_38 rfl ?_
      refine lv_iadd hx hb d_Draft_addNumber_39 ?_
      obtain ⟨t4, e_t4, hf⟩ := pu_nm_some hf
      refine pu_ti e_t4 ?_
      refine pf_Draft_23 (v := .int t4) hx hb hts hN hown hK hP hD hS 0 rfl rfl rfl (Nat.le_of_ble_eq_true rfl) d_Draft_addNumber_40 (fun H locs hP hD hS => ?_)
      have hP : va_P D pu_cl [(q_this, .inr (1, [.ref q_codes, .ref q_numbers, .ref q_blobs, .int t4])), (q_codes, .inl (cI, 3, .inl a2)), (q_numbers, .inl (cJ, 3, .inr (.inl a3)))] H := hP
      have hD : va_D A [(q_this, .inr (1, [.ref q_codes, .ref q_numbers, .ref q_blobs, .int t4])), (q_codes, .inl (cI, 3, .inl a2)), (q_numbers, .inl (cJ, 3, .inr (.inl a3)))] := hD
      refine lv_iconst (v := 1) hx hb d_Draft_addNumber_43 rfl ?_
      exact hret _ _ _ _ (1 : Int32) t4 a2 a3 d_Draft_addNumber_44 (by decide) hP hD hS hf
    have hf := pu_br_neg hf hc
    refine lv_iconst (v := 0) hx hb d_Draft_addNumber_8 rfl ?_
    exact hret _ _ _ _ (0 : Int32) v_count v_codes v_numbers d_Draft_addNumber_9 (by decide) hP hD hS hf
  rw [hH, hlocs] at goal
  exact goal
theorem d_RF_number_0 : decode b_RF_number 0 = .ok (.aload_n 0, 1) := by decide +kernel
theorem d_RF_number_1 : decode b_RF_number 1 = .ok (.getfield 12, 3) := by decide +kernel
theorem d_RF_number_4 : decode b_RF_number 4 = .ok (.lload_n 1, 1) := by decide +kernel
theorem d_RF_number_5 : decode b_RF_number 5 = .ok (.invokevirtual 81, 3) := by decide +kernel
theorem d_RF_number_8 : decode b_RF_number 8 = .ok (.ireturn, 1) := by decide +kernel
noncomputable def f_RF_number (v_draft_count : Int32) (v_draft_codes : Nat → Int32) (v_draft_numbers : Nat → Int64) (x_1 : Int64) : Option (Int32 × Int32 × (Nat → Int32) × (Nat → Int64)) :=
  pu_b4 (f_Draft_addNumber v_draft_count v_draft_codes v_draft_numbers x_1) (fun r1 w2 w3 w4 => pu_ck (pu_bz r1) (some (r1, w2, w3, w4)))
abbrev rm_RF_number : Room := { frames := 2, cells := 0, slots := 0, locals := 43 }
set_option maxHeartbeats 8000000 in
set_option maxRecDepth 100000 in
theorem c_RF_number (l : Launch) (D : va_G) (cI cJ cB cZ : ClassId) (sz : Nat) (q_this : Nat) (q_draft : Nat) (q_now : Nat) (q_before : Nat) (q_disk : Nat) (q_row : Nat) (q_node : Nat) (q_tree : Nat) (q_check : Nat) (q_draft_codes : Nat) (q_draft_numbers : Nat) (q_draft_blobs : Nat) (v_up : Int32) (v_armed : Int32) (v_draft_count : Int32) (v_draft_codes : Nat → Int32) (v_draft_numbers : Nat → Int64) (x_1 : Int64) (o_r : Int32) (o_draft_count : Int32) (o_draft_codes : Nat → Int32) (o_draft_numbers : Nat → Int64) (hf : f_RF_number v_draft_count v_draft_codes v_draft_numbers x_1 = some (o_r, o_draft_count, o_draft_codes, o_draft_numbers)) : Met l y_RF_number (.code y_RF_number b_RF_number 3 (some .boolean) :: pu_wA) rm_RF_number (pu_pc D pu_cl (pu_ty cI cJ cB cZ) [.ref q_this, .long x_1] [(q_this, .inr (7, [.ref q_draft, .ref q_now, .ref q_before, .ref q_disk, .ref q_row, .ref q_node, .ref q_tree, .ref q_check, .int v_up, .int v_armed])), (q_draft, .inr (1, [.ref q_draft_codes, .ref q_draft_numbers, .ref q_draft_blobs, .int v_draft_count])), (q_draft_codes, .inl (cI, 3, .inl v_draft_codes)), (q_draft_numbers, .inl (cJ, 3, .inr (.inl v_draft_numbers)))] sz) (pu_qi D pu_cl (pu_ty cI cJ cB cZ) [(q_this, .inr (7, [.ref q_draft, .ref q_now, .ref q_before, .ref q_disk, .ref q_row, .ref q_node, .ref q_tree, .ref q_check, .int v_up, .int v_armed])), (q_draft, .inr (1, [.ref q_draft_codes, .ref q_draft_numbers, .ref q_draft_blobs, .int v_draft_count])), (q_draft_codes, .inl (cI, 3, .inl v_draft_codes)), (q_draft_numbers, .inl (cJ, 3, .inr (.inl v_draft_numbers)))] [(q_this, .inr (7, [.ref q_draft, .ref q_now, .ref q_before, .ref q_disk, .ref q_row, .ref q_node, .ref q_tree, .ref q_check, .int v_up, .int v_armed])), (q_draft, .inr (1, [.ref q_draft_codes, .ref q_draft_numbers, .ref q_draft_blobs, .int o_draft_count])), (q_draft_codes, .inl (cI, 3, .inl o_draft_codes)), (q_draft_numbers, .inl (cJ, 3, .inr (.inl o_draft_numbers)))] sz o_r) 0 0 (va_A [(q_this, .inr (7, [.ref q_draft, .ref q_now, .ref q_before, .ref q_disk, .ref q_row, .ref q_node, .ref q_tree, .ref q_check, .int v_up, .int v_armed])), (q_draft, .inr (1, [.ref q_draft_codes, .ref q_draft_numbers, .ref q_draft_blobs, .int v_draft_count])), (q_draft_codes, .inl (cI, 3, .inl v_draft_codes)), (q_draft_numbers, .inl (cJ, 3, .inr (.inl v_draft_numbers)))] sz) := by
  refine pu_mtz [.ref q_this, .long x_1] [(q_this, .inr (7, [.ref q_draft, .ref q_now, .ref q_before, .ref q_disk, .ref q_row, .ref q_node, .ref q_tree, .ref q_check, .int v_up, .int v_armed])), (q_draft, .inr (1, [.ref q_draft_codes, .ref q_draft_numbers, .ref q_draft_blobs, .int v_draft_count])), (q_draft_codes, .inl (cI, 3, .inl v_draft_codes)), (q_draft_numbers, .inl (cJ, 3, .inr (.inl v_draft_numbers)))] [(q_this, .inr (7, [.ref q_draft, .ref q_now, .ref q_before, .ref q_disk, .ref q_row, .ref q_node, .ref q_tree, .ref q_check, .int v_up, .int v_armed])), (q_draft, .inr (1, [.ref q_draft_codes, .ref q_draft_numbers, .ref q_draft_blobs, .int o_draft_count])), (q_draft_codes, .inl (cI, 3, .inl o_draft_codes)), (q_draft_numbers, .inl (cJ, 3, .inr (.inl o_draft_numbers)))] o_r (by decide) (Nat.le_of_ble_eq_true rfl) ?_
  intro p e s m args below meth c A Q ls hx hb hml hts hN hown hK hA hP hD hl hret0
  have hS : va_S A s.heap s.heap [] := va_S.rf
  have hl : lv_has ls 3 [(0, .ref q_this), (1, .long x_1)] := hl
  have hret : ∀ (pc : Nat) (ls : Array Slot) (H : Heap) (locs : List Loc) (y_0 : Int32) (y_1 : Int32) (y_2 : Nat → Int32) (y_3 : Nat → Int64), decode b_RF_number pc = .ok (.ireturn, 1) → narrow .boolean (.int y_0) = .int y_0 → va_P D pu_cl [(q_this, .inr (7, [.ref q_draft, .ref q_now, .ref q_before, .ref q_disk, .ref q_row, .ref q_node, .ref q_tree, .ref q_check, .int v_up, .int v_armed])), (q_draft, .inr (1, [.ref q_draft_codes, .ref q_draft_numbers, .ref q_draft_blobs, .int y_1])), (q_draft_codes, .inl (cI, 3, .inl y_2)), (q_draft_numbers, .inl (cJ, 3, .inr (.inl y_3)))] H → va_D A [(q_this, .inr (7, [.ref q_draft, .ref q_now, .ref q_before, .ref q_disk, .ref q_row, .ref q_node, .ref q_tree, .ref q_check, .int v_up, .int v_armed])), (q_draft, .inr (1, [.ref q_draft_codes, .ref q_draft_numbers, .ref q_draft_blobs, .int y_1])), (q_draft_codes, .inl (cI, 3, .inl y_2)), (q_draft_numbers, .inl (cJ, 3, .inr (.inl y_3)))] → va_S A s.heap H locs → some (y_0, y_1, y_2, y_3) = some (o_r, o_draft_count, o_draft_codes, o_draft_numbers) → W p l e rm_RF_number s m args below meth c H locs 0 0 Q (F0 m pc ls [.int y_0]) := by
    intro pc ls H locs y_0 y_1 y_2 y_3 hd hz hP hD hS hf
    cases hf
    exact hret0 pc ls H locs hd hz hP hD hS
  clear hret0
  unfold f_RF_number at hf
  skip
  obtain ⟨H, hH⟩ : ∃ H, H = s.heap := ⟨_, rfl⟩
  obtain ⟨locs, hlocs⟩ : ∃ locs : List Loc, locs = [] := ⟨_, rfl⟩
  have hP : va_P D pu_cl [(q_this, .inr (7, [.ref q_draft, .ref q_now, .ref q_before, .ref q_disk, .ref q_row, .ref q_node, .ref q_tree, .ref q_check, .int v_up, .int v_armed])), (q_draft, .inr (1, [.ref q_draft_codes, .ref q_draft_numbers, .ref q_draft_blobs, .int v_draft_count])), (q_draft_codes, .inl (cI, 3, .inl v_draft_codes)), (q_draft_numbers, .inl (cJ, 3, .inr (.inl v_draft_numbers)))] H := by rw [hH]; exact hP
  have hS : va_S A s.heap H locs := by rw [hH, hlocs]; exact hS
  have goal : W p l e rm_RF_number s m args below meth c H locs 0 0 Q (F0 m 0 ls []) := by
    clear hH hlocs
    refine lv_aload_n hx hb d_RF_number_0 rfl (lv_at hl 0 rfl) ?_
    refine gf_RF_12 (v := .ref q_draft) hx hb hts hN hown hK hP 0 rfl rfl d_RF_number_1 ?_
    refine lv_lload_n hx hb d_RF_number_4 rfl (lv_at hl 1 rfl) ?_
    obtain ⟨r1, w2, w3, w4, hc, hf⟩ := pu_b4_some hf
    refine cl_i (WC := [(q_draft, .inr (1, [.ref q_draft_codes, .ref q_draft_numbers, .ref q_draft_blobs, .int v_draft_count])), (q_draft_codes, .inl (cI, 3, .inl v_draft_codes)), (q_draft_numbers, .inl (cJ, 3, .inr (.inl v_draft_numbers)))]) (WC2 := [(q_draft, .inr (1, [.ref q_draft_codes, .ref q_draft_numbers, .ref q_draft_blobs, .int w2])), (q_draft_codes, .inl (cI, 3, .inl w3)), (q_draft_numbers, .inl (cJ, 3, .inr (.inl w4)))]) (WR := [(q_this, .inr (7, [.ref q_draft, .ref q_now, .ref q_before, .ref q_disk, .ref q_row, .ref q_node, .ref q_tree, .ref q_check, .int v_up, .int v_armed]))]) (WS2 := [(q_this, .inr (7, [.ref q_draft, .ref q_now, .ref q_before, .ref q_disk, .ref q_row, .ref q_node, .ref q_tree, .ref q_check, .int v_up, .int v_armed])), (q_draft, .inr (1, [.ref q_draft_codes, .ref q_draft_numbers, .ref q_draft_blobs, .int w2])), (q_draft_codes, .inl (cI, 3, .inl w3)), (q_draft_numbers, .inl (cJ, 3, .inr (.inl w4)))]) (pu_rv (cl := pu_cl) (pu_in3 _ (List.mem_of_getElem? (i := 0) rfl)) (pu_in3 _ (List.mem_of_getElem? (i := 1) rfl)) (pu_in3 _ (List.mem_of_getElem? (i := 2) rfl)) (pu_in0 _ (List.mem_of_getElem? (i := 2) rfl)) (pu_in3 _ (List.mem_of_getElem? (i := 3) rfl)) (ci := 1) rfl hd_Draft_addNumber (by decide) ⟨rfl, rfl⟩ rfl rfl (Nat.le_of_ble_eq_true rfl) rfl (As := [.long x_1]) (rest := []) (WC := [(q_draft, .inr (1, [.ref q_draft_codes, .ref q_draft_numbers, .ref q_draft_blobs, .int v_draft_count])), (q_draft_codes, .inl (cI, 3, .inl v_draft_codes)), (q_draft_numbers, .inl (cJ, 3, .inr (.inl v_draft_numbers)))]) hx hb hml hown hts hN hK hP hD (c_Draft_addNumber l D cI cJ cB cZ H.size q_draft q_draft_codes q_draft_numbers q_draft_blobs v_draft_count v_draft_codes v_draft_numbers x_1 r1 w2 w3 w4 hc) [1, 2, 3] rfl rfl hl.1 d_RF_number_5) hP hD hS hA [1, 2, 3] [0] [0, 1, 2, 3] rfl rfl rfl (by decide) rfl rfl (fun H locs hP hD hS => ?_)
    obtain ⟨hz, hf⟩ := pu_ck_some hf
    exact hret _ _ _ _ r1 w2 w3 w4 d_RF_number_8 hz hP hD hS hf
  rw [hH, hlocs] at goal
  exact goal
theorem d_Draft_addBlob_0 : decode b_Draft_addBlob 0 = .ok (.aload_n 0, 1) := by decide +kernel
theorem d_Draft_addBlob_1 : decode b_Draft_addBlob 1 = .ok (.getfield 23, 3) := by decide +kernel
theorem d_Draft_addBlob_4 : decode b_Draft_addBlob 4 = .ok (.iconst 3, 1) := by decide +kernel
theorem d_Draft_addBlob_5 : decode b_Draft_addBlob 5 = .ok (.if_icmp .lt 5, 3) := by decide +kernel
theorem d_Draft_addBlob_8 : decode b_Draft_addBlob 8 = .ok (.iconst 0, 1) := by decide +kernel
theorem d_Draft_addBlob_9 : decode b_Draft_addBlob 9 = .ok (.ireturn, 1) := by decide +kernel
theorem d_Draft_addBlob_10 : decode b_Draft_addBlob 10 = .ok (.aload_n 0, 1) := by decide +kernel
theorem d_Draft_addBlob_11 : decode b_Draft_addBlob 11 = .ok (.getfield 9, 3) := by decide +kernel
theorem d_Draft_addBlob_14 : decode b_Draft_addBlob 14 = .ok (.aload_n 0, 1) := by decide +kernel
theorem d_Draft_addBlob_15 : decode b_Draft_addBlob 15 = .ok (.getfield 23, 3) := by decide +kernel
theorem d_Draft_addBlob_18 : decode b_Draft_addBlob 18 = .ok (.bipush 12, 2) := by decide +kernel
theorem d_Draft_addBlob_20 : decode b_Draft_addBlob 20 = .ok (.iastore, 1) := by decide +kernel
theorem d_Draft_addBlob_21 : decode b_Draft_addBlob 21 = .ok (.aload_n 0, 1) := by decide +kernel
theorem d_Draft_addBlob_22 : decode b_Draft_addBlob 22 = .ok (.dup, 1) := by decide +kernel
theorem d_Draft_addBlob_23 : decode b_Draft_addBlob 23 = .ok (.getfield 23, 3) := by decide +kernel
theorem d_Draft_addBlob_26 : decode b_Draft_addBlob 26 = .ok (.iconst 1, 1) := by decide +kernel
theorem d_Draft_addBlob_27 : decode b_Draft_addBlob 27 = .ok (.iadd, 1) := by decide +kernel
theorem d_Draft_addBlob_28 : decode b_Draft_addBlob 28 = .ok (.putfield 23, 3) := by decide +kernel
theorem d_Draft_addBlob_31 : decode b_Draft_addBlob 31 = .ok (.iconst 1, 1) := by decide +kernel
theorem d_Draft_addBlob_32 : decode b_Draft_addBlob 32 = .ok (.ireturn, 1) := by decide +kernel
noncomputable def f_Draft_addBlob (v_count : Int32) (v_codes : Nat → Int32) : Option (Int32 × Int32 × (Nat → Int32)) :=
  pu_br (v_count < (3 : Int32)) (pu_ck (vp_in v_count 3) (pu_nm (upd v_codes v_count.toNatClampNeg (12 : Int32)) (fun a1 => pu_nm (v_count + (1 : Int32)) (fun t2 => some ((1 : Int32), t2, a1))))) (some ((0 : Int32), v_count, v_codes))
abbrev rm_Draft_addBlob : Room := { frames := 0, cells := 0, slots := 0, locals := 0 }
set_option maxHeartbeats 8000000 in
set_option maxRecDepth 100000 in
theorem c_Draft_addBlob (l : Launch) (D : va_G) (cI cJ cB cZ : ClassId) (sz : Nat) (q_this : Nat) (q_codes : Nat) (q_numbers : Nat) (q_blobs : Nat) (v_count : Int32) (v_codes : Nat → Int32) (o_r : Int32) (o_count : Int32) (o_codes : Nat → Int32) (hf : f_Draft_addBlob v_count v_codes = some (o_r, o_count, o_codes)) : Met l y_Draft_addBlob (.code y_Draft_addBlob b_Draft_addBlob 1 (some .boolean) :: pu_wA) rm_Draft_addBlob (pu_pc D pu_cl (pu_ty cI cJ cB cZ) [.ref q_this] [(q_this, .inr (1, [.ref q_codes, .ref q_numbers, .ref q_blobs, .int v_count])), (q_codes, .inl (cI, 3, .inl v_codes))] sz) (pu_qi D pu_cl (pu_ty cI cJ cB cZ) [(q_this, .inr (1, [.ref q_codes, .ref q_numbers, .ref q_blobs, .int v_count])), (q_codes, .inl (cI, 3, .inl v_codes))] [(q_this, .inr (1, [.ref q_codes, .ref q_numbers, .ref q_blobs, .int o_count])), (q_codes, .inl (cI, 3, .inl o_codes))] sz o_r) 0 0 (va_A [(q_this, .inr (1, [.ref q_codes, .ref q_numbers, .ref q_blobs, .int v_count])), (q_codes, .inl (cI, 3, .inl v_codes))] sz) := by
  refine pu_mtz [.ref q_this] [(q_this, .inr (1, [.ref q_codes, .ref q_numbers, .ref q_blobs, .int v_count])), (q_codes, .inl (cI, 3, .inl v_codes))] [(q_this, .inr (1, [.ref q_codes, .ref q_numbers, .ref q_blobs, .int o_count])), (q_codes, .inl (cI, 3, .inl o_codes))] o_r (by decide) (Nat.le_of_ble_eq_true rfl) ?_
  intro p e s m args below meth c A Q ls hx hb hml hts hN hown hK hA hP hD hl hret0
  have hS : va_S A s.heap s.heap [] := va_S.rf
  have hl : lv_has ls 1 [(0, .ref q_this)] := hl
  have hret : ∀ (pc : Nat) (ls : Array Slot) (H : Heap) (locs : List Loc) (y_0 : Int32) (y_1 : Int32) (y_2 : Nat → Int32), decode b_Draft_addBlob pc = .ok (.ireturn, 1) → narrow .boolean (.int y_0) = .int y_0 → va_P D pu_cl [(q_this, .inr (1, [.ref q_codes, .ref q_numbers, .ref q_blobs, .int y_1])), (q_codes, .inl (cI, 3, .inl y_2))] H → va_D A [(q_this, .inr (1, [.ref q_codes, .ref q_numbers, .ref q_blobs, .int y_1])), (q_codes, .inl (cI, 3, .inl y_2))] → va_S A s.heap H locs → some (y_0, y_1, y_2) = some (o_r, o_count, o_codes) → W p l e rm_Draft_addBlob s m args below meth c H locs 0 0 Q (F0 m pc ls [.int y_0]) := by
    intro pc ls H locs y_0 y_1 y_2 hd hz hP hD hS hf
    cases hf
    exact hret0 pc ls H locs hd hz hP hD hS
  clear hret0
  unfold f_Draft_addBlob at hf
  skip
  obtain ⟨H, hH⟩ : ∃ H, H = s.heap := ⟨_, rfl⟩
  obtain ⟨locs, hlocs⟩ : ∃ locs : List Loc, locs = [] := ⟨_, rfl⟩
  have hP : va_P D pu_cl [(q_this, .inr (1, [.ref q_codes, .ref q_numbers, .ref q_blobs, .int v_count])), (q_codes, .inl (cI, 3, .inl v_codes))] H := by rw [hH]; exact hP
  have hS : va_S A s.heap H locs := by rw [hH, hlocs]; exact hS
  have goal : W p l e rm_Draft_addBlob s m args below meth c H locs 0 0 Q (F0 m 0 ls []) := by
    clear hH hlocs
    refine lv_aload_n hx hb d_Draft_addBlob_0 rfl (lv_at hl 0 rfl) ?_
    refine gf_Draft_23 (v := .int v_count) hx hb hts hN hown hK hP 0 rfl rfl d_Draft_addBlob_1 ?_
    refine lv_iconst (v := 3) hx hb d_Draft_addBlob_4 rfl ?_
    refine lv_icmp_lt (tgt := 10) hx hb d_Draft_addBlob_5 rfl (fun hc => ?_) (fun hc => ?_)
    · have hf := pu_br_pos hf hc
      refine lv_aload_n hx hb d_Draft_addBlob_10 rfl (lv_at hl 0 rfl) ?_
      refine gf_Draft_9 (v := .ref q_codes) hx hb hts hN hown hK hP 0 rfl rfl d_Draft_addBlob_11 ?_
      refine lv_aload_n hx hb d_Draft_addBlob_14 rfl (lv_at hl 0 rfl) ?_
      refine gf_Draft_23 (v := .int v_count) hx hb hts hN hown hK hP 0 rfl rfl d_Draft_addBlob_15 ?_
      refine lv_bipush (v := 12) hx hb d_Draft_addBlob_18 rfl ?_
      obtain ⟨hin, hf⟩ := pu_ck_some hf
      obtain ⟨a1, e_a1, hf⟩ := pu_nm_some hf
      refine va_iast hx hb hK hP hD hS 1 0 rfl rfl hin d_Draft_addBlob_20 (fun H locs hP hD hS => ?_)
      have hP : va_P D pu_cl [(q_this, .inr (1, [.ref q_codes, .ref q_numbers, .ref q_blobs, .int v_count])), (q_codes, .inl (cI, 3, .inl a1))] H := by rw [e_a1]; exact hP
      have hD : va_D A [(q_this, .inr (1, [.ref q_codes, .ref q_numbers, .ref q_blobs, .int v_count])), (q_codes, .inl (cI, 3, .inl a1))] := by rw [e_a1]; exact hD
      refine lv_aload_n hx hb d_Draft_addBlob_21 rfl (lv_at hl 0 rfl) ?_
      refine lv_dup hx hb d_Draft_addBlob_22 rfl ?_
      refine gf_Draft_23 (v := .int v_count) hx hb hts hN hown hK hP 0 rfl rfl d_Draft_addBlob_23 ?_
      refine lv_iconst (v := 1) hx hb d_Draft_addBlob_26 rfl ?_
      refine lv_iadd hx hb d_Draft_addBlob_27 ?_
      obtain ⟨t2, e_t2, hf⟩ := pu_nm_some hf
      refine pu_ti e_t2 ?_
      refine pf_Draft_23 (v := .int t2) hx hb hts hN hown hK hP hD hS 0 rfl rfl rfl (Nat.le_of_ble_eq_true rfl) d_Draft_addBlob_28 (fun H locs hP hD hS => ?_)
      have hP : va_P D pu_cl [(q_this, .inr (1, [.ref q_codes, .ref q_numbers, .ref q_blobs, .int t2])), (q_codes, .inl (cI, 3, .inl a1))] H := hP
      have hD : va_D A [(q_this, .inr (1, [.ref q_codes, .ref q_numbers, .ref q_blobs, .int t2])), (q_codes, .inl (cI, 3, .inl a1))] := hD
      refine lv_iconst (v := 1) hx hb d_Draft_addBlob_31 rfl ?_
      exact hret _ _ _ _ (1 : Int32) t2 a1 d_Draft_addBlob_32 (by decide) hP hD hS hf
    have hf := pu_br_neg hf hc
    refine lv_iconst (v := 0) hx hb d_Draft_addBlob_8 rfl ?_
    exact hret _ _ _ _ (0 : Int32) v_count v_codes d_Draft_addBlob_9 (by decide) hP hD hS hf
  rw [hH, hlocs] at goal
  exact goal
theorem d_RF_valueSize_0 : decode b_RF_valueSize 0 = .ok (.iload_n 0, 1) := by decide +kernel
theorem d_RF_valueSize_1 : decode b_RF_valueSize 1 = .ok (.tableswitch 58 1 9 #[51, 51, 58, 51, 58, 53, 58, 56, 56], 51) := by decide +kernel
theorem d_RF_valueSize_52 : decode b_RF_valueSize 52 = .ok (.iload_n 0, 1) := by decide +kernel
theorem d_RF_valueSize_53 : decode b_RF_valueSize 53 = .ok (.ireturn, 1) := by decide +kernel
theorem d_RF_valueSize_54 : decode b_RF_valueSize 54 = .ok (.bipush 8, 2) := by decide +kernel
theorem d_RF_valueSize_56 : decode b_RF_valueSize 56 = .ok (.ireturn, 1) := by decide +kernel
theorem d_RF_valueSize_57 : decode b_RF_valueSize 57 = .ok (.iconst 0, 1) := by decide +kernel
theorem d_RF_valueSize_58 : decode b_RF_valueSize 58 = .ok (.ireturn, 1) := by decide +kernel
theorem d_RF_valueSize_59 : decode b_RF_valueSize 59 = .ok (.iload_n 0, 1) := by decide +kernel
theorem d_RF_valueSize_60 : decode b_RF_valueSize 60 = .ok (.bipush 12, 2) := by decide +kernel
theorem d_RF_valueSize_62 : decode b_RF_valueSize 62 = .ok (.if_icmp .lt 20, 3) := by decide +kernel
theorem d_RF_valueSize_65 : decode b_RF_valueSize 65 = .ok (.iload_n 0, 1) := by decide +kernel
theorem d_RF_valueSize_66 : decode b_RF_valueSize 66 = .ok (.sipush 212, 3) := by decide +kernel
theorem d_RF_valueSize_69 : decode b_RF_valueSize 69 = .ok (.if_icmp .gt 13, 3) := by decide +kernel
theorem d_RF_valueSize_72 : decode b_RF_valueSize 72 = .ok (.iload_n 0, 1) := by decide +kernel
theorem d_RF_valueSize_73 : decode b_RF_valueSize 73 = .ok (.iconst 2, 1) := by decide +kernel
theorem d_RF_valueSize_74 : decode b_RF_valueSize 74 = .ok (.irem, 1) := by decide +kernel
theorem d_RF_valueSize_75 : decode b_RF_valueSize 75 = .ok (.ifCond .ne 7, 3) := by decide +kernel
theorem d_RF_valueSize_78 : decode b_RF_valueSize 78 = .ok (.iconst 1, 1) := by decide +kernel
theorem d_RF_valueSize_79 : decode b_RF_valueSize 79 = .ok (.goto 4, 3) := by decide +kernel
theorem d_RF_valueSize_82 : decode b_RF_valueSize 82 = .ok (.iconst 0, 1) := by decide +kernel
theorem d_RF_valueSize_83 : decode b_RF_valueSize 83 = .ok (.istore_n 1, 1) := by decide +kernel
theorem d_RF_valueSize_84 : decode b_RF_valueSize 84 = .ok (.iload_n 1, 1) := by decide +kernel
theorem d_RF_valueSize_85 : decode b_RF_valueSize 85 = .ok (.ifCond .eq 12, 3) := by decide +kernel
theorem d_RF_valueSize_88 : decode b_RF_valueSize 88 = .ok (.iload_n 0, 1) := by decide +kernel
theorem d_RF_valueSize_89 : decode b_RF_valueSize 89 = .ok (.bipush 12, 2) := by decide +kernel
theorem d_RF_valueSize_91 : decode b_RF_valueSize 91 = .ok (.isub, 1) := by decide +kernel
theorem d_RF_valueSize_92 : decode b_RF_valueSize 92 = .ok (.iconst 2, 1) := by decide +kernel
theorem d_RF_valueSize_93 : decode b_RF_valueSize 93 = .ok (.idiv, 1) := by decide +kernel
theorem d_RF_valueSize_94 : decode b_RF_valueSize 94 = .ok (.goto 4, 3) := by decide +kernel
theorem d_RF_valueSize_97 : decode b_RF_valueSize 97 = .ok (.iconst (-1), 1) := by decide +kernel
theorem d_RF_valueSize_98 : decode b_RF_valueSize 98 = .ok (.ireturn, 1) := by decide +kernel
noncomputable def q_RF_valueSize_83 (x_0 : Int32) (s_0 : Int32) : Option (Int32) :=
  pu_br (s_0 = 0) (some (-1 : Int32)) (some ((x_0 - (12 : Int32)) / (2 : Int32)))
noncomputable def q_RF_valueSize_82 (x_0 : Int32) : Option (Int32) :=
  q_RF_valueSize_83 x_0 (0 : Int32)
noncomputable def f_RF_valueSize (x_0 : Int32) : Option (Int32) :=
  pu_br (x_0 = 1) (some x_0) (pu_br (x_0 = 2) (some x_0) (pu_br (x_0 = 3) (pu_br (x_0 < (12 : Int32)) (q_RF_valueSize_82 x_0) (pu_br ((212 : Int32) < x_0) (q_RF_valueSize_82 x_0) (pu_br ((x_0 - x_0 / (2 : Int32) * (2 : Int32)) = 0) (q_RF_valueSize_83 x_0 (1 : Int32)) (q_RF_valueSize_82 x_0)))) (pu_br (x_0 = 4) (some x_0) (pu_br (x_0 = 5) (pu_br (x_0 < (12 : Int32)) (q_RF_valueSize_82 x_0) (pu_br ((212 : Int32) < x_0) (q_RF_valueSize_82 x_0) (pu_br ((x_0 - x_0 / (2 : Int32) * (2 : Int32)) = 0) (q_RF_valueSize_83 x_0 (1 : Int32)) (q_RF_valueSize_82 x_0)))) (pu_br (x_0 = 6) (some (8 : Int32)) (pu_br (x_0 = 7) (pu_br (x_0 < (12 : Int32)) (q_RF_valueSize_82 x_0) (pu_br ((212 : Int32) < x_0) (q_RF_valueSize_82 x_0) (pu_br ((x_0 - x_0 / (2 : Int32) * (2 : Int32)) = 0) (q_RF_valueSize_83 x_0 (1 : Int32)) (q_RF_valueSize_82 x_0)))) (pu_br (x_0 = 8) (some (0 : Int32)) (pu_br (x_0 = 9) (some (0 : Int32)) (pu_br (x_0 < (12 : Int32)) (q_RF_valueSize_82 x_0) (pu_br ((212 : Int32) < x_0) (q_RF_valueSize_82 x_0) (pu_br ((x_0 - x_0 / (2 : Int32) * (2 : Int32)) = 0) (q_RF_valueSize_83 x_0 (1 : Int32)) (q_RF_valueSize_82 x_0))))))))))))
abbrev rm_RF_valueSize : Room := { frames := 0, cells := 0, slots := 0, locals := 0 }
set_option maxHeartbeats 8000000 in
set_option maxRecDepth 100000 in
theorem c_RF_valueSize (l : Launch) (D : va_G) (cI cJ cB cZ : ClassId) (sz : Nat) (x_0 : Int32) (o_r : Int32) (hf : f_RF_valueSize x_0 = some o_r) : Met l y_RF_valueSize (.code y_RF_valueSize b_RF_valueSize 2 (some .int) :: pu_wA) rm_RF_valueSize (pu_pc D pu_cl (pu_ty cI cJ cB cZ) [.int x_0] [] sz) (pu_qi D pu_cl (pu_ty cI cJ cB cZ) [] [] sz o_r) 0 0 (va_A [] sz) := by
  refine pu_mti [.int x_0] [] [] o_r (by decide) (Nat.le_of_ble_eq_true rfl) ?_
  intro p e s m args below meth c A Q ls hx hb hml hts hN hown hK hA hP hD hl hret0
  have hS : va_S A s.heap s.heap [] := va_S.rf
  have hl : lv_has ls 2 [(0, .int x_0)] := hl
  have hret : ∀ (pc : Nat) (ls : Array Slot) (H : Heap) (locs : List Loc) (y_0 : Int32), decode b_RF_valueSize pc = .ok (.ireturn, 1) → va_P D pu_cl [] H → va_D A [] → va_S A s.heap H locs → some y_0 = some o_r → W p l e rm_RF_valueSize s m args below meth c H locs 0 0 Q (F0 m pc ls [.int y_0]) := by
    intro pc ls H locs y_0 hd hP hD hS hf
    cases hf
    exact hret0 pc ls H locs hd hP hD hS
  clear hret0
  unfold f_RF_valueSize at hf
  skip
  have lb_83 : ∀ (x_0 : Int32) (s_0 : Int32) (H : Heap) (locs : List Loc) (ls : Array Slot), va_P D pu_cl [] H → va_D A [] → va_S A s.heap H locs → lv_has ls 2 [(0, .int x_0)] → q_RF_valueSize_83 x_0 s_0 = some o_r → W p l e rm_RF_valueSize s m args below meth c H locs 0 0 Q (F0 m 83 ls [.int s_0]) := by
    intro x_0 s_0 H locs ls hP hD hS hl hf
    rw [q_RF_valueSize_83] at hf
    refine lv_istore_n hx hb d_RF_valueSize_83 rfl hl (by decide) rfl (fun ls hl => ?_)
    have hl : lv_has ls 2 [(1, .int s_0), (0, .int x_0)] := hl
    refine lv_iload_n hx hb d_RF_valueSize_84 rfl (lv_at hl 0 rfl) ?_
    refine lv_if_eq (tgt := 97) hx hb d_RF_valueSize_85 rfl (fun hc => ?_) (fun hc => ?_)
    · have hf := pu_br_pos hf hc
      refine lv_iconst (v := -1) hx hb d_RF_valueSize_97 rfl ?_
      exact hret _ _ _ _ (-1 : Int32)  d_RF_valueSize_98 hP hD hS hf
    have hf := pu_br_neg hf hc
    refine lv_iload_n hx hb d_RF_valueSize_88 rfl (lv_at hl 1 rfl) ?_
    refine lv_bipush (v := 12) hx hb d_RF_valueSize_89 rfl ?_
    refine lv_isub hx hb d_RF_valueSize_91 ?_
    refine lv_iconst (v := 2) hx hb d_RF_valueSize_92 rfl ?_
    refine lv_idiv hx hb d_RF_valueSize_93 (by decide) ?_
    refine lv_goto (tgt := 98) hx hb d_RF_valueSize_94 rfl ?_
    exact hret _ _ _ _ ((x_0 - (12 : Int32)) / (2 : Int32))  d_RF_valueSize_98 hP hD hS hf
  have lb_82 : ∀ (x_0 : Int32) (H : Heap) (locs : List Loc) (ls : Array Slot), va_P D pu_cl [] H → va_D A [] → va_S A s.heap H locs → lv_has ls 2 [(0, .int x_0)] → q_RF_valueSize_82 x_0 = some o_r → W p l e rm_RF_valueSize s m args below meth c H locs 0 0 Q (F0 m 82 ls []) := by
    intro x_0 H locs ls hP hD hS hl hf
    rw [q_RF_valueSize_82] at hf
    refine lv_iconst (v := 0) hx hb d_RF_valueSize_82 rfl ?_
    exact lb_83 x_0 (0 : Int32) H locs ls hP hD hS (lv_sub hl [0] rfl) hf
  obtain ⟨H, hH⟩ : ∃ H, H = s.heap := ⟨_, rfl⟩
  obtain ⟨locs, hlocs⟩ : ∃ locs : List Loc, locs = [] := ⟨_, rfl⟩
  have hP : va_P D pu_cl [] H := by rw [hH]; exact hP
  have hS : va_S A s.heap H locs := by rw [hH, hlocs]; exact hS
  have goal : W p l e rm_RF_valueSize s m args below meth c H locs 0 0 Q (F0 m 0 ls []) := by
    clear hH hlocs
    refine lv_iload_n hx hb d_RF_valueSize_0 rfl (lv_at hl 0 rfl) ?_
    by_cases hn1 : x_0 = 1
    · have hf := pu_br_pos hf hn1
      refine lv_tableIn (tgt := 52) hx hb d_RF_valueSize_1 (by rw [hn1]; decide) (by rw [hn1]; decide) (by rw [hn1]; rfl) rfl ?_
      refine lv_iload_n hx hb d_RF_valueSize_52 rfl (lv_at hl 0 rfl) ?_
      exact hret _ _ _ _ x_0  d_RF_valueSize_53 hP hD hS hf
    have hf := pu_br_neg hf hn1
    by_cases hn2 : x_0 = 2
    · have hf := pu_br_pos hf hn2
      refine lv_tableIn (tgt := 52) hx hb d_RF_valueSize_1 (by rw [hn2]; decide) (by rw [hn2]; decide) (by rw [hn2]; rfl) rfl ?_
      refine lv_iload_n hx hb d_RF_valueSize_52 rfl (lv_at hl 0 rfl) ?_
      exact hret _ _ _ _ x_0  d_RF_valueSize_53 hP hD hS hf
    have hf := pu_br_neg hf hn2
    by_cases hn3 : x_0 = 3
    · have hf := pu_br_pos hf hn3
      refine lv_tableIn (tgt := 59) hx hb d_RF_valueSize_1 (by rw [hn3]; decide) (by rw [hn3]; decide) (by rw [hn3]; rfl) rfl ?_
      refine lv_iload_n hx hb d_RF_valueSize_59 rfl (lv_at hl 0 rfl) ?_
      refine lv_bipush (v := 12) hx hb d_RF_valueSize_60 rfl ?_
      refine lv_icmp_lt (tgt := 82) hx hb d_RF_valueSize_62 rfl (fun hc => ?_) (fun hc => ?_)
      · have hf := pu_br_pos hf hc
        exact lb_82 x_0 H locs ls hP hD hS (lv_sub hl [0] rfl) hf
      have hf := pu_br_neg hf hc
      refine lv_iload_n hx hb d_RF_valueSize_65 rfl (lv_at hl 0 rfl) ?_
      refine lv_sipush (v := 212) hx hb d_RF_valueSize_66 rfl ?_
      refine lv_icmp_gt (tgt := 82) hx hb d_RF_valueSize_69 rfl (fun hc => ?_) (fun hc => ?_)
      · have hf := pu_br_pos hf hc
        exact lb_82 x_0 H locs ls hP hD hS (lv_sub hl [0] rfl) hf
      have hf := pu_br_neg hf hc
      refine lv_iload_n hx hb d_RF_valueSize_72 rfl (lv_at hl 0 rfl) ?_
      refine lv_iconst (v := 2) hx hb d_RF_valueSize_73 rfl ?_
      refine lv_irem hx hb d_RF_valueSize_74 (by decide) ?_
      refine lv_if_ne (tgt := 82) hx hb d_RF_valueSize_75 rfl (fun hc => ?_) (fun hc => ?_)
      · have hf := pu_br_neg hf hc
        exact lb_82 x_0 H locs ls hP hD hS (lv_sub hl [0] rfl) hf
      have hf := pu_br_pos hf hc
      refine lv_iconst (v := 1) hx hb d_RF_valueSize_78 rfl ?_
      refine lv_goto (tgt := 83) hx hb d_RF_valueSize_79 rfl ?_
      exact lb_83 x_0 (1 : Int32) H locs ls hP hD hS (lv_sub hl [0] rfl) hf
    have hf := pu_br_neg hf hn3
    by_cases hn4 : x_0 = 4
    · have hf := pu_br_pos hf hn4
      refine lv_tableIn (tgt := 52) hx hb d_RF_valueSize_1 (by rw [hn4]; decide) (by rw [hn4]; decide) (by rw [hn4]; rfl) rfl ?_
      refine lv_iload_n hx hb d_RF_valueSize_52 rfl (lv_at hl 0 rfl) ?_
      exact hret _ _ _ _ x_0  d_RF_valueSize_53 hP hD hS hf
    have hf := pu_br_neg hf hn4
    by_cases hn5 : x_0 = 5
    · have hf := pu_br_pos hf hn5
      refine lv_tableIn (tgt := 59) hx hb d_RF_valueSize_1 (by rw [hn5]; decide) (by rw [hn5]; decide) (by rw [hn5]; rfl) rfl ?_
      refine lv_iload_n hx hb d_RF_valueSize_59 rfl (lv_at hl 0 rfl) ?_
      refine lv_bipush (v := 12) hx hb d_RF_valueSize_60 rfl ?_
      refine lv_icmp_lt (tgt := 82) hx hb d_RF_valueSize_62 rfl (fun hc => ?_) (fun hc => ?_)
      · have hf := pu_br_pos hf hc
        exact lb_82 x_0 H locs ls hP hD hS (lv_sub hl [0] rfl) hf
      have hf := pu_br_neg hf hc
      refine lv_iload_n hx hb d_RF_valueSize_65 rfl (lv_at hl 0 rfl) ?_
      refine lv_sipush (v := 212) hx hb d_RF_valueSize_66 rfl ?_
      refine lv_icmp_gt (tgt := 82) hx hb d_RF_valueSize_69 rfl (fun hc => ?_) (fun hc => ?_)
      · have hf := pu_br_pos hf hc
        exact lb_82 x_0 H locs ls hP hD hS (lv_sub hl [0] rfl) hf
      have hf := pu_br_neg hf hc
      refine lv_iload_n hx hb d_RF_valueSize_72 rfl (lv_at hl 0 rfl) ?_
      refine lv_iconst (v := 2) hx hb d_RF_valueSize_73 rfl ?_
      refine lv_irem hx hb d_RF_valueSize_74 (by decide) ?_
      refine lv_if_ne (tgt := 82) hx hb d_RF_valueSize_75 rfl (fun hc => ?_) (fun hc => ?_)
      · have hf := pu_br_neg hf hc
        exact lb_82 x_0 H locs ls hP hD hS (lv_sub hl [0] rfl) hf
      have hf := pu_br_pos hf hc
      refine lv_iconst (v := 1) hx hb d_RF_valueSize_78 rfl ?_
      refine lv_goto (tgt := 83) hx hb d_RF_valueSize_79 rfl ?_
      exact lb_83 x_0 (1 : Int32) H locs ls hP hD hS (lv_sub hl [0] rfl) hf
    have hf := pu_br_neg hf hn5
    by_cases hn6 : x_0 = 6
    · have hf := pu_br_pos hf hn6
      refine lv_tableIn (tgt := 54) hx hb d_RF_valueSize_1 (by rw [hn6]; decide) (by rw [hn6]; decide) (by rw [hn6]; rfl) rfl ?_
      refine lv_bipush (v := 8) hx hb d_RF_valueSize_54 rfl ?_
      exact hret _ _ _ _ (8 : Int32)  d_RF_valueSize_56 hP hD hS hf
    have hf := pu_br_neg hf hn6
    by_cases hn7 : x_0 = 7
    · have hf := pu_br_pos hf hn7
      refine lv_tableIn (tgt := 59) hx hb d_RF_valueSize_1 (by rw [hn7]; decide) (by rw [hn7]; decide) (by rw [hn7]; rfl) rfl ?_
      refine lv_iload_n hx hb d_RF_valueSize_59 rfl (lv_at hl 0 rfl) ?_
      refine lv_bipush (v := 12) hx hb d_RF_valueSize_60 rfl ?_
      refine lv_icmp_lt (tgt := 82) hx hb d_RF_valueSize_62 rfl (fun hc => ?_) (fun hc => ?_)
      · have hf := pu_br_pos hf hc
        exact lb_82 x_0 H locs ls hP hD hS (lv_sub hl [0] rfl) hf
      have hf := pu_br_neg hf hc
      refine lv_iload_n hx hb d_RF_valueSize_65 rfl (lv_at hl 0 rfl) ?_
      refine lv_sipush (v := 212) hx hb d_RF_valueSize_66 rfl ?_
      refine lv_icmp_gt (tgt := 82) hx hb d_RF_valueSize_69 rfl (fun hc => ?_) (fun hc => ?_)
      · have hf := pu_br_pos hf hc
        exact lb_82 x_0 H locs ls hP hD hS (lv_sub hl [0] rfl) hf
      have hf := pu_br_neg hf hc
      refine lv_iload_n hx hb d_RF_valueSize_72 rfl (lv_at hl 0 rfl) ?_
      refine lv_iconst (v := 2) hx hb d_RF_valueSize_73 rfl ?_
      refine lv_irem hx hb d_RF_valueSize_74 (by decide) ?_
      refine lv_if_ne (tgt := 82) hx hb d_RF_valueSize_75 rfl (fun hc => ?_) (fun hc => ?_)
      · have hf := pu_br_neg hf hc
        exact lb_82 x_0 H locs ls hP hD hS (lv_sub hl [0] rfl) hf
      have hf := pu_br_pos hf hc
      refine lv_iconst (v := 1) hx hb d_RF_valueSize_78 rfl ?_
      refine lv_goto (tgt := 83) hx hb d_RF_valueSize_79 rfl ?_
      exact lb_83 x_0 (1 : Int32) H locs ls hP hD hS (lv_sub hl [0] rfl) hf
    have hf := pu_br_neg hf hn7
    by_cases hn8 : x_0 = 8
    · have hf := pu_br_pos hf hn8
      refine lv_tableIn (tgt := 57) hx hb d_RF_valueSize_1 (by rw [hn8]; decide) (by rw [hn8]; decide) (by rw [hn8]; rfl) rfl ?_
      refine lv_iconst (v := 0) hx hb d_RF_valueSize_57 rfl ?_
      exact hret _ _ _ _ (0 : Int32)  d_RF_valueSize_58 hP hD hS hf
    have hf := pu_br_neg hf hn8
    by_cases hn9 : x_0 = 9
    · have hf := pu_br_pos hf hn9
      refine lv_tableIn (tgt := 57) hx hb d_RF_valueSize_1 (by rw [hn9]; decide) (by rw [hn9]; decide) (by rw [hn9]; rfl) rfl ?_
      refine lv_iconst (v := 0) hx hb d_RF_valueSize_57 rfl ?_
      exact hret _ _ _ _ (0 : Int32)  d_RF_valueSize_58 hP hD hS hf
    have hf := pu_br_neg hf hn9
    refine lv_tableOut (tgt := 59) hx hb d_RF_valueSize_1 (by have ghn1 := lv_neT hn1 (a := 1) rfl; have ghn2 := lv_neT hn2 (a := 2) rfl; have ghn3 := lv_neT hn3 (a := 3) rfl; have ghn4 := lv_neT hn4 (a := 4) rfl; have ghn5 := lv_neT hn5 (a := 5) rfl; have ghn6 := lv_neT hn6 (a := 6) rfl; have ghn7 := lv_neT hn7 (a := 7) rfl; have ghn8 := lv_neT hn8 (a := 8) rfl; have ghn9 := lv_neT hn9 (a := 9) rfl; omega) rfl ?_
    refine lv_iload_n hx hb d_RF_valueSize_59 rfl (lv_at hl 0 rfl) ?_
    refine lv_bipush (v := 12) hx hb d_RF_valueSize_60 rfl ?_
    refine lv_icmp_lt (tgt := 82) hx hb d_RF_valueSize_62 rfl (fun hc => ?_) (fun hc => ?_)
    · have hf := pu_br_pos hf hc
      exact lb_82 x_0 H locs ls hP hD hS (lv_sub hl [0] rfl) hf
    have hf := pu_br_neg hf hc
    refine lv_iload_n hx hb d_RF_valueSize_65 rfl (lv_at hl 0 rfl) ?_
    refine lv_sipush (v := 212) hx hb d_RF_valueSize_66 rfl ?_
    refine lv_icmp_gt (tgt := 82) hx hb d_RF_valueSize_69 rfl (fun hc => ?_) (fun hc => ?_)
    · have hf := pu_br_pos hf hc
      exact lb_82 x_0 H locs ls hP hD hS (lv_sub hl [0] rfl) hf
    have hf := pu_br_neg hf hc
    refine lv_iload_n hx hb d_RF_valueSize_72 rfl (lv_at hl 0 rfl) ?_
    refine lv_iconst (v := 2) hx hb d_RF_valueSize_73 rfl ?_
    refine lv_irem hx hb d_RF_valueSize_74 (by decide) ?_
    refine lv_if_ne (tgt := 82) hx hb d_RF_valueSize_75 rfl (fun hc => ?_) (fun hc => ?_)
    · have hf := pu_br_neg hf hc
      exact lb_82 x_0 H locs ls hP hD hS (lv_sub hl [0] rfl) hf
    have hf := pu_br_pos hf hc
    refine lv_iconst (v := 1) hx hb d_RF_valueSize_78 rfl ?_
    refine lv_goto (tgt := 83) hx hb d_RF_valueSize_79 rfl ?_
    exact lb_83 x_0 (1 : Int32) H locs ls hP hD hS (lv_sub hl [0] rfl) hf
  rw [hH, hlocs] at goal
  exact goal
theorem d_Draft_extendBlob_0 : decode b_Draft_extendBlob 0 = .ok (.aload_n 0, 1) := by decide +kernel
theorem d_Draft_extendBlob_1 : decode b_Draft_extendBlob 1 = .ok (.getfield 23, 3) := by decide +kernel
theorem d_Draft_extendBlob_4 : decode b_Draft_extendBlob 4 = .ok (.iconst 1, 1) := by decide +kernel
theorem d_Draft_extendBlob_5 : decode b_Draft_extendBlob 5 = .ok (.isub, 1) := by decide +kernel
theorem d_Draft_extendBlob_6 : decode b_Draft_extendBlob 6 = .ok (.istore 4, 2) := by decide +kernel
theorem d_Draft_extendBlob_8 : decode b_Draft_extendBlob 8 = .ok (.iload 4, 2) := by decide +kernel
theorem d_Draft_extendBlob_10 : decode b_Draft_extendBlob 10 = .ok (.ifCond .lt 21, 3) := by decide +kernel
theorem d_Draft_extendBlob_13 : decode b_Draft_extendBlob 13 = .ok (.iload 4, 2) := by decide +kernel
theorem d_Draft_extendBlob_15 : decode b_Draft_extendBlob 15 = .ok (.iconst 3, 1) := by decide +kernel
theorem d_Draft_extendBlob_16 : decode b_Draft_extendBlob 16 = .ok (.if_icmp .ge 15, 3) := by decide +kernel
theorem d_Draft_extendBlob_19 : decode b_Draft_extendBlob 19 = .ok (.aload_n 0, 1) := by decide +kernel
theorem d_Draft_extendBlob_20 : decode b_Draft_extendBlob 20 = .ok (.getfield 9, 3) := by decide +kernel
theorem d_Draft_extendBlob_23 : decode b_Draft_extendBlob 23 = .ok (.iload 4, 2) := by decide +kernel
theorem d_Draft_extendBlob_25 : decode b_Draft_extendBlob 25 = .ok (.iaload, 1) := by decide +kernel
theorem d_Draft_extendBlob_26 : decode b_Draft_extendBlob 26 = .ok (.bipush 12, 2) := by decide +kernel
theorem d_Draft_extendBlob_28 : decode b_Draft_extendBlob 28 = .ok (.if_icmp .ge 5, 3) := by decide +kernel
theorem d_Draft_extendBlob_31 : decode b_Draft_extendBlob 31 = .ok (.iconst 0, 1) := by decide +kernel
theorem d_Draft_extendBlob_32 : decode b_Draft_extendBlob 32 = .ok (.ireturn, 1) := by decide +kernel
theorem d_Draft_extendBlob_33 : decode b_Draft_extendBlob 33 = .ok (.aload_n 0, 1) := by decide +kernel
theorem d_Draft_extendBlob_34 : decode b_Draft_extendBlob 34 = .ok (.getfield 9, 3) := by decide +kernel
theorem d_Draft_extendBlob_37 : decode b_Draft_extendBlob 37 = .ok (.iload 4, 2) := by decide +kernel
theorem d_Draft_extendBlob_39 : decode b_Draft_extendBlob 39 = .ok (.iaload, 1) := by decide +kernel
theorem d_Draft_extendBlob_40 : decode b_Draft_extendBlob 40 = .ok (.invokestatic 31, 3) := by decide +kernel
theorem d_Draft_extendBlob_43 : decode b_Draft_extendBlob 43 = .ok (.istore 5, 2) := by decide +kernel
theorem d_Draft_extendBlob_45 : decode b_Draft_extendBlob 45 = .ok (.iload_n 1, 1) := by decide +kernel
theorem d_Draft_extendBlob_46 : decode b_Draft_extendBlob 46 = .ok (.ifCond .lt 17, 3) := by decide +kernel
theorem d_Draft_extendBlob_49 : decode b_Draft_extendBlob 49 = .ok (.iload 5, 2) := by decide +kernel
theorem d_Draft_extendBlob_51 : decode b_Draft_extendBlob 51 = .ok (.ifCond .lt 12, 3) := by decide +kernel
theorem d_Draft_extendBlob_54 : decode b_Draft_extendBlob 54 = .ok (.iload 5, 2) := by decide +kernel
theorem d_Draft_extendBlob_56 : decode b_Draft_extendBlob 56 = .ok (.iload_n 1, 1) := by decide +kernel
theorem d_Draft_extendBlob_57 : decode b_Draft_extendBlob 57 = .ok (.iadd, 1) := by decide +kernel
theorem d_Draft_extendBlob_58 : decode b_Draft_extendBlob 58 = .ok (.bipush 100, 2) := by decide +kernel
theorem d_Draft_extendBlob_60 : decode b_Draft_extendBlob 60 = .ok (.if_icmp .le 5, 3) := by decide +kernel
theorem d_Draft_extendBlob_63 : decode b_Draft_extendBlob 63 = .ok (.iconst 0, 1) := by decide +kernel
theorem d_Draft_extendBlob_64 : decode b_Draft_extendBlob 64 = .ok (.ireturn, 1) := by decide +kernel
theorem d_Draft_extendBlob_65 : decode b_Draft_extendBlob 65 = .ok (.iconst 0, 1) := by decide +kernel
theorem d_Draft_extendBlob_66 : decode b_Draft_extendBlob 66 = .ok (.istore 6, 2) := by decide +kernel
theorem d_Draft_extendBlob_68 : decode b_Draft_extendBlob 68 = .ok (.iload 6, 2) := by decide +kernel
theorem d_Draft_extendBlob_70 : decode b_Draft_extendBlob 70 = .ok (.iload_n 1, 1) := by decide +kernel
theorem d_Draft_extendBlob_71 : decode b_Draft_extendBlob 71 = .ok (.if_icmp .ge 38, 3) := by decide +kernel
theorem d_Draft_extendBlob_74 : decode b_Draft_extendBlob 74 = .ok (.aload_n 0, 1) := by decide +kernel
theorem d_Draft_extendBlob_75 : decode b_Draft_extendBlob 75 = .ok (.getfield 19, 3) := by decide +kernel
theorem d_Draft_extendBlob_78 : decode b_Draft_extendBlob 78 = .ok (.iload 4, 2) := by decide +kernel
theorem d_Draft_extendBlob_80 : decode b_Draft_extendBlob 80 = .ok (.bipush 100, 2) := by decide +kernel
theorem d_Draft_extendBlob_82 : decode b_Draft_extendBlob 82 = .ok (.imul, 1) := by decide +kernel
theorem d_Draft_extendBlob_83 : decode b_Draft_extendBlob 83 = .ok (.iload 5, 2) := by decide +kernel
theorem d_Draft_extendBlob_85 : decode b_Draft_extendBlob 85 = .ok (.iadd, 1) := by decide +kernel
theorem d_Draft_extendBlob_86 : decode b_Draft_extendBlob 86 = .ok (.iload 6, 2) := by decide +kernel
theorem d_Draft_extendBlob_88 : decode b_Draft_extendBlob 88 = .ok (.iadd, 1) := by decide +kernel
theorem d_Draft_extendBlob_89 : decode b_Draft_extendBlob 89 = .ok (.lload_n 2, 1) := by decide +kernel
theorem d_Draft_extendBlob_90 : decode b_Draft_extendBlob 90 = .ok (.bipush 8, 2) := by decide +kernel
theorem d_Draft_extendBlob_92 : decode b_Draft_extendBlob 92 = .ok (.iload_n 1, 1) := by decide +kernel
theorem d_Draft_extendBlob_93 : decode b_Draft_extendBlob 93 = .ok (.iconst 1, 1) := by decide +kernel
theorem d_Draft_extendBlob_94 : decode b_Draft_extendBlob 94 = .ok (.isub, 1) := by decide +kernel
theorem d_Draft_extendBlob_95 : decode b_Draft_extendBlob 95 = .ok (.iload 6, 2) := by decide +kernel
theorem d_Draft_extendBlob_97 : decode b_Draft_extendBlob 97 = .ok (.isub, 1) := by decide +kernel
theorem d_Draft_extendBlob_98 : decode b_Draft_extendBlob 98 = .ok (.imul, 1) := by decide +kernel
theorem d_Draft_extendBlob_99 : decode b_Draft_extendBlob 99 = .ok (.lshr, 1) := by decide +kernel
theorem d_Draft_extendBlob_100 : decode b_Draft_extendBlob 100 = .ok (.l2i, 1) := by decide +kernel
theorem d_Draft_extendBlob_101 : decode b_Draft_extendBlob 101 = .ok (.i2b, 1) := by decide +kernel
theorem d_Draft_extendBlob_102 : decode b_Draft_extendBlob 102 = .ok (.bastore, 1) := by decide +kernel
theorem d_Draft_extendBlob_103 : decode b_Draft_extendBlob 103 = .ok (.iinc 6 1, 3) := by decide +kernel
theorem d_Draft_extendBlob_106 : decode b_Draft_extendBlob 106 = .ok (.goto (-38), 3) := by decide +kernel
theorem d_Draft_extendBlob_109 : decode b_Draft_extendBlob 109 = .ok (.aload_n 0, 1) := by decide +kernel
theorem d_Draft_extendBlob_110 : decode b_Draft_extendBlob 110 = .ok (.getfield 9, 3) := by decide +kernel
theorem d_Draft_extendBlob_113 : decode b_Draft_extendBlob 113 = .ok (.iload 4, 2) := by decide +kernel
theorem d_Draft_extendBlob_115 : decode b_Draft_extendBlob 115 = .ok (.dup2, 1) := by decide +kernel
theorem d_Draft_extendBlob_116 : decode b_Draft_extendBlob 116 = .ok (.iaload, 1) := by decide +kernel
theorem d_Draft_extendBlob_117 : decode b_Draft_extendBlob 117 = .ok (.iconst 2, 1) := by decide +kernel
theorem d_Draft_extendBlob_118 : decode b_Draft_extendBlob 118 = .ok (.iload_n 1, 1) := by decide +kernel
theorem d_Draft_extendBlob_119 : decode b_Draft_extendBlob 119 = .ok (.imul, 1) := by decide +kernel
theorem d_Draft_extendBlob_120 : decode b_Draft_extendBlob 120 = .ok (.iadd, 1) := by decide +kernel
theorem d_Draft_extendBlob_121 : decode b_Draft_extendBlob 121 = .ok (.iastore, 1) := by decide +kernel
theorem d_Draft_extendBlob_122 : decode b_Draft_extendBlob 122 = .ok (.iconst 1, 1) := by decide +kernel
theorem d_Draft_extendBlob_123 : decode b_Draft_extendBlob 123 = .ok (.ireturn, 1) := by decide +kernel
noncomputable def q_Draft_extendBlob_109 (v_count : Int32) (v_codes : Nat → Int32) (v_blobs : Nat → Int32) (x_1 : Int32) (x_4 : Int32) : Option (Int32 × (Nat → Int32) × (Nat → Int32)) :=
  pu_ck (vp_in x_4 3) (pu_ck (vp_in x_4 3) (pu_nm (upd v_codes x_4.toNatClampNeg ((v_codes x_4.toNatClampNeg) + ((2 : Int32) * x_1))) (fun a3 => some ((1 : Int32), a3, v_blobs))))
noncomputable def q_Draft_extendBlob_68 (kx_109 : (Nat → Int32) → Option (Int32 × (Nat → Int32) × (Nat → Int32))) (v_count : Int32) (v_codes : Nat → Int32) (x_1 : Int32) (x_2 : Int64) (x_4 : Int32) (x_5 : Int32) : Nat → (Nat → Int32) → Int32 → Option (Int32 × (Nat → Int32) × (Nat → Int32))
  | 0, _, _ => none
  | n + 1, v_blobs, x_6 => pu_br (x_1 ≤ x_6) (kx_109 v_blobs) (pu_ck (vp_in (((x_4 * (100 : Int32)) + x_5) + x_6) 300) (pu_nm (upd v_blobs (((x_4 * (100 : Int32)) + x_5) + x_6).toNatClampNeg (vp_nar .byte (((x_2 >>> (((8 : Int32) * ((x_1 - (1 : Int32)) - x_6)).toInt64 &&& 63)).toInt32).toInt8.toInt32))) (fun a4 => pu_nm (x_6 + (1 : Int32)) (fun t5 => q_Draft_extendBlob_68 kx_109 v_count v_codes x_1 x_2 x_4 x_5 n a4 t5))))
noncomputable def f_Draft_extendBlob (v_count : Int32) (v_codes : Nat → Int32) (v_blobs : Nat → Int32) (x_1 : Int32) (x_2 : Int64) : Option (Int32 × (Nat → Int32) × (Nat → Int32)) :=
  pu_nm (v_count - (1 : Int32)) (fun t1 => pu_br (t1 < 0) (some ((0 : Int32), v_codes, v_blobs)) (pu_br ((3 : Int32) ≤ t1) (some ((0 : Int32), v_codes, v_blobs)) (pu_ck (vp_in t1 3) (pu_br ((12 : Int32) ≤ (v_codes t1.toNatClampNeg)) (pu_ck (vp_in t1 3) (pu_b1 (f_RF_valueSize (v_codes t1.toNatClampNeg)) (fun r2 => pu_br (x_1 < 0) (some ((0 : Int32), v_codes, v_blobs)) (pu_br (r2 < 0) (some ((0 : Int32), v_codes, v_blobs)) (pu_br ((r2 + x_1) ≤ (100 : Int32)) (q_Draft_extendBlob_68 (fun v_blobs => q_Draft_extendBlob_109 v_count v_codes v_blobs x_1 t1) v_count v_codes x_1 x_2 t1 r2 pu_fu v_blobs (0 : Int32)) (some ((0 : Int32), v_codes, v_blobs))))))) (some ((0 : Int32), v_codes, v_blobs))))))
abbrev rm_Draft_extendBlob : Room := { frames := 1, cells := 0, slots := 0, locals := 21 }
set_option maxHeartbeats 8000000 in
set_option maxRecDepth 100000 in
theorem c_Draft_extendBlob (l : Launch) (D : va_G) (cI cJ cB cZ : ClassId) (sz : Nat) (q_this : Nat) (q_codes : Nat) (q_numbers : Nat) (q_blobs : Nat) (v_count : Int32) (v_codes : Nat → Int32) (v_blobs : Nat → Int32) (x_1 : Int32) (x_2 : Int64) (o_r : Int32) (o_codes : Nat → Int32) (o_blobs : Nat → Int32) (hf : f_Draft_extendBlob v_count v_codes v_blobs x_1 x_2 = some (o_r, o_codes, o_blobs)) : Met l y_Draft_extendBlob (.code y_Draft_extendBlob b_Draft_extendBlob 7 (some .boolean) :: pu_wA) rm_Draft_extendBlob (pu_pc D pu_cl (pu_ty cI cJ cB cZ) [.ref q_this, .int x_1, .long x_2] [(q_this, .inr (1, [.ref q_codes, .ref q_numbers, .ref q_blobs, .int v_count])), (q_codes, .inl (cI, 3, .inl v_codes)), (q_blobs, .inl (cB, 300, .inl v_blobs))] sz) (pu_qi D pu_cl (pu_ty cI cJ cB cZ) [(q_this, .inr (1, [.ref q_codes, .ref q_numbers, .ref q_blobs, .int v_count])), (q_codes, .inl (cI, 3, .inl v_codes)), (q_blobs, .inl (cB, 300, .inl v_blobs))] [(q_this, .inr (1, [.ref q_codes, .ref q_numbers, .ref q_blobs, .int v_count])), (q_codes, .inl (cI, 3, .inl o_codes)), (q_blobs, .inl (cB, 300, .inl o_blobs))] sz o_r) 0 0 (va_A [(q_this, .inr (1, [.ref q_codes, .ref q_numbers, .ref q_blobs, .int v_count])), (q_codes, .inl (cI, 3, .inl v_codes)), (q_blobs, .inl (cB, 300, .inl v_blobs))] sz) := by
  refine pu_mtz [.ref q_this, .int x_1, .long x_2] [(q_this, .inr (1, [.ref q_codes, .ref q_numbers, .ref q_blobs, .int v_count])), (q_codes, .inl (cI, 3, .inl v_codes)), (q_blobs, .inl (cB, 300, .inl v_blobs))] [(q_this, .inr (1, [.ref q_codes, .ref q_numbers, .ref q_blobs, .int v_count])), (q_codes, .inl (cI, 3, .inl o_codes)), (q_blobs, .inl (cB, 300, .inl o_blobs))] o_r (by decide) (Nat.le_of_ble_eq_true rfl) ?_
  intro p e s m args below meth c A Q ls hx hb hml hts hN hown hK hA hP hD hl hret0
  have hS : va_S A s.heap s.heap [] := va_S.rf
  have hl : lv_has ls 7 [(0, .ref q_this), (1, .int x_1), (2, .long x_2)] := hl
  have hret : ∀ (pc : Nat) (ls : Array Slot) (H : Heap) (locs : List Loc) (y_0 : Int32) (y_1 : Nat → Int32) (y_2 : Nat → Int32), decode b_Draft_extendBlob pc = .ok (.ireturn, 1) → narrow .boolean (.int y_0) = .int y_0 → va_P D pu_cl [(q_this, .inr (1, [.ref q_codes, .ref q_numbers, .ref q_blobs, .int v_count])), (q_codes, .inl (cI, 3, .inl y_1)), (q_blobs, .inl (cB, 300, .inl y_2))] H → va_D A [(q_this, .inr (1, [.ref q_codes, .ref q_numbers, .ref q_blobs, .int v_count])), (q_codes, .inl (cI, 3, .inl y_1)), (q_blobs, .inl (cB, 300, .inl y_2))] → va_S A s.heap H locs → some (y_0, y_1, y_2) = some (o_r, o_codes, o_blobs) → W p l e rm_Draft_extendBlob s m args below meth c H locs 0 0 Q (F0 m pc ls [.int y_0]) := by
    intro pc ls H locs y_0 y_1 y_2 hd hz hP hD hS hf
    cases hf
    exact hret0 pc ls H locs hd hz hP hD hS
  clear hret0
  unfold f_Draft_extendBlob at hf
  skip
  have lb_109 : ∀ (v_codes : Nat → Int32) (v_blobs : Nat → Int32) (x_1 : Int32) (x_4 : Int32) (H : Heap) (locs : List Loc) (ls : Array Slot), va_P D pu_cl [(q_this, .inr (1, [.ref q_codes, .ref q_numbers, .ref q_blobs, .int v_count])), (q_codes, .inl (cI, 3, .inl v_codes)), (q_blobs, .inl (cB, 300, .inl v_blobs))] H → va_D A [(q_this, .inr (1, [.ref q_codes, .ref q_numbers, .ref q_blobs, .int v_count])), (q_codes, .inl (cI, 3, .inl v_codes)), (q_blobs, .inl (cB, 300, .inl v_blobs))] → va_S A s.heap H locs → lv_has ls 7 [(0, .ref q_this), (1, .int x_1), (4, .int x_4)] → q_Draft_extendBlob_109 v_count v_codes v_blobs x_1 x_4 = some (o_r, o_codes, o_blobs) → W p l e rm_Draft_extendBlob s m args below meth c H locs 0 0 Q (F0 m 109 ls []) := by
    intro v_codes v_blobs x_1 x_4 H locs ls hP hD hS hl hf
    rw [q_Draft_extendBlob_109] at hf
    refine lv_aload_n hx hb d_Draft_extendBlob_109 rfl (lv_at hl 0 rfl) ?_
    refine gf_Draft_9 (v := .ref q_codes) hx hb hts hN hown hK hP 0 rfl rfl d_Draft_extendBlob_110 ?_
    refine lv_iload hx hb d_Draft_extendBlob_113 (lv_at hl 2 rfl) ?_
    refine lv_dup2_11 hx hb d_Draft_extendBlob_115 rfl rfl ?_
    obtain ⟨hin, hf⟩ := pu_ck_some hf
    refine va_iald hx hb hK hP 1 0 rfl rfl hin d_Draft_extendBlob_116 ?_
    refine lv_iconst (v := 2) hx hb d_Draft_extendBlob_117 rfl ?_
    refine lv_iload_n hx hb d_Draft_extendBlob_118 rfl (lv_at hl 1 rfl) ?_
    refine lv_imul hx hb d_Draft_extendBlob_119 ?_
    refine lv_iadd hx hb d_Draft_extendBlob_120 ?_
    obtain ⟨hin, hf⟩ := pu_ck_some hf
    obtain ⟨a3, e_a3, hf⟩ := pu_nm_some hf
    refine va_iast hx hb hK hP hD hS 1 0 rfl rfl hin d_Draft_extendBlob_121 (fun H locs hP hD hS => ?_)
    have hP : va_P D pu_cl [(q_this, .inr (1, [.ref q_codes, .ref q_numbers, .ref q_blobs, .int v_count])), (q_codes, .inl (cI, 3, .inl a3)), (q_blobs, .inl (cB, 300, .inl v_blobs))] H := by rw [e_a3]; exact hP
    have hD : va_D A [(q_this, .inr (1, [.ref q_codes, .ref q_numbers, .ref q_blobs, .int v_count])), (q_codes, .inl (cI, 3, .inl a3)), (q_blobs, .inl (cB, 300, .inl v_blobs))] := by rw [e_a3]; exact hD
    refine lv_iconst (v := 1) hx hb d_Draft_extendBlob_122 rfl ?_
    exact hret _ _ _ _ (1 : Int32) a3 v_blobs d_Draft_extendBlob_123 (by decide) hP hD hS hf
  have lp_68 : ∀ (v_codes : Nat → Int32) (x_1 : Int32) (x_2 : Int64) (x_4 : Int32) (x_5 : Int32) (n68 : Nat) (v_blobs : Nat → Int32) (x_6 : Int32) (H : Heap) (locs : List Loc) (ls : Array Slot), va_P D pu_cl [(q_this, .inr (1, [.ref q_codes, .ref q_numbers, .ref q_blobs, .int v_count])), (q_codes, .inl (cI, 3, .inl v_codes)), (q_blobs, .inl (cB, 300, .inl v_blobs))] H → va_D A [(q_this, .inr (1, [.ref q_codes, .ref q_numbers, .ref q_blobs, .int v_count])), (q_codes, .inl (cI, 3, .inl v_codes)), (q_blobs, .inl (cB, 300, .inl v_blobs))] → va_S A s.heap H locs → lv_has ls 7 [(0, .ref q_this), (1, .int x_1), (2, .long x_2), (4, .int x_4), (5, .int x_5), (6, .int x_6)] → q_Draft_extendBlob_68 (fun v_blobs => q_Draft_extendBlob_109 v_count v_codes v_blobs x_1 x_4) v_count v_codes x_1 x_2 x_4 x_5 n68 v_blobs x_6 = some (o_r, o_codes, o_blobs) → W p l e rm_Draft_extendBlob s m args below meth c H locs 0 0 Q (F0 m 68 ls []) := by
    intro v_codes x_1 x_2 x_4 x_5 n68
    induction n68 with
    | zero =>
      intro v_blobs x_6 H locs ls hP hD hS hl hf
      rw [q_Draft_extendBlob_68] at hf
      cases hf
    | succ n68 ih_68 =>
      intro v_blobs x_6 H locs ls hP hD hS hl hf
      rw [q_Draft_extendBlob_68] at hf
      refine lv_iload hx hb d_Draft_extendBlob_68 (lv_at hl 5 rfl) ?_
      refine lv_iload_n hx hb d_Draft_extendBlob_70 rfl (lv_at hl 1 rfl) ?_
      refine lv_icmp_ge (tgt := 109) hx hb d_Draft_extendBlob_71 rfl (fun hc => ?_) (fun hc => ?_)
      · have hf := pu_br_pos hf hc
        exact lb_109 v_codes v_blobs x_1 x_4 H locs ls hP hD hS (lv_sub hl [0, 1, 3] rfl) hf
      have hf := pu_br_neg hf hc
      refine lv_aload_n hx hb d_Draft_extendBlob_74 rfl (lv_at hl 0 rfl) ?_
      refine gf_Draft_19 (v := .ref q_blobs) hx hb hts hN hown hK hP 0 rfl rfl d_Draft_extendBlob_75 ?_
      refine lv_iload hx hb d_Draft_extendBlob_78 (lv_at hl 3 rfl) ?_
      refine lv_bipush (v := 100) hx hb d_Draft_extendBlob_80 rfl ?_
      refine lv_imul hx hb d_Draft_extendBlob_82 ?_
      refine lv_iload hx hb d_Draft_extendBlob_83 (lv_at hl 4 rfl) ?_
      refine lv_iadd hx hb d_Draft_extendBlob_85 ?_
      refine lv_iload hx hb d_Draft_extendBlob_86 (lv_at hl 5 rfl) ?_
      refine lv_iadd hx hb d_Draft_extendBlob_88 ?_
      refine lv_lload_n hx hb d_Draft_extendBlob_89 rfl (lv_at hl 2 rfl) ?_
      refine lv_bipush (v := 8) hx hb d_Draft_extendBlob_90 rfl ?_
      refine lv_iload_n hx hb d_Draft_extendBlob_92 rfl (lv_at hl 1 rfl) ?_
      refine lv_iconst (v := 1) hx hb d_Draft_extendBlob_93 rfl ?_
      refine lv_isub hx hb d_Draft_extendBlob_94 ?_
      refine lv_iload hx hb d_Draft_extendBlob_95 (lv_at hl 5 rfl) ?_
      refine lv_isub hx hb d_Draft_extendBlob_97 ?_
      refine lv_imul hx hb d_Draft_extendBlob_98 ?_
      refine lv_lshr hx hb d_Draft_extendBlob_99 rfl ?_
      refine lv_l2i hx hb d_Draft_extendBlob_100 rfl ?_
      refine lv_i2b hx hb d_Draft_extendBlob_101 rfl ?_
      obtain ⟨hin, hf⟩ := pu_ck_some hf
      obtain ⟨a4, e_a4, hf⟩ := pu_nm_some hf
      refine va_bast hx hb hK hP hD hS 2 2 rfl rfl hin d_Draft_extendBlob_102 (fun H locs hP hD hS => ?_)
      have hP : va_P D pu_cl [(q_this, .inr (1, [.ref q_codes, .ref q_numbers, .ref q_blobs, .int v_count])), (q_codes, .inl (cI, 3, .inl v_codes)), (q_blobs, .inl (cB, 300, .inl a4))] H := by rw [e_a4]; exact hP
      have hD : va_D A [(q_this, .inr (1, [.ref q_codes, .ref q_numbers, .ref q_blobs, .int v_count])), (q_codes, .inl (cI, 3, .inl v_codes)), (q_blobs, .inl (cB, 300, .inl a4))] := by rw [e_a4]; exact hD
      obtain ⟨t5, e_t5, hf⟩ := pu_nm_some hf
      refine lv_iinc (k := 5) (v := t5) hx hb d_Draft_extendBlob_103 hl rfl e_t5.symm (by decide) rfl (fun ls hl => ?_)
      have hl : lv_has ls 7 [(6, .int t5), (0, .ref q_this), (1, .int x_1), (2, .long x_2), (4, .int x_4), (5, .int x_5)] := hl
      refine lv_goto (tgt := 68) hx hb d_Draft_extendBlob_106 rfl ?_
      exact ih_68 a4 t5 H locs ls hP hD hS (lv_sub hl [1, 2, 3, 4, 5, 0] rfl) hf
  obtain ⟨H, hH⟩ : ∃ H, H = s.heap := ⟨_, rfl⟩
  obtain ⟨locs, hlocs⟩ : ∃ locs : List Loc, locs = [] := ⟨_, rfl⟩
  have hP : va_P D pu_cl [(q_this, .inr (1, [.ref q_codes, .ref q_numbers, .ref q_blobs, .int v_count])), (q_codes, .inl (cI, 3, .inl v_codes)), (q_blobs, .inl (cB, 300, .inl v_blobs))] H := by rw [hH]; exact hP
  have hS : va_S A s.heap H locs := by rw [hH, hlocs]; exact hS
  have goal : W p l e rm_Draft_extendBlob s m args below meth c H locs 0 0 Q (F0 m 0 ls []) := by
    clear hH hlocs
    refine lv_aload_n hx hb d_Draft_extendBlob_0 rfl (lv_at hl 0 rfl) ?_
    refine gf_Draft_23 (v := .int v_count) hx hb hts hN hown hK hP 0 rfl rfl d_Draft_extendBlob_1 ?_
    refine lv_iconst (v := 1) hx hb d_Draft_extendBlob_4 rfl ?_
    refine lv_isub hx hb d_Draft_extendBlob_5 ?_
    obtain ⟨t1, e_t1, hf⟩ := pu_nm_some hf
    refine pu_ti e_t1 ?_
    refine lv_istore hx hb d_Draft_extendBlob_6 hl (by decide) rfl (fun ls hl => ?_)
    have hl : lv_has ls 7 [(4, .int t1), (0, .ref q_this), (1, .int x_1), (2, .long x_2)] := hl
    refine lv_iload hx hb d_Draft_extendBlob_8 (lv_at hl 0 rfl) ?_
    refine lv_if_lt (tgt := 31) hx hb d_Draft_extendBlob_10 rfl (fun hc => ?_) (fun hc => ?_)
    · have hf := pu_br_pos hf hc
      refine lv_iconst (v := 0) hx hb d_Draft_extendBlob_31 rfl ?_
      exact hret _ _ _ _ (0 : Int32) v_codes v_blobs d_Draft_extendBlob_32 (by decide) hP hD hS hf
    have hf := pu_br_neg hf hc
    refine lv_iload hx hb d_Draft_extendBlob_13 (lv_at hl 0 rfl) ?_
    refine lv_iconst (v := 3) hx hb d_Draft_extendBlob_15 rfl ?_
    refine lv_icmp_ge (tgt := 31) hx hb d_Draft_extendBlob_16 rfl (fun hc => ?_) (fun hc => ?_)
    · have hf := pu_br_pos hf hc
      refine lv_iconst (v := 0) hx hb d_Draft_extendBlob_31 rfl ?_
      exact hret _ _ _ _ (0 : Int32) v_codes v_blobs d_Draft_extendBlob_32 (by decide) hP hD hS hf
    have hf := pu_br_neg hf hc
    refine lv_aload_n hx hb d_Draft_extendBlob_19 rfl (lv_at hl 1 rfl) ?_
    refine gf_Draft_9 (v := .ref q_codes) hx hb hts hN hown hK hP 0 rfl rfl d_Draft_extendBlob_20 ?_
    refine lv_iload hx hb d_Draft_extendBlob_23 (lv_at hl 0 rfl) ?_
    obtain ⟨hin, hf⟩ := pu_ck_some hf
    refine va_iald hx hb hK hP 1 0 rfl rfl hin d_Draft_extendBlob_25 ?_
    refine lv_bipush (v := 12) hx hb d_Draft_extendBlob_26 rfl ?_
    refine lv_icmp_ge (tgt := 33) hx hb d_Draft_extendBlob_28 rfl (fun hc => ?_) (fun hc => ?_)
    · have hf := pu_br_pos hf hc
      refine lv_aload_n hx hb d_Draft_extendBlob_33 rfl (lv_at hl 1 rfl) ?_
      refine gf_Draft_9 (v := .ref q_codes) hx hb hts hN hown hK hP 0 rfl rfl d_Draft_extendBlob_34 ?_
      refine lv_iload hx hb d_Draft_extendBlob_37 (lv_at hl 0 rfl) ?_
      obtain ⟨hin, hf⟩ := pu_ck_some hf
      refine va_iald hx hb hK hP 1 0 rfl rfl hin d_Draft_extendBlob_39 ?_
      obtain ⟨r2, hc, hf⟩ := pu_b1_some hf
      refine cl_i (WC := []) (WC2 := []) (WR := [(q_this, .inr (1, [.ref q_codes, .ref q_numbers, .ref q_blobs, .int v_count])), (q_codes, .inl (cI, 3, .inl v_codes)), (q_blobs, .inl (cB, 300, .inl v_blobs))]) (WS2 := [(q_this, .inr (1, [.ref q_codes, .ref q_numbers, .ref q_blobs, .int v_count])), (q_codes, .inl (cI, 3, .inl v_codes)), (q_blobs, .inl (cB, 300, .inl v_blobs))]) (pu_rsn (List.mem_of_getElem? (i := 30) rfl) (pu_in3 _ (List.mem_of_getElem? (i := 18) rfl)) (pu_in0 _ (List.mem_of_getElem? (i := 1) rfl)) (pu_in3 _ (List.mem_of_getElem? (i := 19) rfl)) hd_RF_valueSize (by decide) ⟨rfl, rfl⟩ rfl rfl (Nat.le_of_ble_eq_true rfl) (As := [.int (v_codes t1.toNatClampNeg)]) (rest := []) (WC := []) hx hb hml hown hts hN hK hP hD (c_RF_valueSize l D cI cJ cB cZ H.size (v_codes t1.toNatClampNeg) r2 hc) [] rfl rfl hl.1 d_Draft_extendBlob_40) hP hD hS hA [] [0, 1, 2] [0, 1, 2] rfl rfl rfl (by decide) rfl rfl (fun H locs hP hD hS => ?_)
      refine lv_istore hx hb d_Draft_extendBlob_43 hl (by decide) rfl (fun ls hl => ?_)
      have hl : lv_has ls 7 [(5, .int r2), (4, .int t1), (0, .ref q_this), (1, .int x_1), (2, .long x_2)] := hl
      refine lv_iload_n hx hb d_Draft_extendBlob_45 rfl (lv_at hl 3 rfl) ?_
      refine lv_if_lt (tgt := 63) hx hb d_Draft_extendBlob_46 rfl (fun hc => ?_) (fun hc => ?_)
      · have hf := pu_br_pos hf hc
        refine lv_iconst (v := 0) hx hb d_Draft_extendBlob_63 rfl ?_
        exact hret _ _ _ _ (0 : Int32) v_codes v_blobs d_Draft_extendBlob_64 (by decide) hP hD hS hf
      have hf := pu_br_neg hf hc
      refine lv_iload hx hb d_Draft_extendBlob_49 (lv_at hl 0 rfl) ?_
      refine lv_if_lt (tgt := 63) hx hb d_Draft_extendBlob_51 rfl (fun hc => ?_) (fun hc => ?_)
      · have hf := pu_br_pos hf hc
        refine lv_iconst (v := 0) hx hb d_Draft_extendBlob_63 rfl ?_
        exact hret _ _ _ _ (0 : Int32) v_codes v_blobs d_Draft_extendBlob_64 (by decide) hP hD hS hf
      have hf := pu_br_neg hf hc
      refine lv_iload hx hb d_Draft_extendBlob_54 (lv_at hl 0 rfl) ?_
      refine lv_iload_n hx hb d_Draft_extendBlob_56 rfl (lv_at hl 3 rfl) ?_
      refine lv_iadd hx hb d_Draft_extendBlob_57 ?_
      refine lv_bipush (v := 100) hx hb d_Draft_extendBlob_58 rfl ?_
      refine lv_icmp_le (tgt := 65) hx hb d_Draft_extendBlob_60 rfl (fun hc => ?_) (fun hc => ?_)
      · have hf := pu_br_pos hf hc
        refine lv_iconst (v := 0) hx hb d_Draft_extendBlob_65 rfl ?_
        refine lv_istore hx hb d_Draft_extendBlob_66 hl (by decide) rfl (fun ls hl => ?_)
        have hl : lv_has ls 7 [(6, .int (0 : Int32)), (5, .int r2), (4, .int t1), (0, .ref q_this), (1, .int x_1), (2, .long x_2)] := hl
        exact lp_68 v_codes x_1 x_2 t1 r2 _ v_blobs (0 : Int32) H locs ls hP hD hS (lv_sub hl [3, 4, 5, 2, 1, 0] rfl) hf
      have hf := pu_br_neg hf hc
      refine lv_iconst (v := 0) hx hb d_Draft_extendBlob_63 rfl ?_
      exact hret _ _ _ _ (0 : Int32) v_codes v_blobs d_Draft_extendBlob_64 (by decide) hP hD hS hf
    have hf := pu_br_neg hf hc
    refine lv_iconst (v := 0) hx hb d_Draft_extendBlob_31 rfl ?_
    exact hret _ _ _ _ (0 : Int32) v_codes v_blobs d_Draft_extendBlob_32 (by decide) hP hD hS hf
  rw [hH, hlocs] at goal
  exact goal
theorem d_RF_blob_0 : decode b_RF_blob 0 = .ok (.iload_n 2, 1) := by decide +kernel
theorem d_RF_blob_1 : decode b_RF_blob 1 = .ok (.ifCond .lt 9, 3) := by decide +kernel
theorem d_RF_blob_4 : decode b_RF_blob 4 = .ok (.iload_n 2, 1) := by decide +kernel
theorem d_RF_blob_5 : decode b_RF_blob 5 = .ok (.bipush 8, 2) := by decide +kernel
theorem d_RF_blob_7 : decode b_RF_blob 7 = .ok (.if_icmp .le 5, 3) := by decide +kernel
theorem d_RF_blob_10 : decode b_RF_blob 10 = .ok (.iconst 0, 1) := by decide +kernel
theorem d_RF_blob_11 : decode b_RF_blob 11 = .ok (.ireturn, 1) := by decide +kernel
theorem d_RF_blob_12 : decode b_RF_blob 12 = .ok (.iload_n 1, 1) := by decide +kernel
theorem d_RF_blob_13 : decode b_RF_blob 13 = .ok (.ifCond .ne 15, 3) := by decide +kernel
theorem d_RF_blob_16 : decode b_RF_blob 16 = .ok (.aload_n 0, 1) := by decide +kernel
theorem d_RF_blob_17 : decode b_RF_blob 17 = .ok (.getfield 12, 3) := by decide +kernel
theorem d_RF_blob_20 : decode b_RF_blob 20 = .ok (.invokevirtual 85, 3) := by decide +kernel
theorem d_RF_blob_23 : decode b_RF_blob 23 = .ok (.ifCond .ne 5, 3) := by decide +kernel
theorem d_RF_blob_26 : decode b_RF_blob 26 = .ok (.iconst 0, 1) := by decide +kernel
theorem d_RF_blob_27 : decode b_RF_blob 27 = .ok (.ireturn, 1) := by decide +kernel
theorem d_RF_blob_28 : decode b_RF_blob 28 = .ok (.aload_n 0, 1) := by decide +kernel
theorem d_RF_blob_29 : decode b_RF_blob 29 = .ok (.getfield 12, 3) := by decide +kernel
theorem d_RF_blob_32 : decode b_RF_blob 32 = .ok (.iload_n 2, 1) := by decide +kernel
theorem d_RF_blob_33 : decode b_RF_blob 33 = .ok (.lload_n 3, 1) := by decide +kernel
theorem d_RF_blob_34 : decode b_RF_blob 34 = .ok (.invokevirtual 89, 3) := by decide +kernel
theorem d_RF_blob_37 : decode b_RF_blob 37 = .ok (.ireturn, 1) := by decide +kernel
noncomputable def q_RF_blob_28 (v_draft_count : Int32) (v_draft_codes : Nat → Int32) (v_draft_blobs : Nat → Int32) (x_2 : Int32) (x_3 : Int64) : Option (Int32 × Int32 × (Nat → Int32) × (Nat → Int32)) :=
  pu_b3 (f_Draft_extendBlob v_draft_count v_draft_codes v_draft_blobs x_2 x_3) (fun r1 w2 w3 => pu_ck (pu_bz r1) (some (r1, v_draft_count, w2, w3)))
noncomputable def f_RF_blob (v_draft_count : Int32) (v_draft_codes : Nat → Int32) (v_draft_blobs : Nat → Int32) (x_1 : Int32) (x_2 : Int32) (x_3 : Int64) : Option (Int32 × Int32 × (Nat → Int32) × (Nat → Int32)) :=
  pu_br (x_2 < 0) (some ((0 : Int32), v_draft_count, v_draft_codes, v_draft_blobs)) (pu_br (x_2 ≤ (8 : Int32)) (pu_br (x_1 = 0) (pu_b3 (f_Draft_addBlob v_draft_count v_draft_codes) (fun r4 w5 w6 => pu_br (r4 = 0) (some ((0 : Int32), w5, w6, v_draft_blobs)) (q_RF_blob_28 w5 w6 v_draft_blobs x_2 x_3))) (q_RF_blob_28 v_draft_count v_draft_codes v_draft_blobs x_2 x_3)) (some ((0 : Int32), v_draft_count, v_draft_codes, v_draft_blobs)))
abbrev rm_RF_blob : Room := { frames := 2, cells := 0, slots := 0, locals := 47 }
set_option maxHeartbeats 8000000 in
set_option maxRecDepth 100000 in
theorem c_RF_blob (l : Launch) (D : va_G) (cI cJ cB cZ : ClassId) (sz : Nat) (q_this : Nat) (q_draft : Nat) (q_now : Nat) (q_before : Nat) (q_disk : Nat) (q_row : Nat) (q_node : Nat) (q_tree : Nat) (q_check : Nat) (q_draft_codes : Nat) (q_draft_numbers : Nat) (q_draft_blobs : Nat) (v_up : Int32) (v_armed : Int32) (v_draft_count : Int32) (v_draft_codes : Nat → Int32) (v_draft_blobs : Nat → Int32) (x_1 : Int32) (x_2 : Int32) (x_3 : Int64) (o_r : Int32) (o_draft_count : Int32) (o_draft_codes : Nat → Int32) (o_draft_blobs : Nat → Int32) (hf : f_RF_blob v_draft_count v_draft_codes v_draft_blobs x_1 x_2 x_3 = some (o_r, o_draft_count, o_draft_codes, o_draft_blobs)) : Met l y_RF_blob (.code y_RF_blob b_RF_blob 5 (some .boolean) :: pu_wA) rm_RF_blob (pu_pc D pu_cl (pu_ty cI cJ cB cZ) [.ref q_this, .int x_1, .int x_2, .long x_3] [(q_this, .inr (7, [.ref q_draft, .ref q_now, .ref q_before, .ref q_disk, .ref q_row, .ref q_node, .ref q_tree, .ref q_check, .int v_up, .int v_armed])), (q_draft, .inr (1, [.ref q_draft_codes, .ref q_draft_numbers, .ref q_draft_blobs, .int v_draft_count])), (q_draft_codes, .inl (cI, 3, .inl v_draft_codes)), (q_draft_blobs, .inl (cB, 300, .inl v_draft_blobs))] sz) (pu_qi D pu_cl (pu_ty cI cJ cB cZ) [(q_this, .inr (7, [.ref q_draft, .ref q_now, .ref q_before, .ref q_disk, .ref q_row, .ref q_node, .ref q_tree, .ref q_check, .int v_up, .int v_armed])), (q_draft, .inr (1, [.ref q_draft_codes, .ref q_draft_numbers, .ref q_draft_blobs, .int v_draft_count])), (q_draft_codes, .inl (cI, 3, .inl v_draft_codes)), (q_draft_blobs, .inl (cB, 300, .inl v_draft_blobs))] [(q_this, .inr (7, [.ref q_draft, .ref q_now, .ref q_before, .ref q_disk, .ref q_row, .ref q_node, .ref q_tree, .ref q_check, .int v_up, .int v_armed])), (q_draft, .inr (1, [.ref q_draft_codes, .ref q_draft_numbers, .ref q_draft_blobs, .int o_draft_count])), (q_draft_codes, .inl (cI, 3, .inl o_draft_codes)), (q_draft_blobs, .inl (cB, 300, .inl o_draft_blobs))] sz o_r) 0 0 (va_A [(q_this, .inr (7, [.ref q_draft, .ref q_now, .ref q_before, .ref q_disk, .ref q_row, .ref q_node, .ref q_tree, .ref q_check, .int v_up, .int v_armed])), (q_draft, .inr (1, [.ref q_draft_codes, .ref q_draft_numbers, .ref q_draft_blobs, .int v_draft_count])), (q_draft_codes, .inl (cI, 3, .inl v_draft_codes)), (q_draft_blobs, .inl (cB, 300, .inl v_draft_blobs))] sz) := by
  refine pu_mtz [.ref q_this, .int x_1, .int x_2, .long x_3] [(q_this, .inr (7, [.ref q_draft, .ref q_now, .ref q_before, .ref q_disk, .ref q_row, .ref q_node, .ref q_tree, .ref q_check, .int v_up, .int v_armed])), (q_draft, .inr (1, [.ref q_draft_codes, .ref q_draft_numbers, .ref q_draft_blobs, .int v_draft_count])), (q_draft_codes, .inl (cI, 3, .inl v_draft_codes)), (q_draft_blobs, .inl (cB, 300, .inl v_draft_blobs))] [(q_this, .inr (7, [.ref q_draft, .ref q_now, .ref q_before, .ref q_disk, .ref q_row, .ref q_node, .ref q_tree, .ref q_check, .int v_up, .int v_armed])), (q_draft, .inr (1, [.ref q_draft_codes, .ref q_draft_numbers, .ref q_draft_blobs, .int o_draft_count])), (q_draft_codes, .inl (cI, 3, .inl o_draft_codes)), (q_draft_blobs, .inl (cB, 300, .inl o_draft_blobs))] o_r (by decide) (Nat.le_of_ble_eq_true rfl) ?_
  intro p e s m args below meth c A Q ls hx hb hml hts hN hown hK hA hP hD hl hret0
  have hS : va_S A s.heap s.heap [] := va_S.rf
  have hl : lv_has ls 5 [(0, .ref q_this), (1, .int x_1), (2, .int x_2), (3, .long x_3)] := hl
  have hret : ∀ (pc : Nat) (ls : Array Slot) (H : Heap) (locs : List Loc) (y_0 : Int32) (y_1 : Int32) (y_2 : Nat → Int32) (y_3 : Nat → Int32), decode b_RF_blob pc = .ok (.ireturn, 1) → narrow .boolean (.int y_0) = .int y_0 → va_P D pu_cl [(q_this, .inr (7, [.ref q_draft, .ref q_now, .ref q_before, .ref q_disk, .ref q_row, .ref q_node, .ref q_tree, .ref q_check, .int v_up, .int v_armed])), (q_draft, .inr (1, [.ref q_draft_codes, .ref q_draft_numbers, .ref q_draft_blobs, .int y_1])), (q_draft_codes, .inl (cI, 3, .inl y_2)), (q_draft_blobs, .inl (cB, 300, .inl y_3))] H → va_D A [(q_this, .inr (7, [.ref q_draft, .ref q_now, .ref q_before, .ref q_disk, .ref q_row, .ref q_node, .ref q_tree, .ref q_check, .int v_up, .int v_armed])), (q_draft, .inr (1, [.ref q_draft_codes, .ref q_draft_numbers, .ref q_draft_blobs, .int y_1])), (q_draft_codes, .inl (cI, 3, .inl y_2)), (q_draft_blobs, .inl (cB, 300, .inl y_3))] → va_S A s.heap H locs → some (y_0, y_1, y_2, y_3) = some (o_r, o_draft_count, o_draft_codes, o_draft_blobs) → W p l e rm_RF_blob s m args below meth c H locs 0 0 Q (F0 m pc ls [.int y_0]) := by
    intro pc ls H locs y_0 y_1 y_2 y_3 hd hz hP hD hS hf
    cases hf
    exact hret0 pc ls H locs hd hz hP hD hS
  clear hret0
  unfold f_RF_blob at hf
  skip
  have lb_28 : ∀ (v_draft_count : Int32) (v_draft_codes : Nat → Int32) (v_draft_blobs : Nat → Int32) (x_2 : Int32) (x_3 : Int64) (H : Heap) (locs : List Loc) (ls : Array Slot), va_P D pu_cl [(q_this, .inr (7, [.ref q_draft, .ref q_now, .ref q_before, .ref q_disk, .ref q_row, .ref q_node, .ref q_tree, .ref q_check, .int v_up, .int v_armed])), (q_draft, .inr (1, [.ref q_draft_codes, .ref q_draft_numbers, .ref q_draft_blobs, .int v_draft_count])), (q_draft_codes, .inl (cI, 3, .inl v_draft_codes)), (q_draft_blobs, .inl (cB, 300, .inl v_draft_blobs))] H → va_D A [(q_this, .inr (7, [.ref q_draft, .ref q_now, .ref q_before, .ref q_disk, .ref q_row, .ref q_node, .ref q_tree, .ref q_check, .int v_up, .int v_armed])), (q_draft, .inr (1, [.ref q_draft_codes, .ref q_draft_numbers, .ref q_draft_blobs, .int v_draft_count])), (q_draft_codes, .inl (cI, 3, .inl v_draft_codes)), (q_draft_blobs, .inl (cB, 300, .inl v_draft_blobs))] → va_S A s.heap H locs → lv_has ls 5 [(0, .ref q_this), (2, .int x_2), (3, .long x_3)] → q_RF_blob_28 v_draft_count v_draft_codes v_draft_blobs x_2 x_3 = some (o_r, o_draft_count, o_draft_codes, o_draft_blobs) → W p l e rm_RF_blob s m args below meth c H locs 0 0 Q (F0 m 28 ls []) := by
    intro v_draft_count v_draft_codes v_draft_blobs x_2 x_3 H locs ls hP hD hS hl hf
    rw [q_RF_blob_28] at hf
    refine lv_aload_n hx hb d_RF_blob_28 rfl (lv_at hl 0 rfl) ?_
    refine gf_RF_12 (v := .ref q_draft) hx hb hts hN hown hK hP 0 rfl rfl d_RF_blob_29 ?_
    refine lv_iload_n hx hb d_RF_blob_32 rfl (lv_at hl 1 rfl) ?_
    refine lv_lload_n hx hb d_RF_blob_33 rfl (lv_at hl 2 rfl) ?_
    obtain ⟨r1, w2, w3, hc, hf⟩ := pu_b3_some hf
    refine cl_i (WC := [(q_draft, .inr (1, [.ref q_draft_codes, .ref q_draft_numbers, .ref q_draft_blobs, .int v_draft_count])), (q_draft_codes, .inl (cI, 3, .inl v_draft_codes)), (q_draft_blobs, .inl (cB, 300, .inl v_draft_blobs))]) (WC2 := [(q_draft, .inr (1, [.ref q_draft_codes, .ref q_draft_numbers, .ref q_draft_blobs, .int v_draft_count])), (q_draft_codes, .inl (cI, 3, .inl w2)), (q_draft_blobs, .inl (cB, 300, .inl w3))]) (WR := [(q_this, .inr (7, [.ref q_draft, .ref q_now, .ref q_before, .ref q_disk, .ref q_row, .ref q_node, .ref q_tree, .ref q_check, .int v_up, .int v_armed]))]) (WS2 := [(q_this, .inr (7, [.ref q_draft, .ref q_now, .ref q_before, .ref q_disk, .ref q_row, .ref q_node, .ref q_tree, .ref q_check, .int v_up, .int v_armed])), (q_draft, .inr (1, [.ref q_draft_codes, .ref q_draft_numbers, .ref q_draft_blobs, .int v_draft_count])), (q_draft_codes, .inl (cI, 3, .inl w2)), (q_draft_blobs, .inl (cB, 300, .inl w3))]) (pu_rv (cl := pu_cl) (pu_in3 _ (List.mem_of_getElem? (i := 14) rfl)) (pu_in3 _ (List.mem_of_getElem? (i := 15) rfl)) (pu_in3 _ (List.mem_of_getElem? (i := 16) rfl)) (pu_in0 _ (List.mem_of_getElem? (i := 2) rfl)) (pu_in3 _ (List.mem_of_getElem? (i := 17) rfl)) (ci := 1) rfl hd_Draft_extendBlob (by decide) ⟨rfl, rfl⟩ rfl rfl (Nat.le_of_ble_eq_true rfl) rfl (As := [.int x_2, .long x_3]) (rest := []) (WC := [(q_draft, .inr (1, [.ref q_draft_codes, .ref q_draft_numbers, .ref q_draft_blobs, .int v_draft_count])), (q_draft_codes, .inl (cI, 3, .inl v_draft_codes)), (q_draft_blobs, .inl (cB, 300, .inl v_draft_blobs))]) hx hb hml hown hts hN hK hP hD (c_Draft_extendBlob l D cI cJ cB cZ H.size q_draft q_draft_codes q_draft_numbers q_draft_blobs v_draft_count v_draft_codes v_draft_blobs x_2 x_3 r1 w2 w3 hc) [1, 2, 3] rfl rfl hl.1 d_RF_blob_34) hP hD hS hA [1, 2, 3] [0] [0, 1, 2, 3] rfl rfl rfl (by decide) rfl rfl (fun H locs hP hD hS => ?_)
    obtain ⟨hz, hf⟩ := pu_ck_some hf
    exact hret _ _ _ _ r1 v_draft_count w2 w3 d_RF_blob_37 hz hP hD hS hf
  obtain ⟨H, hH⟩ : ∃ H, H = s.heap := ⟨_, rfl⟩
  obtain ⟨locs, hlocs⟩ : ∃ locs : List Loc, locs = [] := ⟨_, rfl⟩
  have hP : va_P D pu_cl [(q_this, .inr (7, [.ref q_draft, .ref q_now, .ref q_before, .ref q_disk, .ref q_row, .ref q_node, .ref q_tree, .ref q_check, .int v_up, .int v_armed])), (q_draft, .inr (1, [.ref q_draft_codes, .ref q_draft_numbers, .ref q_draft_blobs, .int v_draft_count])), (q_draft_codes, .inl (cI, 3, .inl v_draft_codes)), (q_draft_blobs, .inl (cB, 300, .inl v_draft_blobs))] H := by rw [hH]; exact hP
  have hS : va_S A s.heap H locs := by rw [hH, hlocs]; exact hS
  have goal : W p l e rm_RF_blob s m args below meth c H locs 0 0 Q (F0 m 0 ls []) := by
    clear hH hlocs
    refine lv_iload_n hx hb d_RF_blob_0 rfl (lv_at hl 2 rfl) ?_
    refine lv_if_lt (tgt := 10) hx hb d_RF_blob_1 rfl (fun hc => ?_) (fun hc => ?_)
    · have hf := pu_br_pos hf hc
      refine lv_iconst (v := 0) hx hb d_RF_blob_10 rfl ?_
      exact hret _ _ _ _ (0 : Int32) v_draft_count v_draft_codes v_draft_blobs d_RF_blob_11 (by decide) hP hD hS hf
    have hf := pu_br_neg hf hc
    refine lv_iload_n hx hb d_RF_blob_4 rfl (lv_at hl 2 rfl) ?_
    refine lv_bipush (v := 8) hx hb d_RF_blob_5 rfl ?_
    refine lv_icmp_le (tgt := 12) hx hb d_RF_blob_7 rfl (fun hc => ?_) (fun hc => ?_)
    · have hf := pu_br_pos hf hc
      refine lv_iload_n hx hb d_RF_blob_12 rfl (lv_at hl 1 rfl) ?_
      refine lv_if_ne (tgt := 28) hx hb d_RF_blob_13 rfl (fun hc => ?_) (fun hc => ?_)
      · have hf := pu_br_neg hf hc
        exact lb_28 v_draft_count v_draft_codes v_draft_blobs x_2 x_3 H locs ls hP hD hS (lv_sub hl [0, 2, 3] rfl) hf
      have hf := pu_br_pos hf hc
      refine lv_aload_n hx hb d_RF_blob_16 rfl (lv_at hl 0 rfl) ?_
      refine gf_RF_12 (v := .ref q_draft) hx hb hts hN hown hK hP 0 rfl rfl d_RF_blob_17 ?_
      obtain ⟨r4, w5, w6, hc, hf⟩ := pu_b3_some hf
      refine cl_i (WC := [(q_draft, .inr (1, [.ref q_draft_codes, .ref q_draft_numbers, .ref q_draft_blobs, .int v_draft_count])), (q_draft_codes, .inl (cI, 3, .inl v_draft_codes))]) (WC2 := [(q_draft, .inr (1, [.ref q_draft_codes, .ref q_draft_numbers, .ref q_draft_blobs, .int w5])), (q_draft_codes, .inl (cI, 3, .inl w6))]) (WR := [(q_this, .inr (7, [.ref q_draft, .ref q_now, .ref q_before, .ref q_disk, .ref q_row, .ref q_node, .ref q_tree, .ref q_check, .int v_up, .int v_armed])), (q_draft_blobs, .inl (cB, 300, .inl v_draft_blobs))]) (WS2 := [(q_this, .inr (7, [.ref q_draft, .ref q_now, .ref q_before, .ref q_disk, .ref q_row, .ref q_node, .ref q_tree, .ref q_check, .int v_up, .int v_armed])), (q_draft, .inr (1, [.ref q_draft_codes, .ref q_draft_numbers, .ref q_draft_blobs, .int w5])), (q_draft_codes, .inl (cI, 3, .inl w6)), (q_draft_blobs, .inl (cB, 300, .inl v_draft_blobs))]) (pu_rv (cl := pu_cl) (pu_in3 _ (List.mem_of_getElem? (i := 10) rfl)) (pu_in3 _ (List.mem_of_getElem? (i := 11) rfl)) (pu_in3 _ (List.mem_of_getElem? (i := 12) rfl)) (pu_in0 _ (List.mem_of_getElem? (i := 2) rfl)) (pu_in3 _ (List.mem_of_getElem? (i := 13) rfl)) (ci := 1) rfl hd_Draft_addBlob (by decide) ⟨rfl, rfl⟩ rfl rfl (Nat.le_of_ble_eq_true rfl) rfl (As := []) (rest := []) (WC := [(q_draft, .inr (1, [.ref q_draft_codes, .ref q_draft_numbers, .ref q_draft_blobs, .int v_draft_count])), (q_draft_codes, .inl (cI, 3, .inl v_draft_codes))]) hx hb hml hown hts hN hK hP hD (c_Draft_addBlob l D cI cJ cB cZ H.size q_draft q_draft_codes q_draft_numbers q_draft_blobs v_draft_count v_draft_codes r4 w5 w6 hc) [1, 2] rfl rfl hl.1 d_RF_blob_20) hP hD hS hA [1, 2] [0, 3] [0, 2, 3, 1] rfl rfl rfl (by decide) rfl rfl (fun H locs hP hD hS => ?_)
      refine lv_if_ne (tgt := 28) hx hb d_RF_blob_23 rfl (fun hc => ?_) (fun hc => ?_)
      · have hf := pu_br_neg hf hc
        exact lb_28 w5 w6 v_draft_blobs x_2 x_3 H locs ls hP hD hS (lv_sub hl [0, 2, 3] rfl) hf
      have hf := pu_br_pos hf hc
      refine lv_iconst (v := 0) hx hb d_RF_blob_26 rfl ?_
      exact hret _ _ _ _ (0 : Int32) w5 w6 v_draft_blobs d_RF_blob_27 (by decide) hP hD hS hf
    have hf := pu_br_neg hf hc
    refine lv_iconst (v := 0) hx hb d_RF_blob_10 rfl ?_
    exact hret _ _ _ _ (0 : Int32) v_draft_count v_draft_codes v_draft_blobs d_RF_blob_11 (by decide) hP hD hS hf
  rw [hH, hlocs] at goal
  exact goal
theorem d_RF_clear_0 : decode b_RF_clear 0 = .ok (.aload_n 0, 1) := by decide +kernel
theorem d_RF_clear_1 : decode b_RF_clear 1 = .ok (.getfield 12, 3) := by decide +kernel
theorem d_RF_clear_4 : decode b_RF_clear 4 = .ok (.iconst 0, 1) := by decide +kernel
theorem d_RF_clear_5 : decode b_RF_clear 5 = .ok (.putfield 93, 3) := by decide +kernel
theorem d_RF_clear_8 : decode b_RF_clear 8 = .ok (.return_, 1) := by decide +kernel
noncomputable def f_RF_clear (v_draft_count : Int32) : Option (Int32) :=
  some (0 : Int32)
abbrev rm_RF_clear : Room := { frames := 0, cells := 0, slots := 0, locals := 0 }
set_option maxHeartbeats 8000000 in
set_option maxRecDepth 100000 in
theorem c_RF_clear (l : Launch) (D : va_G) (cI cJ cB cZ : ClassId) (sz : Nat) (q_this : Nat) (q_draft : Nat) (q_now : Nat) (q_before : Nat) (q_disk : Nat) (q_row : Nat) (q_node : Nat) (q_tree : Nat) (q_check : Nat) (q_draft_codes : Nat) (q_draft_numbers : Nat) (q_draft_blobs : Nat) (v_up : Int32) (v_armed : Int32) (v_draft_count : Int32) (o_draft_count : Int32) (hf : f_RF_clear v_draft_count = some o_draft_count) : Met l y_RF_clear (.code y_RF_clear b_RF_clear 1 none :: pu_wA) rm_RF_clear (pu_pc D pu_cl (pu_ty cI cJ cB cZ) [.ref q_this] [(q_this, .inr (7, [.ref q_draft, .ref q_now, .ref q_before, .ref q_disk, .ref q_row, .ref q_node, .ref q_tree, .ref q_check, .int v_up, .int v_armed])), (q_draft, .inr (1, [.ref q_draft_codes, .ref q_draft_numbers, .ref q_draft_blobs, .int v_draft_count]))] sz) (pu_qv D pu_cl (pu_ty cI cJ cB cZ) [(q_this, .inr (7, [.ref q_draft, .ref q_now, .ref q_before, .ref q_disk, .ref q_row, .ref q_node, .ref q_tree, .ref q_check, .int v_up, .int v_armed])), (q_draft, .inr (1, [.ref q_draft_codes, .ref q_draft_numbers, .ref q_draft_blobs, .int v_draft_count]))] [(q_this, .inr (7, [.ref q_draft, .ref q_now, .ref q_before, .ref q_disk, .ref q_row, .ref q_node, .ref q_tree, .ref q_check, .int v_up, .int v_armed])), (q_draft, .inr (1, [.ref q_draft_codes, .ref q_draft_numbers, .ref q_draft_blobs, .int o_draft_count]))] sz) 0 0 (va_A [(q_this, .inr (7, [.ref q_draft, .ref q_now, .ref q_before, .ref q_disk, .ref q_row, .ref q_node, .ref q_tree, .ref q_check, .int v_up, .int v_armed])), (q_draft, .inr (1, [.ref q_draft_codes, .ref q_draft_numbers, .ref q_draft_blobs, .int v_draft_count]))] sz) := by
  refine pu_mtv [.ref q_this] [(q_this, .inr (7, [.ref q_draft, .ref q_now, .ref q_before, .ref q_disk, .ref q_row, .ref q_node, .ref q_tree, .ref q_check, .int v_up, .int v_armed])), (q_draft, .inr (1, [.ref q_draft_codes, .ref q_draft_numbers, .ref q_draft_blobs, .int v_draft_count]))] [(q_this, .inr (7, [.ref q_draft, .ref q_now, .ref q_before, .ref q_disk, .ref q_row, .ref q_node, .ref q_tree, .ref q_check, .int v_up, .int v_armed])), (q_draft, .inr (1, [.ref q_draft_codes, .ref q_draft_numbers, .ref q_draft_blobs, .int o_draft_count]))] (by decide) (Nat.le_of_ble_eq_true rfl) ?_
  intro p e s m args below meth c A Q ls hx hb hml hts hN hown hK hA hP hD hl hret0
  have hS : va_S A s.heap s.heap [] := va_S.rf
  have hl : lv_has ls 1 [(0, .ref q_this)] := hl
  have hret : ∀ (pc : Nat) (ls : Array Slot) (H : Heap) (locs : List Loc) (y_0 : Int32), decode b_RF_clear pc = .ok (.return_, 1) → va_P D pu_cl [(q_this, .inr (7, [.ref q_draft, .ref q_now, .ref q_before, .ref q_disk, .ref q_row, .ref q_node, .ref q_tree, .ref q_check, .int v_up, .int v_armed])), (q_draft, .inr (1, [.ref q_draft_codes, .ref q_draft_numbers, .ref q_draft_blobs, .int y_0]))] H → va_D A [(q_this, .inr (7, [.ref q_draft, .ref q_now, .ref q_before, .ref q_disk, .ref q_row, .ref q_node, .ref q_tree, .ref q_check, .int v_up, .int v_armed])), (q_draft, .inr (1, [.ref q_draft_codes, .ref q_draft_numbers, .ref q_draft_blobs, .int y_0]))] → va_S A s.heap H locs → some y_0 = some o_draft_count → W p l e rm_RF_clear s m args below meth c H locs 0 0 Q (F0 m pc ls []) := by
    intro pc ls H locs y_0 hd hP hD hS hf
    cases hf
    exact hret0 pc ls H locs hd hP hD hS
  clear hret0
  unfold f_RF_clear at hf
  skip
  obtain ⟨H, hH⟩ : ∃ H, H = s.heap := ⟨_, rfl⟩
  obtain ⟨locs, hlocs⟩ : ∃ locs : List Loc, locs = [] := ⟨_, rfl⟩
  have hP : va_P D pu_cl [(q_this, .inr (7, [.ref q_draft, .ref q_now, .ref q_before, .ref q_disk, .ref q_row, .ref q_node, .ref q_tree, .ref q_check, .int v_up, .int v_armed])), (q_draft, .inr (1, [.ref q_draft_codes, .ref q_draft_numbers, .ref q_draft_blobs, .int v_draft_count]))] H := by rw [hH]; exact hP
  have hS : va_S A s.heap H locs := by rw [hH, hlocs]; exact hS
  have goal : W p l e rm_RF_clear s m args below meth c H locs 0 0 Q (F0 m 0 ls []) := by
    clear hH hlocs
    refine lv_aload_n hx hb d_RF_clear_0 rfl (lv_at hl 0 rfl) ?_
    refine gf_RF_12 (v := .ref q_draft) hx hb hts hN hown hK hP 0 rfl rfl d_RF_clear_1 ?_
    refine lv_iconst (v := 0) hx hb d_RF_clear_4 rfl ?_
    refine pf_RF_93 (v := .int (0 : Int32)) hx hb hts hN hown hK hP hD hS 1 rfl rfl rfl (Nat.le_of_ble_eq_true rfl) d_RF_clear_5 (fun H locs hP hD hS => ?_)
    have hP : va_P D pu_cl [(q_this, .inr (7, [.ref q_draft, .ref q_now, .ref q_before, .ref q_disk, .ref q_row, .ref q_node, .ref q_tree, .ref q_check, .int v_up, .int v_armed])), (q_draft, .inr (1, [.ref q_draft_codes, .ref q_draft_numbers, .ref q_draft_blobs, .int (0 : Int32)]))] H := hP
    have hD : va_D A [(q_this, .inr (7, [.ref q_draft, .ref q_now, .ref q_before, .ref q_disk, .ref q_row, .ref q_node, .ref q_tree, .ref q_check, .int v_up, .int v_armed])), (q_draft, .inr (1, [.ref q_draft_codes, .ref q_draft_numbers, .ref q_draft_blobs, .int (0 : Int32)]))] := hD
    exact hret _ _ _ _ (0 : Int32) d_RF_clear_8 hP hD hS hf
  rw [hH, hlocs] at goal
  exact goal
theorem d_Pages_has_0 : decode b_Pages_has 0 = .ok (.iload_n 1, 1) := by decide +kernel
theorem d_Pages_has_1 : decode b_Pages_has 1 = .ok (.iconst 1, 1) := by decide +kernel
theorem d_Pages_has_2 : decode b_Pages_has 2 = .ok (.if_icmp .lt 25, 3) := by decide +kernel
theorem d_Pages_has_5 : decode b_Pages_has 5 = .ok (.iload_n 1, 1) := by decide +kernel
theorem d_Pages_has_6 : decode b_Pages_has 6 = .ok (.aload_n 0, 1) := by decide +kernel
theorem d_Pages_has_7 : decode b_Pages_has 7 = .ok (.getfield 15, 3) := by decide +kernel
theorem d_Pages_has_10 : decode b_Pages_has 10 = .ok (.if_icmp .gt 17, 3) := by decide +kernel
theorem d_Pages_has_13 : decode b_Pages_has 13 = .ok (.iload_n 2, 1) := by decide +kernel
theorem d_Pages_has_14 : decode b_Pages_has 14 = .ok (.ifCond .lt 13, 3) := by decide +kernel
theorem d_Pages_has_17 : decode b_Pages_has 17 = .ok (.iload_n 2, 1) := by decide +kernel
theorem d_Pages_has_18 : decode b_Pages_has 18 = .ok (.bipush 64, 2) := by decide +kernel
theorem d_Pages_has_20 : decode b_Pages_has 20 = .ok (.if_icmp .ge 7, 3) := by decide +kernel
theorem d_Pages_has_23 : decode b_Pages_has 23 = .ok (.iconst 1, 1) := by decide +kernel
theorem d_Pages_has_24 : decode b_Pages_has 24 = .ok (.goto 4, 3) := by decide +kernel
theorem d_Pages_has_27 : decode b_Pages_has 27 = .ok (.iconst 0, 1) := by decide +kernel
theorem d_Pages_has_28 : decode b_Pages_has 28 = .ok (.ireturn, 1) := by decide +kernel
noncomputable def f_Pages_has (v_count : Int32) (x_1 : Int32) (x_2 : Int32) : Option (Int32) :=
  pu_br (x_1 < (1 : Int32)) (some (0 : Int32)) (pu_br (v_count < x_1) (some (0 : Int32)) (pu_br (x_2 < 0) (some (0 : Int32)) (pu_br ((64 : Int32) ≤ x_2) (some (0 : Int32)) (some (1 : Int32)))))
abbrev rm_Pages_has : Room := { frames := 0, cells := 0, slots := 0, locals := 0 }
set_option maxHeartbeats 8000000 in
set_option maxRecDepth 100000 in
theorem c_Pages_has (l : Launch) (D : va_G) (cI cJ cB cZ : ClassId) (sz : Nat) (q_this : Nat) (q_bytes : Nat) (v_count : Int32) (x_1 : Int32) (x_2 : Int32) (o_r : Int32) (hf : f_Pages_has v_count x_1 x_2 = some o_r) : Met l y_Pages_has (.code y_Pages_has b_Pages_has 3 (some .boolean) :: pu_wA) rm_Pages_has (pu_pc D pu_cl (pu_ty cI cJ cB cZ) [.ref q_this, .int x_1, .int x_2] [(q_this, .inr (0, [.ref q_bytes, .int v_count]))] sz) (pu_qi D pu_cl (pu_ty cI cJ cB cZ) [(q_this, .inr (0, [.ref q_bytes, .int v_count]))] [(q_this, .inr (0, [.ref q_bytes, .int v_count]))] sz o_r) 0 0 (va_A [(q_this, .inr (0, [.ref q_bytes, .int v_count]))] sz) := by
  refine pu_mtz [.ref q_this, .int x_1, .int x_2] [(q_this, .inr (0, [.ref q_bytes, .int v_count]))] [(q_this, .inr (0, [.ref q_bytes, .int v_count]))] o_r (by decide) (Nat.le_of_ble_eq_true rfl) ?_
  intro p e s m args below meth c A Q ls hx hb hml hts hN hown hK hA hP hD hl hret0
  have hS : va_S A s.heap s.heap [] := va_S.rf
  have hl : lv_has ls 3 [(0, .ref q_this), (1, .int x_1), (2, .int x_2)] := hl
  have hret : ∀ (pc : Nat) (ls : Array Slot) (H : Heap) (locs : List Loc) (y_0 : Int32), decode b_Pages_has pc = .ok (.ireturn, 1) → narrow .boolean (.int y_0) = .int y_0 → va_P D pu_cl [(q_this, .inr (0, [.ref q_bytes, .int v_count]))] H → va_D A [(q_this, .inr (0, [.ref q_bytes, .int v_count]))] → va_S A s.heap H locs → some y_0 = some o_r → W p l e rm_Pages_has s m args below meth c H locs 0 0 Q (F0 m pc ls [.int y_0]) := by
    intro pc ls H locs y_0 hd hz hP hD hS hf
    cases hf
    exact hret0 pc ls H locs hd hz hP hD hS
  clear hret0
  unfold f_Pages_has at hf
  skip
  obtain ⟨H, hH⟩ : ∃ H, H = s.heap := ⟨_, rfl⟩
  obtain ⟨locs, hlocs⟩ : ∃ locs : List Loc, locs = [] := ⟨_, rfl⟩
  have hP : va_P D pu_cl [(q_this, .inr (0, [.ref q_bytes, .int v_count]))] H := by rw [hH]; exact hP
  have hS : va_S A s.heap H locs := by rw [hH, hlocs]; exact hS
  have goal : W p l e rm_Pages_has s m args below meth c H locs 0 0 Q (F0 m 0 ls []) := by
    clear hH hlocs
    refine lv_iload_n hx hb d_Pages_has_0 rfl (lv_at hl 1 rfl) ?_
    refine lv_iconst (v := 1) hx hb d_Pages_has_1 rfl ?_
    refine lv_icmp_lt (tgt := 27) hx hb d_Pages_has_2 rfl (fun hc => ?_) (fun hc => ?_)
    · have hf := pu_br_pos hf hc
      refine lv_iconst (v := 0) hx hb d_Pages_has_27 rfl ?_
      exact hret _ _ _ _ (0 : Int32)  d_Pages_has_28 (by decide) hP hD hS hf
    have hf := pu_br_neg hf hc
    refine lv_iload_n hx hb d_Pages_has_5 rfl (lv_at hl 1 rfl) ?_
    refine lv_aload_n hx hb d_Pages_has_6 rfl (lv_at hl 0 rfl) ?_
    refine gf_Pages_15 (v := .int v_count) hx hb hts hN hown hK hP 0 rfl rfl d_Pages_has_7 ?_
    refine lv_icmp_gt (tgt := 27) hx hb d_Pages_has_10 rfl (fun hc => ?_) (fun hc => ?_)
    · have hf := pu_br_pos hf hc
      refine lv_iconst (v := 0) hx hb d_Pages_has_27 rfl ?_
      exact hret _ _ _ _ (0 : Int32)  d_Pages_has_28 (by decide) hP hD hS hf
    have hf := pu_br_neg hf hc
    refine lv_iload_n hx hb d_Pages_has_13 rfl (lv_at hl 2 rfl) ?_
    refine lv_if_lt (tgt := 27) hx hb d_Pages_has_14 rfl (fun hc => ?_) (fun hc => ?_)
    · have hf := pu_br_pos hf hc
      refine lv_iconst (v := 0) hx hb d_Pages_has_27 rfl ?_
      exact hret _ _ _ _ (0 : Int32)  d_Pages_has_28 (by decide) hP hD hS hf
    have hf := pu_br_neg hf hc
    refine lv_iload_n hx hb d_Pages_has_17 rfl (lv_at hl 2 rfl) ?_
    refine lv_bipush (v := 64) hx hb d_Pages_has_18 rfl ?_
    refine lv_icmp_ge (tgt := 27) hx hb d_Pages_has_20 rfl (fun hc => ?_) (fun hc => ?_)
    · have hf := pu_br_pos hf hc
      refine lv_iconst (v := 0) hx hb d_Pages_has_27 rfl ?_
      exact hret _ _ _ _ (0 : Int32)  d_Pages_has_28 (by decide) hP hD hS hf
    have hf := pu_br_neg hf hc
    refine lv_iconst (v := 1) hx hb d_Pages_has_23 rfl ?_
    refine lv_goto (tgt := 28) hx hb d_Pages_has_24 rfl ?_
    exact hret _ _ _ _ (1 : Int32)  d_Pages_has_28 (by decide) hP hD hS hf
  rw [hH, hlocs] at goal
  exact goal
theorem d_Pages_get_0 : decode b_Pages_get 0 = .ok (.aload_n 0, 1) := by decide +kernel
theorem d_Pages_get_1 : decode b_Pages_get 1 = .ok (.iload_n 1, 1) := by decide +kernel
theorem d_Pages_get_2 : decode b_Pages_get 2 = .ok (.iload_n 2, 1) := by decide +kernel
theorem d_Pages_get_3 : decode b_Pages_get 3 = .ok (.invokevirtual 23, 3) := by decide +kernel
theorem d_Pages_get_6 : decode b_Pages_get 6 = .ok (.ifCond .eq 23, 3) := by decide +kernel
theorem d_Pages_get_9 : decode b_Pages_get 9 = .ok (.aload_n 0, 1) := by decide +kernel
theorem d_Pages_get_10 : decode b_Pages_get 10 = .ok (.getfield 9, 3) := by decide +kernel
theorem d_Pages_get_13 : decode b_Pages_get 13 = .ok (.iload_n 1, 1) := by decide +kernel
theorem d_Pages_get_14 : decode b_Pages_get 14 = .ok (.iconst 1, 1) := by decide +kernel
theorem d_Pages_get_15 : decode b_Pages_get 15 = .ok (.isub, 1) := by decide +kernel
theorem d_Pages_get_16 : decode b_Pages_get 16 = .ok (.bipush 64, 2) := by decide +kernel
theorem d_Pages_get_18 : decode b_Pages_get 18 = .ok (.imul, 1) := by decide +kernel
theorem d_Pages_get_19 : decode b_Pages_get 19 = .ok (.iload_n 2, 1) := by decide +kernel
theorem d_Pages_get_20 : decode b_Pages_get 20 = .ok (.iadd, 1) := by decide +kernel
theorem d_Pages_get_21 : decode b_Pages_get 21 = .ok (.baload, 1) := by decide +kernel
theorem d_Pages_get_22 : decode b_Pages_get 22 = .ok (.sipush 255, 3) := by decide +kernel
theorem d_Pages_get_25 : decode b_Pages_get 25 = .ok (.iand, 1) := by decide +kernel
theorem d_Pages_get_26 : decode b_Pages_get 26 = .ok (.goto 4, 3) := by decide +kernel
theorem d_Pages_get_29 : decode b_Pages_get 29 = .ok (.iconst 0, 1) := by decide +kernel
theorem d_Pages_get_30 : decode b_Pages_get 30 = .ok (.ireturn, 1) := by decide +kernel
noncomputable def f_Pages_get (v_count : Int32) (v_bytes : Nat → Int32) (x_1 : Int32) (x_2 : Int32) : Option (Int32) :=
  pu_b1 (f_Pages_has v_count x_1 x_2) (fun r1 => pu_br (r1 = 0) (some (0 : Int32)) (pu_ck (vp_in (((x_1 - (1 : Int32)) * (64 : Int32)) + x_2) 1536) (some ((v_bytes (((x_1 - (1 : Int32)) * (64 : Int32)) + x_2).toNatClampNeg) &&& (255 : Int32)))))
abbrev rm_Pages_get : Room := { frames := 1, cells := 0, slots := 0, locals := 22 }
set_option maxHeartbeats 8000000 in
set_option maxRecDepth 100000 in
theorem c_Pages_get (l : Launch) (D : va_G) (cI cJ cB cZ : ClassId) (sz : Nat) (q_this : Nat) (q_bytes : Nat) (v_count : Int32) (v_bytes : Nat → Int32) (x_1 : Int32) (x_2 : Int32) (o_r : Int32) (hf : f_Pages_get v_count v_bytes x_1 x_2 = some o_r) : Met l y_Pages_get (.code y_Pages_get b_Pages_get 3 (some .int) :: pu_wA) rm_Pages_get (pu_pc D pu_cl (pu_ty cI cJ cB cZ) [.ref q_this, .int x_1, .int x_2] [(q_this, .inr (0, [.ref q_bytes, .int v_count])), (q_bytes, .inl (cB, 1536, .inl v_bytes))] sz) (pu_qi D pu_cl (pu_ty cI cJ cB cZ) [(q_this, .inr (0, [.ref q_bytes, .int v_count])), (q_bytes, .inl (cB, 1536, .inl v_bytes))] [(q_this, .inr (0, [.ref q_bytes, .int v_count])), (q_bytes, .inl (cB, 1536, .inl v_bytes))] sz o_r) 0 0 (va_A [(q_this, .inr (0, [.ref q_bytes, .int v_count])), (q_bytes, .inl (cB, 1536, .inl v_bytes))] sz) := by
  refine pu_mti [.ref q_this, .int x_1, .int x_2] [(q_this, .inr (0, [.ref q_bytes, .int v_count])), (q_bytes, .inl (cB, 1536, .inl v_bytes))] [(q_this, .inr (0, [.ref q_bytes, .int v_count])), (q_bytes, .inl (cB, 1536, .inl v_bytes))] o_r (by decide) (Nat.le_of_ble_eq_true rfl) ?_
  intro p e s m args below meth c A Q ls hx hb hml hts hN hown hK hA hP hD hl hret0
  have hS : va_S A s.heap s.heap [] := va_S.rf
  have hl : lv_has ls 3 [(0, .ref q_this), (1, .int x_1), (2, .int x_2)] := hl
  have hret : ∀ (pc : Nat) (ls : Array Slot) (H : Heap) (locs : List Loc) (y_0 : Int32), decode b_Pages_get pc = .ok (.ireturn, 1) → va_P D pu_cl [(q_this, .inr (0, [.ref q_bytes, .int v_count])), (q_bytes, .inl (cB, 1536, .inl v_bytes))] H → va_D A [(q_this, .inr (0, [.ref q_bytes, .int v_count])), (q_bytes, .inl (cB, 1536, .inl v_bytes))] → va_S A s.heap H locs → some y_0 = some o_r → W p l e rm_Pages_get s m args below meth c H locs 0 0 Q (F0 m pc ls [.int y_0]) := by
    intro pc ls H locs y_0 hd hP hD hS hf
    cases hf
    exact hret0 pc ls H locs hd hP hD hS
  clear hret0
  unfold f_Pages_get at hf
  skip
  obtain ⟨H, hH⟩ : ∃ H, H = s.heap := ⟨_, rfl⟩
  obtain ⟨locs, hlocs⟩ : ∃ locs : List Loc, locs = [] := ⟨_, rfl⟩
  have hP : va_P D pu_cl [(q_this, .inr (0, [.ref q_bytes, .int v_count])), (q_bytes, .inl (cB, 1536, .inl v_bytes))] H := by rw [hH]; exact hP
  have hS : va_S A s.heap H locs := by rw [hH, hlocs]; exact hS
  have goal : W p l e rm_Pages_get s m args below meth c H locs 0 0 Q (F0 m 0 ls []) := by
    clear hH hlocs
    refine lv_aload_n hx hb d_Pages_get_0 rfl (lv_at hl 0 rfl) ?_
    refine lv_iload_n hx hb d_Pages_get_1 rfl (lv_at hl 1 rfl) ?_
    refine lv_iload_n hx hb d_Pages_get_2 rfl (lv_at hl 2 rfl) ?_
    obtain ⟨r1, hc, hf⟩ := pu_b1_some hf
    refine cl_i (WC := [(q_this, .inr (0, [.ref q_bytes, .int v_count]))]) (WC2 := [(q_this, .inr (0, [.ref q_bytes, .int v_count]))]) (WR := [(q_bytes, .inl (cB, 1536, .inl v_bytes))]) (WS2 := [(q_this, .inr (0, [.ref q_bytes, .int v_count])), (q_bytes, .inl (cB, 1536, .inl v_bytes))]) (pu_rv (cl := pu_cl) (pu_in2 _ (List.mem_of_getElem? (i := 29) rfl)) (pu_in2 _ (List.mem_of_getElem? (i := 30) rfl)) (pu_in2 _ (List.mem_of_getElem? (i := 31) rfl)) (pu_in0 _ (List.mem_of_getElem? (i := 3) rfl)) (pu_in2 _ (List.mem_of_getElem? (i := 32) rfl)) (ci := 0) rfl hd_Pages_has (by decide) ⟨rfl, rfl⟩ rfl rfl (Nat.le_of_ble_eq_true rfl) rfl (As := [.int x_1, .int x_2]) (rest := []) (WC := [(q_this, .inr (0, [.ref q_bytes, .int v_count]))]) hx hb hml hown hts hN hK hP hD (c_Pages_has l D cI cJ cB cZ H.size q_this q_bytes v_count x_1 x_2 r1 hc) [0] rfl rfl hl.1 d_Pages_get_3) hP hD hS hA [0] [1] [1, 0] rfl rfl rfl (by decide) rfl rfl (fun H locs hP hD hS => ?_)
    refine lv_if_eq (tgt := 29) hx hb d_Pages_get_6 rfl (fun hc => ?_) (fun hc => ?_)
    · have hf := pu_br_pos hf hc
      refine lv_iconst (v := 0) hx hb d_Pages_get_29 rfl ?_
      exact hret _ _ _ _ (0 : Int32)  d_Pages_get_30 hP hD hS hf
    have hf := pu_br_neg hf hc
    refine lv_aload_n hx hb d_Pages_get_9 rfl (lv_at hl 0 rfl) ?_
    refine gf_Pages_9 (v := .ref q_bytes) hx hb hts hN hown hK hP 0 rfl rfl d_Pages_get_10 ?_
    refine lv_iload_n hx hb d_Pages_get_13 rfl (lv_at hl 1 rfl) ?_
    refine lv_iconst (v := 1) hx hb d_Pages_get_14 rfl ?_
    refine lv_isub hx hb d_Pages_get_15 ?_
    refine lv_bipush (v := 64) hx hb d_Pages_get_16 rfl ?_
    refine lv_imul hx hb d_Pages_get_18 ?_
    refine lv_iload_n hx hb d_Pages_get_19 rfl (lv_at hl 2 rfl) ?_
    refine lv_iadd hx hb d_Pages_get_20 ?_
    obtain ⟨hin, hf⟩ := pu_ck_some hf
    refine va_bald hx hb hK hP 1 2 rfl rfl hin d_Pages_get_21 ?_
    refine lv_sipush (v := 255) hx hb d_Pages_get_22 rfl ?_
    refine lv_iand hx hb d_Pages_get_25 ?_
    refine lv_goto (tgt := 30) hx hb d_Pages_get_26 rfl ?_
    exact hret _ _ _ _ ((v_bytes (((x_1 - (1 : Int32)) * (64 : Int32)) + x_2).toNatClampNeg) &&& (255 : Int32))  d_Pages_get_30 hP hD hS hf
  rw [hH, hlocs] at goal
  exact goal
theorem d_Pages_root_0 : decode b_Pages_root 0 = .ok (.aload_n 0, 1) := by decide +kernel
theorem d_Pages_root_1 : decode b_Pages_root 1 = .ok (.iconst 1, 1) := by decide +kernel
theorem d_Pages_root_2 : decode b_Pages_root 2 = .ok (.bipush 6, 2) := by decide +kernel
theorem d_Pages_root_4 : decode b_Pages_root 4 = .ok (.invokevirtual 39, 3) := by decide +kernel
theorem d_Pages_root_7 : decode b_Pages_root 7 = .ok (.ireturn, 1) := by decide +kernel
noncomputable def f_Pages_root (v_count : Int32) (v_bytes : Nat → Int32) : Option (Int32) :=
  pu_b1 (f_Pages_get v_count v_bytes (1 : Int32) (6 : Int32)) (fun r1 => some r1)
abbrev rm_Pages_root : Room := { frames := 2, cells := 0, slots := 0, locals := 44 }
set_option maxHeartbeats 8000000 in
set_option maxRecDepth 100000 in
theorem c_Pages_root (l : Launch) (D : va_G) (cI cJ cB cZ : ClassId) (sz : Nat) (q_this : Nat) (q_bytes : Nat) (v_count : Int32) (v_bytes : Nat → Int32) (o_r : Int32) (hf : f_Pages_root v_count v_bytes = some o_r) : Met l y_Pages_root (.code y_Pages_root b_Pages_root 1 (some .int) :: pu_wA) rm_Pages_root (pu_pc D pu_cl (pu_ty cI cJ cB cZ) [.ref q_this] [(q_this, .inr (0, [.ref q_bytes, .int v_count])), (q_bytes, .inl (cB, 1536, .inl v_bytes))] sz) (pu_qi D pu_cl (pu_ty cI cJ cB cZ) [(q_this, .inr (0, [.ref q_bytes, .int v_count])), (q_bytes, .inl (cB, 1536, .inl v_bytes))] [(q_this, .inr (0, [.ref q_bytes, .int v_count])), (q_bytes, .inl (cB, 1536, .inl v_bytes))] sz o_r) 0 0 (va_A [(q_this, .inr (0, [.ref q_bytes, .int v_count])), (q_bytes, .inl (cB, 1536, .inl v_bytes))] sz) := by
  refine pu_mti [.ref q_this] [(q_this, .inr (0, [.ref q_bytes, .int v_count])), (q_bytes, .inl (cB, 1536, .inl v_bytes))] [(q_this, .inr (0, [.ref q_bytes, .int v_count])), (q_bytes, .inl (cB, 1536, .inl v_bytes))] o_r (by decide) (Nat.le_of_ble_eq_true rfl) ?_
  intro p e s m args below meth c A Q ls hx hb hml hts hN hown hK hA hP hD hl hret0
  have hS : va_S A s.heap s.heap [] := va_S.rf
  have hl : lv_has ls 1 [(0, .ref q_this)] := hl
  have hret : ∀ (pc : Nat) (ls : Array Slot) (H : Heap) (locs : List Loc) (y_0 : Int32), decode b_Pages_root pc = .ok (.ireturn, 1) → va_P D pu_cl [(q_this, .inr (0, [.ref q_bytes, .int v_count])), (q_bytes, .inl (cB, 1536, .inl v_bytes))] H → va_D A [(q_this, .inr (0, [.ref q_bytes, .int v_count])), (q_bytes, .inl (cB, 1536, .inl v_bytes))] → va_S A s.heap H locs → some y_0 = some o_r → W p l e rm_Pages_root s m args below meth c H locs 0 0 Q (F0 m pc ls [.int y_0]) := by
    intro pc ls H locs y_0 hd hP hD hS hf
    cases hf
    exact hret0 pc ls H locs hd hP hD hS
  clear hret0
  unfold f_Pages_root at hf
  skip
  obtain ⟨H, hH⟩ : ∃ H, H = s.heap := ⟨_, rfl⟩
  obtain ⟨locs, hlocs⟩ : ∃ locs : List Loc, locs = [] := ⟨_, rfl⟩
  have hP : va_P D pu_cl [(q_this, .inr (0, [.ref q_bytes, .int v_count])), (q_bytes, .inl (cB, 1536, .inl v_bytes))] H := by rw [hH]; exact hP
  have hS : va_S A s.heap H locs := by rw [hH, hlocs]; exact hS
  have goal : W p l e rm_Pages_root s m args below meth c H locs 0 0 Q (F0 m 0 ls []) := by
    clear hH hlocs
    refine lv_aload_n hx hb d_Pages_root_0 rfl (lv_at hl 0 rfl) ?_
    refine lv_iconst (v := 1) hx hb d_Pages_root_1 rfl ?_
    refine lv_bipush (v := 6) hx hb d_Pages_root_2 rfl ?_
    obtain ⟨r1, hc, hf⟩ := pu_b1_some hf
    refine cl_i (WC := [(q_this, .inr (0, [.ref q_bytes, .int v_count])), (q_bytes, .inl (cB, 1536, .inl v_bytes))]) (WC2 := [(q_this, .inr (0, [.ref q_bytes, .int v_count])), (q_bytes, .inl (cB, 1536, .inl v_bytes))]) (WR := []) (WS2 := [(q_this, .inr (0, [.ref q_bytes, .int v_count])), (q_bytes, .inl (cB, 1536, .inl v_bytes))]) (pu_rv (cl := pu_cl) (pu_in3 _ (List.mem_of_getElem? (i := 37) rfl)) (pu_in3 _ (List.mem_of_getElem? (i := 38) rfl)) (pu_in3 _ (List.mem_of_getElem? (i := 39) rfl)) (pu_in0 _ (List.mem_of_getElem? (i := 3) rfl)) (pu_in3 _ (List.mem_of_getElem? (i := 40) rfl)) (ci := 0) rfl hd_Pages_get (by decide) ⟨rfl, rfl⟩ rfl rfl (Nat.le_of_ble_eq_true rfl) rfl (As := [.int (1 : Int32), .int (6 : Int32)]) (rest := []) (WC := [(q_this, .inr (0, [.ref q_bytes, .int v_count])), (q_bytes, .inl (cB, 1536, .inl v_bytes))]) hx hb hml hown hts hN hK hP hD (c_Pages_get l D cI cJ cB cZ H.size q_this q_bytes v_count v_bytes (1 : Int32) (6 : Int32) r1 hc) [0, 1] rfl rfl hl.1 d_Pages_root_4) hP hD hS hA [0, 1] [] [0, 1] rfl rfl rfl (by decide) rfl rfl (fun H locs hP hD hS => ?_)
    exact hret _ _ _ _ r1  d_Pages_root_7 hP hD hS hf
  rw [hH, hlocs] at goal
  exact goal
theorem d_Node_findCells_0 : decode b_Node_findCells 0 = .ok (.bipush 64, 2) := by decide +kernel
theorem d_Node_findCells_2 : decode b_Node_findCells 2 = .ok (.istore_n 2, 1) := by decide +kernel
theorem d_Node_findCells_3 : decode b_Node_findCells 3 = .ok (.iconst 0, 1) := by decide +kernel
theorem d_Node_findCells_4 : decode b_Node_findCells 4 = .ok (.istore_n 3, 1) := by decide +kernel
theorem d_Node_findCells_5 : decode b_Node_findCells 5 = .ok (.iload_n 3, 1) := by decide +kernel
theorem d_Node_findCells_6 : decode b_Node_findCells 6 = .ok (.iload_n 1, 1) := by decide +kernel
theorem d_Node_findCells_7 : decode b_Node_findCells 7 = .ok (.if_icmp .ge 72, 3) := by decide +kernel
theorem d_Node_findCells_10 : decode b_Node_findCells 10 = .ok (.iload_n 3, 1) := by decide +kernel
theorem d_Node_findCells_11 : decode b_Node_findCells 11 = .ok (.bipush 30, 2) := by decide +kernel
theorem d_Node_findCells_13 : decode b_Node_findCells 13 = .ok (.if_icmp .ge 66, 3) := by decide +kernel
theorem d_Node_findCells_16 : decode b_Node_findCells 16 = .ok (.aload_n 0, 1) := by decide +kernel
theorem d_Node_findCells_17 : decode b_Node_findCells 17 = .ok (.getfield 15, 3) := by decide +kernel
theorem d_Node_findCells_20 : decode b_Node_findCells 20 = .ok (.iload_n 3, 1) := by decide +kernel
theorem d_Node_findCells_21 : decode b_Node_findCells 21 = .ok (.aload_n 0, 1) := by decide +kernel
theorem d_Node_findCells_22 : decode b_Node_findCells 22 = .ok (.getfield 11, 3) := by decide +kernel
theorem d_Node_findCells_25 : decode b_Node_findCells 25 = .ok (.iconst 4, 1) := by decide +kernel
theorem d_Node_findCells_26 : decode b_Node_findCells 26 = .ok (.iload_n 3, 1) := by decide +kernel
theorem d_Node_findCells_27 : decode b_Node_findCells 27 = .ok (.iadd, 1) := by decide +kernel
theorem d_Node_findCells_28 : decode b_Node_findCells 28 = .ok (.baload, 1) := by decide +kernel
theorem d_Node_findCells_29 : decode b_Node_findCells 29 = .ok (.sipush 255, 3) := by decide +kernel
theorem d_Node_findCells_32 : decode b_Node_findCells 32 = .ok (.iand, 1) := by decide +kernel
theorem d_Node_findCells_33 : decode b_Node_findCells 33 = .ok (.iastore, 1) := by decide +kernel
theorem d_Node_findCells_34 : decode b_Node_findCells 34 = .ok (.aload_n 0, 1) := by decide +kernel
theorem d_Node_findCells_35 : decode b_Node_findCells 35 = .ok (.getfield 19, 3) := by decide +kernel
theorem d_Node_findCells_38 : decode b_Node_findCells 38 = .ok (.iload_n 3, 1) := by decide +kernel
theorem d_Node_findCells_39 : decode b_Node_findCells 39 = .ok (.iload_n 2, 1) := by decide +kernel
theorem d_Node_findCells_40 : decode b_Node_findCells 40 = .ok (.aload_n 0, 1) := by decide +kernel
theorem d_Node_findCells_41 : decode b_Node_findCells 41 = .ok (.getfield 15, 3) := by decide +kernel
theorem d_Node_findCells_44 : decode b_Node_findCells 44 = .ok (.iload_n 3, 1) := by decide +kernel
theorem d_Node_findCells_45 : decode b_Node_findCells 45 = .ok (.iaload, 1) := by decide +kernel
theorem d_Node_findCells_46 : decode b_Node_findCells 46 = .ok (.isub, 1) := by decide +kernel
theorem d_Node_findCells_47 : decode b_Node_findCells 47 = .ok (.iastore, 1) := by decide +kernel
theorem d_Node_findCells_48 : decode b_Node_findCells 48 = .ok (.aload_n 0, 1) := by decide +kernel
theorem d_Node_findCells_49 : decode b_Node_findCells 49 = .ok (.getfield 15, 3) := by decide +kernel
theorem d_Node_findCells_52 : decode b_Node_findCells 52 = .ok (.iload_n 3, 1) := by decide +kernel
theorem d_Node_findCells_53 : decode b_Node_findCells 53 = .ok (.iaload, 1) := by decide +kernel
theorem d_Node_findCells_54 : decode b_Node_findCells 54 = .ok (.istore_n 2, 1) := by decide +kernel
theorem d_Node_findCells_55 : decode b_Node_findCells 55 = .ok (.aload_n 0, 1) := by decide +kernel
theorem d_Node_findCells_56 : decode b_Node_findCells 56 = .ok (.getfield 19, 3) := by decide +kernel
theorem d_Node_findCells_59 : decode b_Node_findCells 59 = .ok (.iload_n 3, 1) := by decide +kernel
theorem d_Node_findCells_60 : decode b_Node_findCells 60 = .ok (.iaload, 1) := by decide +kernel
theorem d_Node_findCells_61 : decode b_Node_findCells 61 = .ok (.ifCond .le 10, 3) := by decide +kernel
theorem d_Node_findCells_64 : decode b_Node_findCells 64 = .ok (.iload_n 2, 1) := by decide +kernel
theorem d_Node_findCells_65 : decode b_Node_findCells 65 = .ok (.iconst 4, 1) := by decide +kernel
theorem d_Node_findCells_66 : decode b_Node_findCells 66 = .ok (.iload_n 1, 1) := by decide +kernel
theorem d_Node_findCells_67 : decode b_Node_findCells 67 = .ok (.iadd, 1) := by decide +kernel
theorem d_Node_findCells_68 : decode b_Node_findCells 68 = .ok (.if_icmp .ge 5, 3) := by decide +kernel
theorem d_Node_findCells_71 : decode b_Node_findCells 71 = .ok (.iconst 0, 1) := by decide +kernel
theorem d_Node_findCells_72 : decode b_Node_findCells 72 = .ok (.ireturn, 1) := by decide +kernel
theorem d_Node_findCells_73 : decode b_Node_findCells 73 = .ok (.iinc 3 1, 3) := by decide +kernel
theorem d_Node_findCells_76 : decode b_Node_findCells 76 = .ok (.goto (-71), 3) := by decide +kernel
theorem d_Node_findCells_79 : decode b_Node_findCells 79 = .ok (.iconst 4, 1) := by decide +kernel
theorem d_Node_findCells_80 : decode b_Node_findCells 80 = .ok (.iload_n 1, 1) := by decide +kernel
theorem d_Node_findCells_81 : decode b_Node_findCells 81 = .ok (.iadd, 1) := by decide +kernel
theorem d_Node_findCells_82 : decode b_Node_findCells 82 = .ok (.istore_n 3, 1) := by decide +kernel
theorem d_Node_findCells_83 : decode b_Node_findCells 83 = .ok (.iload_n 3, 1) := by decide +kernel
theorem d_Node_findCells_84 : decode b_Node_findCells 84 = .ok (.iload_n 2, 1) := by decide +kernel
theorem d_Node_findCells_85 : decode b_Node_findCells 85 = .ok (.if_icmp .ge 20, 3) := by decide +kernel
theorem d_Node_findCells_88 : decode b_Node_findCells 88 = .ok (.aload_n 0, 1) := by decide +kernel
theorem d_Node_findCells_89 : decode b_Node_findCells 89 = .ok (.getfield 11, 3) := by decide +kernel
theorem d_Node_findCells_92 : decode b_Node_findCells 92 = .ok (.iload_n 3, 1) := by decide +kernel
theorem d_Node_findCells_93 : decode b_Node_findCells 93 = .ok (.baload, 1) := by decide +kernel
theorem d_Node_findCells_94 : decode b_Node_findCells 94 = .ok (.ifCond .eq 5, 3) := by decide +kernel
theorem d_Node_findCells_97 : decode b_Node_findCells 97 = .ok (.iconst 0, 1) := by decide +kernel
theorem d_Node_findCells_98 : decode b_Node_findCells 98 = .ok (.ireturn, 1) := by decide +kernel
theorem d_Node_findCells_99 : decode b_Node_findCells 99 = .ok (.iinc 3 1, 3) := by decide +kernel
theorem d_Node_findCells_102 : decode b_Node_findCells 102 = .ok (.goto (-19), 3) := by decide +kernel
theorem d_Node_findCells_105 : decode b_Node_findCells 105 = .ok (.aload_n 0, 1) := by decide +kernel
theorem d_Node_findCells_106 : decode b_Node_findCells 106 = .ok (.iload_n 1, 1) := by decide +kernel
theorem d_Node_findCells_107 : decode b_Node_findCells 107 = .ok (.putfield 36, 3) := by decide +kernel
theorem d_Node_findCells_110 : decode b_Node_findCells 110 = .ok (.iconst 1, 1) := by decide +kernel
theorem d_Node_findCells_111 : decode b_Node_findCells 111 = .ok (.ireturn, 1) := by decide +kernel
noncomputable def q_Node_findCells_105 (v_bytes : Nat → Int32) (v_count : Int32) (v_starts : Nat → Int32) (v_sizes : Nat → Int32) (x_1 : Int32) : Option (Int32 × Int32 × (Nat → Int32) × (Nat → Int32)) :=
  some ((1 : Int32), x_1, v_starts, v_sizes)
noncomputable def q_Node_findCells_83 (kx_105 : Option (Int32 × Int32 × (Nat → Int32) × (Nat → Int32))) (v_bytes : Nat → Int32) (v_count : Int32) (v_starts : Nat → Int32) (v_sizes : Nat → Int32) (x_1 : Int32) (x_2 : Int32) : Nat → Int32 → Option (Int32 × Int32 × (Nat → Int32) × (Nat → Int32))
  | 0, _ => none
  | n + 1, x_3 => pu_br (x_2 ≤ x_3) (kx_105) (pu_ck (vp_in x_3 96) (pu_br ((v_bytes x_3.toNatClampNeg) = 0) (pu_nm (x_3 + (1 : Int32)) (fun t1 => q_Node_findCells_83 kx_105 v_bytes v_count v_starts v_sizes x_1 x_2 n t1)) (some ((0 : Int32), v_count, v_starts, v_sizes))))
noncomputable def q_Node_findCells_79 (v_bytes : Nat → Int32) (v_count : Int32) (v_starts : Nat → Int32) (v_sizes : Nat → Int32) (x_1 : Int32) (x_2 : Int32) : Option (Int32 × Int32 × (Nat → Int32) × (Nat → Int32)) :=
  q_Node_findCells_83 (q_Node_findCells_105 v_bytes v_count v_starts v_sizes x_1) v_bytes v_count v_starts v_sizes x_1 x_2 pu_fu ((4 : Int32) + x_1)
noncomputable def q_Node_findCells_5 (kx_79 : (Nat → Int32) → (Nat → Int32) → Int32 → Option (Int32 × Int32 × (Nat → Int32) × (Nat → Int32))) (v_bytes : Nat → Int32) (v_count : Int32) (x_1 : Int32) : Nat → (Nat → Int32) → (Nat → Int32) → Int32 → Int32 → Option (Int32 × Int32 × (Nat → Int32) × (Nat → Int32))
  | 0, _, _, _, _ => none
  | n + 1, v_starts, v_sizes, x_2, x_3 => pu_br (x_1 ≤ x_3) (kx_79 v_starts v_sizes x_2) (pu_br ((30 : Int32) ≤ x_3) (kx_79 v_starts v_sizes x_2) (pu_ck (vp_in ((4 : Int32) + x_3) 96) (pu_ck (vp_in x_3 31) (pu_nm (upd v_starts x_3.toNatClampNeg ((v_bytes ((4 : Int32) + x_3).toNatClampNeg) &&& (255 : Int32))) (fun a2 => pu_ck (vp_in x_3 31) (pu_ck (vp_in x_3 31) (pu_nm (upd v_sizes x_3.toNatClampNeg (x_2 - (a2 x_3.toNatClampNeg))) (fun a3 => pu_ck (vp_in x_3 31) (pu_nm (a2 x_3.toNatClampNeg) (fun t4 => pu_ck (vp_in x_3 31) (pu_br ((a3 x_3.toNatClampNeg) ≤ 0) (some ((0 : Int32), v_count, a2, a3)) (pu_br (((4 : Int32) + x_1) ≤ t4) (pu_nm (x_3 + (1 : Int32)) (fun t5 => q_Node_findCells_5 kx_79 v_bytes v_count x_1 n a2 a3 t4 t5)) (some ((0 : Int32), v_count, a2, a3))))))))))))))
noncomputable def f_Node_findCells (v_bytes : Nat → Int32) (v_count : Int32) (v_starts : Nat → Int32) (v_sizes : Nat → Int32) (x_1 : Int32) : Option (Int32 × Int32 × (Nat → Int32) × (Nat → Int32)) :=
  q_Node_findCells_5 (fun v_starts v_sizes x_2 => q_Node_findCells_79 v_bytes v_count v_starts v_sizes x_1 x_2) v_bytes v_count x_1 pu_fu v_starts v_sizes (64 : Int32) (0 : Int32)
abbrev rm_Node_findCells : Room := { frames := 0, cells := 0, slots := 0, locals := 0 }
set_option maxHeartbeats 8000000 in
set_option maxRecDepth 100000 in
theorem c_Node_findCells (l : Launch) (D : va_G) (cI cJ cB cZ : ClassId) (sz : Nat) (q_this : Nat) (q_bytes : Nat) (q_starts : Nat) (q_sizes : Nat) (v_count : Int32) (v_last : Int32) (v_leaf : Int32) (v_bytes : Nat → Int32) (v_starts : Nat → Int32) (v_sizes : Nat → Int32) (x_1 : Int32) (o_r : Int32) (o_count : Int32) (o_starts : Nat → Int32) (o_sizes : Nat → Int32) (hf : f_Node_findCells v_bytes v_count v_starts v_sizes x_1 = some (o_r, o_count, o_starts, o_sizes)) : Met l y_Node_findCells (.code y_Node_findCells b_Node_findCells 4 (some .boolean) :: pu_wA) rm_Node_findCells (pu_pc D pu_cl (pu_ty cI cJ cB cZ) [.ref q_this, .int x_1] [(q_this, .inr (3, [.ref q_bytes, .ref q_starts, .ref q_sizes, .int v_count, .int v_last, .int v_leaf])), (q_bytes, .inl (cB, 96, .inl v_bytes)), (q_starts, .inl (cI, 31, .inl v_starts)), (q_sizes, .inl (cI, 31, .inl v_sizes))] sz) (pu_qi D pu_cl (pu_ty cI cJ cB cZ) [(q_this, .inr (3, [.ref q_bytes, .ref q_starts, .ref q_sizes, .int v_count, .int v_last, .int v_leaf])), (q_bytes, .inl (cB, 96, .inl v_bytes)), (q_starts, .inl (cI, 31, .inl v_starts)), (q_sizes, .inl (cI, 31, .inl v_sizes))] [(q_this, .inr (3, [.ref q_bytes, .ref q_starts, .ref q_sizes, .int o_count, .int v_last, .int v_leaf])), (q_bytes, .inl (cB, 96, .inl v_bytes)), (q_starts, .inl (cI, 31, .inl o_starts)), (q_sizes, .inl (cI, 31, .inl o_sizes))] sz o_r) 0 0 (va_A [(q_this, .inr (3, [.ref q_bytes, .ref q_starts, .ref q_sizes, .int v_count, .int v_last, .int v_leaf])), (q_bytes, .inl (cB, 96, .inl v_bytes)), (q_starts, .inl (cI, 31, .inl v_starts)), (q_sizes, .inl (cI, 31, .inl v_sizes))] sz) := by
  refine pu_mtz [.ref q_this, .int x_1] [(q_this, .inr (3, [.ref q_bytes, .ref q_starts, .ref q_sizes, .int v_count, .int v_last, .int v_leaf])), (q_bytes, .inl (cB, 96, .inl v_bytes)), (q_starts, .inl (cI, 31, .inl v_starts)), (q_sizes, .inl (cI, 31, .inl v_sizes))] [(q_this, .inr (3, [.ref q_bytes, .ref q_starts, .ref q_sizes, .int o_count, .int v_last, .int v_leaf])), (q_bytes, .inl (cB, 96, .inl v_bytes)), (q_starts, .inl (cI, 31, .inl o_starts)), (q_sizes, .inl (cI, 31, .inl o_sizes))] o_r (by decide) (Nat.le_of_ble_eq_true rfl) ?_
  intro p e s m args below meth c A Q ls hx hb hml hts hN hown hK hA hP hD hl hret0
  have hS : va_S A s.heap s.heap [] := va_S.rf
  have hl : lv_has ls 4 [(0, .ref q_this), (1, .int x_1)] := hl
  have hret : ∀ (pc : Nat) (ls : Array Slot) (H : Heap) (locs : List Loc) (y_0 : Int32) (y_1 : Int32) (y_2 : Nat → Int32) (y_3 : Nat → Int32), decode b_Node_findCells pc = .ok (.ireturn, 1) → narrow .boolean (.int y_0) = .int y_0 → va_P D pu_cl [(q_this, .inr (3, [.ref q_bytes, .ref q_starts, .ref q_sizes, .int y_1, .int v_last, .int v_leaf])), (q_bytes, .inl (cB, 96, .inl v_bytes)), (q_starts, .inl (cI, 31, .inl y_2)), (q_sizes, .inl (cI, 31, .inl y_3))] H → va_D A [(q_this, .inr (3, [.ref q_bytes, .ref q_starts, .ref q_sizes, .int y_1, .int v_last, .int v_leaf])), (q_bytes, .inl (cB, 96, .inl v_bytes)), (q_starts, .inl (cI, 31, .inl y_2)), (q_sizes, .inl (cI, 31, .inl y_3))] → va_S A s.heap H locs → some (y_0, y_1, y_2, y_3) = some (o_r, o_count, o_starts, o_sizes) → W p l e rm_Node_findCells s m args below meth c H locs 0 0 Q (F0 m pc ls [.int y_0]) := by
    intro pc ls H locs y_0 y_1 y_2 y_3 hd hz hP hD hS hf
    cases hf
    exact hret0 pc ls H locs hd hz hP hD hS
  clear hret0
  unfold f_Node_findCells at hf
  skip
  have lb_105 : ∀ (v_count : Int32) (v_starts : Nat → Int32) (v_sizes : Nat → Int32) (x_1 : Int32) (H : Heap) (locs : List Loc) (ls : Array Slot), va_P D pu_cl [(q_this, .inr (3, [.ref q_bytes, .ref q_starts, .ref q_sizes, .int v_count, .int v_last, .int v_leaf])), (q_bytes, .inl (cB, 96, .inl v_bytes)), (q_starts, .inl (cI, 31, .inl v_starts)), (q_sizes, .inl (cI, 31, .inl v_sizes))] H → va_D A [(q_this, .inr (3, [.ref q_bytes, .ref q_starts, .ref q_sizes, .int v_count, .int v_last, .int v_leaf])), (q_bytes, .inl (cB, 96, .inl v_bytes)), (q_starts, .inl (cI, 31, .inl v_starts)), (q_sizes, .inl (cI, 31, .inl v_sizes))] → va_S A s.heap H locs → lv_has ls 4 [(0, .ref q_this), (1, .int x_1)] → q_Node_findCells_105 v_bytes v_count v_starts v_sizes x_1 = some (o_r, o_count, o_starts, o_sizes) → W p l e rm_Node_findCells s m args below meth c H locs 0 0 Q (F0 m 105 ls []) := by
    intro v_count v_starts v_sizes x_1 H locs ls hP hD hS hl hf
    rw [q_Node_findCells_105] at hf
    refine lv_aload_n hx hb d_Node_findCells_105 rfl (lv_at hl 0 rfl) ?_
    refine lv_iload_n hx hb d_Node_findCells_106 rfl (lv_at hl 1 rfl) ?_
    refine pf_Node_36 (v := .int x_1) hx hb hts hN hown hK hP hD hS 0 rfl rfl rfl (Nat.le_of_ble_eq_true rfl) d_Node_findCells_107 (fun H locs hP hD hS => ?_)
    have hP : va_P D pu_cl [(q_this, .inr (3, [.ref q_bytes, .ref q_starts, .ref q_sizes, .int x_1, .int v_last, .int v_leaf])), (q_bytes, .inl (cB, 96, .inl v_bytes)), (q_starts, .inl (cI, 31, .inl v_starts)), (q_sizes, .inl (cI, 31, .inl v_sizes))] H := hP
    have hD : va_D A [(q_this, .inr (3, [.ref q_bytes, .ref q_starts, .ref q_sizes, .int x_1, .int v_last, .int v_leaf])), (q_bytes, .inl (cB, 96, .inl v_bytes)), (q_starts, .inl (cI, 31, .inl v_starts)), (q_sizes, .inl (cI, 31, .inl v_sizes))] := hD
    refine lv_iconst (v := 1) hx hb d_Node_findCells_110 rfl ?_
    exact hret _ _ _ _ (1 : Int32) x_1 v_starts v_sizes d_Node_findCells_111 (by decide) hP hD hS hf
  have lp_83 : ∀ (v_count : Int32) (v_starts : Nat → Int32) (v_sizes : Nat → Int32) (x_1 : Int32) (x_2 : Int32) (n83 : Nat) (x_3 : Int32) (H : Heap) (locs : List Loc) (ls : Array Slot), va_P D pu_cl [(q_this, .inr (3, [.ref q_bytes, .ref q_starts, .ref q_sizes, .int v_count, .int v_last, .int v_leaf])), (q_bytes, .inl (cB, 96, .inl v_bytes)), (q_starts, .inl (cI, 31, .inl v_starts)), (q_sizes, .inl (cI, 31, .inl v_sizes))] H → va_D A [(q_this, .inr (3, [.ref q_bytes, .ref q_starts, .ref q_sizes, .int v_count, .int v_last, .int v_leaf])), (q_bytes, .inl (cB, 96, .inl v_bytes)), (q_starts, .inl (cI, 31, .inl v_starts)), (q_sizes, .inl (cI, 31, .inl v_sizes))] → va_S A s.heap H locs → lv_has ls 4 [(0, .ref q_this), (1, .int x_1), (2, .int x_2), (3, .int x_3)] → q_Node_findCells_83 (q_Node_findCells_105 v_bytes v_count v_starts v_sizes x_1) v_bytes v_count v_starts v_sizes x_1 x_2 n83 x_3 = some (o_r, o_count, o_starts, o_sizes) → W p l e rm_Node_findCells s m args below meth c H locs 0 0 Q (F0 m 83 ls []) := by
    intro v_count v_starts v_sizes x_1 x_2 n83
    induction n83 with
    | zero =>
      intro x_3 H locs ls hP hD hS hl hf
      rw [q_Node_findCells_83] at hf
      cases hf
    | succ n83 ih_83 =>
      intro x_3 H locs ls hP hD hS hl hf
      rw [q_Node_findCells_83] at hf
      refine lv_iload_n hx hb d_Node_findCells_83 rfl (lv_at hl 3 rfl) ?_
      refine lv_iload_n hx hb d_Node_findCells_84 rfl (lv_at hl 2 rfl) ?_
      refine lv_icmp_ge (tgt := 105) hx hb d_Node_findCells_85 rfl (fun hc => ?_) (fun hc => ?_)
      · have hf := pu_br_pos hf hc
        exact lb_105 v_count v_starts v_sizes x_1 H locs ls hP hD hS (lv_sub hl [0, 1] rfl) hf
      have hf := pu_br_neg hf hc
      refine lv_aload_n hx hb d_Node_findCells_88 rfl (lv_at hl 0 rfl) ?_
      refine gf_Node_11 (v := .ref q_bytes) hx hb hts hN hown hK hP 0 rfl rfl d_Node_findCells_89 ?_
      refine lv_iload_n hx hb d_Node_findCells_92 rfl (lv_at hl 3 rfl) ?_
      obtain ⟨hin, hf⟩ := pu_ck_some hf
      refine va_bald hx hb hK hP 1 2 rfl rfl hin d_Node_findCells_93 ?_
      refine lv_if_eq (tgt := 99) hx hb d_Node_findCells_94 rfl (fun hc => ?_) (fun hc => ?_)
      · have hf := pu_br_pos hf hc
        obtain ⟨t1, e_t1, hf⟩ := pu_nm_some hf
        refine lv_iinc (k := 3) (v := t1) hx hb d_Node_findCells_99 hl rfl e_t1.symm (by decide) rfl (fun ls hl => ?_)
        have hl : lv_has ls 4 [(3, .int t1), (0, .ref q_this), (1, .int x_1), (2, .int x_2)] := hl
        refine lv_goto (tgt := 83) hx hb d_Node_findCells_102 rfl ?_
        exact ih_83 t1 H locs ls hP hD hS (lv_sub hl [1, 2, 3, 0] rfl) hf
      have hf := pu_br_neg hf hc
      refine lv_iconst (v := 0) hx hb d_Node_findCells_97 rfl ?_
      exact hret _ _ _ _ (0 : Int32) v_count v_starts v_sizes d_Node_findCells_98 (by decide) hP hD hS hf
  have lb_79 : ∀ (v_count : Int32) (v_starts : Nat → Int32) (v_sizes : Nat → Int32) (x_1 : Int32) (x_2 : Int32) (H : Heap) (locs : List Loc) (ls : Array Slot), va_P D pu_cl [(q_this, .inr (3, [.ref q_bytes, .ref q_starts, .ref q_sizes, .int v_count, .int v_last, .int v_leaf])), (q_bytes, .inl (cB, 96, .inl v_bytes)), (q_starts, .inl (cI, 31, .inl v_starts)), (q_sizes, .inl (cI, 31, .inl v_sizes))] H → va_D A [(q_this, .inr (3, [.ref q_bytes, .ref q_starts, .ref q_sizes, .int v_count, .int v_last, .int v_leaf])), (q_bytes, .inl (cB, 96, .inl v_bytes)), (q_starts, .inl (cI, 31, .inl v_starts)), (q_sizes, .inl (cI, 31, .inl v_sizes))] → va_S A s.heap H locs → lv_has ls 4 [(0, .ref q_this), (1, .int x_1), (2, .int x_2)] → q_Node_findCells_79 v_bytes v_count v_starts v_sizes x_1 x_2 = some (o_r, o_count, o_starts, o_sizes) → W p l e rm_Node_findCells s m args below meth c H locs 0 0 Q (F0 m 79 ls []) := by
    intro v_count v_starts v_sizes x_1 x_2 H locs ls hP hD hS hl hf
    rw [q_Node_findCells_79] at hf
    refine lv_iconst (v := 4) hx hb d_Node_findCells_79 rfl ?_
    refine lv_iload_n hx hb d_Node_findCells_80 rfl (lv_at hl 1 rfl) ?_
    refine lv_iadd hx hb d_Node_findCells_81 ?_
    refine lv_istore_n hx hb d_Node_findCells_82 rfl hl (by decide) rfl (fun ls hl => ?_)
    have hl : lv_has ls 4 [(3, .int ((4 : Int32) + x_1)), (0, .ref q_this), (1, .int x_1), (2, .int x_2)] := hl
    exact lp_83 v_count v_starts v_sizes x_1 x_2 _ ((4 : Int32) + x_1) H locs ls hP hD hS (lv_sub hl [1, 2, 3, 0] rfl) hf
  have lp_5 : ∀ (v_count : Int32) (x_1 : Int32) (n5 : Nat) (v_starts : Nat → Int32) (v_sizes : Nat → Int32) (x_2 : Int32) (x_3 : Int32) (H : Heap) (locs : List Loc) (ls : Array Slot), va_P D pu_cl [(q_this, .inr (3, [.ref q_bytes, .ref q_starts, .ref q_sizes, .int v_count, .int v_last, .int v_leaf])), (q_bytes, .inl (cB, 96, .inl v_bytes)), (q_starts, .inl (cI, 31, .inl v_starts)), (q_sizes, .inl (cI, 31, .inl v_sizes))] H → va_D A [(q_this, .inr (3, [.ref q_bytes, .ref q_starts, .ref q_sizes, .int v_count, .int v_last, .int v_leaf])), (q_bytes, .inl (cB, 96, .inl v_bytes)), (q_starts, .inl (cI, 31, .inl v_starts)), (q_sizes, .inl (cI, 31, .inl v_sizes))] → va_S A s.heap H locs → lv_has ls 4 [(0, .ref q_this), (1, .int x_1), (2, .int x_2), (3, .int x_3)] → q_Node_findCells_5 (fun v_starts v_sizes x_2 => q_Node_findCells_79 v_bytes v_count v_starts v_sizes x_1 x_2) v_bytes v_count x_1 n5 v_starts v_sizes x_2 x_3 = some (o_r, o_count, o_starts, o_sizes) → W p l e rm_Node_findCells s m args below meth c H locs 0 0 Q (F0 m 5 ls []) := by
    intro v_count x_1 n5
    induction n5 with
    | zero =>
      intro v_starts v_sizes x_2 x_3 H locs ls hP hD hS hl hf
      rw [q_Node_findCells_5] at hf
      cases hf
    | succ n5 ih_5 =>
      intro v_starts v_sizes x_2 x_3 H locs ls hP hD hS hl hf
      rw [q_Node_findCells_5] at hf
      refine lv_iload_n hx hb d_Node_findCells_5 rfl (lv_at hl 3 rfl) ?_
      refine lv_iload_n hx hb d_Node_findCells_6 rfl (lv_at hl 1 rfl) ?_
      refine lv_icmp_ge (tgt := 79) hx hb d_Node_findCells_7 rfl (fun hc => ?_) (fun hc => ?_)
      · have hf := pu_br_pos hf hc
        exact lb_79 v_count v_starts v_sizes x_1 x_2 H locs ls hP hD hS (lv_sub hl [0, 1, 2] rfl) hf
      have hf := pu_br_neg hf hc
      refine lv_iload_n hx hb d_Node_findCells_10 rfl (lv_at hl 3 rfl) ?_
      refine lv_bipush (v := 30) hx hb d_Node_findCells_11 rfl ?_
      refine lv_icmp_ge (tgt := 79) hx hb d_Node_findCells_13 rfl (fun hc => ?_) (fun hc => ?_)
      · have hf := pu_br_pos hf hc
        exact lb_79 v_count v_starts v_sizes x_1 x_2 H locs ls hP hD hS (lv_sub hl [0, 1, 2] rfl) hf
      have hf := pu_br_neg hf hc
      refine lv_aload_n hx hb d_Node_findCells_16 rfl (lv_at hl 0 rfl) ?_
      refine gf_Node_15 (v := .ref q_starts) hx hb hts hN hown hK hP 0 rfl rfl d_Node_findCells_17 ?_
      refine lv_iload_n hx hb d_Node_findCells_20 rfl (lv_at hl 3 rfl) ?_
      refine lv_aload_n hx hb d_Node_findCells_21 rfl (lv_at hl 0 rfl) ?_
      refine gf_Node_11 (v := .ref q_bytes) hx hb hts hN hown hK hP 0 rfl rfl d_Node_findCells_22 ?_
      refine lv_iconst (v := 4) hx hb d_Node_findCells_25 rfl ?_
      refine lv_iload_n hx hb d_Node_findCells_26 rfl (lv_at hl 3 rfl) ?_
      refine lv_iadd hx hb d_Node_findCells_27 ?_
      obtain ⟨hin, hf⟩ := pu_ck_some hf
      refine va_bald hx hb hK hP 1 2 rfl rfl hin d_Node_findCells_28 ?_
      refine lv_sipush (v := 255) hx hb d_Node_findCells_29 rfl ?_
      refine lv_iand hx hb d_Node_findCells_32 ?_
      obtain ⟨hin, hf⟩ := pu_ck_some hf
      obtain ⟨a2, e_a2, hf⟩ := pu_nm_some hf
      refine va_iast hx hb hK hP hD hS 2 0 rfl rfl hin d_Node_findCells_33 (fun H locs hP hD hS => ?_)
      have hP : va_P D pu_cl [(q_this, .inr (3, [.ref q_bytes, .ref q_starts, .ref q_sizes, .int v_count, .int v_last, .int v_leaf])), (q_bytes, .inl (cB, 96, .inl v_bytes)), (q_starts, .inl (cI, 31, .inl a2)), (q_sizes, .inl (cI, 31, .inl v_sizes))] H := by rw [e_a2]; exact hP
      have hD : va_D A [(q_this, .inr (3, [.ref q_bytes, .ref q_starts, .ref q_sizes, .int v_count, .int v_last, .int v_leaf])), (q_bytes, .inl (cB, 96, .inl v_bytes)), (q_starts, .inl (cI, 31, .inl a2)), (q_sizes, .inl (cI, 31, .inl v_sizes))] := by rw [e_a2]; exact hD
      refine lv_aload_n hx hb d_Node_findCells_34 rfl (lv_at hl 0 rfl) ?_
      refine gf_Node_19 (v := .ref q_sizes) hx hb hts hN hown hK hP 0 rfl rfl d_Node_findCells_35 ?_
      refine lv_iload_n hx hb d_Node_findCells_38 rfl (lv_at hl 3 rfl) ?_
      refine lv_iload_n hx hb d_Node_findCells_39 rfl (lv_at hl 2 rfl) ?_
      refine lv_aload_n hx hb d_Node_findCells_40 rfl (lv_at hl 0 rfl) ?_
      refine gf_Node_15 (v := .ref q_starts) hx hb hts hN hown hK hP 0 rfl rfl d_Node_findCells_41 ?_
      refine lv_iload_n hx hb d_Node_findCells_44 rfl (lv_at hl 3 rfl) ?_
      obtain ⟨hin, hf⟩ := pu_ck_some hf
      refine va_iald hx hb hK hP 2 0 rfl rfl hin d_Node_findCells_45 ?_
      refine lv_isub hx hb d_Node_findCells_46 ?_
      obtain ⟨hin, hf⟩ := pu_ck_some hf
      obtain ⟨a3, e_a3, hf⟩ := pu_nm_some hf
      refine va_iast hx hb hK hP hD hS 3 0 rfl rfl hin d_Node_findCells_47 (fun H locs hP hD hS => ?_)
      have hP : va_P D pu_cl [(q_this, .inr (3, [.ref q_bytes, .ref q_starts, .ref q_sizes, .int v_count, .int v_last, .int v_leaf])), (q_bytes, .inl (cB, 96, .inl v_bytes)), (q_starts, .inl (cI, 31, .inl a2)), (q_sizes, .inl (cI, 31, .inl a3))] H := by rw [e_a3]; exact hP
      have hD : va_D A [(q_this, .inr (3, [.ref q_bytes, .ref q_starts, .ref q_sizes, .int v_count, .int v_last, .int v_leaf])), (q_bytes, .inl (cB, 96, .inl v_bytes)), (q_starts, .inl (cI, 31, .inl a2)), (q_sizes, .inl (cI, 31, .inl a3))] := by rw [e_a3]; exact hD
      refine lv_aload_n hx hb d_Node_findCells_48 rfl (lv_at hl 0 rfl) ?_
      refine gf_Node_15 (v := .ref q_starts) hx hb hts hN hown hK hP 0 rfl rfl d_Node_findCells_49 ?_
      refine lv_iload_n hx hb d_Node_findCells_52 rfl (lv_at hl 3 rfl) ?_
      obtain ⟨hin, hf⟩ := pu_ck_some hf
      refine va_iald hx hb hK hP 2 0 rfl rfl hin d_Node_findCells_53 ?_
      obtain ⟨t4, e_t4, hf⟩ := pu_nm_some hf
      refine pu_ti e_t4 ?_
      refine lv_istore_n hx hb d_Node_findCells_54 rfl hl (by decide) rfl (fun ls hl => ?_)
      have hl : lv_has ls 4 [(2, .int t4), (0, .ref q_this), (1, .int x_1), (3, .int x_3)] := hl
      refine lv_aload_n hx hb d_Node_findCells_55 rfl (lv_at hl 1 rfl) ?_
      refine gf_Node_19 (v := .ref q_sizes) hx hb hts hN hown hK hP 0 rfl rfl d_Node_findCells_56 ?_
      refine lv_iload_n hx hb d_Node_findCells_59 rfl (lv_at hl 3 rfl) ?_
      obtain ⟨hin, hf⟩ := pu_ck_some hf
      refine va_iald hx hb hK hP 3 0 rfl rfl hin d_Node_findCells_60 ?_
      refine lv_if_le (tgt := 71) hx hb d_Node_findCells_61 rfl (fun hc => ?_) (fun hc => ?_)
      · have hf := pu_br_pos hf hc
        refine lv_iconst (v := 0) hx hb d_Node_findCells_71 rfl ?_
        exact hret _ _ _ _ (0 : Int32) v_count a2 a3 d_Node_findCells_72 (by decide) hP hD hS hf
      have hf := pu_br_neg hf hc
      refine lv_iload_n hx hb d_Node_findCells_64 rfl (lv_at hl 0 rfl) ?_
      refine lv_iconst (v := 4) hx hb d_Node_findCells_65 rfl ?_
      refine lv_iload_n hx hb d_Node_findCells_66 rfl (lv_at hl 2 rfl) ?_
      refine lv_iadd hx hb d_Node_findCells_67 ?_
      refine lv_icmp_ge (tgt := 73) hx hb d_Node_findCells_68 rfl (fun hc => ?_) (fun hc => ?_)
      · have hf := pu_br_pos hf hc
        obtain ⟨t5, e_t5, hf⟩ := pu_nm_some hf
        refine lv_iinc (k := 3) (v := t5) hx hb d_Node_findCells_73 hl rfl e_t5.symm (by decide) rfl (fun ls hl => ?_)
        have hl : lv_has ls 4 [(3, .int t5), (2, .int t4), (0, .ref q_this), (1, .int x_1)] := hl
        refine lv_goto (tgt := 5) hx hb d_Node_findCells_76 rfl ?_
        exact ih_5 a2 a3 t4 t5 H locs ls hP hD hS (lv_sub hl [2, 3, 1, 0] rfl) hf
      have hf := pu_br_neg hf hc
      refine lv_iconst (v := 0) hx hb d_Node_findCells_71 rfl ?_
      exact hret _ _ _ _ (0 : Int32) v_count a2 a3 d_Node_findCells_72 (by decide) hP hD hS hf
  obtain ⟨H, hH⟩ : ∃ H, H = s.heap := ⟨_, rfl⟩
  obtain ⟨locs, hlocs⟩ : ∃ locs : List Loc, locs = [] := ⟨_, rfl⟩
  have hP : va_P D pu_cl [(q_this, .inr (3, [.ref q_bytes, .ref q_starts, .ref q_sizes, .int v_count, .int v_last, .int v_leaf])), (q_bytes, .inl (cB, 96, .inl v_bytes)), (q_starts, .inl (cI, 31, .inl v_starts)), (q_sizes, .inl (cI, 31, .inl v_sizes))] H := by rw [hH]; exact hP
  have hS : va_S A s.heap H locs := by rw [hH, hlocs]; exact hS
  have goal : W p l e rm_Node_findCells s m args below meth c H locs 0 0 Q (F0 m 0 ls []) := by
    clear hH hlocs
    refine lv_bipush (v := 64) hx hb d_Node_findCells_0 rfl ?_
    refine lv_istore_n hx hb d_Node_findCells_2 rfl hl (by decide) rfl (fun ls hl => ?_)
    have hl : lv_has ls 4 [(2, .int (64 : Int32)), (0, .ref q_this), (1, .int x_1)] := hl
    refine lv_iconst (v := 0) hx hb d_Node_findCells_3 rfl ?_
    refine lv_istore_n hx hb d_Node_findCells_4 rfl hl (by decide) rfl (fun ls hl => ?_)
    have hl : lv_has ls 4 [(3, .int (0 : Int32)), (2, .int (64 : Int32)), (0, .ref q_this), (1, .int x_1)] := hl
    exact lp_5 v_count x_1 _ v_starts v_sizes (64 : Int32) (0 : Int32) H locs ls hP hD hS (lv_sub hl [2, 3, 1, 0] rfl) hf
  rw [hH, hlocs] at goal
  exact goal
theorem d_Node_load_0 : decode b_Node_load 0 = .ok (.iconst 0, 1) := by decide +kernel
theorem d_Node_load_1 : decode b_Node_load 1 = .ok (.istore_n 3, 1) := by decide +kernel
theorem d_Node_load_2 : decode b_Node_load 2 = .ok (.iload_n 3, 1) := by decide +kernel
theorem d_Node_load_3 : decode b_Node_load 3 = .ok (.bipush 64, 2) := by decide +kernel
theorem d_Node_load_5 : decode b_Node_load 5 = .ok (.if_icmp .ge 22, 3) := by decide +kernel
theorem d_Node_load_8 : decode b_Node_load 8 = .ok (.aload_n 0, 1) := by decide +kernel
theorem d_Node_load_9 : decode b_Node_load 9 = .ok (.getfield 11, 3) := by decide +kernel
theorem d_Node_load_12 : decode b_Node_load 12 = .ok (.iload_n 3, 1) := by decide +kernel
theorem d_Node_load_13 : decode b_Node_load 13 = .ok (.aload_n 1, 1) := by decide +kernel
theorem d_Node_load_14 : decode b_Node_load 14 = .ok (.iload_n 2, 1) := by decide +kernel
theorem d_Node_load_15 : decode b_Node_load 15 = .ok (.iload_n 3, 1) := by decide +kernel
theorem d_Node_load_16 : decode b_Node_load 16 = .ok (.invokevirtual 22, 3) := by decide +kernel
theorem d_Node_load_19 : decode b_Node_load 19 = .ok (.i2b, 1) := by decide +kernel
theorem d_Node_load_20 : decode b_Node_load 20 = .ok (.bastore, 1) := by decide +kernel
theorem d_Node_load_21 : decode b_Node_load 21 = .ok (.iinc 3 1, 3) := by decide +kernel
theorem d_Node_load_24 : decode b_Node_load 24 = .ok (.goto (-22), 3) := by decide +kernel
theorem d_Node_load_27 : decode b_Node_load 27 = .ok (.aload_n 0, 1) := by decide +kernel
theorem d_Node_load_28 : decode b_Node_load 28 = .ok (.aload_n 0, 1) := by decide +kernel
theorem d_Node_load_29 : decode b_Node_load 29 = .ok (.getfield 11, 3) := by decide +kernel
theorem d_Node_load_32 : decode b_Node_load 32 = .ok (.iconst 0, 1) := by decide +kernel
theorem d_Node_load_33 : decode b_Node_load 33 = .ok (.baload, 1) := by decide +kernel
theorem d_Node_load_34 : decode b_Node_load 34 = .ok (.bipush 13, 2) := by decide +kernel
theorem d_Node_load_36 : decode b_Node_load 36 = .ok (.if_icmp .ne 7, 3) := by decide +kernel
theorem d_Node_load_39 : decode b_Node_load 39 = .ok (.iconst 1, 1) := by decide +kernel
theorem d_Node_load_40 : decode b_Node_load 40 = .ok (.goto 4, 3) := by decide +kernel
theorem d_Node_load_43 : decode b_Node_load 43 = .ok (.iconst 0, 1) := by decide +kernel
theorem d_Node_load_44 : decode b_Node_load 44 = .ok (.putfield 28, 3) := by decide +kernel
theorem d_Node_load_47 : decode b_Node_load 47 = .ok (.aload_n 0, 1) := by decide +kernel
theorem d_Node_load_48 : decode b_Node_load 48 = .ok (.aload_n 0, 1) := by decide +kernel
theorem d_Node_load_49 : decode b_Node_load 49 = .ok (.getfield 11, 3) := by decide +kernel
theorem d_Node_load_52 : decode b_Node_load 52 = .ok (.iconst 2, 1) := by decide +kernel
theorem d_Node_load_53 : decode b_Node_load 53 = .ok (.baload, 1) := by decide +kernel
theorem d_Node_load_54 : decode b_Node_load 54 = .ok (.sipush 255, 3) := by decide +kernel
theorem d_Node_load_57 : decode b_Node_load 57 = .ok (.iand, 1) := by decide +kernel
theorem d_Node_load_58 : decode b_Node_load 58 = .ok (.putfield 32, 3) := by decide +kernel
theorem d_Node_load_61 : decode b_Node_load 61 = .ok (.aload_n 0, 1) := by decide +kernel
theorem d_Node_load_62 : decode b_Node_load 62 = .ok (.getfield 11, 3) := by decide +kernel
theorem d_Node_load_65 : decode b_Node_load 65 = .ok (.iconst 1, 1) := by decide +kernel
theorem d_Node_load_66 : decode b_Node_load 66 = .ok (.baload, 1) := by decide +kernel
theorem d_Node_load_67 : decode b_Node_load 67 = .ok (.sipush 255, 3) := by decide +kernel
theorem d_Node_load_70 : decode b_Node_load 70 = .ok (.iand, 1) := by decide +kernel
theorem d_Node_load_71 : decode b_Node_load 71 = .ok (.istore_n 3, 1) := by decide +kernel
theorem d_Node_load_72 : decode b_Node_load 72 = .ok (.aload_n 0, 1) := by decide +kernel
theorem d_Node_load_73 : decode b_Node_load 73 = .ok (.iconst 0, 1) := by decide +kernel
theorem d_Node_load_74 : decode b_Node_load 74 = .ok (.putfield 36, 3) := by decide +kernel
theorem d_Node_load_77 : decode b_Node_load 77 = .ok (.aload_n 0, 1) := by decide +kernel
theorem d_Node_load_78 : decode b_Node_load 78 = .ok (.getfield 28, 3) := by decide +kernel
theorem d_Node_load_81 : decode b_Node_load 81 = .ok (.ifCond .ne 13, 3) := by decide +kernel
theorem d_Node_load_84 : decode b_Node_load 84 = .ok (.aload_n 0, 1) := by decide +kernel
theorem d_Node_load_85 : decode b_Node_load 85 = .ok (.getfield 11, 3) := by decide +kernel
theorem d_Node_load_88 : decode b_Node_load 88 = .ok (.iconst 0, 1) := by decide +kernel
theorem d_Node_load_89 : decode b_Node_load 89 = .ok (.baload, 1) := by decide +kernel
theorem d_Node_load_90 : decode b_Node_load 90 = .ok (.iconst 5, 1) := by decide +kernel
theorem d_Node_load_91 : decode b_Node_load 91 = .ok (.if_icmp .ne 32, 3) := by decide +kernel
theorem d_Node_load_94 : decode b_Node_load 94 = .ok (.aload_n 0, 1) := by decide +kernel
theorem d_Node_load_95 : decode b_Node_load 95 = .ok (.getfield 28, 3) := by decide +kernel
theorem d_Node_load_98 : decode b_Node_load 98 = .ok (.ifCond .eq 10, 3) := by decide +kernel
theorem d_Node_load_101 : decode b_Node_load 101 = .ok (.aload_n 0, 1) := by decide +kernel
theorem d_Node_load_102 : decode b_Node_load 102 = .ok (.getfield 32, 3) := by decide +kernel
theorem d_Node_load_105 : decode b_Node_load 105 = .ok (.ifCond .ne 18, 3) := by decide +kernel
theorem d_Node_load_108 : decode b_Node_load 108 = .ok (.aload_n 0, 1) := by decide +kernel
theorem d_Node_load_109 : decode b_Node_load 109 = .ok (.getfield 11, 3) := by decide +kernel
theorem d_Node_load_112 : decode b_Node_load 112 = .ok (.iconst 3, 1) := by decide +kernel
theorem d_Node_load_113 : decode b_Node_load 113 = .ok (.baload, 1) := by decide +kernel
theorem d_Node_load_114 : decode b_Node_load 114 = .ok (.ifCond .ne 9, 3) := by decide +kernel
theorem d_Node_load_117 : decode b_Node_load 117 = .ok (.iload_n 3, 1) := by decide +kernel
theorem d_Node_load_118 : decode b_Node_load 118 = .ok (.bipush 30, 2) := by decide +kernel
theorem d_Node_load_120 : decode b_Node_load 120 = .ok (.if_icmp .le 5, 3) := by decide +kernel
theorem d_Node_load_123 : decode b_Node_load 123 = .ok (.iconst 0, 1) := by decide +kernel
theorem d_Node_load_124 : decode b_Node_load 124 = .ok (.ireturn, 1) := by decide +kernel
theorem d_Node_load_125 : decode b_Node_load 125 = .ok (.aload_n 0, 1) := by decide +kernel
theorem d_Node_load_126 : decode b_Node_load 126 = .ok (.iload_n 3, 1) := by decide +kernel
theorem d_Node_load_127 : decode b_Node_load 127 = .ok (.invokevirtual 39, 3) := by decide +kernel
theorem d_Node_load_130 : decode b_Node_load 130 = .ok (.ireturn, 1) := by decide +kernel
noncomputable def q_Node_load_108 (v_p1_count : Int32) (v_p1_bytes : Nat → Int32) (v_count : Int32) (v_last : Int32) (v_leaf : Int32) (v_bytes : Nat → Int32) (v_starts : Nat → Int32) (v_sizes : Nat → Int32) (x_3 : Int32) : Option (Int32 × Int32 × Int32 × Int32 × (Nat → Int32) × (Nat → Int32) × (Nat → Int32)) :=
  pu_ck (vp_in (3 : Int32) 96) (pu_br ((v_bytes (3 : Int32).toNatClampNeg) = 0) (pu_br (x_3 ≤ (30 : Int32)) (pu_b4 (f_Node_findCells v_bytes v_count v_starts v_sizes x_3) (fun r3 w4 w5 w6 => pu_ck (pu_bz r3) (some (r3, w4, v_last, v_leaf, v_bytes, w5, w6)))) (some ((0 : Int32), v_count, v_last, v_leaf, v_bytes, v_starts, v_sizes))) (some ((0 : Int32), v_count, v_last, v_leaf, v_bytes, v_starts, v_sizes)))
noncomputable def q_Node_load_94 (v_p1_count : Int32) (v_p1_bytes : Nat → Int32) (v_count : Int32) (v_last : Int32) (v_leaf : Int32) (v_bytes : Nat → Int32) (v_starts : Nat → Int32) (v_sizes : Nat → Int32) (x_3 : Int32) : Option (Int32 × Int32 × Int32 × Int32 × (Nat → Int32) × (Nat → Int32) × (Nat → Int32)) :=
  pu_br (v_leaf = 0) (q_Node_load_108 v_p1_count v_p1_bytes v_count v_last v_leaf v_bytes v_starts v_sizes x_3) (pu_br (v_last = 0) (q_Node_load_108 v_p1_count v_p1_bytes v_count v_last v_leaf v_bytes v_starts v_sizes x_3) (some ((0 : Int32), v_count, v_last, v_leaf, v_bytes, v_starts, v_sizes)))
noncomputable def q_Node_load_44 (v_p1_count : Int32) (v_p1_bytes : Nat → Int32) (v_count : Int32) (v_last : Int32) (v_leaf : Int32) (v_bytes : Nat → Int32) (v_starts : Nat → Int32) (v_sizes : Nat → Int32) (s_1 : Int32) : Option (Int32 × Int32 × Int32 × Int32 × (Nat → Int32) × (Nat → Int32) × (Nat → Int32)) :=
  pu_ck (pu_bz s_1) (pu_ck (vp_in (2 : Int32) 96) (pu_nm ((v_bytes (2 : Int32).toNatClampNeg) &&& (255 : Int32)) (fun t1 => pu_ck (vp_in (1 : Int32) 96) (pu_nm ((v_bytes (1 : Int32).toNatClampNeg) &&& (255 : Int32)) (fun t2 => pu_br (s_1 = 0) (pu_ck (vp_in (0 : Int32) 96) (pu_br ((v_bytes (0 : Int32).toNatClampNeg) = (5 : Int32)) (q_Node_load_94 v_p1_count v_p1_bytes (0 : Int32) t1 s_1 v_bytes v_starts v_sizes t2) (some ((0 : Int32), (0 : Int32), t1, s_1, v_bytes, v_starts, v_sizes)))) (q_Node_load_94 v_p1_count v_p1_bytes (0 : Int32) t1 s_1 v_bytes v_starts v_sizes t2))))))
noncomputable def q_Node_load_27 (v_p1_count : Int32) (v_p1_bytes : Nat → Int32) (v_count : Int32) (v_last : Int32) (v_leaf : Int32) (v_bytes : Nat → Int32) (v_starts : Nat → Int32) (v_sizes : Nat → Int32) : Option (Int32 × Int32 × Int32 × Int32 × (Nat → Int32) × (Nat → Int32) × (Nat → Int32)) :=
  pu_ck (vp_in (0 : Int32) 96) (pu_br ((v_bytes (0 : Int32).toNatClampNeg) = (13 : Int32)) (q_Node_load_44 v_p1_count v_p1_bytes v_count v_last v_leaf v_bytes v_starts v_sizes (1 : Int32)) (q_Node_load_44 v_p1_count v_p1_bytes v_count v_last v_leaf v_bytes v_starts v_sizes (0 : Int32)))
noncomputable def q_Node_load_2 (kx_27 : (Nat → Int32) → Option (Int32 × Int32 × Int32 × Int32 × (Nat → Int32) × (Nat → Int32) × (Nat → Int32))) (v_p1_count : Int32) (v_p1_bytes : Nat → Int32) (v_count : Int32) (v_last : Int32) (v_leaf : Int32) (v_starts : Nat → Int32) (v_sizes : Nat → Int32) (x_2 : Int32) : Nat → (Nat → Int32) → Int32 → Option (Int32 × Int32 × Int32 × Int32 × (Nat → Int32) × (Nat → Int32) × (Nat → Int32))
  | 0, _, _ => none
  | n + 1, v_bytes, x_3 => pu_br ((64 : Int32) ≤ x_3) (kx_27 v_bytes) (pu_b1 (f_Pages_get v_p1_count v_p1_bytes x_2 x_3) (fun r7 => pu_ck (vp_in x_3 96) (pu_nm (upd v_bytes x_3.toNatClampNeg (vp_nar .byte r7.toInt8.toInt32)) (fun a8 => pu_nm (x_3 + (1 : Int32)) (fun t9 => q_Node_load_2 kx_27 v_p1_count v_p1_bytes v_count v_last v_leaf v_starts v_sizes x_2 n a8 t9)))))
noncomputable def f_Node_load (v_p1_count : Int32) (v_p1_bytes : Nat → Int32) (v_count : Int32) (v_last : Int32) (v_leaf : Int32) (v_bytes : Nat → Int32) (v_starts : Nat → Int32) (v_sizes : Nat → Int32) (x_2 : Int32) : Option (Int32 × Int32 × Int32 × Int32 × (Nat → Int32) × (Nat → Int32) × (Nat → Int32)) :=
  q_Node_load_2 (fun v_bytes => q_Node_load_27 v_p1_count v_p1_bytes v_count v_last v_leaf v_bytes v_starts v_sizes) v_p1_count v_p1_bytes v_count v_last v_leaf v_starts v_sizes x_2 pu_fu v_bytes (0 : Int32)
abbrev rm_Node_load : Room := { frames := 2, cells := 0, slots := 0, locals := 44 }
set_option maxHeartbeats 8000000 in
set_option maxRecDepth 100000 in
theorem c_Node_load (l : Launch) (D : va_G) (cI cJ cB cZ : ClassId) (sz : Nat) (q_this : Nat) (q_bytes : Nat) (q_starts : Nat) (q_sizes : Nat) (q_p1 : Nat) (q_p1_bytes : Nat) (v_count : Int32) (v_last : Int32) (v_leaf : Int32) (v_bytes : Nat → Int32) (v_starts : Nat → Int32) (v_sizes : Nat → Int32) (v_p1_count : Int32) (v_p1_bytes : Nat → Int32) (x_2 : Int32) (o_r : Int32) (o_count : Int32) (o_last : Int32) (o_leaf : Int32) (o_bytes : Nat → Int32) (o_starts : Nat → Int32) (o_sizes : Nat → Int32) (hf : f_Node_load v_p1_count v_p1_bytes v_count v_last v_leaf v_bytes v_starts v_sizes x_2 = some (o_r, o_count, o_last, o_leaf, o_bytes, o_starts, o_sizes)) : Met l y_Node_load (.code y_Node_load b_Node_load 4 (some .boolean) :: pu_wA) rm_Node_load (pu_pc D pu_cl (pu_ty cI cJ cB cZ) [.ref q_this, .ref q_p1, .int x_2] [(q_this, .inr (3, [.ref q_bytes, .ref q_starts, .ref q_sizes, .int v_count, .int v_last, .int v_leaf])), (q_bytes, .inl (cB, 96, .inl v_bytes)), (q_starts, .inl (cI, 31, .inl v_starts)), (q_sizes, .inl (cI, 31, .inl v_sizes)), (q_p1, .inr (0, [.ref q_p1_bytes, .int v_p1_count])), (q_p1_bytes, .inl (cB, 1536, .inl v_p1_bytes))] sz) (pu_qi D pu_cl (pu_ty cI cJ cB cZ) [(q_this, .inr (3, [.ref q_bytes, .ref q_starts, .ref q_sizes, .int v_count, .int v_last, .int v_leaf])), (q_bytes, .inl (cB, 96, .inl v_bytes)), (q_starts, .inl (cI, 31, .inl v_starts)), (q_sizes, .inl (cI, 31, .inl v_sizes)), (q_p1, .inr (0, [.ref q_p1_bytes, .int v_p1_count])), (q_p1_bytes, .inl (cB, 1536, .inl v_p1_bytes))] [(q_this, .inr (3, [.ref q_bytes, .ref q_starts, .ref q_sizes, .int o_count, .int o_last, .int o_leaf])), (q_bytes, .inl (cB, 96, .inl o_bytes)), (q_starts, .inl (cI, 31, .inl o_starts)), (q_sizes, .inl (cI, 31, .inl o_sizes)), (q_p1, .inr (0, [.ref q_p1_bytes, .int v_p1_count])), (q_p1_bytes, .inl (cB, 1536, .inl v_p1_bytes))] sz o_r) 0 0 (va_A [(q_this, .inr (3, [.ref q_bytes, .ref q_starts, .ref q_sizes, .int v_count, .int v_last, .int v_leaf])), (q_bytes, .inl (cB, 96, .inl v_bytes)), (q_starts, .inl (cI, 31, .inl v_starts)), (q_sizes, .inl (cI, 31, .inl v_sizes)), (q_p1, .inr (0, [.ref q_p1_bytes, .int v_p1_count])), (q_p1_bytes, .inl (cB, 1536, .inl v_p1_bytes))] sz) := by
  refine pu_mtz [.ref q_this, .ref q_p1, .int x_2] [(q_this, .inr (3, [.ref q_bytes, .ref q_starts, .ref q_sizes, .int v_count, .int v_last, .int v_leaf])), (q_bytes, .inl (cB, 96, .inl v_bytes)), (q_starts, .inl (cI, 31, .inl v_starts)), (q_sizes, .inl (cI, 31, .inl v_sizes)), (q_p1, .inr (0, [.ref q_p1_bytes, .int v_p1_count])), (q_p1_bytes, .inl (cB, 1536, .inl v_p1_bytes))] [(q_this, .inr (3, [.ref q_bytes, .ref q_starts, .ref q_sizes, .int o_count, .int o_last, .int o_leaf])), (q_bytes, .inl (cB, 96, .inl o_bytes)), (q_starts, .inl (cI, 31, .inl o_starts)), (q_sizes, .inl (cI, 31, .inl o_sizes)), (q_p1, .inr (0, [.ref q_p1_bytes, .int v_p1_count])), (q_p1_bytes, .inl (cB, 1536, .inl v_p1_bytes))] o_r (by decide) (Nat.le_of_ble_eq_true rfl) ?_
  intro p e s m args below meth c A Q ls hx hb hml hts hN hown hK hA hP hD hl hret0
  have hS : va_S A s.heap s.heap [] := va_S.rf
  have hl : lv_has ls 4 [(0, .ref q_this), (1, .ref q_p1), (2, .int x_2)] := hl
  have hret : ∀ (pc : Nat) (ls : Array Slot) (H : Heap) (locs : List Loc) (y_0 : Int32) (y_1 : Int32) (y_2 : Int32) (y_3 : Int32) (y_4 : Nat → Int32) (y_5 : Nat → Int32) (y_6 : Nat → Int32), decode b_Node_load pc = .ok (.ireturn, 1) → narrow .boolean (.int y_0) = .int y_0 → va_P D pu_cl [(q_this, .inr (3, [.ref q_bytes, .ref q_starts, .ref q_sizes, .int y_1, .int y_2, .int y_3])), (q_bytes, .inl (cB, 96, .inl y_4)), (q_starts, .inl (cI, 31, .inl y_5)), (q_sizes, .inl (cI, 31, .inl y_6)), (q_p1, .inr (0, [.ref q_p1_bytes, .int v_p1_count])), (q_p1_bytes, .inl (cB, 1536, .inl v_p1_bytes))] H → va_D A [(q_this, .inr (3, [.ref q_bytes, .ref q_starts, .ref q_sizes, .int y_1, .int y_2, .int y_3])), (q_bytes, .inl (cB, 96, .inl y_4)), (q_starts, .inl (cI, 31, .inl y_5)), (q_sizes, .inl (cI, 31, .inl y_6)), (q_p1, .inr (0, [.ref q_p1_bytes, .int v_p1_count])), (q_p1_bytes, .inl (cB, 1536, .inl v_p1_bytes))] → va_S A s.heap H locs → some (y_0, y_1, y_2, y_3, y_4, y_5, y_6) = some (o_r, o_count, o_last, o_leaf, o_bytes, o_starts, o_sizes) → W p l e rm_Node_load s m args below meth c H locs 0 0 Q (F0 m pc ls [.int y_0]) := by
    intro pc ls H locs y_0 y_1 y_2 y_3 y_4 y_5 y_6 hd hz hP hD hS hf
    cases hf
    exact hret0 pc ls H locs hd hz hP hD hS
  clear hret0
  unfold f_Node_load at hf
  skip
  have lb_108 : ∀ (v_count : Int32) (v_last : Int32) (v_leaf : Int32) (v_bytes : Nat → Int32) (v_starts : Nat → Int32) (v_sizes : Nat → Int32) (x_3 : Int32) (H : Heap) (locs : List Loc) (ls : Array Slot), va_P D pu_cl [(q_this, .inr (3, [.ref q_bytes, .ref q_starts, .ref q_sizes, .int v_count, .int v_last, .int v_leaf])), (q_bytes, .inl (cB, 96, .inl v_bytes)), (q_starts, .inl (cI, 31, .inl v_starts)), (q_sizes, .inl (cI, 31, .inl v_sizes)), (q_p1, .inr (0, [.ref q_p1_bytes, .int v_p1_count])), (q_p1_bytes, .inl (cB, 1536, .inl v_p1_bytes))] H → va_D A [(q_this, .inr (3, [.ref q_bytes, .ref q_starts, .ref q_sizes, .int v_count, .int v_last, .int v_leaf])), (q_bytes, .inl (cB, 96, .inl v_bytes)), (q_starts, .inl (cI, 31, .inl v_starts)), (q_sizes, .inl (cI, 31, .inl v_sizes)), (q_p1, .inr (0, [.ref q_p1_bytes, .int v_p1_count])), (q_p1_bytes, .inl (cB, 1536, .inl v_p1_bytes))] → va_S A s.heap H locs → lv_has ls 4 [(0, .ref q_this), (3, .int x_3)] → q_Node_load_108 v_p1_count v_p1_bytes v_count v_last v_leaf v_bytes v_starts v_sizes x_3 = some (o_r, o_count, o_last, o_leaf, o_bytes, o_starts, o_sizes) → W p l e rm_Node_load s m args below meth c H locs 0 0 Q (F0 m 108 ls []) := by
    intro v_count v_last v_leaf v_bytes v_starts v_sizes x_3 H locs ls hP hD hS hl hf
    rw [q_Node_load_108] at hf
    refine lv_aload_n hx hb d_Node_load_108 rfl (lv_at hl 0 rfl) ?_
    refine gf_Node_11 (v := .ref q_bytes) hx hb hts hN hown hK hP 0 rfl rfl d_Node_load_109 ?_
    refine lv_iconst (v := 3) hx hb d_Node_load_112 rfl ?_
    obtain ⟨hin, hf⟩ := pu_ck_some hf
    refine va_bald hx hb hK hP 1 2 rfl rfl hin d_Node_load_113 ?_
    refine lv_if_ne (tgt := 123) hx hb d_Node_load_114 rfl (fun hc => ?_) (fun hc => ?_)
    · have hf := pu_br_neg hf hc
      refine lv_iconst (v := 0) hx hb d_Node_load_123 rfl ?_
      exact hret _ _ _ _ (0 : Int32) v_count v_last v_leaf v_bytes v_starts v_sizes d_Node_load_124 (by decide) hP hD hS hf
    have hf := pu_br_pos hf hc
    refine lv_iload_n hx hb d_Node_load_117 rfl (lv_at hl 1 rfl) ?_
    refine lv_bipush (v := 30) hx hb d_Node_load_118 rfl ?_
    refine lv_icmp_le (tgt := 125) hx hb d_Node_load_120 rfl (fun hc => ?_) (fun hc => ?_)
    · have hf := pu_br_pos hf hc
      refine lv_aload_n hx hb d_Node_load_125 rfl (lv_at hl 0 rfl) ?_
      refine lv_iload_n hx hb d_Node_load_126 rfl (lv_at hl 1 rfl) ?_
      obtain ⟨r3, w4, w5, w6, hc, hf⟩ := pu_b4_some hf
      refine cl_i (WC := [(q_this, .inr (3, [.ref q_bytes, .ref q_starts, .ref q_sizes, .int v_count, .int v_last, .int v_leaf])), (q_bytes, .inl (cB, 96, .inl v_bytes)), (q_starts, .inl (cI, 31, .inl v_starts)), (q_sizes, .inl (cI, 31, .inl v_sizes))]) (WC2 := [(q_this, .inr (3, [.ref q_bytes, .ref q_starts, .ref q_sizes, .int w4, .int v_last, .int v_leaf])), (q_bytes, .inl (cB, 96, .inl v_bytes)), (q_starts, .inl (cI, 31, .inl w5)), (q_sizes, .inl (cI, 31, .inl w6))]) (WR := [(q_p1, .inr (0, [.ref q_p1_bytes, .int v_p1_count])), (q_p1_bytes, .inl (cB, 1536, .inl v_p1_bytes))]) (WS2 := [(q_this, .inr (3, [.ref q_bytes, .ref q_starts, .ref q_sizes, .int w4, .int v_last, .int v_leaf])), (q_bytes, .inl (cB, 96, .inl v_bytes)), (q_starts, .inl (cI, 31, .inl w5)), (q_sizes, .inl (cI, 31, .inl w6)), (q_p1, .inr (0, [.ref q_p1_bytes, .int v_p1_count])), (q_p1_bytes, .inl (cB, 1536, .inl v_p1_bytes))]) (pu_rv (cl := pu_cl) (pu_in3 _ (List.mem_of_getElem? (i := 46) rfl)) (pu_in3 _ (List.mem_of_getElem? (i := 47) rfl)) (pu_in13 _ (List.mem_of_getElem? (i := 45) rfl)) (pu_in0 _ (List.mem_of_getElem? (i := 6) rfl)) (pu_in3 _ (List.mem_of_getElem? (i := 48) rfl)) (ci := 3) rfl hd_Node_findCells (by decide) ⟨rfl, rfl⟩ rfl rfl (Nat.le_of_ble_eq_true rfl) rfl (As := [.int x_3]) (rest := []) (WC := [(q_this, .inr (3, [.ref q_bytes, .ref q_starts, .ref q_sizes, .int v_count, .int v_last, .int v_leaf])), (q_bytes, .inl (cB, 96, .inl v_bytes)), (q_starts, .inl (cI, 31, .inl v_starts)), (q_sizes, .inl (cI, 31, .inl v_sizes))]) hx hb hml hown hts hN hK hP hD (c_Node_findCells l D cI cJ cB cZ H.size q_this q_bytes q_starts q_sizes v_count v_last v_leaf v_bytes v_starts v_sizes x_3 r3 w4 w5 w6 hc) [0, 1, 2, 3] rfl rfl hl.1 d_Node_load_127) hP hD hS hA [0, 1, 2, 3] [4, 5] [2, 3, 4, 5, 0, 1] rfl rfl rfl (by decide) rfl rfl (fun H locs hP hD hS => ?_)
      obtain ⟨hz, hf⟩ := pu_ck_some hf
      exact hret _ _ _ _ r3 w4 v_last v_leaf v_bytes w5 w6 d_Node_load_130 hz hP hD hS hf
    have hf := pu_br_neg hf hc
    refine lv_iconst (v := 0) hx hb d_Node_load_123 rfl ?_
    exact hret _ _ _ _ (0 : Int32) v_count v_last v_leaf v_bytes v_starts v_sizes d_Node_load_124 (by decide) hP hD hS hf
  have lb_94 : ∀ (v_count : Int32) (v_last : Int32) (v_leaf : Int32) (v_bytes : Nat → Int32) (v_starts : Nat → Int32) (v_sizes : Nat → Int32) (x_3 : Int32) (H : Heap) (locs : List Loc) (ls : Array Slot), va_P D pu_cl [(q_this, .inr (3, [.ref q_bytes, .ref q_starts, .ref q_sizes, .int v_count, .int v_last, .int v_leaf])), (q_bytes, .inl (cB, 96, .inl v_bytes)), (q_starts, .inl (cI, 31, .inl v_starts)), (q_sizes, .inl (cI, 31, .inl v_sizes)), (q_p1, .inr (0, [.ref q_p1_bytes, .int v_p1_count])), (q_p1_bytes, .inl (cB, 1536, .inl v_p1_bytes))] H → va_D A [(q_this, .inr (3, [.ref q_bytes, .ref q_starts, .ref q_sizes, .int v_count, .int v_last, .int v_leaf])), (q_bytes, .inl (cB, 96, .inl v_bytes)), (q_starts, .inl (cI, 31, .inl v_starts)), (q_sizes, .inl (cI, 31, .inl v_sizes)), (q_p1, .inr (0, [.ref q_p1_bytes, .int v_p1_count])), (q_p1_bytes, .inl (cB, 1536, .inl v_p1_bytes))] → va_S A s.heap H locs → lv_has ls 4 [(0, .ref q_this), (3, .int x_3)] → q_Node_load_94 v_p1_count v_p1_bytes v_count v_last v_leaf v_bytes v_starts v_sizes x_3 = some (o_r, o_count, o_last, o_leaf, o_bytes, o_starts, o_sizes) → W p l e rm_Node_load s m args below meth c H locs 0 0 Q (F0 m 94 ls []) := by
    intro v_count v_last v_leaf v_bytes v_starts v_sizes x_3 H locs ls hP hD hS hl hf
    rw [q_Node_load_94] at hf
    refine lv_aload_n hx hb d_Node_load_94 rfl (lv_at hl 0 rfl) ?_
    refine gf_Node_28 (v := .int v_leaf) hx hb hts hN hown hK hP 0 rfl rfl d_Node_load_95 ?_
    refine lv_if_eq (tgt := 108) hx hb d_Node_load_98 rfl (fun hc => ?_) (fun hc => ?_)
    · have hf := pu_br_pos hf hc
      exact lb_108 v_count v_last v_leaf v_bytes v_starts v_sizes x_3 H locs ls hP hD hS (lv_sub hl [0, 1] rfl) hf
    have hf := pu_br_neg hf hc
    refine lv_aload_n hx hb d_Node_load_101 rfl (lv_at hl 0 rfl) ?_
    refine gf_Node_32 (v := .int v_last) hx hb hts hN hown hK hP 0 rfl rfl d_Node_load_102 ?_
    refine lv_if_ne (tgt := 123) hx hb d_Node_load_105 rfl (fun hc => ?_) (fun hc => ?_)
    · have hf := pu_br_neg hf hc
      refine lv_iconst (v := 0) hx hb d_Node_load_123 rfl ?_
      exact hret _ _ _ _ (0 : Int32) v_count v_last v_leaf v_bytes v_starts v_sizes d_Node_load_124 (by decide) hP hD hS hf
    have hf := pu_br_pos hf hc
    exact lb_108 v_count v_last v_leaf v_bytes v_starts v_sizes x_3 H locs ls hP hD hS (lv_sub hl [0, 1] rfl) hf
  have lb_44 : ∀ (v_count : Int32) (v_last : Int32) (v_leaf : Int32) (v_bytes : Nat → Int32) (v_starts : Nat → Int32) (v_sizes : Nat → Int32) (s_1 : Int32) (H : Heap) (locs : List Loc) (ls : Array Slot), va_P D pu_cl [(q_this, .inr (3, [.ref q_bytes, .ref q_starts, .ref q_sizes, .int v_count, .int v_last, .int v_leaf])), (q_bytes, .inl (cB, 96, .inl v_bytes)), (q_starts, .inl (cI, 31, .inl v_starts)), (q_sizes, .inl (cI, 31, .inl v_sizes)), (q_p1, .inr (0, [.ref q_p1_bytes, .int v_p1_count])), (q_p1_bytes, .inl (cB, 1536, .inl v_p1_bytes))] H → va_D A [(q_this, .inr (3, [.ref q_bytes, .ref q_starts, .ref q_sizes, .int v_count, .int v_last, .int v_leaf])), (q_bytes, .inl (cB, 96, .inl v_bytes)), (q_starts, .inl (cI, 31, .inl v_starts)), (q_sizes, .inl (cI, 31, .inl v_sizes)), (q_p1, .inr (0, [.ref q_p1_bytes, .int v_p1_count])), (q_p1_bytes, .inl (cB, 1536, .inl v_p1_bytes))] → va_S A s.heap H locs → lv_has ls 4 [(0, .ref q_this)] → q_Node_load_44 v_p1_count v_p1_bytes v_count v_last v_leaf v_bytes v_starts v_sizes s_1 = some (o_r, o_count, o_last, o_leaf, o_bytes, o_starts, o_sizes) → W p l e rm_Node_load s m args below meth c H locs 0 0 Q (F0 m 44 ls [.int s_1, .ref q_this]) := by
    intro v_count v_last v_leaf v_bytes v_starts v_sizes s_1 H locs ls hP hD hS hl hf
    rw [q_Node_load_44] at hf
    obtain ⟨hz, hf⟩ := pu_ck_some hf
    refine pf_Node_28 (v := .int s_1) hx hb hts hN hown hK hP hD hS 0 rfl hz (pu_bz_fits hz) (Nat.le_of_ble_eq_true rfl) d_Node_load_44 (fun H locs hP hD hS => ?_)
    have hP : va_P D pu_cl [(q_this, .inr (3, [.ref q_bytes, .ref q_starts, .ref q_sizes, .int v_count, .int v_last, .int s_1])), (q_bytes, .inl (cB, 96, .inl v_bytes)), (q_starts, .inl (cI, 31, .inl v_starts)), (q_sizes, .inl (cI, 31, .inl v_sizes)), (q_p1, .inr (0, [.ref q_p1_bytes, .int v_p1_count])), (q_p1_bytes, .inl (cB, 1536, .inl v_p1_bytes))] H := hP
    have hD : va_D A [(q_this, .inr (3, [.ref q_bytes, .ref q_starts, .ref q_sizes, .int v_count, .int v_last, .int s_1])), (q_bytes, .inl (cB, 96, .inl v_bytes)), (q_starts, .inl (cI, 31, .inl v_starts)), (q_sizes, .inl (cI, 31, .inl v_sizes)), (q_p1, .inr (0, [.ref q_p1_bytes, .int v_p1_count])), (q_p1_bytes, .inl (cB, 1536, .inl v_p1_bytes))] := hD
    refine lv_aload_n hx hb d_Node_load_47 rfl (lv_at hl 0 rfl) ?_
    refine lv_aload_n hx hb d_Node_load_48 rfl (lv_at hl 0 rfl) ?_
    refine gf_Node_11 (v := .ref q_bytes) hx hb hts hN hown hK hP 0 rfl rfl d_Node_load_49 ?_
    refine lv_iconst (v := 2) hx hb d_Node_load_52 rfl ?_
    obtain ⟨hin, hf⟩ := pu_ck_some hf
    refine va_bald hx hb hK hP 1 2 rfl rfl hin d_Node_load_53 ?_
    refine lv_sipush (v := 255) hx hb d_Node_load_54 rfl ?_
    refine lv_iand hx hb d_Node_load_57 ?_
    obtain ⟨t1, e_t1, hf⟩ := pu_nm_some hf
    refine pu_ti e_t1 ?_
    refine pf_Node_32 (v := .int t1) hx hb hts hN hown hK hP hD hS 0 rfl rfl rfl (Nat.le_of_ble_eq_true rfl) d_Node_load_58 (fun H locs hP hD hS => ?_)
    have hP : va_P D pu_cl [(q_this, .inr (3, [.ref q_bytes, .ref q_starts, .ref q_sizes, .int v_count, .int t1, .int s_1])), (q_bytes, .inl (cB, 96, .inl v_bytes)), (q_starts, .inl (cI, 31, .inl v_starts)), (q_sizes, .inl (cI, 31, .inl v_sizes)), (q_p1, .inr (0, [.ref q_p1_bytes, .int v_p1_count])), (q_p1_bytes, .inl (cB, 1536, .inl v_p1_bytes))] H := hP
    have hD : va_D A [(q_this, .inr (3, [.ref q_bytes, .ref q_starts, .ref q_sizes, .int v_count, .int t1, .int s_1])), (q_bytes, .inl (cB, 96, .inl v_bytes)), (q_starts, .inl (cI, 31, .inl v_starts)), (q_sizes, .inl (cI, 31, .inl v_sizes)), (q_p1, .inr (0, [.ref q_p1_bytes, .int v_p1_count])), (q_p1_bytes, .inl (cB, 1536, .inl v_p1_bytes))] := hD
    refine lv_aload_n hx hb d_Node_load_61 rfl (lv_at hl 0 rfl) ?_
    refine gf_Node_11 (v := .ref q_bytes) hx hb hts hN hown hK hP 0 rfl rfl d_Node_load_62 ?_
    refine lv_iconst (v := 1) hx hb d_Node_load_65 rfl ?_
    obtain ⟨hin, hf⟩ := pu_ck_some hf
    refine va_bald hx hb hK hP 1 2 rfl rfl hin d_Node_load_66 ?_
    refine lv_sipush (v := 255) hx hb d_Node_load_67 rfl ?_
    refine lv_iand hx hb d_Node_load_70 ?_
    obtain ⟨t2, e_t2, hf⟩ := pu_nm_some hf
    refine pu_ti e_t2 ?_
    refine lv_istore_n hx hb d_Node_load_71 rfl hl (by decide) rfl (fun ls hl => ?_)
    have hl : lv_has ls 4 [(3, .int t2), (0, .ref q_this)] := hl
    refine lv_aload_n hx hb d_Node_load_72 rfl (lv_at hl 1 rfl) ?_
    refine lv_iconst (v := 0) hx hb d_Node_load_73 rfl ?_
    refine pf_Node_36 (v := .int (0 : Int32)) hx hb hts hN hown hK hP hD hS 0 rfl rfl rfl (Nat.le_of_ble_eq_true rfl) d_Node_load_74 (fun H locs hP hD hS => ?_)
    have hP : va_P D pu_cl [(q_this, .inr (3, [.ref q_bytes, .ref q_starts, .ref q_sizes, .int (0 : Int32), .int t1, .int s_1])), (q_bytes, .inl (cB, 96, .inl v_bytes)), (q_starts, .inl (cI, 31, .inl v_starts)), (q_sizes, .inl (cI, 31, .inl v_sizes)), (q_p1, .inr (0, [.ref q_p1_bytes, .int v_p1_count])), (q_p1_bytes, .inl (cB, 1536, .inl v_p1_bytes))] H := hP
    have hD : va_D A [(q_this, .inr (3, [.ref q_bytes, .ref q_starts, .ref q_sizes, .int (0 : Int32), .int t1, .int s_1])), (q_bytes, .inl (cB, 96, .inl v_bytes)), (q_starts, .inl (cI, 31, .inl v_starts)), (q_sizes, .inl (cI, 31, .inl v_sizes)), (q_p1, .inr (0, [.ref q_p1_bytes, .int v_p1_count])), (q_p1_bytes, .inl (cB, 1536, .inl v_p1_bytes))] := hD
    refine lv_aload_n hx hb d_Node_load_77 rfl (lv_at hl 1 rfl) ?_
    refine gf_Node_28 (v := .int s_1) hx hb hts hN hown hK hP 0 rfl rfl d_Node_load_78 ?_
    refine lv_if_ne (tgt := 94) hx hb d_Node_load_81 rfl (fun hc => ?_) (fun hc => ?_)
    · have hf := pu_br_neg hf hc
      exact lb_94 (0 : Int32) t1 s_1 v_bytes v_starts v_sizes t2 H locs ls hP hD hS (lv_sub hl [1, 0] rfl) hf
    have hf := pu_br_pos hf hc
    refine lv_aload_n hx hb d_Node_load_84 rfl (lv_at hl 1 rfl) ?_
    refine gf_Node_11 (v := .ref q_bytes) hx hb hts hN hown hK hP 0 rfl rfl d_Node_load_85 ?_
    refine lv_iconst (v := 0) hx hb d_Node_load_88 rfl ?_
    obtain ⟨hin, hf⟩ := pu_ck_some hf
    refine va_bald hx hb hK hP 1 2 rfl rfl hin d_Node_load_89 ?_
    refine lv_iconst (v := 5) hx hb d_Node_load_90 rfl ?_
    refine lv_icmp_ne (tgt := 123) hx hb d_Node_load_91 rfl (fun hc => ?_) (fun hc => ?_)
    · have hf := pu_br_neg hf hc
      refine lv_iconst (v := 0) hx hb d_Node_load_123 rfl ?_
      exact hret _ _ _ _ (0 : Int32) (0 : Int32) t1 s_1 v_bytes v_starts v_sizes d_Node_load_124 (by decide) hP hD hS hf
    have hf := pu_br_pos hf hc
    exact lb_94 (0 : Int32) t1 s_1 v_bytes v_starts v_sizes t2 H locs ls hP hD hS (lv_sub hl [1, 0] rfl) hf
  have lb_27 : ∀ (v_count : Int32) (v_last : Int32) (v_leaf : Int32) (v_bytes : Nat → Int32) (v_starts : Nat → Int32) (v_sizes : Nat → Int32) (H : Heap) (locs : List Loc) (ls : Array Slot), va_P D pu_cl [(q_this, .inr (3, [.ref q_bytes, .ref q_starts, .ref q_sizes, .int v_count, .int v_last, .int v_leaf])), (q_bytes, .inl (cB, 96, .inl v_bytes)), (q_starts, .inl (cI, 31, .inl v_starts)), (q_sizes, .inl (cI, 31, .inl v_sizes)), (q_p1, .inr (0, [.ref q_p1_bytes, .int v_p1_count])), (q_p1_bytes, .inl (cB, 1536, .inl v_p1_bytes))] H → va_D A [(q_this, .inr (3, [.ref q_bytes, .ref q_starts, .ref q_sizes, .int v_count, .int v_last, .int v_leaf])), (q_bytes, .inl (cB, 96, .inl v_bytes)), (q_starts, .inl (cI, 31, .inl v_starts)), (q_sizes, .inl (cI, 31, .inl v_sizes)), (q_p1, .inr (0, [.ref q_p1_bytes, .int v_p1_count])), (q_p1_bytes, .inl (cB, 1536, .inl v_p1_bytes))] → va_S A s.heap H locs → lv_has ls 4 [(0, .ref q_this)] → q_Node_load_27 v_p1_count v_p1_bytes v_count v_last v_leaf v_bytes v_starts v_sizes = some (o_r, o_count, o_last, o_leaf, o_bytes, o_starts, o_sizes) → W p l e rm_Node_load s m args below meth c H locs 0 0 Q (F0 m 27 ls []) := by
    intro v_count v_last v_leaf v_bytes v_starts v_sizes H locs ls hP hD hS hl hf
    rw [q_Node_load_27] at hf
    refine lv_aload_n hx hb d_Node_load_27 rfl (lv_at hl 0 rfl) ?_
    refine lv_aload_n hx hb d_Node_load_28 rfl (lv_at hl 0 rfl) ?_
    refine gf_Node_11 (v := .ref q_bytes) hx hb hts hN hown hK hP 0 rfl rfl d_Node_load_29 ?_
    refine lv_iconst (v := 0) hx hb d_Node_load_32 rfl ?_
    obtain ⟨hin, hf⟩ := pu_ck_some hf
    refine va_bald hx hb hK hP 1 2 rfl rfl hin d_Node_load_33 ?_
    refine lv_bipush (v := 13) hx hb d_Node_load_34 rfl ?_
    refine lv_icmp_ne (tgt := 43) hx hb d_Node_load_36 rfl (fun hc => ?_) (fun hc => ?_)
    · have hf := pu_br_neg hf hc
      refine lv_iconst (v := 0) hx hb d_Node_load_43 rfl ?_
      exact lb_44 v_count v_last v_leaf v_bytes v_starts v_sizes (0 : Int32) H locs ls hP hD hS (lv_sub hl [0] rfl) hf
    have hf := pu_br_pos hf hc
    refine lv_iconst (v := 1) hx hb d_Node_load_39 rfl ?_
    refine lv_goto (tgt := 44) hx hb d_Node_load_40 rfl ?_
    exact lb_44 v_count v_last v_leaf v_bytes v_starts v_sizes (1 : Int32) H locs ls hP hD hS (lv_sub hl [0] rfl) hf
  have lp_2 : ∀ (v_count : Int32) (v_last : Int32) (v_leaf : Int32) (v_starts : Nat → Int32) (v_sizes : Nat → Int32) (x_2 : Int32) (n2 : Nat) (v_bytes : Nat → Int32) (x_3 : Int32) (H : Heap) (locs : List Loc) (ls : Array Slot), va_P D pu_cl [(q_this, .inr (3, [.ref q_bytes, .ref q_starts, .ref q_sizes, .int v_count, .int v_last, .int v_leaf])), (q_bytes, .inl (cB, 96, .inl v_bytes)), (q_starts, .inl (cI, 31, .inl v_starts)), (q_sizes, .inl (cI, 31, .inl v_sizes)), (q_p1, .inr (0, [.ref q_p1_bytes, .int v_p1_count])), (q_p1_bytes, .inl (cB, 1536, .inl v_p1_bytes))] H → va_D A [(q_this, .inr (3, [.ref q_bytes, .ref q_starts, .ref q_sizes, .int v_count, .int v_last, .int v_leaf])), (q_bytes, .inl (cB, 96, .inl v_bytes)), (q_starts, .inl (cI, 31, .inl v_starts)), (q_sizes, .inl (cI, 31, .inl v_sizes)), (q_p1, .inr (0, [.ref q_p1_bytes, .int v_p1_count])), (q_p1_bytes, .inl (cB, 1536, .inl v_p1_bytes))] → va_S A s.heap H locs → lv_has ls 4 [(0, .ref q_this), (1, .ref q_p1), (2, .int x_2), (3, .int x_3)] → q_Node_load_2 (fun v_bytes => q_Node_load_27 v_p1_count v_p1_bytes v_count v_last v_leaf v_bytes v_starts v_sizes) v_p1_count v_p1_bytes v_count v_last v_leaf v_starts v_sizes x_2 n2 v_bytes x_3 = some (o_r, o_count, o_last, o_leaf, o_bytes, o_starts, o_sizes) → W p l e rm_Node_load s m args below meth c H locs 0 0 Q (F0 m 2 ls []) := by
    intro v_count v_last v_leaf v_starts v_sizes x_2 n2
    induction n2 with
    | zero =>
      intro v_bytes x_3 H locs ls hP hD hS hl hf
      rw [q_Node_load_2] at hf
      cases hf
    | succ n2 ih_2 =>
      intro v_bytes x_3 H locs ls hP hD hS hl hf
      rw [q_Node_load_2] at hf
      refine lv_iload_n hx hb d_Node_load_2 rfl (lv_at hl 3 rfl) ?_
      refine lv_bipush (v := 64) hx hb d_Node_load_3 rfl ?_
      refine lv_icmp_ge (tgt := 27) hx hb d_Node_load_5 rfl (fun hc => ?_) (fun hc => ?_)
      · have hf := pu_br_pos hf hc
        exact lb_27 v_count v_last v_leaf v_bytes v_starts v_sizes H locs ls hP hD hS (lv_sub hl [0] rfl) hf
      have hf := pu_br_neg hf hc
      refine lv_aload_n hx hb d_Node_load_8 rfl (lv_at hl 0 rfl) ?_
      refine gf_Node_11 (v := .ref q_bytes) hx hb hts hN hown hK hP 0 rfl rfl d_Node_load_9 ?_
      refine lv_iload_n hx hb d_Node_load_12 rfl (lv_at hl 3 rfl) ?_
      refine lv_aload_n hx hb d_Node_load_13 rfl (lv_at hl 1 rfl) ?_
      refine lv_iload_n hx hb d_Node_load_14 rfl (lv_at hl 2 rfl) ?_
      refine lv_iload_n hx hb d_Node_load_15 rfl (lv_at hl 3 rfl) ?_
      obtain ⟨r7, hc, hf⟩ := pu_b1_some hf
      refine cl_i (WC := [(q_p1, .inr (0, [.ref q_p1_bytes, .int v_p1_count])), (q_p1_bytes, .inl (cB, 1536, .inl v_p1_bytes))]) (WC2 := [(q_p1, .inr (0, [.ref q_p1_bytes, .int v_p1_count])), (q_p1_bytes, .inl (cB, 1536, .inl v_p1_bytes))]) (WR := [(q_this, .inr (3, [.ref q_bytes, .ref q_starts, .ref q_sizes, .int v_count, .int v_last, .int v_leaf])), (q_bytes, .inl (cB, 96, .inl v_bytes)), (q_starts, .inl (cI, 31, .inl v_starts)), (q_sizes, .inl (cI, 31, .inl v_sizes))]) (WS2 := [(q_this, .inr (3, [.ref q_bytes, .ref q_starts, .ref q_sizes, .int v_count, .int v_last, .int v_leaf])), (q_bytes, .inl (cB, 96, .inl v_bytes)), (q_starts, .inl (cI, 31, .inl v_starts)), (q_sizes, .inl (cI, 31, .inl v_sizes)), (q_p1, .inr (0, [.ref q_p1_bytes, .int v_p1_count])), (q_p1_bytes, .inl (cB, 1536, .inl v_p1_bytes))]) (pu_rv (cl := pu_cl) (pu_in3 _ (List.mem_of_getElem? (i := 45) rfl)) (pu_in3 _ (List.mem_of_getElem? (i := 38) rfl)) (pu_in3 _ (List.mem_of_getElem? (i := 39) rfl)) (pu_in0 _ (List.mem_of_getElem? (i := 3) rfl)) (pu_in3 _ (List.mem_of_getElem? (i := 40) rfl)) (ci := 0) rfl hd_Pages_get (by decide) ⟨rfl, rfl⟩ rfl rfl (Nat.le_of_ble_eq_true rfl) rfl (As := [.int x_2, .int x_3]) (rest := [.int x_3, .ref q_bytes]) (WC := [(q_p1, .inr (0, [.ref q_p1_bytes, .int v_p1_count])), (q_p1_bytes, .inl (cB, 1536, .inl v_p1_bytes))]) hx hb hml hown hts hN hK hP hD (c_Pages_get l D cI cJ cB cZ H.size q_p1 q_p1_bytes v_p1_count v_p1_bytes x_2 x_3 r7 hc) [4, 5] rfl rfl hl.1 d_Node_load_16) hP hD hS hA [4, 5] [0, 1, 2, 3] [0, 1, 2, 3, 4, 5] rfl rfl rfl (by decide) rfl rfl (fun H locs hP hD hS => ?_)
      refine lv_i2b hx hb d_Node_load_19 rfl ?_
      obtain ⟨hin, hf⟩ := pu_ck_some hf
      obtain ⟨a8, e_a8, hf⟩ := pu_nm_some hf
      refine va_bast hx hb hK hP hD hS 1 2 rfl rfl hin d_Node_load_20 (fun H locs hP hD hS => ?_)
      have hP : va_P D pu_cl [(q_this, .inr (3, [.ref q_bytes, .ref q_starts, .ref q_sizes, .int v_count, .int v_last, .int v_leaf])), (q_bytes, .inl (cB, 96, .inl a8)), (q_starts, .inl (cI, 31, .inl v_starts)), (q_sizes, .inl (cI, 31, .inl v_sizes)), (q_p1, .inr (0, [.ref q_p1_bytes, .int v_p1_count])), (q_p1_bytes, .inl (cB, 1536, .inl v_p1_bytes))] H := by rw [e_a8]; exact hP
      have hD : va_D A [(q_this, .inr (3, [.ref q_bytes, .ref q_starts, .ref q_sizes, .int v_count, .int v_last, .int v_leaf])), (q_bytes, .inl (cB, 96, .inl a8)), (q_starts, .inl (cI, 31, .inl v_starts)), (q_sizes, .inl (cI, 31, .inl v_sizes)), (q_p1, .inr (0, [.ref q_p1_bytes, .int v_p1_count])), (q_p1_bytes, .inl (cB, 1536, .inl v_p1_bytes))] := by rw [e_a8]; exact hD
      obtain ⟨t9, e_t9, hf⟩ := pu_nm_some hf
      refine lv_iinc (k := 3) (v := t9) hx hb d_Node_load_21 hl rfl e_t9.symm (by decide) rfl (fun ls hl => ?_)
      have hl : lv_has ls 4 [(3, .int t9), (0, .ref q_this), (1, .ref q_p1), (2, .int x_2)] := hl
      refine lv_goto (tgt := 2) hx hb d_Node_load_24 rfl ?_
      exact ih_2 a8 t9 H locs ls hP hD hS (lv_sub hl [1, 2, 3, 0] rfl) hf
  obtain ⟨H, hH⟩ : ∃ H, H = s.heap := ⟨_, rfl⟩
  obtain ⟨locs, hlocs⟩ : ∃ locs : List Loc, locs = [] := ⟨_, rfl⟩
  have hP : va_P D pu_cl [(q_this, .inr (3, [.ref q_bytes, .ref q_starts, .ref q_sizes, .int v_count, .int v_last, .int v_leaf])), (q_bytes, .inl (cB, 96, .inl v_bytes)), (q_starts, .inl (cI, 31, .inl v_starts)), (q_sizes, .inl (cI, 31, .inl v_sizes)), (q_p1, .inr (0, [.ref q_p1_bytes, .int v_p1_count])), (q_p1_bytes, .inl (cB, 1536, .inl v_p1_bytes))] H := by rw [hH]; exact hP
  have hS : va_S A s.heap H locs := by rw [hH, hlocs]; exact hS
  have goal : W p l e rm_Node_load s m args below meth c H locs 0 0 Q (F0 m 0 ls []) := by
    clear hH hlocs
    refine lv_iconst (v := 0) hx hb d_Node_load_0 rfl ?_
    refine lv_istore_n hx hb d_Node_load_1 rfl hl (by decide) rfl (fun ls hl => ?_)
    have hl : lv_has ls 4 [(3, .int (0 : Int32)), (0, .ref q_this), (1, .ref q_p1), (2, .int x_2)] := hl
    exact lp_2 v_count v_last v_leaf v_starts v_sizes x_2 _ v_bytes (0 : Int32) H locs ls hP hD hS (lv_sub hl [1, 2, 3, 0] rfl) hf
  rw [hH, hlocs] at goal
  exact goal
