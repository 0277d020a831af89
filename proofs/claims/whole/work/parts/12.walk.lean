theorem d_Rec_encode_0 : decode b_Rec_encode 0 = .ok (.iconst 1, 1) := by decide +kernel
theorem d_Rec_encode_1 : decode b_Rec_encode 1 = .ok (.istore_n 2, 1) := by decide +kernel
theorem d_Rec_encode_2 : decode b_Rec_encode 2 = .ok (.iconst 0, 1) := by decide +kernel
theorem d_Rec_encode_3 : decode b_Rec_encode 3 = .ok (.istore_n 3, 1) := by decide +kernel
theorem d_Rec_encode_4 : decode b_Rec_encode 4 = .ok (.iload_n 3, 1) := by decide +kernel
theorem d_Rec_encode_5 : decode b_Rec_encode 5 = .ok (.aload_n 1, 1) := by decide +kernel
theorem d_Rec_encode_6 : decode b_Rec_encode 6 = .ok (.getfield 22, 3) := by decide +kernel
theorem d_Rec_encode_9 : decode b_Rec_encode 9 = .ok (.if_icmp .ge 21, 3) := by decide +kernel
theorem d_Rec_encode_12 : decode b_Rec_encode 12 = .ok (.iload_n 2, 1) := by decide +kernel
theorem d_Rec_encode_13 : decode b_Rec_encode 13 = .ok (.aload_n 1, 1) := by decide +kernel
theorem d_Rec_encode_14 : decode b_Rec_encode 14 = .ok (.getfield 28, 3) := by decide +kernel
theorem d_Rec_encode_17 : decode b_Rec_encode 17 = .ok (.iload_n 3, 1) := by decide +kernel
theorem d_Rec_encode_18 : decode b_Rec_encode 18 = .ok (.iaload, 1) := by decide +kernel
theorem d_Rec_encode_19 : decode b_Rec_encode 19 = .ok (.invokestatic 29, 3) := by decide +kernel
theorem d_Rec_encode_22 : decode b_Rec_encode 22 = .ok (.iadd, 1) := by decide +kernel
theorem d_Rec_encode_23 : decode b_Rec_encode 23 = .ok (.istore_n 2, 1) := by decide +kernel
theorem d_Rec_encode_24 : decode b_Rec_encode 24 = .ok (.iinc 3 1, 3) := by decide +kernel
theorem d_Rec_encode_27 : decode b_Rec_encode 27 = .ok (.goto (-23), 3) := by decide +kernel
theorem d_Rec_encode_30 : decode b_Rec_encode 30 = .ok (.aload_n 0, 1) := by decide +kernel
theorem d_Rec_encode_31 : decode b_Rec_encode 31 = .ok (.aload_n 0, 1) := by decide +kernel
theorem d_Rec_encode_32 : decode b_Rec_encode 32 = .ok (.getfield 9, 3) := by decide +kernel
theorem d_Rec_encode_35 : decode b_Rec_encode 35 = .ok (.iconst 0, 1) := by decide +kernel
theorem d_Rec_encode_36 : decode b_Rec_encode 36 = .ok (.iload_n 2, 1) := by decide +kernel
theorem d_Rec_encode_37 : decode b_Rec_encode 37 = .ok (.invokestatic 33, 3) := by decide +kernel
theorem d_Rec_encode_40 : decode b_Rec_encode 40 = .ok (.putfield 37, 3) := by decide +kernel
theorem d_Rec_encode_43 : decode b_Rec_encode 43 = .ok (.iconst 0, 1) := by decide +kernel
theorem d_Rec_encode_44 : decode b_Rec_encode 44 = .ok (.istore_n 3, 1) := by decide +kernel
theorem d_Rec_encode_45 : decode b_Rec_encode 45 = .ok (.iload_n 3, 1) := by decide +kernel
theorem d_Rec_encode_46 : decode b_Rec_encode 46 = .ok (.aload_n 1, 1) := by decide +kernel
theorem d_Rec_encode_47 : decode b_Rec_encode 47 = .ok (.getfield 22, 3) := by decide +kernel
theorem d_Rec_encode_50 : decode b_Rec_encode 50 = .ok (.if_icmp .ge 30, 3) := by decide +kernel
theorem d_Rec_encode_53 : decode b_Rec_encode 53 = .ok (.aload_n 0, 1) := by decide +kernel
theorem d_Rec_encode_54 : decode b_Rec_encode 54 = .ok (.aload_n 0, 1) := by decide +kernel
theorem d_Rec_encode_55 : decode b_Rec_encode 55 = .ok (.getfield 9, 3) := by decide +kernel
theorem d_Rec_encode_58 : decode b_Rec_encode 58 = .ok (.aload_n 0, 1) := by decide +kernel
theorem d_Rec_encode_59 : decode b_Rec_encode 59 = .ok (.getfield 37, 3) := by decide +kernel
theorem d_Rec_encode_62 : decode b_Rec_encode 62 = .ok (.aload_n 1, 1) := by decide +kernel
theorem d_Rec_encode_63 : decode b_Rec_encode 63 = .ok (.getfield 28, 3) := by decide +kernel
theorem d_Rec_encode_66 : decode b_Rec_encode 66 = .ok (.iload_n 3, 1) := by decide +kernel
theorem d_Rec_encode_67 : decode b_Rec_encode 67 = .ok (.iaload, 1) := by decide +kernel
theorem d_Rec_encode_68 : decode b_Rec_encode 68 = .ok (.invokestatic 33, 3) := by decide +kernel
theorem d_Rec_encode_71 : decode b_Rec_encode 71 = .ok (.putfield 37, 3) := by decide +kernel
theorem d_Rec_encode_74 : decode b_Rec_encode 74 = .ok (.iinc 3 1, 3) := by decide +kernel
theorem d_Rec_encode_77 : decode b_Rec_encode 77 = .ok (.goto (-32), 3) := by decide +kernel
theorem d_Rec_encode_80 : decode b_Rec_encode 80 = .ok (.iconst 0, 1) := by decide +kernel
theorem d_Rec_encode_81 : decode b_Rec_encode 81 = .ok (.istore_n 3, 1) := by decide +kernel
theorem d_Rec_encode_82 : decode b_Rec_encode 82 = .ok (.iload_n 3, 1) := by decide +kernel
theorem d_Rec_encode_83 : decode b_Rec_encode 83 = .ok (.aload_n 1, 1) := by decide +kernel
theorem d_Rec_encode_84 : decode b_Rec_encode 84 = .ok (.getfield 22, 3) := by decide +kernel
theorem d_Rec_encode_87 : decode b_Rec_encode 87 = .ok (.if_icmp .ge 15, 3) := by decide +kernel
theorem d_Rec_encode_90 : decode b_Rec_encode 90 = .ok (.aload_n 0, 1) := by decide +kernel
theorem d_Rec_encode_91 : decode b_Rec_encode 91 = .ok (.aload_n 1, 1) := by decide +kernel
theorem d_Rec_encode_92 : decode b_Rec_encode 92 = .ok (.iload_n 3, 1) := by decide +kernel
theorem d_Rec_encode_93 : decode b_Rec_encode 93 = .ok (.invokevirtual 40, 3) := by decide +kernel
theorem d_Rec_encode_96 : decode b_Rec_encode 96 = .ok (.iinc 3 1, 3) := by decide +kernel
theorem d_Rec_encode_99 : decode b_Rec_encode 99 = .ok (.goto (-17), 3) := by decide +kernel
theorem d_Rec_encode_102 : decode b_Rec_encode 102 = .ok (.return_, 1) := by decide +kernel
noncomputable def q_Rec_encode_82 (v_p1_count : Int32) (v_p1_codes : Nat → Int32) (v_p1_numbers : Nat → Int64) (v_p1_blobs : Nat → Int32) : Nat → Int32 → (Nat → Int32) → Int32 → Option (Int32 × (Nat → Int32))
  | 0, _, _, _ => none
  | n + 1, v_length, v_bytes, x_3 => pu_br (v_p1_count ≤ x_3) (some (v_length, v_bytes)) (pu_b2 (f_Rec_encodeValue v_p1_codes v_p1_numbers v_p1_blobs v_length v_bytes x_3) (fun w4 w5 => pu_nm (x_3 + (1 : Int32)) (fun t6 => q_Rec_encode_82 v_p1_count v_p1_codes v_p1_numbers v_p1_blobs n w4 w5 t6)))
noncomputable def q_Rec_encode_80 (v_p1_count : Int32) (v_p1_codes : Nat → Int32) (v_p1_numbers : Nat → Int64) (v_p1_blobs : Nat → Int32) (v_length : Int32) (v_bytes : Nat → Int32) : Option (Int32 × (Nat → Int32)) :=
  q_Rec_encode_82 v_p1_count v_p1_codes v_p1_numbers v_p1_blobs pu_fu v_length v_bytes (0 : Int32)
noncomputable def q_Rec_encode_45 (kx_80 : Int32 → (Nat → Int32) → Option (Int32 × (Nat → Int32))) (v_p1_count : Int32) (v_p1_codes : Nat → Int32) (v_p1_numbers : Nat → Int64) (v_p1_blobs : Nat → Int32) : Nat → Int32 → (Nat → Int32) → Int32 → Option (Int32 × (Nat → Int32))
  | 0, _, _, _ => none
  | n + 1, v_length, v_bytes, x_3 => pu_br (v_p1_count ≤ x_3) (kx_80 v_length v_bytes) (pu_ck (vp_in x_3 3) (pu_b2 (f_RF_writeVarint 307 v_bytes v_length (v_p1_codes x_3.toNatClampNeg)) (fun r7 w8 => pu_nm (x_3 + (1 : Int32)) (fun t9 => q_Rec_encode_45 kx_80 v_p1_count v_p1_codes v_p1_numbers v_p1_blobs n r7 w8 t9))))
noncomputable def q_Rec_encode_30 (v_p1_count : Int32) (v_p1_codes : Nat → Int32) (v_p1_numbers : Nat → Int64) (v_p1_blobs : Nat → Int32) (v_length : Int32) (v_bytes : Nat → Int32) (x_2 : Int32) : Option (Int32 × (Nat → Int32)) :=
  pu_b2 (f_RF_writeVarint 307 v_bytes (0 : Int32) x_2) (fun r1 w2 => q_Rec_encode_45 (fun v_length v_bytes => q_Rec_encode_80 v_p1_count v_p1_codes v_p1_numbers v_p1_blobs v_length v_bytes) v_p1_count v_p1_codes v_p1_numbers v_p1_blobs pu_fu r1 w2 (0 : Int32))
noncomputable def q_Rec_encode_4 (kx_30 : Int32 → Option (Int32 × (Nat → Int32))) (v_p1_count : Int32) (v_p1_codes : Nat → Int32) (v_p1_numbers : Nat → Int64) (v_p1_blobs : Nat → Int32) (v_length : Int32) (v_bytes : Nat → Int32) : Nat → Int32 → Int32 → Option (Int32 × (Nat → Int32))
  | 0, _, _ => none
  | n + 1, x_2, x_3 => pu_br (v_p1_count ≤ x_3) (kx_30 x_2) (pu_ck (vp_in x_3 3) (pu_b1 (f_RF_varintSize (v_p1_codes x_3.toNatClampNeg)) (fun r10 => pu_nm (x_2 + r10) (fun t11 => pu_nm (x_3 + (1 : Int32)) (fun t12 => q_Rec_encode_4 kx_30 v_p1_count v_p1_codes v_p1_numbers v_p1_blobs v_length v_bytes n t11 t12)))))
noncomputable def f_Rec_encode (v_p1_count : Int32) (v_p1_codes : Nat → Int32) (v_p1_numbers : Nat → Int64) (v_p1_blobs : Nat → Int32) (v_length : Int32) (v_bytes : Nat → Int32) : Option (Int32 × (Nat → Int32)) :=
  q_Rec_encode_4 (fun x_2 => q_Rec_encode_30 v_p1_count v_p1_codes v_p1_numbers v_p1_blobs v_length v_bytes x_2) v_p1_count v_p1_codes v_p1_numbers v_p1_blobs v_length v_bytes pu_fu (1 : Int32) (0 : Int32)
abbrev rm_Rec_encode : Room := { frames := 2, cells := 0, slots := 0, locals := 92 }
set_option maxHeartbeats 8000000 in
set_option maxRecDepth 100000 in
theorem c_Rec_encode (l : Launch) (D : va_G) (cI cJ cB cZ : ClassId) (sz : Nat) (q_this : Nat) (q_bytes : Nat) (q_codes : Nat) (q_starts : Nat) (q_p1 : Nat) (q_p1_codes : Nat) (q_p1_numbers : Nat) (q_p1_blobs : Nat) (v_length : Int32) (v_count : Int32) (v_bytes : Nat → Int32) (v_p1_count : Int32) (v_p1_codes : Nat → Int32) (v_p1_numbers : Nat → Int64) (v_p1_blobs : Nat → Int32) (o_length : Int32) (o_bytes : Nat → Int32) (hf : f_Rec_encode v_p1_count v_p1_codes v_p1_numbers v_p1_blobs v_length v_bytes = some (o_length, o_bytes)) : Met l y_Rec_encode (.code y_Rec_encode b_Rec_encode 4 none :: pu_wA) rm_Rec_encode (pu_pc D pu_cl (pu_ty cI cJ cB cZ) [.ref q_this, .ref q_p1] [(q_this, .inr (2, [.ref q_bytes, .int v_length, .ref q_codes, .ref q_starts, .int v_count])), (q_bytes, .inl (cB, 307, .inl v_bytes)), (q_p1, .inr (1, [.ref q_p1_codes, .ref q_p1_numbers, .ref q_p1_blobs, .int v_p1_count])), (q_p1_codes, .inl (cI, 3, .inl v_p1_codes)), (q_p1_numbers, .inl (cJ, 3, .inr (.inl v_p1_numbers))), (q_p1_blobs, .inl (cB, 300, .inl v_p1_blobs))] sz) (pu_qv D pu_cl (pu_ty cI cJ cB cZ) [(q_this, .inr (2, [.ref q_bytes, .int v_length, .ref q_codes, .ref q_starts, .int v_count])), (q_bytes, .inl (cB, 307, .inl v_bytes)), (q_p1, .inr (1, [.ref q_p1_codes, .ref q_p1_numbers, .ref q_p1_blobs, .int v_p1_count])), (q_p1_codes, .inl (cI, 3, .inl v_p1_codes)), (q_p1_numbers, .inl (cJ, 3, .inr (.inl v_p1_numbers))), (q_p1_blobs, .inl (cB, 300, .inl v_p1_blobs))] [(q_this, .inr (2, [.ref q_bytes, .int o_length, .ref q_codes, .ref q_starts, .int v_count])), (q_bytes, .inl (cB, 307, .inl o_bytes)), (q_p1, .inr (1, [.ref q_p1_codes, .ref q_p1_numbers, .ref q_p1_blobs, .int v_p1_count])), (q_p1_codes, .inl (cI, 3, .inl v_p1_codes)), (q_p1_numbers, .inl (cJ, 3, .inr (.inl v_p1_numbers))), (q_p1_blobs, .inl (cB, 300, .inl v_p1_blobs))] sz) 0 0 (va_A [(q_this, .inr (2, [.ref q_bytes, .int v_length, .ref q_codes, .ref q_starts, .int v_count])), (q_bytes, .inl (cB, 307, .inl v_bytes)), (q_p1, .inr (1, [.ref q_p1_codes, .ref q_p1_numbers, .ref q_p1_blobs, .int v_p1_count])), (q_p1_codes, .inl (cI, 3, .inl v_p1_codes)), (q_p1_numbers, .inl (cJ, 3, .inr (.inl v_p1_numbers))), (q_p1_blobs, .inl (cB, 300, .inl v_p1_blobs))] sz) := by
  refine pu_mtv [.ref q_this, .ref q_p1] [(q_this, .inr (2, [.ref q_bytes, .int v_length, .ref q_codes, .ref q_starts, .int v_count])), (q_bytes, .inl (cB, 307, .inl v_bytes)), (q_p1, .inr (1, [.ref q_p1_codes, .ref q_p1_numbers, .ref q_p1_blobs, .int v_p1_count])), (q_p1_codes, .inl (cI, 3, .inl v_p1_codes)), (q_p1_numbers, .inl (cJ, 3, .inr (.inl v_p1_numbers))), (q_p1_blobs, .inl (cB, 300, .inl v_p1_blobs))] [(q_this, .inr (2, [.ref q_bytes, .int o_length, .ref q_codes, .ref q_starts, .int v_count])), (q_bytes, .inl (cB, 307, .inl o_bytes)), (q_p1, .inr (1, [.ref q_p1_codes, .ref q_p1_numbers, .ref q_p1_blobs, .int v_p1_count])), (q_p1_codes, .inl (cI, 3, .inl v_p1_codes)), (q_p1_numbers, .inl (cJ, 3, .inr (.inl v_p1_numbers))), (q_p1_blobs, .inl (cB, 300, .inl v_p1_blobs))] (by decide) (Nat.le_of_ble_eq_true rfl) ?_
  intro p e s m args below meth c A Q ls hx hb hml hts hN hown hK hA hP hD hl hret0
  have hS : va_S A s.heap s.heap [] := va_S.rf
  have hl : lv_has ls 4 [(0, .ref q_this), (1, .ref q_p1)] := hl
  have hret : ∀ (pc : Nat) (ls : Array Slot) (H : Heap) (locs : List Loc) (y_0 : Int32) (y_1 : Nat → Int32), decode b_Rec_encode pc = .ok (.return_, 1) → va_P D pu_cl [(q_this, .inr (2, [.ref q_bytes, .int y_0, .ref q_codes, .ref q_starts, .int v_count])), (q_bytes, .inl (cB, 307, .inl y_1)), (q_p1, .inr (1, [.ref q_p1_codes, .ref q_p1_numbers, .ref q_p1_blobs, .int v_p1_count])), (q_p1_codes, .inl (cI, 3, .inl v_p1_codes)), (q_p1_numbers, .inl (cJ, 3, .inr (.inl v_p1_numbers))), (q_p1_blobs, .inl (cB, 300, .inl v_p1_blobs))] H → va_D A [(q_this, .inr (2, [.ref q_bytes, .int y_0, .ref q_codes, .ref q_starts, .int v_count])), (q_bytes, .inl (cB, 307, .inl y_1)), (q_p1, .inr (1, [.ref q_p1_codes, .ref q_p1_numbers, .ref q_p1_blobs, .int v_p1_count])), (q_p1_codes, .inl (cI, 3, .inl v_p1_codes)), (q_p1_numbers, .inl (cJ, 3, .inr (.inl v_p1_numbers))), (q_p1_blobs, .inl (cB, 300, .inl v_p1_blobs))] → va_S A s.heap H locs → some (y_0, y_1) = some (o_length, o_bytes) → W p l e rm_Rec_encode s m args below meth c H locs 0 0 Q (F0 m pc ls []) := by
    intro pc ls H locs y_0 y_1 hd hP hD hS hf
    cases hf
    exact hret0 pc ls H locs hd hP hD hS
  clear hret0
  unfold f_Rec_encode at hf
  skip
  have lp_82 : ∀ (n82 : Nat) (v_length : Int32) (v_bytes : Nat → Int32) (x_3 : Int32) (H : Heap) (locs : List Loc) (ls : Array Slot), va_P D pu_cl [(q_this, .inr (2, [.ref q_bytes, .int v_length, .ref q_codes, .ref q_starts, .int v_count])), (q_bytes, .inl (cB, 307, .inl v_bytes)), (q_p1, .inr (1, [.ref q_p1_codes, .ref q_p1_numbers, .ref q_p1_blobs, .int v_p1_count])), (q_p1_codes, .inl (cI, 3, .inl v_p1_codes)), (q_p1_numbers, .inl (cJ, 3, .inr (.inl v_p1_numbers))), (q_p1_blobs, .inl (cB, 300, .inl v_p1_blobs))] H → va_D A [(q_this, .inr (2, [.ref q_bytes, .int v_length, .ref q_codes, .ref q_starts, .int v_count])), (q_bytes, .inl (cB, 307, .inl v_bytes)), (q_p1, .inr (1, [.ref q_p1_codes, .ref q_p1_numbers, .ref q_p1_blobs, .int v_p1_count])), (q_p1_codes, .inl (cI, 3, .inl v_p1_codes)), (q_p1_numbers, .inl (cJ, 3, .inr (.inl v_p1_numbers))), (q_p1_blobs, .inl (cB, 300, .inl v_p1_blobs))] → va_S A s.heap H locs → lv_has ls 4 [(0, .ref q_this), (1, .ref q_p1), (3, .int x_3)] → q_Rec_encode_82 v_p1_count v_p1_codes v_p1_numbers v_p1_blobs n82 v_length v_bytes x_3 = some (o_length, o_bytes) → W p l e rm_Rec_encode s m args below meth c H locs 0 0 Q (F0 m 82 ls []) := by
    intro n82
    induction n82 with
    | zero =>
      intro v_length v_bytes x_3 H locs ls hP hD hS hl hf
      rw [q_Rec_encode_82] at hf
      cases hf
    | succ n82 ih_82 =>
      intro v_length v_bytes x_3 H locs ls hP hD hS hl hf
      rw [q_Rec_encode_82] at hf
      refine lv_iload_n hx hb d_Rec_encode_82 rfl (lv_at hl 2 rfl) ?_
      refine lv_aload_n hx hb d_Rec_encode_83 rfl (lv_at hl 1 rfl) ?_
      refine gf_Rec_22 (v := .int v_p1_count) hx hb hts hN hown hK hP 2 rfl rfl d_Rec_encode_84 ?_
      refine lv_icmp_ge (tgt := 102) hx hb d_Rec_encode_87 rfl (fun hc => ?_) (fun hc => ?_)
      · have hf := pu_br_pos hf hc
        exact hret _ _ _ _ v_length v_bytes d_Rec_encode_102 hP hD hS hf
      have hf := pu_br_neg hf hc
      refine lv_aload_n hx hb d_Rec_encode_90 rfl (lv_at hl 0 rfl) ?_
      refine lv_aload_n hx hb d_Rec_encode_91 rfl (lv_at hl 1 rfl) ?_
      refine lv_iload_n hx hb d_Rec_encode_92 rfl (lv_at hl 2 rfl) ?_
      obtain ⟨w4, w5, hc, hf⟩ := pu_b2_some hf
      refine cl_v (WC := [(q_this, .inr (2, [.ref q_bytes, .int v_length, .ref q_codes, .ref q_starts, .int v_count])), (q_bytes, .inl (cB, 307, .inl v_bytes)), (q_p1, .inr (1, [.ref q_p1_codes, .ref q_p1_numbers, .ref q_p1_blobs, .int v_p1_count])), (q_p1_codes, .inl (cI, 3, .inl v_p1_codes)), (q_p1_numbers, .inl (cJ, 3, .inr (.inl v_p1_numbers))), (q_p1_blobs, .inl (cB, 300, .inl v_p1_blobs))]) (WC2 := [(q_this, .inr (2, [.ref q_bytes, .int w4, .ref q_codes, .ref q_starts, .int v_count])), (q_bytes, .inl (cB, 307, .inl w5)), (q_p1, .inr (1, [.ref q_p1_codes, .ref q_p1_numbers, .ref q_p1_blobs, .int v_p1_count])), (q_p1_codes, .inl (cI, 3, .inl v_p1_codes)), (q_p1_numbers, .inl (cJ, 3, .inr (.inl v_p1_numbers))), (q_p1_blobs, .inl (cB, 300, .inl v_p1_blobs))]) (WR := []) (WS2 := [(q_this, .inr (2, [.ref q_bytes, .int w4, .ref q_codes, .ref q_starts, .int v_count])), (q_bytes, .inl (cB, 307, .inl w5)), (q_p1, .inr (1, [.ref q_p1_codes, .ref q_p1_numbers, .ref q_p1_blobs, .int v_p1_count])), (q_p1_codes, .inl (cI, 3, .inl v_p1_codes)), (q_p1_numbers, .inl (cJ, 3, .inr (.inl v_p1_numbers))), (q_p1_blobs, .inl (cB, 300, .inl v_p1_blobs))]) (pu_rv (cl := pu_cl) (pu_in4 _ (List.mem_of_getElem? (i := 16) rfl)) (pu_in4 _ (List.mem_of_getElem? (i := 17) rfl)) (pu_in13 _ (List.mem_of_getElem? (i := 47) rfl)) (pu_in0 _ (List.mem_of_getElem? (i := 5) rfl)) (pu_in4 _ (List.mem_of_getElem? (i := 18) rfl)) (ci := 2) rfl hd_Rec_encodeValue (by decide) ⟨rfl, rfl⟩ rfl rfl (Nat.le_of_ble_eq_true rfl) rfl (As := [.ref q_p1, .int x_3]) (rest := []) (WC := [(q_this, .inr (2, [.ref q_bytes, .int v_length, .ref q_codes, .ref q_starts, .int v_count])), (q_bytes, .inl (cB, 307, .inl v_bytes)), (q_p1, .inr (1, [.ref q_p1_codes, .ref q_p1_numbers, .ref q_p1_blobs, .int v_p1_count])), (q_p1_codes, .inl (cI, 3, .inl v_p1_codes)), (q_p1_numbers, .inl (cJ, 3, .inr (.inl v_p1_numbers))), (q_p1_blobs, .inl (cB, 300, .inl v_p1_blobs))]) hx hb hml hown hts hN hK hP hD (c_Rec_encodeValue l D cI cJ cB cZ H.size q_this q_bytes q_codes q_starts q_p1 q_p1_codes q_p1_numbers q_p1_blobs v_length v_count v_bytes v_p1_count v_p1_codes v_p1_numbers v_p1_blobs x_3 w4 w5 hc) [0, 1, 2, 3, 4, 5] rfl rfl hl.1 d_Rec_encode_93) hP hD hS hA [0, 1, 2, 3, 4, 5] [] [0, 1, 2, 3, 4, 5] rfl rfl rfl (by decide) rfl rfl (fun H locs hP hD hS => ?_)
      obtain ⟨t6, e_t6, hf⟩ := pu_nm_some hf
      refine lv_iinc (k := 2) (v := t6) hx hb d_Rec_encode_96 hl rfl e_t6.symm (by decide) rfl (fun ls hl => ?_)
      have hl : lv_has ls 4 [(3, .int t6), (0, .ref q_this), (1, .ref q_p1)] := hl
      refine lv_goto (tgt := 82) hx hb d_Rec_encode_99 rfl ?_
      exact ih_82 w4 w5 t6 H locs ls hP hD hS (lv_sub hl [1, 2, 0] rfl) hf
  have lb_80 : ∀ (v_length : Int32) (v_bytes : Nat → Int32) (H : Heap) (locs : List Loc) (ls : Array Slot), va_P D pu_cl [(q_this, .inr (2, [.ref q_bytes, .int v_length, .ref q_codes, .ref q_starts, .int v_count])), (q_bytes, .inl (cB, 307, .inl v_bytes)), (q_p1, .inr (1, [.ref q_p1_codes, .ref q_p1_numbers, .ref q_p1_blobs, .int v_p1_count])), (q_p1_codes, .inl (cI, 3, .inl v_p1_codes)), (q_p1_numbers, .inl (cJ, 3, .inr (.inl v_p1_numbers))), (q_p1_blobs, .inl (cB, 300, .inl v_p1_blobs))] H → va_D A [(q_this, .inr (2, [.ref q_bytes, .int v_length, .ref q_codes, .ref q_starts, .int v_count])), (q_bytes, .inl (cB, 307, .inl v_bytes)), (q_p1, .inr (1, [.ref q_p1_codes, .ref q_p1_numbers, .ref q_p1_blobs, .int v_p1_count])), (q_p1_codes, .inl (cI, 3, .inl v_p1_codes)), (q_p1_numbers, .inl (cJ, 3, .inr (.inl v_p1_numbers))), (q_p1_blobs, .inl (cB, 300, .inl v_p1_blobs))] → va_S A s.heap H locs → lv_has ls 4 [(0, .ref q_this), (1, .ref q_p1)] → q_Rec_encode_80 v_p1_count v_p1_codes v_p1_numbers v_p1_blobs v_length v_bytes = some (o_length, o_bytes) → W p l e rm_Rec_encode s m args below meth c H locs 0 0 Q (F0 m 80 ls []) := by
    intro v_length v_bytes H locs ls hP hD hS hl hf
    rw [q_Rec_encode_80] at hf
    refine lv_iconst (v := 0) hx hb d_Rec_encode_80 rfl ?_
    refine lv_istore_n hx hb d_Rec_encode_81 rfl hl (by decide) rfl (fun ls hl => ?_)
    have hl : lv_has ls 4 [(3, .int (0 : Int32)), (0, .ref q_this), (1, .ref q_p1)] := hl
    exact lp_82 _ v_length v_bytes (0 : Int32) H locs ls hP hD hS (lv_sub hl [1, 2, 0] rfl) hf
  have lp_45 : ∀ (n45 : Nat) (v_length : Int32) (v_bytes : Nat → Int32) (x_3 : Int32) (H : Heap) (locs : List Loc) (ls : Array Slot), va_P D pu_cl [(q_this, .inr (2, [.ref q_bytes, .int v_length, .ref q_codes, .ref q_starts, .int v_count])), (q_bytes, .inl (cB, 307, .inl v_bytes)), (q_p1, .inr (1, [.ref q_p1_codes, .ref q_p1_numbers, .ref q_p1_blobs, .int v_p1_count])), (q_p1_codes, .inl (cI, 3, .inl v_p1_codes)), (q_p1_numbers, .inl (cJ, 3, .inr (.inl v_p1_numbers))), (q_p1_blobs, .inl (cB, 300, .inl v_p1_blobs))] H → va_D A [(q_this, .inr (2, [.ref q_bytes, .int v_length, .ref q_codes, .ref q_starts, .int v_count])), (q_bytes, .inl (cB, 307, .inl v_bytes)), (q_p1, .inr (1, [.ref q_p1_codes, .ref q_p1_numbers, .ref q_p1_blobs, .int v_p1_count])), (q_p1_codes, .inl (cI, 3, .inl v_p1_codes)), (q_p1_numbers, .inl (cJ, 3, .inr (.inl v_p1_numbers))), (q_p1_blobs, .inl (cB, 300, .inl v_p1_blobs))] → va_S A s.heap H locs → lv_has ls 4 [(0, .ref q_this), (1, .ref q_p1), (3, .int x_3)] → q_Rec_encode_45 (fun v_length v_bytes => q_Rec_encode_80 v_p1_count v_p1_codes v_p1_numbers v_p1_blobs v_length v_bytes) v_p1_count v_p1_codes v_p1_numbers v_p1_blobs n45 v_length v_bytes x_3 = some (o_length, o_bytes) → W p l e rm_Rec_encode s m args below meth c H locs 0 0 Q (F0 m 45 ls []) := by
    intro n45
    induction n45 with
    | zero =>
      intro v_length v_bytes x_3 H locs ls hP hD hS hl hf
      rw [q_Rec_encode_45] at hf
      cases hf
    | succ n45 ih_45 =>
      intro v_length v_bytes x_3 H locs ls hP hD hS hl hf
      rw [q_Rec_encode_45] at hf
      refine lv_iload_n hx hb d_Rec_encode_45 rfl (lv_at hl 2 rfl) ?_
      refine lv_aload_n hx hb d_Rec_encode_46 rfl (lv_at hl 1 rfl) ?_
      refine gf_Rec_22 (v := .int v_p1_count) hx hb hts hN hown hK hP 2 rfl rfl d_Rec_encode_47 ?_
      refine lv_icmp_ge (tgt := 80) hx hb d_Rec_encode_50 rfl (fun hc => ?_) (fun hc => ?_)
      · have hf := pu_br_pos hf hc
        exact lb_80 v_length v_bytes H locs ls hP hD hS (lv_sub hl [0, 1] rfl) hf
      have hf := pu_br_neg hf hc
      refine lv_aload_n hx hb d_Rec_encode_53 rfl (lv_at hl 0 rfl) ?_
      refine lv_aload_n hx hb d_Rec_encode_54 rfl (lv_at hl 0 rfl) ?_
      refine gf_Rec_9 (v := .ref q_bytes) hx hb hts hN hown hK hP 0 rfl rfl d_Rec_encode_55 ?_
      refine lv_aload_n hx hb d_Rec_encode_58 rfl (lv_at hl 0 rfl) ?_
      refine gf_Rec_37 (v := .int v_length) hx hb hts hN hown hK hP 0 rfl rfl d_Rec_encode_59 ?_
      refine lv_aload_n hx hb d_Rec_encode_62 rfl (lv_at hl 1 rfl) ?_
      refine gf_Rec_28 (v := .ref q_p1_codes) hx hb hts hN hown hK hP 2 rfl rfl d_Rec_encode_63 ?_
      refine lv_iload_n hx hb d_Rec_encode_66 rfl (lv_at hl 2 rfl) ?_
      obtain ⟨hin, hf⟩ := pu_ck_some hf
      refine va_iald hx hb hK hP 3 0 rfl rfl hin d_Rec_encode_67 ?_
      obtain ⟨r7, w8, hc, hf⟩ := pu_b2_some hf
      refine cl_i (WC := [(q_bytes, .inl (cB, 307, .inl v_bytes))]) (WC2 := [(q_bytes, .inl (cB, 307, .inl w8))]) (WR := [(q_this, .inr (2, [.ref q_bytes, .int v_length, .ref q_codes, .ref q_starts, .int v_count])), (q_p1, .inr (1, [.ref q_p1_codes, .ref q_p1_numbers, .ref q_p1_blobs, .int v_p1_count])), (q_p1_codes, .inl (cI, 3, .inl v_p1_codes)), (q_p1_numbers, .inl (cJ, 3, .inr (.inl v_p1_numbers))), (q_p1_blobs, .inl (cB, 300, .inl v_p1_blobs))]) (WS2 := [(q_this, .inr (2, [.ref q_bytes, .int v_length, .ref q_codes, .ref q_starts, .int v_count])), (q_bytes, .inl (cB, 307, .inl w8)), (q_p1, .inr (1, [.ref q_p1_codes, .ref q_p1_numbers, .ref q_p1_blobs, .int v_p1_count])), (q_p1_codes, .inl (cI, 3, .inl v_p1_codes)), (q_p1_numbers, .inl (cJ, 3, .inr (.inl v_p1_numbers))), (q_p1_blobs, .inl (cB, 300, .inl v_p1_blobs))]) (pu_rsn (List.mem_of_getElem? (i := 34) rfl) (pu_in4 _ (List.mem_of_getElem? (i := 13) rfl)) (pu_in0 _ (List.mem_of_getElem? (i := 1) rfl)) (pu_in4 _ (List.mem_of_getElem? (i := 14) rfl)) hd_RF_writeVarint (by decide) ⟨rfl, rfl⟩ rfl rfl (Nat.le_of_ble_eq_true rfl) (As := [.ref q_bytes, .int v_length, .int (v_p1_codes x_3.toNatClampNeg)]) (rest := [.ref q_this]) (WC := [(q_bytes, .inl (cB, 307, .inl v_bytes))]) hx hb hml hown hts hN hK hP hD (c_RF_writeVarint l D cI cJ cB cZ H.size q_bytes 307 v_bytes v_length (v_p1_codes x_3.toNatClampNeg) r7 w8 hc) [1] rfl rfl hl.1 d_Rec_encode_68) hP hD hS hA [1] [0, 2, 3, 4, 5] [0, 5, 1, 2, 3, 4] rfl rfl rfl (by decide) rfl rfl (fun H locs hP hD hS => ?_)
      refine pf_Rec_37 (v := .int r7) hx hb hts hN hown hK hP hD hS 0 rfl rfl rfl (Nat.le_of_ble_eq_true rfl) d_Rec_encode_71 (fun H locs hP hD hS => ?_)
      have hP : va_P D pu_cl [(q_this, .inr (2, [.ref q_bytes, .int r7, .ref q_codes, .ref q_starts, .int v_count])), (q_bytes, .inl (cB, 307, .inl w8)), (q_p1, .inr (1, [.ref q_p1_codes, .ref q_p1_numbers, .ref q_p1_blobs, .int v_p1_count])), (q_p1_codes, .inl (cI, 3, .inl v_p1_codes)), (q_p1_numbers, .inl (cJ, 3, .inr (.inl v_p1_numbers))), (q_p1_blobs, .inl (cB, 300, .inl v_p1_blobs))] H := hP
      have hD : va_D A [(q_this, .inr (2, [.ref q_bytes, .int r7, .ref q_codes, .ref q_starts, .int v_count])), (q_bytes, .inl (cB, 307, .inl w8)), (q_p1, .inr (1, [.ref q_p1_codes, .ref q_p1_numbers, .ref q_p1_blobs, .int v_p1_count])), (q_p1_codes, .inl (cI, 3, .inl v_p1_codes)), (q_p1_numbers, .inl (cJ, 3, .inr (.inl v_p1_numbers))), (q_p1_blobs, .inl (cB, 300, .inl v_p1_blobs))] := hD
      obtain ⟨t9, e_t9, hf⟩ := pu_nm_some hf
      refine lv_iinc (k := 2) (v := t9) hx hb d_Rec_encode_74 hl rfl e_t9.symm (by decide) rfl (fun ls hl => ?_)
      have hl : lv_has ls 4 [(3, .int t9), (0, .ref q_this), (1, .ref q_p1)] := hl
      refine lv_goto (tgt := 45) hx hb d_Rec_encode_77 rfl ?_
      exact ih_45 r7 w8 t9 H locs ls hP hD hS (lv_sub hl [1, 2, 0] rfl) hf
  have lb_30 : ∀ (v_length : Int32) (v_bytes : Nat → Int32) (x_2 : Int32) (H : Heap) (locs : List Loc) (ls : Array Slot), va_P D pu_cl [(q_this, .inr (2, [.ref q_bytes, .int v_length, .ref q_codes, .ref q_starts, .int v_count])), (q_bytes, .inl (cB, 307, .inl v_bytes)), (q_p1, .inr (1, [.ref q_p1_codes, .ref q_p1_numbers, .ref q_p1_blobs, .int v_p1_count])), (q_p1_codes, .inl (cI, 3, .inl v_p1_codes)), (q_p1_numbers, .inl (cJ, 3, .inr (.inl v_p1_numbers))), (q_p1_blobs, .inl (cB, 300, .inl v_p1_blobs))] H → va_D A [(q_this, .inr (2, [.ref q_bytes, .int v_length, .ref q_codes, .ref q_starts, .int v_count])), (q_bytes, .inl (cB, 307, .inl v_bytes)), (q_p1, .inr (1, [.ref q_p1_codes, .ref q_p1_numbers, .ref q_p1_blobs, .int v_p1_count])), (q_p1_codes, .inl (cI, 3, .inl v_p1_codes)), (q_p1_numbers, .inl (cJ, 3, .inr (.inl v_p1_numbers))), (q_p1_blobs, .inl (cB, 300, .inl v_p1_blobs))] → va_S A s.heap H locs → lv_has ls 4 [(0, .ref q_this), (1, .ref q_p1), (2, .int x_2)] → q_Rec_encode_30 v_p1_count v_p1_codes v_p1_numbers v_p1_blobs v_length v_bytes x_2 = some (o_length, o_bytes) → W p l e rm_Rec_encode s m args below meth c H locs 0 0 Q (F0 m 30 ls []) := by
    intro v_length v_bytes x_2 H locs ls hP hD hS hl hf
    rw [q_Rec_encode_30] at hf
    refine lv_aload_n hx hb d_Rec_encode_30 rfl (lv_at hl 0 rfl) ?_
    refine lv_aload_n hx hb d_Rec_encode_31 rfl (lv_at hl 0 rfl) ?_
    refine gf_Rec_9 (v := .ref q_bytes) hx hb hts hN hown hK hP 0 rfl rfl d_Rec_encode_32 ?_
    refine lv_iconst (v := 0) hx hb d_Rec_encode_35 rfl ?_
    refine lv_iload_n hx hb d_Rec_encode_36 rfl (lv_at hl 2 rfl) ?_
    obtain ⟨r1, w2, hc, hf⟩ := pu_b2_some hf
    refine cl_i (WC := [(q_bytes, .inl (cB, 307, .inl v_bytes))]) (WC2 := [(q_bytes, .inl (cB, 307, .inl w2))]) (WR := [(q_this, .inr (2, [.ref q_bytes, .int v_length, .ref q_codes, .ref q_starts, .int v_count])), (q_p1, .inr (1, [.ref q_p1_codes, .ref q_p1_numbers, .ref q_p1_blobs, .int v_p1_count])), (q_p1_codes, .inl (cI, 3, .inl v_p1_codes)), (q_p1_numbers, .inl (cJ, 3, .inr (.inl v_p1_numbers))), (q_p1_blobs, .inl (cB, 300, .inl v_p1_blobs))]) (WS2 := [(q_this, .inr (2, [.ref q_bytes, .int v_length, .ref q_codes, .ref q_starts, .int v_count])), (q_bytes, .inl (cB, 307, .inl w2)), (q_p1, .inr (1, [.ref q_p1_codes, .ref q_p1_numbers, .ref q_p1_blobs, .int v_p1_count])), (q_p1_codes, .inl (cI, 3, .inl v_p1_codes)), (q_p1_numbers, .inl (cJ, 3, .inr (.inl v_p1_numbers))), (q_p1_blobs, .inl (cB, 300, .inl v_p1_blobs))]) (pu_rsn (List.mem_of_getElem? (i := 34) rfl) (pu_in4 _ (List.mem_of_getElem? (i := 13) rfl)) (pu_in0 _ (List.mem_of_getElem? (i := 1) rfl)) (pu_in4 _ (List.mem_of_getElem? (i := 14) rfl)) hd_RF_writeVarint (by decide) ⟨rfl, rfl⟩ rfl rfl (Nat.le_of_ble_eq_true rfl) (As := [.ref q_bytes, .int (0 : Int32), .int x_2]) (rest := [.ref q_this]) (WC := [(q_bytes, .inl (cB, 307, .inl v_bytes))]) hx hb hml hown hts hN hK hP hD (c_RF_writeVarint l D cI cJ cB cZ H.size q_bytes 307 v_bytes (0 : Int32) x_2 r1 w2 hc) [1] rfl rfl hl.1 d_Rec_encode_37) hP hD hS hA [1] [0, 2, 3, 4, 5] [0, 5, 1, 2, 3, 4] rfl rfl rfl (by decide) rfl rfl (fun H locs hP hD hS => ?_)
    refine pf_Rec_37 (v := .int r1) hx hb hts hN hown hK hP hD hS 0 rfl rfl rfl (Nat.le_of_ble_eq_true rfl) d_Rec_encode_40 (fun H locs hP hD hS => ?_)
    have hP : va_P D pu_cl [(q_this, .inr (2, [.ref q_bytes, .int r1, .ref q_codes, .ref q_starts, .int v_count])), (q_bytes, .inl (cB, 307, .inl w2)), (q_p1, .inr (1, [.ref q_p1_codes, .ref q_p1_numbers, .ref q_p1_blobs, .int v_p1_count])), (q_p1_codes, .inl (cI, 3, .inl v_p1_codes)), (q_p1_numbers, .inl (cJ, 3, .inr (.inl v_p1_numbers))), (q_p1_blobs, .inl (cB, 300, .inl v_p1_blobs))] H := hP
    have hD : va_D A [(q_this, .inr (2, [.ref q_bytes, .int r1, .ref q_codes, .ref q_starts, .int v_count])), (q_bytes, .inl (cB, 307, .inl w2)), (q_p1, .inr (1, [.ref q_p1_codes, .ref q_p1_numbers, .ref q_p1_blobs, .int v_p1_count])), (q_p1_codes, .inl (cI, 3, .inl v_p1_codes)), (q_p1_numbers, .inl (cJ, 3, .inr (.inl v_p1_numbers))), (q_p1_blobs, .inl (cB, 300, .inl v_p1_blobs))] := hD
    refine lv_iconst (v := 0) hx hb d_Rec_encode_43 rfl ?_
    refine lv_istore_n hx hb d_Rec_encode_44 rfl hl (by decide) rfl (fun ls hl => ?_)
    have hl : lv_has ls 4 [(3, .int (0 : Int32)), (0, .ref q_this), (1, .ref q_p1), (2, .int x_2)] := hl
    exact lp_45 _ r1 w2 (0 : Int32) H locs ls hP hD hS (lv_sub hl [1, 2, 0] rfl) hf
  have lp_4 : ∀ (v_length : Int32) (v_bytes : Nat → Int32) (n4 : Nat) (x_2 : Int32) (x_3 : Int32) (H : Heap) (locs : List Loc) (ls : Array Slot), va_P D pu_cl [(q_this, .inr (2, [.ref q_bytes, .int v_length, .ref q_codes, .ref q_starts, .int v_count])), (q_bytes, .inl (cB, 307, .inl v_bytes)), (q_p1, .inr (1, [.ref q_p1_codes, .ref q_p1_numbers, .ref q_p1_blobs, .int v_p1_count])), (q_p1_codes, .inl (cI, 3, .inl v_p1_codes)), (q_p1_numbers, .inl (cJ, 3, .inr (.inl v_p1_numbers))), (q_p1_blobs, .inl (cB, 300, .inl v_p1_blobs))] H → va_D A [(q_this, .inr (2, [.ref q_bytes, .int v_length, .ref q_codes, .ref q_starts, .int v_count])), (q_bytes, .inl (cB, 307, .inl v_bytes)), (q_p1, .inr (1, [.ref q_p1_codes, .ref q_p1_numbers, .ref q_p1_blobs, .int v_p1_count])), (q_p1_codes, .inl (cI, 3, .inl v_p1_codes)), (q_p1_numbers, .inl (cJ, 3, .inr (.inl v_p1_numbers))), (q_p1_blobs, .inl (cB, 300, .inl v_p1_blobs))] → va_S A s.heap H locs → lv_has ls 4 [(0, .ref q_this), (1, .ref q_p1), (2, .int x_2), (3, .int x_3)] → q_Rec_encode_4 (fun x_2 => q_Rec_encode_30 v_p1_count v_p1_codes v_p1_numbers v_p1_blobs v_length v_bytes x_2) v_p1_count v_p1_codes v_p1_numbers v_p1_blobs v_length v_bytes n4 x_2 x_3 = some (o_length, o_bytes) → W p l e rm_Rec_encode s m args below meth c H locs 0 0 Q (F0 m 4 ls []) := by
    intro v_length v_bytes n4
    induction n4 with
    | zero =>
      intro x_2 x_3 H locs ls hP hD hS hl hf
      rw [q_Rec_encode_4] at hf
      cases hf
    | succ n4 ih_4 =>
      intro x_2 x_3 H locs ls hP hD hS hl hf
      rw [q_Rec_encode_4] at hf
      refine lv_iload_n hx hb d_Rec_encode_4 rfl (lv_at hl 3 rfl) ?_
      refine lv_aload_n hx hb d_Rec_encode_5 rfl (lv_at hl 1 rfl) ?_
      refine gf_Rec_22 (v := .int v_p1_count) hx hb hts hN hown hK hP 2 rfl rfl d_Rec_encode_6 ?_
      refine lv_icmp_ge (tgt := 30) hx hb d_Rec_encode_9 rfl (fun hc => ?_) (fun hc => ?_)
      · have hf := pu_br_pos hf hc
        exact lb_30 v_length v_bytes x_2 H locs ls hP hD hS (lv_sub hl [0, 1, 2] rfl) hf
      have hf := pu_br_neg hf hc
      refine lv_iload_n hx hb d_Rec_encode_12 rfl (lv_at hl 2 rfl) ?_
      refine lv_aload_n hx hb d_Rec_encode_13 rfl (lv_at hl 1 rfl) ?_
      refine gf_Rec_28 (v := .ref q_p1_codes) hx hb hts hN hown hK hP 2 rfl rfl d_Rec_encode_14 ?_
      refine lv_iload_n hx hb d_Rec_encode_17 rfl (lv_at hl 3 rfl) ?_
      obtain ⟨hin, hf⟩ := pu_ck_some hf
      refine va_iald hx hb hK hP 3 0 rfl rfl hin d_Rec_encode_18 ?_
      obtain ⟨r10, hc, hf⟩ := pu_b1_some hf
      refine cl_i (WC := []) (WC2 := []) (WR := [(q_this, .inr (2, [.ref q_bytes, .int v_length, .ref q_codes, .ref q_starts, .int v_count])), (q_bytes, .inl (cB, 307, .inl v_bytes)), (q_p1, .inr (1, [.ref q_p1_codes, .ref q_p1_numbers, .ref q_p1_blobs, .int v_p1_count])), (q_p1_codes, .inl (cI, 3, .inl v_p1_codes)), (q_p1_numbers, .inl (cJ, 3, .inr (.inl v_p1_numbers))), (q_p1_blobs, .inl (cB, 300, .inl v_p1_blobs))]) (WS2 := [(q_this, .inr (2, [.ref q_bytes, .int v_length, .ref q_codes, .ref q_starts, .int v_count])), (q_bytes, .inl (cB, 307, .inl v_bytes)), (q_p1, .inr (1, [.ref q_p1_codes, .ref q_p1_numbers, .ref q_p1_blobs, .int v_p1_count])), (q_p1_codes, .inl (cI, 3, .inl v_p1_codes)), (q_p1_numbers, .inl (cJ, 3, .inr (.inl v_p1_numbers))), (q_p1_blobs, .inl (cB, 300, .inl v_p1_blobs))]) (pu_rsn (List.mem_of_getElem? (i := 33) rfl) (pu_in4 _ (List.mem_of_getElem? (i := 2) rfl)) (pu_in0 _ (List.mem_of_getElem? (i := 1) rfl)) (pu_in4 _ (List.mem_of_getElem? (i := 3) rfl)) hd_RF_varintSize (by decide) ⟨rfl, rfl⟩ rfl rfl (Nat.le_of_ble_eq_true rfl) (As := [.int (v_p1_codes x_3.toNatClampNeg)]) (rest := [.int x_2]) (WC := []) hx hb hml hown hts hN hK hP hD (c_RF_varintSize l D cI cJ cB cZ H.size (v_p1_codes x_3.toNatClampNeg) r10 hc) [] rfl rfl hl.1 d_Rec_encode_19) hP hD hS hA [] [0, 1, 2, 3, 4, 5] [0, 1, 2, 3, 4, 5] rfl rfl rfl (by decide) rfl rfl (fun H locs hP hD hS => ?_)
      refine lv_iadd hx hb d_Rec_encode_22 ?_
      obtain ⟨t11, e_t11, hf⟩ := pu_nm_some hf
      refine pu_ti e_t11 ?_
      refine lv_istore_n hx hb d_Rec_encode_23 rfl hl (by decide) rfl (fun ls hl => ?_)
      have hl : lv_has ls 4 [(2, .int t11), (0, .ref q_this), (1, .ref q_p1), (3, .int x_3)] := hl
      obtain ⟨t12, e_t12, hf⟩ := pu_nm_some hf
      refine lv_iinc (k := 3) (v := t12) hx hb d_Rec_encode_24 hl rfl e_t12.symm (by decide) rfl (fun ls hl => ?_)
      have hl : lv_has ls 4 [(3, .int t12), (2, .int t11), (0, .ref q_this), (1, .ref q_p1)] := hl
      refine lv_goto (tgt := 4) hx hb d_Rec_encode_27 rfl ?_
      exact ih_4 t11 t12 H locs ls hP hD hS (lv_sub hl [2, 3, 1, 0] rfl) hf
  obtain ⟨H, hH⟩ : ∃ H, H = s.heap := ⟨_, rfl⟩
  obtain ⟨locs, hlocs⟩ : ∃ locs : List Loc, locs = [] := ⟨_, rfl⟩
  have hP : va_P D pu_cl [(q_this, .inr (2, [.ref q_bytes, .int v_length, .ref q_codes, .ref q_starts, .int v_count])), (q_bytes, .inl (cB, 307, .inl v_bytes)), (q_p1, .inr (1, [.ref q_p1_codes, .ref q_p1_numbers, .ref q_p1_blobs, .int v_p1_count])), (q_p1_codes, .inl (cI, 3, .inl v_p1_codes)), (q_p1_numbers, .inl (cJ, 3, .inr (.inl v_p1_numbers))), (q_p1_blobs, .inl (cB, 300, .inl v_p1_blobs))] H := by rw [hH]; exact hP
  have hS : va_S A s.heap H locs := by rw [hH, hlocs]; exact hS
  have goal : W p l e rm_Rec_encode s m args below meth c H locs 0 0 Q (F0 m 0 ls []) := by
    clear hH hlocs
    refine lv_iconst (v := 1) hx hb d_Rec_encode_0 rfl ?_
    refine lv_istore_n hx hb d_Rec_encode_1 rfl hl (by decide) rfl (fun ls hl => ?_)
    have hl : lv_has ls 4 [(2, .int (1 : Int32)), (0, .ref q_this), (1, .ref q_p1)] := hl
    refine lv_iconst (v := 0) hx hb d_Rec_encode_2 rfl ?_
    refine lv_istore_n hx hb d_Rec_encode_3 rfl hl (by decide) rfl (fun ls hl => ?_)
    have hl : lv_has ls 4 [(3, .int (0 : Int32)), (2, .int (1 : Int32)), (0, .ref q_this), (1, .ref q_p1)] := hl
    exact lp_4 v_length v_bytes _ (1 : Int32) (0 : Int32) H locs ls hP hD hS (lv_sub hl [2, 3, 1, 0] rfl) hf
  rw [hH, hlocs] at goal
  exact goal
theorem d_RF_sizeInLeaf_0 : decode b_RF_sizeInLeaf 0 = .ok (.iload_n 0, 1) := by decide +kernel
theorem d_RF_sizeInLeaf_1 : decode b_RF_sizeInLeaf 1 = .ok (.bipush 24, 2) := by decide +kernel
theorem d_RF_sizeInLeaf_3 : decode b_RF_sizeInLeaf 3 = .ok (.if_icmp .gt 7, 3) := by decide +kernel
theorem d_RF_sizeInLeaf_6 : decode b_RF_sizeInLeaf 6 = .ok (.iload_n 0, 1) := by decide +kernel
theorem d_RF_sizeInLeaf_7 : decode b_RF_sizeInLeaf 7 = .ok (.goto 5, 3) := by decide +kernel
theorem d_RF_sizeInLeaf_10 : decode b_RF_sizeInLeaf 10 = .ok (.bipush 16, 2) := by decide +kernel
theorem d_RF_sizeInLeaf_12 : decode b_RF_sizeInLeaf 12 = .ok (.ireturn, 1) := by decide +kernel
noncomputable def f_RF_sizeInLeaf (x_0 : Int32) : Option (Int32) :=
  pu_br ((24 : Int32) < x_0) (some (16 : Int32)) (some x_0)
abbrev rm_RF_sizeInLeaf : Room := { frames := 0, cells := 0, slots := 0, locals := 0 }
set_option maxHeartbeats 8000000 in
set_option maxRecDepth 100000 in
theorem c_RF_sizeInLeaf (l : Launch) (D : va_G) (cI cJ cB cZ : ClassId) (sz : Nat) (x_0 : Int32) (o_r : Int32) (hf : f_RF_sizeInLeaf x_0 = some o_r) : Met l y_RF_sizeInLeaf (.code y_RF_sizeInLeaf b_RF_sizeInLeaf 1 (some .int) :: pu_wA) rm_RF_sizeInLeaf (pu_pc D pu_cl (pu_ty cI cJ cB cZ) [.int x_0] [] sz) (pu_qi D pu_cl (pu_ty cI cJ cB cZ) [] [] sz o_r) 0 0 (va_A [] sz) := by
  refine pu_mti [.int x_0] [] [] o_r (by decide) (Nat.le_of_ble_eq_true rfl) ?_
  intro p e s m args below meth c A Q ls hx hb hml hts hN hown hK hA hP hD hl hret0
  have hS : va_S A s.heap s.heap [] := va_S.rf
  have hl : lv_has ls 1 [(0, .int x_0)] := hl
  have hret : ∀ (pc : Nat) (ls : Array Slot) (H : Heap) (locs : List Loc) (y_0 : Int32), decode b_RF_sizeInLeaf pc = .ok (.ireturn, 1) → va_P D pu_cl [] H → va_D A [] → va_S A s.heap H locs → some y_0 = some o_r → W p l e rm_RF_sizeInLeaf s m args below meth c H locs 0 0 Q (F0 m pc ls [.int y_0]) := by
    intro pc ls H locs y_0 hd hP hD hS hf
    cases hf
    exact hret0 pc ls H locs hd hP hD hS
  clear hret0
  unfold f_RF_sizeInLeaf at hf
  skip
  obtain ⟨H, hH⟩ : ∃ H, H = s.heap := ⟨_, rfl⟩
  obtain ⟨locs, hlocs⟩ : ∃ locs : List Loc, locs = [] := ⟨_, rfl⟩
  have hP : va_P D pu_cl [] H := by rw [hH]; exact hP
  have hS : va_S A s.heap H locs := by rw [hH, hlocs]; exact hS
  have goal : W p l e rm_RF_sizeInLeaf s m args below meth c H locs 0 0 Q (F0 m 0 ls []) := by
    clear hH hlocs
    refine lv_iload_n hx hb d_RF_sizeInLeaf_0 rfl (lv_at hl 0 rfl) ?_
    refine lv_bipush (v := 24) hx hb d_RF_sizeInLeaf_1 rfl ?_
    refine lv_icmp_gt (tgt := 10) hx hb d_RF_sizeInLeaf_3 rfl (fun hc => ?_) (fun hc => ?_)
    · have hf := pu_br_pos hf hc
      refine lv_bipush (v := 16) hx hb d_RF_sizeInLeaf_10 rfl ?_
      exact hret _ _ _ _ (16 : Int32)  d_RF_sizeInLeaf_12 hP hD hS hf
    have hf := pu_br_neg hf hc
    refine lv_iload_n hx hb d_RF_sizeInLeaf_6 rfl (lv_at hl 0 rfl) ?_
    refine lv_goto (tgt := 12) hx hb d_RF_sizeInLeaf_7 rfl ?_
    exact hret _ _ _ _ x_0  d_RF_sizeInLeaf_12 hP hD hS hf
  rw [hH, hlocs] at goal
  exact goal
theorem d_RF_chainPages_0 : decode b_RF_chainPages 0 = .ok (.iload_n 0, 1) := by decide +kernel
theorem d_RF_chainPages_1 : decode b_RF_chainPages 1 = .ok (.iload_n 0, 1) := by decide +kernel
theorem d_RF_chainPages_2 : decode b_RF_chainPages 2 = .ok (.invokestatic 214, 3) := by decide +kernel
theorem d_RF_chainPages_5 : decode b_RF_chainPages 5 = .ok (.isub, 1) := by decide +kernel
theorem d_RF_chainPages_6 : decode b_RF_chainPages 6 = .ok (.bipush 63, 2) := by decide +kernel
theorem d_RF_chainPages_8 : decode b_RF_chainPages 8 = .ok (.iadd, 1) := by decide +kernel
theorem d_RF_chainPages_9 : decode b_RF_chainPages 9 = .ok (.iconst 1, 1) := by decide +kernel
theorem d_RF_chainPages_10 : decode b_RF_chainPages 10 = .ok (.isub, 1) := by decide +kernel
theorem d_RF_chainPages_11 : decode b_RF_chainPages 11 = .ok (.bipush 63, 2) := by decide +kernel
theorem d_RF_chainPages_13 : decode b_RF_chainPages 13 = .ok (.idiv, 1) := by decide +kernel
theorem d_RF_chainPages_14 : decode b_RF_chainPages 14 = .ok (.ireturn, 1) := by decide +kernel
noncomputable def f_RF_chainPages (x_0 : Int32) : Option (Int32) :=
  pu_b1 (f_RF_sizeInLeaf x_0) (fun r1 => some ((((x_0 - r1) + (63 : Int32)) - (1 : Int32)) / (63 : Int32)))
abbrev rm_RF_chainPages : Room := { frames := 1, cells := 0, slots := 0, locals := 20 }
set_option maxHeartbeats 8000000 in
set_option maxRecDepth 100000 in
theorem c_RF_chainPages (l : Launch) (D : va_G) (cI cJ cB cZ : ClassId) (sz : Nat) (x_0 : Int32) (o_r : Int32) (hf : f_RF_chainPages x_0 = some o_r) : Met l y_RF_chainPages (.code y_RF_chainPages b_RF_chainPages 1 (some .int) :: pu_wA) rm_RF_chainPages (pu_pc D pu_cl (pu_ty cI cJ cB cZ) [.int x_0] [] sz) (pu_qi D pu_cl (pu_ty cI cJ cB cZ) [] [] sz o_r) 0 0 (va_A [] sz) := by
  refine pu_mti [.int x_0] [] [] o_r (by decide) (Nat.le_of_ble_eq_true rfl) ?_
  intro p e s m args below meth c A Q ls hx hb hml hts hN hown hK hA hP hD hl hret0
  have hS : va_S A s.heap s.heap [] := va_S.rf
  have hl : lv_has ls 1 [(0, .int x_0)] := hl
  have hret : ∀ (pc : Nat) (ls : Array Slot) (H : Heap) (locs : List Loc) (y_0 : Int32), decode b_RF_chainPages pc = .ok (.ireturn, 1) → va_P D pu_cl [] H → va_D A [] → va_S A s.heap H locs → some y_0 = some o_r → W p l e rm_RF_chainPages s m args below meth c H locs 0 0 Q (F0 m pc ls [.int y_0]) := by
    intro pc ls H locs y_0 hd hP hD hS hf
    cases hf
    exact hret0 pc ls H locs hd hP hD hS
  clear hret0
  unfold f_RF_chainPages at hf
  skip
  obtain ⟨H, hH⟩ : ∃ H, H = s.heap := ⟨_, rfl⟩
  obtain ⟨locs, hlocs⟩ : ∃ locs : List Loc, locs = [] := ⟨_, rfl⟩
  have hP : va_P D pu_cl [] H := by rw [hH]; exact hP
  have hS : va_S A s.heap H locs := by rw [hH, hlocs]; exact hS
  have goal : W p l e rm_RF_chainPages s m args below meth c H locs 0 0 Q (F0 m 0 ls []) := by
    clear hH hlocs
    refine lv_iload_n hx hb d_RF_chainPages_0 rfl (lv_at hl 0 rfl) ?_
    refine lv_iload_n hx hb d_RF_chainPages_1 rfl (lv_at hl 0 rfl) ?_
    obtain ⟨r1, hc, hf⟩ := pu_b1_some hf
    refine cl_i (WC := []) (WC2 := []) (WR := []) (WS2 := []) (pu_rs (pu_in4 _ (List.mem_of_getElem? (i := 29) rfl)) (pu_in4 _ (List.mem_of_getElem? (i := 30) rfl)) (pu_in0 _ (List.mem_of_getElem? (i := 1) rfl)) (pu_in4 _ (List.mem_of_getElem? (i := 31) rfl)) hd_RF_sizeInLeaf (by decide) ⟨rfl, rfl⟩ rfl rfl (Nat.le_of_ble_eq_true rfl) (As := [.int x_0]) (rest := [.int x_0]) (WC := []) hx hb hml hown hts hN hK hP hD (c_RF_sizeInLeaf l D cI cJ cB cZ H.size x_0 r1 hc) [] rfl rfl hl.1 d_RF_chainPages_2) hP hD hS hA [] [] [] rfl rfl rfl (by decide) rfl rfl (fun H locs hP hD hS => ?_)
    refine lv_isub hx hb d_RF_chainPages_5 ?_
    refine lv_bipush (v := 63) hx hb d_RF_chainPages_6 rfl ?_
    refine lv_iadd hx hb d_RF_chainPages_8 ?_
    refine lv_iconst (v := 1) hx hb d_RF_chainPages_9 rfl ?_
    refine lv_isub hx hb d_RF_chainPages_10 ?_
    refine lv_bipush (v := 63) hx hb d_RF_chainPages_11 rfl ?_
    refine lv_idiv hx hb d_RF_chainPages_13 (by decide) ?_
    exact hret _ _ _ _ ((((x_0 - r1) + (63 : Int32)) - (1 : Int32)) / (63 : Int32))  d_RF_chainPages_14 hP hD hS hf
  rw [hH, hlocs] at goal
  exact goal
theorem d_Pages_put_0 : decode b_Pages_put 0 = .ok (.aload_n 0, 1) := by decide +kernel
theorem d_Pages_put_1 : decode b_Pages_put 1 = .ok (.iload_n 1, 1) := by decide +kernel
theorem d_Pages_put_2 : decode b_Pages_put 2 = .ok (.iload_n 2, 1) := by decide +kernel
theorem d_Pages_put_3 : decode b_Pages_put 3 = .ok (.invokevirtual 23, 3) := by decide +kernel
theorem d_Pages_put_6 : decode b_Pages_put 6 = .ok (.ifCond .eq 18, 3) := by decide +kernel
theorem d_Pages_put_9 : decode b_Pages_put 9 = .ok (.aload_n 0, 1) := by decide +kernel
theorem d_Pages_put_10 : decode b_Pages_put 10 = .ok (.getfield 9, 3) := by decide +kernel
theorem d_Pages_put_13 : decode b_Pages_put 13 = .ok (.iload_n 1, 1) := by decide +kernel
theorem d_Pages_put_14 : decode b_Pages_put 14 = .ok (.iconst 1, 1) := by decide +kernel
theorem d_Pages_put_15 : decode b_Pages_put 15 = .ok (.isub, 1) := by decide +kernel
theorem d_Pages_put_16 : decode b_Pages_put 16 = .ok (.bipush 64, 2) := by decide +kernel
theorem d_Pages_put_18 : decode b_Pages_put 18 = .ok (.imul, 1) := by decide +kernel
theorem d_Pages_put_19 : decode b_Pages_put 19 = .ok (.iload_n 2, 1) := by decide +kernel
theorem d_Pages_put_20 : decode b_Pages_put 20 = .ok (.iadd, 1) := by decide +kernel
theorem d_Pages_put_21 : decode b_Pages_put 21 = .ok (.iload_n 3, 1) := by decide +kernel
theorem d_Pages_put_22 : decode b_Pages_put 22 = .ok (.i2b, 1) := by decide +kernel
theorem d_Pages_put_23 : decode b_Pages_put 23 = .ok (.bastore, 1) := by decide +kernel
theorem d_Pages_put_24 : decode b_Pages_put 24 = .ok (.return_, 1) := by decide +kernel
noncomputable def f_Pages_put (v_count : Int32) (v_bytes : Nat → Int32) (x_1 : Int32) (x_2 : Int32) (x_3 : Int32) : Option ((Nat → Int32)) :=
  pu_b1 (f_Pages_has v_count x_1 x_2) (fun r1 => pu_br (r1 = 0) (some v_bytes) (pu_ck (vp_in (((x_1 - (1 : Int32)) * (64 : Int32)) + x_2) 1536) (pu_nm (upd v_bytes (((x_1 - (1 : Int32)) * (64 : Int32)) + x_2).toNatClampNeg (vp_nar .byte x_3.toInt8.toInt32)) (fun a2 => some a2))))
abbrev rm_Pages_put : Room := { frames := 1, cells := 0, slots := 0, locals := 22 }
set_option maxHeartbeats 8000000 in
set_option maxRecDepth 100000 in
theorem c_Pages_put (l : Launch) (D : va_G) (cI cJ cB cZ : ClassId) (sz : Nat) (q_this : Nat) (q_bytes : Nat) (v_count : Int32) (v_bytes : Nat → Int32) (x_1 : Int32) (x_2 : Int32) (x_3 : Int32) (o_bytes : Nat → Int32) (hf : f_Pages_put v_count v_bytes x_1 x_2 x_3 = some o_bytes) : Met l y_Pages_put (.code y_Pages_put b_Pages_put 4 none :: pu_wA) rm_Pages_put (pu_pc D pu_cl (pu_ty cI cJ cB cZ) [.ref q_this, .int x_1, .int x_2, .int x_3] [(q_this, .inr (0, [.ref q_bytes, .int v_count])), (q_bytes, .inl (cB, 1536, .inl v_bytes))] sz) (pu_qv D pu_cl (pu_ty cI cJ cB cZ) [(q_this, .inr (0, [.ref q_bytes, .int v_count])), (q_bytes, .inl (cB, 1536, .inl v_bytes))] [(q_this, .inr (0, [.ref q_bytes, .int v_count])), (q_bytes, .inl (cB, 1536, .inl o_bytes))] sz) 0 0 (va_A [(q_this, .inr (0, [.ref q_bytes, .int v_count])), (q_bytes, .inl (cB, 1536, .inl v_bytes))] sz) := by
  refine pu_mtv [.ref q_this, .int x_1, .int x_2, .int x_3] [(q_this, .inr (0, [.ref q_bytes, .int v_count])), (q_bytes, .inl (cB, 1536, .inl v_bytes))] [(q_this, .inr (0, [.ref q_bytes, .int v_count])), (q_bytes, .inl (cB, 1536, .inl o_bytes))] (by decide) (Nat.le_of_ble_eq_true rfl) ?_
  intro p e s m args below meth c A Q ls hx hb hml hts hN hown hK hA hP hD hl hret0
  have hS : va_S A s.heap s.heap [] := va_S.rf
  have hl : lv_has ls 4 [(0, .ref q_this), (1, .int x_1), (2, .int x_2), (3, .int x_3)] := hl
  have hret : ∀ (pc : Nat) (ls : Array Slot) (H : Heap) (locs : List Loc) (y_0 : Nat → Int32), decode b_Pages_put pc = .ok (.return_, 1) → va_P D pu_cl [(q_this, .inr (0, [.ref q_bytes, .int v_count])), (q_bytes, .inl (cB, 1536, .inl y_0))] H → va_D A [(q_this, .inr (0, [.ref q_bytes, .int v_count])), (q_bytes, .inl (cB, 1536, .inl y_0))] → va_S A s.heap H locs → some y_0 = some o_bytes → W p l e rm_Pages_put s m args below meth c H locs 0 0 Q (F0 m pc ls []) := by
    intro pc ls H locs y_0 hd hP hD hS hf
    cases hf
    exact hret0 pc ls H locs hd hP hD hS
  clear hret0
  unfold f_Pages_put at hf
  skip
  obtain ⟨H, hH⟩ : ∃ H, H = s.heap := ⟨_, rfl⟩
  obtain ⟨locs, hlocs⟩ : ∃ locs : List Loc, locs = [] := ⟨_, rfl⟩
  have hP : va_P D pu_cl [(q_this, .inr (0, [.ref q_bytes, .int v_count])), (q_bytes, .inl (cB, 1536, .inl v_bytes))] H := by rw [hH]; exact hP
  have hS : va_S A s.heap H locs := by rw [hH, hlocs]; exact hS
  have goal : W p l e rm_Pages_put s m args below meth c H locs 0 0 Q (F0 m 0 ls []) := by
    clear hH hlocs
    refine lv_aload_n hx hb d_Pages_put_0 rfl (lv_at hl 0 rfl) ?_
    refine lv_iload_n hx hb d_Pages_put_1 rfl (lv_at hl 1 rfl) ?_
    refine lv_iload_n hx hb d_Pages_put_2 rfl (lv_at hl 2 rfl) ?_
    obtain ⟨r1, hc, hf⟩ := pu_b1_some hf
    refine cl_i (WC := [(q_this, .inr (0, [.ref q_bytes, .int v_count]))]) (WC2 := [(q_this, .inr (0, [.ref q_bytes, .int v_count]))]) (WR := [(q_bytes, .inl (cB, 1536, .inl v_bytes))]) (WS2 := [(q_this, .inr (0, [.ref q_bytes, .int v_count])), (q_bytes, .inl (cB, 1536, .inl v_bytes))]) (pu_rv (cl := pu_cl) (pu_in2 _ (List.mem_of_getElem? (i := 29) rfl)) (pu_in2 _ (List.mem_of_getElem? (i := 30) rfl)) (pu_in2 _ (List.mem_of_getElem? (i := 31) rfl)) (pu_in0 _ (List.mem_of_getElem? (i := 3) rfl)) (pu_in2 _ (List.mem_of_getElem? (i := 32) rfl)) (ci := 0) rfl hd_Pages_has (by decide) ⟨rfl, rfl⟩ rfl rfl (Nat.le_of_ble_eq_true rfl) rfl (As := [.int x_1, .int x_2]) (rest := []) (WC := [(q_this, .inr (0, [.ref q_bytes, .int v_count]))]) hx hb hml hown hts hN hK hP hD (c_Pages_has l D cI cJ cB cZ H.size q_this q_bytes v_count x_1 x_2 r1 hc) [0] rfl rfl hl.1 d_Pages_put_3) hP hD hS hA [0] [1] [1, 0] rfl rfl rfl (by decide) rfl rfl (fun H locs hP hD hS => ?_)
    refine lv_if_eq (tgt := 24) hx hb d_Pages_put_6 rfl (fun hc => ?_) (fun hc => ?_)
    · have hf := pu_br_pos hf hc
      exact hret _ _ _ _ v_bytes d_Pages_put_24 hP hD hS hf
    have hf := pu_br_neg hf hc
    refine lv_aload_n hx hb d_Pages_put_9 rfl (lv_at hl 0 rfl) ?_
    refine gf_Pages_9 (v := .ref q_bytes) hx hb hts hN hown hK hP 0 rfl rfl d_Pages_put_10 ?_
    refine lv_iload_n hx hb d_Pages_put_13 rfl (lv_at hl 1 rfl) ?_
    refine lv_iconst (v := 1) hx hb d_Pages_put_14 rfl ?_
    refine lv_isub hx hb d_Pages_put_15 ?_
    refine lv_bipush (v := 64) hx hb d_Pages_put_16 rfl ?_
    refine lv_imul hx hb d_Pages_put_18 ?_
    refine lv_iload_n hx hb d_Pages_put_19 rfl (lv_at hl 2 rfl) ?_
    refine lv_iadd hx hb d_Pages_put_20 ?_
    refine lv_iload_n hx hb d_Pages_put_21 rfl (lv_at hl 3 rfl) ?_
    refine lv_i2b hx hb d_Pages_put_22 rfl ?_
    obtain ⟨hin, hf⟩ := pu_ck_some hf
    obtain ⟨a2, e_a2, hf⟩ := pu_nm_some hf
    refine va_bast hx hb hK hP hD hS 1 2 rfl rfl hin d_Pages_put_23 (fun H locs hP hD hS => ?_)
    have hP : va_P D pu_cl [(q_this, .inr (0, [.ref q_bytes, .int v_count])), (q_bytes, .inl (cB, 1536, .inl a2))] H := by rw [e_a2]; exact hP
    have hD : va_D A [(q_this, .inr (0, [.ref q_bytes, .int v_count])), (q_bytes, .inl (cB, 1536, .inl a2))] := by rw [e_a2]; exact hD
    exact hret _ _ _ _ a2 d_Pages_put_24 hP hD hS hf
  rw [hH, hlocs] at goal
  exact goal
theorem d_Arrays_rangeCheck_0 : decode b_Arrays_rangeCheck 0 = .ok (.iload_n 1, 1) := by decide +kernel
theorem d_Arrays_rangeCheck_1 : decode b_Arrays_rangeCheck 1 = .ok (.iload_n 2, 1) := by decide +kernel
theorem d_Arrays_rangeCheck_2 : decode b_Arrays_rangeCheck 2 = .ok (.if_icmp .le 44, 3) := by decide +kernel
theorem d_Arrays_rangeCheck_5 : decode b_Arrays_rangeCheck 5 = .ok (.new 43, 3) := by decide +kernel
theorem d_Arrays_rangeCheck_8 : decode b_Arrays_rangeCheck 8 = .ok (.dup, 1) := by decide +kernel
theorem d_Arrays_rangeCheck_9 : decode b_Arrays_rangeCheck 9 = .ok (.new 45, 3) := by decide +kernel
theorem d_Arrays_rangeCheck_12 : decode b_Arrays_rangeCheck 12 = .ok (.dup, 1) := by decide +kernel
theorem d_Arrays_rangeCheck_13 : decode b_Arrays_rangeCheck 13 = .ok (.invokespecial 47, 3) := by decide +kernel
theorem d_Arrays_rangeCheck_16 : decode b_Arrays_rangeCheck 16 = .ok (.ldc 48, 2) := by decide +kernel
theorem d_Arrays_rangeCheck_18 : decode b_Arrays_rangeCheck 18 = .ok (.invokevirtual 50, 3) := by decide +kernel
theorem d_Arrays_rangeCheck_21 : decode b_Arrays_rangeCheck 21 = .ok (.iload_n 1, 1) := by decide +kernel
theorem d_Arrays_rangeCheck_22 : decode b_Arrays_rangeCheck 22 = .ok (.invokevirtual 54, 3) := by decide +kernel
theorem d_Arrays_rangeCheck_25 : decode b_Arrays_rangeCheck 25 = .ok (.ldc 57, 2) := by decide +kernel
theorem d_Arrays_rangeCheck_27 : decode b_Arrays_rangeCheck 27 = .ok (.invokevirtual 50, 3) := by decide +kernel
theorem d_Arrays_rangeCheck_30 : decode b_Arrays_rangeCheck 30 = .ok (.iload_n 2, 1) := by decide +kernel
theorem d_Arrays_rangeCheck_31 : decode b_Arrays_rangeCheck 31 = .ok (.invokevirtual 54, 3) := by decide +kernel
theorem d_Arrays_rangeCheck_34 : decode b_Arrays_rangeCheck 34 = .ok (.ldc 59, 2) := by decide +kernel
theorem d_Arrays_rangeCheck_36 : decode b_Arrays_rangeCheck 36 = .ok (.invokevirtual 50, 3) := by decide +kernel
theorem d_Arrays_rangeCheck_39 : decode b_Arrays_rangeCheck 39 = .ok (.invokevirtual 61, 3) := by decide +kernel
theorem d_Arrays_rangeCheck_42 : decode b_Arrays_rangeCheck 42 = .ok (.invokespecial 65, 3) := by decide +kernel
theorem d_Arrays_rangeCheck_45 : decode b_Arrays_rangeCheck 45 = .ok (.athrow, 1) := by decide +kernel
theorem d_Arrays_rangeCheck_46 : decode b_Arrays_rangeCheck 46 = .ok (.iload_n 1, 1) := by decide +kernel
theorem d_Arrays_rangeCheck_47 : decode b_Arrays_rangeCheck 47 = .ok (.ifCond .ge 12, 3) := by decide +kernel
theorem d_Arrays_rangeCheck_50 : decode b_Arrays_rangeCheck 50 = .ok (.new 68, 3) := by decide +kernel
theorem d_Arrays_rangeCheck_53 : decode b_Arrays_rangeCheck 53 = .ok (.dup, 1) := by decide +kernel
theorem d_Arrays_rangeCheck_54 : decode b_Arrays_rangeCheck 54 = .ok (.iload_n 1, 1) := by decide +kernel
theorem d_Arrays_rangeCheck_55 : decode b_Arrays_rangeCheck 55 = .ok (.invokespecial 70, 3) := by decide +kernel
theorem d_Arrays_rangeCheck_58 : decode b_Arrays_rangeCheck 58 = .ok (.athrow, 1) := by decide +kernel
theorem d_Arrays_rangeCheck_59 : decode b_Arrays_rangeCheck 59 = .ok (.iload_n 2, 1) := by decide +kernel
theorem d_Arrays_rangeCheck_60 : decode b_Arrays_rangeCheck 60 = .ok (.iload_n 0, 1) := by decide +kernel
theorem d_Arrays_rangeCheck_61 : decode b_Arrays_rangeCheck 61 = .ok (.if_icmp .le 12, 3) := by decide +kernel
theorem d_Arrays_rangeCheck_64 : decode b_Arrays_rangeCheck 64 = .ok (.new 68, 3) := by decide +kernel
theorem d_Arrays_rangeCheck_67 : decode b_Arrays_rangeCheck 67 = .ok (.dup, 1) := by decide +kernel
theorem d_Arrays_rangeCheck_68 : decode b_Arrays_rangeCheck 68 = .ok (.iload_n 2, 1) := by decide +kernel
theorem d_Arrays_rangeCheck_69 : decode b_Arrays_rangeCheck 69 = .ok (.invokespecial 70, 3) := by decide +kernel
theorem d_Arrays_rangeCheck_72 : decode b_Arrays_rangeCheck 72 = .ok (.athrow, 1) := by decide +kernel
theorem d_Arrays_rangeCheck_73 : decode b_Arrays_rangeCheck 73 = .ok (.return_, 1) := by decide +kernel
noncomputable def f_Arrays_rangeCheck (x_0 : Int32) (x_1 : Int32) (x_2 : Int32) : Option (Unit) :=
  pu_br (x_1 ≤ x_2) (pu_br (0 ≤ x_1) (pu_br (x_2 ≤ x_0) (some ()) (none)) (none)) (none)
abbrev rm_Arrays_rangeCheck : Room := { frames := 0, cells := 0, slots := 0, locals := 0 }
set_option maxHeartbeats 8000000 in
set_option maxRecDepth 100000 in
theorem c_Arrays_rangeCheck (l : Launch) (D : va_G) (cI cJ cB cZ : ClassId) (sz : Nat) (x_0 : Int32) (x_1 : Int32) (x_2 : Int32) (hf : f_Arrays_rangeCheck x_0 x_1 x_2 = some ()) : Met l y_Arrays_rangeCheck (.code y_Arrays_rangeCheck b_Arrays_rangeCheck 3 none :: pu_wA) rm_Arrays_rangeCheck (pu_pc D pu_cl (pu_ty cI cJ cB cZ) [.int x_0, .int x_1, .int x_2] [] sz) (pu_qv D pu_cl (pu_ty cI cJ cB cZ) [] [] sz) 0 0 (va_A [] sz) := by
  refine pu_mtv [.int x_0, .int x_1, .int x_2] [] [] (by decide) (Nat.le_of_ble_eq_true rfl) ?_
  intro p e s m args below meth c A Q ls hx hb hml hts hN hown hK hA hP hD hl hret0
  have hS : va_S A s.heap s.heap [] := va_S.rf
  have hl : lv_has ls 3 [(0, .int x_0), (1, .int x_1), (2, .int x_2)] := hl
  have hret : ∀ (pc : Nat) (ls : Array Slot) (H : Heap) (locs : List Loc), decode b_Arrays_rangeCheck pc = .ok (.return_, 1) → va_P D pu_cl [] H → va_D A [] → va_S A s.heap H locs → some () = some () → W p l e rm_Arrays_rangeCheck s m args below meth c H locs 0 0 Q (F0 m pc ls []) := by
    intro pc ls H locs hd hP hD hS hf
    cases hf
    exact hret0 pc ls H locs hd hP hD hS
  clear hret0
  unfold f_Arrays_rangeCheck at hf
  skip
  obtain ⟨H, hH⟩ : ∃ H, H = s.heap := ⟨_, rfl⟩
  obtain ⟨locs, hlocs⟩ : ∃ locs : List Loc, locs = [] := ⟨_, rfl⟩
  have hP : va_P D pu_cl [] H := by rw [hH]; exact hP
  have hS : va_S A s.heap H locs := by rw [hH, hlocs]; exact hS
  have goal : W p l e rm_Arrays_rangeCheck s m args below meth c H locs 0 0 Q (F0 m 0 ls []) := by
    clear hH hlocs
    refine lv_iload_n hx hb d_Arrays_rangeCheck_0 rfl (lv_at hl 1 rfl) ?_
    refine lv_iload_n hx hb d_Arrays_rangeCheck_1 rfl (lv_at hl 2 rfl) ?_
    refine lv_icmp_le (tgt := 46) hx hb d_Arrays_rangeCheck_2 rfl (fun hc => ?_) (fun hc => ?_)
    · have hf := pu_br_pos hf hc
      refine lv_iload_n hx hb d_Arrays_rangeCheck_46 rfl (lv_at hl 1 rfl) ?_
      refine lv_if_ge (tgt := 59) hx hb d_Arrays_rangeCheck_47 rfl (fun hc => ?_) (fun hc => ?_)
      · have hf := pu_br_pos hf hc
        refine lv_iload_n hx hb d_Arrays_rangeCheck_59 rfl (lv_at hl 2 rfl) ?_
        refine lv_iload_n hx hb d_Arrays_rangeCheck_60 rfl (lv_at hl 0 rfl) ?_
        refine lv_icmp_le (tgt := 73) hx hb d_Arrays_rangeCheck_61 rfl (fun hc => ?_) (fun hc => ?_)
        · have hf := pu_br_pos hf hc
          exact hret _ _ _ _  d_Arrays_rangeCheck_73 hP hD hS hf
        have hf := pu_br_neg hf hc
        cases hf
      have hf := pu_br_neg hf hc
      cases hf
    have hf := pu_br_neg hf hc
    cases hf
  rw [hH, hlocs] at goal
  exact goal
theorem d_Arrays_fill_0 : decode b_Arrays_fill 0 = .ok (.aload_n 0, 1) := by decide +kernel
theorem d_Arrays_fill_1 : decode b_Arrays_fill 1 = .ok (.arraylength, 1) := by decide +kernel
theorem d_Arrays_fill_2 : decode b_Arrays_fill 2 = .ok (.iload_n 1, 1) := by decide +kernel
theorem d_Arrays_fill_3 : decode b_Arrays_fill 3 = .ok (.iload_n 2, 1) := by decide +kernel
theorem d_Arrays_fill_4 : decode b_Arrays_fill 4 = .ok (.invokestatic 13, 3) := by decide +kernel
theorem d_Arrays_fill_7 : decode b_Arrays_fill 7 = .ok (.iload_n 1, 1) := by decide +kernel
theorem d_Arrays_fill_8 : decode b_Arrays_fill 8 = .ok (.istore 4, 2) := by decide +kernel
theorem d_Arrays_fill_10 : decode b_Arrays_fill 10 = .ok (.iload 4, 2) := by decide +kernel
theorem d_Arrays_fill_12 : decode b_Arrays_fill 12 = .ok (.iload_n 2, 1) := by decide +kernel
theorem d_Arrays_fill_13 : decode b_Arrays_fill 13 = .ok (.if_icmp .ge 14, 3) := by decide +kernel
theorem d_Arrays_fill_16 : decode b_Arrays_fill 16 = .ok (.aload_n 0, 1) := by decide +kernel
theorem d_Arrays_fill_17 : decode b_Arrays_fill 17 = .ok (.iload 4, 2) := by decide +kernel
theorem d_Arrays_fill_19 : decode b_Arrays_fill 19 = .ok (.iload_n 3, 1) := by decide +kernel
theorem d_Arrays_fill_20 : decode b_Arrays_fill 20 = .ok (.bastore, 1) := by decide +kernel
theorem d_Arrays_fill_21 : decode b_Arrays_fill 21 = .ok (.iinc 4 1, 3) := by decide +kernel
theorem d_Arrays_fill_24 : decode b_Arrays_fill 24 = .ok (.goto (-14), 3) := by decide +kernel
theorem d_Arrays_fill_27 : decode b_Arrays_fill 27 = .ok (.return_, 1) := by decide +kernel
noncomputable def q_Arrays_fill_10 (n_p0 : Nat) (x_2 : Int32) (x_3 : Int32) : Nat → (Nat → Int32) → Int32 → Option ((Nat → Int32))
  | 0, _, _ => none
  | n + 1, v_p0, x_4 => pu_br (x_2 ≤ x_4) (some v_p0) (pu_ck (vp_in x_4 n_p0) (pu_nm (upd v_p0 x_4.toNatClampNeg (vp_nar .byte x_3)) (fun a2 => pu_nm (x_4 + (1 : Int32)) (fun t3 => q_Arrays_fill_10 n_p0 x_2 x_3 n a2 t3))))
noncomputable def f_Arrays_fill (n_p0 : Nat) (v_p0 : Nat → Int32) (x_1 : Int32) (x_2 : Int32) (x_3 : Int32) : Option ((Nat → Int32)) :=
  pu_b0 (f_Arrays_rangeCheck (Int32.ofNat n_p0) x_1 x_2) (fun _ => q_Arrays_fill_10 n_p0 x_2 x_3 pu_fu v_p0 x_1)
abbrev rm_Arrays_fill : Room := { frames := 1, cells := 0, slots := 0, locals := 22 }
set_option maxHeartbeats 8000000 in
set_option maxRecDepth 100000 in
theorem c_Arrays_fill (l : Launch) (D : va_G) (cI cJ cB cZ : ClassId) (sz : Nat) (q_p0 : Nat) (n_p0 : Nat) (v_p0 : Nat → Int32) (x_1 : Int32) (x_2 : Int32) (x_3 : Int32) (o_p0 : Nat → Int32) (hf : f_Arrays_fill n_p0 v_p0 x_1 x_2 x_3 = some o_p0) : Met l y_Arrays_fill (.code y_Arrays_fill b_Arrays_fill 5 none :: pu_wA) rm_Arrays_fill (pu_pc D pu_cl (pu_ty cI cJ cB cZ) [.ref q_p0, .int x_1, .int x_2, .int x_3] [(q_p0, .inl (cB, n_p0, .inl v_p0))] sz) (pu_qv D pu_cl (pu_ty cI cJ cB cZ) [(q_p0, .inl (cB, n_p0, .inl v_p0))] [(q_p0, .inl (cB, n_p0, .inl o_p0))] sz) 0 0 (va_A [(q_p0, .inl (cB, n_p0, .inl v_p0))] sz) := by
  refine pu_mtv [.ref q_p0, .int x_1, .int x_2, .int x_3] [(q_p0, .inl (cB, n_p0, .inl v_p0))] [(q_p0, .inl (cB, n_p0, .inl o_p0))] (by decide) (Nat.le_of_ble_eq_true rfl) ?_
  intro p e s m args below meth c A Q ls hx hb hml hts hN hown hK hA hP hD hl hret0
  have hS : va_S A s.heap s.heap [] := va_S.rf
  have hl : lv_has ls 5 [(0, .ref q_p0), (1, .int x_1), (2, .int x_2), (3, .int x_3)] := hl
  have hret : ∀ (pc : Nat) (ls : Array Slot) (H : Heap) (locs : List Loc) (y_0 : Nat → Int32), decode b_Arrays_fill pc = .ok (.return_, 1) → va_P D pu_cl [(q_p0, .inl (cB, n_p0, .inl y_0))] H → va_D A [(q_p0, .inl (cB, n_p0, .inl y_0))] → va_S A s.heap H locs → some y_0 = some o_p0 → W p l e rm_Arrays_fill s m args below meth c H locs 0 0 Q (F0 m pc ls []) := by
    intro pc ls H locs y_0 hd hP hD hS hf
    cases hf
    exact hret0 pc ls H locs hd hP hD hS
  clear hret0
  unfold f_Arrays_fill at hf
  skip
  have lp_10 : ∀ (x_2 : Int32) (x_3 : Int32) (n10 : Nat) (v_p0 : Nat → Int32) (x_4 : Int32) (H : Heap) (locs : List Loc) (ls : Array Slot), va_P D pu_cl [(q_p0, .inl (cB, n_p0, .inl v_p0))] H → va_D A [(q_p0, .inl (cB, n_p0, .inl v_p0))] → va_S A s.heap H locs → lv_has ls 5 [(0, .ref q_p0), (2, .int x_2), (3, .int x_3), (4, .int x_4)] → q_Arrays_fill_10 n_p0 x_2 x_3 n10 v_p0 x_4 = some o_p0 → W p l e rm_Arrays_fill s m args below meth c H locs 0 0 Q (F0 m 10 ls []) := by
    intro x_2 x_3 n10
    induction n10 with
    | zero =>
      intro v_p0 x_4 H locs ls hP hD hS hl hf
      rw [q_Arrays_fill_10] at hf
      cases hf
    | succ n10 ih_10 =>
      intro v_p0 x_4 H locs ls hP hD hS hl hf
      rw [q_Arrays_fill_10] at hf
      refine lv_iload hx hb d_Arrays_fill_10 (lv_at hl 3 rfl) ?_
      refine lv_iload_n hx hb d_Arrays_fill_12 rfl (lv_at hl 1 rfl) ?_
      refine lv_icmp_ge (tgt := 27) hx hb d_Arrays_fill_13 rfl (fun hc => ?_) (fun hc => ?_)
      · have hf := pu_br_pos hf hc
        exact hret _ _ _ _ v_p0 d_Arrays_fill_27 hP hD hS hf
      have hf := pu_br_neg hf hc
      refine lv_aload_n hx hb d_Arrays_fill_16 rfl (lv_at hl 0 rfl) ?_
      refine lv_iload hx hb d_Arrays_fill_17 (lv_at hl 3 rfl) ?_
      refine lv_iload_n hx hb d_Arrays_fill_19 rfl (lv_at hl 2 rfl) ?_
      obtain ⟨hin, hf⟩ := pu_ck_some hf
      obtain ⟨a2, e_a2, hf⟩ := pu_nm_some hf
      refine va_bast hx hb hK hP hD hS 0 2 rfl rfl hin d_Arrays_fill_20 (fun H locs hP hD hS => ?_)
      have hP : va_P D pu_cl [(q_p0, .inl (cB, n_p0, .inl a2))] H := by rw [e_a2]; exact hP
      have hD : va_D A [(q_p0, .inl (cB, n_p0, .inl a2))] := by rw [e_a2]; exact hD
      obtain ⟨t3, e_t3, hf⟩ := pu_nm_some hf
      refine lv_iinc (k := 3) (v := t3) hx hb d_Arrays_fill_21 hl rfl e_t3.symm (by decide) rfl (fun ls hl => ?_)
      have hl : lv_has ls 5 [(4, .int t3), (0, .ref q_p0), (2, .int x_2), (3, .int x_3)] := hl
      refine lv_goto (tgt := 10) hx hb d_Arrays_fill_24 rfl ?_
      exact ih_10 a2 t3 H locs ls hP hD hS (lv_sub hl [1, 2, 3, 0] rfl) hf
  obtain ⟨H, hH⟩ : ∃ H, H = s.heap := ⟨_, rfl⟩
  obtain ⟨locs, hlocs⟩ : ∃ locs : List Loc, locs = [] := ⟨_, rfl⟩
  have hP : va_P D pu_cl [(q_p0, .inl (cB, n_p0, .inl v_p0))] H := by rw [hH]; exact hP
  have hS : va_S A s.heap H locs := by rw [hH, hlocs]; exact hS
  have goal : W p l e rm_Arrays_fill s m args below meth c H locs 0 0 Q (F0 m 0 ls []) := by
    clear hH hlocs
    refine lv_aload_n hx hb d_Arrays_fill_0 rfl (lv_at hl 0 rfl) ?_
    refine va_alen (v := Int32.ofNat n_p0) hx hb hK hP 0 2 rfl rfl rfl d_Arrays_fill_1 ?_
    refine lv_iload_n hx hb d_Arrays_fill_2 rfl (lv_at hl 1 rfl) ?_
    refine lv_iload_n hx hb d_Arrays_fill_3 rfl (lv_at hl 2 rfl) ?_
    obtain ⟨hc, hf⟩ := pu_b0_some hf
    refine cl_v (WC := []) (WC2 := []) (WR := [(q_p0, .inl (cB, n_p0, .inl v_p0))]) (WS2 := [(q_p0, .inl (cB, n_p0, .inl v_p0))]) (pu_rs (pu_in4 _ (List.mem_of_getElem? (i := 43) rfl)) (pu_in4 _ (List.mem_of_getElem? (i := 44) rfl)) (pu_in0 _ (List.mem_of_getElem? (i := 11) rfl)) (pu_in4 _ (List.mem_of_getElem? (i := 45) rfl)) hd_Arrays_rangeCheck (by decide) ⟨rfl, rfl⟩ rfl rfl (Nat.le_of_ble_eq_true rfl) (As := [.int (Int32.ofNat n_p0), .int x_1, .int x_2]) (rest := []) (WC := []) hx hb hml hown hts hN hK hP hD (c_Arrays_rangeCheck l D cI cJ cB cZ H.size (Int32.ofNat n_p0) x_1 x_2 hc) [] rfl rfl hl.1 d_Arrays_fill_4) hP hD hS hA [] [0] [0] rfl rfl rfl (by decide) rfl rfl (fun H locs hP hD hS => ?_)
    refine lv_iload_n hx hb d_Arrays_fill_7 rfl (lv_at hl 1 rfl) ?_
    refine lv_istore hx hb d_Arrays_fill_8 hl (by decide) rfl (fun ls hl => ?_)
    have hl : lv_has ls 5 [(4, .int x_1), (0, .ref q_p0), (1, .int x_1), (2, .int x_2), (3, .int x_3)] := hl
    exact lp_10 x_2 x_3 _ v_p0 x_1 H locs ls hP hD hS (lv_sub hl [1, 3, 4, 0] rfl) hf
  rw [hH, hlocs] at goal
  exact goal
theorem d_Pages_wipe_0 : decode b_Pages_wipe 0 = .ok (.aload_n 0, 1) := by decide +kernel
theorem d_Pages_wipe_1 : decode b_Pages_wipe 1 = .ok (.iload_n 1, 1) := by decide +kernel
theorem d_Pages_wipe_2 : decode b_Pages_wipe 2 = .ok (.iconst 0, 1) := by decide +kernel
theorem d_Pages_wipe_3 : decode b_Pages_wipe 3 = .ok (.invokevirtual 23, 3) := by decide +kernel
theorem d_Pages_wipe_6 : decode b_Pages_wipe 6 = .ok (.ifCond .eq 23, 3) := by decide +kernel
theorem d_Pages_wipe_9 : decode b_Pages_wipe 9 = .ok (.iload_n 1, 1) := by decide +kernel
theorem d_Pages_wipe_10 : decode b_Pages_wipe 10 = .ok (.iconst 1, 1) := by decide +kernel
theorem d_Pages_wipe_11 : decode b_Pages_wipe 11 = .ok (.isub, 1) := by decide +kernel
theorem d_Pages_wipe_12 : decode b_Pages_wipe 12 = .ok (.bipush 64, 2) := by decide +kernel
theorem d_Pages_wipe_14 : decode b_Pages_wipe 14 = .ok (.imul, 1) := by decide +kernel
theorem d_Pages_wipe_15 : decode b_Pages_wipe 15 = .ok (.istore_n 2, 1) := by decide +kernel
theorem d_Pages_wipe_16 : decode b_Pages_wipe 16 = .ok (.aload_n 0, 1) := by decide +kernel
theorem d_Pages_wipe_17 : decode b_Pages_wipe 17 = .ok (.getfield 9, 3) := by decide +kernel
theorem d_Pages_wipe_20 : decode b_Pages_wipe 20 = .ok (.iload_n 2, 1) := by decide +kernel
theorem d_Pages_wipe_21 : decode b_Pages_wipe 21 = .ok (.iload_n 2, 1) := by decide +kernel
theorem d_Pages_wipe_22 : decode b_Pages_wipe 22 = .ok (.bipush 64, 2) := by decide +kernel
theorem d_Pages_wipe_24 : decode b_Pages_wipe 24 = .ok (.iadd, 1) := by decide +kernel
theorem d_Pages_wipe_25 : decode b_Pages_wipe 25 = .ok (.iconst 0, 1) := by decide +kernel
theorem d_Pages_wipe_26 : decode b_Pages_wipe 26 = .ok (.invokestatic 27, 3) := by decide +kernel
theorem d_Pages_wipe_29 : decode b_Pages_wipe 29 = .ok (.return_, 1) := by decide +kernel
noncomputable def f_Pages_wipe (v_count : Int32) (v_bytes : Nat → Int32) (x_1 : Int32) : Option ((Nat → Int32)) :=
  pu_b1 (f_Pages_has v_count x_1 (0 : Int32)) (fun r1 => pu_br (r1 = 0) (some v_bytes) (pu_nm ((x_1 - (1 : Int32)) * (64 : Int32)) (fun t2 => pu_b1 (f_Arrays_fill 1536 v_bytes t2 (t2 + (64 : Int32)) (0 : Int32)) (fun w4 => some w4))))
abbrev rm_Pages_wipe : Room := { frames := 2, cells := 0, slots := 0, locals := 46 }
set_option maxHeartbeats 8000000 in
set_option maxRecDepth 100000 in
theorem c_Pages_wipe (l : Launch) (D : va_G) (cI cJ cB cZ : ClassId) (sz : Nat) (q_this : Nat) (q_bytes : Nat) (v_count : Int32) (v_bytes : Nat → Int32) (x_1 : Int32) (o_bytes : Nat → Int32) (hf : f_Pages_wipe v_count v_bytes x_1 = some o_bytes) : Met l y_Pages_wipe (.code y_Pages_wipe b_Pages_wipe 3 none :: pu_wA) rm_Pages_wipe (pu_pc D pu_cl (pu_ty cI cJ cB cZ) [.ref q_this, .int x_1] [(q_this, .inr (0, [.ref q_bytes, .int v_count])), (q_bytes, .inl (cB, 1536, .inl v_bytes))] sz) (pu_qv D pu_cl (pu_ty cI cJ cB cZ) [(q_this, .inr (0, [.ref q_bytes, .int v_count])), (q_bytes, .inl (cB, 1536, .inl v_bytes))] [(q_this, .inr (0, [.ref q_bytes, .int v_count])), (q_bytes, .inl (cB, 1536, .inl o_bytes))] sz) 0 0 (va_A [(q_this, .inr (0, [.ref q_bytes, .int v_count])), (q_bytes, .inl (cB, 1536, .inl v_bytes))] sz) := by
  refine pu_mtv [.ref q_this, .int x_1] [(q_this, .inr (0, [.ref q_bytes, .int v_count])), (q_bytes, .inl (cB, 1536, .inl v_bytes))] [(q_this, .inr (0, [.ref q_bytes, .int v_count])), (q_bytes, .inl (cB, 1536, .inl o_bytes))] (by decide) (Nat.le_of_ble_eq_true rfl) ?_
  intro p e s m args below meth c A Q ls hx hb hml hts hN hown hK hA hP hD hl hret0
  have hS : va_S A s.heap s.heap [] := va_S.rf
  have hl : lv_has ls 3 [(0, .ref q_this), (1, .int x_1)] := hl
  have hret : ∀ (pc : Nat) (ls : Array Slot) (H : Heap) (locs : List Loc) (y_0 : Nat → Int32), decode b_Pages_wipe pc = .ok (.return_, 1) → va_P D pu_cl [(q_this, .inr (0, [.ref q_bytes, .int v_count])), (q_bytes, .inl (cB, 1536, .inl y_0))] H → va_D A [(q_this, .inr (0, [.ref q_bytes, .int v_count])), (q_bytes, .inl (cB, 1536, .inl y_0))] → va_S A s.heap H locs → some y_0 = some o_bytes → W p l e rm_Pages_wipe s m args below meth c H locs 0 0 Q (F0 m pc ls []) := by
    intro pc ls H locs y_0 hd hP hD hS hf
    cases hf
    exact hret0 pc ls H locs hd hP hD hS
  clear hret0
  unfold f_Pages_wipe at hf
  skip
  obtain ⟨H, hH⟩ : ∃ H, H = s.heap := ⟨_, rfl⟩
  obtain ⟨locs, hlocs⟩ : ∃ locs : List Loc, locs = [] := ⟨_, rfl⟩
  have hP : va_P D pu_cl [(q_this, .inr (0, [.ref q_bytes, .int v_count])), (q_bytes, .inl (cB, 1536, .inl v_bytes))] H := by rw [hH]; exact hP
  have hS : va_S A s.heap H locs := by rw [hH, hlocs]; exact hS
  have goal : W p l e rm_Pages_wipe s m args below meth c H locs 0 0 Q (F0 m 0 ls []) := by
    clear hH hlocs
    refine lv_aload_n hx hb d_Pages_wipe_0 rfl (lv_at hl 0 rfl) ?_
    refine lv_iload_n hx hb d_Pages_wipe_1 rfl (lv_at hl 1 rfl) ?_
    refine lv_iconst (v := 0) hx hb d_Pages_wipe_2 rfl ?_
    obtain ⟨r1, hc, hf⟩ := pu_b1_some hf
    refine cl_i (WC := [(q_this, .inr (0, [.ref q_bytes, .int v_count]))]) (WC2 := [(q_this, .inr (0, [.ref q_bytes, .int v_count]))]) (WR := [(q_bytes, .inl (cB, 1536, .inl v_bytes))]) (WS2 := [(q_this, .inr (0, [.ref q_bytes, .int v_count])), (q_bytes, .inl (cB, 1536, .inl v_bytes))]) (pu_rv (cl := pu_cl) (pu_in2 _ (List.mem_of_getElem? (i := 29) rfl)) (pu_in2 _ (List.mem_of_getElem? (i := 30) rfl)) (pu_in2 _ (List.mem_of_getElem? (i := 31) rfl)) (pu_in0 _ (List.mem_of_getElem? (i := 3) rfl)) (pu_in2 _ (List.mem_of_getElem? (i := 32) rfl)) (ci := 0) rfl hd_Pages_has (by decide) ⟨rfl, rfl⟩ rfl rfl (Nat.le_of_ble_eq_true rfl) rfl (As := [.int x_1, .int (0 : Int32)]) (rest := []) (WC := [(q_this, .inr (0, [.ref q_bytes, .int v_count]))]) hx hb hml hown hts hN hK hP hD (c_Pages_has l D cI cJ cB cZ H.size q_this q_bytes v_count x_1 (0 : Int32) r1 hc) [0] rfl rfl hl.1 d_Pages_wipe_3) hP hD hS hA [0] [1] [1, 0] rfl rfl rfl (by decide) rfl rfl (fun H locs hP hD hS => ?_)
    refine lv_if_eq (tgt := 29) hx hb d_Pages_wipe_6 rfl (fun hc => ?_) (fun hc => ?_)
    · have hf := pu_br_pos hf hc
      exact hret _ _ _ _ v_bytes d_Pages_wipe_29 hP hD hS hf
    have hf := pu_br_neg hf hc
    refine lv_iload_n hx hb d_Pages_wipe_9 rfl (lv_at hl 1 rfl) ?_
    refine lv_iconst (v := 1) hx hb d_Pages_wipe_10 rfl ?_
    refine lv_isub hx hb d_Pages_wipe_11 ?_
    refine lv_bipush (v := 64) hx hb d_Pages_wipe_12 rfl ?_
    refine lv_imul hx hb d_Pages_wipe_14 ?_
    obtain ⟨t2, e_t2, hf⟩ := pu_nm_some hf
    refine pu_ti e_t2 ?_
    refine lv_istore_n hx hb d_Pages_wipe_15 rfl hl (by decide) rfl (fun ls hl => ?_)
    have hl : lv_has ls 3 [(2, .int t2), (0, .ref q_this), (1, .int x_1)] := hl
    refine lv_aload_n hx hb d_Pages_wipe_16 rfl (lv_at hl 1 rfl) ?_
    refine gf_Pages_9 (v := .ref q_bytes) hx hb hts hN hown hK hP 0 rfl rfl d_Pages_wipe_17 ?_
    refine lv_iload_n hx hb d_Pages_wipe_20 rfl (lv_at hl 0 rfl) ?_
    refine lv_iload_n hx hb d_Pages_wipe_21 rfl (lv_at hl 0 rfl) ?_
    refine lv_bipush (v := 64) hx hb d_Pages_wipe_22 rfl ?_
    refine lv_iadd hx hb d_Pages_wipe_24 ?_
    refine lv_iconst (v := 0) hx hb d_Pages_wipe_25 rfl ?_
    obtain ⟨w4, hc, hf⟩ := pu_b1_some hf
    refine cl_v (WC := [(q_bytes, .inl (cB, 1536, .inl v_bytes))]) (WC2 := [(q_bytes, .inl (cB, 1536, .inl w4))]) (WR := [(q_this, .inr (0, [.ref q_bytes, .int v_count]))]) (WS2 := [(q_this, .inr (0, [.ref q_bytes, .int v_count])), (q_bytes, .inl (cB, 1536, .inl w4))]) (pu_rs (pu_in4 _ (List.mem_of_getElem? (i := 40) rfl)) (pu_in4 _ (List.mem_of_getElem? (i := 41) rfl)) (pu_in0 _ (List.mem_of_getElem? (i := 11) rfl)) (pu_in4 _ (List.mem_of_getElem? (i := 42) rfl)) hd_Arrays_fill (by decide) ⟨rfl, rfl⟩ rfl rfl (Nat.le_of_ble_eq_true rfl) (As := [.ref q_bytes, .int t2, .int (t2 + (64 : Int32)), .int (0 : Int32)]) (rest := []) (WC := [(q_bytes, .inl (cB, 1536, .inl v_bytes))]) hx hb hml hown hts hN hK hP hD (c_Arrays_fill l D cI cJ cB cZ H.size q_bytes 1536 v_bytes t2 (t2 + (64 : Int32)) (0 : Int32) w4 hc) [1] rfl rfl hl.1 d_Pages_wipe_26) hP hD hS hA [1] [0] [0, 1] rfl rfl rfl (by decide) rfl rfl (fun H locs hP hD hS => ?_)
    exact hret _ _ _ _ w4 d_Pages_wipe_29 hP hD hS hf
  rw [hH, hlocs] at goal
  exact goal
theorem d_Pages_takePage_0 : decode b_Pages_takePage 0 = .ok (.aload_n 0, 1) := by decide +kernel
theorem d_Pages_takePage_1 : decode b_Pages_takePage 1 = .ok (.iconst 1, 1) := by decide +kernel
theorem d_Pages_takePage_2 : decode b_Pages_takePage 2 = .ok (.iconst 2, 1) := by decide +kernel
theorem d_Pages_takePage_3 : decode b_Pages_takePage 3 = .ok (.invokevirtual 39, 3) := by decide +kernel
theorem d_Pages_takePage_6 : decode b_Pages_takePage 6 = .ok (.istore_n 1, 1) := by decide +kernel
theorem d_Pages_takePage_7 : decode b_Pages_takePage 7 = .ok (.iload_n 1, 1) := by decide +kernel
theorem d_Pages_takePage_8 : decode b_Pages_takePage 8 = .ok (.ifCond .eq 32, 3) := by decide +kernel
theorem d_Pages_takePage_11 : decode b_Pages_takePage 11 = .ok (.aload_n 0, 1) := by decide +kernel
theorem d_Pages_takePage_12 : decode b_Pages_takePage 12 = .ok (.iconst 1, 1) := by decide +kernel
theorem d_Pages_takePage_13 : decode b_Pages_takePage 13 = .ok (.iconst 2, 1) := by decide +kernel
theorem d_Pages_takePage_14 : decode b_Pages_takePage 14 = .ok (.aload_n 0, 1) := by decide +kernel
theorem d_Pages_takePage_15 : decode b_Pages_takePage 15 = .ok (.iload_n 1, 1) := by decide +kernel
theorem d_Pages_takePage_16 : decode b_Pages_takePage 16 = .ok (.iconst 0, 1) := by decide +kernel
theorem d_Pages_takePage_17 : decode b_Pages_takePage 17 = .ok (.invokevirtual 39, 3) := by decide +kernel
theorem d_Pages_takePage_20 : decode b_Pages_takePage 20 = .ok (.invokevirtual 19, 3) := by decide +kernel
theorem d_Pages_takePage_23 : decode b_Pages_takePage 23 = .ok (.aload_n 0, 1) := by decide +kernel
theorem d_Pages_takePage_24 : decode b_Pages_takePage 24 = .ok (.iconst 1, 1) := by decide +kernel
theorem d_Pages_takePage_25 : decode b_Pages_takePage 25 = .ok (.iconst 3, 1) := by decide +kernel
theorem d_Pages_takePage_26 : decode b_Pages_takePage 26 = .ok (.aload_n 0, 1) := by decide +kernel
theorem d_Pages_takePage_27 : decode b_Pages_takePage 27 = .ok (.iconst 1, 1) := by decide +kernel
theorem d_Pages_takePage_28 : decode b_Pages_takePage 28 = .ok (.iconst 3, 1) := by decide +kernel
theorem d_Pages_takePage_29 : decode b_Pages_takePage 29 = .ok (.invokevirtual 39, 3) := by decide +kernel
theorem d_Pages_takePage_32 : decode b_Pages_takePage 32 = .ok (.iconst 1, 1) := by decide +kernel
theorem d_Pages_takePage_33 : decode b_Pages_takePage 33 = .ok (.isub, 1) := by decide +kernel
theorem d_Pages_takePage_34 : decode b_Pages_takePage 34 = .ok (.invokevirtual 19, 3) := by decide +kernel
theorem d_Pages_takePage_37 : decode b_Pages_takePage 37 = .ok (.goto 39, 3) := by decide +kernel
theorem d_Pages_takePage_40 : decode b_Pages_takePage 40 = .ok (.aload_n 0, 1) := by decide +kernel
theorem d_Pages_takePage_41 : decode b_Pages_takePage 41 = .ok (.getfield 15, 3) := by decide +kernel
theorem d_Pages_takePage_44 : decode b_Pages_takePage 44 = .ok (.bipush 24, 2) := by decide +kernel
theorem d_Pages_takePage_46 : decode b_Pages_takePage 46 = .ok (.if_icmp .lt 5, 3) := by decide +kernel
theorem d_Pages_takePage_49 : decode b_Pages_takePage 49 = .ok (.iconst 0, 1) := by decide +kernel
theorem d_Pages_takePage_50 : decode b_Pages_takePage 50 = .ok (.ireturn, 1) := by decide +kernel
theorem d_Pages_takePage_51 : decode b_Pages_takePage 51 = .ok (.aload_n 0, 1) := by decide +kernel
theorem d_Pages_takePage_52 : decode b_Pages_takePage 52 = .ok (.dup, 1) := by decide +kernel
theorem d_Pages_takePage_53 : decode b_Pages_takePage 53 = .ok (.getfield 15, 3) := by decide +kernel
theorem d_Pages_takePage_56 : decode b_Pages_takePage 56 = .ok (.iconst 1, 1) := by decide +kernel
theorem d_Pages_takePage_57 : decode b_Pages_takePage 57 = .ok (.iadd, 1) := by decide +kernel
theorem d_Pages_takePage_58 : decode b_Pages_takePage 58 = .ok (.putfield 15, 3) := by decide +kernel
theorem d_Pages_takePage_61 : decode b_Pages_takePage 61 = .ok (.aload_n 0, 1) := by decide +kernel
theorem d_Pages_takePage_62 : decode b_Pages_takePage 62 = .ok (.getfield 15, 3) := by decide +kernel
theorem d_Pages_takePage_65 : decode b_Pages_takePage 65 = .ok (.istore_n 1, 1) := by decide +kernel
theorem d_Pages_takePage_66 : decode b_Pages_takePage 66 = .ok (.aload_n 0, 1) := by decide +kernel
theorem d_Pages_takePage_67 : decode b_Pages_takePage 67 = .ok (.iconst 1, 1) := by decide +kernel
theorem d_Pages_takePage_68 : decode b_Pages_takePage 68 = .ok (.iconst 1, 1) := by decide +kernel
theorem d_Pages_takePage_69 : decode b_Pages_takePage 69 = .ok (.aload_n 0, 1) := by decide +kernel
theorem d_Pages_takePage_70 : decode b_Pages_takePage 70 = .ok (.getfield 15, 3) := by decide +kernel
theorem d_Pages_takePage_73 : decode b_Pages_takePage 73 = .ok (.invokevirtual 19, 3) := by decide +kernel
theorem d_Pages_takePage_76 : decode b_Pages_takePage 76 = .ok (.aload_n 0, 1) := by decide +kernel
theorem d_Pages_takePage_77 : decode b_Pages_takePage 77 = .ok (.iload_n 1, 1) := by decide +kernel
theorem d_Pages_takePage_78 : decode b_Pages_takePage 78 = .ok (.invokevirtual 43, 3) := by decide +kernel
theorem d_Pages_takePage_81 : decode b_Pages_takePage 81 = .ok (.iload_n 1, 1) := by decide +kernel
theorem d_Pages_takePage_82 : decode b_Pages_takePage 82 = .ok (.ireturn, 1) := by decide +kernel
noncomputable def q_Pages_takePage_76 (v_count : Int32) (v_bytes : Nat → Int32) (x_1 : Int32) : Option (Int32 × Int32 × (Nat → Int32)) :=
  pu_b1 (f_Pages_wipe v_count v_bytes x_1) (fun w6 => some (x_1, v_count, w6))
noncomputable def f_Pages_takePage (v_count : Int32) (v_bytes : Nat → Int32) : Option (Int32 × Int32 × (Nat → Int32)) :=
  pu_b1 (f_Pages_get v_count v_bytes (1 : Int32) (2 : Int32)) (fun r1 => pu_br (r1 = 0) (pu_br (v_count < (24 : Int32)) (pu_nm (v_count + (1 : Int32)) (fun t2 => pu_b1 (f_Pages_put t2 v_bytes (1 : Int32) (1 : Int32) t2) (fun w4 => q_Pages_takePage_76 t2 w4 t2))) (some ((0 : Int32), v_count, v_bytes))) (pu_b1 (f_Pages_get v_count v_bytes r1 (0 : Int32)) (fun r7 => pu_b1 (f_Pages_put v_count v_bytes (1 : Int32) (2 : Int32) r7) (fun w9 => pu_b1 (f_Pages_get v_count w9 (1 : Int32) (3 : Int32)) (fun r10 => pu_b1 (f_Pages_put v_count w9 (1 : Int32) (3 : Int32) (r10 - (1 : Int32))) (fun w12 => q_Pages_takePage_76 v_count w12 r1))))))
abbrev rm_Pages_takePage : Room := { frames := 3, cells := 0, slots := 0, locals := 68 }
set_option maxHeartbeats 8000000 in
set_option maxRecDepth 100000 in
theorem c_Pages_takePage (l : Launch) (D : va_G) (cI cJ cB cZ : ClassId) (sz : Nat) (q_this : Nat) (q_bytes : Nat) (v_count : Int32) (v_bytes : Nat → Int32) (o_r : Int32) (o_count : Int32) (o_bytes : Nat → Int32) (hf : f_Pages_takePage v_count v_bytes = some (o_r, o_count, o_bytes)) : Met l y_Pages_takePage (.code y_Pages_takePage b_Pages_takePage 2 (some .int) :: pu_wA) rm_Pages_takePage (pu_pc D pu_cl (pu_ty cI cJ cB cZ) [.ref q_this] [(q_this, .inr (0, [.ref q_bytes, .int v_count])), (q_bytes, .inl (cB, 1536, .inl v_bytes))] sz) (pu_qi D pu_cl (pu_ty cI cJ cB cZ) [(q_this, .inr (0, [.ref q_bytes, .int v_count])), (q_bytes, .inl (cB, 1536, .inl v_bytes))] [(q_this, .inr (0, [.ref q_bytes, .int o_count])), (q_bytes, .inl (cB, 1536, .inl o_bytes))] sz o_r) 0 0 (va_A [(q_this, .inr (0, [.ref q_bytes, .int v_count])), (q_bytes, .inl (cB, 1536, .inl v_bytes))] sz) := by
  refine pu_mti [.ref q_this] [(q_this, .inr (0, [.ref q_bytes, .int v_count])), (q_bytes, .inl (cB, 1536, .inl v_bytes))] [(q_this, .inr (0, [.ref q_bytes, .int o_count])), (q_bytes, .inl (cB, 1536, .inl o_bytes))] o_r (by decide) (Nat.le_of_ble_eq_true rfl) ?_
  intro p e s m args below meth c A Q ls hx hb hml hts hN hown hK hA hP hD hl hret0
  have hS : va_S A s.heap s.heap [] := va_S.rf
  have hl : lv_has ls 2 [(0, .ref q_this)] := hl
  have hret : ∀ (pc : Nat) (ls : Array Slot) (H : Heap) (locs : List Loc) (y_0 : Int32) (y_1 : Int32) (y_2 : Nat → Int32), decode b_Pages_takePage pc = .ok (.ireturn, 1) → va_P D pu_cl [(q_this, .inr (0, [.ref q_bytes, .int y_1])), (q_bytes, .inl (cB, 1536, .inl y_2))] H → va_D A [(q_this, .inr (0, [.ref q_bytes, .int y_1])), (q_bytes, .inl (cB, 1536, .inl y_2))] → va_S A s.heap H locs → some (y_0, y_1, y_2) = some (o_r, o_count, o_bytes) → W p l e rm_Pages_takePage s m args below meth c H locs 0 0 Q (F0 m pc ls [.int y_0]) := by
    intro pc ls H locs y_0 y_1 y_2 hd hP hD hS hf
    cases hf
    exact hret0 pc ls H locs hd hP hD hS
  clear hret0
  unfold f_Pages_takePage at hf
  skip
  have lb_76 : ∀ (v_count : Int32) (v_bytes : Nat → Int32) (x_1 : Int32) (H : Heap) (locs : List Loc) (ls : Array Slot), va_P D pu_cl [(q_this, .inr (0, [.ref q_bytes, .int v_count])), (q_bytes, .inl (cB, 1536, .inl v_bytes))] H → va_D A [(q_this, .inr (0, [.ref q_bytes, .int v_count])), (q_bytes, .inl (cB, 1536, .inl v_bytes))] → va_S A s.heap H locs → lv_has ls 2 [(0, .ref q_this), (1, .int x_1)] → q_Pages_takePage_76 v_count v_bytes x_1 = some (o_r, o_count, o_bytes) → W p l e rm_Pages_takePage s m args below meth c H locs 0 0 Q (F0 m 76 ls []) := by
    intro v_count v_bytes x_1 H locs ls hP hD hS hl hf
    rw [q_Pages_takePage_76] at hf
    refine lv_aload_n hx hb d_Pages_takePage_76 rfl (lv_at hl 0 rfl) ?_
    refine lv_iload_n hx hb d_Pages_takePage_77 rfl (lv_at hl 1 rfl) ?_
    obtain ⟨w6, hc, hf⟩ := pu_b1_some hf
    refine cl_v (WC := [(q_this, .inr (0, [.ref q_bytes, .int v_count])), (q_bytes, .inl (cB, 1536, .inl v_bytes))]) (WC2 := [(q_this, .inr (0, [.ref q_bytes, .int v_count])), (q_bytes, .inl (cB, 1536, .inl w6))]) (WR := []) (WS2 := [(q_this, .inr (0, [.ref q_bytes, .int v_count])), (q_bytes, .inl (cB, 1536, .inl w6))]) (pu_rv (cl := pu_cl) (pu_in4 _ (List.mem_of_getElem? (i := 36) rfl)) (pu_in4 _ (List.mem_of_getElem? (i := 37) rfl)) (pu_in4 _ (List.mem_of_getElem? (i := 38) rfl)) (pu_in0 _ (List.mem_of_getElem? (i := 3) rfl)) (pu_in4 _ (List.mem_of_getElem? (i := 39) rfl)) (ci := 0) rfl hd_Pages_wipe (by decide) ⟨rfl, rfl⟩ rfl rfl (Nat.le_of_ble_eq_true rfl) rfl (As := [.int x_1]) (rest := []) (WC := [(q_this, .inr (0, [.ref q_bytes, .int v_count])), (q_bytes, .inl (cB, 1536, .inl v_bytes))]) hx hb hml hown hts hN hK hP hD (c_Pages_wipe l D cI cJ cB cZ H.size q_this q_bytes v_count v_bytes x_1 w6 hc) [0, 1] rfl rfl hl.1 d_Pages_takePage_78) hP hD hS hA [0, 1] [] [0, 1] rfl rfl rfl (by decide) rfl rfl (fun H locs hP hD hS => ?_)
    refine lv_iload_n hx hb d_Pages_takePage_81 rfl (lv_at hl 1 rfl) ?_
    exact hret _ _ _ _ x_1 v_count w6 d_Pages_takePage_82 hP hD hS hf
  obtain ⟨H, hH⟩ : ∃ H, H = s.heap := ⟨_, rfl⟩
  obtain ⟨locs, hlocs⟩ : ∃ locs : List Loc, locs = [] := ⟨_, rfl⟩
  have hP : va_P D pu_cl [(q_this, .inr (0, [.ref q_bytes, .int v_count])), (q_bytes, .inl (cB, 1536, .inl v_bytes))] H := by rw [hH]; exact hP
  have hS : va_S A s.heap H locs := by rw [hH, hlocs]; exact hS
  have goal : W p l e rm_Pages_takePage s m args below meth c H locs 0 0 Q (F0 m 0 ls []) := by
    clear hH hlocs
    refine lv_aload_n hx hb d_Pages_takePage_0 rfl (lv_at hl 0 rfl) ?_
    refine lv_iconst (v := 1) hx hb d_Pages_takePage_1 rfl ?_
    refine lv_iconst (v := 2) hx hb d_Pages_takePage_2 rfl ?_
    obtain ⟨r1, hc, hf⟩ := pu_b1_some hf
    refine cl_i (WC := [(q_this, .inr (0, [.ref q_bytes, .int v_count])), (q_bytes, .inl (cB, 1536, .inl v_bytes))]) (WC2 := [(q_this, .inr (0, [.ref q_bytes, .int v_count])), (q_bytes, .inl (cB, 1536, .inl v_bytes))]) (WR := []) (WS2 := [(q_this, .inr (0, [.ref q_bytes, .int v_count])), (q_bytes, .inl (cB, 1536, .inl v_bytes))]) (pu_rv (cl := pu_cl) (pu_in3 _ (List.mem_of_getElem? (i := 37) rfl)) (pu_in3 _ (List.mem_of_getElem? (i := 38) rfl)) (pu_in3 _ (List.mem_of_getElem? (i := 39) rfl)) (pu_in0 _ (List.mem_of_getElem? (i := 3) rfl)) (pu_in3 _ (List.mem_of_getElem? (i := 40) rfl)) (ci := 0) rfl hd_Pages_get (by decide) ⟨rfl, rfl⟩ rfl rfl (Nat.le_of_ble_eq_true rfl) rfl (As := [.int (1 : Int32), .int (2 : Int32)]) (rest := []) (WC := [(q_this, .inr (0, [.ref q_bytes, .int v_count])), (q_bytes, .inl (cB, 1536, .inl v_bytes))]) hx hb hml hown hts hN hK hP hD (c_Pages_get l D cI cJ cB cZ H.size q_this q_bytes v_count v_bytes (1 : Int32) (2 : Int32) r1 hc) [0, 1] rfl rfl hl.1 d_Pages_takePage_3) hP hD hS hA [0, 1] [] [0, 1] rfl rfl rfl (by decide) rfl rfl (fun H locs hP hD hS => ?_)
    refine lv_istore_n hx hb d_Pages_takePage_6 rfl hl (by decide) rfl (fun ls hl => ?_)
    have hl : lv_has ls 2 [(1, .int r1), (0, .ref q_this)] := hl
    refine lv_iload_n hx hb d_Pages_takePage_7 rfl (lv_at hl 0 rfl) ?_
    refine lv_if_eq (tgt := 40) hx hb d_Pages_takePage_8 rfl (fun hc => ?_) (fun hc => ?_)
    · have hf := pu_br_pos hf hc
      refine lv_aload_n hx hb d_Pages_takePage_40 rfl (lv_at hl 1 rfl) ?_
      refine gf_Pages_15 (v := .int v_count) hx hb hts hN hown hK hP 0 rfl rfl d_Pages_takePage_41 ?_
      refine lv_bipush (v := 24) hx hb d_Pages_takePage_44 rfl ?_
      refine lv_icmp_lt (tgt := 51) hx hb d_Pages_takePage_46 rfl (fun hc => ?_) (fun hc => ?_)
      · have hf := pu_br_pos hf hc
        refine lv_aload_n hx hb d_Pages_takePage_51 rfl (lv_at hl 1 rfl) ?_
        refine lv_dup hx hb d_Pages_takePage_52 rfl ?_
        refine gf_Pages_15 (v := .int v_count) hx hb hts hN hown hK hP 0 rfl rfl d_Pages_takePage_53 ?_
        refine lv_iconst (v := 1) hx hb d_Pages_takePage_56 rfl ?_
        refine lv_iadd hx hb d_Pages_takePage_57 ?_
        obtain ⟨t2, e_t2, hf⟩ := pu_nm_some hf
        refine pu_ti e_t2 ?_
        refine pf_Pages_15 (v := .int t2) hx hb hts hN hown hK hP hD hS 0 rfl rfl rfl (Nat.le_of_ble_eq_true rfl) d_Pages_takePage_58 (fun H locs hP hD hS => ?_)
        have hP : va_P D pu_cl [(q_this, .inr (0, [.ref q_bytes, .int t2])), (q_bytes, .inl (cB, 1536, .inl v_bytes))] H := hP
        have hD : va_D A [(q_this, .inr (0, [.ref q_bytes, .int t2])), (q_bytes, .inl (cB, 1536, .inl v_bytes))] := hD
        refine lv_aload_n hx hb d_Pages_takePage_61 rfl (lv_at hl 1 rfl) ?_
        refine gf_Pages_15 (v := .int t2) hx hb hts hN hown hK hP 0 rfl rfl d_Pages_takePage_62 ?_
        refine lv_istore_n hx hb d_Pages_takePage_65 rfl hl (by decide) rfl (fun ls hl => ?_)
        have hl : lv_has ls 2 [(1, .int t2), (0, .ref q_this)] := hl
        refine lv_aload_n hx hb d_Pages_takePage_66 rfl (lv_at hl 1 rfl) ?_
        refine lv_iconst (v := 1) hx hb d_Pages_takePage_67 rfl ?_
        refine lv_iconst (v := 1) hx hb d_Pages_takePage_68 rfl ?_
        refine lv_aload_n hx hb d_Pages_takePage_69 rfl (lv_at hl 1 rfl) ?_
        refine gf_Pages_15 (v := .int t2) hx hb hts hN hown hK hP 0 rfl rfl d_Pages_takePage_70 ?_
        obtain ⟨w4, hc, hf⟩ := pu_b1_some hf
        refine cl_v (WC := [(q_this, .inr (0, [.ref q_bytes, .int t2])), (q_bytes, .inl (cB, 1536, .inl v_bytes))]) (WC2 := [(q_this, .inr (0, [.ref q_bytes, .int t2])), (q_bytes, .inl (cB, 1536, .inl w4))]) (WR := []) (WS2 := [(q_this, .inr (0, [.ref q_bytes, .int t2])), (q_bytes, .inl (cB, 1536, .inl w4))]) (pu_rv (cl := pu_cl) (pu_in2 _ (List.mem_of_getElem? (i := 25) rfl)) (pu_in2 _ (List.mem_of_getElem? (i := 26) rfl)) (pu_in2 _ (List.mem_of_getElem? (i := 27) rfl)) (pu_in0 _ (List.mem_of_getElem? (i := 3) rfl)) (pu_in2 _ (List.mem_of_getElem? (i := 28) rfl)) (ci := 0) rfl hd_Pages_put (by decide) ⟨rfl, rfl⟩ rfl rfl (Nat.le_of_ble_eq_true rfl) rfl (As := [.int (1 : Int32), .int (1 : Int32), .int t2]) (rest := []) (WC := [(q_this, .inr (0, [.ref q_bytes, .int t2])), (q_bytes, .inl (cB, 1536, .inl v_bytes))]) hx hb hml hown hts hN hK hP hD (c_Pages_put l D cI cJ cB cZ H.size q_this q_bytes t2 v_bytes (1 : Int32) (1 : Int32) t2 w4 hc) [0, 1] rfl rfl hl.1 d_Pages_takePage_73) hP hD hS hA [0, 1] [] [0, 1] rfl rfl rfl (by decide) rfl rfl (fun H locs hP hD hS => ?_)
        exact lb_76 t2 w4 t2 H locs ls hP hD hS (lv_sub hl [1, 0] rfl) hf
      have hf := pu_br_neg hf hc
      refine lv_iconst (v := 0) hx hb d_Pages_takePage_49 rfl ?_
      exact hret _ _ _ _ (0 : Int32) v_count v_bytes d_Pages_takePage_50 hP hD hS hf
    have hf := pu_br_neg hf hc
    refine lv_aload_n hx hb d_Pages_takePage_11 rfl (lv_at hl 1 rfl) ?_
    refine lv_iconst (v := 1) hx hb d_Pages_takePage_12 rfl ?_
    refine lv_iconst (v := 2) hx hb d_Pages_takePage_13 rfl ?_
    refine lv_aload_n hx hb d_Pages_takePage_14 rfl (lv_at hl 1 rfl) ?_
    refine lv_iload_n hx hb d_Pages_takePage_15 rfl (lv_at hl 0 rfl) ?_
    refine lv_iconst (v := 0) hx hb d_Pages_takePage_16 rfl ?_
    obtain ⟨r7, hc, hf⟩ := pu_b1_some hf
    refine cl_i (WC := [(q_this, .inr (0, [.ref q_bytes, .int v_count])), (q_bytes, .inl (cB, 1536, .inl v_bytes))]) (WC2 := [(q_this, .inr (0, [.ref q_bytes, .int v_count])), (q_bytes, .inl (cB, 1536, .inl v_bytes))]) (WR := []) (WS2 := [(q_this, .inr (0, [.ref q_bytes, .int v_count])), (q_bytes, .inl (cB, 1536, .inl v_bytes))]) (pu_rv (cl := pu_cl) (pu_in3 _ (List.mem_of_getElem? (i := 37) rfl)) (pu_in3 _ (List.mem_of_getElem? (i := 38) rfl)) (pu_in3 _ (List.mem_of_getElem? (i := 39) rfl)) (pu_in0 _ (List.mem_of_getElem? (i := 3) rfl)) (pu_in3 _ (List.mem_of_getElem? (i := 40) rfl)) (ci := 0) rfl hd_Pages_get (by decide) ⟨rfl, rfl⟩ rfl rfl (Nat.le_of_ble_eq_true rfl) rfl (As := [.int r1, .int (0 : Int32)]) (rest := [.int (2 : Int32), .int (1 : Int32), .ref q_this]) (WC := [(q_this, .inr (0, [.ref q_bytes, .int v_count])), (q_bytes, .inl (cB, 1536, .inl v_bytes))]) hx hb hml hown hts hN hK hP hD (c_Pages_get l D cI cJ cB cZ H.size q_this q_bytes v_count v_bytes r1 (0 : Int32) r7 hc) [0, 1] rfl rfl hl.1 d_Pages_takePage_17) hP hD hS hA [0, 1] [] [0, 1] rfl rfl rfl (by decide) rfl rfl (fun H locs hP hD hS => ?_)
    obtain ⟨w9, hc, hf⟩ := pu_b1_some hf
    refine cl_v (WC := [(q_this, .inr (0, [.ref q_bytes, .int v_count])), (q_bytes, .inl (cB, 1536, .inl v_bytes))]) (WC2 := [(q_this, .inr (0, [.ref q_bytes, .int v_count])), (q_bytes, .inl (cB, 1536, .inl w9))]) (WR := []) (WS2 := [(q_this, .inr (0, [.ref q_bytes, .int v_count])), (q_bytes, .inl (cB, 1536, .inl w9))]) (pu_rv (cl := pu_cl) (pu_in2 _ (List.mem_of_getElem? (i := 25) rfl)) (pu_in2 _ (List.mem_of_getElem? (i := 26) rfl)) (pu_in2 _ (List.mem_of_getElem? (i := 27) rfl)) (pu_in0 _ (List.mem_of_getElem? (i := 3) rfl)) (pu_in2 _ (List.mem_of_getElem? (i := 28) rfl)) (ci := 0) rfl hd_Pages_put (by decide) ⟨rfl, rfl⟩ rfl rfl (Nat.le_of_ble_eq_true rfl) rfl (As := [.int (1 : Int32), .int (2 : Int32), .int r7]) (rest := []) (WC := [(q_this, .inr (0, [.ref q_bytes, .int v_count])), (q_bytes, .inl (cB, 1536, .inl v_bytes))]) hx hb hml hown hts hN hK hP hD (c_Pages_put l D cI cJ cB cZ H.size q_this q_bytes v_count v_bytes (1 : Int32) (2 : Int32) r7 w9 hc) [0, 1] rfl rfl hl.1 d_Pages_takePage_20) hP hD hS hA [0, 1] [] [0, 1] rfl rfl rfl (by decide) rfl rfl (fun H locs hP hD hS => ?_)
    refine lv_aload_n hx hb d_Pages_takePage_23 rfl (lv_at hl 1 rfl) ?_
    refine lv_iconst (v := 1) hx hb d_Pages_takePage_24 rfl ?_
    refine lv_iconst (v := 3) hx hb d_Pages_takePage_25 rfl ?_
    refine lv_aload_n hx hb d_Pages_takePage_26 rfl (lv_at hl 1 rfl) ?_
    refine lv_iconst (v := 1) hx hb d_Pages_takePage_27 rfl ?_
    refine lv_iconst (v := 3) hx hb d_Pages_takePage_28 rfl ?_
    obtain ⟨r10, hc, hf⟩ := pu_b1_some hf
    refine cl_i (WC := [(q_this, .inr (0, [.ref q_bytes, .int v_count])), (q_bytes, .inl (cB, 1536, .inl w9))]) (WC2 := [(q_this, .inr (0, [.ref q_bytes, .int v_count])), (q_bytes, .inl (cB, 1536, .inl w9))]) (WR := []) (WS2 := [(q_this, .inr (0, [.ref q_bytes, .int v_count])), (q_bytes, .inl (cB, 1536, .inl w9))]) (pu_rv (cl := pu_cl) (pu_in3 _ (List.mem_of_getElem? (i := 37) rfl)) (pu_in3 _ (List.mem_of_getElem? (i := 38) rfl)) (pu_in3 _ (List.mem_of_getElem? (i := 39) rfl)) (pu_in0 _ (List.mem_of_getElem? (i := 3) rfl)) (pu_in3 _ (List.mem_of_getElem? (i := 40) rfl)) (ci := 0) rfl hd_Pages_get (by decide) ⟨rfl, rfl⟩ rfl rfl (Nat.le_of_ble_eq_true rfl) rfl (As := [.int (1 : Int32), .int (3 : Int32)]) (rest := [.int (3 : Int32), .int (1 : Int32), .ref q_this]) (WC := [(q_this, .inr (0, [.ref q_bytes, .int v_count])), (q_bytes, .inl (cB, 1536, .inl w9))]) hx hb hml hown hts hN hK hP hD (c_Pages_get l D cI cJ cB cZ H.size q_this q_bytes v_count w9 (1 : Int32) (3 : Int32) r10 hc) [0, 1] rfl rfl hl.1 d_Pages_takePage_29) hP hD hS hA [0, 1] [] [0, 1] rfl rfl rfl (by decide) rfl rfl (fun H locs hP hD hS => ?_)
    refine lv_iconst (v := 1) hx hb d_Pages_takePage_32 rfl ?_
    refine lv_isub hx hb d_Pages_takePage_33 ?_
    obtain ⟨w12, hc, hf⟩ := pu_b1_some hf
    refine cl_v (WC := [(q_this, .inr (0, [.ref q_bytes, .int v_count])), (q_bytes, .inl (cB, 1536, .inl w9))]) (WC2 := [(q_this, .inr (0, [.ref q_bytes, .int v_count])), (q_bytes, .inl (cB, 1536, .inl w12))]) (WR := []) (WS2 := [(q_this, .inr (0, [.ref q_bytes, .int v_count])), (q_bytes, .inl (cB, 1536, .inl w12))]) (pu_rv (cl := pu_cl) (pu_in2 _ (List.mem_of_getElem? (i := 25) rfl)) (pu_in2 _ (List.mem_of_getElem? (i := 26) rfl)) (pu_in2 _ (List.mem_of_getElem? (i := 27) rfl)) (pu_in0 _ (List.mem_of_getElem? (i := 3) rfl)) (pu_in2 _ (List.mem_of_getElem? (i := 28) rfl)) (ci := 0) rfl hd_Pages_put (by decide) ⟨rfl, rfl⟩ rfl rfl (Nat.le_of_ble_eq_true rfl) rfl (As := [.int (1 : Int32), .int (3 : Int32), .int (r10 - (1 : Int32))]) (rest := []) (WC := [(q_this, .inr (0, [.ref q_bytes, .int v_count])), (q_bytes, .inl (cB, 1536, .inl w9))]) hx hb hml hown hts hN hK hP hD (c_Pages_put l D cI cJ cB cZ H.size q_this q_bytes v_count w9 (1 : Int32) (3 : Int32) (r10 - (1 : Int32)) w12 hc) [0, 1] rfl rfl hl.1 d_Pages_takePage_34) hP hD hS hA [0, 1] [] [0, 1] rfl rfl rfl (by decide) rfl rfl (fun H locs hP hD hS => ?_)
    refine lv_goto (tgt := 76) hx hb d_Pages_takePage_37 rfl ?_
    exact lb_76 v_count w12 r1 H locs ls hP hD hS (lv_sub hl [1, 0] rfl) hf
  rw [hH, hlocs] at goal
  exact goal
theorem d_Tree_writeChain_0 : decode b_Tree_writeChain 0 = .ok (.iconst 0, 1) := by decide +kernel
theorem d_Tree_writeChain_1 : decode b_Tree_writeChain 1 = .ok (.istore_n 1, 1) := by decide +kernel
theorem d_Tree_writeChain_2 : decode b_Tree_writeChain 2 = .ok (.iconst 0, 1) := by decide +kernel
theorem d_Tree_writeChain_3 : decode b_Tree_writeChain 3 = .ok (.istore_n 2, 1) := by decide +kernel
theorem d_Tree_writeChain_4 : decode b_Tree_writeChain 4 = .ok (.bipush 16, 2) := by decide +kernel
theorem d_Tree_writeChain_6 : decode b_Tree_writeChain 6 = .ok (.istore_n 3, 1) := by decide +kernel
theorem d_Tree_writeChain_7 : decode b_Tree_writeChain 7 = .ok (.iconst 0, 1) := by decide +kernel
theorem d_Tree_writeChain_8 : decode b_Tree_writeChain 8 = .ok (.istore 4, 2) := by decide +kernel
theorem d_Tree_writeChain_10 : decode b_Tree_writeChain 10 = .ok (.iload 4, 2) := by decide +kernel
theorem d_Tree_writeChain_12 : decode b_Tree_writeChain 12 = .ok (.aload_n 0, 1) := by decide +kernel
theorem d_Tree_writeChain_13 : decode b_Tree_writeChain 13 = .ok (.getfield 38, 3) := by decide +kernel
theorem d_Tree_writeChain_16 : decode b_Tree_writeChain 16 = .ok (.getfield 83, 3) := by decide +kernel
theorem d_Tree_writeChain_19 : decode b_Tree_writeChain 19 = .ok (.invokestatic 103, 3) := by decide +kernel
theorem d_Tree_writeChain_22 : decode b_Tree_writeChain 22 = .ok (.if_icmp .ge 106, 3) := by decide +kernel
theorem d_Tree_writeChain_25 : decode b_Tree_writeChain 25 = .ok (.aload_n 0, 1) := by decide +kernel
theorem d_Tree_writeChain_26 : decode b_Tree_writeChain 26 = .ok (.getfield 30, 3) := by decide +kernel
theorem d_Tree_writeChain_29 : decode b_Tree_writeChain 29 = .ok (.invokevirtual 106, 3) := by decide +kernel
theorem d_Tree_writeChain_32 : decode b_Tree_writeChain 32 = .ok (.istore 5, 2) := by decide +kernel
theorem d_Tree_writeChain_34 : decode b_Tree_writeChain 34 = .ok (.iload 5, 2) := by decide +kernel
theorem d_Tree_writeChain_36 : decode b_Tree_writeChain 36 = .ok (.ifCond .ne 5, 3) := by decide +kernel
theorem d_Tree_writeChain_39 : decode b_Tree_writeChain 39 = .ok (.iconst 0, 1) := by decide +kernel
theorem d_Tree_writeChain_40 : decode b_Tree_writeChain 40 = .ok (.ireturn, 1) := by decide +kernel
theorem d_Tree_writeChain_41 : decode b_Tree_writeChain 41 = .ok (.iload_n 2, 1) := by decide +kernel
theorem d_Tree_writeChain_42 : decode b_Tree_writeChain 42 = .ok (.ifCond .ne 9, 3) := by decide +kernel
theorem d_Tree_writeChain_45 : decode b_Tree_writeChain 45 = .ok (.iload 5, 2) := by decide +kernel
theorem d_Tree_writeChain_47 : decode b_Tree_writeChain 47 = .ok (.istore_n 1, 1) := by decide +kernel
theorem d_Tree_writeChain_48 : decode b_Tree_writeChain 48 = .ok (.goto 14, 3) := by decide +kernel
theorem d_Tree_writeChain_51 : decode b_Tree_writeChain 51 = .ok (.aload_n 0, 1) := by decide +kernel
theorem d_Tree_writeChain_52 : decode b_Tree_writeChain 52 = .ok (.getfield 30, 3) := by decide +kernel
theorem d_Tree_writeChain_55 : decode b_Tree_writeChain 55 = .ok (.iload_n 2, 1) := by decide +kernel
theorem d_Tree_writeChain_56 : decode b_Tree_writeChain 56 = .ok (.iconst 0, 1) := by decide +kernel
theorem d_Tree_writeChain_57 : decode b_Tree_writeChain 57 = .ok (.iload 5, 2) := by decide +kernel
theorem d_Tree_writeChain_59 : decode b_Tree_writeChain 59 = .ok (.invokevirtual 109, 3) := by decide +kernel
theorem d_Tree_writeChain_62 : decode b_Tree_writeChain 62 = .ok (.iconst 1, 1) := by decide +kernel
theorem d_Tree_writeChain_63 : decode b_Tree_writeChain 63 = .ok (.istore 6, 2) := by decide +kernel
theorem d_Tree_writeChain_65 : decode b_Tree_writeChain 65 = .ok (.iload 6, 2) := by decide +kernel
theorem d_Tree_writeChain_67 : decode b_Tree_writeChain 67 = .ok (.bipush 63, 2) := by decide +kernel
theorem d_Tree_writeChain_69 : decode b_Tree_writeChain 69 = .ok (.if_icmp .gt 50, 3) := by decide +kernel
theorem d_Tree_writeChain_72 : decode b_Tree_writeChain 72 = .ok (.iload_n 3, 1) := by decide +kernel
theorem d_Tree_writeChain_73 : decode b_Tree_writeChain 73 = .ok (.aload_n 0, 1) := by decide +kernel
theorem d_Tree_writeChain_74 : decode b_Tree_writeChain 74 = .ok (.getfield 38, 3) := by decide +kernel
theorem d_Tree_writeChain_77 : decode b_Tree_writeChain 77 = .ok (.getfield 83, 3) := by decide +kernel
theorem d_Tree_writeChain_80 : decode b_Tree_writeChain 80 = .ok (.if_icmp .ge 39, 3) := by decide +kernel
theorem d_Tree_writeChain_83 : decode b_Tree_writeChain 83 = .ok (.iload_n 3, 1) := by decide +kernel
theorem d_Tree_writeChain_84 : decode b_Tree_writeChain 84 = .ok (.sipush 307, 3) := by decide +kernel
theorem d_Tree_writeChain_87 : decode b_Tree_writeChain 87 = .ok (.if_icmp .ge 32, 3) := by decide +kernel
theorem d_Tree_writeChain_90 : decode b_Tree_writeChain 90 = .ok (.aload_n 0, 1) := by decide +kernel
theorem d_Tree_writeChain_91 : decode b_Tree_writeChain 91 = .ok (.getfield 30, 3) := by decide +kernel
theorem d_Tree_writeChain_94 : decode b_Tree_writeChain 94 = .ok (.iload 5, 2) := by decide +kernel
theorem d_Tree_writeChain_96 : decode b_Tree_writeChain 96 = .ok (.iload 6, 2) := by decide +kernel
theorem d_Tree_writeChain_98 : decode b_Tree_writeChain 98 = .ok (.aload_n 0, 1) := by decide +kernel
theorem d_Tree_writeChain_99 : decode b_Tree_writeChain 99 = .ok (.getfield 38, 3) := by decide +kernel
theorem d_Tree_writeChain_102 : decode b_Tree_writeChain 102 = .ok (.getfield 113, 3) := by decide +kernel
theorem d_Tree_writeChain_105 : decode b_Tree_writeChain 105 = .ok (.iload_n 3, 1) := by decide +kernel
theorem d_Tree_writeChain_106 : decode b_Tree_writeChain 106 = .ok (.baload, 1) := by decide +kernel
theorem d_Tree_writeChain_107 : decode b_Tree_writeChain 107 = .ok (.invokevirtual 109, 3) := by decide +kernel
theorem d_Tree_writeChain_110 : decode b_Tree_writeChain 110 = .ok (.iinc 3 1, 3) := by decide +kernel
theorem d_Tree_writeChain_113 : decode b_Tree_writeChain 113 = .ok (.iinc 6 1, 3) := by decide +kernel
theorem d_Tree_writeChain_116 : decode b_Tree_writeChain 116 = .ok (.goto (-51), 3) := by decide +kernel
theorem d_Tree_writeChain_119 : decode b_Tree_writeChain 119 = .ok (.iload 5, 2) := by decide +kernel
theorem d_Tree_writeChain_121 : decode b_Tree_writeChain 121 = .ok (.istore_n 2, 1) := by decide +kernel
theorem d_Tree_writeChain_122 : decode b_Tree_writeChain 122 = .ok (.iinc 4 1, 3) := by decide +kernel
theorem d_Tree_writeChain_125 : decode b_Tree_writeChain 125 = .ok (.goto (-115), 3) := by decide +kernel
theorem d_Tree_writeChain_128 : decode b_Tree_writeChain 128 = .ok (.iload_n 1, 1) := by decide +kernel
theorem d_Tree_writeChain_129 : decode b_Tree_writeChain 129 = .ok (.ireturn, 1) := by decide +kernel
noncomputable def q_Tree_writeChain_119 (kb : Int32 → (Nat → Int32) → Int32 → Int32 → Int32 → Int32 → Option (Int32 × Int32 × (Nat → Int32))) (v_row_length : Int32) (v_row_bytes : Nat → Int32) (v_pages_count : Int32) (v_pages_bytes : Nat → Int32) (x_1 : Int32) (x_3 : Int32) (x_4 : Int32) (x_5 : Int32) : Option (Int32 × Int32 × (Nat → Int32)) :=
  pu_nm (x_4 + (1 : Int32)) (fun t7 => kb v_pages_count v_pages_bytes x_1 x_5 x_3 t7)
noncomputable def q_Tree_writeChain_65 (kx_119 : (Nat → Int32) → Int32 → Option (Int32 × Int32 × (Nat → Int32))) (v_row_length : Int32) (v_row_bytes : Nat → Int32) (v_pages_count : Int32) (x_1 : Int32) (x_4 : Int32) (x_5 : Int32) : Nat → (Nat → Int32) → Int32 → Int32 → Option (Int32 × Int32 × (Nat → Int32))
  | 0, _, _, _ => none
  | n + 1, v_pages_bytes, x_3, x_6 => pu_br ((63 : Int32) < x_6) (kx_119 v_pages_bytes x_3) (pu_br (v_row_length ≤ x_3) (kx_119 v_pages_bytes x_3) (pu_br ((307 : Int32) ≤ x_3) (kx_119 v_pages_bytes x_3) (pu_ck (vp_in x_3 307) (pu_b1 (f_Pages_put v_pages_count v_pages_bytes x_5 x_6 (v_row_bytes x_3.toNatClampNeg)) (fun w9 => pu_nm (x_3 + (1 : Int32)) (fun t10 => pu_nm (x_6 + (1 : Int32)) (fun t11 => q_Tree_writeChain_65 kx_119 v_row_length v_row_bytes v_pages_count x_1 x_4 x_5 n w9 t10 t11)))))))
noncomputable def q_Tree_writeChain_62 (kb : Int32 → (Nat → Int32) → Int32 → Int32 → Int32 → Int32 → Option (Int32 × Int32 × (Nat → Int32))) (v_row_length : Int32) (v_row_bytes : Nat → Int32) (v_pages_count : Int32) (v_pages_bytes : Nat → Int32) (x_1 : Int32) (x_3 : Int32) (x_4 : Int32) (x_5 : Int32) : Option (Int32 × Int32 × (Nat → Int32)) :=
  q_Tree_writeChain_65 (fun v_pages_bytes x_3 => q_Tree_writeChain_119 kb v_row_length v_row_bytes v_pages_count v_pages_bytes x_1 x_3 x_4 x_5) v_row_length v_row_bytes v_pages_count x_1 x_4 x_5 pu_fu v_pages_bytes x_3 (1 : Int32)
noncomputable def q_Tree_writeChain_10 (v_row_length : Int32) (v_row_bytes : Nat → Int32) : Nat → Int32 → (Nat → Int32) → Int32 → Int32 → Int32 → Int32 → Option (Int32 × Int32 × (Nat → Int32))
  | 0, _, _, _, _, _, _ => none
  | n + 1, v_pages_count, v_pages_bytes, x_1, x_2, x_3, x_4 => pu_b1 (f_RF_chainPages v_row_length) (fun r1 => pu_br (r1 ≤ x_4) (some (x_1, v_pages_count, v_pages_bytes)) (pu_b3 (f_Pages_takePage v_pages_count v_pages_bytes) (fun r2 w3 w4 => pu_br (r2 = 0) (some ((0 : Int32), w3, w4)) (pu_br (x_2 = 0) (q_Tree_writeChain_62 (q_Tree_writeChain_10 v_row_length v_row_bytes n) v_row_length v_row_bytes w3 w4 r2 x_3 x_4 r2) (pu_b1 (f_Pages_put w3 w4 x_2 (0 : Int32) r2) (fun w6 => q_Tree_writeChain_62 (q_Tree_writeChain_10 v_row_length v_row_bytes n) v_row_length v_row_bytes w3 w6 x_1 x_3 x_4 r2))))))
noncomputable def f_Tree_writeChain (v_row_length : Int32) (v_row_bytes : Nat → Int32) (v_pages_count : Int32) (v_pages_bytes : Nat → Int32) : Option (Int32 × Int32 × (Nat → Int32)) :=
  q_Tree_writeChain_10 v_row_length v_row_bytes pu_fu v_pages_count v_pages_bytes (0 : Int32) (0 : Int32) (16 : Int32) (0 : Int32)
abbrev rm_Tree_writeChain : Room := { frames := 4, cells := 0, slots := 0, locals := 89 }
set_option maxHeartbeats 8000000 in
set_option maxRecDepth 100000 in
theorem c_Tree_writeChain (l : Launch) (D : va_G) (cI cJ cB cZ : ClassId) (sz : Nat) (q_this : Nat) (q_pages : Nat) (q_node : Nat) (q_row : Nat) (q_path : Nat) (q_slots : Nat) (q_cell : Nat) (q_waiting : Nat) (q_leaves : Nat) (q_pages_bytes : Nat) (q_row_bytes : Nat) (q_row_codes : Nat) (q_row_starts : Nat) (v_depth : Int32) (v_slot : Int32) (v_cellSize : Int32) (v_pages_count : Int32) (v_pages_bytes : Nat → Int32) (v_row_length : Int32) (v_row_count : Int32) (v_row_bytes : Nat → Int32) (o_r : Int32) (o_pages_count : Int32) (o_pages_bytes : Nat → Int32) (hf : f_Tree_writeChain v_row_length v_row_bytes v_pages_count v_pages_bytes = some (o_r, o_pages_count, o_pages_bytes)) : Met l y_Tree_writeChain (.code y_Tree_writeChain b_Tree_writeChain 7 (some .int) :: pu_wA) rm_Tree_writeChain (pu_pc D pu_cl (pu_ty cI cJ cB cZ) [.ref q_this] [(q_this, .inr (5, [.ref q_pages, .ref q_node, .ref q_row, .ref q_path, .ref q_slots, .int v_depth, .int v_slot, .ref q_cell, .int v_cellSize, .ref q_waiting, .ref q_leaves])), (q_pages, .inr (0, [.ref q_pages_bytes, .int v_pages_count])), (q_pages_bytes, .inl (cB, 1536, .inl v_pages_bytes)), (q_row, .inr (2, [.ref q_row_bytes, .int v_row_length, .ref q_row_codes, .ref q_row_starts, .int v_row_count])), (q_row_bytes, .inl (cB, 307, .inl v_row_bytes))] sz) (pu_qi D pu_cl (pu_ty cI cJ cB cZ) [(q_this, .inr (5, [.ref q_pages, .ref q_node, .ref q_row, .ref q_path, .ref q_slots, .int v_depth, .int v_slot, .ref q_cell, .int v_cellSize, .ref q_waiting, .ref q_leaves])), (q_pages, .inr (0, [.ref q_pages_bytes, .int v_pages_count])), (q_pages_bytes, .inl (cB, 1536, .inl v_pages_bytes)), (q_row, .inr (2, [.ref q_row_bytes, .int v_row_length, .ref q_row_codes, .ref q_row_starts, .int v_row_count])), (q_row_bytes, .inl (cB, 307, .inl v_row_bytes))] [(q_this, .inr (5, [.ref q_pages, .ref q_node, .ref q_row, .ref q_path, .ref q_slots, .int v_depth, .int v_slot, .ref q_cell, .int v_cellSize, .ref q_waiting, .ref q_leaves])), (q_pages, .inr (0, [.ref q_pages_bytes, .int o_pages_count])), (q_pages_bytes, .inl (cB, 1536, .inl o_pages_bytes)), (q_row, .inr (2, [.ref q_row_bytes, .int v_row_length, .ref q_row_codes, .ref q_row_starts, .int v_row_count])), (q_row_bytes, .inl (cB, 307, .inl v_row_bytes))] sz o_r) 0 0 (va_A [(q_this, .inr (5, [.ref q_pages, .ref q_node, .ref q_row, .ref q_path, .ref q_slots, .int v_depth, .int v_slot, .ref q_cell, .int v_cellSize, .ref q_waiting, .ref q_leaves])), (q_pages, .inr (0, [.ref q_pages_bytes, .int v_pages_count])), (q_pages_bytes, .inl (cB, 1536, .inl v_pages_bytes)), (q_row, .inr (2, [.ref q_row_bytes, .int v_row_length, .ref q_row_codes, .ref q_row_starts, .int v_row_count])), (q_row_bytes, .inl (cB, 307, .inl v_row_bytes))] sz) := by
  refine pu_mti [.ref q_this] [(q_this, .inr (5, [.ref q_pages, .ref q_node, .ref q_row, .ref q_path, .ref q_slots, .int v_depth, .int v_slot, .ref q_cell, .int v_cellSize, .ref q_waiting, .ref q_leaves])), (q_pages, .inr (0, [.ref q_pages_bytes, .int v_pages_count])), (q_pages_bytes, .inl (cB, 1536, .inl v_pages_bytes)), (q_row, .inr (2, [.ref q_row_bytes, .int v_row_length, .ref q_row_codes, .ref q_row_starts, .int v_row_count])), (q_row_bytes, .inl (cB, 307, .inl v_row_bytes))] [(q_this, .inr (5, [.ref q_pages, .ref q_node, .ref q_row, .ref q_path, .ref q_slots, .int v_depth, .int v_slot, .ref q_cell, .int v_cellSize, .ref q_waiting, .ref q_leaves])), (q_pages, .inr (0, [.ref q_pages_bytes, .int o_pages_count])), (q_pages_bytes, .inl (cB, 1536, .inl o_pages_bytes)), (q_row, .inr (2, [.ref q_row_bytes, .int v_row_length, .ref q_row_codes, .ref q_row_starts, .int v_row_count])), (q_row_bytes, .inl (cB, 307, .inl v_row_bytes))] o_r (by decide) (Nat.le_of_ble_eq_true rfl) ?_
  intro p e s m args below meth c A Q ls hx hb hml hts hN hown hK hA hP hD hl hret0
  have hS : va_S A s.heap s.heap [] := va_S.rf
  have hl : lv_has ls 7 [(0, .ref q_this)] := hl
  have hret : ∀ (pc : Nat) (ls : Array Slot) (H : Heap) (locs : List Loc) (y_0 : Int32) (y_1 : Int32) (y_2 : Nat → Int32), decode b_Tree_writeChain pc = .ok (.ireturn, 1) → va_P D pu_cl [(q_this, .inr (5, [.ref q_pages, .ref q_node, .ref q_row, .ref q_path, .ref q_slots, .int v_depth, .int v_slot, .ref q_cell, .int v_cellSize, .ref q_waiting, .ref q_leaves])), (q_pages, .inr (0, [.ref q_pages_bytes, .int y_1])), (q_pages_bytes, .inl (cB, 1536, .inl y_2)), (q_row, .inr (2, [.ref q_row_bytes, .int v_row_length, .ref q_row_codes, .ref q_row_starts, .int v_row_count])), (q_row_bytes, .inl (cB, 307, .inl v_row_bytes))] H → va_D A [(q_this, .inr (5, [.ref q_pages, .ref q_node, .ref q_row, .ref q_path, .ref q_slots, .int v_depth, .int v_slot, .ref q_cell, .int v_cellSize, .ref q_waiting, .ref q_leaves])), (q_pages, .inr (0, [.ref q_pages_bytes, .int y_1])), (q_pages_bytes, .inl (cB, 1536, .inl y_2)), (q_row, .inr (2, [.ref q_row_bytes, .int v_row_length, .ref q_row_codes, .ref q_row_starts, .int v_row_count])), (q_row_bytes, .inl (cB, 307, .inl v_row_bytes))] → va_S A s.heap H locs → some (y_0, y_1, y_2) = some (o_r, o_pages_count, o_pages_bytes) → W p l e rm_Tree_writeChain s m args below meth c H locs 0 0 Q (F0 m pc ls [.int y_0]) := by
    intro pc ls H locs y_0 y_1 y_2 hd hP hD hS hf
    cases hf
    exact hret0 pc ls H locs hd hP hD hS
  clear hret0
  unfold f_Tree_writeChain at hf
  skip
  have lp_10 : ∀ (n10 : Nat) (v_pages_count : Int32) (v_pages_bytes : Nat → Int32) (x_1 : Int32) (x_2 : Int32) (x_3 : Int32) (x_4 : Int32) (H : Heap) (locs : List Loc) (ls : Array Slot), va_P D pu_cl [(q_this, .inr (5, [.ref q_pages, .ref q_node, .ref q_row, .ref q_path, .ref q_slots, .int v_depth, .int v_slot, .ref q_cell, .int v_cellSize, .ref q_waiting, .ref q_leaves])), (q_pages, .inr (0, [.ref q_pages_bytes, .int v_pages_count])), (q_pages_bytes, .inl (cB, 1536, .inl v_pages_bytes)), (q_row, .inr (2, [.ref q_row_bytes, .int v_row_length, .ref q_row_codes, .ref q_row_starts, .int v_row_count])), (q_row_bytes, .inl (cB, 307, .inl v_row_bytes))] H → va_D A [(q_this, .inr (5, [.ref q_pages, .ref q_node, .ref q_row, .ref q_path, .ref q_slots, .int v_depth, .int v_slot, .ref q_cell, .int v_cellSize, .ref q_waiting, .ref q_leaves])), (q_pages, .inr (0, [.ref q_pages_bytes, .int v_pages_count])), (q_pages_bytes, .inl (cB, 1536, .inl v_pages_bytes)), (q_row, .inr (2, [.ref q_row_bytes, .int v_row_length, .ref q_row_codes, .ref q_row_starts, .int v_row_count])), (q_row_bytes, .inl (cB, 307, .inl v_row_bytes))] → va_S A s.heap H locs → lv_has ls 7 [(0, .ref q_this), (1, .int x_1), (2, .int x_2), (3, .int x_3), (4, .int x_4)] → q_Tree_writeChain_10 v_row_length v_row_bytes n10 v_pages_count v_pages_bytes x_1 x_2 x_3 x_4 = some (o_r, o_pages_count, o_pages_bytes) → W p l e rm_Tree_writeChain s m args below meth c H locs 0 0 Q (F0 m 10 ls []) := by
    intro n10
    induction n10 with
    | zero =>
      intro v_pages_count v_pages_bytes x_1 x_2 x_3 x_4 H locs ls hP hD hS hl hf
      rw [q_Tree_writeChain_10] at hf
      cases hf
    | succ n10 ih_10 =>
      have lb_119 : ∀ (v_pages_count : Int32) (v_pages_bytes : Nat → Int32) (x_1 : Int32) (x_3 : Int32) (x_4 : Int32) (x_5 : Int32) (H : Heap) (locs : List Loc) (ls : Array Slot), va_P D pu_cl [(q_this, .inr (5, [.ref q_pages, .ref q_node, .ref q_row, .ref q_path, .ref q_slots, .int v_depth, .int v_slot, .ref q_cell, .int v_cellSize, .ref q_waiting, .ref q_leaves])), (q_pages, .inr (0, [.ref q_pages_bytes, .int v_pages_count])), (q_pages_bytes, .inl (cB, 1536, .inl v_pages_bytes)), (q_row, .inr (2, [.ref q_row_bytes, .int v_row_length, .ref q_row_codes, .ref q_row_starts, .int v_row_count])), (q_row_bytes, .inl (cB, 307, .inl v_row_bytes))] H → va_D A [(q_this, .inr (5, [.ref q_pages, .ref q_node, .ref q_row, .ref q_path, .ref q_slots, .int v_depth, .int v_slot, .ref q_cell, .int v_cellSize, .ref q_waiting, .ref q_leaves])), (q_pages, .inr (0, [.ref q_pages_bytes, .int v_pages_count])), (q_pages_bytes, .inl (cB, 1536, .inl v_pages_bytes)), (q_row, .inr (2, [.ref q_row_bytes, .int v_row_length, .ref q_row_codes, .ref q_row_starts, .int v_row_count])), (q_row_bytes, .inl (cB, 307, .inl v_row_bytes))] → va_S A s.heap H locs → lv_has ls 7 [(0, .ref q_this), (1, .int x_1), (3, .int x_3), (4, .int x_4), (5, .int x_5)] → q_Tree_writeChain_119 (q_Tree_writeChain_10 v_row_length v_row_bytes n10) v_row_length v_row_bytes v_pages_count v_pages_bytes x_1 x_3 x_4 x_5 = some (o_r, o_pages_count, o_pages_bytes) → W p l e rm_Tree_writeChain s m args below meth c H locs 0 0 Q (F0 m 119 ls []) := by
        intro v_pages_count v_pages_bytes x_1 x_3 x_4 x_5 H locs ls hP hD hS hl hf
        rw [q_Tree_writeChain_119] at hf
        refine lv_iload hx hb d_Tree_writeChain_119 (lv_at hl 4 rfl) ?_
        refine lv_istore_n hx hb d_Tree_writeChain_121 rfl hl (by decide) rfl (fun ls hl => ?_)
        have hl : lv_has ls 7 [(2, .int x_5), (0, .ref q_this), (1, .int x_1), (3, .int x_3), (4, .int x_4), (5, .int x_5)] := hl
        obtain ⟨t7, e_t7, hf⟩ := pu_nm_some hf
        refine lv_iinc (k := 4) (v := t7) hx hb d_Tree_writeChain_122 hl rfl e_t7.symm (by decide) rfl (fun ls hl => ?_)
        have hl : lv_has ls 7 [(4, .int t7), (2, .int x_5), (0, .ref q_this), (1, .int x_1), (3, .int x_3), (5, .int x_5)] := hl
        refine lv_goto (tgt := 10) hx hb d_Tree_writeChain_125 rfl ?_
        exact ih_10 v_pages_count v_pages_bytes x_1 x_5 x_3 t7 H locs ls hP hD hS (lv_sub hl [2, 3, 1, 4, 0] rfl) hf
      have lp_65 : ∀ (v_pages_count : Int32) (x_1 : Int32) (x_4 : Int32) (x_5 : Int32) (n65 : Nat) (v_pages_bytes : Nat → Int32) (x_3 : Int32) (x_6 : Int32) (H : Heap) (locs : List Loc) (ls : Array Slot), va_P D pu_cl [(q_this, .inr (5, [.ref q_pages, .ref q_node, .ref q_row, .ref q_path, .ref q_slots, .int v_depth, .int v_slot, .ref q_cell, .int v_cellSize, .ref q_waiting, .ref q_leaves])), (q_pages, .inr (0, [.ref q_pages_bytes, .int v_pages_count])), (q_pages_bytes, .inl (cB, 1536, .inl v_pages_bytes)), (q_row, .inr (2, [.ref q_row_bytes, .int v_row_length, .ref q_row_codes, .ref q_row_starts, .int v_row_count])), (q_row_bytes, .inl (cB, 307, .inl v_row_bytes))] H → va_D A [(q_this, .inr (5, [.ref q_pages, .ref q_node, .ref q_row, .ref q_path, .ref q_slots, .int v_depth, .int v_slot, .ref q_cell, .int v_cellSize, .ref q_waiting, .ref q_leaves])), (q_pages, .inr (0, [.ref q_pages_bytes, .int v_pages_count])), (q_pages_bytes, .inl (cB, 1536, .inl v_pages_bytes)), (q_row, .inr (2, [.ref q_row_bytes, .int v_row_length, .ref q_row_codes, .ref q_row_starts, .int v_row_count])), (q_row_bytes, .inl (cB, 307, .inl v_row_bytes))] → va_S A s.heap H locs → lv_has ls 7 [(0, .ref q_this), (1, .int x_1), (3, .int x_3), (4, .int x_4), (5, .int x_5), (6, .int x_6)] → q_Tree_writeChain_65 (fun v_pages_bytes x_3 => q_Tree_writeChain_119 (q_Tree_writeChain_10 v_row_length v_row_bytes n10) v_row_length v_row_bytes v_pages_count v_pages_bytes x_1 x_3 x_4 x_5) v_row_length v_row_bytes v_pages_count x_1 x_4 x_5 n65 v_pages_bytes x_3 x_6 = some (o_r, o_pages_count, o_pages_bytes) → W p l e rm_Tree_writeChain s m args below meth c H locs 0 0 Q (F0 m 65 ls []) := by
        intro v_pages_count x_1 x_4 x_5 n65
        induction n65 with
        | zero =>
          intro v_pages_bytes x_3 x_6 H locs ls hP hD hS hl hf
          rw [q_Tree_writeChain_65] at hf
          cases hf
        | succ n65 ih_65 =>
          intro v_pages_bytes x_3 x_6 H locs ls hP hD hS hl hf
          rw [q_Tree_writeChain_65] at hf
          refine lv_iload hx hb d_Tree_writeChain_65 (lv_at hl 5 rfl) ?_
          refine lv_bipush (v := 63) hx hb d_Tree_writeChain_67 rfl ?_
          refine lv_icmp_gt (tgt := 119) hx hb d_Tree_writeChain_69 rfl (fun hc => ?_) (fun hc => ?_)
          · have hf := pu_br_pos hf hc
            exact lb_119 v_pages_count v_pages_bytes x_1 x_3 x_4 x_5 H locs ls hP hD hS (lv_sub hl [0, 1, 2, 3, 4] rfl) hf
          have hf := pu_br_neg hf hc
          refine lv_iload_n hx hb d_Tree_writeChain_72 rfl (lv_at hl 2 rfl) ?_
          refine lv_aload_n hx hb d_Tree_writeChain_73 rfl (lv_at hl 0 rfl) ?_
          refine gf_Tree_38 (v := .ref q_row) hx hb hts hN hown hK hP 0 rfl rfl d_Tree_writeChain_74 ?_
          refine gf_Tree_83 (v := .int v_row_length) hx hb hts hN hown hK hP 3 rfl rfl d_Tree_writeChain_77 ?_
          refine lv_icmp_ge (tgt := 119) hx hb d_Tree_writeChain_80 rfl (fun hc => ?_) (fun hc => ?_)
          · have hf := pu_br_pos hf hc
            exact lb_119 v_pages_count v_pages_bytes x_1 x_3 x_4 x_5 H locs ls hP hD hS (lv_sub hl [0, 1, 2, 3, 4] rfl) hf
          have hf := pu_br_neg hf hc
          refine lv_iload_n hx hb d_Tree_writeChain_83 rfl (lv_at hl 2 rfl) ?_
          refine lv_sipush (v := 307) hx hb d_Tree_writeChain_84 rfl ?_
          refine lv_icmp_ge (tgt := 119) hx hb d_Tree_writeChain_87 rfl (fun hc => ?_) (fun hc => ?_)
          · have hf := pu_br_pos hf hc
            exact lb_119 v_pages_count v_pages_bytes x_1 x_3 x_4 x_5 H locs ls hP hD hS (lv_sub hl [0, 1, 2, 3, 4] rfl) hf
          have hf := pu_br_neg hf hc
          refine lv_aload_n hx hb d_Tree_writeChain_90 rfl (lv_at hl 0 rfl) ?_
          refine gf_Tree_30 (v := .ref q_pages) hx hb hts hN hown hK hP 0 rfl rfl d_Tree_writeChain_91 ?_
          refine lv_iload hx hb d_Tree_writeChain_94 (lv_at hl 4 rfl) ?_
          refine lv_iload hx hb d_Tree_writeChain_96 (lv_at hl 5 rfl) ?_
          refine lv_aload_n hx hb d_Tree_writeChain_98 rfl (lv_at hl 0 rfl) ?_
          refine gf_Tree_38 (v := .ref q_row) hx hb hts hN hown hK hP 0 rfl rfl d_Tree_writeChain_99 ?_
          refine gf_Tree_113 (v := .ref q_row_bytes) hx hb hts hN hown hK hP 3 rfl rfl d_Tree_writeChain_102 ?_
          refine lv_iload_n hx hb d_Tree_writeChain_105 rfl (lv_at hl 2 rfl) ?_
          obtain ⟨hin, hf⟩ := pu_ck_some hf
          refine va_bald hx hb hK hP 4 2 rfl rfl hin d_Tree_writeChain_106 ?_
          obtain ⟨w9, hc, hf⟩ := pu_b1_some hf
          refine cl_v (WC := [(q_pages, .inr (0, [.ref q_pages_bytes, .int v_pages_count])), (q_pages_bytes, .inl (cB, 1536, .inl v_pages_bytes))]) (WC2 := [(q_pages, .inr (0, [.ref q_pages_bytes, .int v_pages_count])), (q_pages_bytes, .inl (cB, 1536, .inl w9))]) (WR := [(q_this, .inr (5, [.ref q_pages, .ref q_node, .ref q_row, .ref q_path, .ref q_slots, .int v_depth, .int v_slot, .ref q_cell, .int v_cellSize, .ref q_waiting, .ref q_leaves])), (q_row, .inr (2, [.ref q_row_bytes, .int v_row_length, .ref q_row_codes, .ref q_row_starts, .int v_row_count])), (q_row_bytes, .inl (cB, 307, .inl v_row_bytes))]) (WS2 := [(q_this, .inr (5, [.ref q_pages, .ref q_node, .ref q_row, .ref q_path, .ref q_slots, .int v_depth, .int v_slot, .ref q_cell, .int v_cellSize, .ref q_waiting, .ref q_leaves])), (q_pages, .inr (0, [.ref q_pages_bytes, .int v_pages_count])), (q_pages_bytes, .inl (cB, 1536, .inl w9)), (q_row, .inr (2, [.ref q_row_bytes, .int v_row_length, .ref q_row_codes, .ref q_row_starts, .int v_row_count])), (q_row_bytes, .inl (cB, 307, .inl v_row_bytes))]) (pu_rv (cl := pu_cl) (pu_in4 _ (List.mem_of_getElem? (i := 46) rfl)) (pu_in2 _ (List.mem_of_getElem? (i := 26) rfl)) (pu_in2 _ (List.mem_of_getElem? (i := 27) rfl)) (pu_in0 _ (List.mem_of_getElem? (i := 3) rfl)) (pu_in2 _ (List.mem_of_getElem? (i := 28) rfl)) (ci := 0) rfl hd_Pages_put (by decide) ⟨rfl, rfl⟩ rfl rfl (Nat.le_of_ble_eq_true rfl) rfl (As := [.int x_5, .int x_6, .int (v_row_bytes x_3.toNatClampNeg)]) (rest := []) (WC := [(q_pages, .inr (0, [.ref q_pages_bytes, .int v_pages_count])), (q_pages_bytes, .inl (cB, 1536, .inl v_pages_bytes))]) hx hb hml hown hts hN hK hP hD (c_Pages_put l D cI cJ cB cZ H.size q_pages q_pages_bytes v_pages_count v_pages_bytes x_5 x_6 (v_row_bytes x_3.toNatClampNeg) w9 hc) [1, 2] rfl rfl hl.1 d_Tree_writeChain_107) hP hD hS hA [1, 2] [0, 3, 4] [0, 3, 4, 1, 2] rfl rfl rfl (by decide) rfl rfl (fun H locs hP hD hS => ?_)
          obtain ⟨t10, e_t10, hf⟩ := pu_nm_some hf
          refine lv_iinc (k := 2) (v := t10) hx hb d_Tree_writeChain_110 hl rfl e_t10.symm (by decide) rfl (fun ls hl => ?_)
          have hl : lv_has ls 7 [(3, .int t10), (0, .ref q_this), (1, .int x_1), (4, .int x_4), (5, .int x_5), (6, .int x_6)] := hl
          obtain ⟨t11, e_t11, hf⟩ := pu_nm_some hf
          refine lv_iinc (k := 5) (v := t11) hx hb d_Tree_writeChain_113 hl rfl e_t11.symm (by decide) rfl (fun ls hl => ?_)
          have hl : lv_has ls 7 [(6, .int t11), (3, .int t10), (0, .ref q_this), (1, .int x_1), (4, .int x_4), (5, .int x_5)] := hl
          refine lv_goto (tgt := 65) hx hb d_Tree_writeChain_116 rfl ?_
          exact ih_65 w9 t10 t11 H locs ls hP hD hS (lv_sub hl [2, 3, 1, 4, 5, 0] rfl) hf
      have lb_62 : ∀ (v_pages_count : Int32) (v_pages_bytes : Nat → Int32) (x_1 : Int32) (x_3 : Int32) (x_4 : Int32) (x_5 : Int32) (H : Heap) (locs : List Loc) (ls : Array Slot), va_P D pu_cl [(q_this, .inr (5, [.ref q_pages, .ref q_node, .ref q_row, .ref q_path, .ref q_slots, .int v_depth, .int v_slot, .ref q_cell, .int v_cellSize, .ref q_waiting, .ref q_leaves])), (q_pages, .inr (0, [.ref q_pages_bytes, .int v_pages_count])), (q_pages_bytes, .inl (cB, 1536, .inl v_pages_bytes)), (q_row, .inr (2, [.ref q_row_bytes, .int v_row_length, .ref q_row_codes, .ref q_row_starts, .int v_row_count])), (q_row_bytes, .inl (cB, 307, .inl v_row_bytes))] H → va_D A [(q_this, .inr (5, [.ref q_pages, .ref q_node, .ref q_row, .ref q_path, .ref q_slots, .int v_depth, .int v_slot, .ref q_cell, .int v_cellSize, .ref q_waiting, .ref q_leaves])), (q_pages, .inr (0, [.ref q_pages_bytes, .int v_pages_count])), (q_pages_bytes, .inl (cB, 1536, .inl v_pages_bytes)), (q_row, .inr (2, [.ref q_row_bytes, .int v_row_length, .ref q_row_codes, .ref q_row_starts, .int v_row_count])), (q_row_bytes, .inl (cB, 307, .inl v_row_bytes))] → va_S A s.heap H locs → lv_has ls 7 [(0, .ref q_this), (1, .int x_1), (3, .int x_3), (4, .int x_4), (5, .int x_5)] → q_Tree_writeChain_62 (q_Tree_writeChain_10 v_row_length v_row_bytes n10) v_row_length v_row_bytes v_pages_count v_pages_bytes x_1 x_3 x_4 x_5 = some (o_r, o_pages_count, o_pages_bytes) → W p l e rm_Tree_writeChain s m args below meth c H locs 0 0 Q (F0 m 62 ls []) := by
        intro v_pages_count v_pages_bytes x_1 x_3 x_4 x_5 H locs ls hP hD hS hl hf
        rw [q_Tree_writeChain_62] at hf
        refine lv_iconst (v := 1) hx hb d_Tree_writeChain_62 rfl ?_
        refine lv_istore hx hb d_Tree_writeChain_63 hl (by decide) rfl (fun ls hl => ?_)
        have hl : lv_has ls 7 [(6, .int (1 : Int32)), (0, .ref q_this), (1, .int x_1), (3, .int x_3), (4, .int x_4), (5, .int x_5)] := hl
        exact lp_65 v_pages_count x_1 x_4 x_5 _ v_pages_bytes x_3 (1 : Int32) H locs ls hP hD hS (lv_sub hl [1, 2, 3, 4, 5, 0] rfl) hf
      intro v_pages_count v_pages_bytes x_1 x_2 x_3 x_4 H locs ls hP hD hS hl hf
      rw [q_Tree_writeChain_10] at hf
      refine lv_iload hx hb d_Tree_writeChain_10 (lv_at hl 4 rfl) ?_
      refine lv_aload_n hx hb d_Tree_writeChain_12 rfl (lv_at hl 0 rfl) ?_
      refine gf_Tree_38 (v := .ref q_row) hx hb hts hN hown hK hP 0 rfl rfl d_Tree_writeChain_13 ?_
      refine gf_Tree_83 (v := .int v_row_length) hx hb hts hN hown hK hP 3 rfl rfl d_Tree_writeChain_16 ?_
      obtain ⟨r1, hc, hf⟩ := pu_b1_some hf
      refine cl_i (WC := []) (WC2 := []) (WR := [(q_this, .inr (5, [.ref q_pages, .ref q_node, .ref q_row, .ref q_path, .ref q_slots, .int v_depth, .int v_slot, .ref q_cell, .int v_cellSize, .ref q_waiting, .ref q_leaves])), (q_pages, .inr (0, [.ref q_pages_bytes, .int v_pages_count])), (q_pages_bytes, .inl (cB, 1536, .inl v_pages_bytes)), (q_row, .inr (2, [.ref q_row_bytes, .int v_row_length, .ref q_row_codes, .ref q_row_starts, .int v_row_count])), (q_row_bytes, .inl (cB, 307, .inl v_row_bytes))]) (WS2 := [(q_this, .inr (5, [.ref q_pages, .ref q_node, .ref q_row, .ref q_path, .ref q_slots, .int v_depth, .int v_slot, .ref q_cell, .int v_cellSize, .ref q_waiting, .ref q_leaves])), (q_pages, .inr (0, [.ref q_pages_bytes, .int v_pages_count])), (q_pages_bytes, .inl (cB, 1536, .inl v_pages_bytes)), (q_row, .inr (2, [.ref q_row_bytes, .int v_row_length, .ref q_row_codes, .ref q_row_starts, .int v_row_count])), (q_row_bytes, .inl (cB, 307, .inl v_row_bytes))]) (pu_rsn (List.mem_of_getElem? (i := 36) rfl) (pu_in4 _ (List.mem_of_getElem? (i := 27) rfl)) (pu_in0 _ (List.mem_of_getElem? (i := 1) rfl)) (pu_in4 _ (List.mem_of_getElem? (i := 28) rfl)) hd_RF_chainPages (by decide) ⟨rfl, rfl⟩ rfl rfl (Nat.le_of_ble_eq_true rfl) (As := [.int v_row_length]) (rest := [.int x_4]) (WC := []) hx hb hml hown hts hN hK hP hD (c_RF_chainPages l D cI cJ cB cZ H.size v_row_length r1 hc) [] rfl rfl hl.1 d_Tree_writeChain_19) hP hD hS hA [] [0, 1, 2, 3, 4] [0, 1, 2, 3, 4] rfl rfl rfl (by decide) rfl rfl (fun H locs hP hD hS => ?_)
      refine lv_icmp_ge (tgt := 128) hx hb d_Tree_writeChain_22 rfl (fun hc => ?_) (fun hc => ?_)
      · have hf := pu_br_pos hf hc
        refine lv_iload_n hx hb d_Tree_writeChain_128 rfl (lv_at hl 1 rfl) ?_
        exact hret _ _ _ _ x_1 v_pages_count v_pages_bytes d_Tree_writeChain_129 hP hD hS hf
      have hf := pu_br_neg hf hc
      refine lv_aload_n hx hb d_Tree_writeChain_25 rfl (lv_at hl 0 rfl) ?_
      refine gf_Tree_30 (v := .ref q_pages) hx hb hts hN hown hK hP 0 rfl rfl d_Tree_writeChain_26 ?_
      obtain ⟨r2, w3, w4, hc, hf⟩ := pu_b3_some hf
      refine cl_i (WC := [(q_pages, .inr (0, [.ref q_pages_bytes, .int v_pages_count])), (q_pages_bytes, .inl (cB, 1536, .inl v_pages_bytes))]) (WC2 := [(q_pages, .inr (0, [.ref q_pages_bytes, .int w3])), (q_pages_bytes, .inl (cB, 1536, .inl w4))]) (WR := [(q_this, .inr (5, [.ref q_pages, .ref q_node, .ref q_row, .ref q_path, .ref q_slots, .int v_depth, .int v_slot, .ref q_cell, .int v_cellSize, .ref q_waiting, .ref q_leaves])), (q_row, .inr (2, [.ref q_row_bytes, .int v_row_length, .ref q_row_codes, .ref q_row_starts, .int v_row_count])), (q_row_bytes, .inl (cB, 307, .inl v_row_bytes))]) (WS2 := [(q_this, .inr (5, [.ref q_pages, .ref q_node, .ref q_row, .ref q_path, .ref q_slots, .int v_depth, .int v_slot, .ref q_cell, .int v_cellSize, .ref q_waiting, .ref q_leaves])), (q_pages, .inr (0, [.ref q_pages_bytes, .int w3])), (q_pages_bytes, .inl (cB, 1536, .inl w4)), (q_row, .inr (2, [.ref q_row_bytes, .int v_row_length, .ref q_row_codes, .ref q_row_starts, .int v_row_count])), (q_row_bytes, .inl (cB, 307, .inl v_row_bytes))]) (pu_rv (cl := pu_cl) (pu_in4 _ (List.mem_of_getElem? (i := 32) rfl)) (pu_in4 _ (List.mem_of_getElem? (i := 33) rfl)) (pu_in4 _ (List.mem_of_getElem? (i := 34) rfl)) (pu_in0 _ (List.mem_of_getElem? (i := 3) rfl)) (pu_in4 _ (List.mem_of_getElem? (i := 35) rfl)) (ci := 0) rfl hd_Pages_takePage (by decide) ⟨rfl, rfl⟩ rfl rfl (Nat.le_of_ble_eq_true rfl) rfl (As := []) (rest := []) (WC := [(q_pages, .inr (0, [.ref q_pages_bytes, .int v_pages_count])), (q_pages_bytes, .inl (cB, 1536, .inl v_pages_bytes))]) hx hb hml hown hts hN hK hP hD (c_Pages_takePage l D cI cJ cB cZ H.size q_pages q_pages_bytes v_pages_count v_pages_bytes r2 w3 w4 hc) [1, 2] rfl rfl hl.1 d_Tree_writeChain_29) hP hD hS hA [1, 2] [0, 3, 4] [0, 3, 4, 1, 2] rfl rfl rfl (by decide) rfl rfl (fun H locs hP hD hS => ?_)
      refine lv_istore hx hb d_Tree_writeChain_32 hl (by decide) rfl (fun ls hl => ?_)
      have hl : lv_has ls 7 [(5, .int r2), (0, .ref q_this), (1, .int x_1), (2, .int x_2), (3, .int x_3), (4, .int x_4)] := hl
      refine lv_iload hx hb d_Tree_writeChain_34 (lv_at hl 0 rfl) ?_
      refine lv_if_ne (tgt := 41) hx hb d_Tree_writeChain_36 rfl (fun hc => ?_) (fun hc => ?_)
      · have hf := pu_br_neg hf hc
        refine lv_iload_n hx hb d_Tree_writeChain_41 rfl (lv_at hl 3 rfl) ?_
        refine lv_if_ne (tgt := 51) hx hb d_Tree_writeChain_42 rfl (fun hc => ?_) (fun hc => ?_)
        · have hf := pu_br_neg hf hc
          refine lv_aload_n hx hb d_Tree_writeChain_51 rfl (lv_at hl 1 rfl) ?_
          refine gf_Tree_30 (v := .ref q_pages) hx hb hts hN hown hK hP 0 rfl rfl d_Tree_writeChain_52 ?_
          refine lv_iload_n hx hb d_Tree_writeChain_55 rfl (lv_at hl 3 rfl) ?_
          refine lv_iconst (v := 0) hx hb d_Tree_writeChain_56 rfl ?_
          refine lv_iload hx hb d_Tree_writeChain_57 (lv_at hl 0 rfl) ?_
          obtain ⟨w6, hc, hf⟩ := pu_b1_some hf
          refine cl_v (WC := [(q_pages, .inr (0, [.ref q_pages_bytes, .int w3])), (q_pages_bytes, .inl (cB, 1536, .inl w4))]) (WC2 := [(q_pages, .inr (0, [.ref q_pages_bytes, .int w3])), (q_pages_bytes, .inl (cB, 1536, .inl w6))]) (WR := [(q_this, .inr (5, [.ref q_pages, .ref q_node, .ref q_row, .ref q_path, .ref q_slots, .int v_depth, .int v_slot, .ref q_cell, .int v_cellSize, .ref q_waiting, .ref q_leaves])), (q_row, .inr (2, [.ref q_row_bytes, .int v_row_length, .ref q_row_codes, .ref q_row_starts, .int v_row_count])), (q_row_bytes, .inl (cB, 307, .inl v_row_bytes))]) (WS2 := [(q_this, .inr (5, [.ref q_pages, .ref q_node, .ref q_row, .ref q_path, .ref q_slots, .int v_depth, .int v_slot, .ref q_cell, .int v_cellSize, .ref q_waiting, .ref q_leaves])), (q_pages, .inr (0, [.ref q_pages_bytes, .int w3])), (q_pages_bytes, .inl (cB, 1536, .inl w6)), (q_row, .inr (2, [.ref q_row_bytes, .int v_row_length, .ref q_row_codes, .ref q_row_starts, .int v_row_count])), (q_row_bytes, .inl (cB, 307, .inl v_row_bytes))]) (pu_rv (cl := pu_cl) (pu_in4 _ (List.mem_of_getElem? (i := 46) rfl)) (pu_in2 _ (List.mem_of_getElem? (i := 26) rfl)) (pu_in2 _ (List.mem_of_getElem? (i := 27) rfl)) (pu_in0 _ (List.mem_of_getElem? (i := 3) rfl)) (pu_in2 _ (List.mem_of_getElem? (i := 28) rfl)) (ci := 0) rfl hd_Pages_put (by decide) ⟨rfl, rfl⟩ rfl rfl (Nat.le_of_ble_eq_true rfl) rfl (As := [.int x_2, .int (0 : Int32), .int r2]) (rest := []) (WC := [(q_pages, .inr (0, [.ref q_pages_bytes, .int w3])), (q_pages_bytes, .inl (cB, 1536, .inl w4))]) hx hb hml hown hts hN hK hP hD (c_Pages_put l D cI cJ cB cZ H.size q_pages q_pages_bytes w3 w4 x_2 (0 : Int32) r2 w6 hc) [1, 2] rfl rfl hl.1 d_Tree_writeChain_59) hP hD hS hA [1, 2] [0, 3, 4] [0, 3, 4, 1, 2] rfl rfl rfl (by decide) rfl rfl (fun H locs hP hD hS => ?_)
          exact lb_62 w3 w6 x_1 x_3 x_4 r2 H locs ls hP hD hS (lv_sub hl [1, 2, 4, 5, 0] rfl) hf
        have hf := pu_br_pos hf hc
        refine lv_iload hx hb d_Tree_writeChain_45 (lv_at hl 0 rfl) ?_
        refine lv_istore_n hx hb d_Tree_writeChain_47 rfl hl (by decide) rfl (fun ls hl => ?_)
        have hl : lv_has ls 7 [(1, .int r2), (5, .int r2), (0, .ref q_this), (2, .int x_2), (3, .int x_3), (4, .int x_4)] := hl
        refine lv_goto (tgt := 62) hx hb d_Tree_writeChain_48 rfl ?_
        exact lb_62 w3 w4 r2 x_3 x_4 r2 H locs ls hP hD hS (lv_sub hl [2, 0, 4, 5, 1] rfl) hf
      have hf := pu_br_pos hf hc
      refine lv_iconst (v := 0) hx hb d_Tree_writeChain_39 rfl ?_
      exact hret _ _ _ _ (0 : Int32) w3 w4 d_Tree_writeChain_40 hP hD hS hf
  obtain ⟨H, hH⟩ : ∃ H, H = s.heap := ⟨_, rfl⟩
  obtain ⟨locs, hlocs⟩ : ∃ locs : List Loc, locs = [] := ⟨_, rfl⟩
  have hP : va_P D pu_cl [(q_this, .inr (5, [.ref q_pages, .ref q_node, .ref q_row, .ref q_path, .ref q_slots, .int v_depth, .int v_slot, .ref q_cell, .int v_cellSize, .ref q_waiting, .ref q_leaves])), (q_pages, .inr (0, [.ref q_pages_bytes, .int v_pages_count])), (q_pages_bytes, .inl (cB, 1536, .inl v_pages_bytes)), (q_row, .inr (2, [.ref q_row_bytes, .int v_row_length, .ref q_row_codes, .ref q_row_starts, .int v_row_count])), (q_row_bytes, .inl (cB, 307, .inl v_row_bytes))] H := by rw [hH]; exact hP
  have hS : va_S A s.heap H locs := by rw [hH, hlocs]; exact hS
  have goal : W p l e rm_Tree_writeChain s m args below meth c H locs 0 0 Q (F0 m 0 ls []) := by
    clear hH hlocs
    refine lv_iconst (v := 0) hx hb d_Tree_writeChain_0 rfl ?_
    refine lv_istore_n hx hb d_Tree_writeChain_1 rfl hl (by decide) rfl (fun ls hl => ?_)
    have hl : lv_has ls 7 [(1, .int (0 : Int32)), (0, .ref q_this)] := hl
    refine lv_iconst (v := 0) hx hb d_Tree_writeChain_2 rfl ?_
    refine lv_istore_n hx hb d_Tree_writeChain_3 rfl hl (by decide) rfl (fun ls hl => ?_)
    have hl : lv_has ls 7 [(2, .int (0 : Int32)), (1, .int (0 : Int32)), (0, .ref q_this)] := hl
    refine lv_bipush (v := 16) hx hb d_Tree_writeChain_4 rfl ?_
    refine lv_istore_n hx hb d_Tree_writeChain_6 rfl hl (by decide) rfl (fun ls hl => ?_)
    have hl : lv_has ls 7 [(3, .int (16 : Int32)), (2, .int (0 : Int32)), (1, .int (0 : Int32)), (0, .ref q_this)] := hl
    refine lv_iconst (v := 0) hx hb d_Tree_writeChain_7 rfl ?_
    refine lv_istore hx hb d_Tree_writeChain_8 hl (by decide) rfl (fun ls hl => ?_)
    have hl : lv_has ls 7 [(4, .int (0 : Int32)), (3, .int (16 : Int32)), (2, .int (0 : Int32)), (1, .int (0 : Int32)), (0, .ref q_this)] := hl
    exact lp_10 _ v_pages_count v_pages_bytes (0 : Int32) (0 : Int32) (16 : Int32) (0 : Int32) H locs ls hP hD hS (lv_sub hl [4, 3, 2, 1, 0] rfl) hf
  rw [hH, hlocs] at goal
  exact goal
theorem d_Tree_makeLeafCell_0 : decode b_Tree_makeLeafCell 0 = .ok (.aload_n 0, 1) := by decide +kernel
theorem d_Tree_makeLeafCell_1 : decode b_Tree_makeLeafCell 1 = .ok (.getfield 38, 3) := by decide +kernel
theorem d_Tree_makeLeafCell_4 : decode b_Tree_makeLeafCell 4 = .ok (.getfield 83, 3) := by decide +kernel
theorem d_Tree_makeLeafCell_7 : decode b_Tree_makeLeafCell 7 = .ok (.invokestatic 116, 3) := by decide +kernel
theorem d_Tree_makeLeafCell_10 : decode b_Tree_makeLeafCell 10 = .ok (.istore_n 3, 1) := by decide +kernel
theorem d_Tree_makeLeafCell_11 : decode b_Tree_makeLeafCell 11 = .ok (.aload_n 0, 1) := by decide +kernel
theorem d_Tree_makeLeafCell_12 : decode b_Tree_makeLeafCell 12 = .ok (.aload_n 0, 1) := by decide +kernel
theorem d_Tree_makeLeafCell_13 : decode b_Tree_makeLeafCell 13 = .ok (.getfield 20, 3) := by decide +kernel
theorem d_Tree_makeLeafCell_16 : decode b_Tree_makeLeafCell 16 = .ok (.iconst 0, 1) := by decide +kernel
theorem d_Tree_makeLeafCell_17 : decode b_Tree_makeLeafCell 17 = .ok (.aload_n 0, 1) := by decide +kernel
theorem d_Tree_makeLeafCell_18 : decode b_Tree_makeLeafCell 18 = .ok (.getfield 38, 3) := by decide +kernel
theorem d_Tree_makeLeafCell_21 : decode b_Tree_makeLeafCell 21 = .ok (.getfield 83, 3) := by decide +kernel
theorem d_Tree_makeLeafCell_24 : decode b_Tree_makeLeafCell 24 = .ok (.invokestatic 119, 3) := by decide +kernel
theorem d_Tree_makeLeafCell_27 : decode b_Tree_makeLeafCell 27 = .ok (.putfield 93, 3) := by decide +kernel
theorem d_Tree_makeLeafCell_30 : decode b_Tree_makeLeafCell 30 = .ok (.aload_n 0, 1) := by decide +kernel
theorem d_Tree_makeLeafCell_31 : decode b_Tree_makeLeafCell 31 = .ok (.aload_n 0, 1) := by decide +kernel
theorem d_Tree_makeLeafCell_32 : decode b_Tree_makeLeafCell 32 = .ok (.getfield 20, 3) := by decide +kernel
theorem d_Tree_makeLeafCell_35 : decode b_Tree_makeLeafCell 35 = .ok (.aload_n 0, 1) := by decide +kernel
theorem d_Tree_makeLeafCell_36 : decode b_Tree_makeLeafCell 36 = .ok (.getfield 93, 3) := by decide +kernel
theorem d_Tree_makeLeafCell_39 : decode b_Tree_makeLeafCell 39 = .ok (.iload_n 1, 1) := by decide +kernel
theorem d_Tree_makeLeafCell_40 : decode b_Tree_makeLeafCell 40 = .ok (.invokestatic 119, 3) := by decide +kernel
theorem d_Tree_makeLeafCell_43 : decode b_Tree_makeLeafCell 43 = .ok (.putfield 93, 3) := by decide +kernel
theorem d_Tree_makeLeafCell_46 : decode b_Tree_makeLeafCell 46 = .ok (.iload_n 3, 1) := by decide +kernel
theorem d_Tree_makeLeafCell_47 : decode b_Tree_makeLeafCell 47 = .ok (.ifCond .lt 17, 3) := by decide +kernel
theorem d_Tree_makeLeafCell_50 : decode b_Tree_makeLeafCell 50 = .ok (.aload_n 0, 1) := by decide +kernel
theorem d_Tree_makeLeafCell_51 : decode b_Tree_makeLeafCell 51 = .ok (.getfield 93, 3) := by decide +kernel
theorem d_Tree_makeLeafCell_54 : decode b_Tree_makeLeafCell 54 = .ok (.iload_n 3, 1) := by decide +kernel
theorem d_Tree_makeLeafCell_55 : decode b_Tree_makeLeafCell 55 = .ok (.iadd, 1) := by decide +kernel
theorem d_Tree_makeLeafCell_56 : decode b_Tree_makeLeafCell 56 = .ok (.aload_n 0, 1) := by decide +kernel
theorem d_Tree_makeLeafCell_57 : decode b_Tree_makeLeafCell 57 = .ok (.getfield 20, 3) := by decide +kernel
theorem d_Tree_makeLeafCell_60 : decode b_Tree_makeLeafCell 60 = .ok (.arraylength, 1) := by decide +kernel
theorem d_Tree_makeLeafCell_61 : decode b_Tree_makeLeafCell 61 = .ok (.if_icmp .lt 4, 3) := by decide +kernel
theorem d_Tree_makeLeafCell_64 : decode b_Tree_makeLeafCell 64 = .ok (.return_, 1) := by decide +kernel
theorem d_Tree_makeLeafCell_65 : decode b_Tree_makeLeafCell 65 = .ok (.aload_n 0, 1) := by decide +kernel
theorem d_Tree_makeLeafCell_66 : decode b_Tree_makeLeafCell 66 = .ok (.getfield 38, 3) := by decide +kernel
theorem d_Tree_makeLeafCell_69 : decode b_Tree_makeLeafCell 69 = .ok (.getfield 113, 3) := by decide +kernel
theorem d_Tree_makeLeafCell_72 : decode b_Tree_makeLeafCell 72 = .ok (.iconst 0, 1) := by decide +kernel
theorem d_Tree_makeLeafCell_73 : decode b_Tree_makeLeafCell 73 = .ok (.aload_n 0, 1) := by decide +kernel
theorem d_Tree_makeLeafCell_74 : decode b_Tree_makeLeafCell 74 = .ok (.getfield 20, 3) := by decide +kernel
theorem d_Tree_makeLeafCell_77 : decode b_Tree_makeLeafCell 77 = .ok (.aload_n 0, 1) := by decide +kernel
theorem d_Tree_makeLeafCell_78 : decode b_Tree_makeLeafCell 78 = .ok (.getfield 93, 3) := by decide +kernel
theorem d_Tree_makeLeafCell_81 : decode b_Tree_makeLeafCell 81 = .ok (.iload_n 3, 1) := by decide +kernel
theorem d_Tree_makeLeafCell_82 : decode b_Tree_makeLeafCell 82 = .ok (.invokestatic 123, 3) := by decide +kernel
theorem d_Tree_makeLeafCell_85 : decode b_Tree_makeLeafCell 85 = .ok (.aload_n 0, 1) := by decide +kernel
theorem d_Tree_makeLeafCell_86 : decode b_Tree_makeLeafCell 86 = .ok (.dup, 1) := by decide +kernel
theorem d_Tree_makeLeafCell_87 : decode b_Tree_makeLeafCell 87 = .ok (.getfield 93, 3) := by decide +kernel
theorem d_Tree_makeLeafCell_90 : decode b_Tree_makeLeafCell 90 = .ok (.iload_n 3, 1) := by decide +kernel
theorem d_Tree_makeLeafCell_91 : decode b_Tree_makeLeafCell 91 = .ok (.iadd, 1) := by decide +kernel
theorem d_Tree_makeLeafCell_92 : decode b_Tree_makeLeafCell 92 = .ok (.putfield 93, 3) := by decide +kernel
theorem d_Tree_makeLeafCell_95 : decode b_Tree_makeLeafCell 95 = .ok (.iload_n 2, 1) := by decide +kernel
theorem d_Tree_makeLeafCell_96 : decode b_Tree_makeLeafCell 96 = .ok (.ifCond .eq 24, 3) := by decide +kernel
theorem d_Tree_makeLeafCell_99 : decode b_Tree_makeLeafCell 99 = .ok (.aload_n 0, 1) := by decide +kernel
theorem d_Tree_makeLeafCell_100 : decode b_Tree_makeLeafCell 100 = .ok (.getfield 20, 3) := by decide +kernel
theorem d_Tree_makeLeafCell_103 : decode b_Tree_makeLeafCell 103 = .ok (.aload_n 0, 1) := by decide +kernel
theorem d_Tree_makeLeafCell_104 : decode b_Tree_makeLeafCell 104 = .ok (.getfield 93, 3) := by decide +kernel
theorem d_Tree_makeLeafCell_107 : decode b_Tree_makeLeafCell 107 = .ok (.iload_n 2, 1) := by decide +kernel
theorem d_Tree_makeLeafCell_108 : decode b_Tree_makeLeafCell 108 = .ok (.i2b, 1) := by decide +kernel
theorem d_Tree_makeLeafCell_109 : decode b_Tree_makeLeafCell 109 = .ok (.bastore, 1) := by decide +kernel
theorem d_Tree_makeLeafCell_110 : decode b_Tree_makeLeafCell 110 = .ok (.aload_n 0, 1) := by decide +kernel
theorem d_Tree_makeLeafCell_111 : decode b_Tree_makeLeafCell 111 = .ok (.dup, 1) := by decide +kernel
theorem d_Tree_makeLeafCell_112 : decode b_Tree_makeLeafCell 112 = .ok (.getfield 93, 3) := by decide +kernel
theorem d_Tree_makeLeafCell_115 : decode b_Tree_makeLeafCell 115 = .ok (.iconst 1, 1) := by decide +kernel
theorem d_Tree_makeLeafCell_116 : decode b_Tree_makeLeafCell 116 = .ok (.iadd, 1) := by decide +kernel
theorem d_Tree_makeLeafCell_117 : decode b_Tree_makeLeafCell 117 = .ok (.putfield 93, 3) := by decide +kernel
theorem d_Tree_makeLeafCell_120 : decode b_Tree_makeLeafCell 120 = .ok (.return_, 1) := by decide +kernel
noncomputable def f_Tree_makeLeafCell (v_row_length : Int32) (v_row_bytes : Nat → Int32) (v_cellSize : Int32) (v_cell : Nat → Int32) (x_1 : Int32) (x_2 : Int32) : Option (Int32 × (Nat → Int32)) :=
  pu_b1 (f_RF_sizeInLeaf v_row_length) (fun r1 => pu_b2 (f_RF_writeVarint 32 v_cell (0 : Int32) v_row_length) (fun r2 w3 => pu_b2 (f_RF_writeVarint 32 w3 r2 x_1) (fun r4 w5 => pu_br (r1 < 0) (some (r4, w5)) (pu_br ((r4 + r1) < (32 : Int32)) (pu_ck (pu_cp .byte v_row_bytes (0 : Int32) r4 r1 307 32) (pu_nm (va_cpy v_row_bytes w5 (0 : Int32).toNatClampNeg r4.toNatClampNeg r1.toNatClampNeg) (fun a6 => pu_nm (r4 + r1) (fun t7 => pu_br (x_2 = 0) (some (t7, a6)) (pu_ck (vp_in t7 32) (pu_nm (upd a6 t7.toNatClampNeg (vp_nar .byte x_2.toInt8.toInt32)) (fun a8 => pu_nm (t7 + (1 : Int32)) (fun t9 => some (t9, a8))))))))) (some (r4, w5))))))
abbrev rm_Tree_makeLeafCell : Room := { frames := 2, cells := 0, slots := 0, locals := 68 }
set_option maxHeartbeats 8000000 in
set_option maxRecDepth 100000 in
theorem c_Tree_makeLeafCell (l : Launch) (D : va_G) (cI cJ cB cZ : ClassId) (sz : Nat) (q_this : Nat) (q_pages : Nat) (q_node : Nat) (q_row : Nat) (q_path : Nat) (q_slots : Nat) (q_cell : Nat) (q_waiting : Nat) (q_leaves : Nat) (q_row_bytes : Nat) (q_row_codes : Nat) (q_row_starts : Nat) (v_depth : Int32) (v_slot : Int32) (v_cellSize : Int32) (v_row_length : Int32) (v_row_count : Int32) (v_row_bytes : Nat → Int32) (v_cell : Nat → Int32) (x_1 : Int32) (x_2 : Int32) (o_cellSize : Int32) (o_cell : Nat → Int32) (hf : f_Tree_makeLeafCell v_row_length v_row_bytes v_cellSize v_cell x_1 x_2 = some (o_cellSize, o_cell)) : Met l y_Tree_makeLeafCell (.code y_Tree_makeLeafCell b_Tree_makeLeafCell 4 none :: pu_wA) rm_Tree_makeLeafCell (pu_pc D pu_cl (pu_ty cI cJ cB cZ) [.ref q_this, .int x_1, .int x_2] [(q_this, .inr (5, [.ref q_pages, .ref q_node, .ref q_row, .ref q_path, .ref q_slots, .int v_depth, .int v_slot, .ref q_cell, .int v_cellSize, .ref q_waiting, .ref q_leaves])), (q_row, .inr (2, [.ref q_row_bytes, .int v_row_length, .ref q_row_codes, .ref q_row_starts, .int v_row_count])), (q_row_bytes, .inl (cB, 307, .inl v_row_bytes)), (q_cell, .inl (cB, 32, .inl v_cell))] sz) (pu_qv D pu_cl (pu_ty cI cJ cB cZ) [(q_this, .inr (5, [.ref q_pages, .ref q_node, .ref q_row, .ref q_path, .ref q_slots, .int v_depth, .int v_slot, .ref q_cell, .int v_cellSize, .ref q_waiting, .ref q_leaves])), (q_row, .inr (2, [.ref q_row_bytes, .int v_row_length, .ref q_row_codes, .ref q_row_starts, .int v_row_count])), (q_row_bytes, .inl (cB, 307, .inl v_row_bytes)), (q_cell, .inl (cB, 32, .inl v_cell))] [(q_this, .inr (5, [.ref q_pages, .ref q_node, .ref q_row, .ref q_path, .ref q_slots, .int v_depth, .int v_slot, .ref q_cell, .int o_cellSize, .ref q_waiting, .ref q_leaves])), (q_row, .inr (2, [.ref q_row_bytes, .int v_row_length, .ref q_row_codes, .ref q_row_starts, .int v_row_count])), (q_row_bytes, .inl (cB, 307, .inl v_row_bytes)), (q_cell, .inl (cB, 32, .inl o_cell))] sz) 0 0 (va_A [(q_this, .inr (5, [.ref q_pages, .ref q_node, .ref q_row, .ref q_path, .ref q_slots, .int v_depth, .int v_slot, .ref q_cell, .int v_cellSize, .ref q_waiting, .ref q_leaves])), (q_row, .inr (2, [.ref q_row_bytes, .int v_row_length, .ref q_row_codes, .ref q_row_starts, .int v_row_count])), (q_row_bytes, .inl (cB, 307, .inl v_row_bytes)), (q_cell, .inl (cB, 32, .inl v_cell))] sz) := by
  refine pu_mtv [.ref q_this, .int x_1, .int x_2] [(q_this, .inr (5, [.ref q_pages, .ref q_node, .ref q_row, .ref q_path, .ref q_slots, .int v_depth, .int v_slot, .ref q_cell, .int v_cellSize, .ref q_waiting, .ref q_leaves])), (q_row, .inr (2, [.ref q_row_bytes, .int v_row_length, .ref q_row_codes, .ref q_row_starts, .int v_row_count])), (q_row_bytes, .inl (cB, 307, .inl v_row_bytes)), (q_cell, .inl (cB, 32, .inl v_cell))] [(q_this, .inr (5, [.ref q_pages, .ref q_node, .ref q_row, .ref q_path, .ref q_slots, .int v_depth, .int v_slot, .ref q_cell, .int o_cellSize, .ref q_waiting, .ref q_leaves])), (q_row, .inr (2, [.ref q_row_bytes, .int v_row_length, .ref q_row_codes, .ref q_row_starts, .int v_row_count])), (q_row_bytes, .inl (cB, 307, .inl v_row_bytes)), (q_cell, .inl (cB, 32, .inl o_cell))] (by decide) (Nat.le_of_ble_eq_true rfl) ?_
  intro p e s m args below meth c A Q ls hx hb hml hts hN hown hK hA hP hD hl hret0
  have hS : va_S A s.heap s.heap [] := va_S.rf
  have hl : lv_has ls 4 [(0, .ref q_this), (1, .int x_1), (2, .int x_2)] := hl
  have hret : ∀ (pc : Nat) (ls : Array Slot) (H : Heap) (locs : List Loc) (y_0 : Int32) (y_1 : Nat → Int32), decode b_Tree_makeLeafCell pc = .ok (.return_, 1) → va_P D pu_cl [(q_this, .inr (5, [.ref q_pages, .ref q_node, .ref q_row, .ref q_path, .ref q_slots, .int v_depth, .int v_slot, .ref q_cell, .int y_0, .ref q_waiting, .ref q_leaves])), (q_row, .inr (2, [.ref q_row_bytes, .int v_row_length, .ref q_row_codes, .ref q_row_starts, .int v_row_count])), (q_row_bytes, .inl (cB, 307, .inl v_row_bytes)), (q_cell, .inl (cB, 32, .inl y_1))] H → va_D A [(q_this, .inr (5, [.ref q_pages, .ref q_node, .ref q_row, .ref q_path, .ref q_slots, .int v_depth, .int v_slot, .ref q_cell, .int y_0, .ref q_waiting, .ref q_leaves])), (q_row, .inr (2, [.ref q_row_bytes, .int v_row_length, .ref q_row_codes, .ref q_row_starts, .int v_row_count])), (q_row_bytes, .inl (cB, 307, .inl v_row_bytes)), (q_cell, .inl (cB, 32, .inl y_1))] → va_S A s.heap H locs → some (y_0, y_1) = some (o_cellSize, o_cell) → W p l e rm_Tree_makeLeafCell s m args below meth c H locs 0 0 Q (F0 m pc ls []) := by
    intro pc ls H locs y_0 y_1 hd hP hD hS hf
    cases hf
    exact hret0 pc ls H locs hd hP hD hS
  clear hret0
  unfold f_Tree_makeLeafCell at hf
  skip
  obtain ⟨H, hH⟩ : ∃ H, H = s.heap := ⟨_, rfl⟩
  obtain ⟨locs, hlocs⟩ : ∃ locs : List Loc, locs = [] := ⟨_, rfl⟩
  have hP : va_P D pu_cl [(q_this, .inr (5, [.ref q_pages, .ref q_node, .ref q_row, .ref q_path, .ref q_slots, .int v_depth, .int v_slot, .ref q_cell, .int v_cellSize, .ref q_waiting, .ref q_leaves])), (q_row, .inr (2, [.ref q_row_bytes, .int v_row_length, .ref q_row_codes, .ref q_row_starts, .int v_row_count])), (q_row_bytes, .inl (cB, 307, .inl v_row_bytes)), (q_cell, .inl (cB, 32, .inl v_cell))] H := by rw [hH]; exact hP
  have hS : va_S A s.heap H locs := by rw [hH, hlocs]; exact hS
  have goal : W p l e rm_Tree_makeLeafCell s m args below meth c H locs 0 0 Q (F0 m 0 ls []) := by
    clear hH hlocs
    refine lv_aload_n hx hb d_Tree_makeLeafCell_0 rfl (lv_at hl 0 rfl) ?_
    refine gf_Tree_38 (v := .ref q_row) hx hb hts hN hown hK hP 0 rfl rfl d_Tree_makeLeafCell_1 ?_
    refine gf_Tree_83 (v := .int v_row_length) hx hb hts hN hown hK hP 1 rfl rfl d_Tree_makeLeafCell_4 ?_
    obtain ⟨r1, hc, hf⟩ := pu_b1_some hf
    refine cl_i (WC := []) (WC2 := []) (WR := [(q_this, .inr (5, [.ref q_pages, .ref q_node, .ref q_row, .ref q_path, .ref q_slots, .int v_depth, .int v_slot, .ref q_cell, .int v_cellSize, .ref q_waiting, .ref q_leaves])), (q_row, .inr (2, [.ref q_row_bytes, .int v_row_length, .ref q_row_codes, .ref q_row_starts, .int v_row_count])), (q_row_bytes, .inl (cB, 307, .inl v_row_bytes)), (q_cell, .inl (cB, 32, .inl v_cell))]) (WS2 := [(q_this, .inr (5, [.ref q_pages, .ref q_node, .ref q_row, .ref q_path, .ref q_slots, .int v_depth, .int v_slot, .ref q_cell, .int v_cellSize, .ref q_waiting, .ref q_leaves])), (q_row, .inr (2, [.ref q_row_bytes, .int v_row_length, .ref q_row_codes, .ref q_row_starts, .int v_row_count])), (q_row_bytes, .inl (cB, 307, .inl v_row_bytes)), (q_cell, .inl (cB, 32, .inl v_cell))]) (pu_rsn (List.mem_of_getElem? (i := 37) rfl) (pu_in4 _ (List.mem_of_getElem? (i := 30) rfl)) (pu_in0 _ (List.mem_of_getElem? (i := 1) rfl)) (pu_in4 _ (List.mem_of_getElem? (i := 31) rfl)) hd_RF_sizeInLeaf (by decide) ⟨rfl, rfl⟩ rfl rfl (Nat.le_of_ble_eq_true rfl) (As := [.int v_row_length]) (rest := []) (WC := []) hx hb hml hown hts hN hK hP hD (c_RF_sizeInLeaf l D cI cJ cB cZ H.size v_row_length r1 hc) [] rfl rfl hl.1 d_Tree_makeLeafCell_7) hP hD hS hA [] [0, 1, 2, 3] [0, 1, 2, 3] rfl rfl rfl (by decide) rfl rfl (fun H locs hP hD hS => ?_)
    refine lv_istore_n hx hb d_Tree_makeLeafCell_10 rfl hl (by decide) rfl (fun ls hl => ?_)
    have hl : lv_has ls 4 [(3, .int r1), (0, .ref q_this), (1, .int x_1), (2, .int x_2)] := hl
    refine lv_aload_n hx hb d_Tree_makeLeafCell_11 rfl (lv_at hl 1 rfl) ?_
    refine lv_aload_n hx hb d_Tree_makeLeafCell_12 rfl (lv_at hl 1 rfl) ?_
    refine gf_Tree_20 (v := .ref q_cell) hx hb hts hN hown hK hP 0 rfl rfl d_Tree_makeLeafCell_13 ?_
    refine lv_iconst (v := 0) hx hb d_Tree_makeLeafCell_16 rfl ?_
    refine lv_aload_n hx hb d_Tree_makeLeafCell_17 rfl (lv_at hl 1 rfl) ?_
    refine gf_Tree_38 (v := .ref q_row) hx hb hts hN hown hK hP 0 rfl rfl d_Tree_makeLeafCell_18 ?_
    refine gf_Tree_83 (v := .int v_row_length) hx hb hts hN hown hK hP 1 rfl rfl d_Tree_makeLeafCell_21 ?_
    obtain ⟨r2, w3, hc, hf⟩ := pu_b2_some hf
    refine cl_i (WC := [(q_cell, .inl (cB, 32, .inl v_cell))]) (WC2 := [(q_cell, .inl (cB, 32, .inl w3))]) (WR := [(q_this, .inr (5, [.ref q_pages, .ref q_node, .ref q_row, .ref q_path, .ref q_slots, .int v_depth, .int v_slot, .ref q_cell, .int v_cellSize, .ref q_waiting, .ref q_leaves])), (q_row, .inr (2, [.ref q_row_bytes, .int v_row_length, .ref q_row_codes, .ref q_row_starts, .int v_row_count])), (q_row_bytes, .inl (cB, 307, .inl v_row_bytes))]) (WS2 := [(q_this, .inr (5, [.ref q_pages, .ref q_node, .ref q_row, .ref q_path, .ref q_slots, .int v_depth, .int v_slot, .ref q_cell, .int v_cellSize, .ref q_waiting, .ref q_leaves])), (q_row, .inr (2, [.ref q_row_bytes, .int v_row_length, .ref q_row_codes, .ref q_row_starts, .int v_row_count])), (q_row_bytes, .inl (cB, 307, .inl v_row_bytes)), (q_cell, .inl (cB, 32, .inl w3))]) (pu_rsn (List.mem_of_getElem? (i := 38) rfl) (pu_in4 _ (List.mem_of_getElem? (i := 13) rfl)) (pu_in0 _ (List.mem_of_getElem? (i := 1) rfl)) (pu_in4 _ (List.mem_of_getElem? (i := 14) rfl)) hd_RF_writeVarint (by decide) ⟨rfl, rfl⟩ rfl rfl (Nat.le_of_ble_eq_true rfl) (As := [.ref q_cell, .int (0 : Int32), .int v_row_length]) (rest := [.ref q_this]) (WC := [(q_cell, .inl (cB, 32, .inl v_cell))]) hx hb hml hown hts hN hK hP hD (c_RF_writeVarint l D cI cJ cB cZ H.size q_cell 32 v_cell (0 : Int32) v_row_length r2 w3 hc) [3] rfl rfl hl.1 d_Tree_makeLeafCell_24) hP hD hS hA [3] [0, 1, 2] [0, 1, 2, 3] rfl rfl rfl (by decide) rfl rfl (fun H locs hP hD hS => ?_)
    refine pf_Tree_93 (v := .int r2) hx hb hts hN hown hK hP hD hS 0 rfl rfl rfl (Nat.le_of_ble_eq_true rfl) d_Tree_makeLeafCell_27 (fun H locs hP hD hS => ?_)
    have hP : va_P D pu_cl [(q_this, .inr (5, [.ref q_pages, .ref q_node, .ref q_row, .ref q_path, .ref q_slots, .int v_depth, .int v_slot, .ref q_cell, .int r2, .ref q_waiting, .ref q_leaves])), (q_row, .inr (2, [.ref q_row_bytes, .int v_row_length, .ref q_row_codes, .ref q_row_starts, .int v_row_count])), (q_row_bytes, .inl (cB, 307, .inl v_row_bytes)), (q_cell, .inl (cB, 32, .inl w3))] H := hP
    have hD : va_D A [(q_this, .inr (5, [.ref q_pages, .ref q_node, .ref q_row, .ref q_path, .ref q_slots, .int v_depth, .int v_slot, .ref q_cell, .int r2, .ref q_waiting, .ref q_leaves])), (q_row, .inr (2, [.ref q_row_bytes, .int v_row_length, .ref q_row_codes, .ref q_row_starts, .int v_row_count])), (q_row_bytes, .inl (cB, 307, .inl v_row_bytes)), (q_cell, .inl (cB, 32, .inl w3))] := hD
    refine lv_aload_n hx hb d_Tree_makeLeafCell_30 rfl (lv_at hl 1 rfl) ?_
    refine lv_aload_n hx hb d_Tree_makeLeafCell_31 rfl (lv_at hl 1 rfl) ?_
    refine gf_Tree_20 (v := .ref q_cell) hx hb hts hN hown hK hP 0 rfl rfl d_Tree_makeLeafCell_32 ?_
    refine lv_aload_n hx hb d_Tree_makeLeafCell_35 rfl (lv_at hl 1 rfl) ?_
    refine gf_Tree_93 (v := .int r2) hx hb hts hN hown hK hP 0 rfl rfl d_Tree_makeLeafCell_36 ?_
    refine lv_iload_n hx hb d_Tree_makeLeafCell_39 rfl (lv_at hl 2 rfl) ?_
    obtain ⟨r4, w5, hc, hf⟩ := pu_b2_some hf
    refine cl_i (WC := [(q_cell, .inl (cB, 32, .inl w3))]) (WC2 := [(q_cell, .inl (cB, 32, .inl w5))]) (WR := [(q_this, .inr (5, [.ref q_pages, .ref q_node, .ref q_row, .ref q_path, .ref q_slots, .int v_depth, .int v_slot, .ref q_cell, .int r2, .ref q_waiting, .ref q_leaves])), (q_row, .inr (2, [.ref q_row_bytes, .int v_row_length, .ref q_row_codes, .ref q_row_starts, .int v_row_count])), (q_row_bytes, .inl (cB, 307, .inl v_row_bytes))]) (WS2 := [(q_this, .inr (5, [.ref q_pages, .ref q_node, .ref q_row, .ref q_path, .ref q_slots, .int v_depth, .int v_slot, .ref q_cell, .int r2, .ref q_waiting, .ref q_leaves])), (q_row, .inr (2, [.ref q_row_bytes, .int v_row_length, .ref q_row_codes, .ref q_row_starts, .int v_row_count])), (q_row_bytes, .inl (cB, 307, .inl v_row_bytes)), (q_cell, .inl (cB, 32, .inl w5))]) (pu_rsn (List.mem_of_getElem? (i := 38) rfl) (pu_in4 _ (List.mem_of_getElem? (i := 13) rfl)) (pu_in0 _ (List.mem_of_getElem? (i := 1) rfl)) (pu_in4 _ (List.mem_of_getElem? (i := 14) rfl)) hd_RF_writeVarint (by decide) ⟨rfl, rfl⟩ rfl rfl (Nat.le_of_ble_eq_true rfl) (As := [.ref q_cell, .int r2, .int x_1]) (rest := [.ref q_this]) (WC := [(q_cell, .inl (cB, 32, .inl w3))]) hx hb hml hown hts hN hK hP hD (c_RF_writeVarint l D cI cJ cB cZ H.size q_cell 32 w3 r2 x_1 r4 w5 hc) [3] rfl rfl hl.1 d_Tree_makeLeafCell_40) hP hD hS hA [3] [0, 1, 2] [0, 1, 2, 3] rfl rfl rfl (by decide) rfl rfl (fun H locs hP hD hS => ?_)
    refine pf_Tree_93 (v := .int r4) hx hb hts hN hown hK hP hD hS 0 rfl rfl rfl (Nat.le_of_ble_eq_true rfl) d_Tree_makeLeafCell_43 (fun H locs hP hD hS => ?_)
    have hP : va_P D pu_cl [(q_this, .inr (5, [.ref q_pages, .ref q_node, .ref q_row, .ref q_path, .ref q_slots, .int v_depth, .int v_slot, .ref q_cell, .int r4, .ref q_waiting, .ref q_leaves])), (q_row, .inr (2, [.ref q_row_bytes, .int v_row_length, .ref q_row_codes, .ref q_row_starts, .int v_row_count])), (q_row_bytes, .inl (cB, 307, .inl v_row_bytes)), (q_cell, .inl (cB, 32, .inl w5))] H := hP
    have hD : va_D A [(q_this, .inr (5, [.ref q_pages, .ref q_node, .ref q_row, .ref q_path, .ref q_slots, .int v_depth, .int v_slot, .ref q_cell, .int r4, .ref q_waiting, .ref q_leaves])), (q_row, .inr (2, [.ref q_row_bytes, .int v_row_length, .ref q_row_codes, .ref q_row_starts, .int v_row_count])), (q_row_bytes, .inl (cB, 307, .inl v_row_bytes)), (q_cell, .inl (cB, 32, .inl w5))] := hD
    refine lv_iload_n hx hb d_Tree_makeLeafCell_46 rfl (lv_at hl 0 rfl) ?_
    refine lv_if_lt (tgt := 64) hx hb d_Tree_makeLeafCell_47 rfl (fun hc => ?_) (fun hc => ?_)
    · have hf := pu_br_pos hf hc
      exact hret _ _ _ _ r4 w5 d_Tree_makeLeafCell_64 hP hD hS hf
    have hf := pu_br_neg hf hc
    refine lv_aload_n hx hb d_Tree_makeLeafCell_50 rfl (lv_at hl 1 rfl) ?_
    refine gf_Tree_93 (v := .int r4) hx hb hts hN hown hK hP 0 rfl rfl d_Tree_makeLeafCell_51 ?_
    refine lv_iload_n hx hb d_Tree_makeLeafCell_54 rfl (lv_at hl 0 rfl) ?_
    refine lv_iadd hx hb d_Tree_makeLeafCell_55 ?_
    refine lv_aload_n hx hb d_Tree_makeLeafCell_56 rfl (lv_at hl 1 rfl) ?_
    refine gf_Tree_20 (v := .ref q_cell) hx hb hts hN hown hK hP 0 rfl rfl d_Tree_makeLeafCell_57 ?_
    refine va_alen (v := (32 : Int32)) hx hb hK hP 3 2 rfl rfl rfl d_Tree_makeLeafCell_60 ?_
    refine lv_icmp_lt (tgt := 65) hx hb d_Tree_makeLeafCell_61 rfl (fun hc => ?_) (fun hc => ?_)
    · have hf := pu_br_pos hf hc
      refine lv_aload_n hx hb d_Tree_makeLeafCell_65 rfl (lv_at hl 1 rfl) ?_
      refine gf_Tree_38 (v := .ref q_row) hx hb hts hN hown hK hP 0 rfl rfl d_Tree_makeLeafCell_66 ?_
      refine gf_Tree_113 (v := .ref q_row_bytes) hx hb hts hN hown hK hP 1 rfl rfl d_Tree_makeLeafCell_69 ?_
      refine lv_iconst (v := 0) hx hb d_Tree_makeLeafCell_72 rfl ?_
      refine lv_aload_n hx hb d_Tree_makeLeafCell_73 rfl (lv_at hl 1 rfl) ?_
      refine gf_Tree_20 (v := .ref q_cell) hx hb hts hN hown hK hP 0 rfl rfl d_Tree_makeLeafCell_74 ?_
      refine lv_aload_n hx hb d_Tree_makeLeafCell_77 rfl (lv_at hl 1 rfl) ?_
      refine gf_Tree_93 (v := .int r4) hx hb hts hN hown hK hP 0 rfl rfl d_Tree_makeLeafCell_78 ?_
      refine lv_iload_n hx hb d_Tree_makeLeafCell_81 rfl (lv_at hl 0 rfl) ?_
      obtain ⟨hcp, hf⟩ := pu_ck_some hf
      obtain ⟨a6, e_a6, hf⟩ := pu_nm_some hf
      refine va_copyi hx hb (hml.trans hl.1.symm) hown (hts _ (pu_in4 _ (List.mem_of_getElem? (i := 50) rfl))) (hts _ (pu_in2 _ (List.mem_of_getElem? (i := 39) rfl))) (hts _ (pu_in2 _ (List.mem_of_getElem? (i := 38) rfl))) (hts _ (pu_in0 _ (List.mem_of_getElem? (i := 9) rfl))) hK hP hD hS 2 3 2 2 (ty := .byte) rfl rfl rfl rfl rfl hcp.1 hcp.2.1 hcp.2.2.1 hcp.2.2.2.1 hcp.2.2.2.2.1 hcp.2.2.2.2.2 (Nat.le_of_ble_eq_true rfl) (Nat.le_of_ble_eq_true rfl) d_Tree_makeLeafCell_82 (fun H locs hP hD hS => ?_)
      have hP : va_P D pu_cl [(q_this, .inr (5, [.ref q_pages, .ref q_node, .ref q_row, .ref q_path, .ref q_slots, .int v_depth, .int v_slot, .ref q_cell, .int r4, .ref q_waiting, .ref q_leaves])), (q_row, .inr (2, [.ref q_row_bytes, .int v_row_length, .ref q_row_codes, .ref q_row_starts, .int v_row_count])), (q_row_bytes, .inl (cB, 307, .inl v_row_bytes)), (q_cell, .inl (cB, 32, .inl a6))] H := by rw [e_a6]; exact hP
      have hD : va_D A [(q_this, .inr (5, [.ref q_pages, .ref q_node, .ref q_row, .ref q_path, .ref q_slots, .int v_depth, .int v_slot, .ref q_cell, .int r4, .ref q_waiting, .ref q_leaves])), (q_row, .inr (2, [.ref q_row_bytes, .int v_row_length, .ref q_row_codes, .ref q_row_starts, .int v_row_count])), (q_row_bytes, .inl (cB, 307, .inl v_row_bytes)), (q_cell, .inl (cB, 32, .inl a6))] := by rw [e_a6]; exact hD
      refine lv_aload_n hx hb d_Tree_makeLeafCell_85 rfl (lv_at hl 1 rfl) ?_
      refine lv_dup hx hb d_Tree_makeLeafCell_86 rfl ?_
      refine gf_Tree_93 (v := .int r4) hx hb hts hN hown hK hP 0 rfl rfl d_Tree_makeLeafCell_87 ?_
      refine lv_iload_n hx hb d_Tree_makeLeafCell_90 rfl (lv_at hl 0 rfl) ?_
      refine lv_iadd hx hb d_Tree_makeLeafCell_91 ?_
      obtain ⟨t7, e_t7, hf⟩ := pu_nm_some hf
      refine pu_ti e_t7 ?_
      refine pf_Tree_93 (v := .int t7) hx hb hts hN hown hK hP hD hS 0 rfl rfl rfl (Nat.le_of_ble_eq_true rfl) d_Tree_makeLeafCell_92 (fun H locs hP hD hS => ?_)
      have hP : va_P D pu_cl [(q_this, .inr (5, [.ref q_pages, .ref q_node, .ref q_row, .ref q_path, .ref q_slots, .int v_depth, .int v_slot, .ref q_cell, .int t7, .ref q_waiting, .ref q_leaves])), (q_row, .inr (2, [.ref q_row_bytes, .int v_row_length, .ref q_row_codes, .ref q_row_starts, .int v_row_count])), (q_row_bytes, .inl (cB, 307, .inl v_row_bytes)), (q_cell, .inl (cB, 32, .inl a6))] H := hP
      have hD : va_D A [(q_this, .inr (5, [.ref q_pages, .ref q_node, .ref q_row, .ref q_path, .ref q_slots, .int v_depth, .int v_slot, .ref q_cell, .int t7, .ref q_waiting, .ref q_leaves])), (q_row, .inr (2, [.ref q_row_bytes, .int v_row_length, .ref q_row_codes, .ref q_row_starts, .int v_row_count])), (q_row_bytes, .inl (cB, 307, .inl v_row_bytes)), (q_cell, .inl (cB, 32, .inl a6))] := hD
      refine lv_iload_n hx hb d_Tree_makeLeafCell_95 rfl (lv_at hl 3 rfl) ?_
      refine lv_if_eq (tgt := 120) hx hb d_Tree_makeLeafCell_96 rfl (fun hc => ?_) (fun hc => ?_)
      · have hf := pu_br_pos hf hc
        exact hret _ _ _ _ t7 a6 d_Tree_makeLeafCell_120 hP hD hS hf
      have hf := pu_br_neg hf hc
      refine lv_aload_n hx hb d_Tree_makeLeafCell_99 rfl (lv_at hl 1 rfl) ?_
      refine gf_Tree_20 (v := .ref q_cell) hx hb hts hN hown hK hP 0 rfl rfl d_Tree_makeLeafCell_100 ?_
      refine lv_aload_n hx hb d_Tree_makeLeafCell_103 rfl (lv_at hl 1 rfl) ?_
      refine gf_Tree_93 (v := .int t7) hx hb hts hN hown hK hP 0 rfl rfl d_Tree_makeLeafCell_104 ?_
      refine lv_iload_n hx hb d_Tree_makeLeafCell_107 rfl (lv_at hl 3 rfl) ?_
      refine lv_i2b hx hb d_Tree_makeLeafCell_108 rfl ?_
      obtain ⟨hin, hf⟩ := pu_ck_some hf
      obtain ⟨a8, e_a8, hf⟩ := pu_nm_some hf
      refine va_bast hx hb hK hP hD hS 3 2 rfl rfl hin d_Tree_makeLeafCell_109 (fun H locs hP hD hS => ?_)
      have hP : va_P D pu_cl [(q_this, .inr (5, [.ref q_pages, .ref q_node, .ref q_row, .ref q_path, .ref q_slots, .int v_depth, .int v_slot, .ref q_cell, .int t7, .ref q_waiting, .ref q_leaves])), (q_row, .inr (2, [.ref q_row_bytes, .int v_row_length, .ref q_row_codes, .ref q_row_starts, .int v_row_count])), (q_row_bytes, .inl (cB, 307, .inl v_row_bytes)), (q_cell, .inl (cB, 32, .inl a8))] H := by rw [e_a8]; exact hP
      have hD : va_D A [(q_this, .inr (5, [.ref q_pages, .ref q_node, .ref q_row, .ref q_path, .ref q_slots, .int v_depth, .int v_slot, .ref q_cell, .int t7, .ref q_waiting, .ref q_leaves])), (q_row, .inr (2, [.ref q_row_bytes, .int v_row_length, .ref q_row_codes, .ref q_row_starts, .int v_row_count])), (q_row_bytes, .inl (cB, 307, .inl v_row_bytes)), (q_cell, .inl (cB, 32, .inl a8))] := by rw [e_a8]; exact hD
      refine lv_aload_n hx hb d_Tree_makeLeafCell_110 rfl (lv_at hl 1 rfl) ?_
      refine lv_dup hx hb d_Tree_makeLeafCell_111 rfl ?_
      refine gf_Tree_93 (v := .int t7) hx hb hts hN hown hK hP 0 rfl rfl d_Tree_makeLeafCell_112 ?_
      refine lv_iconst (v := 1) hx hb d_Tree_makeLeafCell_115 rfl ?_
      refine lv_iadd hx hb d_Tree_makeLeafCell_116 ?_
      obtain ⟨t9, e_t9, hf⟩ := pu_nm_some hf
      refine pu_ti e_t9 ?_
      refine pf_Tree_93 (v := .int t9) hx hb hts hN hown hK hP hD hS 0 rfl rfl rfl (Nat.le_of_ble_eq_true rfl) d_Tree_makeLeafCell_117 (fun H locs hP hD hS => ?_)
      have hP : va_P D pu_cl [(q_this, .inr (5, [.ref q_pages, .ref q_node, .ref q_row, .ref q_path, .ref q_slots, .int v_depth, .int v_slot, .ref q_cell, .int t9, .ref q_waiting, .ref q_leaves])), (q_row, .inr (2, [.ref q_row_bytes, .int v_row_length, .ref q_row_codes, .ref q_row_starts, .int v_row_count])), (q_row_bytes, .inl (cB, 307, .inl v_row_bytes)), (q_cell, .inl (cB, 32, .inl a8))] H := hP
      have hD : va_D A [(q_this, .inr (5, [.ref q_pages, .ref q_node, .ref q_row, .ref q_path, .ref q_slots, .int v_depth, .int v_slot, .ref q_cell, .int t9, .ref q_waiting, .ref q_leaves])), (q_row, .inr (2, [.ref q_row_bytes, .int v_row_length, .ref q_row_codes, .ref q_row_starts, .int v_row_count])), (q_row_bytes, .inl (cB, 307, .inl v_row_bytes)), (q_cell, .inl (cB, 32, .inl a8))] := hD
      exact hret _ _ _ _ t9 a8 d_Tree_makeLeafCell_120 hP hD hS hf
    have hf := pu_br_neg hf hc
    exact hret _ _ _ _ r4 w5 d_Tree_makeLeafCell_64 hP hD hS hf
  rw [hH, hlocs] at goal
  exact goal
theorem d_Node_addCell_0 : decode b_Node_addCell 0 = .ok (.iload_n 1, 1) := by decide +kernel
theorem d_Node_addCell_1 : decode b_Node_addCell 1 = .ok (.ifCond .lt 35, 3) := by decide +kernel
theorem d_Node_addCell_4 : decode b_Node_addCell 4 = .ok (.iload_n 1, 1) := by decide +kernel
theorem d_Node_addCell_5 : decode b_Node_addCell 5 = .ok (.aload_n 0, 1) := by decide +kernel
theorem d_Node_addCell_6 : decode b_Node_addCell 6 = .ok (.getfield 36, 3) := by decide +kernel
theorem d_Node_addCell_9 : decode b_Node_addCell 9 = .ok (.if_icmp .gt 27, 3) := by decide +kernel
theorem d_Node_addCell_12 : decode b_Node_addCell 12 = .ok (.aload_n 0, 1) := by decide +kernel
theorem d_Node_addCell_13 : decode b_Node_addCell 13 = .ok (.getfield 36, 3) := by decide +kernel
theorem d_Node_addCell_16 : decode b_Node_addCell 16 = .ok (.aload_n 0, 1) := by decide +kernel
theorem d_Node_addCell_17 : decode b_Node_addCell 17 = .ok (.getfield 15, 3) := by decide +kernel
theorem d_Node_addCell_20 : decode b_Node_addCell 20 = .ok (.arraylength, 1) := by decide +kernel
theorem d_Node_addCell_21 : decode b_Node_addCell 21 = .ok (.if_icmp .ge 15, 3) := by decide +kernel
theorem d_Node_addCell_24 : decode b_Node_addCell 24 = .ok (.iload_n 3, 1) := by decide +kernel
theorem d_Node_addCell_25 : decode b_Node_addCell 25 = .ok (.bipush 32, 2) := by decide +kernel
theorem d_Node_addCell_27 : decode b_Node_addCell 27 = .ok (.if_icmp .gt 9, 3) := by decide +kernel
theorem d_Node_addCell_30 : decode b_Node_addCell 30 = .ok (.iload_n 3, 1) := by decide +kernel
theorem d_Node_addCell_31 : decode b_Node_addCell 31 = .ok (.aload_n 2, 1) := by decide +kernel
theorem d_Node_addCell_32 : decode b_Node_addCell 32 = .ok (.arraylength, 1) := by decide +kernel
theorem d_Node_addCell_33 : decode b_Node_addCell 33 = .ok (.if_icmp .le 4, 3) := by decide +kernel
theorem d_Node_addCell_36 : decode b_Node_addCell 36 = .ok (.return_, 1) := by decide +kernel
theorem d_Node_addCell_37 : decode b_Node_addCell 37 = .ok (.aload_n 0, 1) := by decide +kernel
theorem d_Node_addCell_38 : decode b_Node_addCell 38 = .ok (.getfield 15, 3) := by decide +kernel
theorem d_Node_addCell_41 : decode b_Node_addCell 41 = .ok (.iload_n 1, 1) := by decide +kernel
theorem d_Node_addCell_42 : decode b_Node_addCell 42 = .ok (.aload_n 0, 1) := by decide +kernel
theorem d_Node_addCell_43 : decode b_Node_addCell 43 = .ok (.getfield 15, 3) := by decide +kernel
theorem d_Node_addCell_46 : decode b_Node_addCell 46 = .ok (.iload_n 1, 1) := by decide +kernel
theorem d_Node_addCell_47 : decode b_Node_addCell 47 = .ok (.iconst 1, 1) := by decide +kernel
theorem d_Node_addCell_48 : decode b_Node_addCell 48 = .ok (.iadd, 1) := by decide +kernel
theorem d_Node_addCell_49 : decode b_Node_addCell 49 = .ok (.aload_n 0, 1) := by decide +kernel
theorem d_Node_addCell_50 : decode b_Node_addCell 50 = .ok (.getfield 36, 3) := by decide +kernel
theorem d_Node_addCell_53 : decode b_Node_addCell 53 = .ok (.iload_n 1, 1) := by decide +kernel
theorem d_Node_addCell_54 : decode b_Node_addCell 54 = .ok (.isub, 1) := by decide +kernel
theorem d_Node_addCell_55 : decode b_Node_addCell 55 = .ok (.invokestatic 63, 3) := by decide +kernel
theorem d_Node_addCell_58 : decode b_Node_addCell 58 = .ok (.aload_n 0, 1) := by decide +kernel
theorem d_Node_addCell_59 : decode b_Node_addCell 59 = .ok (.getfield 19, 3) := by decide +kernel
theorem d_Node_addCell_62 : decode b_Node_addCell 62 = .ok (.iload_n 1, 1) := by decide +kernel
theorem d_Node_addCell_63 : decode b_Node_addCell 63 = .ok (.aload_n 0, 1) := by decide +kernel
theorem d_Node_addCell_64 : decode b_Node_addCell 64 = .ok (.getfield 19, 3) := by decide +kernel
theorem d_Node_addCell_67 : decode b_Node_addCell 67 = .ok (.iload_n 1, 1) := by decide +kernel
theorem d_Node_addCell_68 : decode b_Node_addCell 68 = .ok (.iconst 1, 1) := by decide +kernel
theorem d_Node_addCell_69 : decode b_Node_addCell 69 = .ok (.iadd, 1) := by decide +kernel
theorem d_Node_addCell_70 : decode b_Node_addCell 70 = .ok (.aload_n 0, 1) := by decide +kernel
theorem d_Node_addCell_71 : decode b_Node_addCell 71 = .ok (.getfield 36, 3) := by decide +kernel
theorem d_Node_addCell_74 : decode b_Node_addCell 74 = .ok (.iload_n 1, 1) := by decide +kernel
theorem d_Node_addCell_75 : decode b_Node_addCell 75 = .ok (.isub, 1) := by decide +kernel
theorem d_Node_addCell_76 : decode b_Node_addCell 76 = .ok (.invokestatic 63, 3) := by decide +kernel
theorem d_Node_addCell_79 : decode b_Node_addCell 79 = .ok (.aload_n 2, 1) := by decide +kernel
theorem d_Node_addCell_80 : decode b_Node_addCell 80 = .ok (.iconst 0, 1) := by decide +kernel
theorem d_Node_addCell_81 : decode b_Node_addCell 81 = .ok (.aload_n 0, 1) := by decide +kernel
theorem d_Node_addCell_82 : decode b_Node_addCell 82 = .ok (.getfield 11, 3) := by decide +kernel
theorem d_Node_addCell_85 : decode b_Node_addCell 85 = .ok (.bipush 64, 2) := by decide +kernel
theorem d_Node_addCell_87 : decode b_Node_addCell 87 = .ok (.iload_n 3, 1) := by decide +kernel
theorem d_Node_addCell_88 : decode b_Node_addCell 88 = .ok (.invokestatic 63, 3) := by decide +kernel
theorem d_Node_addCell_91 : decode b_Node_addCell 91 = .ok (.aload_n 0, 1) := by decide +kernel
theorem d_Node_addCell_92 : decode b_Node_addCell 92 = .ok (.getfield 15, 3) := by decide +kernel
theorem d_Node_addCell_95 : decode b_Node_addCell 95 = .ok (.iload_n 1, 1) := by decide +kernel
theorem d_Node_addCell_96 : decode b_Node_addCell 96 = .ok (.bipush 64, 2) := by decide +kernel
theorem d_Node_addCell_98 : decode b_Node_addCell 98 = .ok (.iastore, 1) := by decide +kernel
theorem d_Node_addCell_99 : decode b_Node_addCell 99 = .ok (.aload_n 0, 1) := by decide +kernel
theorem d_Node_addCell_100 : decode b_Node_addCell 100 = .ok (.getfield 19, 3) := by decide +kernel
theorem d_Node_addCell_103 : decode b_Node_addCell 103 = .ok (.iload_n 1, 1) := by decide +kernel
theorem d_Node_addCell_104 : decode b_Node_addCell 104 = .ok (.iload_n 3, 1) := by decide +kernel
theorem d_Node_addCell_105 : decode b_Node_addCell 105 = .ok (.iastore, 1) := by decide +kernel
theorem d_Node_addCell_106 : decode b_Node_addCell 106 = .ok (.aload_n 0, 1) := by decide +kernel
theorem d_Node_addCell_107 : decode b_Node_addCell 107 = .ok (.dup, 1) := by decide +kernel
theorem d_Node_addCell_108 : decode b_Node_addCell 108 = .ok (.getfield 36, 3) := by decide +kernel
theorem d_Node_addCell_111 : decode b_Node_addCell 111 = .ok (.iconst 1, 1) := by decide +kernel
theorem d_Node_addCell_112 : decode b_Node_addCell 112 = .ok (.iadd, 1) := by decide +kernel
theorem d_Node_addCell_113 : decode b_Node_addCell 113 = .ok (.putfield 36, 3) := by decide +kernel
theorem d_Node_addCell_116 : decode b_Node_addCell 116 = .ok (.return_, 1) := by decide +kernel
noncomputable def f_Node_addCell (n_p2 : Nat) (v_p2 : Nat → Int32) (v_count : Int32) (v_bytes : Nat → Int32) (v_starts : Nat → Int32) (v_sizes : Nat → Int32) (x_1 : Int32) (x_3 : Int32) : Option (Int32 × (Nat → Int32) × (Nat → Int32) × (Nat → Int32)) :=
  pu_br (x_1 < 0) (some (v_count, v_bytes, v_starts, v_sizes)) (pu_br (v_count < x_1) (some (v_count, v_bytes, v_starts, v_sizes)) (pu_br ((31 : Int32) ≤ v_count) (some (v_count, v_bytes, v_starts, v_sizes)) (pu_br ((32 : Int32) < x_3) (some (v_count, v_bytes, v_starts, v_sizes)) (pu_br (x_3 ≤ (Int32.ofNat n_p2)) (pu_ck (pu_cp .int v_starts x_1 (x_1 + (1 : Int32)) (v_count - x_1) 31 31) (pu_nm (va_cpy v_starts v_starts x_1.toNatClampNeg (x_1 + (1 : Int32)).toNatClampNeg (v_count - x_1).toNatClampNeg) (fun a1 => pu_ck (pu_cp .int v_sizes x_1 (x_1 + (1 : Int32)) (v_count - x_1) 31 31) (pu_nm (va_cpy v_sizes v_sizes x_1.toNatClampNeg (x_1 + (1 : Int32)).toNatClampNeg (v_count - x_1).toNatClampNeg) (fun a2 => pu_ck (pu_cp .byte v_p2 (0 : Int32) (64 : Int32) x_3 n_p2 96) (pu_nm (va_cpy v_p2 v_bytes (0 : Int32).toNatClampNeg (64 : Int32).toNatClampNeg x_3.toNatClampNeg) (fun a3 => pu_ck (vp_in x_1 31) (pu_nm (upd a1 x_1.toNatClampNeg (64 : Int32)) (fun a4 => pu_ck (vp_in x_1 31) (pu_nm (upd a2 x_1.toNatClampNeg x_3) (fun a5 => pu_nm (v_count + (1 : Int32)) (fun t6 => some (t6, a3, a4, a5))))))))))))) (some (v_count, v_bytes, v_starts, v_sizes))))))
abbrev rm_Node_addCell : Room := { frames := 1, cells := 0, slots := 0, locals := 68 }
set_option maxHeartbeats 8000000 in
set_option maxRecDepth 100000 in
theorem c_Node_addCell (l : Launch) (D : va_G) (cI cJ cB cZ : ClassId) (sz : Nat) (q_this : Nat) (q_bytes : Nat) (q_starts : Nat) (q_sizes : Nat) (q_p2 : Nat) (n_p2 : Nat) (v_count : Int32) (v_last : Int32) (v_leaf : Int32) (v_bytes : Nat → Int32) (v_starts : Nat → Int32) (v_sizes : Nat → Int32) (v_p2 : Nat → Int32) (x_1 : Int32) (x_3 : Int32) (o_count : Int32) (o_bytes : Nat → Int32) (o_starts : Nat → Int32) (o_sizes : Nat → Int32) (hf : f_Node_addCell n_p2 v_p2 v_count v_bytes v_starts v_sizes x_1 x_3 = some (o_count, o_bytes, o_starts, o_sizes)) : Met l y_Node_addCell (.code y_Node_addCell b_Node_addCell 4 none :: pu_wA) rm_Node_addCell (pu_pc D pu_cl (pu_ty cI cJ cB cZ) [.ref q_this, .int x_1, .ref q_p2, .int x_3] [(q_this, .inr (3, [.ref q_bytes, .ref q_starts, .ref q_sizes, .int v_count, .int v_last, .int v_leaf])), (q_bytes, .inl (cB, 96, .inl v_bytes)), (q_starts, .inl (cI, 31, .inl v_starts)), (q_sizes, .inl (cI, 31, .inl v_sizes)), (q_p2, .inl (cB, n_p2, .inl v_p2))] sz) (pu_qv D pu_cl (pu_ty cI cJ cB cZ) [(q_this, .inr (3, [.ref q_bytes, .ref q_starts, .ref q_sizes, .int v_count, .int v_last, .int v_leaf])), (q_bytes, .inl (cB, 96, .inl v_bytes)), (q_starts, .inl (cI, 31, .inl v_starts)), (q_sizes, .inl (cI, 31, .inl v_sizes)), (q_p2, .inl (cB, n_p2, .inl v_p2))] [(q_this, .inr (3, [.ref q_bytes, .ref q_starts, .ref q_sizes, .int o_count, .int v_last, .int v_leaf])), (q_bytes, .inl (cB, 96, .inl o_bytes)), (q_starts, .inl (cI, 31, .inl o_starts)), (q_sizes, .inl (cI, 31, .inl o_sizes)), (q_p2, .inl (cB, n_p2, .inl v_p2))] sz) 0 0 (va_A [(q_this, .inr (3, [.ref q_bytes, .ref q_starts, .ref q_sizes, .int v_count, .int v_last, .int v_leaf])), (q_bytes, .inl (cB, 96, .inl v_bytes)), (q_starts, .inl (cI, 31, .inl v_starts)), (q_sizes, .inl (cI, 31, .inl v_sizes)), (q_p2, .inl (cB, n_p2, .inl v_p2))] sz) := by
  refine pu_mtv [.ref q_this, .int x_1, .ref q_p2, .int x_3] [(q_this, .inr (3, [.ref q_bytes, .ref q_starts, .ref q_sizes, .int v_count, .int v_last, .int v_leaf])), (q_bytes, .inl (cB, 96, .inl v_bytes)), (q_starts, .inl (cI, 31, .inl v_starts)), (q_sizes, .inl (cI, 31, .inl v_sizes)), (q_p2, .inl (cB, n_p2, .inl v_p2))] [(q_this, .inr (3, [.ref q_bytes, .ref q_starts, .ref q_sizes, .int o_count, .int v_last, .int v_leaf])), (q_bytes, .inl (cB, 96, .inl o_bytes)), (q_starts, .inl (cI, 31, .inl o_starts)), (q_sizes, .inl (cI, 31, .inl o_sizes)), (q_p2, .inl (cB, n_p2, .inl v_p2))] (by decide) (Nat.le_of_ble_eq_true rfl) ?_
  intro p e s m args below meth c A Q ls hx hb hml hts hN hown hK hA hP hD hl hret0
  have hS : va_S A s.heap s.heap [] := va_S.rf
  have hl : lv_has ls 4 [(0, .ref q_this), (1, .int x_1), (2, .ref q_p2), (3, .int x_3)] := hl
  have hret : ∀ (pc : Nat) (ls : Array Slot) (H : Heap) (locs : List Loc) (y_0 : Int32) (y_1 : Nat → Int32) (y_2 : Nat → Int32) (y_3 : Nat → Int32), decode b_Node_addCell pc = .ok (.return_, 1) → va_P D pu_cl [(q_this, .inr (3, [.ref q_bytes, .ref q_starts, .ref q_sizes, .int y_0, .int v_last, .int v_leaf])), (q_bytes, .inl (cB, 96, .inl y_1)), (q_starts, .inl (cI, 31, .inl y_2)), (q_sizes, .inl (cI, 31, .inl y_3)), (q_p2, .inl (cB, n_p2, .inl v_p2))] H → va_D A [(q_this, .inr (3, [.ref q_bytes, .ref q_starts, .ref q_sizes, .int y_0, .int v_last, .int v_leaf])), (q_bytes, .inl (cB, 96, .inl y_1)), (q_starts, .inl (cI, 31, .inl y_2)), (q_sizes, .inl (cI, 31, .inl y_3)), (q_p2, .inl (cB, n_p2, .inl v_p2))] → va_S A s.heap H locs → some (y_0, y_1, y_2, y_3) = some (o_count, o_bytes, o_starts, o_sizes) → W p l e rm_Node_addCell s m args below meth c H locs 0 0 Q (F0 m pc ls []) := by
    intro pc ls H locs y_0 y_1 y_2 y_3 hd hP hD hS hf
    cases hf
    exact hret0 pc ls H locs hd hP hD hS
  clear hret0
  unfold f_Node_addCell at hf
  skip
  obtain ⟨H, hH⟩ : ∃ H, H = s.heap := ⟨_, rfl⟩
  obtain ⟨locs, hlocs⟩ : ∃ locs : List Loc, locs = [] := ⟨_, rfl⟩
  have hP : va_P D pu_cl [(q_this, .inr (3, [.ref q_bytes, .ref q_starts, .ref q_sizes, .int v_count, .int v_last, .int v_leaf])), (q_bytes, .inl (cB, 96, .inl v_bytes)), (q_starts, .inl (cI, 31, .inl v_starts)), (q_sizes, .inl (cI, 31, .inl v_sizes)), (q_p2, .inl (cB, n_p2, .inl v_p2))] H := by rw [hH]; exact hP
  have hS : va_S A s.heap H locs := by rw [hH, hlocs]; exact hS
  have goal : W p l e rm_Node_addCell s m args below meth c H locs 0 0 Q (F0 m 0 ls []) := by
    clear hH hlocs
    refine lv_iload_n hx hb d_Node_addCell_0 rfl (lv_at hl 1 rfl) ?_
    refine lv_if_lt (tgt := 36) hx hb d_Node_addCell_1 rfl (fun hc => ?_) (fun hc => ?_)
    · have hf := pu_br_pos hf hc
      exact hret _ _ _ _ v_count v_bytes v_starts v_sizes d_Node_addCell_36 hP hD hS hf
    have hf := pu_br_neg hf hc
    refine lv_iload_n hx hb d_Node_addCell_4 rfl (lv_at hl 1 rfl) ?_
    refine lv_aload_n hx hb d_Node_addCell_5 rfl (lv_at hl 0 rfl) ?_
    refine gf_Node_36 (v := .int v_count) hx hb hts hN hown hK hP 0 rfl rfl d_Node_addCell_6 ?_
    refine lv_icmp_gt (tgt := 36) hx hb d_Node_addCell_9 rfl (fun hc => ?_) (fun hc => ?_)
    · have hf := pu_br_pos hf hc
      exact hret _ _ _ _ v_count v_bytes v_starts v_sizes d_Node_addCell_36 hP hD hS hf
    have hf := pu_br_neg hf hc
    refine lv_aload_n hx hb d_Node_addCell_12 rfl (lv_at hl 0 rfl) ?_
    refine gf_Node_36 (v := .int v_count) hx hb hts hN hown hK hP 0 rfl rfl d_Node_addCell_13 ?_
    refine lv_aload_n hx hb d_Node_addCell_16 rfl (lv_at hl 0 rfl) ?_
    refine gf_Node_15 (v := .ref q_starts) hx hb hts hN hown hK hP 0 rfl rfl d_Node_addCell_17 ?_
    refine va_alen (v := (31 : Int32)) hx hb hK hP 2 0 rfl rfl rfl d_Node_addCell_20 ?_
    refine lv_icmp_ge (tgt := 36) hx hb d_Node_addCell_21 rfl (fun hc => ?_) (fun hc => ?_)
    · have hf := pu_br_pos hf hc
      exact hret _ _ _ _ v_count v_bytes v_starts v_sizes d_Node_addCell_36 hP hD hS hf
    have hf := pu_br_neg hf hc
    refine lv_iload_n hx hb d_Node_addCell_24 rfl (lv_at hl 3 rfl) ?_
    refine lv_bipush (v := 32) hx hb d_Node_addCell_25 rfl ?_
    refine lv_icmp_gt (tgt := 36) hx hb d_Node_addCell_27 rfl (fun hc => ?_) (fun hc => ?_)
    · have hf := pu_br_pos hf hc
      exact hret _ _ _ _ v_count v_bytes v_starts v_sizes d_Node_addCell_36 hP hD hS hf
    have hf := pu_br_neg hf hc
    refine lv_iload_n hx hb d_Node_addCell_30 rfl (lv_at hl 3 rfl) ?_
    refine lv_aload_n hx hb d_Node_addCell_31 rfl (lv_at hl 2 rfl) ?_
    refine va_alen (v := Int32.ofNat n_p2) hx hb hK hP 4 2 rfl rfl rfl d_Node_addCell_32 ?_
    refine lv_icmp_le (tgt := 37) hx hb d_Node_addCell_33 rfl (fun hc => ?_) (fun hc => ?_)
    · have hf := pu_br_pos hf hc
      refine lv_aload_n hx hb d_Node_addCell_37 rfl (lv_at hl 0 rfl) ?_
      refine gf_Node_15 (v := .ref q_starts) hx hb hts hN hown hK hP 0 rfl rfl d_Node_addCell_38 ?_
      refine lv_iload_n hx hb d_Node_addCell_41 rfl (lv_at hl 1 rfl) ?_
      refine lv_aload_n hx hb d_Node_addCell_42 rfl (lv_at hl 0 rfl) ?_
      refine gf_Node_15 (v := .ref q_starts) hx hb hts hN hown hK hP 0 rfl rfl d_Node_addCell_43 ?_
      refine lv_iload_n hx hb d_Node_addCell_46 rfl (lv_at hl 1 rfl) ?_
      refine lv_iconst (v := 1) hx hb d_Node_addCell_47 rfl ?_
      refine lv_iadd hx hb d_Node_addCell_48 ?_
      refine lv_aload_n hx hb d_Node_addCell_49 rfl (lv_at hl 0 rfl) ?_
      refine gf_Node_36 (v := .int v_count) hx hb hts hN hown hK hP 0 rfl rfl d_Node_addCell_50 ?_
      refine lv_iload_n hx hb d_Node_addCell_53 rfl (lv_at hl 1 rfl) ?_
      refine lv_isub hx hb d_Node_addCell_54 ?_
      obtain ⟨hcp, hf⟩ := pu_ck_some hf
      obtain ⟨a1, e_a1, hf⟩ := pu_nm_some hf
      refine va_copyi hx hb (hml.trans hl.1.symm) hown (hts _ (pu_in4 _ (List.mem_of_getElem? (i := 55) rfl))) (hts _ (pu_in2 _ (List.mem_of_getElem? (i := 39) rfl))) (hts _ (pu_in2 _ (List.mem_of_getElem? (i := 38) rfl))) (hts _ (pu_in0 _ (List.mem_of_getElem? (i := 9) rfl))) hK hP hD hS 2 2 0 0 (ty := .int) rfl rfl rfl rfl rfl hcp.1 hcp.2.1 hcp.2.2.1 hcp.2.2.2.1 hcp.2.2.2.2.1 hcp.2.2.2.2.2 (Nat.le_of_ble_eq_true rfl) (Nat.le_of_ble_eq_true rfl) d_Node_addCell_55 (fun H locs hP hD hS => ?_)
      have hP : va_P D pu_cl [(q_this, .inr (3, [.ref q_bytes, .ref q_starts, .ref q_sizes, .int v_count, .int v_last, .int v_leaf])), (q_bytes, .inl (cB, 96, .inl v_bytes)), (q_starts, .inl (cI, 31, .inl a1)), (q_sizes, .inl (cI, 31, .inl v_sizes)), (q_p2, .inl (cB, n_p2, .inl v_p2))] H := by rw [e_a1]; exact hP
      have hD : va_D A [(q_this, .inr (3, [.ref q_bytes, .ref q_starts, .ref q_sizes, .int v_count, .int v_last, .int v_leaf])), (q_bytes, .inl (cB, 96, .inl v_bytes)), (q_starts, .inl (cI, 31, .inl a1)), (q_sizes, .inl (cI, 31, .inl v_sizes)), (q_p2, .inl (cB, n_p2, .inl v_p2))] := by rw [e_a1]; exact hD
      refine lv_aload_n hx hb d_Node_addCell_58 rfl (lv_at hl 0 rfl) ?_
      refine gf_Node_19 (v := .ref q_sizes) hx hb hts hN hown hK hP 0 rfl rfl d_Node_addCell_59 ?_
      refine lv_iload_n hx hb d_Node_addCell_62 rfl (lv_at hl 1 rfl) ?_
      refine lv_aload_n hx hb d_Node_addCell_63 rfl (lv_at hl 0 rfl) ?_
      refine gf_Node_19 (v := .ref q_sizes) hx hb hts hN hown hK hP 0 rfl rfl d_Node_addCell_64 ?_
      refine lv_iload_n hx hb d_Node_addCell_67 rfl (lv_at hl 1 rfl) ?_
      refine lv_iconst (v := 1) hx hb d_Node_addCell_68 rfl ?_
      refine lv_iadd hx hb d_Node_addCell_69 ?_
      refine lv_aload_n hx hb d_Node_addCell_70 rfl (lv_at hl 0 rfl) ?_
      refine gf_Node_36 (v := .int v_count) hx hb hts hN hown hK hP 0 rfl rfl d_Node_addCell_71 ?_
      refine lv_iload_n hx hb d_Node_addCell_74 rfl (lv_at hl 1 rfl) ?_
      refine lv_isub hx hb d_Node_addCell_75 ?_
      obtain ⟨hcp, hf⟩ := pu_ck_some hf
      obtain ⟨a2, e_a2, hf⟩ := pu_nm_some hf
      refine va_copyi hx hb (hml.trans hl.1.symm) hown (hts _ (pu_in4 _ (List.mem_of_getElem? (i := 55) rfl))) (hts _ (pu_in2 _ (List.mem_of_getElem? (i := 39) rfl))) (hts _ (pu_in2 _ (List.mem_of_getElem? (i := 38) rfl))) (hts _ (pu_in0 _ (List.mem_of_getElem? (i := 9) rfl))) hK hP hD hS 3 3 0 0 (ty := .int) rfl rfl rfl rfl rfl hcp.1 hcp.2.1 hcp.2.2.1 hcp.2.2.2.1 hcp.2.2.2.2.1 hcp.2.2.2.2.2 (Nat.le_of_ble_eq_true rfl) (Nat.le_of_ble_eq_true rfl) d_Node_addCell_76 (fun H locs hP hD hS => ?_)
      have hP : va_P D pu_cl [(q_this, .inr (3, [.ref q_bytes, .ref q_starts, .ref q_sizes, .int v_count, .int v_last, .int v_leaf])), (q_bytes, .inl (cB, 96, .inl v_bytes)), (q_starts, .inl (cI, 31, .inl a1)), (q_sizes, .inl (cI, 31, .inl a2)), (q_p2, .inl (cB, n_p2, .inl v_p2))] H := by rw [e_a2]; exact hP
      have hD : va_D A [(q_this, .inr (3, [.ref q_bytes, .ref q_starts, .ref q_sizes, .int v_count, .int v_last, .int v_leaf])), (q_bytes, .inl (cB, 96, .inl v_bytes)), (q_starts, .inl (cI, 31, .inl a1)), (q_sizes, .inl (cI, 31, .inl a2)), (q_p2, .inl (cB, n_p2, .inl v_p2))] := by rw [e_a2]; exact hD
      refine lv_aload_n hx hb d_Node_addCell_79 rfl (lv_at hl 2 rfl) ?_
      refine lv_iconst (v := 0) hx hb d_Node_addCell_80 rfl ?_
      refine lv_aload_n hx hb d_Node_addCell_81 rfl (lv_at hl 0 rfl) ?_
      refine gf_Node_11 (v := .ref q_bytes) hx hb hts hN hown hK hP 0 rfl rfl d_Node_addCell_82 ?_
      refine lv_bipush (v := 64) hx hb d_Node_addCell_85 rfl ?_
      refine lv_iload_n hx hb d_Node_addCell_87 rfl (lv_at hl 3 rfl) ?_
      obtain ⟨hcp, hf⟩ := pu_ck_some hf
      obtain ⟨a3, e_a3, hf⟩ := pu_nm_some hf
      refine va_copyi hx hb (hml.trans hl.1.symm) hown (hts _ (pu_in4 _ (List.mem_of_getElem? (i := 55) rfl))) (hts _ (pu_in2 _ (List.mem_of_getElem? (i := 39) rfl))) (hts _ (pu_in2 _ (List.mem_of_getElem? (i := 38) rfl))) (hts _ (pu_in0 _ (List.mem_of_getElem? (i := 9) rfl))) hK hP hD hS 4 1 2 2 (ty := .byte) rfl rfl rfl rfl rfl hcp.1 hcp.2.1 hcp.2.2.1 hcp.2.2.2.1 hcp.2.2.2.2.1 hcp.2.2.2.2.2 (Nat.le_of_ble_eq_true rfl) (Nat.le_of_ble_eq_true rfl) d_Node_addCell_88 (fun H locs hP hD hS => ?_)
      have hP : va_P D pu_cl [(q_this, .inr (3, [.ref q_bytes, .ref q_starts, .ref q_sizes, .int v_count, .int v_last, .int v_leaf])), (q_bytes, .inl (cB, 96, .inl a3)), (q_starts, .inl (cI, 31, .inl a1)), (q_sizes, .inl (cI, 31, .inl a2)), (q_p2, .inl (cB, n_p2, .inl v_p2))] H := by rw [e_a3]; exact hP
      have hD : va_D A [(q_this, .inr (3, [.ref q_bytes, .ref q_starts, .ref q_sizes, .int v_count, .int v_last, .int v_leaf])), (q_bytes, .inl (cB, 96, .inl a3)), (q_starts, .inl (cI, 31, .inl a1)), (q_sizes, .inl (cI, 31, .inl a2)), (q_p2, .inl (cB, n_p2, .inl v_p2))] := by rw [e_a3]; exact hD
      refine lv_aload_n hx hb d_Node_addCell_91 rfl (lv_at hl 0 rfl) ?_
      refine gf_Node_15 (v := .ref q_starts) hx hb hts hN hown hK hP 0 rfl rfl d_Node_addCell_92 ?_
      refine lv_iload_n hx hb d_Node_addCell_95 rfl (lv_at hl 1 rfl) ?_
      refine lv_bipush (v := 64) hx hb d_Node_addCell_96 rfl ?_
      obtain ⟨hin, hf⟩ := pu_ck_some hf
      obtain ⟨a4, e_a4, hf⟩ := pu_nm_some hf
      refine va_iast hx hb hK hP hD hS 2 0 rfl rfl hin d_Node_addCell_98 (fun H locs hP hD hS => ?_)
      have hP : va_P D pu_cl [(q_this, .inr (3, [.ref q_bytes, .ref q_starts, .ref q_sizes, .int v_count, .int v_last, .int v_leaf])), (q_bytes, .inl (cB, 96, .inl a3)), (q_starts, .inl (cI, 31, .inl a4)), (q_sizes, .inl (cI, 31, .inl a2)), (q_p2, .inl (cB, n_p2, .inl v_p2))] H := by rw [e_a4]; exact hP
      have hD : va_D A [(q_this, .inr (3, [.ref q_bytes, .ref q_starts, .ref q_sizes, .int v_count, .int v_last, .int v_leaf])), (q_bytes, .inl (cB, 96, .inl a3)), (q_starts, .inl (cI, 31, .inl a4)), (q_sizes, .inl (cI, 31, .inl a2)), (q_p2, .inl (cB, n_p2, .inl v_p2))] := by rw [e_a4]; exact hD
      refine lv_aload_n hx hb d_Node_addCell_99 rfl (lv_at hl 0 rfl) ?_
      refine gf_Node_19 (v := .ref q_sizes) hx hb hts hN hown hK hP 0 rfl rfl d_Node_addCell_100 ?_
      refine lv_iload_n hx hb d_Node_addCell_103 rfl (lv_at hl 1 rfl) ?_
      refine lv_iload_n hx hb d_Node_addCell_104 rfl (lv_at hl 3 rfl) ?_
      obtain ⟨hin, hf⟩ := pu_ck_some hf
      obtain ⟨a5, e_a5, hf⟩ := pu_nm_some hf
      refine va_iast hx hb hK hP hD hS 3 0 rfl rfl hin d_Node_addCell_105 (fun H locs hP hD hS => ?_)
      have hP : va_P D pu_cl [(q_this, .inr (3, [.ref q_bytes, .ref q_starts, .ref q_sizes, .int v_count, .int v_last, .int v_leaf])), (q_bytes, .inl (cB, 96, .inl a3)), (q_starts, .inl (cI, 31, .inl a4)), (q_sizes, .inl (cI, 31, .inl a5)), (q_p2, .inl (cB, n_p2, .inl v_p2))] H := by rw [e_a5]; exact hP
      have hD : va_D A [(q_this, .inr (3, [.ref q_bytes, .ref q_starts, .ref q_sizes, .int v_count, .int v_last, .int v_leaf])), (q_bytes, .inl (cB, 96, .inl a3)), (q_starts, .inl (cI, 31, .inl a4)), (q_sizes, .inl (cI, 31, .inl a5)), (q_p2, .inl (cB, n_p2, .inl v_p2))] := by rw [e_a5]; exact hD
      refine lv_aload_n hx hb d_Node_addCell_106 rfl (lv_at hl 0 rfl) ?_
      refine lv_dup hx hb d_Node_addCell_107 rfl ?_
      refine gf_Node_36 (v := .int v_count) hx hb hts hN hown hK hP 0 rfl rfl d_Node_addCell_108 ?_
      refine lv_iconst (v := 1) hx hb d_Node_addCell_111 rfl ?_
      refine lv_iadd hx hb d_Node_addCell_112 ?_
      obtain ⟨t6, e_t6, hf⟩ := pu_nm_some hf
      refine pu_ti e_t6 ?_
      refine pf_Node_36 (v := .int t6) hx hb hts hN hown hK hP hD hS 0 rfl rfl rfl (Nat.le_of_ble_eq_true rfl) d_Node_addCell_113 (fun H locs hP hD hS => ?_)
      have hP : va_P D pu_cl [(q_this, .inr (3, [.ref q_bytes, .ref q_starts, .ref q_sizes, .int t6, .int v_last, .int v_leaf])), (q_bytes, .inl (cB, 96, .inl a3)), (q_starts, .inl (cI, 31, .inl a4)), (q_sizes, .inl (cI, 31, .inl a5)), (q_p2, .inl (cB, n_p2, .inl v_p2))] H := hP
      have hD : va_D A [(q_this, .inr (3, [.ref q_bytes, .ref q_starts, .ref q_sizes, .int t6, .int v_last, .int v_leaf])), (q_bytes, .inl (cB, 96, .inl a3)), (q_starts, .inl (cI, 31, .inl a4)), (q_sizes, .inl (cI, 31, .inl a5)), (q_p2, .inl (cB, n_p2, .inl v_p2))] := hD
      exact hret _ _ _ _ t6 a3 a4 a5 d_Node_addCell_116 hP hD hS hf
    have hf := pu_br_neg hf hc
    exact hret _ _ _ _ v_count v_bytes v_starts v_sizes d_Node_addCell_36 hP hD hS hf
  rw [hH, hlocs] at goal
  exact goal
