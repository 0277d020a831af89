theorem d_Node_hasCell_0 : decode b_Node_hasCell 0 = .ok (.iload_n 1, 1) := by decide +kernel
theorem d_Node_hasCell_1 : decode b_Node_hasCell 1 = .ok (.ifCond .lt 15, 3) := by decide +kernel
theorem d_Node_hasCell_4 : decode b_Node_hasCell 4 = .ok (.iload_n 1, 1) := by decide +kernel
theorem d_Node_hasCell_5 : decode b_Node_hasCell 5 = .ok (.aload_n 0, 1) := by decide +kernel
theorem d_Node_hasCell_6 : decode b_Node_hasCell 6 = .ok (.getfield 36, 3) := by decide +kernel
theorem d_Node_hasCell_9 : decode b_Node_hasCell 9 = .ok (.if_icmp .ge 7, 3) := by decide +kernel
theorem d_Node_hasCell_12 : decode b_Node_hasCell 12 = .ok (.iconst 1, 1) := by decide +kernel
theorem d_Node_hasCell_13 : decode b_Node_hasCell 13 = .ok (.goto 4, 3) := by decide +kernel
theorem d_Node_hasCell_16 : decode b_Node_hasCell 16 = .ok (.iconst 0, 1) := by decide +kernel
theorem d_Node_hasCell_17 : decode b_Node_hasCell 17 = .ok (.ireturn, 1) := by decide +kernel
noncomputable def f_Node_hasCell (v_count : Int32) (x_1 : Int32) : Option (Int32) :=
  pu_br (x_1 < 0) (some (0 : Int32)) (pu_br (v_count ≤ x_1) (some (0 : Int32)) (some (1 : Int32)))
abbrev rm_Node_hasCell : Room := { frames := 0, cells := 0, slots := 0, locals := 0 }
set_option maxHeartbeats 8000000 in
set_option maxRecDepth 100000 in
theorem c_Node_hasCell (l : Launch) (D : va_G) (cI cJ cB cZ : ClassId) (sz : Nat) (q_this : Nat) (q_bytes : Nat) (q_starts : Nat) (q_sizes : Nat) (v_count : Int32) (v_last : Int32) (v_leaf : Int32) (x_1 : Int32) (o_r : Int32) (hf : f_Node_hasCell v_count x_1 = some o_r) : Met l y_Node_hasCell (.code y_Node_hasCell b_Node_hasCell 2 (some .boolean) :: pu_wA) rm_Node_hasCell (pu_pc D pu_cl (pu_ty cI cJ cB cZ) [.ref q_this, .int x_1] [(q_this, .inr (3, [.ref q_bytes, .ref q_starts, .ref q_sizes, .int v_count, .int v_last, .int v_leaf]))] sz) (pu_qi D pu_cl (pu_ty cI cJ cB cZ) [(q_this, .inr (3, [.ref q_bytes, .ref q_starts, .ref q_sizes, .int v_count, .int v_last, .int v_leaf]))] [(q_this, .inr (3, [.ref q_bytes, .ref q_starts, .ref q_sizes, .int v_count, .int v_last, .int v_leaf]))] sz o_r) 0 0 (va_A [(q_this, .inr (3, [.ref q_bytes, .ref q_starts, .ref q_sizes, .int v_count, .int v_last, .int v_leaf]))] sz) := by
  refine pu_mtz [.ref q_this, .int x_1] [(q_this, .inr (3, [.ref q_bytes, .ref q_starts, .ref q_sizes, .int v_count, .int v_last, .int v_leaf]))] [(q_this, .inr (3, [.ref q_bytes, .ref q_starts, .ref q_sizes, .int v_count, .int v_last, .int v_leaf]))] o_r (by decide) (Nat.le_of_ble_eq_true rfl) ?_
  intro p e s m args below meth c A Q ls hx hb hml hts hN hown hK hA hP hD hl hret0
  have hS : va_S A s.heap s.heap [] := va_S.rf
  have hl : lv_has ls 2 [(0, .ref q_this), (1, .int x_1)] := hl
  have hret : ∀ (pc : Nat) (ls : Array Slot) (H : Heap) (locs : List Loc) (y_0 : Int32), decode b_Node_hasCell pc = .ok (.ireturn, 1) → narrow .boolean (.int y_0) = .int y_0 → va_P D pu_cl [(q_this, .inr (3, [.ref q_bytes, .ref q_starts, .ref q_sizes, .int v_count, .int v_last, .int v_leaf]))] H → va_D A [(q_this, .inr (3, [.ref q_bytes, .ref q_starts, .ref q_sizes, .int v_count, .int v_last, .int v_leaf]))] → va_S A s.heap H locs → some y_0 = some o_r → W p l e rm_Node_hasCell s m args below meth c H locs 0 0 Q (F0 m pc ls [.int y_0]) := by
    intro pc ls H locs y_0 hd hz hP hD hS hf
    cases hf
    exact hret0 pc ls H locs hd hz hP hD hS
  clear hret0
  unfold f_Node_hasCell at hf
  skip
  obtain ⟨H, hH⟩ : ∃ H, H = s.heap := ⟨_, rfl⟩
  obtain ⟨locs, hlocs⟩ : ∃ locs : List Loc, locs = [] := ⟨_, rfl⟩
  have hP : va_P D pu_cl [(q_this, .inr (3, [.ref q_bytes, .ref q_starts, .ref q_sizes, .int v_count, .int v_last, .int v_leaf]))] H := by rw [hH]; exact hP
  have hS : va_S A s.heap H locs := by rw [hH, hlocs]; exact hS
  have goal : W p l e rm_Node_hasCell s m args below meth c H locs 0 0 Q (F0 m 0 ls []) := by
    clear hH hlocs
    refine lv_iload_n hx hb d_Node_hasCell_0 rfl (lv_at hl 1 rfl) ?_
    refine lv_if_lt (tgt := 16) hx hb d_Node_hasCell_1 rfl (fun hc => ?_) (fun hc => ?_)
    · have hf := pu_br_pos hf hc
      refine lv_iconst (v := 0) hx hb d_Node_hasCell_16 rfl ?_
      exact hret _ _ _ _ (0 : Int32)  d_Node_hasCell_17 (by decide) hP hD hS hf
    have hf := pu_br_neg hf hc
    refine lv_iload_n hx hb d_Node_hasCell_4 rfl (lv_at hl 1 rfl) ?_
    refine lv_aload_n hx hb d_Node_hasCell_5 rfl (lv_at hl 0 rfl) ?_
    refine gf_Node_36 (v := .int v_count) hx hb hts hN hown hK hP 0 rfl rfl d_Node_hasCell_6 ?_
    refine lv_icmp_ge (tgt := 16) hx hb d_Node_hasCell_9 rfl (fun hc => ?_) (fun hc => ?_)
    · have hf := pu_br_pos hf hc
      refine lv_iconst (v := 0) hx hb d_Node_hasCell_16 rfl ?_
      exact hret _ _ _ _ (0 : Int32)  d_Node_hasCell_17 (by decide) hP hD hS hf
    have hf := pu_br_neg hf hc
    refine lv_iconst (v := 1) hx hb d_Node_hasCell_12 rfl ?_
    refine lv_goto (tgt := 17) hx hb d_Node_hasCell_13 rfl ?_
    exact hret _ _ _ _ (1 : Int32)  d_Node_hasCell_17 (by decide) hP hD hS hf
  rw [hH, hlocs] at goal
  exact goal
theorem d_RF_readVarint_0 : decode b_RF_readVarint 0 = .ok (.iload_n 1, 1) := by decide +kernel
theorem d_RF_readVarint_1 : decode b_RF_readVarint 1 = .ok (.ifCond .lt 9, 3) := by decide +kernel
theorem d_RF_readVarint_4 : decode b_RF_readVarint 4 = .ok (.iload_n 2, 1) := by decide +kernel
theorem d_RF_readVarint_5 : decode b_RF_readVarint 5 = .ok (.aload_n 0, 1) := by decide +kernel
theorem d_RF_readVarint_6 : decode b_RF_readVarint 6 = .ok (.arraylength, 1) := by decide +kernel
theorem d_RF_readVarint_7 : decode b_RF_readVarint 7 = .ok (.if_icmp .le 5, 3) := by decide +kernel
theorem d_RF_readVarint_10 : decode b_RF_readVarint 10 = .ok (.iconst (-1), 1) := by decide +kernel
theorem d_RF_readVarint_11 : decode b_RF_readVarint 11 = .ok (.ireturn, 1) := by decide +kernel
theorem d_RF_readVarint_12 : decode b_RF_readVarint 12 = .ok (.iconst 0, 1) := by decide +kernel
theorem d_RF_readVarint_13 : decode b_RF_readVarint 13 = .ok (.istore_n 3, 1) := by decide +kernel
theorem d_RF_readVarint_14 : decode b_RF_readVarint 14 = .ok (.iconst 0, 1) := by decide +kernel
theorem d_RF_readVarint_15 : decode b_RF_readVarint 15 = .ok (.istore 4, 2) := by decide +kernel
theorem d_RF_readVarint_17 : decode b_RF_readVarint 17 = .ok (.iload 4, 2) := by decide +kernel
theorem d_RF_readVarint_19 : decode b_RF_readVarint 19 = .ok (.iconst 3, 1) := by decide +kernel
theorem d_RF_readVarint_20 : decode b_RF_readVarint 20 = .ok (.if_icmp .ge 65, 3) := by decide +kernel
theorem d_RF_readVarint_23 : decode b_RF_readVarint 23 = .ok (.iload_n 1, 1) := by decide +kernel
theorem d_RF_readVarint_24 : decode b_RF_readVarint 24 = .ok (.iload 4, 2) := by decide +kernel
theorem d_RF_readVarint_26 : decode b_RF_readVarint 26 = .ok (.iadd, 1) := by decide +kernel
theorem d_RF_readVarint_27 : decode b_RF_readVarint 27 = .ok (.iload_n 2, 1) := by decide +kernel
theorem d_RF_readVarint_28 : decode b_RF_readVarint 28 = .ok (.if_icmp .ge 57, 3) := by decide +kernel
theorem d_RF_readVarint_31 : decode b_RF_readVarint 31 = .ok (.aload_n 0, 1) := by decide +kernel
theorem d_RF_readVarint_32 : decode b_RF_readVarint 32 = .ok (.iload_n 1, 1) := by decide +kernel
theorem d_RF_readVarint_33 : decode b_RF_readVarint 33 = .ok (.iload 4, 2) := by decide +kernel
theorem d_RF_readVarint_35 : decode b_RF_readVarint 35 = .ok (.iadd, 1) := by decide +kernel
theorem d_RF_readVarint_36 : decode b_RF_readVarint 36 = .ok (.baload, 1) := by decide +kernel
theorem d_RF_readVarint_37 : decode b_RF_readVarint 37 = .ok (.sipush 255, 3) := by decide +kernel
theorem d_RF_readVarint_40 : decode b_RF_readVarint 40 = .ok (.iand, 1) := by decide +kernel
theorem d_RF_readVarint_41 : decode b_RF_readVarint 41 = .ok (.istore 5, 2) := by decide +kernel
theorem d_RF_readVarint_43 : decode b_RF_readVarint 43 = .ok (.iload 4, 2) := by decide +kernel
theorem d_RF_readVarint_45 : decode b_RF_readVarint 45 = .ok (.ifCond .ne 13, 3) := by decide +kernel
theorem d_RF_readVarint_48 : decode b_RF_readVarint 48 = .ok (.iload 5, 2) := by decide +kernel
theorem d_RF_readVarint_50 : decode b_RF_readVarint 50 = .ok (.sipush 128, 3) := by decide +kernel
theorem d_RF_readVarint_53 : decode b_RF_readVarint 53 = .ok (.if_icmp .ne 5, 3) := by decide +kernel
theorem d_RF_readVarint_56 : decode b_RF_readVarint 56 = .ok (.iconst (-1), 1) := by decide +kernel
theorem d_RF_readVarint_57 : decode b_RF_readVarint 57 = .ok (.ireturn, 1) := by decide +kernel
theorem d_RF_readVarint_58 : decode b_RF_readVarint 58 = .ok (.iload_n 3, 1) := by decide +kernel
theorem d_RF_readVarint_59 : decode b_RF_readVarint 59 = .ok (.bipush 7, 2) := by decide +kernel
theorem d_RF_readVarint_61 : decode b_RF_readVarint 61 = .ok (.ishl, 1) := by decide +kernel
theorem d_RF_readVarint_62 : decode b_RF_readVarint 62 = .ok (.iload 5, 2) := by decide +kernel
theorem d_RF_readVarint_64 : decode b_RF_readVarint 64 = .ok (.bipush 127, 2) := by decide +kernel
theorem d_RF_readVarint_66 : decode b_RF_readVarint 66 = .ok (.iand, 1) := by decide +kernel
theorem d_RF_readVarint_67 : decode b_RF_readVarint 67 = .ok (.ior, 1) := by decide +kernel
theorem d_RF_readVarint_68 : decode b_RF_readVarint 68 = .ok (.istore_n 3, 1) := by decide +kernel
theorem d_RF_readVarint_69 : decode b_RF_readVarint 69 = .ok (.iload 5, 2) := by decide +kernel
theorem d_RF_readVarint_71 : decode b_RF_readVarint 71 = .ok (.sipush 128, 3) := by decide +kernel
theorem d_RF_readVarint_74 : decode b_RF_readVarint 74 = .ok (.if_icmp .ge 5, 3) := by decide +kernel
theorem d_RF_readVarint_77 : decode b_RF_readVarint 77 = .ok (.iload_n 3, 1) := by decide +kernel
theorem d_RF_readVarint_78 : decode b_RF_readVarint 78 = .ok (.ireturn, 1) := by decide +kernel
theorem d_RF_readVarint_79 : decode b_RF_readVarint 79 = .ok (.iinc 4 1, 3) := by decide +kernel
theorem d_RF_readVarint_82 : decode b_RF_readVarint 82 = .ok (.goto (-65), 3) := by decide +kernel
theorem d_RF_readVarint_85 : decode b_RF_readVarint 85 = .ok (.iconst (-1), 1) := by decide +kernel
theorem d_RF_readVarint_86 : decode b_RF_readVarint 86 = .ok (.ireturn, 1) := by decide +kernel
noncomputable def q_RF_readVarint_58 (kb : Int32 → Int32 → Option (Int32)) (n_p0 : Nat) (v_p0 : Nat → Int32) (x_1 : Int32) (x_2 : Int32) (x_3 : Int32) (x_4 : Int32) (x_5 : Int32) : Option (Int32) :=
  pu_nm ((x_3 <<< ((7 : Int32) &&& 31)) ||| (x_5 &&& (127 : Int32))) (fun t2 => pu_br ((128 : Int32) ≤ x_5) (pu_nm (x_4 + (1 : Int32)) (fun t3 => kb t2 t3)) (some t2))
noncomputable def q_RF_readVarint_17 (n_p0 : Nat) (v_p0 : Nat → Int32) (x_1 : Int32) (x_2 : Int32) : Nat → Int32 → Int32 → Option (Int32)
  | 0, _, _ => none
  | n + 1, x_3, x_4 => pu_br ((3 : Int32) ≤ x_4) (some (-1 : Int32)) (pu_br (x_2 ≤ (x_1 + x_4)) (some (-1 : Int32)) (pu_ck (vp_in (x_1 + x_4) n_p0) (pu_nm ((v_p0 (x_1 + x_4).toNatClampNeg) &&& (255 : Int32)) (fun t1 => pu_br (x_4 = 0) (pu_br (t1 = (128 : Int32)) (some (-1 : Int32)) (q_RF_readVarint_58 (q_RF_readVarint_17 n_p0 v_p0 x_1 x_2 n) n_p0 v_p0 x_1 x_2 x_3 x_4 t1)) (q_RF_readVarint_58 (q_RF_readVarint_17 n_p0 v_p0 x_1 x_2 n) n_p0 v_p0 x_1 x_2 x_3 x_4 t1)))))
noncomputable def f_RF_readVarint (n_p0 : Nat) (v_p0 : Nat → Int32) (x_1 : Int32) (x_2 : Int32) : Option (Int32) :=
  pu_br (x_1 < 0) (some (-1 : Int32)) (pu_br (x_2 ≤ (Int32.ofNat n_p0)) (q_RF_readVarint_17 n_p0 v_p0 x_1 x_2 pu_fu (0 : Int32) (0 : Int32)) (some (-1 : Int32)))
abbrev rm_RF_readVarint : Room := { frames := 0, cells := 0, slots := 0, locals := 0 }
set_option maxHeartbeats 8000000 in
set_option maxRecDepth 100000 in
theorem c_RF_readVarint (l : Launch) (D : va_G) (cI cJ cB cZ : ClassId) (sz : Nat) (q_p0 : Nat) (n_p0 : Nat) (v_p0 : Nat → Int32) (x_1 : Int32) (x_2 : Int32) (o_r : Int32) (hf : f_RF_readVarint n_p0 v_p0 x_1 x_2 = some o_r) : Met l y_RF_readVarint (.code y_RF_readVarint b_RF_readVarint 6 (some .int) :: pu_wA) rm_RF_readVarint (pu_pc D pu_cl (pu_ty cI cJ cB cZ) [.ref q_p0, .int x_1, .int x_2] [(q_p0, .inl (cB, n_p0, .inl v_p0))] sz) (pu_qi D pu_cl (pu_ty cI cJ cB cZ) [(q_p0, .inl (cB, n_p0, .inl v_p0))] [(q_p0, .inl (cB, n_p0, .inl v_p0))] sz o_r) 0 0 (va_A [(q_p0, .inl (cB, n_p0, .inl v_p0))] sz) := by
  refine pu_mti [.ref q_p0, .int x_1, .int x_2] [(q_p0, .inl (cB, n_p0, .inl v_p0))] [(q_p0, .inl (cB, n_p0, .inl v_p0))] o_r (by decide) (Nat.le_of_ble_eq_true rfl) ?_
  intro p e s m args below meth c A Q ls hx hb hml hts hN hown hK hA hP hD hl hret0
  have hS : va_S A s.heap s.heap [] := va_S.rf
  have hl : lv_has ls 6 [(0, .ref q_p0), (1, .int x_1), (2, .int x_2)] := hl
  have hret : ∀ (pc : Nat) (ls : Array Slot) (H : Heap) (locs : List Loc) (y_0 : Int32), decode b_RF_readVarint pc = .ok (.ireturn, 1) → va_P D pu_cl [(q_p0, .inl (cB, n_p0, .inl v_p0))] H → va_D A [(q_p0, .inl (cB, n_p0, .inl v_p0))] → va_S A s.heap H locs → some y_0 = some o_r → W p l e rm_RF_readVarint s m args below meth c H locs 0 0 Q (F0 m pc ls [.int y_0]) := by
    intro pc ls H locs y_0 hd hP hD hS hf
    cases hf
    exact hret0 pc ls H locs hd hP hD hS
  clear hret0
  unfold f_RF_readVarint at hf
  skip
  have lp_17 : ∀ (x_1 : Int32) (x_2 : Int32) (n17 : Nat) (x_3 : Int32) (x_4 : Int32) (H : Heap) (locs : List Loc) (ls : Array Slot), va_P D pu_cl [(q_p0, .inl (cB, n_p0, .inl v_p0))] H → va_D A [(q_p0, .inl (cB, n_p0, .inl v_p0))] → va_S A s.heap H locs → lv_has ls 6 [(0, .ref q_p0), (1, .int x_1), (2, .int x_2), (3, .int x_3), (4, .int x_4)] → q_RF_readVarint_17 n_p0 v_p0 x_1 x_2 n17 x_3 x_4 = some o_r → W p l e rm_RF_readVarint s m args below meth c H locs 0 0 Q (F0 m 17 ls []) := by
    intro x_1 x_2 n17
    induction n17 with
    | zero =>
      intro x_3 x_4 H locs ls hP hD hS hl hf
      rw [q_RF_readVarint_17] at hf
      cases hf
    | succ n17 ih_17 =>
      have lb_58 : ∀ (x_3 : Int32) (x_4 : Int32) (x_5 : Int32) (H : Heap) (locs : List Loc) (ls : Array Slot), va_P D pu_cl [(q_p0, .inl (cB, n_p0, .inl v_p0))] H → va_D A [(q_p0, .inl (cB, n_p0, .inl v_p0))] → va_S A s.heap H locs → lv_has ls 6 [(0, .ref q_p0), (1, .int x_1), (2, .int x_2), (3, .int x_3), (4, .int x_4), (5, .int x_5)] → q_RF_readVarint_58 (q_RF_readVarint_17 n_p0 v_p0 x_1 x_2 n17) n_p0 v_p0 x_1 x_2 x_3 x_4 x_5 = some o_r → W p l e rm_RF_readVarint s m args below meth c H locs 0 0 Q (F0 m 58 ls []) := by
        intro x_3 x_4 x_5 H locs ls hP hD hS hl hf
        rw [q_RF_readVarint_58] at hf
        refine lv_iload_n hx hb d_RF_readVarint_58 rfl (lv_at hl 3 rfl) ?_
        refine lv_bipush (v := 7) hx hb d_RF_readVarint_59 rfl ?_
        refine lv_ishl hx hb d_RF_readVarint_61 ?_
        refine lv_iload hx hb d_RF_readVarint_62 (lv_at hl 5 rfl) ?_
        refine lv_bipush (v := 127) hx hb d_RF_readVarint_64 rfl ?_
        refine lv_iand hx hb d_RF_readVarint_66 ?_
        refine lv_ior hx hb d_RF_readVarint_67 ?_
        obtain ⟨t2, e_t2, hf⟩ := pu_nm_some hf
        refine pu_ti e_t2 ?_
        refine lv_istore_n hx hb d_RF_readVarint_68 rfl hl (by decide) rfl (fun ls hl => ?_)
        have hl : lv_has ls 6 [(3, .int t2), (0, .ref q_p0), (1, .int x_1), (2, .int x_2), (4, .int x_4), (5, .int x_5)] := hl
        refine lv_iload hx hb d_RF_readVarint_69 (lv_at hl 5 rfl) ?_
        refine lv_sipush (v := 128) hx hb d_RF_readVarint_71 rfl ?_
        refine lv_icmp_ge (tgt := 79) hx hb d_RF_readVarint_74 rfl (fun hc => ?_) (fun hc => ?_)
        · have hf := pu_br_pos hf hc
          obtain ⟨t3, e_t3, hf⟩ := pu_nm_some hf
          refine lv_iinc (k := 4) (v := t3) hx hb d_RF_readVarint_79 hl rfl e_t3.symm (by decide) rfl (fun ls hl => ?_)
          have hl : lv_has ls 6 [(4, .int t3), (3, .int t2), (0, .ref q_p0), (1, .int x_1), (2, .int x_2), (5, .int x_5)] := hl
          refine lv_goto (tgt := 17) hx hb d_RF_readVarint_82 rfl ?_
          exact ih_17 t2 t3 H locs ls hP hD hS (lv_sub hl [2, 3, 4, 1, 0] rfl) hf
        have hf := pu_br_neg hf hc
        refine lv_iload_n hx hb d_RF_readVarint_77 rfl (lv_at hl 0 rfl) ?_
        exact hret _ _ _ _ t2  d_RF_readVarint_78 hP hD hS hf
      intro x_3 x_4 H locs ls hP hD hS hl hf
      rw [q_RF_readVarint_17] at hf
      refine lv_iload hx hb d_RF_readVarint_17 (lv_at hl 4 rfl) ?_
      refine lv_iconst (v := 3) hx hb d_RF_readVarint_19 rfl ?_
      refine lv_icmp_ge (tgt := 85) hx hb d_RF_readVarint_20 rfl (fun hc => ?_) (fun hc => ?_)
      · have hf := pu_br_pos hf hc
        refine lv_iconst (v := -1) hx hb d_RF_readVarint_85 rfl ?_
        exact hret _ _ _ _ (-1 : Int32)  d_RF_readVarint_86 hP hD hS hf
      have hf := pu_br_neg hf hc
      refine lv_iload_n hx hb d_RF_readVarint_23 rfl (lv_at hl 1 rfl) ?_
      refine lv_iload hx hb d_RF_readVarint_24 (lv_at hl 4 rfl) ?_
      refine lv_iadd hx hb d_RF_readVarint_26 ?_
      refine lv_iload_n hx hb d_RF_readVarint_27 rfl (lv_at hl 2 rfl) ?_
      refine lv_icmp_ge (tgt := 85) hx hb d_RF_readVarint_28 rfl (fun hc => ?_) (fun hc => ?_)
      · have hf := pu_br_pos hf hc
        refine lv_iconst (v := -1) hx hb d_RF_readVarint_85 rfl ?_
        exact hret _ _ _ _ (-1 : Int32)  d_RF_readVarint_86 hP hD hS hf
      have hf := pu_br_neg hf hc
      refine lv_aload_n hx hb d_RF_readVarint_31 rfl (lv_at hl 0 rfl) ?_
      refine lv_iload_n hx hb d_RF_readVarint_32 rfl (lv_at hl 1 rfl) ?_
      refine lv_iload hx hb d_RF_readVarint_33 (lv_at hl 4 rfl) ?_
      refine lv_iadd hx hb d_RF_readVarint_35 ?_
      obtain ⟨hin, hf⟩ := pu_ck_some hf
      refine va_bald hx hb hK hP 0 2 rfl rfl hin d_RF_readVarint_36 ?_
      refine lv_sipush (v := 255) hx hb d_RF_readVarint_37 rfl ?_
      refine lv_iand hx hb d_RF_readVarint_40 ?_
      obtain ⟨t1, e_t1, hf⟩ := pu_nm_some hf
      refine pu_ti e_t1 ?_
      refine lv_istore hx hb d_RF_readVarint_41 hl (by decide) rfl (fun ls hl => ?_)
      have hl : lv_has ls 6 [(5, .int t1), (0, .ref q_p0), (1, .int x_1), (2, .int x_2), (3, .int x_3), (4, .int x_4)] := hl
      refine lv_iload hx hb d_RF_readVarint_43 (lv_at hl 5 rfl) ?_
      refine lv_if_ne (tgt := 58) hx hb d_RF_readVarint_45 rfl (fun hc => ?_) (fun hc => ?_)
      · have hf := pu_br_neg hf hc
        exact lb_58 x_3 x_4 t1 H locs ls hP hD hS (lv_sub hl [1, 2, 3, 4, 5, 0] rfl) hf
      have hf := pu_br_pos hf hc
      refine lv_iload hx hb d_RF_readVarint_48 (lv_at hl 0 rfl) ?_
      refine lv_sipush (v := 128) hx hb d_RF_readVarint_50 rfl ?_
      refine lv_icmp_ne (tgt := 58) hx hb d_RF_readVarint_53 rfl (fun hc => ?_) (fun hc => ?_)
      · have hf := pu_br_neg hf hc
        exact lb_58 x_3 x_4 t1 H locs ls hP hD hS (lv_sub hl [1, 2, 3, 4, 5, 0] rfl) hf
      have hf := pu_br_pos hf hc
      refine lv_iconst (v := -1) hx hb d_RF_readVarint_56 rfl ?_
      exact hret _ _ _ _ (-1 : Int32)  d_RF_readVarint_57 hP hD hS hf
  obtain ⟨H, hH⟩ : ∃ H, H = s.heap := ⟨_, rfl⟩
  obtain ⟨locs, hlocs⟩ : ∃ locs : List Loc, locs = [] := ⟨_, rfl⟩
  have hP : va_P D pu_cl [(q_p0, .inl (cB, n_p0, .inl v_p0))] H := by rw [hH]; exact hP
  have hS : va_S A s.heap H locs := by rw [hH, hlocs]; exact hS
  have goal : W p l e rm_RF_readVarint s m args below meth c H locs 0 0 Q (F0 m 0 ls []) := by
    clear hH hlocs
    refine lv_iload_n hx hb d_RF_readVarint_0 rfl (lv_at hl 1 rfl) ?_
    refine lv_if_lt (tgt := 10) hx hb d_RF_readVarint_1 rfl (fun hc => ?_) (fun hc => ?_)
    · have hf := pu_br_pos hf hc
      refine lv_iconst (v := -1) hx hb d_RF_readVarint_10 rfl ?_
      exact hret _ _ _ _ (-1 : Int32)  d_RF_readVarint_11 hP hD hS hf
    have hf := pu_br_neg hf hc
    refine lv_iload_n hx hb d_RF_readVarint_4 rfl (lv_at hl 2 rfl) ?_
    refine lv_aload_n hx hb d_RF_readVarint_5 rfl (lv_at hl 0 rfl) ?_
    refine va_alen (v := Int32.ofNat n_p0) hx hb hK hP 0 2 rfl rfl rfl d_RF_readVarint_6 ?_
    refine lv_icmp_le (tgt := 12) hx hb d_RF_readVarint_7 rfl (fun hc => ?_) (fun hc => ?_)
    · have hf := pu_br_pos hf hc
      refine lv_iconst (v := 0) hx hb d_RF_readVarint_12 rfl ?_
      refine lv_istore_n hx hb d_RF_readVarint_13 rfl hl (by decide) rfl (fun ls hl => ?_)
      have hl : lv_has ls 6 [(3, .int (0 : Int32)), (0, .ref q_p0), (1, .int x_1), (2, .int x_2)] := hl
      refine lv_iconst (v := 0) hx hb d_RF_readVarint_14 rfl ?_
      refine lv_istore hx hb d_RF_readVarint_15 hl (by decide) rfl (fun ls hl => ?_)
      have hl : lv_has ls 6 [(4, .int (0 : Int32)), (3, .int (0 : Int32)), (0, .ref q_p0), (1, .int x_1), (2, .int x_2)] := hl
      exact lp_17 x_1 x_2 _ (0 : Int32) (0 : Int32) H locs ls hP hD hS (lv_sub hl [2, 3, 4, 1, 0] rfl) hf
    have hf := pu_br_neg hf hc
    refine lv_iconst (v := -1) hx hb d_RF_readVarint_10 rfl ?_
    exact hret _ _ _ _ (-1 : Int32)  d_RF_readVarint_11 hP hD hS hf
  rw [hH, hlocs] at goal
  exact goal
theorem d_Node_recordLength_0 : decode b_Node_recordLength 0 = .ok (.aload_n 0, 1) := by decide +kernel
theorem d_Node_recordLength_1 : decode b_Node_recordLength 1 = .ok (.iload_n 1, 1) := by decide +kernel
theorem d_Node_recordLength_2 : decode b_Node_recordLength 2 = .ok (.invokevirtual 43, 3) := by decide +kernel
theorem d_Node_recordLength_5 : decode b_Node_recordLength 5 = .ok (.ifCond .eq 32, 3) := by decide +kernel
theorem d_Node_recordLength_8 : decode b_Node_recordLength 8 = .ok (.aload_n 0, 1) := by decide +kernel
theorem d_Node_recordLength_9 : decode b_Node_recordLength 9 = .ok (.getfield 11, 3) := by decide +kernel
theorem d_Node_recordLength_12 : decode b_Node_recordLength 12 = .ok (.aload_n 0, 1) := by decide +kernel
theorem d_Node_recordLength_13 : decode b_Node_recordLength 13 = .ok (.getfield 15, 3) := by decide +kernel
theorem d_Node_recordLength_16 : decode b_Node_recordLength 16 = .ok (.iload_n 1, 1) := by decide +kernel
theorem d_Node_recordLength_17 : decode b_Node_recordLength 17 = .ok (.iaload, 1) := by decide +kernel
theorem d_Node_recordLength_18 : decode b_Node_recordLength 18 = .ok (.aload_n 0, 1) := by decide +kernel
theorem d_Node_recordLength_19 : decode b_Node_recordLength 19 = .ok (.getfield 15, 3) := by decide +kernel
theorem d_Node_recordLength_22 : decode b_Node_recordLength 22 = .ok (.iload_n 1, 1) := by decide +kernel
theorem d_Node_recordLength_23 : decode b_Node_recordLength 23 = .ok (.iaload, 1) := by decide +kernel
theorem d_Node_recordLength_24 : decode b_Node_recordLength 24 = .ok (.aload_n 0, 1) := by decide +kernel
theorem d_Node_recordLength_25 : decode b_Node_recordLength 25 = .ok (.getfield 19, 3) := by decide +kernel
theorem d_Node_recordLength_28 : decode b_Node_recordLength 28 = .ok (.iload_n 1, 1) := by decide +kernel
theorem d_Node_recordLength_29 : decode b_Node_recordLength 29 = .ok (.iaload, 1) := by decide +kernel
theorem d_Node_recordLength_30 : decode b_Node_recordLength 30 = .ok (.iadd, 1) := by decide +kernel
theorem d_Node_recordLength_31 : decode b_Node_recordLength 31 = .ok (.invokestatic 46, 3) := by decide +kernel
theorem d_Node_recordLength_34 : decode b_Node_recordLength 34 = .ok (.goto 4, 3) := by decide +kernel
theorem d_Node_recordLength_37 : decode b_Node_recordLength 37 = .ok (.iconst (-1), 1) := by decide +kernel
theorem d_Node_recordLength_38 : decode b_Node_recordLength 38 = .ok (.ireturn, 1) := by decide +kernel
noncomputable def f_Node_recordLength (v_count : Int32) (v_bytes : Nat → Int32) (v_starts : Nat → Int32) (v_sizes : Nat → Int32) (x_1 : Int32) : Option (Int32) :=
  pu_b1 (f_Node_hasCell v_count x_1) (fun r1 => pu_br (r1 = 0) (some (-1 : Int32)) (pu_ck (vp_in x_1 31) (pu_ck (vp_in x_1 31) (pu_ck (vp_in x_1 31) (pu_b1 (f_RF_readVarint 96 v_bytes (v_starts x_1.toNatClampNeg) ((v_starts x_1.toNatClampNeg) + (v_sizes x_1.toNatClampNeg))) (fun r2 => some r2))))))
abbrev rm_Node_recordLength : Room := { frames := 1, cells := 0, slots := 0, locals := 25 }
set_option maxHeartbeats 8000000 in
set_option maxRecDepth 100000 in
theorem c_Node_recordLength (l : Launch) (D : va_G) (cI cJ cB cZ : ClassId) (sz : Nat) (q_this : Nat) (q_bytes : Nat) (q_starts : Nat) (q_sizes : Nat) (v_count : Int32) (v_last : Int32) (v_leaf : Int32) (v_bytes : Nat → Int32) (v_starts : Nat → Int32) (v_sizes : Nat → Int32) (x_1 : Int32) (o_r : Int32) (hf : f_Node_recordLength v_count v_bytes v_starts v_sizes x_1 = some o_r) : Met l y_Node_recordLength (.code y_Node_recordLength b_Node_recordLength 2 (some .int) :: pu_wA) rm_Node_recordLength (pu_pc D pu_cl (pu_ty cI cJ cB cZ) [.ref q_this, .int x_1] [(q_this, .inr (3, [.ref q_bytes, .ref q_starts, .ref q_sizes, .int v_count, .int v_last, .int v_leaf])), (q_bytes, .inl (cB, 96, .inl v_bytes)), (q_starts, .inl (cI, 31, .inl v_starts)), (q_sizes, .inl (cI, 31, .inl v_sizes))] sz) (pu_qi D pu_cl (pu_ty cI cJ cB cZ) [(q_this, .inr (3, [.ref q_bytes, .ref q_starts, .ref q_sizes, .int v_count, .int v_last, .int v_leaf])), (q_bytes, .inl (cB, 96, .inl v_bytes)), (q_starts, .inl (cI, 31, .inl v_starts)), (q_sizes, .inl (cI, 31, .inl v_sizes))] [(q_this, .inr (3, [.ref q_bytes, .ref q_starts, .ref q_sizes, .int v_count, .int v_last, .int v_leaf])), (q_bytes, .inl (cB, 96, .inl v_bytes)), (q_starts, .inl (cI, 31, .inl v_starts)), (q_sizes, .inl (cI, 31, .inl v_sizes))] sz o_r) 0 0 (va_A [(q_this, .inr (3, [.ref q_bytes, .ref q_starts, .ref q_sizes, .int v_count, .int v_last, .int v_leaf])), (q_bytes, .inl (cB, 96, .inl v_bytes)), (q_starts, .inl (cI, 31, .inl v_starts)), (q_sizes, .inl (cI, 31, .inl v_sizes))] sz) := by
  refine pu_mti [.ref q_this, .int x_1] [(q_this, .inr (3, [.ref q_bytes, .ref q_starts, .ref q_sizes, .int v_count, .int v_last, .int v_leaf])), (q_bytes, .inl (cB, 96, .inl v_bytes)), (q_starts, .inl (cI, 31, .inl v_starts)), (q_sizes, .inl (cI, 31, .inl v_sizes))] [(q_this, .inr (3, [.ref q_bytes, .ref q_starts, .ref q_sizes, .int v_count, .int v_last, .int v_leaf])), (q_bytes, .inl (cB, 96, .inl v_bytes)), (q_starts, .inl (cI, 31, .inl v_starts)), (q_sizes, .inl (cI, 31, .inl v_sizes))] o_r (by decide) (Nat.le_of_ble_eq_true rfl) ?_
  intro p e s m args below meth c A Q ls hx hb hml hts hN hown hK hA hP hD hl hret0
  have hS : va_S A s.heap s.heap [] := va_S.rf
  have hl : lv_has ls 2 [(0, .ref q_this), (1, .int x_1)] := hl
  have hret : ∀ (pc : Nat) (ls : Array Slot) (H : Heap) (locs : List Loc) (y_0 : Int32), decode b_Node_recordLength pc = .ok (.ireturn, 1) → va_P D pu_cl [(q_this, .inr (3, [.ref q_bytes, .ref q_starts, .ref q_sizes, .int v_count, .int v_last, .int v_leaf])), (q_bytes, .inl (cB, 96, .inl v_bytes)), (q_starts, .inl (cI, 31, .inl v_starts)), (q_sizes, .inl (cI, 31, .inl v_sizes))] H → va_D A [(q_this, .inr (3, [.ref q_bytes, .ref q_starts, .ref q_sizes, .int v_count, .int v_last, .int v_leaf])), (q_bytes, .inl (cB, 96, .inl v_bytes)), (q_starts, .inl (cI, 31, .inl v_starts)), (q_sizes, .inl (cI, 31, .inl v_sizes))] → va_S A s.heap H locs → some y_0 = some o_r → W p l e rm_Node_recordLength s m args below meth c H locs 0 0 Q (F0 m pc ls [.int y_0]) := by
    intro pc ls H locs y_0 hd hP hD hS hf
    cases hf
    exact hret0 pc ls H locs hd hP hD hS
  clear hret0
  unfold f_Node_recordLength at hf
  skip
  obtain ⟨H, hH⟩ : ∃ H, H = s.heap := ⟨_, rfl⟩
  obtain ⟨locs, hlocs⟩ : ∃ locs : List Loc, locs = [] := ⟨_, rfl⟩
  have hP : va_P D pu_cl [(q_this, .inr (3, [.ref q_bytes, .ref q_starts, .ref q_sizes, .int v_count, .int v_last, .int v_leaf])), (q_bytes, .inl (cB, 96, .inl v_bytes)), (q_starts, .inl (cI, 31, .inl v_starts)), (q_sizes, .inl (cI, 31, .inl v_sizes))] H := by rw [hH]; exact hP
  have hS : va_S A s.heap H locs := by rw [hH, hlocs]; exact hS
  have goal : W p l e rm_Node_recordLength s m args below meth c H locs 0 0 Q (F0 m 0 ls []) := by
    clear hH hlocs
    refine lv_aload_n hx hb d_Node_recordLength_0 rfl (lv_at hl 0 rfl) ?_
    refine lv_iload_n hx hb d_Node_recordLength_1 rfl (lv_at hl 1 rfl) ?_
    obtain ⟨r1, hc, hf⟩ := pu_b1_some hf
    refine cl_i (WC := [(q_this, .inr (3, [.ref q_bytes, .ref q_starts, .ref q_sizes, .int v_count, .int v_last, .int v_leaf]))]) (WC2 := [(q_this, .inr (3, [.ref q_bytes, .ref q_starts, .ref q_sizes, .int v_count, .int v_last, .int v_leaf]))]) (WR := [(q_bytes, .inl (cB, 96, .inl v_bytes)), (q_starts, .inl (cI, 31, .inl v_starts)), (q_sizes, .inl (cI, 31, .inl v_sizes))]) (WS2 := [(q_this, .inr (3, [.ref q_bytes, .ref q_starts, .ref q_sizes, .int v_count, .int v_last, .int v_leaf])), (q_bytes, .inl (cB, 96, .inl v_bytes)), (q_starts, .inl (cI, 31, .inl v_starts)), (q_sizes, .inl (cI, 31, .inl v_sizes))]) (pu_rv (cl := pu_cl) (pu_in3 _ (List.mem_of_getElem? (i := 57) rfl)) (pu_in3 _ (List.mem_of_getElem? (i := 58) rfl)) (pu_in13 _ (List.mem_of_getElem? (i := 46) rfl)) (pu_in0 _ (List.mem_of_getElem? (i := 6) rfl)) (pu_in3 _ (List.mem_of_getElem? (i := 59) rfl)) (ci := 3) rfl hd_Node_hasCell (by decide) ⟨rfl, rfl⟩ rfl rfl (Nat.le_of_ble_eq_true rfl) rfl (As := [.int x_1]) (rest := []) (WC := [(q_this, .inr (3, [.ref q_bytes, .ref q_starts, .ref q_sizes, .int v_count, .int v_last, .int v_leaf]))]) hx hb hml hown hts hN hK hP hD (c_Node_hasCell l D cI cJ cB cZ H.size q_this q_bytes q_starts q_sizes v_count v_last v_leaf x_1 r1 hc) [0] rfl rfl hl.1 d_Node_recordLength_2) hP hD hS hA [0] [1, 2, 3] [3, 0, 1, 2] rfl rfl rfl (by decide) rfl rfl (fun H locs hP hD hS => ?_)
    refine lv_if_eq (tgt := 37) hx hb d_Node_recordLength_5 rfl (fun hc => ?_) (fun hc => ?_)
    · have hf := pu_br_pos hf hc
      refine lv_iconst (v := -1) hx hb d_Node_recordLength_37 rfl ?_
      exact hret _ _ _ _ (-1 : Int32)  d_Node_recordLength_38 hP hD hS hf
    have hf := pu_br_neg hf hc
    refine lv_aload_n hx hb d_Node_recordLength_8 rfl (lv_at hl 0 rfl) ?_
    refine gf_Node_11 (v := .ref q_bytes) hx hb hts hN hown hK hP 0 rfl rfl d_Node_recordLength_9 ?_
    refine lv_aload_n hx hb d_Node_recordLength_12 rfl (lv_at hl 0 rfl) ?_
    refine gf_Node_15 (v := .ref q_starts) hx hb hts hN hown hK hP 0 rfl rfl d_Node_recordLength_13 ?_
    refine lv_iload_n hx hb d_Node_recordLength_16 rfl (lv_at hl 1 rfl) ?_
    obtain ⟨hin, hf⟩ := pu_ck_some hf
    refine va_iald hx hb hK hP 2 0 rfl rfl hin d_Node_recordLength_17 ?_
    refine lv_aload_n hx hb d_Node_recordLength_18 rfl (lv_at hl 0 rfl) ?_
    refine gf_Node_15 (v := .ref q_starts) hx hb hts hN hown hK hP 0 rfl rfl d_Node_recordLength_19 ?_
    refine lv_iload_n hx hb d_Node_recordLength_22 rfl (lv_at hl 1 rfl) ?_
    obtain ⟨hin, hf⟩ := pu_ck_some hf
    refine va_iald hx hb hK hP 2 0 rfl rfl hin d_Node_recordLength_23 ?_
    refine lv_aload_n hx hb d_Node_recordLength_24 rfl (lv_at hl 0 rfl) ?_
    refine gf_Node_19 (v := .ref q_sizes) hx hb hts hN hown hK hP 0 rfl rfl d_Node_recordLength_25 ?_
    refine lv_iload_n hx hb d_Node_recordLength_28 rfl (lv_at hl 1 rfl) ?_
    obtain ⟨hin, hf⟩ := pu_ck_some hf
    refine va_iald hx hb hK hP 3 0 rfl rfl hin d_Node_recordLength_29 ?_
    refine lv_iadd hx hb d_Node_recordLength_30 ?_
    obtain ⟨r2, hc, hf⟩ := pu_b1_some hf
    refine cl_i (WC := [(q_bytes, .inl (cB, 96, .inl v_bytes))]) (WC2 := [(q_bytes, .inl (cB, 96, .inl v_bytes))]) (WR := [(q_this, .inr (3, [.ref q_bytes, .ref q_starts, .ref q_sizes, .int v_count, .int v_last, .int v_leaf])), (q_starts, .inl (cI, 31, .inl v_starts)), (q_sizes, .inl (cI, 31, .inl v_sizes))]) (WS2 := [(q_this, .inr (3, [.ref q_bytes, .ref q_starts, .ref q_sizes, .int v_count, .int v_last, .int v_leaf])), (q_bytes, .inl (cB, 96, .inl v_bytes)), (q_starts, .inl (cI, 31, .inl v_starts)), (q_sizes, .inl (cI, 31, .inl v_sizes))]) (pu_rsn (List.mem_of_getElem? (i := 31) rfl) (pu_in4 _ (List.mem_of_getElem? (i := 0) rfl)) (pu_in0 _ (List.mem_of_getElem? (i := 1) rfl)) (pu_in4 _ (List.mem_of_getElem? (i := 1) rfl)) hd_RF_readVarint (by decide) ⟨rfl, rfl⟩ rfl rfl (Nat.le_of_ble_eq_true rfl) (As := [.ref q_bytes, .int (v_starts x_1.toNatClampNeg), .int ((v_starts x_1.toNatClampNeg) + (v_sizes x_1.toNatClampNeg))]) (rest := []) (WC := [(q_bytes, .inl (cB, 96, .inl v_bytes))]) hx hb hml hown hts hN hK hP hD (c_RF_readVarint l D cI cJ cB cZ H.size q_bytes 96 v_bytes (v_starts x_1.toNatClampNeg) ((v_starts x_1.toNatClampNeg) + (v_sizes x_1.toNatClampNeg)) r2 hc) [1] rfl rfl hl.1 d_Node_recordLength_31) hP hD hS hA [1] [0, 2, 3] [0, 3, 1, 2] rfl rfl rfl (by decide) rfl rfl (fun H locs hP hD hS => ?_)
    refine lv_goto (tgt := 38) hx hb d_Node_recordLength_34 rfl ?_
    exact hret _ _ _ _ r2  d_Node_recordLength_38 hP hD hS hf
  rw [hH, hlocs] at goal
  exact goal
theorem d_RF_varintSize_0 : decode b_RF_varintSize 0 = .ok (.iload_n 0, 1) := by decide +kernel
theorem d_RF_varintSize_1 : decode b_RF_varintSize 1 = .ok (.sipush 128, 3) := by decide +kernel
theorem d_RF_varintSize_4 : decode b_RF_varintSize 4 = .ok (.if_icmp .ge 5, 3) := by decide +kernel
theorem d_RF_varintSize_7 : decode b_RF_varintSize 7 = .ok (.iconst 1, 1) := by decide +kernel
theorem d_RF_varintSize_8 : decode b_RF_varintSize 8 = .ok (.ireturn, 1) := by decide +kernel
theorem d_RF_varintSize_9 : decode b_RF_varintSize 9 = .ok (.iload_n 0, 1) := by decide +kernel
theorem d_RF_varintSize_10 : decode b_RF_varintSize 10 = .ok (.sipush 16384, 3) := by decide +kernel
theorem d_RF_varintSize_13 : decode b_RF_varintSize 13 = .ok (.if_icmp .ge 7, 3) := by decide +kernel
theorem d_RF_varintSize_16 : decode b_RF_varintSize 16 = .ok (.iconst 2, 1) := by decide +kernel
theorem d_RF_varintSize_17 : decode b_RF_varintSize 17 = .ok (.goto 4, 3) := by decide +kernel
theorem d_RF_varintSize_20 : decode b_RF_varintSize 20 = .ok (.iconst 3, 1) := by decide +kernel
theorem d_RF_varintSize_21 : decode b_RF_varintSize 21 = .ok (.ireturn, 1) := by decide +kernel
noncomputable def f_RF_varintSize (x_0 : Int32) : Option (Int32) :=
  pu_br ((128 : Int32) ≤ x_0) (pu_br ((16384 : Int32) ≤ x_0) (some (3 : Int32)) (some (2 : Int32))) (some (1 : Int32))
abbrev rm_RF_varintSize : Room := { frames := 0, cells := 0, slots := 0, locals := 0 }
set_option maxHeartbeats 8000000 in
set_option maxRecDepth 100000 in
theorem c_RF_varintSize (l : Launch) (D : va_G) (cI cJ cB cZ : ClassId) (sz : Nat) (x_0 : Int32) (o_r : Int32) (hf : f_RF_varintSize x_0 = some o_r) : Met l y_RF_varintSize (.code y_RF_varintSize b_RF_varintSize 1 (some .int) :: pu_wA) rm_RF_varintSize (pu_pc D pu_cl (pu_ty cI cJ cB cZ) [.int x_0] [] sz) (pu_qi D pu_cl (pu_ty cI cJ cB cZ) [] [] sz o_r) 0 0 (va_A [] sz) := by
  refine pu_mti [.int x_0] [] [] o_r (by decide) (Nat.le_of_ble_eq_true rfl) ?_
  intro p e s m args below meth c A Q ls hx hb hml hts hN hown hK hA hP hD hl hret0
  have hS : va_S A s.heap s.heap [] := va_S.rf
  have hl : lv_has ls 1 [(0, .int x_0)] := hl
  have hret : ∀ (pc : Nat) (ls : Array Slot) (H : Heap) (locs : List Loc) (y_0 : Int32), decode b_RF_varintSize pc = .ok (.ireturn, 1) → va_P D pu_cl [] H → va_D A [] → va_S A s.heap H locs → some y_0 = some o_r → W p l e rm_RF_varintSize s m args below meth c H locs 0 0 Q (F0 m pc ls [.int y_0]) := by
    intro pc ls H locs y_0 hd hP hD hS hf
    cases hf
    exact hret0 pc ls H locs hd hP hD hS
  clear hret0
  unfold f_RF_varintSize at hf
  skip
  obtain ⟨H, hH⟩ : ∃ H, H = s.heap := ⟨_, rfl⟩
  obtain ⟨locs, hlocs⟩ : ∃ locs : List Loc, locs = [] := ⟨_, rfl⟩
  have hP : va_P D pu_cl [] H := by rw [hH]; exact hP
  have hS : va_S A s.heap H locs := by rw [hH, hlocs]; exact hS
  have goal : W p l e rm_RF_varintSize s m args below meth c H locs 0 0 Q (F0 m 0 ls []) := by
    clear hH hlocs
    refine lv_iload_n hx hb d_RF_varintSize_0 rfl (lv_at hl 0 rfl) ?_
    refine lv_sipush (v := 128) hx hb d_RF_varintSize_1 rfl ?_
    refine lv_icmp_ge (tgt := 9) hx hb d_RF_varintSize_4 rfl (fun hc => ?_) (fun hc => ?_)
    · have hf := pu_br_pos hf hc
      refine lv_iload_n hx hb d_RF_varintSize_9 rfl (lv_at hl 0 rfl) ?_
      refine lv_sipush (v := 16384) hx hb d_RF_varintSize_10 rfl ?_
      refine lv_icmp_ge (tgt := 20) hx hb d_RF_varintSize_13 rfl (fun hc => ?_) (fun hc => ?_)
      · have hf := pu_br_pos hf hc
        refine lv_iconst (v := 3) hx hb d_RF_varintSize_20 rfl ?_
        exact hret _ _ _ _ (3 : Int32)  d_RF_varintSize_21 hP hD hS hf
      have hf := pu_br_neg hf hc
      refine lv_iconst (v := 2) hx hb d_RF_varintSize_16 rfl ?_
      refine lv_goto (tgt := 21) hx hb d_RF_varintSize_17 rfl ?_
      exact hret _ _ _ _ (2 : Int32)  d_RF_varintSize_21 hP hD hS hf
    have hf := pu_br_neg hf hc
    refine lv_iconst (v := 1) hx hb d_RF_varintSize_7 rfl ?_
    exact hret _ _ _ _ (1 : Int32)  d_RF_varintSize_8 hP hD hS hf
  rw [hH, hlocs] at goal
  exact goal
theorem d_Node_cellKey_0 : decode b_Node_cellKey 0 = .ok (.aload_n 0, 1) := by decide +kernel
theorem d_Node_cellKey_1 : decode b_Node_cellKey 1 = .ok (.iload_n 1, 1) := by decide +kernel
theorem d_Node_cellKey_2 : decode b_Node_cellKey 2 = .ok (.invokevirtual 43, 3) := by decide +kernel
theorem d_Node_cellKey_5 : decode b_Node_cellKey 5 = .ok (.ifCond .ne 5, 3) := by decide +kernel
theorem d_Node_cellKey_8 : decode b_Node_cellKey 8 = .ok (.iconst (-1), 1) := by decide +kernel
theorem d_Node_cellKey_9 : decode b_Node_cellKey 9 = .ok (.ireturn, 1) := by decide +kernel
theorem d_Node_cellKey_10 : decode b_Node_cellKey 10 = .ok (.iconst 1, 1) := by decide +kernel
theorem d_Node_cellKey_11 : decode b_Node_cellKey 11 = .ok (.istore_n 2, 1) := by decide +kernel
theorem d_Node_cellKey_12 : decode b_Node_cellKey 12 = .ok (.aload_n 0, 1) := by decide +kernel
theorem d_Node_cellKey_13 : decode b_Node_cellKey 13 = .ok (.getfield 28, 3) := by decide +kernel
theorem d_Node_cellKey_16 : decode b_Node_cellKey 16 = .ok (.ifCond .eq 20, 3) := by decide +kernel
theorem d_Node_cellKey_19 : decode b_Node_cellKey 19 = .ok (.aload_n 0, 1) := by decide +kernel
theorem d_Node_cellKey_20 : decode b_Node_cellKey 20 = .ok (.iload_n 1, 1) := by decide +kernel
theorem d_Node_cellKey_21 : decode b_Node_cellKey 21 = .ok (.invokevirtual 50, 3) := by decide +kernel
theorem d_Node_cellKey_24 : decode b_Node_cellKey 24 = .ok (.istore_n 3, 1) := by decide +kernel
theorem d_Node_cellKey_25 : decode b_Node_cellKey 25 = .ok (.iload_n 3, 1) := by decide +kernel
theorem d_Node_cellKey_26 : decode b_Node_cellKey 26 = .ok (.ifCond .ge 5, 3) := by decide +kernel
theorem d_Node_cellKey_29 : decode b_Node_cellKey 29 = .ok (.iconst (-1), 1) := by decide +kernel
theorem d_Node_cellKey_30 : decode b_Node_cellKey 30 = .ok (.ireturn, 1) := by decide +kernel
theorem d_Node_cellKey_31 : decode b_Node_cellKey 31 = .ok (.iload_n 3, 1) := by decide +kernel
theorem d_Node_cellKey_32 : decode b_Node_cellKey 32 = .ok (.invokestatic 54, 3) := by decide +kernel
theorem d_Node_cellKey_35 : decode b_Node_cellKey 35 = .ok (.istore_n 2, 1) := by decide +kernel
theorem d_Node_cellKey_36 : decode b_Node_cellKey 36 = .ok (.aload_n 0, 1) := by decide +kernel
theorem d_Node_cellKey_37 : decode b_Node_cellKey 37 = .ok (.getfield 11, 3) := by decide +kernel
theorem d_Node_cellKey_40 : decode b_Node_cellKey 40 = .ok (.aload_n 0, 1) := by decide +kernel
theorem d_Node_cellKey_41 : decode b_Node_cellKey 41 = .ok (.getfield 15, 3) := by decide +kernel
theorem d_Node_cellKey_44 : decode b_Node_cellKey 44 = .ok (.iload_n 1, 1) := by decide +kernel
theorem d_Node_cellKey_45 : decode b_Node_cellKey 45 = .ok (.iaload, 1) := by decide +kernel
theorem d_Node_cellKey_46 : decode b_Node_cellKey 46 = .ok (.iload_n 2, 1) := by decide +kernel
theorem d_Node_cellKey_47 : decode b_Node_cellKey 47 = .ok (.iadd, 1) := by decide +kernel
theorem d_Node_cellKey_48 : decode b_Node_cellKey 48 = .ok (.aload_n 0, 1) := by decide +kernel
theorem d_Node_cellKey_49 : decode b_Node_cellKey 49 = .ok (.getfield 15, 3) := by decide +kernel
theorem d_Node_cellKey_52 : decode b_Node_cellKey 52 = .ok (.iload_n 1, 1) := by decide +kernel
theorem d_Node_cellKey_53 : decode b_Node_cellKey 53 = .ok (.iaload, 1) := by decide +kernel
theorem d_Node_cellKey_54 : decode b_Node_cellKey 54 = .ok (.aload_n 0, 1) := by decide +kernel
theorem d_Node_cellKey_55 : decode b_Node_cellKey 55 = .ok (.getfield 19, 3) := by decide +kernel
theorem d_Node_cellKey_58 : decode b_Node_cellKey 58 = .ok (.iload_n 1, 1) := by decide +kernel
theorem d_Node_cellKey_59 : decode b_Node_cellKey 59 = .ok (.iaload, 1) := by decide +kernel
theorem d_Node_cellKey_60 : decode b_Node_cellKey 60 = .ok (.iadd, 1) := by decide +kernel
theorem d_Node_cellKey_61 : decode b_Node_cellKey 61 = .ok (.invokestatic 46, 3) := by decide +kernel
theorem d_Node_cellKey_64 : decode b_Node_cellKey 64 = .ok (.ireturn, 1) := by decide +kernel
noncomputable def q_Node_cellKey_36 (v_count : Int32) (v_leaf : Int32) (v_bytes : Nat → Int32) (v_starts : Nat → Int32) (v_sizes : Nat → Int32) (x_1 : Int32) (x_2 : Int32) : Option (Int32) :=
  pu_ck (vp_in x_1 31) (pu_ck (vp_in x_1 31) (pu_ck (vp_in x_1 31) (pu_b1 (f_RF_readVarint 96 v_bytes ((v_starts x_1.toNatClampNeg) + x_2) ((v_starts x_1.toNatClampNeg) + (v_sizes x_1.toNatClampNeg))) (fun r2 => some r2))))
noncomputable def f_Node_cellKey (v_count : Int32) (v_leaf : Int32) (v_bytes : Nat → Int32) (v_starts : Nat → Int32) (v_sizes : Nat → Int32) (x_1 : Int32) : Option (Int32) :=
  pu_b1 (f_Node_hasCell v_count x_1) (fun r1 => pu_br (r1 = 0) (some (-1 : Int32)) (pu_br (v_leaf = 0) (q_Node_cellKey_36 v_count v_leaf v_bytes v_starts v_sizes x_1 (1 : Int32)) (pu_b1 (f_Node_recordLength v_count v_bytes v_starts v_sizes x_1) (fun r3 => pu_br (0 ≤ r3) (pu_b1 (f_RF_varintSize r3) (fun r4 => q_Node_cellKey_36 v_count v_leaf v_bytes v_starts v_sizes x_1 r4)) (some (-1 : Int32))))))
abbrev rm_Node_cellKey : Room := { frames := 2, cells := 0, slots := 0, locals := 46 }
set_option maxHeartbeats 8000000 in
set_option maxRecDepth 100000 in
theorem c_Node_cellKey (l : Launch) (D : va_G) (cI cJ cB cZ : ClassId) (sz : Nat) (q_this : Nat) (q_bytes : Nat) (q_starts : Nat) (q_sizes : Nat) (v_count : Int32) (v_last : Int32) (v_leaf : Int32) (v_bytes : Nat → Int32) (v_starts : Nat → Int32) (v_sizes : Nat → Int32) (x_1 : Int32) (o_r : Int32) (hf : f_Node_cellKey v_count v_leaf v_bytes v_starts v_sizes x_1 = some o_r) : Met l y_Node_cellKey (.code y_Node_cellKey b_Node_cellKey 4 (some .int) :: pu_wA) rm_Node_cellKey (pu_pc D pu_cl (pu_ty cI cJ cB cZ) [.ref q_this, .int x_1] [(q_this, .inr (3, [.ref q_bytes, .ref q_starts, .ref q_sizes, .int v_count, .int v_last, .int v_leaf])), (q_bytes, .inl (cB, 96, .inl v_bytes)), (q_starts, .inl (cI, 31, .inl v_starts)), (q_sizes, .inl (cI, 31, .inl v_sizes))] sz) (pu_qi D pu_cl (pu_ty cI cJ cB cZ) [(q_this, .inr (3, [.ref q_bytes, .ref q_starts, .ref q_sizes, .int v_count, .int v_last, .int v_leaf])), (q_bytes, .inl (cB, 96, .inl v_bytes)), (q_starts, .inl (cI, 31, .inl v_starts)), (q_sizes, .inl (cI, 31, .inl v_sizes))] [(q_this, .inr (3, [.ref q_bytes, .ref q_starts, .ref q_sizes, .int v_count, .int v_last, .int v_leaf])), (q_bytes, .inl (cB, 96, .inl v_bytes)), (q_starts, .inl (cI, 31, .inl v_starts)), (q_sizes, .inl (cI, 31, .inl v_sizes))] sz o_r) 0 0 (va_A [(q_this, .inr (3, [.ref q_bytes, .ref q_starts, .ref q_sizes, .int v_count, .int v_last, .int v_leaf])), (q_bytes, .inl (cB, 96, .inl v_bytes)), (q_starts, .inl (cI, 31, .inl v_starts)), (q_sizes, .inl (cI, 31, .inl v_sizes))] sz) := by
  refine pu_mti [.ref q_this, .int x_1] [(q_this, .inr (3, [.ref q_bytes, .ref q_starts, .ref q_sizes, .int v_count, .int v_last, .int v_leaf])), (q_bytes, .inl (cB, 96, .inl v_bytes)), (q_starts, .inl (cI, 31, .inl v_starts)), (q_sizes, .inl (cI, 31, .inl v_sizes))] [(q_this, .inr (3, [.ref q_bytes, .ref q_starts, .ref q_sizes, .int v_count, .int v_last, .int v_leaf])), (q_bytes, .inl (cB, 96, .inl v_bytes)), (q_starts, .inl (cI, 31, .inl v_starts)), (q_sizes, .inl (cI, 31, .inl v_sizes))] o_r (by decide) (Nat.le_of_ble_eq_true rfl) ?_
  intro p e s m args below meth c A Q ls hx hb hml hts hN hown hK hA hP hD hl hret0
  have hS : va_S A s.heap s.heap [] := va_S.rf
  have hl : lv_has ls 4 [(0, .ref q_this), (1, .int x_1)] := hl
  have hret : ∀ (pc : Nat) (ls : Array Slot) (H : Heap) (locs : List Loc) (y_0 : Int32), decode b_Node_cellKey pc = .ok (.ireturn, 1) → va_P D pu_cl [(q_this, .inr (3, [.ref q_bytes, .ref q_starts, .ref q_sizes, .int v_count, .int v_last, .int v_leaf])), (q_bytes, .inl (cB, 96, .inl v_bytes)), (q_starts, .inl (cI, 31, .inl v_starts)), (q_sizes, .inl (cI, 31, .inl v_sizes))] H → va_D A [(q_this, .inr (3, [.ref q_bytes, .ref q_starts, .ref q_sizes, .int v_count, .int v_last, .int v_leaf])), (q_bytes, .inl (cB, 96, .inl v_bytes)), (q_starts, .inl (cI, 31, .inl v_starts)), (q_sizes, .inl (cI, 31, .inl v_sizes))] → va_S A s.heap H locs → some y_0 = some o_r → W p l e rm_Node_cellKey s m args below meth c H locs 0 0 Q (F0 m pc ls [.int y_0]) := by
    intro pc ls H locs y_0 hd hP hD hS hf
    cases hf
    exact hret0 pc ls H locs hd hP hD hS
  clear hret0
  unfold f_Node_cellKey at hf
  skip
  have lb_36 : ∀ (x_1 : Int32) (x_2 : Int32) (H : Heap) (locs : List Loc) (ls : Array Slot), va_P D pu_cl [(q_this, .inr (3, [.ref q_bytes, .ref q_starts, .ref q_sizes, .int v_count, .int v_last, .int v_leaf])), (q_bytes, .inl (cB, 96, .inl v_bytes)), (q_starts, .inl (cI, 31, .inl v_starts)), (q_sizes, .inl (cI, 31, .inl v_sizes))] H → va_D A [(q_this, .inr (3, [.ref q_bytes, .ref q_starts, .ref q_sizes, .int v_count, .int v_last, .int v_leaf])), (q_bytes, .inl (cB, 96, .inl v_bytes)), (q_starts, .inl (cI, 31, .inl v_starts)), (q_sizes, .inl (cI, 31, .inl v_sizes))] → va_S A s.heap H locs → lv_has ls 4 [(0, .ref q_this), (1, .int x_1), (2, .int x_2)] → q_Node_cellKey_36 v_count v_leaf v_bytes v_starts v_sizes x_1 x_2 = some o_r → W p l e rm_Node_cellKey s m args below meth c H locs 0 0 Q (F0 m 36 ls []) := by
    intro x_1 x_2 H locs ls hP hD hS hl hf
    rw [q_Node_cellKey_36] at hf
    refine lv_aload_n hx hb d_Node_cellKey_36 rfl (lv_at hl 0 rfl) ?_
    refine gf_Node_11 (v := .ref q_bytes) hx hb hts hN hown hK hP 0 rfl rfl d_Node_cellKey_37 ?_
    refine lv_aload_n hx hb d_Node_cellKey_40 rfl (lv_at hl 0 rfl) ?_
    refine gf_Node_15 (v := .ref q_starts) hx hb hts hN hown hK hP 0 rfl rfl d_Node_cellKey_41 ?_
    refine lv_iload_n hx hb d_Node_cellKey_44 rfl (lv_at hl 1 rfl) ?_
    obtain ⟨hin, hf⟩ := pu_ck_some hf
    refine va_iald hx hb hK hP 2 0 rfl rfl hin d_Node_cellKey_45 ?_
    refine lv_iload_n hx hb d_Node_cellKey_46 rfl (lv_at hl 2 rfl) ?_
    refine lv_iadd hx hb d_Node_cellKey_47 ?_
    refine lv_aload_n hx hb d_Node_cellKey_48 rfl (lv_at hl 0 rfl) ?_
    refine gf_Node_15 (v := .ref q_starts) hx hb hts hN hown hK hP 0 rfl rfl d_Node_cellKey_49 ?_
    refine lv_iload_n hx hb d_Node_cellKey_52 rfl (lv_at hl 1 rfl) ?_
    obtain ⟨hin, hf⟩ := pu_ck_some hf
    refine va_iald hx hb hK hP 2 0 rfl rfl hin d_Node_cellKey_53 ?_
    refine lv_aload_n hx hb d_Node_cellKey_54 rfl (lv_at hl 0 rfl) ?_
    refine gf_Node_19 (v := .ref q_sizes) hx hb hts hN hown hK hP 0 rfl rfl d_Node_cellKey_55 ?_
    refine lv_iload_n hx hb d_Node_cellKey_58 rfl (lv_at hl 1 rfl) ?_
    obtain ⟨hin, hf⟩ := pu_ck_some hf
    refine va_iald hx hb hK hP 3 0 rfl rfl hin d_Node_cellKey_59 ?_
    refine lv_iadd hx hb d_Node_cellKey_60 ?_
    obtain ⟨r2, hc, hf⟩ := pu_b1_some hf
    refine cl_i (WC := [(q_bytes, .inl (cB, 96, .inl v_bytes))]) (WC2 := [(q_bytes, .inl (cB, 96, .inl v_bytes))]) (WR := [(q_this, .inr (3, [.ref q_bytes, .ref q_starts, .ref q_sizes, .int v_count, .int v_last, .int v_leaf])), (q_starts, .inl (cI, 31, .inl v_starts)), (q_sizes, .inl (cI, 31, .inl v_sizes))]) (WS2 := [(q_this, .inr (3, [.ref q_bytes, .ref q_starts, .ref q_sizes, .int v_count, .int v_last, .int v_leaf])), (q_bytes, .inl (cB, 96, .inl v_bytes)), (q_starts, .inl (cI, 31, .inl v_starts)), (q_sizes, .inl (cI, 31, .inl v_sizes))]) (pu_rsn (List.mem_of_getElem? (i := 31) rfl) (pu_in4 _ (List.mem_of_getElem? (i := 0) rfl)) (pu_in0 _ (List.mem_of_getElem? (i := 1) rfl)) (pu_in4 _ (List.mem_of_getElem? (i := 1) rfl)) hd_RF_readVarint (by decide) ⟨rfl, rfl⟩ rfl rfl (Nat.le_of_ble_eq_true rfl) (As := [.ref q_bytes, .int ((v_starts x_1.toNatClampNeg) + x_2), .int ((v_starts x_1.toNatClampNeg) + (v_sizes x_1.toNatClampNeg))]) (rest := []) (WC := [(q_bytes, .inl (cB, 96, .inl v_bytes))]) hx hb hml hown hts hN hK hP hD (c_RF_readVarint l D cI cJ cB cZ H.size q_bytes 96 v_bytes ((v_starts x_1.toNatClampNeg) + x_2) ((v_starts x_1.toNatClampNeg) + (v_sizes x_1.toNatClampNeg)) r2 hc) [1] rfl rfl hl.1 d_Node_cellKey_61) hP hD hS hA [1] [0, 2, 3] [0, 3, 1, 2] rfl rfl rfl (by decide) rfl rfl (fun H locs hP hD hS => ?_)
    exact hret _ _ _ _ r2  d_Node_cellKey_64 hP hD hS hf
  obtain ⟨H, hH⟩ : ∃ H, H = s.heap := ⟨_, rfl⟩
  obtain ⟨locs, hlocs⟩ : ∃ locs : List Loc, locs = [] := ⟨_, rfl⟩
  have hP : va_P D pu_cl [(q_this, .inr (3, [.ref q_bytes, .ref q_starts, .ref q_sizes, .int v_count, .int v_last, .int v_leaf])), (q_bytes, .inl (cB, 96, .inl v_bytes)), (q_starts, .inl (cI, 31, .inl v_starts)), (q_sizes, .inl (cI, 31, .inl v_sizes))] H := by rw [hH]; exact hP
  have hS : va_S A s.heap H locs := by rw [hH, hlocs]; exact hS
  have goal : W p l e rm_Node_cellKey s m args below meth c H locs 0 0 Q (F0 m 0 ls []) := by
    clear hH hlocs
    refine lv_aload_n hx hb d_Node_cellKey_0 rfl (lv_at hl 0 rfl) ?_
    refine lv_iload_n hx hb d_Node_cellKey_1 rfl (lv_at hl 1 rfl) ?_
    obtain ⟨r1, hc, hf⟩ := pu_b1_some hf
    refine cl_i (WC := [(q_this, .inr (3, [.ref q_bytes, .ref q_starts, .ref q_sizes, .int v_count, .int v_last, .int v_leaf]))]) (WC2 := [(q_this, .inr (3, [.ref q_bytes, .ref q_starts, .ref q_sizes, .int v_count, .int v_last, .int v_leaf]))]) (WR := [(q_bytes, .inl (cB, 96, .inl v_bytes)), (q_starts, .inl (cI, 31, .inl v_starts)), (q_sizes, .inl (cI, 31, .inl v_sizes))]) (WS2 := [(q_this, .inr (3, [.ref q_bytes, .ref q_starts, .ref q_sizes, .int v_count, .int v_last, .int v_leaf])), (q_bytes, .inl (cB, 96, .inl v_bytes)), (q_starts, .inl (cI, 31, .inl v_starts)), (q_sizes, .inl (cI, 31, .inl v_sizes))]) (pu_rv (cl := pu_cl) (pu_in3 _ (List.mem_of_getElem? (i := 57) rfl)) (pu_in3 _ (List.mem_of_getElem? (i := 58) rfl)) (pu_in13 _ (List.mem_of_getElem? (i := 46) rfl)) (pu_in0 _ (List.mem_of_getElem? (i := 6) rfl)) (pu_in3 _ (List.mem_of_getElem? (i := 59) rfl)) (ci := 3) rfl hd_Node_hasCell (by decide) ⟨rfl, rfl⟩ rfl rfl (Nat.le_of_ble_eq_true rfl) rfl (As := [.int x_1]) (rest := []) (WC := [(q_this, .inr (3, [.ref q_bytes, .ref q_starts, .ref q_sizes, .int v_count, .int v_last, .int v_leaf]))]) hx hb hml hown hts hN hK hP hD (c_Node_hasCell l D cI cJ cB cZ H.size q_this q_bytes q_starts q_sizes v_count v_last v_leaf x_1 r1 hc) [0] rfl rfl hl.1 d_Node_cellKey_2) hP hD hS hA [0] [1, 2, 3] [3, 0, 1, 2] rfl rfl rfl (by decide) rfl rfl (fun H locs hP hD hS => ?_)
    refine lv_if_ne (tgt := 10) hx hb d_Node_cellKey_5 rfl (fun hc => ?_) (fun hc => ?_)
    · have hf := pu_br_neg hf hc
      refine lv_iconst (v := 1) hx hb d_Node_cellKey_10 rfl ?_
      refine lv_istore_n hx hb d_Node_cellKey_11 rfl hl (by decide) rfl (fun ls hl => ?_)
      have hl : lv_has ls 4 [(2, .int (1 : Int32)), (0, .ref q_this), (1, .int x_1)] := hl
      refine lv_aload_n hx hb d_Node_cellKey_12 rfl (lv_at hl 1 rfl) ?_
      refine gf_Node_28 (v := .int v_leaf) hx hb hts hN hown hK hP 0 rfl rfl d_Node_cellKey_13 ?_
      refine lv_if_eq (tgt := 36) hx hb d_Node_cellKey_16 rfl (fun hc => ?_) (fun hc => ?_)
      · have hf := pu_br_pos hf hc
        exact lb_36 x_1 (1 : Int32) H locs ls hP hD hS (lv_sub hl [1, 2, 0] rfl) hf
      have hf := pu_br_neg hf hc
      refine lv_aload_n hx hb d_Node_cellKey_19 rfl (lv_at hl 1 rfl) ?_
      refine lv_iload_n hx hb d_Node_cellKey_20 rfl (lv_at hl 2 rfl) ?_
      obtain ⟨r3, hc, hf⟩ := pu_b1_some hf
      refine cl_i (WC := [(q_this, .inr (3, [.ref q_bytes, .ref q_starts, .ref q_sizes, .int v_count, .int v_last, .int v_leaf])), (q_bytes, .inl (cB, 96, .inl v_bytes)), (q_starts, .inl (cI, 31, .inl v_starts)), (q_sizes, .inl (cI, 31, .inl v_sizes))]) (WC2 := [(q_this, .inr (3, [.ref q_bytes, .ref q_starts, .ref q_sizes, .int v_count, .int v_last, .int v_leaf])), (q_bytes, .inl (cB, 96, .inl v_bytes)), (q_starts, .inl (cI, 31, .inl v_starts)), (q_sizes, .inl (cI, 31, .inl v_sizes))]) (WR := []) (WS2 := [(q_this, .inr (3, [.ref q_bytes, .ref q_starts, .ref q_sizes, .int v_count, .int v_last, .int v_leaf])), (q_bytes, .inl (cB, 96, .inl v_bytes)), (q_starts, .inl (cI, 31, .inl v_starts)), (q_sizes, .inl (cI, 31, .inl v_sizes))]) (pu_rv (cl := pu_cl) (pu_in3 _ (List.mem_of_getElem? (i := 60) rfl)) (pu_in3 _ (List.mem_of_getElem? (i := 61) rfl)) (pu_in3 _ (List.mem_of_getElem? (i := 62) rfl)) (pu_in0 _ (List.mem_of_getElem? (i := 6) rfl)) (pu_in3 _ (List.mem_of_getElem? (i := 63) rfl)) (ci := 3) rfl hd_Node_recordLength (by decide) ⟨rfl, rfl⟩ rfl rfl (Nat.le_of_ble_eq_true rfl) rfl (As := [.int x_1]) (rest := []) (WC := [(q_this, .inr (3, [.ref q_bytes, .ref q_starts, .ref q_sizes, .int v_count, .int v_last, .int v_leaf])), (q_bytes, .inl (cB, 96, .inl v_bytes)), (q_starts, .inl (cI, 31, .inl v_starts)), (q_sizes, .inl (cI, 31, .inl v_sizes))]) hx hb hml hown hts hN hK hP hD (c_Node_recordLength l D cI cJ cB cZ H.size q_this q_bytes q_starts q_sizes v_count v_last v_leaf v_bytes v_starts v_sizes x_1 r3 hc) [0, 1, 2, 3] rfl rfl hl.1 d_Node_cellKey_21) hP hD hS hA [0, 1, 2, 3] [] [0, 1, 2, 3] rfl rfl rfl (by decide) rfl rfl (fun H locs hP hD hS => ?_)
      refine lv_istore_n hx hb d_Node_cellKey_24 rfl hl (by decide) rfl (fun ls hl => ?_)
      have hl : lv_has ls 4 [(3, .int r3), (2, .int (1 : Int32)), (0, .ref q_this), (1, .int x_1)] := hl
      refine lv_iload_n hx hb d_Node_cellKey_25 rfl (lv_at hl 0 rfl) ?_
      refine lv_if_ge (tgt := 31) hx hb d_Node_cellKey_26 rfl (fun hc => ?_) (fun hc => ?_)
      · have hf := pu_br_pos hf hc
        refine lv_iload_n hx hb d_Node_cellKey_31 rfl (lv_at hl 0 rfl) ?_
        obtain ⟨r4, hc, hf⟩ := pu_b1_some hf
        refine cl_i (WC := []) (WC2 := []) (WR := [(q_this, .inr (3, [.ref q_bytes, .ref q_starts, .ref q_sizes, .int v_count, .int v_last, .int v_leaf])), (q_bytes, .inl (cB, 96, .inl v_bytes)), (q_starts, .inl (cI, 31, .inl v_starts)), (q_sizes, .inl (cI, 31, .inl v_sizes))]) (WS2 := [(q_this, .inr (3, [.ref q_bytes, .ref q_starts, .ref q_sizes, .int v_count, .int v_last, .int v_leaf])), (q_bytes, .inl (cB, 96, .inl v_bytes)), (q_starts, .inl (cI, 31, .inl v_starts)), (q_sizes, .inl (cI, 31, .inl v_sizes))]) (pu_rsn (List.mem_of_getElem? (i := 32) rfl) (pu_in4 _ (List.mem_of_getElem? (i := 2) rfl)) (pu_in0 _ (List.mem_of_getElem? (i := 1) rfl)) (pu_in4 _ (List.mem_of_getElem? (i := 3) rfl)) hd_RF_varintSize (by decide) ⟨rfl, rfl⟩ rfl rfl (Nat.le_of_ble_eq_true rfl) (As := [.int r3]) (rest := []) (WC := []) hx hb hml hown hts hN hK hP hD (c_RF_varintSize l D cI cJ cB cZ H.size r3 r4 hc) [] rfl rfl hl.1 d_Node_cellKey_32) hP hD hS hA [] [0, 1, 2, 3] [0, 1, 2, 3] rfl rfl rfl (by decide) rfl rfl (fun H locs hP hD hS => ?_)
        refine lv_istore_n hx hb d_Node_cellKey_35 rfl hl (by decide) rfl (fun ls hl => ?_)
        have hl : lv_has ls 4 [(2, .int r4), (3, .int r3), (0, .ref q_this), (1, .int x_1)] := hl
        exact lb_36 x_1 r4 H locs ls hP hD hS (lv_sub hl [2, 3, 0] rfl) hf
      have hf := pu_br_neg hf hc
      refine lv_iconst (v := -1) hx hb d_Node_cellKey_29 rfl ?_
      exact hret _ _ _ _ (-1 : Int32)  d_Node_cellKey_30 hP hD hS hf
    have hf := pu_br_pos hf hc
    refine lv_iconst (v := -1) hx hb d_Node_cellKey_8 rfl ?_
    exact hret _ _ _ _ (-1 : Int32)  d_Node_cellKey_9 hP hD hS hf
  rw [hH, hlocs] at goal
  exact goal
theorem d_Node_slotOf_0 : decode b_Node_slotOf 0 = .ok (.iconst 0, 1) := by decide +kernel
theorem d_Node_slotOf_1 : decode b_Node_slotOf 1 = .ok (.istore_n 2, 1) := by decide +kernel
theorem d_Node_slotOf_2 : decode b_Node_slotOf 2 = .ok (.iload_n 2, 1) := by decide +kernel
theorem d_Node_slotOf_3 : decode b_Node_slotOf 3 = .ok (.aload_n 0, 1) := by decide +kernel
theorem d_Node_slotOf_4 : decode b_Node_slotOf 4 = .ok (.getfield 36, 3) := by decide +kernel
theorem d_Node_slotOf_7 : decode b_Node_slotOf 7 = .ok (.if_icmp .ge 20, 3) := by decide +kernel
theorem d_Node_slotOf_10 : decode b_Node_slotOf 10 = .ok (.aload_n 0, 1) := by decide +kernel
theorem d_Node_slotOf_11 : decode b_Node_slotOf 11 = .ok (.iload_n 2, 1) := by decide +kernel
theorem d_Node_slotOf_12 : decode b_Node_slotOf 12 = .ok (.invokevirtual 57, 3) := by decide +kernel
theorem d_Node_slotOf_15 : decode b_Node_slotOf 15 = .ok (.iload_n 1, 1) := by decide +kernel
theorem d_Node_slotOf_16 : decode b_Node_slotOf 16 = .ok (.if_icmp .lt 5, 3) := by decide +kernel
theorem d_Node_slotOf_19 : decode b_Node_slotOf 19 = .ok (.iload_n 2, 1) := by decide +kernel
theorem d_Node_slotOf_20 : decode b_Node_slotOf 20 = .ok (.ireturn, 1) := by decide +kernel
theorem d_Node_slotOf_21 : decode b_Node_slotOf 21 = .ok (.iinc 2 1, 3) := by decide +kernel
theorem d_Node_slotOf_24 : decode b_Node_slotOf 24 = .ok (.goto (-22), 3) := by decide +kernel
theorem d_Node_slotOf_27 : decode b_Node_slotOf 27 = .ok (.aload_n 0, 1) := by decide +kernel
theorem d_Node_slotOf_28 : decode b_Node_slotOf 28 = .ok (.getfield 36, 3) := by decide +kernel
theorem d_Node_slotOf_31 : decode b_Node_slotOf 31 = .ok (.ireturn, 1) := by decide +kernel
noncomputable def q_Node_slotOf_27 (v_count : Int32) (v_leaf : Int32) (v_bytes : Nat → Int32) (v_starts : Nat → Int32) (v_sizes : Nat → Int32) : Option (Int32) :=
  some v_count
noncomputable def q_Node_slotOf_2 (kx_27 : Option (Int32)) (v_count : Int32) (v_leaf : Int32) (v_bytes : Nat → Int32) (v_starts : Nat → Int32) (v_sizes : Nat → Int32) (x_1 : Int32) : Nat → Int32 → Option (Int32)
  | 0, _ => none
  | n + 1, x_2 => pu_br (v_count ≤ x_2) (kx_27) (pu_b1 (f_Node_cellKey v_count v_leaf v_bytes v_starts v_sizes x_2) (fun r1 => pu_br (r1 < x_1) (pu_nm (x_2 + (1 : Int32)) (fun t2 => q_Node_slotOf_2 kx_27 v_count v_leaf v_bytes v_starts v_sizes x_1 n t2)) (some x_2)))
noncomputable def f_Node_slotOf (v_count : Int32) (v_leaf : Int32) (v_bytes : Nat → Int32) (v_starts : Nat → Int32) (v_sizes : Nat → Int32) (x_1 : Int32) : Option (Int32) :=
  q_Node_slotOf_2 (q_Node_slotOf_27 v_count v_leaf v_bytes v_starts v_sizes) v_count v_leaf v_bytes v_starts v_sizes x_1 pu_fu (0 : Int32)
abbrev rm_Node_slotOf : Room := { frames := 3, cells := 0, slots := 0, locals := 69 }
set_option maxHeartbeats 8000000 in
set_option maxRecDepth 100000 in
theorem c_Node_slotOf (l : Launch) (D : va_G) (cI cJ cB cZ : ClassId) (sz : Nat) (q_this : Nat) (q_bytes : Nat) (q_starts : Nat) (q_sizes : Nat) (v_count : Int32) (v_last : Int32) (v_leaf : Int32) (v_bytes : Nat → Int32) (v_starts : Nat → Int32) (v_sizes : Nat → Int32) (x_1 : Int32) (o_r : Int32) (hf : f_Node_slotOf v_count v_leaf v_bytes v_starts v_sizes x_1 = some o_r) : Met l y_Node_slotOf (.code y_Node_slotOf b_Node_slotOf 3 (some .int) :: pu_wA) rm_Node_slotOf (pu_pc D pu_cl (pu_ty cI cJ cB cZ) [.ref q_this, .int x_1] [(q_this, .inr (3, [.ref q_bytes, .ref q_starts, .ref q_sizes, .int v_count, .int v_last, .int v_leaf])), (q_bytes, .inl (cB, 96, .inl v_bytes)), (q_starts, .inl (cI, 31, .inl v_starts)), (q_sizes, .inl (cI, 31, .inl v_sizes))] sz) (pu_qi D pu_cl (pu_ty cI cJ cB cZ) [(q_this, .inr (3, [.ref q_bytes, .ref q_starts, .ref q_sizes, .int v_count, .int v_last, .int v_leaf])), (q_bytes, .inl (cB, 96, .inl v_bytes)), (q_starts, .inl (cI, 31, .inl v_starts)), (q_sizes, .inl (cI, 31, .inl v_sizes))] [(q_this, .inr (3, [.ref q_bytes, .ref q_starts, .ref q_sizes, .int v_count, .int v_last, .int v_leaf])), (q_bytes, .inl (cB, 96, .inl v_bytes)), (q_starts, .inl (cI, 31, .inl v_starts)), (q_sizes, .inl (cI, 31, .inl v_sizes))] sz o_r) 0 0 (va_A [(q_this, .inr (3, [.ref q_bytes, .ref q_starts, .ref q_sizes, .int v_count, .int v_last, .int v_leaf])), (q_bytes, .inl (cB, 96, .inl v_bytes)), (q_starts, .inl (cI, 31, .inl v_starts)), (q_sizes, .inl (cI, 31, .inl v_sizes))] sz) := by
  refine pu_mti [.ref q_this, .int x_1] [(q_this, .inr (3, [.ref q_bytes, .ref q_starts, .ref q_sizes, .int v_count, .int v_last, .int v_leaf])), (q_bytes, .inl (cB, 96, .inl v_bytes)), (q_starts, .inl (cI, 31, .inl v_starts)), (q_sizes, .inl (cI, 31, .inl v_sizes))] [(q_this, .inr (3, [.ref q_bytes, .ref q_starts, .ref q_sizes, .int v_count, .int v_last, .int v_leaf])), (q_bytes, .inl (cB, 96, .inl v_bytes)), (q_starts, .inl (cI, 31, .inl v_starts)), (q_sizes, .inl (cI, 31, .inl v_sizes))] o_r (by decide) (Nat.le_of_ble_eq_true rfl) ?_
  intro p e s m args below meth c A Q ls hx hb hml hts hN hown hK hA hP hD hl hret0
  have hS : va_S A s.heap s.heap [] := va_S.rf
  have hl : lv_has ls 3 [(0, .ref q_this), (1, .int x_1)] := hl
  have hret : ∀ (pc : Nat) (ls : Array Slot) (H : Heap) (locs : List Loc) (y_0 : Int32), decode b_Node_slotOf pc = .ok (.ireturn, 1) → va_P D pu_cl [(q_this, .inr (3, [.ref q_bytes, .ref q_starts, .ref q_sizes, .int v_count, .int v_last, .int v_leaf])), (q_bytes, .inl (cB, 96, .inl v_bytes)), (q_starts, .inl (cI, 31, .inl v_starts)), (q_sizes, .inl (cI, 31, .inl v_sizes))] H → va_D A [(q_this, .inr (3, [.ref q_bytes, .ref q_starts, .ref q_sizes, .int v_count, .int v_last, .int v_leaf])), (q_bytes, .inl (cB, 96, .inl v_bytes)), (q_starts, .inl (cI, 31, .inl v_starts)), (q_sizes, .inl (cI, 31, .inl v_sizes))] → va_S A s.heap H locs → some y_0 = some o_r → W p l e rm_Node_slotOf s m args below meth c H locs 0 0 Q (F0 m pc ls [.int y_0]) := by
    intro pc ls H locs y_0 hd hP hD hS hf
    cases hf
    exact hret0 pc ls H locs hd hP hD hS
  clear hret0
  unfold f_Node_slotOf at hf
  skip
  have lb_27 : ∀ (H : Heap) (locs : List Loc) (ls : Array Slot), va_P D pu_cl [(q_this, .inr (3, [.ref q_bytes, .ref q_starts, .ref q_sizes, .int v_count, .int v_last, .int v_leaf])), (q_bytes, .inl (cB, 96, .inl v_bytes)), (q_starts, .inl (cI, 31, .inl v_starts)), (q_sizes, .inl (cI, 31, .inl v_sizes))] H → va_D A [(q_this, .inr (3, [.ref q_bytes, .ref q_starts, .ref q_sizes, .int v_count, .int v_last, .int v_leaf])), (q_bytes, .inl (cB, 96, .inl v_bytes)), (q_starts, .inl (cI, 31, .inl v_starts)), (q_sizes, .inl (cI, 31, .inl v_sizes))] → va_S A s.heap H locs → lv_has ls 3 [(0, .ref q_this)] → q_Node_slotOf_27 v_count v_leaf v_bytes v_starts v_sizes = some o_r → W p l e rm_Node_slotOf s m args below meth c H locs 0 0 Q (F0 m 27 ls []) := by
    intro H locs ls hP hD hS hl hf
    rw [q_Node_slotOf_27] at hf
    refine lv_aload_n hx hb d_Node_slotOf_27 rfl (lv_at hl 0 rfl) ?_
    refine gf_Node_36 (v := .int v_count) hx hb hts hN hown hK hP 0 rfl rfl d_Node_slotOf_28 ?_
    exact hret _ _ _ _ v_count  d_Node_slotOf_31 hP hD hS hf
  have lp_2 : ∀ (x_1 : Int32) (n2 : Nat) (x_2 : Int32) (H : Heap) (locs : List Loc) (ls : Array Slot), va_P D pu_cl [(q_this, .inr (3, [.ref q_bytes, .ref q_starts, .ref q_sizes, .int v_count, .int v_last, .int v_leaf])), (q_bytes, .inl (cB, 96, .inl v_bytes)), (q_starts, .inl (cI, 31, .inl v_starts)), (q_sizes, .inl (cI, 31, .inl v_sizes))] H → va_D A [(q_this, .inr (3, [.ref q_bytes, .ref q_starts, .ref q_sizes, .int v_count, .int v_last, .int v_leaf])), (q_bytes, .inl (cB, 96, .inl v_bytes)), (q_starts, .inl (cI, 31, .inl v_starts)), (q_sizes, .inl (cI, 31, .inl v_sizes))] → va_S A s.heap H locs → lv_has ls 3 [(0, .ref q_this), (1, .int x_1), (2, .int x_2)] → q_Node_slotOf_2 (q_Node_slotOf_27 v_count v_leaf v_bytes v_starts v_sizes) v_count v_leaf v_bytes v_starts v_sizes x_1 n2 x_2 = some o_r → W p l e rm_Node_slotOf s m args below meth c H locs 0 0 Q (F0 m 2 ls []) := by
    intro x_1 n2
    induction n2 with
    | zero =>
      intro x_2 H locs ls hP hD hS hl hf
      rw [q_Node_slotOf_2] at hf
      cases hf
    | succ n2 ih_2 =>
      intro x_2 H locs ls hP hD hS hl hf
      rw [q_Node_slotOf_2] at hf
      refine lv_iload_n hx hb d_Node_slotOf_2 rfl (lv_at hl 2 rfl) ?_
      refine lv_aload_n hx hb d_Node_slotOf_3 rfl (lv_at hl 0 rfl) ?_
      refine gf_Node_36 (v := .int v_count) hx hb hts hN hown hK hP 0 rfl rfl d_Node_slotOf_4 ?_
      refine lv_icmp_ge (tgt := 27) hx hb d_Node_slotOf_7 rfl (fun hc => ?_) (fun hc => ?_)
      · have hf := pu_br_pos hf hc
        exact lb_27  H locs ls hP hD hS (lv_sub hl [0] rfl) hf
      have hf := pu_br_neg hf hc
      refine lv_aload_n hx hb d_Node_slotOf_10 rfl (lv_at hl 0 rfl) ?_
      refine lv_iload_n hx hb d_Node_slotOf_11 rfl (lv_at hl 2 rfl) ?_
      obtain ⟨r1, hc, hf⟩ := pu_b1_some hf
      refine cl_i (WC := [(q_this, .inr (3, [.ref q_bytes, .ref q_starts, .ref q_sizes, .int v_count, .int v_last, .int v_leaf])), (q_bytes, .inl (cB, 96, .inl v_bytes)), (q_starts, .inl (cI, 31, .inl v_starts)), (q_sizes, .inl (cI, 31, .inl v_sizes))]) (WC2 := [(q_this, .inr (3, [.ref q_bytes, .ref q_starts, .ref q_sizes, .int v_count, .int v_last, .int v_leaf])), (q_bytes, .inl (cB, 96, .inl v_bytes)), (q_starts, .inl (cI, 31, .inl v_starts)), (q_sizes, .inl (cI, 31, .inl v_sizes))]) (WR := []) (WS2 := [(q_this, .inr (3, [.ref q_bytes, .ref q_starts, .ref q_sizes, .int v_count, .int v_last, .int v_leaf])), (q_bytes, .inl (cB, 96, .inl v_bytes)), (q_starts, .inl (cI, 31, .inl v_starts)), (q_sizes, .inl (cI, 31, .inl v_sizes))]) (pu_rv (cl := pu_cl) (pu_in3 _ (List.mem_of_getElem? (i := 53) rfl)) (pu_in3 _ (List.mem_of_getElem? (i := 54) rfl)) (pu_in3 _ (List.mem_of_getElem? (i := 55) rfl)) (pu_in0 _ (List.mem_of_getElem? (i := 6) rfl)) (pu_in3 _ (List.mem_of_getElem? (i := 56) rfl)) (ci := 3) rfl hd_Node_cellKey (by decide) ⟨rfl, rfl⟩ rfl rfl (Nat.le_of_ble_eq_true rfl) rfl (As := [.int x_2]) (rest := []) (WC := [(q_this, .inr (3, [.ref q_bytes, .ref q_starts, .ref q_sizes, .int v_count, .int v_last, .int v_leaf])), (q_bytes, .inl (cB, 96, .inl v_bytes)), (q_starts, .inl (cI, 31, .inl v_starts)), (q_sizes, .inl (cI, 31, .inl v_sizes))]) hx hb hml hown hts hN hK hP hD (c_Node_cellKey l D cI cJ cB cZ H.size q_this q_bytes q_starts q_sizes v_count v_last v_leaf v_bytes v_starts v_sizes x_2 r1 hc) [0, 1, 2, 3] rfl rfl hl.1 d_Node_slotOf_12) hP hD hS hA [0, 1, 2, 3] [] [0, 1, 2, 3] rfl rfl rfl (by decide) rfl rfl (fun H locs hP hD hS => ?_)
      refine lv_iload_n hx hb d_Node_slotOf_15 rfl (lv_at hl 1 rfl) ?_
      refine lv_icmp_lt (tgt := 21) hx hb d_Node_slotOf_16 rfl (fun hc => ?_) (fun hc => ?_)
      · have hf := pu_br_pos hf hc
        obtain ⟨t2, e_t2, hf⟩ := pu_nm_some hf
        refine lv_iinc (k := 2) (v := t2) hx hb d_Node_slotOf_21 hl rfl e_t2.symm (by decide) rfl (fun ls hl => ?_)
        have hl : lv_has ls 3 [(2, .int t2), (0, .ref q_this), (1, .int x_1)] := hl
        refine lv_goto (tgt := 2) hx hb d_Node_slotOf_24 rfl ?_
        exact ih_2 t2 H locs ls hP hD hS (lv_sub hl [1, 2, 0] rfl) hf
      have hf := pu_br_neg hf hc
      refine lv_iload_n hx hb d_Node_slotOf_19 rfl (lv_at hl 2 rfl) ?_
      exact hret _ _ _ _ x_2  d_Node_slotOf_20 hP hD hS hf
  obtain ⟨H, hH⟩ : ∃ H, H = s.heap := ⟨_, rfl⟩
  obtain ⟨locs, hlocs⟩ : ∃ locs : List Loc, locs = [] := ⟨_, rfl⟩
  have hP : va_P D pu_cl [(q_this, .inr (3, [.ref q_bytes, .ref q_starts, .ref q_sizes, .int v_count, .int v_last, .int v_leaf])), (q_bytes, .inl (cB, 96, .inl v_bytes)), (q_starts, .inl (cI, 31, .inl v_starts)), (q_sizes, .inl (cI, 31, .inl v_sizes))] H := by rw [hH]; exact hP
  have hS : va_S A s.heap H locs := by rw [hH, hlocs]; exact hS
  have goal : W p l e rm_Node_slotOf s m args below meth c H locs 0 0 Q (F0 m 0 ls []) := by
    clear hH hlocs
    refine lv_iconst (v := 0) hx hb d_Node_slotOf_0 rfl ?_
    refine lv_istore_n hx hb d_Node_slotOf_1 rfl hl (by decide) rfl (fun ls hl => ?_)
    have hl : lv_has ls 3 [(2, .int (0 : Int32)), (0, .ref q_this), (1, .int x_1)] := hl
    exact lp_2 x_1 _ (0 : Int32) H locs ls hP hD hS (lv_sub hl [1, 2, 0] rfl) hf
  rw [hH, hlocs] at goal
  exact goal
theorem d_Node_child_0 : decode b_Node_child 0 = .ok (.aload_n 0, 1) := by decide +kernel
theorem d_Node_child_1 : decode b_Node_child 1 = .ok (.iload_n 1, 1) := by decide +kernel
theorem d_Node_child_2 : decode b_Node_child 2 = .ok (.invokevirtual 43, 3) := by decide +kernel
theorem d_Node_child_5 : decode b_Node_child 5 = .ok (.ifCond .eq 21, 3) := by decide +kernel
theorem d_Node_child_8 : decode b_Node_child 8 = .ok (.aload_n 0, 1) := by decide +kernel
theorem d_Node_child_9 : decode b_Node_child 9 = .ok (.getfield 11, 3) := by decide +kernel
theorem d_Node_child_12 : decode b_Node_child 12 = .ok (.aload_n 0, 1) := by decide +kernel
theorem d_Node_child_13 : decode b_Node_child 13 = .ok (.getfield 15, 3) := by decide +kernel
theorem d_Node_child_16 : decode b_Node_child 16 = .ok (.iload_n 1, 1) := by decide +kernel
theorem d_Node_child_17 : decode b_Node_child 17 = .ok (.iaload, 1) := by decide +kernel
theorem d_Node_child_18 : decode b_Node_child 18 = .ok (.baload, 1) := by decide +kernel
theorem d_Node_child_19 : decode b_Node_child 19 = .ok (.sipush 255, 3) := by decide +kernel
theorem d_Node_child_22 : decode b_Node_child 22 = .ok (.iand, 1) := by decide +kernel
theorem d_Node_child_23 : decode b_Node_child 23 = .ok (.goto 7, 3) := by decide +kernel
theorem d_Node_child_26 : decode b_Node_child 26 = .ok (.aload_n 0, 1) := by decide +kernel
theorem d_Node_child_27 : decode b_Node_child 27 = .ok (.getfield 32, 3) := by decide +kernel
theorem d_Node_child_30 : decode b_Node_child 30 = .ok (.ireturn, 1) := by decide +kernel
noncomputable def f_Node_child (v_count : Int32) (v_last : Int32) (v_bytes : Nat → Int32) (v_starts : Nat → Int32) (x_1 : Int32) : Option (Int32) :=
  pu_b1 (f_Node_hasCell v_count x_1) (fun r1 => pu_br (r1 = 0) (some v_last) (pu_ck (vp_in x_1 31) (pu_ck (vp_in (v_starts x_1.toNatClampNeg) 96) (some ((v_bytes (v_starts x_1.toNatClampNeg).toNatClampNeg) &&& (255 : Int32))))))
abbrev rm_Node_child : Room := { frames := 1, cells := 0, slots := 0, locals := 21 }
set_option maxHeartbeats 8000000 in
set_option maxRecDepth 100000 in
theorem c_Node_child (l : Launch) (D : va_G) (cI cJ cB cZ : ClassId) (sz : Nat) (q_this : Nat) (q_bytes : Nat) (q_starts : Nat) (q_sizes : Nat) (v_count : Int32) (v_last : Int32) (v_leaf : Int32) (v_bytes : Nat → Int32) (v_starts : Nat → Int32) (x_1 : Int32) (o_r : Int32) (hf : f_Node_child v_count v_last v_bytes v_starts x_1 = some o_r) : Met l y_Node_child (.code y_Node_child b_Node_child 2 (some .int) :: pu_wA) rm_Node_child (pu_pc D pu_cl (pu_ty cI cJ cB cZ) [.ref q_this, .int x_1] [(q_this, .inr (3, [.ref q_bytes, .ref q_starts, .ref q_sizes, .int v_count, .int v_last, .int v_leaf])), (q_bytes, .inl (cB, 96, .inl v_bytes)), (q_starts, .inl (cI, 31, .inl v_starts))] sz) (pu_qi D pu_cl (pu_ty cI cJ cB cZ) [(q_this, .inr (3, [.ref q_bytes, .ref q_starts, .ref q_sizes, .int v_count, .int v_last, .int v_leaf])), (q_bytes, .inl (cB, 96, .inl v_bytes)), (q_starts, .inl (cI, 31, .inl v_starts))] [(q_this, .inr (3, [.ref q_bytes, .ref q_starts, .ref q_sizes, .int v_count, .int v_last, .int v_leaf])), (q_bytes, .inl (cB, 96, .inl v_bytes)), (q_starts, .inl (cI, 31, .inl v_starts))] sz o_r) 0 0 (va_A [(q_this, .inr (3, [.ref q_bytes, .ref q_starts, .ref q_sizes, .int v_count, .int v_last, .int v_leaf])), (q_bytes, .inl (cB, 96, .inl v_bytes)), (q_starts, .inl (cI, 31, .inl v_starts))] sz) := by
  refine pu_mti [.ref q_this, .int x_1] [(q_this, .inr (3, [.ref q_bytes, .ref q_starts, .ref q_sizes, .int v_count, .int v_last, .int v_leaf])), (q_bytes, .inl (cB, 96, .inl v_bytes)), (q_starts, .inl (cI, 31, .inl v_starts))] [(q_this, .inr (3, [.ref q_bytes, .ref q_starts, .ref q_sizes, .int v_count, .int v_last, .int v_leaf])), (q_bytes, .inl (cB, 96, .inl v_bytes)), (q_starts, .inl (cI, 31, .inl v_starts))] o_r (by decide) (Nat.le_of_ble_eq_true rfl) ?_
  intro p e s m args below meth c A Q ls hx hb hml hts hN hown hK hA hP hD hl hret0
  have hS : va_S A s.heap s.heap [] := va_S.rf
  have hl : lv_has ls 2 [(0, .ref q_this), (1, .int x_1)] := hl
  have hret : ∀ (pc : Nat) (ls : Array Slot) (H : Heap) (locs : List Loc) (y_0 : Int32), decode b_Node_child pc = .ok (.ireturn, 1) → va_P D pu_cl [(q_this, .inr (3, [.ref q_bytes, .ref q_starts, .ref q_sizes, .int v_count, .int v_last, .int v_leaf])), (q_bytes, .inl (cB, 96, .inl v_bytes)), (q_starts, .inl (cI, 31, .inl v_starts))] H → va_D A [(q_this, .inr (3, [.ref q_bytes, .ref q_starts, .ref q_sizes, .int v_count, .int v_last, .int v_leaf])), (q_bytes, .inl (cB, 96, .inl v_bytes)), (q_starts, .inl (cI, 31, .inl v_starts))] → va_S A s.heap H locs → some y_0 = some o_r → W p l e rm_Node_child s m args below meth c H locs 0 0 Q (F0 m pc ls [.int y_0]) := by
    intro pc ls H locs y_0 hd hP hD hS hf
    cases hf
    exact hret0 pc ls H locs hd hP hD hS
  clear hret0
  unfold f_Node_child at hf
  skip
  obtain ⟨H, hH⟩ : ∃ H, H = s.heap := ⟨_, rfl⟩
  obtain ⟨locs, hlocs⟩ : ∃ locs : List Loc, locs = [] := ⟨_, rfl⟩
  have hP : va_P D pu_cl [(q_this, .inr (3, [.ref q_bytes, .ref q_starts, .ref q_sizes, .int v_count, .int v_last, .int v_leaf])), (q_bytes, .inl (cB, 96, .inl v_bytes)), (q_starts, .inl (cI, 31, .inl v_starts))] H := by rw [hH]; exact hP
  have hS : va_S A s.heap H locs := by rw [hH, hlocs]; exact hS
  have goal : W p l e rm_Node_child s m args below meth c H locs 0 0 Q (F0 m 0 ls []) := by
    clear hH hlocs
    refine lv_aload_n hx hb d_Node_child_0 rfl (lv_at hl 0 rfl) ?_
    refine lv_iload_n hx hb d_Node_child_1 rfl (lv_at hl 1 rfl) ?_
    obtain ⟨r1, hc, hf⟩ := pu_b1_some hf
    refine cl_i (WC := [(q_this, .inr (3, [.ref q_bytes, .ref q_starts, .ref q_sizes, .int v_count, .int v_last, .int v_leaf]))]) (WC2 := [(q_this, .inr (3, [.ref q_bytes, .ref q_starts, .ref q_sizes, .int v_count, .int v_last, .int v_leaf]))]) (WR := [(q_bytes, .inl (cB, 96, .inl v_bytes)), (q_starts, .inl (cI, 31, .inl v_starts))]) (WS2 := [(q_this, .inr (3, [.ref q_bytes, .ref q_starts, .ref q_sizes, .int v_count, .int v_last, .int v_leaf])), (q_bytes, .inl (cB, 96, .inl v_bytes)), (q_starts, .inl (cI, 31, .inl v_starts))]) (pu_rv (cl := pu_cl) (pu_in3 _ (List.mem_of_getElem? (i := 57) rfl)) (pu_in3 _ (List.mem_of_getElem? (i := 58) rfl)) (pu_in13 _ (List.mem_of_getElem? (i := 46) rfl)) (pu_in0 _ (List.mem_of_getElem? (i := 6) rfl)) (pu_in3 _ (List.mem_of_getElem? (i := 59) rfl)) (ci := 3) rfl hd_Node_hasCell (by decide) ⟨rfl, rfl⟩ rfl rfl (Nat.le_of_ble_eq_true rfl) rfl (As := [.int x_1]) (rest := []) (WC := [(q_this, .inr (3, [.ref q_bytes, .ref q_starts, .ref q_sizes, .int v_count, .int v_last, .int v_leaf]))]) hx hb hml hown hts hN hK hP hD (c_Node_hasCell l D cI cJ cB cZ H.size q_this q_bytes q_starts q_sizes v_count v_last v_leaf x_1 r1 hc) [0] rfl rfl hl.1 d_Node_child_2) hP hD hS hA [0] [1, 2] [2, 0, 1] rfl rfl rfl (by decide) rfl rfl (fun H locs hP hD hS => ?_)
    refine lv_if_eq (tgt := 26) hx hb d_Node_child_5 rfl (fun hc => ?_) (fun hc => ?_)
    · have hf := pu_br_pos hf hc
      refine lv_aload_n hx hb d_Node_child_26 rfl (lv_at hl 0 rfl) ?_
      refine gf_Node_32 (v := .int v_last) hx hb hts hN hown hK hP 0 rfl rfl d_Node_child_27 ?_
      exact hret _ _ _ _ v_last  d_Node_child_30 hP hD hS hf
    have hf := pu_br_neg hf hc
    refine lv_aload_n hx hb d_Node_child_8 rfl (lv_at hl 0 rfl) ?_
    refine gf_Node_11 (v := .ref q_bytes) hx hb hts hN hown hK hP 0 rfl rfl d_Node_child_9 ?_
    refine lv_aload_n hx hb d_Node_child_12 rfl (lv_at hl 0 rfl) ?_
    refine gf_Node_15 (v := .ref q_starts) hx hb hts hN hown hK hP 0 rfl rfl d_Node_child_13 ?_
    refine lv_iload_n hx hb d_Node_child_16 rfl (lv_at hl 1 rfl) ?_
    obtain ⟨hin, hf⟩ := pu_ck_some hf
    refine va_iald hx hb hK hP 2 0 rfl rfl hin d_Node_child_17 ?_
    obtain ⟨hin, hf⟩ := pu_ck_some hf
    refine va_bald hx hb hK hP 1 2 rfl rfl hin d_Node_child_18 ?_
    refine lv_sipush (v := 255) hx hb d_Node_child_19 rfl ?_
    refine lv_iand hx hb d_Node_child_22 ?_
    refine lv_goto (tgt := 30) hx hb d_Node_child_23 rfl ?_
    exact hret _ _ _ _ ((v_bytes (v_starts x_1.toNatClampNeg).toNatClampNeg) &&& (255 : Int32))  d_Node_child_30 hP hD hS hf
  rw [hH, hlocs] at goal
  exact goal
theorem d_Tree_find_0 : decode b_Tree_find 0 = .ok (.aload_n 0, 1) := by decide +kernel
theorem d_Tree_find_1 : decode b_Tree_find 1 = .ok (.getfield 30, 3) := by decide +kernel
theorem d_Tree_find_4 : decode b_Tree_find 4 = .ok (.invokevirtual 42, 3) := by decide +kernel
theorem d_Tree_find_7 : decode b_Tree_find 7 = .ok (.istore_n 2, 1) := by decide +kernel
theorem d_Tree_find_8 : decode b_Tree_find 8 = .ok (.aload_n 0, 1) := by decide +kernel
theorem d_Tree_find_9 : decode b_Tree_find 9 = .ok (.iconst 0, 1) := by decide +kernel
theorem d_Tree_find_10 : decode b_Tree_find 10 = .ok (.putfield 48, 3) := by decide +kernel
theorem d_Tree_find_13 : decode b_Tree_find 13 = .ok (.aload_n 0, 1) := by decide +kernel
theorem d_Tree_find_14 : decode b_Tree_find 14 = .ok (.getfield 48, 3) := by decide +kernel
theorem d_Tree_find_17 : decode b_Tree_find 17 = .ok (.bipush 24, 2) := by decide +kernel
theorem d_Tree_find_19 : decode b_Tree_find 19 = .ok (.if_icmp .ge 89, 3) := by decide +kernel
theorem d_Tree_find_22 : decode b_Tree_find 22 = .ok (.aload_n 0, 1) := by decide +kernel
theorem d_Tree_find_23 : decode b_Tree_find 23 = .ok (.getfield 34, 3) := by decide +kernel
theorem d_Tree_find_26 : decode b_Tree_find 26 = .ok (.aload_n 0, 1) := by decide +kernel
theorem d_Tree_find_27 : decode b_Tree_find 27 = .ok (.getfield 30, 3) := by decide +kernel
theorem d_Tree_find_30 : decode b_Tree_find 30 = .ok (.iload_n 2, 1) := by decide +kernel
theorem d_Tree_find_31 : decode b_Tree_find 31 = .ok (.invokevirtual 52, 3) := by decide +kernel
theorem d_Tree_find_34 : decode b_Tree_find 34 = .ok (.pop, 1) := by decide +kernel
theorem d_Tree_find_35 : decode b_Tree_find 35 = .ok (.aload_n 0, 1) := by decide +kernel
theorem d_Tree_find_36 : decode b_Tree_find 36 = .ok (.getfield 9, 3) := by decide +kernel
theorem d_Tree_find_39 : decode b_Tree_find 39 = .ok (.aload_n 0, 1) := by decide +kernel
theorem d_Tree_find_40 : decode b_Tree_find 40 = .ok (.getfield 48, 3) := by decide +kernel
theorem d_Tree_find_43 : decode b_Tree_find 43 = .ok (.iload_n 2, 1) := by decide +kernel
theorem d_Tree_find_44 : decode b_Tree_find 44 = .ok (.iastore, 1) := by decide +kernel
theorem d_Tree_find_45 : decode b_Tree_find 45 = .ok (.aload_n 0, 1) := by decide +kernel
theorem d_Tree_find_46 : decode b_Tree_find 46 = .ok (.aload_n 0, 1) := by decide +kernel
theorem d_Tree_find_47 : decode b_Tree_find 47 = .ok (.getfield 34, 3) := by decide +kernel
theorem d_Tree_find_50 : decode b_Tree_find 50 = .ok (.iload_n 1, 1) := by decide +kernel
theorem d_Tree_find_51 : decode b_Tree_find 51 = .ok (.invokevirtual 56, 3) := by decide +kernel
theorem d_Tree_find_54 : decode b_Tree_find 54 = .ok (.putfield 60, 3) := by decide +kernel
theorem d_Tree_find_57 : decode b_Tree_find 57 = .ok (.aload_n 0, 1) := by decide +kernel
theorem d_Tree_find_58 : decode b_Tree_find 58 = .ok (.getfield 15, 3) := by decide +kernel
theorem d_Tree_find_61 : decode b_Tree_find 61 = .ok (.aload_n 0, 1) := by decide +kernel
theorem d_Tree_find_62 : decode b_Tree_find 62 = .ok (.getfield 48, 3) := by decide +kernel
theorem d_Tree_find_65 : decode b_Tree_find 65 = .ok (.aload_n 0, 1) := by decide +kernel
theorem d_Tree_find_66 : decode b_Tree_find 66 = .ok (.getfield 60, 3) := by decide +kernel
theorem d_Tree_find_69 : decode b_Tree_find 69 = .ok (.iastore, 1) := by decide +kernel
theorem d_Tree_find_70 : decode b_Tree_find 70 = .ok (.aload_n 0, 1) := by decide +kernel
theorem d_Tree_find_71 : decode b_Tree_find 71 = .ok (.getfield 34, 3) := by decide +kernel
theorem d_Tree_find_74 : decode b_Tree_find 74 = .ok (.getfield 63, 3) := by decide +kernel
theorem d_Tree_find_77 : decode b_Tree_find 77 = .ok (.ifCond .eq 6, 3) := by decide +kernel
theorem d_Tree_find_80 : decode b_Tree_find 80 = .ok (.goto 28, 3) := by decide +kernel
theorem d_Tree_find_83 : decode b_Tree_find 83 = .ok (.aload_n 0, 1) := by decide +kernel
theorem d_Tree_find_84 : decode b_Tree_find 84 = .ok (.getfield 34, 3) := by decide +kernel
theorem d_Tree_find_87 : decode b_Tree_find 87 = .ok (.aload_n 0, 1) := by decide +kernel
theorem d_Tree_find_88 : decode b_Tree_find 88 = .ok (.getfield 60, 3) := by decide +kernel
theorem d_Tree_find_91 : decode b_Tree_find 91 = .ok (.invokevirtual 67, 3) := by decide +kernel
theorem d_Tree_find_94 : decode b_Tree_find 94 = .ok (.istore_n 2, 1) := by decide +kernel
theorem d_Tree_find_95 : decode b_Tree_find 95 = .ok (.aload_n 0, 1) := by decide +kernel
theorem d_Tree_find_96 : decode b_Tree_find 96 = .ok (.dup, 1) := by decide +kernel
theorem d_Tree_find_97 : decode b_Tree_find 97 = .ok (.getfield 48, 3) := by decide +kernel
theorem d_Tree_find_100 : decode b_Tree_find 100 = .ok (.iconst 1, 1) := by decide +kernel
theorem d_Tree_find_101 : decode b_Tree_find 101 = .ok (.iadd, 1) := by decide +kernel
theorem d_Tree_find_102 : decode b_Tree_find 102 = .ok (.putfield 48, 3) := by decide +kernel
theorem d_Tree_find_105 : decode b_Tree_find 105 = .ok (.goto (-92), 3) := by decide +kernel
theorem d_Tree_find_108 : decode b_Tree_find 108 = .ok (.aload_n 0, 1) := by decide +kernel
theorem d_Tree_find_109 : decode b_Tree_find 109 = .ok (.getfield 34, 3) := by decide +kernel
theorem d_Tree_find_112 : decode b_Tree_find 112 = .ok (.getfield 63, 3) := by decide +kernel
theorem d_Tree_find_115 : decode b_Tree_find 115 = .ok (.ifCond .eq 26, 3) := by decide +kernel
theorem d_Tree_find_118 : decode b_Tree_find 118 = .ok (.iload_n 1, 1) := by decide +kernel
theorem d_Tree_find_119 : decode b_Tree_find 119 = .ok (.ifCond .lt 22, 3) := by decide +kernel
theorem d_Tree_find_122 : decode b_Tree_find 122 = .ok (.aload_n 0, 1) := by decide +kernel
theorem d_Tree_find_123 : decode b_Tree_find 123 = .ok (.getfield 34, 3) := by decide +kernel
theorem d_Tree_find_126 : decode b_Tree_find 126 = .ok (.aload_n 0, 1) := by decide +kernel
theorem d_Tree_find_127 : decode b_Tree_find 127 = .ok (.getfield 60, 3) := by decide +kernel
theorem d_Tree_find_130 : decode b_Tree_find 130 = .ok (.invokevirtual 70, 3) := by decide +kernel
theorem d_Tree_find_133 : decode b_Tree_find 133 = .ok (.iload_n 1, 1) := by decide +kernel
theorem d_Tree_find_134 : decode b_Tree_find 134 = .ok (.if_icmp .ne 7, 3) := by decide +kernel
theorem d_Tree_find_137 : decode b_Tree_find 137 = .ok (.iconst 1, 1) := by decide +kernel
theorem d_Tree_find_138 : decode b_Tree_find 138 = .ok (.goto 4, 3) := by decide +kernel
theorem d_Tree_find_141 : decode b_Tree_find 141 = .ok (.iconst 0, 1) := by decide +kernel
theorem d_Tree_find_142 : decode b_Tree_find 142 = .ok (.ireturn, 1) := by decide +kernel
noncomputable def q_Tree_find_108 (v_pages_count : Int32) (v_pages_bytes : Nat → Int32) (v_depth : Int32) (v_slot : Int32) (v_node_count : Int32) (v_node_last : Int32) (v_node_leaf : Int32) (v_node_bytes : Nat → Int32) (v_node_starts : Nat → Int32) (v_node_sizes : Nat → Int32) (v_path : Nat → Int32) (v_slots : Nat → Int32) (x_1 : Int32) : Option (Int32 × Int32 × Int32 × Int32 × Int32 × Int32 × (Nat → Int32) × (Nat → Int32) × (Nat → Int32) × (Nat → Int32) × (Nat → Int32)) :=
  pu_br (v_node_leaf = 0) (some ((0 : Int32), v_depth, v_slot, v_node_count, v_node_last, v_node_leaf, v_node_bytes, v_node_starts, v_node_sizes, v_path, v_slots)) (pu_br (x_1 < 0) (some ((0 : Int32), v_depth, v_slot, v_node_count, v_node_last, v_node_leaf, v_node_bytes, v_node_starts, v_node_sizes, v_path, v_slots)) (pu_b1 (f_Node_cellKey v_node_count v_node_leaf v_node_bytes v_node_starts v_node_sizes v_slot) (fun r2 => pu_br (r2 = x_1) (some ((1 : Int32), v_depth, v_slot, v_node_count, v_node_last, v_node_leaf, v_node_bytes, v_node_starts, v_node_sizes, v_path, v_slots)) (some ((0 : Int32), v_depth, v_slot, v_node_count, v_node_last, v_node_leaf, v_node_bytes, v_node_starts, v_node_sizes, v_path, v_slots)))))
noncomputable def q_Tree_find_80 (v_pages_count : Int32) (v_pages_bytes : Nat → Int32) (v_depth : Int32) (v_slot : Int32) (v_node_count : Int32) (v_node_last : Int32) (v_node_leaf : Int32) (v_node_bytes : Nat → Int32) (v_node_starts : Nat → Int32) (v_node_sizes : Nat → Int32) (v_path : Nat → Int32) (v_slots : Nat → Int32) (x_1 : Int32) : Option (Int32 × Int32 × Int32 × Int32 × Int32 × Int32 × (Nat → Int32) × (Nat → Int32) × (Nat → Int32) × (Nat → Int32) × (Nat → Int32)) :=
  q_Tree_find_108 v_pages_count v_pages_bytes v_depth v_slot v_node_count v_node_last v_node_leaf v_node_bytes v_node_starts v_node_sizes v_path v_slots x_1
noncomputable def q_Tree_find_13 (kx_80 : Int32 → Int32 → Int32 → Int32 → Int32 → (Nat → Int32) → (Nat → Int32) → (Nat → Int32) → (Nat → Int32) → (Nat → Int32) → Option (Int32 × Int32 × Int32 × Int32 × Int32 × Int32 × (Nat → Int32) × (Nat → Int32) × (Nat → Int32) × (Nat → Int32) × (Nat → Int32))) (kx_108 : Int32 → Int32 → Int32 → Int32 → Int32 → (Nat → Int32) → (Nat → Int32) → (Nat → Int32) → (Nat → Int32) → (Nat → Int32) → Option (Int32 × Int32 × Int32 × Int32 × Int32 × Int32 × (Nat → Int32) × (Nat → Int32) × (Nat → Int32) × (Nat → Int32) × (Nat → Int32))) (v_pages_count : Int32) (v_pages_bytes : Nat → Int32) (x_1 : Int32) : Nat → Int32 → Int32 → Int32 → Int32 → Int32 → (Nat → Int32) → (Nat → Int32) → (Nat → Int32) → (Nat → Int32) → (Nat → Int32) → Int32 → Option (Int32 × Int32 × Int32 × Int32 × Int32 × Int32 × (Nat → Int32) × (Nat → Int32) × (Nat → Int32) × (Nat → Int32) × (Nat → Int32))
  | 0, _, _, _, _, _, _, _, _, _, _, _ => none
  | n + 1, v_depth, v_slot, v_node_count, v_node_last, v_node_leaf, v_node_bytes, v_node_starts, v_node_sizes, v_path, v_slots, x_2 => pu_br ((24 : Int32) ≤ v_depth) (kx_108 v_depth v_slot v_node_count v_node_last v_node_leaf v_node_bytes v_node_starts v_node_sizes v_path v_slots) (pu_b7 (f_Node_load v_pages_count v_pages_bytes v_node_count v_node_last v_node_leaf v_node_bytes v_node_starts v_node_sizes x_2) (fun r3 w4 w5 w6 w7 w8 w9 => pu_ck (vp_in v_depth 25) (pu_nm (upd v_path v_depth.toNatClampNeg x_2) (fun a10 => pu_b1 (f_Node_slotOf w4 w6 w7 w8 w9 x_1) (fun r11 => pu_ck (vp_in v_depth 25) (pu_nm (upd v_slots v_depth.toNatClampNeg r11) (fun a12 => pu_br (w6 = 0) (pu_b1 (f_Node_child w4 w5 w7 w8 r11) (fun r13 => pu_nm (v_depth + (1 : Int32)) (fun t14 => q_Tree_find_13 kx_80 kx_108 v_pages_count v_pages_bytes x_1 n t14 r11 w4 w5 w6 w7 w8 w9 a10 a12 r13))) (kx_80 v_depth r11 w4 w5 w6 w7 w8 w9 a10 a12))))))))
noncomputable def f_Tree_find (v_pages_count : Int32) (v_pages_bytes : Nat → Int32) (v_depth : Int32) (v_slot : Int32) (v_node_count : Int32) (v_node_last : Int32) (v_node_leaf : Int32) (v_node_bytes : Nat → Int32) (v_node_starts : Nat → Int32) (v_node_sizes : Nat → Int32) (v_path : Nat → Int32) (v_slots : Nat → Int32) (x_1 : Int32) : Option (Int32 × Int32 × Int32 × Int32 × Int32 × Int32 × (Nat → Int32) × (Nat → Int32) × (Nat → Int32) × (Nat → Int32) × (Nat → Int32)) :=
  pu_b1 (f_Pages_root v_pages_count v_pages_bytes) (fun r1 => q_Tree_find_13 (fun v_depth v_slot v_node_count v_node_last v_node_leaf v_node_bytes v_node_starts v_node_sizes v_path v_slots => q_Tree_find_80 v_pages_count v_pages_bytes v_depth v_slot v_node_count v_node_last v_node_leaf v_node_bytes v_node_starts v_node_sizes v_path v_slots x_1) (fun v_depth v_slot v_node_count v_node_last v_node_leaf v_node_bytes v_node_starts v_node_sizes v_path v_slots => q_Tree_find_108 v_pages_count v_pages_bytes v_depth v_slot v_node_count v_node_last v_node_leaf v_node_bytes v_node_starts v_node_sizes v_path v_slots x_1) v_pages_count v_pages_bytes x_1 pu_fu (0 : Int32) v_slot v_node_count v_node_last v_node_leaf v_node_bytes v_node_starts v_node_sizes v_path v_slots r1)
abbrev rm_Tree_find : Room := { frames := 4, cells := 0, slots := 0, locals := 91 }
set_option maxHeartbeats 8000000 in
set_option maxRecDepth 100000 in
theorem c_Tree_find (l : Launch) (D : va_G) (cI cJ cB cZ : ClassId) (sz : Nat) (q_this : Nat) (q_pages : Nat) (q_node : Nat) (q_row : Nat) (q_path : Nat) (q_slots : Nat) (q_cell : Nat) (q_waiting : Nat) (q_leaves : Nat) (q_pages_bytes : Nat) (q_node_bytes : Nat) (q_node_starts : Nat) (q_node_sizes : Nat) (v_depth : Int32) (v_slot : Int32) (v_cellSize : Int32) (v_pages_count : Int32) (v_pages_bytes : Nat → Int32) (v_node_count : Int32) (v_node_last : Int32) (v_node_leaf : Int32) (v_node_bytes : Nat → Int32) (v_node_starts : Nat → Int32) (v_node_sizes : Nat → Int32) (v_path : Nat → Int32) (v_slots : Nat → Int32) (x_1 : Int32) (o_r : Int32) (o_depth : Int32) (o_slot : Int32) (o_node_count : Int32) (o_node_last : Int32) (o_node_leaf : Int32) (o_node_bytes : Nat → Int32) (o_node_starts : Nat → Int32) (o_node_sizes : Nat → Int32) (o_path : Nat → Int32) (o_slots : Nat → Int32) (hf : f_Tree_find v_pages_count v_pages_bytes v_depth v_slot v_node_count v_node_last v_node_leaf v_node_bytes v_node_starts v_node_sizes v_path v_slots x_1 = some (o_r, o_depth, o_slot, o_node_count, o_node_last, o_node_leaf, o_node_bytes, o_node_starts, o_node_sizes, o_path, o_slots)) : Met l y_Tree_find (.code y_Tree_find b_Tree_find 3 (some .boolean) :: pu_wA) rm_Tree_find (pu_pc D pu_cl (pu_ty cI cJ cB cZ) [.ref q_this, .int x_1] [(q_this, .inr (5, [.ref q_pages, .ref q_node, .ref q_row, .ref q_path, .ref q_slots, .int v_depth, .int v_slot, .ref q_cell, .int v_cellSize, .ref q_waiting, .ref q_leaves])), (q_pages, .inr (0, [.ref q_pages_bytes, .int v_pages_count])), (q_pages_bytes, .inl (cB, 1536, .inl v_pages_bytes)), (q_node, .inr (3, [.ref q_node_bytes, .ref q_node_starts, .ref q_node_sizes, .int v_node_count, .int v_node_last, .int v_node_leaf])), (q_node_bytes, .inl (cB, 96, .inl v_node_bytes)), (q_node_starts, .inl (cI, 31, .inl v_node_starts)), (q_node_sizes, .inl (cI, 31, .inl v_node_sizes)), (q_path, .inl (cI, 25, .inl v_path)), (q_slots, .inl (cI, 25, .inl v_slots))] sz) (pu_qi D pu_cl (pu_ty cI cJ cB cZ) [(q_this, .inr (5, [.ref q_pages, .ref q_node, .ref q_row, .ref q_path, .ref q_slots, .int v_depth, .int v_slot, .ref q_cell, .int v_cellSize, .ref q_waiting, .ref q_leaves])), (q_pages, .inr (0, [.ref q_pages_bytes, .int v_pages_count])), (q_pages_bytes, .inl (cB, 1536, .inl v_pages_bytes)), (q_node, .inr (3, [.ref q_node_bytes, .ref q_node_starts, .ref q_node_sizes, .int v_node_count, .int v_node_last, .int v_node_leaf])), (q_node_bytes, .inl (cB, 96, .inl v_node_bytes)), (q_node_starts, .inl (cI, 31, .inl v_node_starts)), (q_node_sizes, .inl (cI, 31, .inl v_node_sizes)), (q_path, .inl (cI, 25, .inl v_path)), (q_slots, .inl (cI, 25, .inl v_slots))] [(q_this, .inr (5, [.ref q_pages, .ref q_node, .ref q_row, .ref q_path, .ref q_slots, .int o_depth, .int o_slot, .ref q_cell, .int v_cellSize, .ref q_waiting, .ref q_leaves])), (q_pages, .inr (0, [.ref q_pages_bytes, .int v_pages_count])), (q_pages_bytes, .inl (cB, 1536, .inl v_pages_bytes)), (q_node, .inr (3, [.ref q_node_bytes, .ref q_node_starts, .ref q_node_sizes, .int o_node_count, .int o_node_last, .int o_node_leaf])), (q_node_bytes, .inl (cB, 96, .inl o_node_bytes)), (q_node_starts, .inl (cI, 31, .inl o_node_starts)), (q_node_sizes, .inl (cI, 31, .inl o_node_sizes)), (q_path, .inl (cI, 25, .inl o_path)), (q_slots, .inl (cI, 25, .inl o_slots))] sz o_r) 0 0 (va_A [(q_this, .inr (5, [.ref q_pages, .ref q_node, .ref q_row, .ref q_path, .ref q_slots, .int v_depth, .int v_slot, .ref q_cell, .int v_cellSize, .ref q_waiting, .ref q_leaves])), (q_pages, .inr (0, [.ref q_pages_bytes, .int v_pages_count])), (q_pages_bytes, .inl (cB, 1536, .inl v_pages_bytes)), (q_node, .inr (3, [.ref q_node_bytes, .ref q_node_starts, .ref q_node_sizes, .int v_node_count, .int v_node_last, .int v_node_leaf])), (q_node_bytes, .inl (cB, 96, .inl v_node_bytes)), (q_node_starts, .inl (cI, 31, .inl v_node_starts)), (q_node_sizes, .inl (cI, 31, .inl v_node_sizes)), (q_path, .inl (cI, 25, .inl v_path)), (q_slots, .inl (cI, 25, .inl v_slots))] sz) := by
  refine pu_mtz [.ref q_this, .int x_1] [(q_this, .inr (5, [.ref q_pages, .ref q_node, .ref q_row, .ref q_path, .ref q_slots, .int v_depth, .int v_slot, .ref q_cell, .int v_cellSize, .ref q_waiting, .ref q_leaves])), (q_pages, .inr (0, [.ref q_pages_bytes, .int v_pages_count])), (q_pages_bytes, .inl (cB, 1536, .inl v_pages_bytes)), (q_node, .inr (3, [.ref q_node_bytes, .ref q_node_starts, .ref q_node_sizes, .int v_node_count, .int v_node_last, .int v_node_leaf])), (q_node_bytes, .inl (cB, 96, .inl v_node_bytes)), (q_node_starts, .inl (cI, 31, .inl v_node_starts)), (q_node_sizes, .inl (cI, 31, .inl v_node_sizes)), (q_path, .inl (cI, 25, .inl v_path)), (q_slots, .inl (cI, 25, .inl v_slots))] [(q_this, .inr (5, [.ref q_pages, .ref q_node, .ref q_row, .ref q_path, .ref q_slots, .int o_depth, .int o_slot, .ref q_cell, .int v_cellSize, .ref q_waiting, .ref q_leaves])), (q_pages, .inr (0, [.ref q_pages_bytes, .int v_pages_count])), (q_pages_bytes, .inl (cB, 1536, .inl v_pages_bytes)), (q_node, .inr (3, [.ref q_node_bytes, .ref q_node_starts, .ref q_node_sizes, .int o_node_count, .int o_node_last, .int o_node_leaf])), (q_node_bytes, .inl (cB, 96, .inl o_node_bytes)), (q_node_starts, .inl (cI, 31, .inl o_node_starts)), (q_node_sizes, .inl (cI, 31, .inl o_node_sizes)), (q_path, .inl (cI, 25, .inl o_path)), (q_slots, .inl (cI, 25, .inl o_slots))] o_r (by decide) (Nat.le_of_ble_eq_true rfl) ?_
  intro p e s m args below meth c A Q ls hx hb hml hts hN hown hK hA hP hD hl hret0
  have hS : va_S A s.heap s.heap [] := va_S.rf
  have hl : lv_has ls 3 [(0, .ref q_this), (1, .int x_1)] := hl
  have hret : ∀ (pc : Nat) (ls : Array Slot) (H : Heap) (locs : List Loc) (y_0 : Int32) (y_1 : Int32) (y_2 : Int32) (y_3 : Int32) (y_4 : Int32) (y_5 : Int32) (y_6 : Nat → Int32) (y_7 : Nat → Int32) (y_8 : Nat → Int32) (y_9 : Nat → Int32) (y_10 : Nat → Int32), decode b_Tree_find pc = .ok (.ireturn, 1) → narrow .boolean (.int y_0) = .int y_0 → va_P D pu_cl [(q_this, .inr (5, [.ref q_pages, .ref q_node, .ref q_row, .ref q_path, .ref q_slots, .int y_1, .int y_2, .ref q_cell, .int v_cellSize, .ref q_waiting, .ref q_leaves])), (q_pages, .inr (0, [.ref q_pages_bytes, .int v_pages_count])), (q_pages_bytes, .inl (cB, 1536, .inl v_pages_bytes)), (q_node, .inr (3, [.ref q_node_bytes, .ref q_node_starts, .ref q_node_sizes, .int y_3, .int y_4, .int y_5])), (q_node_bytes, .inl (cB, 96, .inl y_6)), (q_node_starts, .inl (cI, 31, .inl y_7)), (q_node_sizes, .inl (cI, 31, .inl y_8)), (q_path, .inl (cI, 25, .inl y_9)), (q_slots, .inl (cI, 25, .inl y_10))] H → va_D A [(q_this, .inr (5, [.ref q_pages, .ref q_node, .ref q_row, .ref q_path, .ref q_slots, .int y_1, .int y_2, .ref q_cell, .int v_cellSize, .ref q_waiting, .ref q_leaves])), (q_pages, .inr (0, [.ref q_pages_bytes, .int v_pages_count])), (q_pages_bytes, .inl (cB, 1536, .inl v_pages_bytes)), (q_node, .inr (3, [.ref q_node_bytes, .ref q_node_starts, .ref q_node_sizes, .int y_3, .int y_4, .int y_5])), (q_node_bytes, .inl (cB, 96, .inl y_6)), (q_node_starts, .inl (cI, 31, .inl y_7)), (q_node_sizes, .inl (cI, 31, .inl y_8)), (q_path, .inl (cI, 25, .inl y_9)), (q_slots, .inl (cI, 25, .inl y_10))] → va_S A s.heap H locs → some (y_0, y_1, y_2, y_3, y_4, y_5, y_6, y_7, y_8, y_9, y_10) = some (o_r, o_depth, o_slot, o_node_count, o_node_last, o_node_leaf, o_node_bytes, o_node_starts, o_node_sizes, o_path, o_slots) → W p l e rm_Tree_find s m args below meth c H locs 0 0 Q (F0 m pc ls [.int y_0]) := by
    intro pc ls H locs y_0 y_1 y_2 y_3 y_4 y_5 y_6 y_7 y_8 y_9 y_10 hd hz hP hD hS hf
    cases hf
    exact hret0 pc ls H locs hd hz hP hD hS
  clear hret0
  unfold f_Tree_find at hf
  skip
  have lb_108 : ∀ (v_depth : Int32) (v_slot : Int32) (v_node_count : Int32) (v_node_last : Int32) (v_node_leaf : Int32) (v_node_bytes : Nat → Int32) (v_node_starts : Nat → Int32) (v_node_sizes : Nat → Int32) (v_path : Nat → Int32) (v_slots : Nat → Int32) (x_1 : Int32) (H : Heap) (locs : List Loc) (ls : Array Slot), va_P D pu_cl [(q_this, .inr (5, [.ref q_pages, .ref q_node, .ref q_row, .ref q_path, .ref q_slots, .int v_depth, .int v_slot, .ref q_cell, .int v_cellSize, .ref q_waiting, .ref q_leaves])), (q_pages, .inr (0, [.ref q_pages_bytes, .int v_pages_count])), (q_pages_bytes, .inl (cB, 1536, .inl v_pages_bytes)), (q_node, .inr (3, [.ref q_node_bytes, .ref q_node_starts, .ref q_node_sizes, .int v_node_count, .int v_node_last, .int v_node_leaf])), (q_node_bytes, .inl (cB, 96, .inl v_node_bytes)), (q_node_starts, .inl (cI, 31, .inl v_node_starts)), (q_node_sizes, .inl (cI, 31, .inl v_node_sizes)), (q_path, .inl (cI, 25, .inl v_path)), (q_slots, .inl (cI, 25, .inl v_slots))] H → va_D A [(q_this, .inr (5, [.ref q_pages, .ref q_node, .ref q_row, .ref q_path, .ref q_slots, .int v_depth, .int v_slot, .ref q_cell, .int v_cellSize, .ref q_waiting, .ref q_leaves])), (q_pages, .inr (0, [.ref q_pages_bytes, .int v_pages_count])), (q_pages_bytes, .inl (cB, 1536, .inl v_pages_bytes)), (q_node, .inr (3, [.ref q_node_bytes, .ref q_node_starts, .ref q_node_sizes, .int v_node_count, .int v_node_last, .int v_node_leaf])), (q_node_bytes, .inl (cB, 96, .inl v_node_bytes)), (q_node_starts, .inl (cI, 31, .inl v_node_starts)), (q_node_sizes, .inl (cI, 31, .inl v_node_sizes)), (q_path, .inl (cI, 25, .inl v_path)), (q_slots, .inl (cI, 25, .inl v_slots))] → va_S A s.heap H locs → lv_has ls 3 [(0, .ref q_this), (1, .int x_1)] → q_Tree_find_108 v_pages_count v_pages_bytes v_depth v_slot v_node_count v_node_last v_node_leaf v_node_bytes v_node_starts v_node_sizes v_path v_slots x_1 = some (o_r, o_depth, o_slot, o_node_count, o_node_last, o_node_leaf, o_node_bytes, o_node_starts, o_node_sizes, o_path, o_slots) → W p l e rm_Tree_find s m args below meth c H locs 0 0 Q (F0 m 108 ls []) := by
    intro v_depth v_slot v_node_count v_node_last v_node_leaf v_node_bytes v_node_starts v_node_sizes v_path v_slots x_1 H locs ls hP hD hS hl hf
    rw [q_Tree_find_108] at hf
    refine lv_aload_n hx hb d_Tree_find_108 rfl (lv_at hl 0 rfl) ?_
    refine gf_Tree_34 (v := .ref q_node) hx hb hts hN hown hK hP 0 rfl rfl d_Tree_find_109 ?_
    refine gf_Tree_63 (v := .int v_node_leaf) hx hb hts hN hown hK hP 3 rfl rfl d_Tree_find_112 ?_
    refine lv_if_eq (tgt := 141) hx hb d_Tree_find_115 rfl (fun hc => ?_) (fun hc => ?_)
    · have hf := pu_br_pos hf hc
      refine lv_iconst (v := 0) hx hb d_Tree_find_141 rfl ?_
      exact hret _ _ _ _ (0 : Int32) v_depth v_slot v_node_count v_node_last v_node_leaf v_node_bytes v_node_starts v_node_sizes v_path v_slots d_Tree_find_142 (by decide) hP hD hS hf
    have hf := pu_br_neg hf hc
    refine lv_iload_n hx hb d_Tree_find_118 rfl (lv_at hl 1 rfl) ?_
    refine lv_if_lt (tgt := 141) hx hb d_Tree_find_119 rfl (fun hc => ?_) (fun hc => ?_)
    · have hf := pu_br_pos hf hc
      refine lv_iconst (v := 0) hx hb d_Tree_find_141 rfl ?_
      exact hret _ _ _ _ (0 : Int32) v_depth v_slot v_node_count v_node_last v_node_leaf v_node_bytes v_node_starts v_node_sizes v_path v_slots d_Tree_find_142 (by decide) hP hD hS hf
    have hf := pu_br_neg hf hc
    refine lv_aload_n hx hb d_Tree_find_122 rfl (lv_at hl 0 rfl) ?_
    refine gf_Tree_34 (v := .ref q_node) hx hb hts hN hown hK hP 0 rfl rfl d_Tree_find_123 ?_
    refine lv_aload_n hx hb d_Tree_find_126 rfl (lv_at hl 0 rfl) ?_
    refine gf_Tree_60 (v := .int v_slot) hx hb hts hN hown hK hP 0 rfl rfl d_Tree_find_127 ?_
    obtain ⟨r2, hc, hf⟩ := pu_b1_some hf
    refine cl_i (WC := [(q_node, .inr (3, [.ref q_node_bytes, .ref q_node_starts, .ref q_node_sizes, .int v_node_count, .int v_node_last, .int v_node_leaf])), (q_node_bytes, .inl (cB, 96, .inl v_node_bytes)), (q_node_starts, .inl (cI, 31, .inl v_node_starts)), (q_node_sizes, .inl (cI, 31, .inl v_node_sizes))]) (WC2 := [(q_node, .inr (3, [.ref q_node_bytes, .ref q_node_starts, .ref q_node_sizes, .int v_node_count, .int v_node_last, .int v_node_leaf])), (q_node_bytes, .inl (cB, 96, .inl v_node_bytes)), (q_node_starts, .inl (cI, 31, .inl v_node_starts)), (q_node_sizes, .inl (cI, 31, .inl v_node_sizes))]) (WR := [(q_this, .inr (5, [.ref q_pages, .ref q_node, .ref q_row, .ref q_path, .ref q_slots, .int v_depth, .int v_slot, .ref q_cell, .int v_cellSize, .ref q_waiting, .ref q_leaves])), (q_pages, .inr (0, [.ref q_pages_bytes, .int v_pages_count])), (q_pages_bytes, .inl (cB, 1536, .inl v_pages_bytes)), (q_path, .inl (cI, 25, .inl v_path)), (q_slots, .inl (cI, 25, .inl v_slots))]) (WS2 := [(q_this, .inr (5, [.ref q_pages, .ref q_node, .ref q_row, .ref q_path, .ref q_slots, .int v_depth, .int v_slot, .ref q_cell, .int v_cellSize, .ref q_waiting, .ref q_leaves])), (q_pages, .inr (0, [.ref q_pages_bytes, .int v_pages_count])), (q_pages_bytes, .inl (cB, 1536, .inl v_pages_bytes)), (q_node, .inr (3, [.ref q_node_bytes, .ref q_node_starts, .ref q_node_sizes, .int v_node_count, .int v_node_last, .int v_node_leaf])), (q_node_bytes, .inl (cB, 96, .inl v_node_bytes)), (q_node_starts, .inl (cI, 31, .inl v_node_starts)), (q_node_sizes, .inl (cI, 31, .inl v_node_sizes)), (q_path, .inl (cI, 25, .inl v_path)), (q_slots, .inl (cI, 25, .inl v_slots))]) (pu_rv (cl := pu_cl) (pu_in4 _ (List.mem_of_getElem? (i := 8) rfl)) (pu_in3 _ (List.mem_of_getElem? (i := 54) rfl)) (pu_in3 _ (List.mem_of_getElem? (i := 55) rfl)) (pu_in0 _ (List.mem_of_getElem? (i := 6) rfl)) (pu_in3 _ (List.mem_of_getElem? (i := 56) rfl)) (ci := 3) rfl hd_Node_cellKey (by decide) ⟨rfl, rfl⟩ rfl rfl (Nat.le_of_ble_eq_true rfl) rfl (As := [.int v_slot]) (rest := []) (WC := [(q_node, .inr (3, [.ref q_node_bytes, .ref q_node_starts, .ref q_node_sizes, .int v_node_count, .int v_node_last, .int v_node_leaf])), (q_node_bytes, .inl (cB, 96, .inl v_node_bytes)), (q_node_starts, .inl (cI, 31, .inl v_node_starts)), (q_node_sizes, .inl (cI, 31, .inl v_node_sizes))]) hx hb hml hown hts hN hK hP hD (c_Node_cellKey l D cI cJ cB cZ H.size q_node q_node_bytes q_node_starts q_node_sizes v_node_count v_node_last v_node_leaf v_node_bytes v_node_starts v_node_sizes v_slot r2 hc) [3, 4, 5, 6] rfl rfl hl.1 d_Tree_find_130) hP hD hS hA [3, 4, 5, 6] [0, 1, 2, 7, 8] [0, 1, 2, 5, 6, 7, 8, 3, 4] rfl rfl rfl (by decide) rfl rfl (fun H locs hP hD hS => ?_)
    refine lv_iload_n hx hb d_Tree_find_133 rfl (lv_at hl 1 rfl) ?_
    refine lv_icmp_ne (tgt := 141) hx hb d_Tree_find_134 rfl (fun hc => ?_) (fun hc => ?_)
    · have hf := pu_br_neg hf hc
      refine lv_iconst (v := 0) hx hb d_Tree_find_141 rfl ?_
      exact hret _ _ _ _ (0 : Int32) v_depth v_slot v_node_count v_node_last v_node_leaf v_node_bytes v_node_starts v_node_sizes v_path v_slots d_Tree_find_142 (by decide) hP hD hS hf
    have hf := pu_br_pos hf hc
    refine lv_iconst (v := 1) hx hb d_Tree_find_137 rfl ?_
    refine lv_goto (tgt := 142) hx hb d_Tree_find_138 rfl ?_
    exact hret _ _ _ _ (1 : Int32) v_depth v_slot v_node_count v_node_last v_node_leaf v_node_bytes v_node_starts v_node_sizes v_path v_slots d_Tree_find_142 (by decide) hP hD hS hf
  have lb_80 : ∀ (v_depth : Int32) (v_slot : Int32) (v_node_count : Int32) (v_node_last : Int32) (v_node_leaf : Int32) (v_node_bytes : Nat → Int32) (v_node_starts : Nat → Int32) (v_node_sizes : Nat → Int32) (v_path : Nat → Int32) (v_slots : Nat → Int32) (x_1 : Int32) (H : Heap) (locs : List Loc) (ls : Array Slot), va_P D pu_cl [(q_this, .inr (5, [.ref q_pages, .ref q_node, .ref q_row, .ref q_path, .ref q_slots, .int v_depth, .int v_slot, .ref q_cell, .int v_cellSize, .ref q_waiting, .ref q_leaves])), (q_pages, .inr (0, [.ref q_pages_bytes, .int v_pages_count])), (q_pages_bytes, .inl (cB, 1536, .inl v_pages_bytes)), (q_node, .inr (3, [.ref q_node_bytes, .ref q_node_starts, .ref q_node_sizes, .int v_node_count, .int v_node_last, .int v_node_leaf])), (q_node_bytes, .inl (cB, 96, .inl v_node_bytes)), (q_node_starts, .inl (cI, 31, .inl v_node_starts)), (q_node_sizes, .inl (cI, 31, .inl v_node_sizes)), (q_path, .inl (cI, 25, .inl v_path)), (q_slots, .inl (cI, 25, .inl v_slots))] H → va_D A [(q_this, .inr (5, [.ref q_pages, .ref q_node, .ref q_row, .ref q_path, .ref q_slots, .int v_depth, .int v_slot, .ref q_cell, .int v_cellSize, .ref q_waiting, .ref q_leaves])), (q_pages, .inr (0, [.ref q_pages_bytes, .int v_pages_count])), (q_pages_bytes, .inl (cB, 1536, .inl v_pages_bytes)), (q_node, .inr (3, [.ref q_node_bytes, .ref q_node_starts, .ref q_node_sizes, .int v_node_count, .int v_node_last, .int v_node_leaf])), (q_node_bytes, .inl (cB, 96, .inl v_node_bytes)), (q_node_starts, .inl (cI, 31, .inl v_node_starts)), (q_node_sizes, .inl (cI, 31, .inl v_node_sizes)), (q_path, .inl (cI, 25, .inl v_path)), (q_slots, .inl (cI, 25, .inl v_slots))] → va_S A s.heap H locs → lv_has ls 3 [(0, .ref q_this), (1, .int x_1)] → q_Tree_find_80 v_pages_count v_pages_bytes v_depth v_slot v_node_count v_node_last v_node_leaf v_node_bytes v_node_starts v_node_sizes v_path v_slots x_1 = some (o_r, o_depth, o_slot, o_node_count, o_node_last, o_node_leaf, o_node_bytes, o_node_starts, o_node_sizes, o_path, o_slots) → W p l e rm_Tree_find s m args below meth c H locs 0 0 Q (F0 m 80 ls []) := by
    intro v_depth v_slot v_node_count v_node_last v_node_leaf v_node_bytes v_node_starts v_node_sizes v_path v_slots x_1 H locs ls hP hD hS hl hf
    rw [q_Tree_find_80] at hf
    refine lv_goto (tgt := 108) hx hb d_Tree_find_80 rfl ?_
    exact lb_108 v_depth v_slot v_node_count v_node_last v_node_leaf v_node_bytes v_node_starts v_node_sizes v_path v_slots x_1 H locs ls hP hD hS (lv_sub hl [0, 1] rfl) hf
  have lp_13 : ∀ (x_1 : Int32) (n13 : Nat) (v_depth : Int32) (v_slot : Int32) (v_node_count : Int32) (v_node_last : Int32) (v_node_leaf : Int32) (v_node_bytes : Nat → Int32) (v_node_starts : Nat → Int32) (v_node_sizes : Nat → Int32) (v_path : Nat → Int32) (v_slots : Nat → Int32) (x_2 : Int32) (H : Heap) (locs : List Loc) (ls : Array Slot), va_P D pu_cl [(q_this, .inr (5, [.ref q_pages, .ref q_node, .ref q_row, .ref q_path, .ref q_slots, .int v_depth, .int v_slot, .ref q_cell, .int v_cellSize, .ref q_waiting, .ref q_leaves])), (q_pages, .inr (0, [.ref q_pages_bytes, .int v_pages_count])), (q_pages_bytes, .inl (cB, 1536, .inl v_pages_bytes)), (q_node, .inr (3, [.ref q_node_bytes, .ref q_node_starts, .ref q_node_sizes, .int v_node_count, .int v_node_last, .int v_node_leaf])), (q_node_bytes, .inl (cB, 96, .inl v_node_bytes)), (q_node_starts, .inl (cI, 31, .inl v_node_starts)), (q_node_sizes, .inl (cI, 31, .inl v_node_sizes)), (q_path, .inl (cI, 25, .inl v_path)), (q_slots, .inl (cI, 25, .inl v_slots))] H → va_D A [(q_this, .inr (5, [.ref q_pages, .ref q_node, .ref q_row, .ref q_path, .ref q_slots, .int v_depth, .int v_slot, .ref q_cell, .int v_cellSize, .ref q_waiting, .ref q_leaves])), (q_pages, .inr (0, [.ref q_pages_bytes, .int v_pages_count])), (q_pages_bytes, .inl (cB, 1536, .inl v_pages_bytes)), (q_node, .inr (3, [.ref q_node_bytes, .ref q_node_starts, .ref q_node_sizes, .int v_node_count, .int v_node_last, .int v_node_leaf])), (q_node_bytes, .inl (cB, 96, .inl v_node_bytes)), (q_node_starts, .inl (cI, 31, .inl v_node_starts)), (q_node_sizes, .inl (cI, 31, .inl v_node_sizes)), (q_path, .inl (cI, 25, .inl v_path)), (q_slots, .inl (cI, 25, .inl v_slots))] → va_S A s.heap H locs → lv_has ls 3 [(0, .ref q_this), (1, .int x_1), (2, .int x_2)] → q_Tree_find_13 (fun v_depth v_slot v_node_count v_node_last v_node_leaf v_node_bytes v_node_starts v_node_sizes v_path v_slots => q_Tree_find_80 v_pages_count v_pages_bytes v_depth v_slot v_node_count v_node_last v_node_leaf v_node_bytes v_node_starts v_node_sizes v_path v_slots x_1) (fun v_depth v_slot v_node_count v_node_last v_node_leaf v_node_bytes v_node_starts v_node_sizes v_path v_slots => q_Tree_find_108 v_pages_count v_pages_bytes v_depth v_slot v_node_count v_node_last v_node_leaf v_node_bytes v_node_starts v_node_sizes v_path v_slots x_1) v_pages_count v_pages_bytes x_1 n13 v_depth v_slot v_node_count v_node_last v_node_leaf v_node_bytes v_node_starts v_node_sizes v_path v_slots x_2 = some (o_r, o_depth, o_slot, o_node_count, o_node_last, o_node_leaf, o_node_bytes, o_node_starts, o_node_sizes, o_path, o_slots) → W p l e rm_Tree_find s m args below meth c H locs 0 0 Q (F0 m 13 ls []) := by
    intro x_1 n13
    induction n13 with
    | zero =>
      intro v_depth v_slot v_node_count v_node_last v_node_leaf v_node_bytes v_node_starts v_node_sizes v_path v_slots x_2 H locs ls hP hD hS hl hf
      rw [q_Tree_find_13] at hf
      cases hf
    | succ n13 ih_13 =>
      intro v_depth v_slot v_node_count v_node_last v_node_leaf v_node_bytes v_node_starts v_node_sizes v_path v_slots x_2 H locs ls hP hD hS hl hf
      rw [q_Tree_find_13] at hf
      refine lv_aload_n hx hb d_Tree_find_13 rfl (lv_at hl 0 rfl) ?_
      refine gf_Tree_48 (v := .int v_depth) hx hb hts hN hown hK hP 0 rfl rfl d_Tree_find_14 ?_
      refine lv_bipush (v := 24) hx hb d_Tree_find_17 rfl ?_
      refine lv_icmp_ge (tgt := 108) hx hb d_Tree_find_19 rfl (fun hc => ?_) (fun hc => ?_)
      · have hf := pu_br_pos hf hc
        exact lb_108 v_depth v_slot v_node_count v_node_last v_node_leaf v_node_bytes v_node_starts v_node_sizes v_path v_slots x_1 H locs ls hP hD hS (lv_sub hl [0, 1] rfl) hf
      have hf := pu_br_neg hf hc
      refine lv_aload_n hx hb d_Tree_find_22 rfl (lv_at hl 0 rfl) ?_
      refine gf_Tree_34 (v := .ref q_node) hx hb hts hN hown hK hP 0 rfl rfl d_Tree_find_23 ?_
      refine lv_aload_n hx hb d_Tree_find_26 rfl (lv_at hl 0 rfl) ?_
      refine gf_Tree_30 (v := .ref q_pages) hx hb hts hN hown hK hP 0 rfl rfl d_Tree_find_27 ?_
      refine lv_iload_n hx hb d_Tree_find_30 rfl (lv_at hl 2 rfl) ?_
      obtain ⟨r3, w4, w5, w6, w7, w8, w9, hc, hf⟩ := pu_b7_some hf
      refine cl_i (WC := [(q_node, .inr (3, [.ref q_node_bytes, .ref q_node_starts, .ref q_node_sizes, .int v_node_count, .int v_node_last, .int v_node_leaf])), (q_node_bytes, .inl (cB, 96, .inl v_node_bytes)), (q_node_starts, .inl (cI, 31, .inl v_node_starts)), (q_node_sizes, .inl (cI, 31, .inl v_node_sizes)), (q_pages, .inr (0, [.ref q_pages_bytes, .int v_pages_count])), (q_pages_bytes, .inl (cB, 1536, .inl v_pages_bytes))]) (WC2 := [(q_node, .inr (3, [.ref q_node_bytes, .ref q_node_starts, .ref q_node_sizes, .int w4, .int w5, .int w6])), (q_node_bytes, .inl (cB, 96, .inl w7)), (q_node_starts, .inl (cI, 31, .inl w8)), (q_node_sizes, .inl (cI, 31, .inl w9)), (q_pages, .inr (0, [.ref q_pages_bytes, .int v_pages_count])), (q_pages_bytes, .inl (cB, 1536, .inl v_pages_bytes))]) (WR := [(q_this, .inr (5, [.ref q_pages, .ref q_node, .ref q_row, .ref q_path, .ref q_slots, .int v_depth, .int v_slot, .ref q_cell, .int v_cellSize, .ref q_waiting, .ref q_leaves])), (q_path, .inl (cI, 25, .inl v_path)), (q_slots, .inl (cI, 25, .inl v_slots))]) (WS2 := [(q_this, .inr (5, [.ref q_pages, .ref q_node, .ref q_row, .ref q_path, .ref q_slots, .int v_depth, .int v_slot, .ref q_cell, .int v_cellSize, .ref q_waiting, .ref q_leaves])), (q_pages, .inr (0, [.ref q_pages_bytes, .int v_pages_count])), (q_pages_bytes, .inl (cB, 1536, .inl v_pages_bytes)), (q_node, .inr (3, [.ref q_node_bytes, .ref q_node_starts, .ref q_node_sizes, .int w4, .int w5, .int w6])), (q_node_bytes, .inl (cB, 96, .inl w7)), (q_node_starts, .inl (cI, 31, .inl w8)), (q_node_sizes, .inl (cI, 31, .inl w9)), (q_path, .inl (cI, 25, .inl v_path)), (q_slots, .inl (cI, 25, .inl v_slots))]) (pu_rv (cl := pu_cl) (pu_in3 _ (List.mem_of_getElem? (i := 41) rfl)) (pu_in3 _ (List.mem_of_getElem? (i := 42) rfl)) (pu_in3 _ (List.mem_of_getElem? (i := 43) rfl)) (pu_in0 _ (List.mem_of_getElem? (i := 6) rfl)) (pu_in3 _ (List.mem_of_getElem? (i := 44) rfl)) (ci := 3) rfl hd_Node_load (by decide) ⟨rfl, rfl⟩ rfl rfl (Nat.le_of_ble_eq_true rfl) rfl (As := [.ref q_pages, .int x_2]) (rest := []) (WC := [(q_node, .inr (3, [.ref q_node_bytes, .ref q_node_starts, .ref q_node_sizes, .int v_node_count, .int v_node_last, .int v_node_leaf])), (q_node_bytes, .inl (cB, 96, .inl v_node_bytes)), (q_node_starts, .inl (cI, 31, .inl v_node_starts)), (q_node_sizes, .inl (cI, 31, .inl v_node_sizes)), (q_pages, .inr (0, [.ref q_pages_bytes, .int v_pages_count])), (q_pages_bytes, .inl (cB, 1536, .inl v_pages_bytes))]) hx hb hml hown hts hN hK hP hD (c_Node_load l D cI cJ cB cZ H.size q_node q_node_bytes q_node_starts q_node_sizes q_pages q_pages_bytes v_node_count v_node_last v_node_leaf v_node_bytes v_node_starts v_node_sizes v_pages_count v_pages_bytes x_2 r3 w4 w5 w6 w7 w8 w9 hc) [3, 4, 5, 6, 1, 2] rfl rfl hl.1 d_Tree_find_31) hP hD hS hA [3, 4, 5, 6, 1, 2] [0, 7, 8] [0, 7, 8, 3, 4, 5, 6, 1, 2] rfl rfl rfl (by decide) rfl rfl (fun H locs hP hD hS => ?_)
      refine lv_pop hx hb d_Tree_find_34 rfl ?_
      refine lv_aload_n hx hb d_Tree_find_35 rfl (lv_at hl 0 rfl) ?_
      refine gf_Tree_9 (v := .ref q_path) hx hb hts hN hown hK hP 0 rfl rfl d_Tree_find_36 ?_
      refine lv_aload_n hx hb d_Tree_find_39 rfl (lv_at hl 0 rfl) ?_
      refine gf_Tree_48 (v := .int v_depth) hx hb hts hN hown hK hP 0 rfl rfl d_Tree_find_40 ?_
      refine lv_iload_n hx hb d_Tree_find_43 rfl (lv_at hl 2 rfl) ?_
      obtain ⟨hin, hf⟩ := pu_ck_some hf
      obtain ⟨a10, e_a10, hf⟩ := pu_nm_some hf
      refine va_iast hx hb hK hP hD hS 7 0 rfl rfl hin d_Tree_find_44 (fun H locs hP hD hS => ?_)
      have hP : va_P D pu_cl [(q_this, .inr (5, [.ref q_pages, .ref q_node, .ref q_row, .ref q_path, .ref q_slots, .int v_depth, .int v_slot, .ref q_cell, .int v_cellSize, .ref q_waiting, .ref q_leaves])), (q_pages, .inr (0, [.ref q_pages_bytes, .int v_pages_count])), (q_pages_bytes, .inl (cB, 1536, .inl v_pages_bytes)), (q_node, .inr (3, [.ref q_node_bytes, .ref q_node_starts, .ref q_node_sizes, .int w4, .int w5, .int w6])), (q_node_bytes, .inl (cB, 96, .inl w7)), (q_node_starts, .inl (cI, 31, .inl w8)), (q_node_sizes, .inl (cI, 31, .inl w9)), (q_path, .inl (cI, 25, .inl a10)), (q_slots, .inl (cI, 25, .inl v_slots))] H := by rw [e_a10]; exact hP
      have hD : va_D A [(q_this, .inr (5, [.ref q_pages, .ref q_node, .ref q_row, .ref q_path, .ref q_slots, .int v_depth, .int v_slot, .ref q_cell, .int v_cellSize, .ref q_waiting, .ref q_leaves])), (q_pages, .inr (0, [.ref q_pages_bytes, .int v_pages_count])), (q_pages_bytes, .inl (cB, 1536, .inl v_pages_bytes)), (q_node, .inr (3, [.ref q_node_bytes, .ref q_node_starts, .ref q_node_sizes, .int w4, .int w5, .int w6])), (q_node_bytes, .inl (cB, 96, .inl w7)), (q_node_starts, .inl (cI, 31, .inl w8)), (q_node_sizes, .inl (cI, 31, .inl w9)), (q_path, .inl (cI, 25, .inl a10)), (q_slots, .inl (cI, 25, .inl v_slots))] := by rw [e_a10]; exact hD
      refine lv_aload_n hx hb d_Tree_find_45 rfl (lv_at hl 0 rfl) ?_
      refine lv_aload_n hx hb d_Tree_find_46 rfl (lv_at hl 0 rfl) ?_
      refine gf_Tree_34 (v := .ref q_node) hx hb hts hN hown hK hP 0 rfl rfl d_Tree_find_47 ?_
      refine lv_iload_n hx hb d_Tree_find_50 rfl (lv_at hl 1 rfl) ?_
      obtain ⟨r11, hc, hf⟩ := pu_b1_some hf
      refine cl_i (WC := [(q_node, .inr (3, [.ref q_node_bytes, .ref q_node_starts, .ref q_node_sizes, .int w4, .int w5, .int w6])), (q_node_bytes, .inl (cB, 96, .inl w7)), (q_node_starts, .inl (cI, 31, .inl w8)), (q_node_sizes, .inl (cI, 31, .inl w9))]) (WC2 := [(q_node, .inr (3, [.ref q_node_bytes, .ref q_node_starts, .ref q_node_sizes, .int w4, .int w5, .int w6])), (q_node_bytes, .inl (cB, 96, .inl w7)), (q_node_starts, .inl (cI, 31, .inl w8)), (q_node_sizes, .inl (cI, 31, .inl w9))]) (WR := [(q_this, .inr (5, [.ref q_pages, .ref q_node, .ref q_row, .ref q_path, .ref q_slots, .int v_depth, .int v_slot, .ref q_cell, .int v_cellSize, .ref q_waiting, .ref q_leaves])), (q_pages, .inr (0, [.ref q_pages_bytes, .int v_pages_count])), (q_pages_bytes, .inl (cB, 1536, .inl v_pages_bytes)), (q_path, .inl (cI, 25, .inl a10)), (q_slots, .inl (cI, 25, .inl v_slots))]) (WS2 := [(q_this, .inr (5, [.ref q_pages, .ref q_node, .ref q_row, .ref q_path, .ref q_slots, .int v_depth, .int v_slot, .ref q_cell, .int v_cellSize, .ref q_waiting, .ref q_leaves])), (q_pages, .inr (0, [.ref q_pages_bytes, .int v_pages_count])), (q_pages_bytes, .inl (cB, 1536, .inl v_pages_bytes)), (q_node, .inr (3, [.ref q_node_bytes, .ref q_node_starts, .ref q_node_sizes, .int w4, .int w5, .int w6])), (q_node_bytes, .inl (cB, 96, .inl w7)), (q_node_starts, .inl (cI, 31, .inl w8)), (q_node_sizes, .inl (cI, 31, .inl w9)), (q_path, .inl (cI, 25, .inl a10)), (q_slots, .inl (cI, 25, .inl v_slots))]) (pu_rv (cl := pu_cl) (pu_in3 _ (List.mem_of_getElem? (i := 49) rfl)) (pu_in3 _ (List.mem_of_getElem? (i := 50) rfl)) (pu_in3 _ (List.mem_of_getElem? (i := 51) rfl)) (pu_in0 _ (List.mem_of_getElem? (i := 6) rfl)) (pu_in3 _ (List.mem_of_getElem? (i := 52) rfl)) (ci := 3) rfl hd_Node_slotOf (by decide) ⟨rfl, rfl⟩ rfl rfl (Nat.le_of_ble_eq_true rfl) rfl (As := [.int x_1]) (rest := [.ref q_this]) (WC := [(q_node, .inr (3, [.ref q_node_bytes, .ref q_node_starts, .ref q_node_sizes, .int w4, .int w5, .int w6])), (q_node_bytes, .inl (cB, 96, .inl w7)), (q_node_starts, .inl (cI, 31, .inl w8)), (q_node_sizes, .inl (cI, 31, .inl w9))]) hx hb hml hown hts hN hK hP hD (c_Node_slotOf l D cI cJ cB cZ H.size q_node q_node_bytes q_node_starts q_node_sizes w4 w5 w6 w7 w8 w9 x_1 r11 hc) [3, 4, 5, 6] rfl rfl hl.1 d_Tree_find_51) hP hD hS hA [3, 4, 5, 6] [0, 1, 2, 7, 8] [0, 1, 2, 5, 6, 7, 8, 3, 4] rfl rfl rfl (by decide) rfl rfl (fun H locs hP hD hS => ?_)
      refine pf_Tree_60 (v := .int r11) hx hb hts hN hown hK hP hD hS 0 rfl rfl rfl (Nat.le_of_ble_eq_true rfl) d_Tree_find_54 (fun H locs hP hD hS => ?_)
      have hP : va_P D pu_cl [(q_this, .inr (5, [.ref q_pages, .ref q_node, .ref q_row, .ref q_path, .ref q_slots, .int v_depth, .int r11, .ref q_cell, .int v_cellSize, .ref q_waiting, .ref q_leaves])), (q_pages, .inr (0, [.ref q_pages_bytes, .int v_pages_count])), (q_pages_bytes, .inl (cB, 1536, .inl v_pages_bytes)), (q_node, .inr (3, [.ref q_node_bytes, .ref q_node_starts, .ref q_node_sizes, .int w4, .int w5, .int w6])), (q_node_bytes, .inl (cB, 96, .inl w7)), (q_node_starts, .inl (cI, 31, .inl w8)), (q_node_sizes, .inl (cI, 31, .inl w9)), (q_path, .inl (cI, 25, .inl a10)), (q_slots, .inl (cI, 25, .inl v_slots))] H := hP
      have hD : va_D A [(q_this, .inr (5, [.ref q_pages, .ref q_node, .ref q_row, .ref q_path, .ref q_slots, .int v_depth, .int r11, .ref q_cell, .int v_cellSize, .ref q_waiting, .ref q_leaves])), (q_pages, .inr (0, [.ref q_pages_bytes, .int v_pages_count])), (q_pages_bytes, .inl (cB, 1536, .inl v_pages_bytes)), (q_node, .inr (3, [.ref q_node_bytes, .ref q_node_starts, .ref q_node_sizes, .int w4, .int w5, .int w6])), (q_node_bytes, .inl (cB, 96, .inl w7)), (q_node_starts, .inl (cI, 31, .inl w8)), (q_node_sizes, .inl (cI, 31, .inl w9)), (q_path, .inl (cI, 25, .inl a10)), (q_slots, .inl (cI, 25, .inl v_slots))] := hD
      refine lv_aload_n hx hb d_Tree_find_57 rfl (lv_at hl 0 rfl) ?_
      refine gf_Tree_15 (v := .ref q_slots) hx hb hts hN hown hK hP 0 rfl rfl d_Tree_find_58 ?_
      refine lv_aload_n hx hb d_Tree_find_61 rfl (lv_at hl 0 rfl) ?_
      refine gf_Tree_48 (v := .int v_depth) hx hb hts hN hown hK hP 0 rfl rfl d_Tree_find_62 ?_
      refine lv_aload_n hx hb d_Tree_find_65 rfl (lv_at hl 0 rfl) ?_
      refine gf_Tree_60 (v := .int r11) hx hb hts hN hown hK hP 0 rfl rfl d_Tree_find_66 ?_
      obtain ⟨hin, hf⟩ := pu_ck_some hf
      obtain ⟨a12, e_a12, hf⟩ := pu_nm_some hf
      refine va_iast hx hb hK hP hD hS 8 0 rfl rfl hin d_Tree_find_69 (fun H locs hP hD hS => ?_)
      have hP : va_P D pu_cl [(q_this, .inr (5, [.ref q_pages, .ref q_node, .ref q_row, .ref q_path, .ref q_slots, .int v_depth, .int r11, .ref q_cell, .int v_cellSize, .ref q_waiting, .ref q_leaves])), (q_pages, .inr (0, [.ref q_pages_bytes, .int v_pages_count])), (q_pages_bytes, .inl (cB, 1536, .inl v_pages_bytes)), (q_node, .inr (3, [.ref q_node_bytes, .ref q_node_starts, .ref q_node_sizes, .int w4, .int w5, .int w6])), (q_node_bytes, .inl (cB, 96, .inl w7)), (q_node_starts, .inl (cI, 31, .inl w8)), (q_node_sizes, .inl (cI, 31, .inl w9)), (q_path, .inl (cI, 25, .inl a10)), (q_slots, .inl (cI, 25, .inl a12))] H := by rw [e_a12]; exact hP
      have hD : va_D A [(q_this, .inr (5, [.ref q_pages, .ref q_node, .ref q_row, .ref q_path, .ref q_slots, .int v_depth, .int r11, .ref q_cell, .int v_cellSize, .ref q_waiting, .ref q_leaves])), (q_pages, .inr (0, [.ref q_pages_bytes, .int v_pages_count])), (q_pages_bytes, .inl (cB, 1536, .inl v_pages_bytes)), (q_node, .inr (3, [.ref q_node_bytes, .ref q_node_starts, .ref q_node_sizes, .int w4, .int w5, .int w6])), (q_node_bytes, .inl (cB, 96, .inl w7)), (q_node_starts, .inl (cI, 31, .inl w8)), (q_node_sizes, .inl (cI, 31, .inl w9)), (q_path, .inl (cI, 25, .inl a10)), (q_slots, .inl (cI, 25, .inl a12))] := by rw [e_a12]; exact hD
      refine lv_aload_n hx hb d_Tree_find_70 rfl (lv_at hl 0 rfl) ?_
      refine gf_Tree_34 (v := .ref q_node) hx hb hts hN hown hK hP 0 rfl rfl d_Tree_find_71 ?_
      refine gf_Tree_63 (v := .int w6) hx hb hts hN hown hK hP 3 rfl rfl d_Tree_find_74 ?_
      refine lv_if_eq (tgt := 83) hx hb d_Tree_find_77 rfl (fun hc => ?_) (fun hc => ?_)
      · have hf := pu_br_pos hf hc
        refine lv_aload_n hx hb d_Tree_find_83 rfl (lv_at hl 0 rfl) ?_
        refine gf_Tree_34 (v := .ref q_node) hx hb hts hN hown hK hP 0 rfl rfl d_Tree_find_84 ?_
        refine lv_aload_n hx hb d_Tree_find_87 rfl (lv_at hl 0 rfl) ?_
        refine gf_Tree_60 (v := .int r11) hx hb hts hN hown hK hP 0 rfl rfl d_Tree_find_88 ?_
        obtain ⟨r13, hc, hf⟩ := pu_b1_some hf
        refine cl_i (WC := [(q_node, .inr (3, [.ref q_node_bytes, .ref q_node_starts, .ref q_node_sizes, .int w4, .int w5, .int w6])), (q_node_bytes, .inl (cB, 96, .inl w7)), (q_node_starts, .inl (cI, 31, .inl w8))]) (WC2 := [(q_node, .inr (3, [.ref q_node_bytes, .ref q_node_starts, .ref q_node_sizes, .int w4, .int w5, .int w6])), (q_node_bytes, .inl (cB, 96, .inl w7)), (q_node_starts, .inl (cI, 31, .inl w8))]) (WR := [(q_this, .inr (5, [.ref q_pages, .ref q_node, .ref q_row, .ref q_path, .ref q_slots, .int v_depth, .int r11, .ref q_cell, .int v_cellSize, .ref q_waiting, .ref q_leaves])), (q_pages, .inr (0, [.ref q_pages_bytes, .int v_pages_count])), (q_pages_bytes, .inl (cB, 1536, .inl v_pages_bytes)), (q_node_sizes, .inl (cI, 31, .inl w9)), (q_path, .inl (cI, 25, .inl a10)), (q_slots, .inl (cI, 25, .inl a12))]) (WS2 := [(q_this, .inr (5, [.ref q_pages, .ref q_node, .ref q_row, .ref q_path, .ref q_slots, .int v_depth, .int r11, .ref q_cell, .int v_cellSize, .ref q_waiting, .ref q_leaves])), (q_pages, .inr (0, [.ref q_pages_bytes, .int v_pages_count])), (q_pages_bytes, .inl (cB, 1536, .inl v_pages_bytes)), (q_node, .inr (3, [.ref q_node_bytes, .ref q_node_starts, .ref q_node_sizes, .int w4, .int w5, .int w6])), (q_node_bytes, .inl (cB, 96, .inl w7)), (q_node_starts, .inl (cI, 31, .inl w8)), (q_node_sizes, .inl (cI, 31, .inl w9)), (q_path, .inl (cI, 25, .inl a10)), (q_slots, .inl (cI, 25, .inl a12))]) (pu_rv (cl := pu_cl) (pu_in4 _ (List.mem_of_getElem? (i := 4) rfl)) (pu_in4 _ (List.mem_of_getElem? (i := 5) rfl)) (pu_in4 _ (List.mem_of_getElem? (i := 6) rfl)) (pu_in0 _ (List.mem_of_getElem? (i := 6) rfl)) (pu_in4 _ (List.mem_of_getElem? (i := 7) rfl)) (ci := 3) rfl hd_Node_child (by decide) ⟨rfl, rfl⟩ rfl rfl (Nat.le_of_ble_eq_true rfl) rfl (As := [.int r11]) (rest := []) (WC := [(q_node, .inr (3, [.ref q_node_bytes, .ref q_node_starts, .ref q_node_sizes, .int w4, .int w5, .int w6])), (q_node_bytes, .inl (cB, 96, .inl w7)), (q_node_starts, .inl (cI, 31, .inl w8))]) hx hb hml hown hts hN hK hP hD (c_Node_child l D cI cJ cB cZ H.size q_node q_node_bytes q_node_starts q_node_sizes w4 w5 w6 w7 w8 r11 r13 hc) [3, 4, 5] rfl rfl hl.1 d_Tree_find_91) hP hD hS hA [3, 4, 5] [0, 1, 2, 6, 7, 8] [0, 1, 2, 6, 7, 8, 3, 4, 5] rfl rfl rfl (by decide) rfl rfl (fun H locs hP hD hS => ?_)
        refine lv_istore_n hx hb d_Tree_find_94 rfl hl (by decide) rfl (fun ls hl => ?_)
        have hl : lv_has ls 3 [(2, .int r13), (0, .ref q_this), (1, .int x_1)] := hl
        refine lv_aload_n hx hb d_Tree_find_95 rfl (lv_at hl 1 rfl) ?_
        refine lv_dup hx hb d_Tree_find_96 rfl ?_
        refine gf_Tree_48 (v := .int v_depth) hx hb hts hN hown hK hP 0 rfl rfl d_Tree_find_97 ?_
        refine lv_iconst (v := 1) hx hb d_Tree_find_100 rfl ?_
        refine lv_iadd hx hb d_Tree_find_101 ?_
        obtain ⟨t14, e_t14, hf⟩ := pu_nm_some hf
        refine pu_ti e_t14 ?_
        refine pf_Tree_48 (v := .int t14) hx hb hts hN hown hK hP hD hS 0 rfl rfl rfl (Nat.le_of_ble_eq_true rfl) d_Tree_find_102 (fun H locs hP hD hS => ?_)
        have hP : va_P D pu_cl [(q_this, .inr (5, [.ref q_pages, .ref q_node, .ref q_row, .ref q_path, .ref q_slots, .int t14, .int r11, .ref q_cell, .int v_cellSize, .ref q_waiting, .ref q_leaves])), (q_pages, .inr (0, [.ref q_pages_bytes, .int v_pages_count])), (q_pages_bytes, .inl (cB, 1536, .inl v_pages_bytes)), (q_node, .inr (3, [.ref q_node_bytes, .ref q_node_starts, .ref q_node_sizes, .int w4, .int w5, .int w6])), (q_node_bytes, .inl (cB, 96, .inl w7)), (q_node_starts, .inl (cI, 31, .inl w8)), (q_node_sizes, .inl (cI, 31, .inl w9)), (q_path, .inl (cI, 25, .inl a10)), (q_slots, .inl (cI, 25, .inl a12))] H := hP
        have hD : va_D A [(q_this, .inr (5, [.ref q_pages, .ref q_node, .ref q_row, .ref q_path, .ref q_slots, .int t14, .int r11, .ref q_cell, .int v_cellSize, .ref q_waiting, .ref q_leaves])), (q_pages, .inr (0, [.ref q_pages_bytes, .int v_pages_count])), (q_pages_bytes, .inl (cB, 1536, .inl v_pages_bytes)), (q_node, .inr (3, [.ref q_node_bytes, .ref q_node_starts, .ref q_node_sizes, .int w4, .int w5, .int w6])), (q_node_bytes, .inl (cB, 96, .inl w7)), (q_node_starts, .inl (cI, 31, .inl w8)), (q_node_sizes, .inl (cI, 31, .inl w9)), (q_path, .inl (cI, 25, .inl a10)), (q_slots, .inl (cI, 25, .inl a12))] := hD
        refine lv_goto (tgt := 13) hx hb d_Tree_find_105 rfl ?_
        exact ih_13 t14 r11 w4 w5 w6 w7 w8 w9 a10 a12 r13 H locs ls hP hD hS (lv_sub hl [1, 2, 0] rfl) hf
      have hf := pu_br_neg hf hc
      exact lb_80 v_depth r11 w4 w5 w6 w7 w8 w9 a10 a12 x_1 H locs ls hP hD hS (lv_sub hl [0, 1] rfl) hf
  obtain ⟨H, hH⟩ : ∃ H, H = s.heap := ⟨_, rfl⟩
  obtain ⟨locs, hlocs⟩ : ∃ locs : List Loc, locs = [] := ⟨_, rfl⟩
  have hP : va_P D pu_cl [(q_this, .inr (5, [.ref q_pages, .ref q_node, .ref q_row, .ref q_path, .ref q_slots, .int v_depth, .int v_slot, .ref q_cell, .int v_cellSize, .ref q_waiting, .ref q_leaves])), (q_pages, .inr (0, [.ref q_pages_bytes, .int v_pages_count])), (q_pages_bytes, .inl (cB, 1536, .inl v_pages_bytes)), (q_node, .inr (3, [.ref q_node_bytes, .ref q_node_starts, .ref q_node_sizes, .int v_node_count, .int v_node_last, .int v_node_leaf])), (q_node_bytes, .inl (cB, 96, .inl v_node_bytes)), (q_node_starts, .inl (cI, 31, .inl v_node_starts)), (q_node_sizes, .inl (cI, 31, .inl v_node_sizes)), (q_path, .inl (cI, 25, .inl v_path)), (q_slots, .inl (cI, 25, .inl v_slots))] H := by rw [hH]; exact hP
  have hS : va_S A s.heap H locs := by rw [hH, hlocs]; exact hS
  have goal : W p l e rm_Tree_find s m args below meth c H locs 0 0 Q (F0 m 0 ls []) := by
    clear hH hlocs
    refine lv_aload_n hx hb d_Tree_find_0 rfl (lv_at hl 0 rfl) ?_
    refine gf_Tree_30 (v := .ref q_pages) hx hb hts hN hown hK hP 0 rfl rfl d_Tree_find_1 ?_
    obtain ⟨r1, hc, hf⟩ := pu_b1_some hf
    refine cl_i (WC := [(q_pages, .inr (0, [.ref q_pages_bytes, .int v_pages_count])), (q_pages_bytes, .inl (cB, 1536, .inl v_pages_bytes))]) (WC2 := [(q_pages, .inr (0, [.ref q_pages_bytes, .int v_pages_count])), (q_pages_bytes, .inl (cB, 1536, .inl v_pages_bytes))]) (WR := [(q_this, .inr (5, [.ref q_pages, .ref q_node, .ref q_row, .ref q_path, .ref q_slots, .int v_depth, .int v_slot, .ref q_cell, .int v_cellSize, .ref q_waiting, .ref q_leaves])), (q_node, .inr (3, [.ref q_node_bytes, .ref q_node_starts, .ref q_node_sizes, .int v_node_count, .int v_node_last, .int v_node_leaf])), (q_node_bytes, .inl (cB, 96, .inl v_node_bytes)), (q_node_starts, .inl (cI, 31, .inl v_node_starts)), (q_node_sizes, .inl (cI, 31, .inl v_node_sizes)), (q_path, .inl (cI, 25, .inl v_path)), (q_slots, .inl (cI, 25, .inl v_slots))]) (WS2 := [(q_this, .inr (5, [.ref q_pages, .ref q_node, .ref q_row, .ref q_path, .ref q_slots, .int v_depth, .int v_slot, .ref q_cell, .int v_cellSize, .ref q_waiting, .ref q_leaves])), (q_pages, .inr (0, [.ref q_pages_bytes, .int v_pages_count])), (q_pages_bytes, .inl (cB, 1536, .inl v_pages_bytes)), (q_node, .inr (3, [.ref q_node_bytes, .ref q_node_starts, .ref q_node_sizes, .int v_node_count, .int v_node_last, .int v_node_leaf])), (q_node_bytes, .inl (cB, 96, .inl v_node_bytes)), (q_node_starts, .inl (cI, 31, .inl v_node_starts)), (q_node_sizes, .inl (cI, 31, .inl v_node_sizes)), (q_path, .inl (cI, 25, .inl v_path)), (q_slots, .inl (cI, 25, .inl v_slots))]) (pu_rv (cl := pu_cl) (pu_in3 _ (List.mem_of_getElem? (i := 33) rfl)) (pu_in3 _ (List.mem_of_getElem? (i := 34) rfl)) (pu_in3 _ (List.mem_of_getElem? (i := 35) rfl)) (pu_in0 _ (List.mem_of_getElem? (i := 3) rfl)) (pu_in3 _ (List.mem_of_getElem? (i := 36) rfl)) (ci := 0) rfl hd_Pages_root (by decide) ⟨rfl, rfl⟩ rfl rfl (Nat.le_of_ble_eq_true rfl) rfl (As := []) (rest := []) (WC := [(q_pages, .inr (0, [.ref q_pages_bytes, .int v_pages_count])), (q_pages_bytes, .inl (cB, 1536, .inl v_pages_bytes))]) hx hb hml hown hts hN hK hP hD (c_Pages_root l D cI cJ cB cZ H.size q_pages q_pages_bytes v_pages_count v_pages_bytes r1 hc) [1, 2] rfl rfl hl.1 d_Tree_find_4) hP hD hS hA [1, 2] [0, 3, 4, 5, 6, 7, 8] [0, 7, 8, 1, 2, 3, 4, 5, 6] rfl rfl rfl (by decide) rfl rfl (fun H locs hP hD hS => ?_)
    refine lv_istore_n hx hb d_Tree_find_7 rfl hl (by decide) rfl (fun ls hl => ?_)
    have hl : lv_has ls 3 [(2, .int r1), (0, .ref q_this), (1, .int x_1)] := hl
    refine lv_aload_n hx hb d_Tree_find_8 rfl (lv_at hl 1 rfl) ?_
    refine lv_iconst (v := 0) hx hb d_Tree_find_9 rfl ?_
    refine pf_Tree_48 (v := .int (0 : Int32)) hx hb hts hN hown hK hP hD hS 0 rfl rfl rfl (Nat.le_of_ble_eq_true rfl) d_Tree_find_10 (fun H locs hP hD hS => ?_)
    have hP : va_P D pu_cl [(q_this, .inr (5, [.ref q_pages, .ref q_node, .ref q_row, .ref q_path, .ref q_slots, .int (0 : Int32), .int v_slot, .ref q_cell, .int v_cellSize, .ref q_waiting, .ref q_leaves])), (q_pages, .inr (0, [.ref q_pages_bytes, .int v_pages_count])), (q_pages_bytes, .inl (cB, 1536, .inl v_pages_bytes)), (q_node, .inr (3, [.ref q_node_bytes, .ref q_node_starts, .ref q_node_sizes, .int v_node_count, .int v_node_last, .int v_node_leaf])), (q_node_bytes, .inl (cB, 96, .inl v_node_bytes)), (q_node_starts, .inl (cI, 31, .inl v_node_starts)), (q_node_sizes, .inl (cI, 31, .inl v_node_sizes)), (q_path, .inl (cI, 25, .inl v_path)), (q_slots, .inl (cI, 25, .inl v_slots))] H := hP
    have hD : va_D A [(q_this, .inr (5, [.ref q_pages, .ref q_node, .ref q_row, .ref q_path, .ref q_slots, .int (0 : Int32), .int v_slot, .ref q_cell, .int v_cellSize, .ref q_waiting, .ref q_leaves])), (q_pages, .inr (0, [.ref q_pages_bytes, .int v_pages_count])), (q_pages_bytes, .inl (cB, 1536, .inl v_pages_bytes)), (q_node, .inr (3, [.ref q_node_bytes, .ref q_node_starts, .ref q_node_sizes, .int v_node_count, .int v_node_last, .int v_node_leaf])), (q_node_bytes, .inl (cB, 96, .inl v_node_bytes)), (q_node_starts, .inl (cI, 31, .inl v_node_starts)), (q_node_sizes, .inl (cI, 31, .inl v_node_sizes)), (q_path, .inl (cI, 25, .inl v_path)), (q_slots, .inl (cI, 25, .inl v_slots))] := hD
    exact lp_13 x_1 _ (0 : Int32) v_slot v_node_count v_node_last v_node_leaf v_node_bytes v_node_starts v_node_sizes v_path v_slots r1 H locs ls hP hD hS (lv_sub hl [1, 2, 0] rfl) hf
  rw [hH, hlocs] at goal
  exact goal
theorem d_Pages_copyAll_0 : decode b_Pages_copyAll 0 = .ok (.aload_n 1, 1) := by decide +kernel
theorem d_Pages_copyAll_1 : decode b_Pages_copyAll 1 = .ok (.getfield 9, 3) := by decide +kernel
theorem d_Pages_copyAll_4 : decode b_Pages_copyAll 4 = .ok (.iconst 0, 1) := by decide +kernel
theorem d_Pages_copyAll_5 : decode b_Pages_copyAll 5 = .ok (.aload_n 0, 1) := by decide +kernel
theorem d_Pages_copyAll_6 : decode b_Pages_copyAll 6 = .ok (.getfield 9, 3) := by decide +kernel
theorem d_Pages_copyAll_9 : decode b_Pages_copyAll 9 = .ok (.iconst 0, 1) := by decide +kernel
theorem d_Pages_copyAll_10 : decode b_Pages_copyAll 10 = .ok (.aload_n 0, 1) := by decide +kernel
theorem d_Pages_copyAll_11 : decode b_Pages_copyAll 11 = .ok (.getfield 9, 3) := by decide +kernel
theorem d_Pages_copyAll_14 : decode b_Pages_copyAll 14 = .ok (.arraylength, 1) := by decide +kernel
theorem d_Pages_copyAll_15 : decode b_Pages_copyAll 15 = .ok (.invokestatic 33, 3) := by decide +kernel
theorem d_Pages_copyAll_18 : decode b_Pages_copyAll 18 = .ok (.aload_n 0, 1) := by decide +kernel
theorem d_Pages_copyAll_19 : decode b_Pages_copyAll 19 = .ok (.aload_n 1, 1) := by decide +kernel
theorem d_Pages_copyAll_20 : decode b_Pages_copyAll 20 = .ok (.getfield 15, 3) := by decide +kernel
theorem d_Pages_copyAll_23 : decode b_Pages_copyAll 23 = .ok (.putfield 15, 3) := by decide +kernel
theorem d_Pages_copyAll_26 : decode b_Pages_copyAll 26 = .ok (.return_, 1) := by decide +kernel
noncomputable def f_Pages_copyAll (v_p1_count : Int32) (v_p1_bytes : Nat → Int32) (v_count : Int32) (v_bytes : Nat → Int32) : Option (Int32 × (Nat → Int32)) :=
  pu_ck (pu_cp .byte v_p1_bytes (0 : Int32) (0 : Int32) (1536 : Int32) 1536 1536) (pu_nm (va_cpy v_p1_bytes v_bytes (0 : Int32).toNatClampNeg (0 : Int32).toNatClampNeg (1536 : Int32).toNatClampNeg) (fun a1 => some (v_p1_count, a1)))
abbrev rm_Pages_copyAll : Room := { frames := 1, cells := 0, slots := 0, locals := 68 }
set_option maxHeartbeats 8000000 in
set_option maxRecDepth 100000 in
theorem c_Pages_copyAll (l : Launch) (D : va_G) (cI cJ cB cZ : ClassId) (sz : Nat) (q_this : Nat) (q_bytes : Nat) (q_p1 : Nat) (q_p1_bytes : Nat) (v_count : Int32) (v_bytes : Nat → Int32) (v_p1_count : Int32) (v_p1_bytes : Nat → Int32) (o_count : Int32) (o_bytes : Nat → Int32) (hf : f_Pages_copyAll v_p1_count v_p1_bytes v_count v_bytes = some (o_count, o_bytes)) : Met l y_Pages_copyAll (.code y_Pages_copyAll b_Pages_copyAll 2 none :: pu_wA) rm_Pages_copyAll (pu_pc D pu_cl (pu_ty cI cJ cB cZ) [.ref q_this, .ref q_p1] [(q_this, .inr (0, [.ref q_bytes, .int v_count])), (q_bytes, .inl (cB, 1536, .inl v_bytes)), (q_p1, .inr (0, [.ref q_p1_bytes, .int v_p1_count])), (q_p1_bytes, .inl (cB, 1536, .inl v_p1_bytes))] sz) (pu_qv D pu_cl (pu_ty cI cJ cB cZ) [(q_this, .inr (0, [.ref q_bytes, .int v_count])), (q_bytes, .inl (cB, 1536, .inl v_bytes)), (q_p1, .inr (0, [.ref q_p1_bytes, .int v_p1_count])), (q_p1_bytes, .inl (cB, 1536, .inl v_p1_bytes))] [(q_this, .inr (0, [.ref q_bytes, .int o_count])), (q_bytes, .inl (cB, 1536, .inl o_bytes)), (q_p1, .inr (0, [.ref q_p1_bytes, .int v_p1_count])), (q_p1_bytes, .inl (cB, 1536, .inl v_p1_bytes))] sz) 0 0 (va_A [(q_this, .inr (0, [.ref q_bytes, .int v_count])), (q_bytes, .inl (cB, 1536, .inl v_bytes)), (q_p1, .inr (0, [.ref q_p1_bytes, .int v_p1_count])), (q_p1_bytes, .inl (cB, 1536, .inl v_p1_bytes))] sz) := by
  refine pu_mtv [.ref q_this, .ref q_p1] [(q_this, .inr (0, [.ref q_bytes, .int v_count])), (q_bytes, .inl (cB, 1536, .inl v_bytes)), (q_p1, .inr (0, [.ref q_p1_bytes, .int v_p1_count])), (q_p1_bytes, .inl (cB, 1536, .inl v_p1_bytes))] [(q_this, .inr (0, [.ref q_bytes, .int o_count])), (q_bytes, .inl (cB, 1536, .inl o_bytes)), (q_p1, .inr (0, [.ref q_p1_bytes, .int v_p1_count])), (q_p1_bytes, .inl (cB, 1536, .inl v_p1_bytes))] (by decide) (Nat.le_of_ble_eq_true rfl) ?_
  intro p e s m args below meth c A Q ls hx hb hml hts hN hown hK hA hP hD hl hret0
  have hS : va_S A s.heap s.heap [] := va_S.rf
  have hl : lv_has ls 2 [(0, .ref q_this), (1, .ref q_p1)] := hl
  have hret : ∀ (pc : Nat) (ls : Array Slot) (H : Heap) (locs : List Loc) (y_0 : Int32) (y_1 : Nat → Int32), decode b_Pages_copyAll pc = .ok (.return_, 1) → va_P D pu_cl [(q_this, .inr (0, [.ref q_bytes, .int y_0])), (q_bytes, .inl (cB, 1536, .inl y_1)), (q_p1, .inr (0, [.ref q_p1_bytes, .int v_p1_count])), (q_p1_bytes, .inl (cB, 1536, .inl v_p1_bytes))] H → va_D A [(q_this, .inr (0, [.ref q_bytes, .int y_0])), (q_bytes, .inl (cB, 1536, .inl y_1)), (q_p1, .inr (0, [.ref q_p1_bytes, .int v_p1_count])), (q_p1_bytes, .inl (cB, 1536, .inl v_p1_bytes))] → va_S A s.heap H locs → some (y_0, y_1) = some (o_count, o_bytes) → W p l e rm_Pages_copyAll s m args below meth c H locs 0 0 Q (F0 m pc ls []) := by
    intro pc ls H locs y_0 y_1 hd hP hD hS hf
    cases hf
    exact hret0 pc ls H locs hd hP hD hS
  clear hret0
  unfold f_Pages_copyAll at hf
  skip
  obtain ⟨H, hH⟩ : ∃ H, H = s.heap := ⟨_, rfl⟩
  obtain ⟨locs, hlocs⟩ : ∃ locs : List Loc, locs = [] := ⟨_, rfl⟩
  have hP : va_P D pu_cl [(q_this, .inr (0, [.ref q_bytes, .int v_count])), (q_bytes, .inl (cB, 1536, .inl v_bytes)), (q_p1, .inr (0, [.ref q_p1_bytes, .int v_p1_count])), (q_p1_bytes, .inl (cB, 1536, .inl v_p1_bytes))] H := by rw [hH]; exact hP
  have hS : va_S A s.heap H locs := by rw [hH, hlocs]; exact hS
  have goal : W p l e rm_Pages_copyAll s m args below meth c H locs 0 0 Q (F0 m 0 ls []) := by
    clear hH hlocs
    refine lv_aload_n hx hb d_Pages_copyAll_0 rfl (lv_at hl 1 rfl) ?_
    refine gf_Pages_9 (v := .ref q_p1_bytes) hx hb hts hN hown hK hP 2 rfl rfl d_Pages_copyAll_1 ?_
    refine lv_iconst (v := 0) hx hb d_Pages_copyAll_4 rfl ?_
    refine lv_aload_n hx hb d_Pages_copyAll_5 rfl (lv_at hl 0 rfl) ?_
    refine gf_Pages_9 (v := .ref q_bytes) hx hb hts hN hown hK hP 0 rfl rfl d_Pages_copyAll_6 ?_
    refine lv_iconst (v := 0) hx hb d_Pages_copyAll_9 rfl ?_
    refine lv_aload_n hx hb d_Pages_copyAll_10 rfl (lv_at hl 0 rfl) ?_
    refine gf_Pages_9 (v := .ref q_bytes) hx hb hts hN hown hK hP 0 rfl rfl d_Pages_copyAll_11 ?_
    refine va_alen (v := (1536 : Int32)) hx hb hK hP 1 2 rfl rfl rfl d_Pages_copyAll_14 ?_
    obtain ⟨hcp, hf⟩ := pu_ck_some hf
    obtain ⟨a1, e_a1, hf⟩ := pu_nm_some hf
    refine va_copyi hx hb (hml.trans hl.1.symm) hown (hts _ (pu_in2 _ (List.mem_of_getElem? (i := 37) rfl))) (hts _ (pu_in2 _ (List.mem_of_getElem? (i := 39) rfl))) (hts _ (pu_in2 _ (List.mem_of_getElem? (i := 38) rfl))) (hts _ (pu_in0 _ (List.mem_of_getElem? (i := 9) rfl))) hK hP hD hS 3 1 2 2 (ty := .byte) rfl rfl rfl rfl rfl hcp.1 hcp.2.1 hcp.2.2.1 hcp.2.2.2.1 hcp.2.2.2.2.1 hcp.2.2.2.2.2 (Nat.le_of_ble_eq_true rfl) (Nat.le_of_ble_eq_true rfl) d_Pages_copyAll_15 (fun H locs hP hD hS => ?_)
    have hP : va_P D pu_cl [(q_this, .inr (0, [.ref q_bytes, .int v_count])), (q_bytes, .inl (cB, 1536, .inl a1)), (q_p1, .inr (0, [.ref q_p1_bytes, .int v_p1_count])), (q_p1_bytes, .inl (cB, 1536, .inl v_p1_bytes))] H := by rw [e_a1]; exact hP
    have hD : va_D A [(q_this, .inr (0, [.ref q_bytes, .int v_count])), (q_bytes, .inl (cB, 1536, .inl a1)), (q_p1, .inr (0, [.ref q_p1_bytes, .int v_p1_count])), (q_p1_bytes, .inl (cB, 1536, .inl v_p1_bytes))] := by rw [e_a1]; exact hD
    refine lv_aload_n hx hb d_Pages_copyAll_18 rfl (lv_at hl 0 rfl) ?_
    refine lv_aload_n hx hb d_Pages_copyAll_19 rfl (lv_at hl 1 rfl) ?_
    refine gf_Pages_15 (v := .int v_p1_count) hx hb hts hN hown hK hP 2 rfl rfl d_Pages_copyAll_20 ?_
    refine pf_Pages_15 (v := .int v_p1_count) hx hb hts hN hown hK hP hD hS 0 rfl rfl rfl (Nat.le_of_ble_eq_true rfl) d_Pages_copyAll_23 (fun H locs hP hD hS => ?_)
    have hP : va_P D pu_cl [(q_this, .inr (0, [.ref q_bytes, .int v_p1_count])), (q_bytes, .inl (cB, 1536, .inl a1)), (q_p1, .inr (0, [.ref q_p1_bytes, .int v_p1_count])), (q_p1_bytes, .inl (cB, 1536, .inl v_p1_bytes))] H := hP
    have hD : va_D A [(q_this, .inr (0, [.ref q_bytes, .int v_p1_count])), (q_bytes, .inl (cB, 1536, .inl a1)), (q_p1, .inr (0, [.ref q_p1_bytes, .int v_p1_count])), (q_p1_bytes, .inl (cB, 1536, .inl v_p1_bytes))] := hD
    exact hret _ _ _ _ v_p1_count a1 d_Pages_copyAll_26 hP hD hS hf
  rw [hH, hlocs] at goal
  exact goal
theorem d_RF_writeVarint_0 : decode b_RF_writeVarint 0 = .ok (.iload_n 2, 1) := by decide +kernel
theorem d_RF_writeVarint_1 : decode b_RF_writeVarint 1 = .ok (.invokestatic 211, 3) := by decide +kernel
theorem d_RF_writeVarint_4 : decode b_RF_writeVarint 4 = .ok (.istore_n 3, 1) := by decide +kernel
theorem d_RF_writeVarint_5 : decode b_RF_writeVarint 5 = .ok (.iload_n 1, 1) := by decide +kernel
theorem d_RF_writeVarint_6 : decode b_RF_writeVarint 6 = .ok (.ifCond .lt 11, 3) := by decide +kernel
theorem d_RF_writeVarint_9 : decode b_RF_writeVarint 9 = .ok (.iload_n 1, 1) := by decide +kernel
theorem d_RF_writeVarint_10 : decode b_RF_writeVarint 10 = .ok (.iload_n 3, 1) := by decide +kernel
theorem d_RF_writeVarint_11 : decode b_RF_writeVarint 11 = .ok (.iadd, 1) := by decide +kernel
theorem d_RF_writeVarint_12 : decode b_RF_writeVarint 12 = .ok (.aload_n 0, 1) := by decide +kernel
theorem d_RF_writeVarint_13 : decode b_RF_writeVarint 13 = .ok (.arraylength, 1) := by decide +kernel
theorem d_RF_writeVarint_14 : decode b_RF_writeVarint 14 = .ok (.if_icmp .le 5, 3) := by decide +kernel
theorem d_RF_writeVarint_17 : decode b_RF_writeVarint 17 = .ok (.iload_n 1, 1) := by decide +kernel
theorem d_RF_writeVarint_18 : decode b_RF_writeVarint 18 = .ok (.ireturn, 1) := by decide +kernel
theorem d_RF_writeVarint_19 : decode b_RF_writeVarint 19 = .ok (.iconst 0, 1) := by decide +kernel
theorem d_RF_writeVarint_20 : decode b_RF_writeVarint 20 = .ok (.istore 4, 2) := by decide +kernel
theorem d_RF_writeVarint_22 : decode b_RF_writeVarint 22 = .ok (.iload 4, 2) := by decide +kernel
theorem d_RF_writeVarint_24 : decode b_RF_writeVarint 24 = .ok (.iload_n 3, 1) := by decide +kernel
theorem d_RF_writeVarint_25 : decode b_RF_writeVarint 25 = .ok (.if_icmp .ge 51, 3) := by decide +kernel
theorem d_RF_writeVarint_28 : decode b_RF_writeVarint 28 = .ok (.iload_n 2, 1) := by decide +kernel
theorem d_RF_writeVarint_29 : decode b_RF_writeVarint 29 = .ok (.bipush 7, 2) := by decide +kernel
theorem d_RF_writeVarint_31 : decode b_RF_writeVarint 31 = .ok (.iload_n 3, 1) := by decide +kernel
theorem d_RF_writeVarint_32 : decode b_RF_writeVarint 32 = .ok (.iconst 1, 1) := by decide +kernel
theorem d_RF_writeVarint_33 : decode b_RF_writeVarint 33 = .ok (.isub, 1) := by decide +kernel
theorem d_RF_writeVarint_34 : decode b_RF_writeVarint 34 = .ok (.iload 4, 2) := by decide +kernel
theorem d_RF_writeVarint_36 : decode b_RF_writeVarint 36 = .ok (.isub, 1) := by decide +kernel
theorem d_RF_writeVarint_37 : decode b_RF_writeVarint 37 = .ok (.imul, 1) := by decide +kernel
theorem d_RF_writeVarint_38 : decode b_RF_writeVarint 38 = .ok (.ishr, 1) := by decide +kernel
theorem d_RF_writeVarint_39 : decode b_RF_writeVarint 39 = .ok (.bipush 127, 2) := by decide +kernel
theorem d_RF_writeVarint_41 : decode b_RF_writeVarint 41 = .ok (.iand, 1) := by decide +kernel
theorem d_RF_writeVarint_42 : decode b_RF_writeVarint 42 = .ok (.istore 5, 2) := by decide +kernel
theorem d_RF_writeVarint_44 : decode b_RF_writeVarint 44 = .ok (.aload_n 0, 1) := by decide +kernel
theorem d_RF_writeVarint_45 : decode b_RF_writeVarint 45 = .ok (.iload_n 1, 1) := by decide +kernel
theorem d_RF_writeVarint_46 : decode b_RF_writeVarint 46 = .ok (.iload 4, 2) := by decide +kernel
theorem d_RF_writeVarint_48 : decode b_RF_writeVarint 48 = .ok (.iadd, 1) := by decide +kernel
theorem d_RF_writeVarint_49 : decode b_RF_writeVarint 49 = .ok (.iload 4, 2) := by decide +kernel
theorem d_RF_writeVarint_51 : decode b_RF_writeVarint 51 = .ok (.iload_n 3, 1) := by decide +kernel
theorem d_RF_writeVarint_52 : decode b_RF_writeVarint 52 = .ok (.iconst 1, 1) := by decide +kernel
theorem d_RF_writeVarint_53 : decode b_RF_writeVarint 53 = .ok (.isub, 1) := by decide +kernel
theorem d_RF_writeVarint_54 : decode b_RF_writeVarint 54 = .ok (.if_icmp .ge 12, 3) := by decide +kernel
theorem d_RF_writeVarint_57 : decode b_RF_writeVarint 57 = .ok (.iload 5, 2) := by decide +kernel
theorem d_RF_writeVarint_59 : decode b_RF_writeVarint 59 = .ok (.sipush 128, 3) := by decide +kernel
theorem d_RF_writeVarint_62 : decode b_RF_writeVarint 62 = .ok (.iadd, 1) := by decide +kernel
theorem d_RF_writeVarint_63 : decode b_RF_writeVarint 63 = .ok (.goto 5, 3) := by decide +kernel
theorem d_RF_writeVarint_66 : decode b_RF_writeVarint 66 = .ok (.iload 5, 2) := by decide +kernel
theorem d_RF_writeVarint_68 : decode b_RF_writeVarint 68 = .ok (.i2b, 1) := by decide +kernel
theorem d_RF_writeVarint_69 : decode b_RF_writeVarint 69 = .ok (.bastore, 1) := by decide +kernel
theorem d_RF_writeVarint_70 : decode b_RF_writeVarint 70 = .ok (.iinc 4 1, 3) := by decide +kernel
theorem d_RF_writeVarint_73 : decode b_RF_writeVarint 73 = .ok (.goto (-51), 3) := by decide +kernel
theorem d_RF_writeVarint_76 : decode b_RF_writeVarint 76 = .ok (.iload_n 1, 1) := by decide +kernel
theorem d_RF_writeVarint_77 : decode b_RF_writeVarint 77 = .ok (.iload_n 3, 1) := by decide +kernel
theorem d_RF_writeVarint_78 : decode b_RF_writeVarint 78 = .ok (.iadd, 1) := by decide +kernel
theorem d_RF_writeVarint_79 : decode b_RF_writeVarint 79 = .ok (.ireturn, 1) := by decide +kernel
noncomputable def q_RF_writeVarint_76 (n_p0 : Nat) (v_p0 : Nat → Int32) (x_1 : Int32) (x_3 : Int32) : Option (Int32 × (Nat → Int32)) :=
  some (x_1 + x_3, v_p0)
noncomputable def q_RF_writeVarint_68 (kb : (Nat → Int32) → Int32 → Option (Int32 × (Nat → Int32))) (kx_76 : (Nat → Int32) → Option (Int32 × (Nat → Int32))) (n_p0 : Nat) (v_p0 : Nat → Int32) (x_1 : Int32) (x_2 : Int32) (x_3 : Int32) (x_4 : Int32) (s_1 : Int32) (s_2 : Int32) : Option (Int32 × (Nat → Int32)) :=
  pu_ck (vp_in s_1 n_p0) (pu_nm (upd v_p0 s_1.toNatClampNeg (vp_nar .byte s_2.toInt8.toInt32)) (fun a3 => pu_nm (x_4 + (1 : Int32)) (fun t4 => kb a3 t4)))
noncomputable def q_RF_writeVarint_22 (kx_76 : (Nat → Int32) → Option (Int32 × (Nat → Int32))) (n_p0 : Nat) (x_1 : Int32) (x_2 : Int32) (x_3 : Int32) : Nat → (Nat → Int32) → Int32 → Option (Int32 × (Nat → Int32))
  | 0, _, _ => none
  | n + 1, v_p0, x_4 => pu_br (x_3 ≤ x_4) (kx_76 v_p0) (pu_nm ((x_2 >>> (((7 : Int32) * ((x_3 - (1 : Int32)) - x_4)) &&& 31)) &&& (127 : Int32)) (fun t2 => pu_br ((x_3 - (1 : Int32)) ≤ x_4) (q_RF_writeVarint_68 (q_RF_writeVarint_22 kx_76 n_p0 x_1 x_2 x_3 n) kx_76 n_p0 v_p0 x_1 x_2 x_3 x_4 (x_1 + x_4) t2) (q_RF_writeVarint_68 (q_RF_writeVarint_22 kx_76 n_p0 x_1 x_2 x_3 n) kx_76 n_p0 v_p0 x_1 x_2 x_3 x_4 (x_1 + x_4) (t2 + (128 : Int32)))))
noncomputable def f_RF_writeVarint (n_p0 : Nat) (v_p0 : Nat → Int32) (x_1 : Int32) (x_2 : Int32) : Option (Int32 × (Nat → Int32)) :=
  pu_b1 (f_RF_varintSize x_2) (fun r1 => pu_br (x_1 < 0) (some (x_1, v_p0)) (pu_br ((x_1 + r1) ≤ (Int32.ofNat n_p0)) (q_RF_writeVarint_22 (fun v_p0 => q_RF_writeVarint_76 n_p0 v_p0 x_1 r1) n_p0 x_1 x_2 r1 pu_fu v_p0 (0 : Int32)) (some (x_1, v_p0))))
abbrev rm_RF_writeVarint : Room := { frames := 1, cells := 0, slots := 0, locals := 20 }
set_option maxHeartbeats 8000000 in
set_option maxRecDepth 100000 in
theorem c_RF_writeVarint (l : Launch) (D : va_G) (cI cJ cB cZ : ClassId) (sz : Nat) (q_p0 : Nat) (n_p0 : Nat) (v_p0 : Nat → Int32) (x_1 : Int32) (x_2 : Int32) (o_r : Int32) (o_p0 : Nat → Int32) (hf : f_RF_writeVarint n_p0 v_p0 x_1 x_2 = some (o_r, o_p0)) : Met l y_RF_writeVarint (.code y_RF_writeVarint b_RF_writeVarint 6 (some .int) :: pu_wA) rm_RF_writeVarint (pu_pc D pu_cl (pu_ty cI cJ cB cZ) [.ref q_p0, .int x_1, .int x_2] [(q_p0, .inl (cB, n_p0, .inl v_p0))] sz) (pu_qi D pu_cl (pu_ty cI cJ cB cZ) [(q_p0, .inl (cB, n_p0, .inl v_p0))] [(q_p0, .inl (cB, n_p0, .inl o_p0))] sz o_r) 0 0 (va_A [(q_p0, .inl (cB, n_p0, .inl v_p0))] sz) := by
  refine pu_mti [.ref q_p0, .int x_1, .int x_2] [(q_p0, .inl (cB, n_p0, .inl v_p0))] [(q_p0, .inl (cB, n_p0, .inl o_p0))] o_r (by decide) (Nat.le_of_ble_eq_true rfl) ?_
  intro p e s m args below meth c A Q ls hx hb hml hts hN hown hK hA hP hD hl hret0
  have hS : va_S A s.heap s.heap [] := va_S.rf
  have hl : lv_has ls 6 [(0, .ref q_p0), (1, .int x_1), (2, .int x_2)] := hl
  have hret : ∀ (pc : Nat) (ls : Array Slot) (H : Heap) (locs : List Loc) (y_0 : Int32) (y_1 : Nat → Int32), decode b_RF_writeVarint pc = .ok (.ireturn, 1) → va_P D pu_cl [(q_p0, .inl (cB, n_p0, .inl y_1))] H → va_D A [(q_p0, .inl (cB, n_p0, .inl y_1))] → va_S A s.heap H locs → some (y_0, y_1) = some (o_r, o_p0) → W p l e rm_RF_writeVarint s m args below meth c H locs 0 0 Q (F0 m pc ls [.int y_0]) := by
    intro pc ls H locs y_0 y_1 hd hP hD hS hf
    cases hf
    exact hret0 pc ls H locs hd hP hD hS
  clear hret0
  unfold f_RF_writeVarint at hf
  skip
  have lb_76 : ∀ (v_p0 : Nat → Int32) (x_1 : Int32) (x_3 : Int32) (H : Heap) (locs : List Loc) (ls : Array Slot), va_P D pu_cl [(q_p0, .inl (cB, n_p0, .inl v_p0))] H → va_D A [(q_p0, .inl (cB, n_p0, .inl v_p0))] → va_S A s.heap H locs → lv_has ls 6 [(1, .int x_1), (3, .int x_3)] → q_RF_writeVarint_76 n_p0 v_p0 x_1 x_3 = some (o_r, o_p0) → W p l e rm_RF_writeVarint s m args below meth c H locs 0 0 Q (F0 m 76 ls []) := by
    intro v_p0 x_1 x_3 H locs ls hP hD hS hl hf
    rw [q_RF_writeVarint_76] at hf
    refine lv_iload_n hx hb d_RF_writeVarint_76 rfl (lv_at hl 0 rfl) ?_
    refine lv_iload_n hx hb d_RF_writeVarint_77 rfl (lv_at hl 1 rfl) ?_
    refine lv_iadd hx hb d_RF_writeVarint_78 ?_
    exact hret _ _ _ _ (x_1 + x_3) v_p0 d_RF_writeVarint_79 hP hD hS hf
  have lp_22 : ∀ (x_1 : Int32) (x_2 : Int32) (x_3 : Int32) (n22 : Nat) (v_p0 : Nat → Int32) (x_4 : Int32) (H : Heap) (locs : List Loc) (ls : Array Slot), va_P D pu_cl [(q_p0, .inl (cB, n_p0, .inl v_p0))] H → va_D A [(q_p0, .inl (cB, n_p0, .inl v_p0))] → va_S A s.heap H locs → lv_has ls 6 [(0, .ref q_p0), (1, .int x_1), (2, .int x_2), (3, .int x_3), (4, .int x_4)] → q_RF_writeVarint_22 (fun v_p0 => q_RF_writeVarint_76 n_p0 v_p0 x_1 x_3) n_p0 x_1 x_2 x_3 n22 v_p0 x_4 = some (o_r, o_p0) → W p l e rm_RF_writeVarint s m args below meth c H locs 0 0 Q (F0 m 22 ls []) := by
    intro x_1 x_2 x_3 n22
    induction n22 with
    | zero =>
      intro v_p0 x_4 H locs ls hP hD hS hl hf
      rw [q_RF_writeVarint_22] at hf
      cases hf
    | succ n22 ih_22 =>
      have lb_68 : ∀ (v_p0 : Nat → Int32) (x_4 : Int32) (s_1 : Int32) (s_2 : Int32) (H : Heap) (locs : List Loc) (ls : Array Slot), va_P D pu_cl [(q_p0, .inl (cB, n_p0, .inl v_p0))] H → va_D A [(q_p0, .inl (cB, n_p0, .inl v_p0))] → va_S A s.heap H locs → lv_has ls 6 [(0, .ref q_p0), (1, .int x_1), (2, .int x_2), (3, .int x_3), (4, .int x_4)] → q_RF_writeVarint_68 (q_RF_writeVarint_22 (fun v_p0 => q_RF_writeVarint_76 n_p0 v_p0 x_1 x_3) n_p0 x_1 x_2 x_3 n22) (fun v_p0 => q_RF_writeVarint_76 n_p0 v_p0 x_1 x_3) n_p0 v_p0 x_1 x_2 x_3 x_4 s_1 s_2 = some (o_r, o_p0) → W p l e rm_RF_writeVarint s m args below meth c H locs 0 0 Q (F0 m 68 ls [.int s_2, .int s_1, .ref q_p0]) := by
        intro v_p0 x_4 s_1 s_2 H locs ls hP hD hS hl hf
        rw [q_RF_writeVarint_68] at hf
        refine lv_i2b hx hb d_RF_writeVarint_68 rfl ?_
        obtain ⟨hin, hf⟩ := pu_ck_some hf
        obtain ⟨a3, e_a3, hf⟩ := pu_nm_some hf
        refine va_bast hx hb hK hP hD hS 0 2 rfl rfl hin d_RF_writeVarint_69 (fun H locs hP hD hS => ?_)
        have hP : va_P D pu_cl [(q_p0, .inl (cB, n_p0, .inl a3))] H := by rw [e_a3]; exact hP
        have hD : va_D A [(q_p0, .inl (cB, n_p0, .inl a3))] := by rw [e_a3]; exact hD
        obtain ⟨t4, e_t4, hf⟩ := pu_nm_some hf
        refine lv_iinc (k := 4) (v := t4) hx hb d_RF_writeVarint_70 hl rfl e_t4.symm (by decide) rfl (fun ls hl => ?_)
        have hl : lv_has ls 6 [(4, .int t4), (0, .ref q_p0), (1, .int x_1), (2, .int x_2), (3, .int x_3)] := hl
        refine lv_goto (tgt := 22) hx hb d_RF_writeVarint_73 rfl ?_
        exact ih_22 a3 t4 H locs ls hP hD hS (lv_sub hl [1, 2, 3, 4, 0] rfl) hf
      intro v_p0 x_4 H locs ls hP hD hS hl hf
      rw [q_RF_writeVarint_22] at hf
      refine lv_iload hx hb d_RF_writeVarint_22 (lv_at hl 4 rfl) ?_
      refine lv_iload_n hx hb d_RF_writeVarint_24 rfl (lv_at hl 3 rfl) ?_
      refine lv_icmp_ge (tgt := 76) hx hb d_RF_writeVarint_25 rfl (fun hc => ?_) (fun hc => ?_)
      · have hf := pu_br_pos hf hc
        exact lb_76 v_p0 x_1 x_3 H locs ls hP hD hS (lv_sub hl [1, 3] rfl) hf
      have hf := pu_br_neg hf hc
      refine lv_iload_n hx hb d_RF_writeVarint_28 rfl (lv_at hl 2 rfl) ?_
      refine lv_bipush (v := 7) hx hb d_RF_writeVarint_29 rfl ?_
      refine lv_iload_n hx hb d_RF_writeVarint_31 rfl (lv_at hl 3 rfl) ?_
      refine lv_iconst (v := 1) hx hb d_RF_writeVarint_32 rfl ?_
      refine lv_isub hx hb d_RF_writeVarint_33 ?_
      refine lv_iload hx hb d_RF_writeVarint_34 (lv_at hl 4 rfl) ?_
      refine lv_isub hx hb d_RF_writeVarint_36 ?_
      refine lv_imul hx hb d_RF_writeVarint_37 ?_
      refine lv_ishr hx hb d_RF_writeVarint_38 ?_
      refine lv_bipush (v := 127) hx hb d_RF_writeVarint_39 rfl ?_
      refine lv_iand hx hb d_RF_writeVarint_41 ?_
      obtain ⟨t2, e_t2, hf⟩ := pu_nm_some hf
      refine pu_ti e_t2 ?_
      refine lv_istore hx hb d_RF_writeVarint_42 hl (by decide) rfl (fun ls hl => ?_)
      have hl : lv_has ls 6 [(5, .int t2), (0, .ref q_p0), (1, .int x_1), (2, .int x_2), (3, .int x_3), (4, .int x_4)] := hl
      refine lv_aload_n hx hb d_RF_writeVarint_44 rfl (lv_at hl 1 rfl) ?_
      refine lv_iload_n hx hb d_RF_writeVarint_45 rfl (lv_at hl 2 rfl) ?_
      refine lv_iload hx hb d_RF_writeVarint_46 (lv_at hl 5 rfl) ?_
      refine lv_iadd hx hb d_RF_writeVarint_48 ?_
      refine lv_iload hx hb d_RF_writeVarint_49 (lv_at hl 5 rfl) ?_
      refine lv_iload_n hx hb d_RF_writeVarint_51 rfl (lv_at hl 4 rfl) ?_
      refine lv_iconst (v := 1) hx hb d_RF_writeVarint_52 rfl ?_
      refine lv_isub hx hb d_RF_writeVarint_53 ?_
      refine lv_icmp_ge (tgt := 66) hx hb d_RF_writeVarint_54 rfl (fun hc => ?_) (fun hc => ?_)
      · have hf := pu_br_pos hf hc
        refine lv_iload hx hb d_RF_writeVarint_66 (lv_at hl 0 rfl) ?_
        exact lb_68 v_p0 x_4 (x_1 + x_4) t2 H locs ls hP hD hS (lv_sub hl [1, 2, 3, 4, 5] rfl) hf
      have hf := pu_br_neg hf hc
      refine lv_iload hx hb d_RF_writeVarint_57 (lv_at hl 0 rfl) ?_
      refine lv_sipush (v := 128) hx hb d_RF_writeVarint_59 rfl ?_
      refine lv_iadd hx hb d_RF_writeVarint_62 ?_
      refine lv_goto (tgt := 68) hx hb d_RF_writeVarint_63 rfl ?_
      exact lb_68 v_p0 x_4 (x_1 + x_4) (t2 + (128 : Int32)) H locs ls hP hD hS (lv_sub hl [1, 2, 3, 4, 5] rfl) hf
  obtain ⟨H, hH⟩ : ∃ H, H = s.heap := ⟨_, rfl⟩
  obtain ⟨locs, hlocs⟩ : ∃ locs : List Loc, locs = [] := ⟨_, rfl⟩
  have hP : va_P D pu_cl [(q_p0, .inl (cB, n_p0, .inl v_p0))] H := by rw [hH]; exact hP
  have hS : va_S A s.heap H locs := by rw [hH, hlocs]; exact hS
  have goal : W p l e rm_RF_writeVarint s m args below meth c H locs 0 0 Q (F0 m 0 ls []) := by
    clear hH hlocs
    refine lv_iload_n hx hb d_RF_writeVarint_0 rfl (lv_at hl 2 rfl) ?_
    obtain ⟨r1, hc, hf⟩ := pu_b1_some hf
    refine cl_i (WC := []) (WC2 := []) (WR := [(q_p0, .inl (cB, n_p0, .inl v_p0))]) (WS2 := [(q_p0, .inl (cB, n_p0, .inl v_p0))]) (pu_rs (pu_in4 _ (List.mem_of_getElem? (i := 15) rfl)) (pu_in4 _ (List.mem_of_getElem? (i := 2) rfl)) (pu_in0 _ (List.mem_of_getElem? (i := 1) rfl)) (pu_in4 _ (List.mem_of_getElem? (i := 3) rfl)) hd_RF_varintSize (by decide) ⟨rfl, rfl⟩ rfl rfl (Nat.le_of_ble_eq_true rfl) (As := [.int x_2]) (rest := []) (WC := []) hx hb hml hown hts hN hK hP hD (c_RF_varintSize l D cI cJ cB cZ H.size x_2 r1 hc) [] rfl rfl hl.1 d_RF_writeVarint_1) hP hD hS hA [] [0] [0] rfl rfl rfl (by decide) rfl rfl (fun H locs hP hD hS => ?_)
    refine lv_istore_n hx hb d_RF_writeVarint_4 rfl hl (by decide) rfl (fun ls hl => ?_)
    have hl : lv_has ls 6 [(3, .int r1), (0, .ref q_p0), (1, .int x_1), (2, .int x_2)] := hl
    refine lv_iload_n hx hb d_RF_writeVarint_5 rfl (lv_at hl 2 rfl) ?_
    refine lv_if_lt (tgt := 17) hx hb d_RF_writeVarint_6 rfl (fun hc => ?_) (fun hc => ?_)
    · have hf := pu_br_pos hf hc
      refine lv_iload_n hx hb d_RF_writeVarint_17 rfl (lv_at hl 2 rfl) ?_
      exact hret _ _ _ _ x_1 v_p0 d_RF_writeVarint_18 hP hD hS hf
    have hf := pu_br_neg hf hc
    refine lv_iload_n hx hb d_RF_writeVarint_9 rfl (lv_at hl 2 rfl) ?_
    refine lv_iload_n hx hb d_RF_writeVarint_10 rfl (lv_at hl 0 rfl) ?_
    refine lv_iadd hx hb d_RF_writeVarint_11 ?_
    refine lv_aload_n hx hb d_RF_writeVarint_12 rfl (lv_at hl 1 rfl) ?_
    refine va_alen (v := Int32.ofNat n_p0) hx hb hK hP 0 2 rfl rfl rfl d_RF_writeVarint_13 ?_
    refine lv_icmp_le (tgt := 19) hx hb d_RF_writeVarint_14 rfl (fun hc => ?_) (fun hc => ?_)
    · have hf := pu_br_pos hf hc
      refine lv_iconst (v := 0) hx hb d_RF_writeVarint_19 rfl ?_
      refine lv_istore hx hb d_RF_writeVarint_20 hl (by decide) rfl (fun ls hl => ?_)
      have hl : lv_has ls 6 [(4, .int (0 : Int32)), (3, .int r1), (0, .ref q_p0), (1, .int x_1), (2, .int x_2)] := hl
      exact lp_22 x_1 x_2 r1 _ v_p0 (0 : Int32) H locs ls hP hD hS (lv_sub hl [2, 3, 4, 1, 0] rfl) hf
    have hf := pu_br_neg hf hc
    refine lv_iload_n hx hb d_RF_writeVarint_17 rfl (lv_at hl 2 rfl) ?_
    exact hret _ _ _ _ x_1 v_p0 d_RF_writeVarint_18 hP hD hS hf
  rw [hH, hlocs] at goal
  exact goal
theorem d_Rec_encodeValue_0 : decode b_Rec_encodeValue 0 = .ok (.aload_n 1, 1) := by decide +kernel
theorem d_Rec_encodeValue_1 : decode b_Rec_encodeValue 1 = .ok (.getfield 28, 3) := by decide +kernel
theorem d_Rec_encodeValue_4 : decode b_Rec_encodeValue 4 = .ok (.iload_n 2, 1) := by decide +kernel
theorem d_Rec_encodeValue_5 : decode b_Rec_encodeValue 5 = .ok (.iaload, 1) := by decide +kernel
theorem d_Rec_encodeValue_6 : decode b_Rec_encodeValue 6 = .ok (.invokestatic 44, 3) := by decide +kernel
theorem d_Rec_encodeValue_9 : decode b_Rec_encodeValue 9 = .ok (.istore_n 3, 1) := by decide +kernel
theorem d_Rec_encodeValue_10 : decode b_Rec_encodeValue 10 = .ok (.iload_n 3, 1) := by decide +kernel
theorem d_Rec_encodeValue_11 : decode b_Rec_encodeValue 11 = .ok (.ifCond .lt 15, 3) := by decide +kernel
theorem d_Rec_encodeValue_14 : decode b_Rec_encodeValue 14 = .ok (.aload_n 0, 1) := by decide +kernel
theorem d_Rec_encodeValue_15 : decode b_Rec_encodeValue 15 = .ok (.getfield 37, 3) := by decide +kernel
theorem d_Rec_encodeValue_18 : decode b_Rec_encodeValue 18 = .ok (.iload_n 3, 1) := by decide +kernel
theorem d_Rec_encodeValue_19 : decode b_Rec_encodeValue 19 = .ok (.iadd, 1) := by decide +kernel
theorem d_Rec_encodeValue_20 : decode b_Rec_encodeValue 20 = .ok (.sipush 307, 3) := by decide +kernel
theorem d_Rec_encodeValue_23 : decode b_Rec_encodeValue 23 = .ok (.if_icmp .le 4, 3) := by decide +kernel
theorem d_Rec_encodeValue_26 : decode b_Rec_encodeValue 26 = .ok (.return_, 1) := by decide +kernel
theorem d_Rec_encodeValue_27 : decode b_Rec_encodeValue 27 = .ok (.aload_n 1, 1) := by decide +kernel
theorem d_Rec_encodeValue_28 : decode b_Rec_encodeValue 28 = .ok (.getfield 28, 3) := by decide +kernel
theorem d_Rec_encodeValue_31 : decode b_Rec_encodeValue 31 = .ok (.iload_n 2, 1) := by decide +kernel
theorem d_Rec_encodeValue_32 : decode b_Rec_encodeValue 32 = .ok (.iaload, 1) := by decide +kernel
theorem d_Rec_encodeValue_33 : decode b_Rec_encodeValue 33 = .ok (.bipush 12, 2) := by decide +kernel
theorem d_Rec_encodeValue_35 : decode b_Rec_encodeValue 35 = .ok (.if_icmp .lt 26, 3) := by decide +kernel
theorem d_Rec_encodeValue_38 : decode b_Rec_encodeValue 38 = .ok (.aload_n 1, 1) := by decide +kernel
theorem d_Rec_encodeValue_39 : decode b_Rec_encodeValue 39 = .ok (.getfield 47, 3) := by decide +kernel
theorem d_Rec_encodeValue_42 : decode b_Rec_encodeValue 42 = .ok (.iload_n 2, 1) := by decide +kernel
theorem d_Rec_encodeValue_43 : decode b_Rec_encodeValue 43 = .ok (.bipush 100, 2) := by decide +kernel
theorem d_Rec_encodeValue_45 : decode b_Rec_encodeValue 45 = .ok (.imul, 1) := by decide +kernel
theorem d_Rec_encodeValue_46 : decode b_Rec_encodeValue 46 = .ok (.aload_n 0, 1) := by decide +kernel
theorem d_Rec_encodeValue_47 : decode b_Rec_encodeValue 47 = .ok (.getfield 9, 3) := by decide +kernel
theorem d_Rec_encodeValue_50 : decode b_Rec_encodeValue 50 = .ok (.aload_n 0, 1) := by decide +kernel
theorem d_Rec_encodeValue_51 : decode b_Rec_encodeValue 51 = .ok (.getfield 37, 3) := by decide +kernel
theorem d_Rec_encodeValue_54 : decode b_Rec_encodeValue 54 = .ok (.iload_n 3, 1) := by decide +kernel
theorem d_Rec_encodeValue_55 : decode b_Rec_encodeValue 55 = .ok (.invokestatic 50, 3) := by decide +kernel
theorem d_Rec_encodeValue_58 : decode b_Rec_encodeValue 58 = .ok (.goto 48, 3) := by decide +kernel
theorem d_Rec_encodeValue_61 : decode b_Rec_encodeValue 61 = .ok (.iconst 0, 1) := by decide +kernel
theorem d_Rec_encodeValue_62 : decode b_Rec_encodeValue 62 = .ok (.istore 4, 2) := by decide +kernel
theorem d_Rec_encodeValue_64 : decode b_Rec_encodeValue 64 = .ok (.iload 4, 2) := by decide +kernel
theorem d_Rec_encodeValue_66 : decode b_Rec_encodeValue 66 = .ok (.iload_n 3, 1) := by decide +kernel
theorem d_Rec_encodeValue_67 : decode b_Rec_encodeValue 67 = .ok (.if_icmp .ge 39, 3) := by decide +kernel
theorem d_Rec_encodeValue_70 : decode b_Rec_encodeValue 70 = .ok (.aload_n 0, 1) := by decide +kernel
theorem d_Rec_encodeValue_71 : decode b_Rec_encodeValue 71 = .ok (.getfield 9, 3) := by decide +kernel
theorem d_Rec_encodeValue_74 : decode b_Rec_encodeValue 74 = .ok (.aload_n 0, 1) := by decide +kernel
theorem d_Rec_encodeValue_75 : decode b_Rec_encodeValue 75 = .ok (.getfield 37, 3) := by decide +kernel
theorem d_Rec_encodeValue_78 : decode b_Rec_encodeValue 78 = .ok (.iload 4, 2) := by decide +kernel
theorem d_Rec_encodeValue_80 : decode b_Rec_encodeValue 80 = .ok (.iadd, 1) := by decide +kernel
theorem d_Rec_encodeValue_81 : decode b_Rec_encodeValue 81 = .ok (.aload_n 1, 1) := by decide +kernel
theorem d_Rec_encodeValue_82 : decode b_Rec_encodeValue 82 = .ok (.getfield 56, 3) := by decide +kernel
theorem d_Rec_encodeValue_85 : decode b_Rec_encodeValue 85 = .ok (.iload_n 2, 1) := by decide +kernel
theorem d_Rec_encodeValue_86 : decode b_Rec_encodeValue 86 = .ok (.laload, 1) := by decide +kernel
theorem d_Rec_encodeValue_87 : decode b_Rec_encodeValue 87 = .ok (.bipush 8, 2) := by decide +kernel
theorem d_Rec_encodeValue_89 : decode b_Rec_encodeValue 89 = .ok (.iload_n 3, 1) := by decide +kernel
theorem d_Rec_encodeValue_90 : decode b_Rec_encodeValue 90 = .ok (.iconst 1, 1) := by decide +kernel
theorem d_Rec_encodeValue_91 : decode b_Rec_encodeValue 91 = .ok (.isub, 1) := by decide +kernel
theorem d_Rec_encodeValue_92 : decode b_Rec_encodeValue 92 = .ok (.iload 4, 2) := by decide +kernel
theorem d_Rec_encodeValue_94 : decode b_Rec_encodeValue 94 = .ok (.isub, 1) := by decide +kernel
theorem d_Rec_encodeValue_95 : decode b_Rec_encodeValue 95 = .ok (.imul, 1) := by decide +kernel
theorem d_Rec_encodeValue_96 : decode b_Rec_encodeValue 96 = .ok (.lshr, 1) := by decide +kernel
theorem d_Rec_encodeValue_97 : decode b_Rec_encodeValue 97 = .ok (.l2i, 1) := by decide +kernel
theorem d_Rec_encodeValue_98 : decode b_Rec_encodeValue 98 = .ok (.i2b, 1) := by decide +kernel
theorem d_Rec_encodeValue_99 : decode b_Rec_encodeValue 99 = .ok (.bastore, 1) := by decide +kernel
theorem d_Rec_encodeValue_100 : decode b_Rec_encodeValue 100 = .ok (.iinc 4 1, 3) := by decide +kernel
theorem d_Rec_encodeValue_103 : decode b_Rec_encodeValue 103 = .ok (.goto (-39), 3) := by decide +kernel
theorem d_Rec_encodeValue_106 : decode b_Rec_encodeValue 106 = .ok (.aload_n 0, 1) := by decide +kernel
theorem d_Rec_encodeValue_107 : decode b_Rec_encodeValue 107 = .ok (.dup, 1) := by decide +kernel
theorem d_Rec_encodeValue_108 : decode b_Rec_encodeValue 108 = .ok (.getfield 37, 3) := by decide +kernel
theorem d_Rec_encodeValue_111 : decode b_Rec_encodeValue 111 = .ok (.iload_n 3, 1) := by decide +kernel
theorem d_Rec_encodeValue_112 : decode b_Rec_encodeValue 112 = .ok (.iadd, 1) := by decide +kernel
theorem d_Rec_encodeValue_113 : decode b_Rec_encodeValue 113 = .ok (.putfield 37, 3) := by decide +kernel
theorem d_Rec_encodeValue_116 : decode b_Rec_encodeValue 116 = .ok (.return_, 1) := by decide +kernel
noncomputable def q_Rec_encodeValue_106 (v_p1_codes : Nat → Int32) (v_p1_numbers : Nat → Int64) (v_p1_blobs : Nat → Int32) (v_length : Int32) (v_bytes : Nat → Int32) (x_3 : Int32) : Option (Int32 × (Nat → Int32)) :=
  pu_nm (v_length + x_3) (fun t2 => some (t2, v_bytes))
noncomputable def q_Rec_encodeValue_64 (kx_106 : (Nat → Int32) → Option (Int32 × (Nat → Int32))) (v_p1_codes : Nat → Int32) (v_p1_numbers : Nat → Int64) (v_p1_blobs : Nat → Int32) (v_length : Int32) (x_2 : Int32) (x_3 : Int32) : Nat → (Nat → Int32) → Int32 → Option (Int32 × (Nat → Int32))
  | 0, _, _ => none
  | n + 1, v_bytes, x_4 => pu_br (x_3 ≤ x_4) (kx_106 v_bytes) (pu_ck (vp_in x_2 3) (pu_ck (vp_in (v_length + x_4) 307) (pu_nm (upd v_bytes (v_length + x_4).toNatClampNeg (vp_nar .byte ((((v_p1_numbers x_2.toNatClampNeg) >>> (((8 : Int32) * ((x_3 - (1 : Int32)) - x_4)).toInt64 &&& 63)).toInt32).toInt8.toInt32))) (fun a3 => pu_nm (x_4 + (1 : Int32)) (fun t4 => q_Rec_encodeValue_64 kx_106 v_p1_codes v_p1_numbers v_p1_blobs v_length x_2 x_3 n a3 t4)))))
noncomputable def f_Rec_encodeValue (v_p1_codes : Nat → Int32) (v_p1_numbers : Nat → Int64) (v_p1_blobs : Nat → Int32) (v_length : Int32) (v_bytes : Nat → Int32) (x_2 : Int32) : Option (Int32 × (Nat → Int32)) :=
  pu_ck (vp_in x_2 3) (pu_b1 (f_RF_valueSize (v_p1_codes x_2.toNatClampNeg)) (fun r1 => pu_br (r1 < 0) (some (v_length, v_bytes)) (pu_br ((v_length + r1) ≤ (307 : Int32)) (pu_ck (vp_in x_2 3) (pu_br ((v_p1_codes x_2.toNatClampNeg) < (12 : Int32)) (q_Rec_encodeValue_64 (fun v_bytes => q_Rec_encodeValue_106 v_p1_codes v_p1_numbers v_p1_blobs v_length v_bytes r1) v_p1_codes v_p1_numbers v_p1_blobs v_length x_2 r1 pu_fu v_bytes (0 : Int32)) (pu_ck (pu_cp .byte v_p1_blobs (x_2 * (100 : Int32)) v_length r1 300 307) (pu_nm (va_cpy v_p1_blobs v_bytes (x_2 * (100 : Int32)).toNatClampNeg v_length.toNatClampNeg r1.toNatClampNeg) (fun a5 => q_Rec_encodeValue_106 v_p1_codes v_p1_numbers v_p1_blobs v_length a5 r1))))) (some (v_length, v_bytes)))))
abbrev rm_Rec_encodeValue : Room := { frames := 1, cells := 0, slots := 0, locals := 68 }
set_option maxHeartbeats 8000000 in
set_option maxRecDepth 100000 in
theorem c_Rec_encodeValue (l : Launch) (D : va_G) (cI cJ cB cZ : ClassId) (sz : Nat) (q_this : Nat) (q_bytes : Nat) (q_codes : Nat) (q_starts : Nat) (q_p1 : Nat) (q_p1_codes : Nat) (q_p1_numbers : Nat) (q_p1_blobs : Nat) (v_length : Int32) (v_count : Int32) (v_bytes : Nat → Int32) (v_p1_count : Int32) (v_p1_codes : Nat → Int32) (v_p1_numbers : Nat → Int64) (v_p1_blobs : Nat → Int32) (x_2 : Int32) (o_length : Int32) (o_bytes : Nat → Int32) (hf : f_Rec_encodeValue v_p1_codes v_p1_numbers v_p1_blobs v_length v_bytes x_2 = some (o_length, o_bytes)) : Met l y_Rec_encodeValue (.code y_Rec_encodeValue b_Rec_encodeValue 5 none :: pu_wA) rm_Rec_encodeValue (pu_pc D pu_cl (pu_ty cI cJ cB cZ) [.ref q_this, .ref q_p1, .int x_2] [(q_this, .inr (2, [.ref q_bytes, .int v_length, .ref q_codes, .ref q_starts, .int v_count])), (q_bytes, .inl (cB, 307, .inl v_bytes)), (q_p1, .inr (1, [.ref q_p1_codes, .ref q_p1_numbers, .ref q_p1_blobs, .int v_p1_count])), (q_p1_codes, .inl (cI, 3, .inl v_p1_codes)), (q_p1_numbers, .inl (cJ, 3, .inr (.inl v_p1_numbers))), (q_p1_blobs, .inl (cB, 300, .inl v_p1_blobs))] sz) (pu_qv D pu_cl (pu_ty cI cJ cB cZ) [(q_this, .inr (2, [.ref q_bytes, .int v_length, .ref q_codes, .ref q_starts, .int v_count])), (q_bytes, .inl (cB, 307, .inl v_bytes)), (q_p1, .inr (1, [.ref q_p1_codes, .ref q_p1_numbers, .ref q_p1_blobs, .int v_p1_count])), (q_p1_codes, .inl (cI, 3, .inl v_p1_codes)), (q_p1_numbers, .inl (cJ, 3, .inr (.inl v_p1_numbers))), (q_p1_blobs, .inl (cB, 300, .inl v_p1_blobs))] [(q_this, .inr (2, [.ref q_bytes, .int o_length, .ref q_codes, .ref q_starts, .int v_count])), (q_bytes, .inl (cB, 307, .inl o_bytes)), (q_p1, .inr (1, [.ref q_p1_codes, .ref q_p1_numbers, .ref q_p1_blobs, .int v_p1_count])), (q_p1_codes, .inl (cI, 3, .inl v_p1_codes)), (q_p1_numbers, .inl (cJ, 3, .inr (.inl v_p1_numbers))), (q_p1_blobs, .inl (cB, 300, .inl v_p1_blobs))] sz) 0 0 (va_A [(q_this, .inr (2, [.ref q_bytes, .int v_length, .ref q_codes, .ref q_starts, .int v_count])), (q_bytes, .inl (cB, 307, .inl v_bytes)), (q_p1, .inr (1, [.ref q_p1_codes, .ref q_p1_numbers, .ref q_p1_blobs, .int v_p1_count])), (q_p1_codes, .inl (cI, 3, .inl v_p1_codes)), (q_p1_numbers, .inl (cJ, 3, .inr (.inl v_p1_numbers))), (q_p1_blobs, .inl (cB, 300, .inl v_p1_blobs))] sz) := by
  refine pu_mtv [.ref q_this, .ref q_p1, .int x_2] [(q_this, .inr (2, [.ref q_bytes, .int v_length, .ref q_codes, .ref q_starts, .int v_count])), (q_bytes, .inl (cB, 307, .inl v_bytes)), (q_p1, .inr (1, [.ref q_p1_codes, .ref q_p1_numbers, .ref q_p1_blobs, .int v_p1_count])), (q_p1_codes, .inl (cI, 3, .inl v_p1_codes)), (q_p1_numbers, .inl (cJ, 3, .inr (.inl v_p1_numbers))), (q_p1_blobs, .inl (cB, 300, .inl v_p1_blobs))] [(q_this, .inr (2, [.ref q_bytes, .int o_length, .ref q_codes, .ref q_starts, .int v_count])), (q_bytes, .inl (cB, 307, .inl o_bytes)), (q_p1, .inr (1, [.ref q_p1_codes, .ref q_p1_numbers, .ref q_p1_blobs, .int v_p1_count])), (q_p1_codes, .inl (cI, 3, .inl v_p1_codes)), (q_p1_numbers, .inl (cJ, 3, .inr (.inl v_p1_numbers))), (q_p1_blobs, .inl (cB, 300, .inl v_p1_blobs))] (by decide) (Nat.le_of_ble_eq_true rfl) ?_
  intro p e s m args below meth c A Q ls hx hb hml hts hN hown hK hA hP hD hl hret0
  have hS : va_S A s.heap s.heap [] := va_S.rf
  have hl : lv_has ls 5 [(0, .ref q_this), (1, .ref q_p1), (2, .int x_2)] := hl
  have hret : ∀ (pc : Nat) (ls : Array Slot) (H : Heap) (locs : List Loc) (y_0 : Int32) (y_1 : Nat → Int32), decode b_Rec_encodeValue pc = .ok (.return_, 1) → va_P D pu_cl [(q_this, .inr (2, [.ref q_bytes, .int y_0, .ref q_codes, .ref q_starts, .int v_count])), (q_bytes, .inl (cB, 307, .inl y_1)), (q_p1, .inr (1, [.ref q_p1_codes, .ref q_p1_numbers, .ref q_p1_blobs, .int v_p1_count])), (q_p1_codes, .inl (cI, 3, .inl v_p1_codes)), (q_p1_numbers, .inl (cJ, 3, .inr (.inl v_p1_numbers))), (q_p1_blobs, .inl (cB, 300, .inl v_p1_blobs))] H → va_D A [(q_this, .inr (2, [.ref q_bytes, .int y_0, .ref q_codes, .ref q_starts, .int v_count])), (q_bytes, .inl (cB, 307, .inl y_1)), (q_p1, .inr (1, [.ref q_p1_codes, .ref q_p1_numbers, .ref q_p1_blobs, .int v_p1_count])), (q_p1_codes, .inl (cI, 3, .inl v_p1_codes)), (q_p1_numbers, .inl (cJ, 3, .inr (.inl v_p1_numbers))), (q_p1_blobs, .inl (cB, 300, .inl v_p1_blobs))] → va_S A s.heap H locs → some (y_0, y_1) = some (o_length, o_bytes) → W p l e rm_Rec_encodeValue s m args below meth c H locs 0 0 Q (F0 m pc ls []) := by
    intro pc ls H locs y_0 y_1 hd hP hD hS hf
    cases hf
    exact hret0 pc ls H locs hd hP hD hS
  clear hret0
  unfold f_Rec_encodeValue at hf
  skip
  have lb_106 : ∀ (v_length : Int32) (v_bytes : Nat → Int32) (x_3 : Int32) (H : Heap) (locs : List Loc) (ls : Array Slot), va_P D pu_cl [(q_this, .inr (2, [.ref q_bytes, .int v_length, .ref q_codes, .ref q_starts, .int v_count])), (q_bytes, .inl (cB, 307, .inl v_bytes)), (q_p1, .inr (1, [.ref q_p1_codes, .ref q_p1_numbers, .ref q_p1_blobs, .int v_p1_count])), (q_p1_codes, .inl (cI, 3, .inl v_p1_codes)), (q_p1_numbers, .inl (cJ, 3, .inr (.inl v_p1_numbers))), (q_p1_blobs, .inl (cB, 300, .inl v_p1_blobs))] H → va_D A [(q_this, .inr (2, [.ref q_bytes, .int v_length, .ref q_codes, .ref q_starts, .int v_count])), (q_bytes, .inl (cB, 307, .inl v_bytes)), (q_p1, .inr (1, [.ref q_p1_codes, .ref q_p1_numbers, .ref q_p1_blobs, .int v_p1_count])), (q_p1_codes, .inl (cI, 3, .inl v_p1_codes)), (q_p1_numbers, .inl (cJ, 3, .inr (.inl v_p1_numbers))), (q_p1_blobs, .inl (cB, 300, .inl v_p1_blobs))] → va_S A s.heap H locs → lv_has ls 5 [(0, .ref q_this), (3, .int x_3)] → q_Rec_encodeValue_106 v_p1_codes v_p1_numbers v_p1_blobs v_length v_bytes x_3 = some (o_length, o_bytes) → W p l e rm_Rec_encodeValue s m args below meth c H locs 0 0 Q (F0 m 106 ls []) := by
    intro v_length v_bytes x_3 H locs ls hP hD hS hl hf
    rw [q_Rec_encodeValue_106] at hf
    refine lv_aload_n hx hb d_Rec_encodeValue_106 rfl (lv_at hl 0 rfl) ?_
    refine lv_dup hx hb d_Rec_encodeValue_107 rfl ?_
    refine gf_Rec_37 (v := .int v_length) hx hb hts hN hown hK hP 0 rfl rfl d_Rec_encodeValue_108 ?_
    refine lv_iload_n hx hb d_Rec_encodeValue_111 rfl (lv_at hl 1 rfl) ?_
    refine lv_iadd hx hb d_Rec_encodeValue_112 ?_
    obtain ⟨t2, e_t2, hf⟩ := pu_nm_some hf
    refine pu_ti e_t2 ?_
    refine pf_Rec_37 (v := .int t2) hx hb hts hN hown hK hP hD hS 0 rfl rfl rfl (Nat.le_of_ble_eq_true rfl) d_Rec_encodeValue_113 (fun H locs hP hD hS => ?_)
    have hP : va_P D pu_cl [(q_this, .inr (2, [.ref q_bytes, .int t2, .ref q_codes, .ref q_starts, .int v_count])), (q_bytes, .inl (cB, 307, .inl v_bytes)), (q_p1, .inr (1, [.ref q_p1_codes, .ref q_p1_numbers, .ref q_p1_blobs, .int v_p1_count])), (q_p1_codes, .inl (cI, 3, .inl v_p1_codes)), (q_p1_numbers, .inl (cJ, 3, .inr (.inl v_p1_numbers))), (q_p1_blobs, .inl (cB, 300, .inl v_p1_blobs))] H := hP
    have hD : va_D A [(q_this, .inr (2, [.ref q_bytes, .int t2, .ref q_codes, .ref q_starts, .int v_count])), (q_bytes, .inl (cB, 307, .inl v_bytes)), (q_p1, .inr (1, [.ref q_p1_codes, .ref q_p1_numbers, .ref q_p1_blobs, .int v_p1_count])), (q_p1_codes, .inl (cI, 3, .inl v_p1_codes)), (q_p1_numbers, .inl (cJ, 3, .inr (.inl v_p1_numbers))), (q_p1_blobs, .inl (cB, 300, .inl v_p1_blobs))] := hD
    exact hret _ _ _ _ t2 v_bytes d_Rec_encodeValue_116 hP hD hS hf
  have lp_64 : ∀ (v_length : Int32) (x_2 : Int32) (x_3 : Int32) (n64 : Nat) (v_bytes : Nat → Int32) (x_4 : Int32) (H : Heap) (locs : List Loc) (ls : Array Slot), va_P D pu_cl [(q_this, .inr (2, [.ref q_bytes, .int v_length, .ref q_codes, .ref q_starts, .int v_count])), (q_bytes, .inl (cB, 307, .inl v_bytes)), (q_p1, .inr (1, [.ref q_p1_codes, .ref q_p1_numbers, .ref q_p1_blobs, .int v_p1_count])), (q_p1_codes, .inl (cI, 3, .inl v_p1_codes)), (q_p1_numbers, .inl (cJ, 3, .inr (.inl v_p1_numbers))), (q_p1_blobs, .inl (cB, 300, .inl v_p1_blobs))] H → va_D A [(q_this, .inr (2, [.ref q_bytes, .int v_length, .ref q_codes, .ref q_starts, .int v_count])), (q_bytes, .inl (cB, 307, .inl v_bytes)), (q_p1, .inr (1, [.ref q_p1_codes, .ref q_p1_numbers, .ref q_p1_blobs, .int v_p1_count])), (q_p1_codes, .inl (cI, 3, .inl v_p1_codes)), (q_p1_numbers, .inl (cJ, 3, .inr (.inl v_p1_numbers))), (q_p1_blobs, .inl (cB, 300, .inl v_p1_blobs))] → va_S A s.heap H locs → lv_has ls 5 [(0, .ref q_this), (1, .ref q_p1), (2, .int x_2), (3, .int x_3), (4, .int x_4)] → q_Rec_encodeValue_64 (fun v_bytes => q_Rec_encodeValue_106 v_p1_codes v_p1_numbers v_p1_blobs v_length v_bytes x_3) v_p1_codes v_p1_numbers v_p1_blobs v_length x_2 x_3 n64 v_bytes x_4 = some (o_length, o_bytes) → W p l e rm_Rec_encodeValue s m args below meth c H locs 0 0 Q (F0 m 64 ls []) := by
    intro v_length x_2 x_3 n64
    induction n64 with
    | zero =>
      intro v_bytes x_4 H locs ls hP hD hS hl hf
      rw [q_Rec_encodeValue_64] at hf
      cases hf
    | succ n64 ih_64 =>
      intro v_bytes x_4 H locs ls hP hD hS hl hf
      rw [q_Rec_encodeValue_64] at hf
      refine lv_iload hx hb d_Rec_encodeValue_64 (lv_at hl 4 rfl) ?_
      refine lv_iload_n hx hb d_Rec_encodeValue_66 rfl (lv_at hl 3 rfl) ?_
      refine lv_icmp_ge (tgt := 106) hx hb d_Rec_encodeValue_67 rfl (fun hc => ?_) (fun hc => ?_)
      · have hf := pu_br_pos hf hc
        exact lb_106 v_length v_bytes x_3 H locs ls hP hD hS (lv_sub hl [0, 3] rfl) hf
      have hf := pu_br_neg hf hc
      refine lv_aload_n hx hb d_Rec_encodeValue_70 rfl (lv_at hl 0 rfl) ?_
      refine gf_Rec_9 (v := .ref q_bytes) hx hb hts hN hown hK hP 0 rfl rfl d_Rec_encodeValue_71 ?_
      refine lv_aload_n hx hb d_Rec_encodeValue_74 rfl (lv_at hl 0 rfl) ?_
      refine gf_Rec_37 (v := .int v_length) hx hb hts hN hown hK hP 0 rfl rfl d_Rec_encodeValue_75 ?_
      refine lv_iload hx hb d_Rec_encodeValue_78 (lv_at hl 4 rfl) ?_
      refine lv_iadd hx hb d_Rec_encodeValue_80 ?_
      refine lv_aload_n hx hb d_Rec_encodeValue_81 rfl (lv_at hl 1 rfl) ?_
      refine gf_Rec_56 (v := .ref q_p1_numbers) hx hb hts hN hown hK hP 2 rfl rfl d_Rec_encodeValue_82 ?_
      refine lv_iload_n hx hb d_Rec_encodeValue_85 rfl (lv_at hl 2 rfl) ?_
      obtain ⟨hin, hf⟩ := pu_ck_some hf
      refine va_lald hx hb hK hP 4 1 rfl rfl hin d_Rec_encodeValue_86 ?_
      refine lv_bipush (v := 8) hx hb d_Rec_encodeValue_87 rfl ?_
      refine lv_iload_n hx hb d_Rec_encodeValue_89 rfl (lv_at hl 3 rfl) ?_
      refine lv_iconst (v := 1) hx hb d_Rec_encodeValue_90 rfl ?_
      refine lv_isub hx hb d_Rec_encodeValue_91 ?_
      refine lv_iload hx hb d_Rec_encodeValue_92 (lv_at hl 4 rfl) ?_
      refine lv_isub hx hb d_Rec_encodeValue_94 ?_
      refine lv_imul hx hb d_Rec_encodeValue_95 ?_
      refine lv_lshr hx hb d_Rec_encodeValue_96 rfl ?_
      refine lv_l2i hx hb d_Rec_encodeValue_97 rfl ?_
      refine lv_i2b hx hb d_Rec_encodeValue_98 rfl ?_
      obtain ⟨hin, hf⟩ := pu_ck_some hf
      obtain ⟨a3, e_a3, hf⟩ := pu_nm_some hf
      refine va_bast hx hb hK hP hD hS 1 2 rfl rfl hin d_Rec_encodeValue_99 (fun H locs hP hD hS => ?_)
      have hP : va_P D pu_cl [(q_this, .inr (2, [.ref q_bytes, .int v_length, .ref q_codes, .ref q_starts, .int v_count])), (q_bytes, .inl (cB, 307, .inl a3)), (q_p1, .inr (1, [.ref q_p1_codes, .ref q_p1_numbers, .ref q_p1_blobs, .int v_p1_count])), (q_p1_codes, .inl (cI, 3, .inl v_p1_codes)), (q_p1_numbers, .inl (cJ, 3, .inr (.inl v_p1_numbers))), (q_p1_blobs, .inl (cB, 300, .inl v_p1_blobs))] H := by rw [e_a3]; exact hP
      have hD : va_D A [(q_this, .inr (2, [.ref q_bytes, .int v_length, .ref q_codes, .ref q_starts, .int v_count])), (q_bytes, .inl (cB, 307, .inl a3)), (q_p1, .inr (1, [.ref q_p1_codes, .ref q_p1_numbers, .ref q_p1_blobs, .int v_p1_count])), (q_p1_codes, .inl (cI, 3, .inl v_p1_codes)), (q_p1_numbers, .inl (cJ, 3, .inr (.inl v_p1_numbers))), (q_p1_blobs, .inl (cB, 300, .inl v_p1_blobs))] := by rw [e_a3]; exact hD
      obtain ⟨t4, e_t4, hf⟩ := pu_nm_some hf
      refine lv_iinc (k := 4) (v := t4) hx hb d_Rec_encodeValue_100 hl rfl e_t4.symm (by decide) rfl (fun ls hl => ?_)
      have hl : lv_has ls 5 [(4, .int t4), (0, .ref q_this), (1, .ref q_p1), (2, .int x_2), (3, .int x_3)] := hl
      refine lv_goto (tgt := 64) hx hb d_Rec_encodeValue_103 rfl ?_
      exact ih_64 a3 t4 H locs ls hP hD hS (lv_sub hl [1, 2, 3, 4, 0] rfl) hf
  obtain ⟨H, hH⟩ : ∃ H, H = s.heap := ⟨_, rfl⟩
  obtain ⟨locs, hlocs⟩ : ∃ locs : List Loc, locs = [] := ⟨_, rfl⟩
  have hP : va_P D pu_cl [(q_this, .inr (2, [.ref q_bytes, .int v_length, .ref q_codes, .ref q_starts, .int v_count])), (q_bytes, .inl (cB, 307, .inl v_bytes)), (q_p1, .inr (1, [.ref q_p1_codes, .ref q_p1_numbers, .ref q_p1_blobs, .int v_p1_count])), (q_p1_codes, .inl (cI, 3, .inl v_p1_codes)), (q_p1_numbers, .inl (cJ, 3, .inr (.inl v_p1_numbers))), (q_p1_blobs, .inl (cB, 300, .inl v_p1_blobs))] H := by rw [hH]; exact hP
  have hS : va_S A s.heap H locs := by rw [hH, hlocs]; exact hS
  have goal : W p l e rm_Rec_encodeValue s m args below meth c H locs 0 0 Q (F0 m 0 ls []) := by
    clear hH hlocs
    refine lv_aload_n hx hb d_Rec_encodeValue_0 rfl (lv_at hl 1 rfl) ?_
    refine gf_Rec_28 (v := .ref q_p1_codes) hx hb hts hN hown hK hP 2 rfl rfl d_Rec_encodeValue_1 ?_
    refine lv_iload_n hx hb d_Rec_encodeValue_4 rfl (lv_at hl 2 rfl) ?_
    obtain ⟨hin, hf⟩ := pu_ck_some hf
    refine va_iald hx hb hK hP 3 0 rfl rfl hin d_Rec_encodeValue_5 ?_
    obtain ⟨r1, hc, hf⟩ := pu_b1_some hf
    refine cl_i (WC := []) (WC2 := []) (WR := [(q_this, .inr (2, [.ref q_bytes, .int v_length, .ref q_codes, .ref q_starts, .int v_count])), (q_bytes, .inl (cB, 307, .inl v_bytes)), (q_p1, .inr (1, [.ref q_p1_codes, .ref q_p1_numbers, .ref q_p1_blobs, .int v_p1_count])), (q_p1_codes, .inl (cI, 3, .inl v_p1_codes)), (q_p1_numbers, .inl (cJ, 3, .inr (.inl v_p1_numbers))), (q_p1_blobs, .inl (cB, 300, .inl v_p1_blobs))]) (WS2 := [(q_this, .inr (2, [.ref q_bytes, .int v_length, .ref q_codes, .ref q_starts, .int v_count])), (q_bytes, .inl (cB, 307, .inl v_bytes)), (q_p1, .inr (1, [.ref q_p1_codes, .ref q_p1_numbers, .ref q_p1_blobs, .int v_p1_count])), (q_p1_codes, .inl (cI, 3, .inl v_p1_codes)), (q_p1_numbers, .inl (cJ, 3, .inr (.inl v_p1_numbers))), (q_p1_blobs, .inl (cB, 300, .inl v_p1_blobs))]) (pu_rsn (List.mem_of_getElem? (i := 35) rfl) (pu_in3 _ (List.mem_of_getElem? (i := 18) rfl)) (pu_in0 _ (List.mem_of_getElem? (i := 1) rfl)) (pu_in3 _ (List.mem_of_getElem? (i := 19) rfl)) hd_RF_valueSize (by decide) ⟨rfl, rfl⟩ rfl rfl (Nat.le_of_ble_eq_true rfl) (As := [.int (v_p1_codes x_2.toNatClampNeg)]) (rest := []) (WC := []) hx hb hml hown hts hN hK hP hD (c_RF_valueSize l D cI cJ cB cZ H.size (v_p1_codes x_2.toNatClampNeg) r1 hc) [] rfl rfl hl.1 d_Rec_encodeValue_6) hP hD hS hA [] [0, 1, 2, 3, 4, 5] [0, 1, 2, 3, 4, 5] rfl rfl rfl (by decide) rfl rfl (fun H locs hP hD hS => ?_)
    refine lv_istore_n hx hb d_Rec_encodeValue_9 rfl hl (by decide) rfl (fun ls hl => ?_)
    have hl : lv_has ls 5 [(3, .int r1), (0, .ref q_this), (1, .ref q_p1), (2, .int x_2)] := hl
    refine lv_iload_n hx hb d_Rec_encodeValue_10 rfl (lv_at hl 0 rfl) ?_
    refine lv_if_lt (tgt := 26) hx hb d_Rec_encodeValue_11 rfl (fun hc => ?_) (fun hc => ?_)
    · have hf := pu_br_pos hf hc
      exact hret _ _ _ _ v_length v_bytes d_Rec_encodeValue_26 hP hD hS hf
    have hf := pu_br_neg hf hc
    refine lv_aload_n hx hb d_Rec_encodeValue_14 rfl (lv_at hl 1 rfl) ?_
    refine gf_Rec_37 (v := .int v_length) hx hb hts hN hown hK hP 0 rfl rfl d_Rec_encodeValue_15 ?_
    refine lv_iload_n hx hb d_Rec_encodeValue_18 rfl (lv_at hl 0 rfl) ?_
    refine lv_iadd hx hb d_Rec_encodeValue_19 ?_
    refine lv_sipush (v := 307) hx hb d_Rec_encodeValue_20 rfl ?_
    refine lv_icmp_le (tgt := 27) hx hb d_Rec_encodeValue_23 rfl (fun hc => ?_) (fun hc => ?_)
    · have hf := pu_br_pos hf hc
      refine lv_aload_n hx hb d_Rec_encodeValue_27 rfl (lv_at hl 2 rfl) ?_
      refine gf_Rec_28 (v := .ref q_p1_codes) hx hb hts hN hown hK hP 2 rfl rfl d_Rec_encodeValue_28 ?_
      refine lv_iload_n hx hb d_Rec_encodeValue_31 rfl (lv_at hl 3 rfl) ?_
      obtain ⟨hin, hf⟩ := pu_ck_some hf
      refine va_iald hx hb hK hP 3 0 rfl rfl hin d_Rec_encodeValue_32 ?_
      refine lv_bipush (v := 12) hx hb d_Rec_encodeValue_33 rfl ?_
      refine lv_icmp_lt (tgt := 61) hx hb d_Rec_encodeValue_35 rfl (fun hc => ?_) (fun hc => ?_)
      · have hf := pu_br_pos hf hc
        refine lv_iconst (v := 0) hx hb d_Rec_encodeValue_61 rfl ?_
        refine lv_istore hx hb d_Rec_encodeValue_62 hl (by decide) rfl (fun ls hl => ?_)
        have hl : lv_has ls 5 [(4, .int (0 : Int32)), (3, .int r1), (0, .ref q_this), (1, .ref q_p1), (2, .int x_2)] := hl
        exact lp_64 v_length x_2 r1 _ v_bytes (0 : Int32) H locs ls hP hD hS (lv_sub hl [2, 3, 4, 1, 0] rfl) hf
      have hf := pu_br_neg hf hc
      refine lv_aload_n hx hb d_Rec_encodeValue_38 rfl (lv_at hl 2 rfl) ?_
      refine gf_Rec_47 (v := .ref q_p1_blobs) hx hb hts hN hown hK hP 2 rfl rfl d_Rec_encodeValue_39 ?_
      refine lv_iload_n hx hb d_Rec_encodeValue_42 rfl (lv_at hl 3 rfl) ?_
      refine lv_bipush (v := 100) hx hb d_Rec_encodeValue_43 rfl ?_
      refine lv_imul hx hb d_Rec_encodeValue_45 ?_
      refine lv_aload_n hx hb d_Rec_encodeValue_46 rfl (lv_at hl 1 rfl) ?_
      refine gf_Rec_9 (v := .ref q_bytes) hx hb hts hN hown hK hP 0 rfl rfl d_Rec_encodeValue_47 ?_
      refine lv_aload_n hx hb d_Rec_encodeValue_50 rfl (lv_at hl 1 rfl) ?_
      refine gf_Rec_37 (v := .int v_length) hx hb hts hN hown hK hP 0 rfl rfl d_Rec_encodeValue_51 ?_
      refine lv_iload_n hx hb d_Rec_encodeValue_54 rfl (lv_at hl 0 rfl) ?_
      obtain ⟨hcp, hf⟩ := pu_ck_some hf
      obtain ⟨a5, e_a5, hf⟩ := pu_nm_some hf
      refine va_copyi hx hb (hml.trans hl.1.symm) hown (hts _ (pu_in4 _ (List.mem_of_getElem? (i := 19) rfl))) (hts _ (pu_in2 _ (List.mem_of_getElem? (i := 39) rfl))) (hts _ (pu_in2 _ (List.mem_of_getElem? (i := 38) rfl))) (hts _ (pu_in0 _ (List.mem_of_getElem? (i := 9) rfl))) hK hP hD hS 5 1 2 2 (ty := .byte) rfl rfl rfl rfl rfl hcp.1 hcp.2.1 hcp.2.2.1 hcp.2.2.2.1 hcp.2.2.2.2.1 hcp.2.2.2.2.2 (Nat.le_of_ble_eq_true rfl) (Nat.le_of_ble_eq_true rfl) d_Rec_encodeValue_55 (fun H locs hP hD hS => ?_)
      have hP : va_P D pu_cl [(q_this, .inr (2, [.ref q_bytes, .int v_length, .ref q_codes, .ref q_starts, .int v_count])), (q_bytes, .inl (cB, 307, .inl a5)), (q_p1, .inr (1, [.ref q_p1_codes, .ref q_p1_numbers, .ref q_p1_blobs, .int v_p1_count])), (q_p1_codes, .inl (cI, 3, .inl v_p1_codes)), (q_p1_numbers, .inl (cJ, 3, .inr (.inl v_p1_numbers))), (q_p1_blobs, .inl (cB, 300, .inl v_p1_blobs))] H := by rw [e_a5]; exact hP
      have hD : va_D A [(q_this, .inr (2, [.ref q_bytes, .int v_length, .ref q_codes, .ref q_starts, .int v_count])), (q_bytes, .inl (cB, 307, .inl a5)), (q_p1, .inr (1, [.ref q_p1_codes, .ref q_p1_numbers, .ref q_p1_blobs, .int v_p1_count])), (q_p1_codes, .inl (cI, 3, .inl v_p1_codes)), (q_p1_numbers, .inl (cJ, 3, .inr (.inl v_p1_numbers))), (q_p1_blobs, .inl (cB, 300, .inl v_p1_blobs))] := by rw [e_a5]; exact hD
      refine lv_goto (tgt := 106) hx hb d_Rec_encodeValue_58 rfl ?_
      exact lb_106 v_length a5 r1 H locs ls hP hD hS (lv_sub hl [1, 0] rfl) hf
    have hf := pu_br_neg hf hc
    exact hret _ _ _ _ v_length v_bytes d_Rec_encodeValue_26 hP hD hS hf
  rw [hH, hlocs] at goal
  exact goal
