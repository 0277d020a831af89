section RFP
variable {WF : (Nat → Nat) → Prop}
theorem rf_bm8 (a : Int) : a = (a.bmod (2 ^ 32)).bmod (2 ^ 8) ↔ -128 ≤ a ∧ a ≤ 127 := by
  simp only [Int.bmod]
  constructor
  · intro h; split at h <;> split at h <;> omega
  · intro h; split <;> split <;> omega
theorem rf_bm16 (a : Int) : a = (a.bmod (2 ^ 32)).bmod (2 ^ 16) ↔ -32768 ≤ a ∧ a ≤ 32767 := by
  simp only [Int.bmod]
  constructor
  · intro h; split at h <;> split at h <;> omega
  · intro h; split <;> split <;> omega
theorem rf_bm32 (a : Int) : a = a.bmod (2 ^ 32) ↔ -2147483648 ≤ a ∧ a ≤ 2147483647 := by
  simp only [Int.bmod]
  constructor
  · intro h; split at h <;> omega
  · intro h; split <;> omega
theorem rf_rg8 (v : Int64) : v = v.toInt32.toInt8.toInt32.toInt64 ↔ -128 ≤ v ∧ v ≤ 127 := by
  rw [← Int64.toInt_inj, Int32.toInt_toInt64, Int8.toInt_toInt32, Int32.toInt_toInt8, Int64.toInt_toInt32, rf_bm8, Int64.le_iff_toInt_le, Int64.le_iff_toInt_le]
  rfl
theorem rf_rg16 (v : Int64) : v = v.toInt32.toInt16.toInt32.toInt64 ↔ -32768 ≤ v ∧ v ≤ 32767 := by
  rw [← Int64.toInt_inj, Int32.toInt_toInt64, Int16.toInt_toInt32, Int32.toInt_toInt16, Int64.toInt_toInt32, rf_bm16, Int64.le_iff_toInt_le, Int64.le_iff_toInt_le]
  rfl
theorem rf_rg32 (v : Int64) : v = v.toInt32.toInt64 ↔ -2147483648 ≤ v ∧ v ≤ 2147483647 := by
  rw [← Int64.toInt_inj, Int32.toInt_toInt64, Int64.toInt_toInt32, rf_bm32, Int64.le_iff_toInt_le, Int64.le_iff_toInt_le]
  rfl
theorem rf_codeOf (v : Int64) : f_RF_codeOf v = some (nI (rf_cd v)) := by
  unfold f_RF_codeOf rf_cd
  by_cases h0 : v = 0
  · subst h0; rw [pu_br_t ((lg_cmp_eq _ _).mpr rfl), if_pos rfl]; decide
  by_cases h1 : v = 1
  · subst h1; rw [pu_br_f (fun h => h0 ((lg_cmp_eq _ _).mp h)), pu_br_t ((lg_cmp_eq _ _).mpr rfl), if_neg h0, if_pos rfl]; decide
  rw [pu_br_f (fun h => h0 ((lg_cmp_eq _ _).mp h)), pu_br_f (fun h => h1 ((lg_cmp_eq _ _).mp h)), if_neg h0, if_neg h1]
  by_cases h2 : -128 ≤ v ∧ v ≤ 127
  · rw [pu_br_t ((lg_cmp_eq _ _).mpr ((rf_rg8 v).mpr h2)), if_pos h2]; rfl
  rw [pu_br_f (fun h => h2 ((rf_rg8 v).mp ((lg_cmp_eq _ _).mp h))), if_neg h2]
  by_cases h3 : -32768 ≤ v ∧ v ≤ 32767
  · rw [pu_br_t ((lg_cmp_eq _ _).mpr ((rf_rg16 v).mpr h3)), if_pos h3]; rfl
  rw [pu_br_f (fun h => h3 ((rf_rg16 v).mp ((lg_cmp_eq _ _).mp h))), if_neg h3]
  by_cases h4 : -2147483648 ≤ v ∧ v ≤ 2147483647
  · rw [pu_br_t ((lg_cmp_eq _ _).mpr ((rf_rg32 v).mpr h4)), if_pos h4]; rfl
  · rw [pu_br_f (fun h => h4 ((rf_rg32 v).mp ((lg_cmp_eq _ _).mp h))), if_neg h4]; rfl
theorem rf_mcodeOf (v : Int64) : f_MD_codeOf v = some (nI (rf_cd v)) := by
  unfold f_MD_codeOf rf_cd
  by_cases h0 : v = 0
  · subst h0; rw [pu_br_t ((lg_cmp_eq _ _).mpr rfl), if_pos rfl]; rfl
  by_cases h1 : v = 1
  · subst h1; rw [pu_br_f (fun h => h0 ((lg_cmp_eq _ _).mp h)), pu_br_t ((lg_cmp_eq _ _).mpr rfl), if_neg h0, if_pos rfl]; rfl
  rw [pu_br_f (fun h => h0 ((lg_cmp_eq _ _).mp h)), pu_br_f (fun h => h1 ((lg_cmp_eq _ _).mp h)), if_neg h0, if_neg h1]
  have e4 : q_MD_codeOf_58 v = some (nI (if -2147483648 ≤ v ∧ v ≤ 2147483647 then 4 else 6)) := by
    unfold q_MD_codeOf_58
    by_cases g1 : v < -2147483648
    · rw [pu_br_t ((lg_cmp_lt _ _).mpr g1), if_neg (fun h => absurd g1 (Int64.not_lt.mpr h.1))]; rfl
    rw [pu_br_f (fun h => g1 ((lg_cmp_lt _ _).mp h))]
    by_cases g2 : 2147483647 < v
    · rw [pu_br_t ((lg_cmp_gt _ _).mpr g2), if_neg (fun h => absurd g2 (Int64.not_lt.mpr h.2))]; rfl
    · rw [pu_br_f (fun h => g2 ((lg_cmp_gt _ _).mp h)), if_pos ⟨Int64.not_lt.mp g1, Int64.not_lt.mp g2⟩]; rfl
  have e3 : q_MD_codeOf_38 v = some (nI (if -32768 ≤ v ∧ v ≤ 32767 then 2 else if -2147483648 ≤ v ∧ v ≤ 2147483647 then 4 else 6)) := by
    unfold q_MD_codeOf_38
    by_cases g1 : v < -32768
    · rw [pu_br_t ((lg_cmp_lt _ _).mpr g1), if_neg (fun h => absurd g1 (Int64.not_lt.mpr h.1)), e4]
    rw [pu_br_f (fun h => g1 ((lg_cmp_lt _ _).mp h))]
    by_cases g2 : 32767 < v
    · rw [pu_br_t ((lg_cmp_gt _ _).mpr g2), if_neg (fun h => absurd g2 (Int64.not_lt.mpr h.2)), e4]
    · rw [pu_br_f (fun h => g2 ((lg_cmp_gt _ _).mp h)), if_pos ⟨Int64.not_lt.mp g1, Int64.not_lt.mp g2⟩]; rfl
  by_cases g1 : v < -128
  · rw [pu_br_t ((lg_cmp_lt _ _).mpr g1), if_neg (fun h => absurd g1 (Int64.not_lt.mpr h.1)), e3]
  rw [pu_br_f (fun h => g1 ((lg_cmp_lt _ _).mp h))]
  by_cases g2 : 127 < v
  · rw [pu_br_t ((lg_cmp_gt _ _).mpr g2), if_neg (fun h => absurd g2 (Int64.not_lt.mpr h.2)), e3]
  · rw [pu_br_f (fun h => g2 ((lg_cmp_gt _ _).mp h)), if_pos ⟨Int64.not_lt.mp g1, Int64.not_lt.mp g2⟩]; rfl
theorem opp_number  : op_number (in_v WF) := by
  intro v_x_up v_x_armed v_x_draft_count v_x_draft_codes v_x_draft_numbers v_x_draft_blobs v_x_now_count v_x_now_bytes v_x_before_count v_x_before_bytes v_x_disk_headThere v_x_disk_headPages v_x_disk_headRecords v_x_disk_file_count v_x_disk_file_bytes v_x_disk_records_count v_x_disk_records_bytes v_x_disk_recorded v_x_disk_different v_x_row_length v_x_row_count v_x_row_bytes v_x_row_codes v_x_row_starts v_x_node_count v_x_node_last v_x_node_leaf v_x_node_bytes v_x_node_starts v_x_node_sizes v_x_tree_depth v_x_tree_slot v_x_tree_cellSize v_x_tree_path v_x_tree_slots v_x_tree_cell v_x_tree_waiting v_x_tree_leaves v_x_check_treeSize v_x_check_reached v_x_check_treePages v_x_check_lows v_x_check_highs v_m_onDisk v_m_head v_m_headPages v_m_records v_m_up v_m_armed v_m_columns v_m_length v_m_kind v_m_cells v_m_last v_m_made v_m_deep v_m_at v_m_bad v_m_now v_m_disk v_m_before v_m_recordPage v_m_recordBytes v_m_isBlob v_m_integer v_m_size v_m_blobs v_m_record v_m_cellLength v_m_row v_m_cell v_m_way v_m_turn v_m_used a_1 hI
  obtain ⟨⟨k, hk, rfl, rfl, hc⟩, hua, hdk⟩ := hI
  by_cases h3 : k = 3
  · subst h3
    refine ⟨0, nI 3, v_x_draft_codes, v_x_draft_numbers, ?_, nI 3, v_m_isBlob, v_m_integer, ?_, ⟨3, by omega, rfl, rfl, hc⟩, hua, hdk⟩
    · rw [f_RF_number, f_Draft_addNumber, pu_br_f (by decide)]
      show pu_ck (pu_bz 0) _ = _
      rw [pu_ck_t pu_bz0]
    · rw [f_MD_number, pu_br_t (by decide)]
  · have hin : vp_in (nI k) 3 := vp_in_nI (by omega) (by decide)
    have e1 : (nI k).toNatClampNeg = k := nI_clamp (by omega)
    refine ⟨1, nI (k + 1), upd v_x_draft_codes k (nI (rf_cd a_1)), vp_updL v_x_draft_numbers k a_1, ?_, nI (k + 1), upd v_m_isBlob k 0, vp_updL v_m_integer k a_1, ?_, ⟨k + 1, by omega, rfl, rfl, ?_⟩, hua, hdk⟩
    · simp (disch := omega) only [f_RF_number, f_Draft_addNumber, rf_codeOf, rf_lit, nI_add, pk_mul, pk_sub, nI_ltI, nI_leI, nI_eq, rf_in, nI_clamp, pu_br_t, pu_br_f, pu_ck_t, pu_brT, pu_brF, pu_ckT, pu_nm, pu_b0_s, pu_b1_s, pu_b2_s, pu_b3_s, pu_b4_s, pu_b5_s, pu_b6_s, pu_b7_s, pu_b8_s, pu_b9_s, pu_b10_s, pu_b11_s, pu_b12_s, pu_b13_s, pu_b14_s, pu_b15_s, pu_b16_s, pu_b17_s, pu_b18_s, pu_b19_s, pu_b20_s, pu_b21_s, pu_b22_s, pu_b23_s, pu_b24_s, pu_b25_s]
      rw [pu_ck_t (show pu_bz (nI 1) from pu_bz1)]
    · simp (disch := omega) only [f_MD_number, rf_lit, nI_add, pk_mul, pk_sub, nI_ltI, nI_leI, nI_eq, rf_in, nI_clamp, pu_br_t, pu_br_f, pu_ck_t, pu_brT, pu_brF, pu_ckT, pu_nm, pu_b0_s, pu_b1_s, pu_b2_s, pu_b3_s, pu_b4_s, pu_b5_s, pu_b6_s, pu_b7_s, pu_b8_s, pu_b9_s, pu_b10_s, pu_b11_s, pu_b12_s, pu_b13_s, pu_b14_s, pu_b15_s, pu_b16_s, pu_b17_s, pu_b18_s, pu_b19_s, pu_b20_s, pu_b21_s, pu_b22_s, pu_b23_s, pu_b24_s, pu_b25_s]
      rfl
    · intro j hj
      by_cases e : j = k
      · subst e
        exact Or.inl ⟨pk_us, by rw [pk_us, pk_uLs], by rw [pk_uLs, pk_uLs]⟩
      · rcases hc j (by omega) with ⟨c1, c2, c3⟩ | ⟨c1, z, c2, c3, c4, c5⟩
        · exact Or.inl ⟨by rw [pk_un e]; exact c1, by rw [pk_un e, pk_uLn e]; exact c2, by rw [pk_uLn e, pk_uLn e]; exact c3⟩
        · exact Or.inr ⟨by rw [pk_un e]; exact c1, z, c2, c3, by rw [pk_un e]; exact c4, c5⟩
/-- a place in a page: both ways of counting -/
theorem rf_ix {p a : Nat} (hp : 1 ≤ p) : ((nI p - (1 : Int32)) * (64 : Int32)) + nI a = nI (64 * (p - 1) + a) := by
  have e1 : nI p - (1 : Int32) = nI (p - 1) := pk_sub (a := p) (b := 1) hp
  have e2 : nI (p - 1) * (64 : Int32) = nI ((p - 1) * 64) := pk_mul (p - 1) 64
  rw [e1, e2, nI_add, Nat.mul_comm]
theorem rf_mx {p a : Nat} : ((64 : Int32) * nI p) + nI a = nI (64 * p + a) := by
  have e2 : (64 : Int32) * nI p = nI (64 * p) := pk_mul 64 p
  rw [e2, nI_add]
/-- has: in range, or 0 -/
theorem rf_has (c : Nat) (hc : c ≤ 24) (x y : Int32) : (f_Pages_has (nI c) x y = some 1 ∧ ∃ p a : Nat, x = nI p ∧ y = nI a ∧ 1 ≤ p ∧ p ≤ c ∧ a < 64) ∨ (f_Pages_has (nI c) x y = some 0 ∧ (x < 1 ∨ nI c < x ∨ y < 0 ∨ 64 ≤ y)) := by
  unfold f_Pages_has
  by_cases h1 : x < 1
  · exact Or.inr ⟨by rw [pu_br_t h1], Or.inl h1⟩
  rw [pu_br_f h1]
  by_cases h2 : nI c < x
  · exact Or.inr ⟨by rw [pu_br_t h2], Or.inr (Or.inl h2)⟩
  rw [pu_br_f h2]
  by_cases h3 : y < 0
  · exact Or.inr ⟨by rw [pu_br_t h3], Or.inr (Or.inr (Or.inl h3))⟩
  rw [pu_br_f h3]
  by_cases h4 : 64 ≤ y
  · exact Or.inr ⟨by rw [pu_br_t h4], Or.inr (Or.inr (Or.inr h4))⟩
  rw [pu_br_f h4]
  have h1' : ¬ x < 0 := fun h => h1 (by
    have := Int32.lt_iff_toInt_lt.mp h
    exact Int32.lt_iff_toInt_lt.mpr (by have e : (1 : Int32).toInt = 1 := by decide
                                        have e0 : (0 : Int32).toInt = 0 := by decide
                                        omega))
  obtain ⟨p, hp, rfl⟩ := nI_of2 (M := nI c) (n := c) (nI_toInt (by omega)) h1' (Int32.not_lt.mp h2)
  obtain ⟨a, ha, rfl⟩ := nI_of h3
  refine Or.inl ⟨rfl, p, a, rfl, rfl, ?_, hp, ?_⟩
  · by_cases e : p = 0
    · subst e; exact absurd (by decide) h1
    · omega
  · by_cases e : a < 64
    · exact e
    · exact absurd (nI_le (a := 64) (b := a) (by omega) ha) h4
theorem rf_has_in {c p a : Nat} (hc : c ≤ 24) (hp : 1 ≤ p) (hpc : p ≤ c) (ha : a < 64) : f_Pages_has (nI c) (nI p) (nI a) = some 1 := by
  simp (disch := omega) only [f_Pages_has, rf_lit, nI_add, pk_mul, pk_sub, nI_ltI, nI_leI, nI_eq, rf_in, nI_clamp, pu_br_t, pu_br_f, pu_ck_t, pu_brT, pu_brF, pu_ckT, pu_nm, pu_b0_s, pu_b1_s, pu_b2_s, pu_b3_s, pu_b4_s, pu_b5_s, pu_b6_s, pu_b7_s, pu_b8_s, pu_b9_s, pu_b10_s, pu_b11_s, pu_b12_s, pu_b13_s, pu_b14_s, pu_b15_s, pu_b16_s, pu_b17_s, pu_b18_s, pu_b19_s, pu_b20_s, pu_b21_s, pu_b22_s, pu_b23_s, pu_b24_s, pu_b25_s]
theorem rf_has_out {c p a : Nat} (hc : c ≤ 24) (hpb : p < 2 ^ 30) (hab : a < 2 ^ 30) (h : ¬ (1 ≤ p ∧ p ≤ c ∧ a < 64)) : f_Pages_has (nI c) (nI p) (nI a) = some 0 := by
  by_cases h1 : p < 1
  · simp (disch := omega) only [f_Pages_has, rf_lit, nI_add, pk_mul, pk_sub, nI_ltI, nI_leI, nI_eq, rf_in, nI_clamp, pu_br_t, pu_br_f, pu_ck_t, pu_brT, pu_brF, pu_ckT, pu_nm, pu_b0_s, pu_b1_s, pu_b2_s, pu_b3_s, pu_b4_s, pu_b5_s, pu_b6_s, pu_b7_s, pu_b8_s, pu_b9_s, pu_b10_s, pu_b11_s, pu_b12_s, pu_b13_s, pu_b14_s, pu_b15_s, pu_b16_s, pu_b17_s, pu_b18_s, pu_b19_s, pu_b20_s, pu_b21_s, pu_b22_s, pu_b23_s, pu_b24_s, pu_b25_s]
  by_cases h2 : c < p
  · simp (disch := omega) only [f_Pages_has, rf_lit, nI_add, pk_mul, pk_sub, nI_ltI, nI_leI, nI_eq, rf_in, nI_clamp, pu_br_t, pu_br_f, pu_ck_t, pu_brT, pu_brF, pu_ckT, pu_nm, pu_b0_s, pu_b1_s, pu_b2_s, pu_b3_s, pu_b4_s, pu_b5_s, pu_b6_s, pu_b7_s, pu_b8_s, pu_b9_s, pu_b10_s, pu_b11_s, pu_b12_s, pu_b13_s, pu_b14_s, pu_b15_s, pu_b16_s, pu_b17_s, pu_b18_s, pu_b19_s, pu_b20_s, pu_b21_s, pu_b22_s, pu_b23_s, pu_b24_s, pu_b25_s]
  · simp (disch := omega) only [f_Pages_has, rf_lit, nI_add, pk_mul, pk_sub, nI_ltI, nI_leI, nI_eq, rf_in, nI_clamp, pu_br_t, pu_br_f, pu_ck_t, pu_brT, pu_brF, pu_ckT, pu_nm, pu_b0_s, pu_b1_s, pu_b2_s, pu_b3_s, pu_b4_s, pu_b5_s, pu_b6_s, pu_b7_s, pu_b8_s, pu_b9_s, pu_b10_s, pu_b11_s, pu_b12_s, pu_b13_s, pu_b14_s, pu_b15_s, pu_b16_s, pu_b17_s, pu_b18_s, pu_b19_s, pu_b20_s, pu_b21_s, pu_b22_s, pu_b23_s, pu_b24_s, pu_b25_s]
/-- a byte of a file: 0 where there is none -/
def rf_gb (d : Nat → Nat) (c p a : Nat) : Nat := if 1 ≤ p ∧ p ≤ c ∧ a < 64 then d (64 * p + a) else 0
theorem rf_gb_lt {d : Nat → Nat} (h : rf_bt d) (c p a : Nat) : rf_gb d c p a < 256 := by
  unfold rf_gb; split
  · exact h _
  · omega
theorem rf_get {b : Nat → Int32} {d : Nat → Nat} (hbt : rf_bt d) (hb : rf_pg b d) {c p a : Nat} (hc : c ≤ 24) (hpb : p < 2 ^ 30) (hab : a < 2 ^ 30) : f_Pages_get (nI c) b (nI p) (nI a) = some (nI (rf_gb d c p a)) := by
  unfold f_Pages_get rf_gb
  by_cases h : 1 ≤ p ∧ p ≤ c ∧ a < 64
  · rw [rf_has_in hc h.1 h.2.1 h.2.2, if_pos h]
    show pu_br ((1 : Int32) = 0) _ _ = _
    rw [pu_br_f (by decide), rf_ix h.1, pu_ck_t (vp_in_nI (by omega) (by decide)), nI_clamp (by omega), hb _ (by omega)]
    have e : 64 * (p - 1) + a + 64 = 64 * p + a := by omega
    rw [e]
    show some (rf_sx _ &&& 255) = _
    rw [rf_sx_and (hbt _)]
  · rw [rf_has_out hc hpb hab h, if_neg h]
    show pu_br ((0 : Int32) = 0) _ _ = _
    rw [pu_br_t rfl]; rfl
/-- a byte is put -/
def rf_pt (d : Nat → Nat) (c p a v : Nat) : Nat → Nat := fun k => if 1 ≤ p ∧ p ≤ c ∧ a < 64 ∧ k = 64 * p + a then v else d k
theorem rf_put {b : Nat → Int32} {d : Nat → Nat} (hb : rf_pg b d) {c p a v : Nat} (hc : c ≤ 24) (hpb : p < 2 ^ 30) (hab : a < 2 ^ 30) {x : Int32} (hx : x.toInt8.toInt32 = rf_sx v) : ∃ w, f_Pages_put (nI c) b (nI p) (nI a) x = some w ∧ rf_pg w (rf_pt d c p a v) := by
  unfold f_Pages_put
  by_cases h : 1 ≤ p ∧ p ≤ c ∧ a < 64
  · refine ⟨upd b (64 * (p - 1) + a) (rf_sx v), ?_, fun k hk => ?_⟩
    · rw [rf_has_in hc h.1 h.2.1 h.2.2]
      show pu_br ((1 : Int32) = 0) _ _ = _
      rw [pu_br_f (by decide), rf_ix h.1, pu_ck_t (vp_in_nI (by omega) (by decide)), nI_clamp (by omega), rf_nar, hx]
      rfl
    · unfold rf_pt
      by_cases e : k = 64 * (p - 1) + a
      · rw [if_pos ⟨h.1, h.2.1, h.2.2, by omega⟩, e, pk_us]
      · rw [pk_un e, if_neg (fun q => e (by omega))]
        exact hb k hk
  · refine ⟨b, ?_, fun k hk => ?_⟩
    · rw [rf_has_out hc hpb hab h]
      show pu_br ((0 : Int32) = 0) _ _ = _
      rw [pu_br_t rfl]
    · unfold rf_pt
      rw [if_neg (fun q => h ⟨q.1, q.2.1, q.2.2.1⟩)]
      exact hb k hk
end RFP
