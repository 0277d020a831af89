-- the family wb_ of kit/laws/BITS.to-paste.lean.txt, as it stands there
theorem wb_tb (n : Nat) : (lN n).toBitVec = BitVec.ofNat 64 n := rfl
theorem wb_inj {a b : Int64} (h : a.toBitVec = b.toBitVec) : a = b := Int64.toBitVec_inj.mp h
theorem wb_tn {n : Nat} (h : n < 2 ^ 64) : (lN n).toBitVec.toNat = n := by rw [wb_tb, BitVec.toNat_ofNat, Nat.mod_eq_of_lt h]
theorem wb_of (x : Int64) : ∃ n, n < 2 ^ 64 ∧ x = lN n := ⟨x.toBitVec.toNat, x.toBitVec.isLt, wb_inj (by rw [wb_tb]; simp)⟩
theorem wb_of32 (x : Int32) : ∃ n, n < 2 ^ 32 ∧ x = nI n := ⟨x.toBitVec.toNat, x.toBitVec.isLt, Int32.toBitVec_inj.mp (by show _ = BitVec.ofNat 32 _; simp)⟩
theorem wb_c : ∀ k, k < 64 → ((nI k).toInt64 &&& 63) = lN k := by decide +kernel
theorem wb_cu : ∀ k, k < 64 → ((nI k).toInt64.toUInt64 &&& Int64.toUInt64 63) = UInt64.ofNat k := by decide +kernel
theorem wb_sm : ∀ k, k < 64 → (BitVec.ofNat 64 k).smod 64 = BitVec.ofNat 64 k := by decide +kernel
theorem wb_pw {a b : Nat} (h : a ≤ b) : 2 ^ b = 2 ^ a * 2 ^ (b - a) := by rw [← Nat.pow_add]; congr 1; omega
theorem wb_lt2 {a b : Nat} (h : a < b) : 2 ^ a < 2 ^ b := Nat.pow_lt_pow_right (by decide) h
theorem wb_mod (n : Nat) : lN n = lN (n % 2 ^ 64) := wb_inj (by rw [wb_tb, wb_tb]; apply BitVec.eq_of_toNat_eq; rw [BitVec.toNat_ofNat, BitVec.toNat_ofNat, Nat.mod_mod])
theorem wb_shr {n k : Nat} (hn : n < 2 ^ 64) (hk : k < 64) : ((lN n).toUInt64 >>> ((nI k).toInt64.toUInt64 &&& Int64.toUInt64 63)).toInt64 = lN (n / 2 ^ k) := by
  rw [wb_cu k hk]
  apply wb_inj
  apply BitVec.eq_of_toNat_eq
  show ((lN n).toUInt64 >>> UInt64.ofNat k).toNat = (BitVec.ofNat 64 _).toNat
  have h1 : (UInt64.ofNat k).toNat = k := by
    show (BitVec.ofNat 64 k).toNat = k
    rw [BitVec.toNat_ofNat, Nat.mod_eq_of_lt (by omega)]
  have h2 : (lN n).toUInt64.toNat = n := wb_tn hn
  rw [UInt64.toNat_shiftRight, h1, h2, Nat.mod_eq_of_lt hk, Nat.shiftRight_eq_div_pow, BitVec.toNat_ofNat, Nat.mod_eq_of_lt (Nat.lt_of_le_of_lt (Nat.div_le_self _ _) hn)]
theorem wb_shl (n : Nat) {k : Nat} (hk : k < 64) : lN n <<< ((nI k).toInt64 &&& 63) = lN (n * 2 ^ k) := by
  rw [wb_c k hk]
  apply wb_inj
  rw [Int64.toBitVec_shiftLeft, wb_tb, wb_tb, wb_tb, wb_sm k hk]
  apply BitVec.eq_of_toNat_eq
  rw [BitVec.shiftLeft_eq', BitVec.toNat_shiftLeft, BitVec.toNat_ofNat, BitVec.toNat_ofNat, BitVec.toNat_ofNat, Nat.mod_eq_of_lt (show k < 2 ^ 64 by omega), Nat.shiftLeft_eq, Nat.mul_mod, Nat.mod_mod, ← Nat.mul_mod]
theorem wb_and {a b : Nat} (ha : a < 2 ^ 64) (hb : b < 2 ^ 64) : lN a &&& lN b = lN (a &&& b) := by
  apply wb_inj
  rw [Int64.toBitVec_and, wb_tb, wb_tb, wb_tb]
  apply BitVec.eq_of_toNat_eq
  rw [BitVec.toNat_and, BitVec.toNat_ofNat, BitVec.toNat_ofNat, BitVec.toNat_ofNat, Nat.mod_eq_of_lt ha, Nat.mod_eq_of_lt hb, Nat.mod_eq_of_lt (Nat.and_lt_two_pow _ hb)]
theorem wb_or {a b : Nat} (ha : a < 2 ^ 64) (hb : b < 2 ^ 64) : lN a ||| lN b = lN (a ||| b) := by
  apply wb_inj
  rw [Int64.toBitVec_or, wb_tb, wb_tb, wb_tb]
  apply BitVec.eq_of_toNat_eq
  rw [BitVec.toNat_or, BitVec.toNat_ofNat, BitVec.toNat_ofNat, BitVec.toNat_ofNat, Nat.mod_eq_of_lt ha, Nat.mod_eq_of_lt hb, Nat.mod_eq_of_lt (Nat.or_lt_two_pow ha hb)]
theorem wb_mask {n k : Nat} (hn : n < 2 ^ 64) (hk : k < 64) : lN n &&& lN (2 ^ k - 1) = lN (n % 2 ^ k) := by
  rw [wb_and hn (by have := wb_lt2 hk; omega), Nat.and_two_pow_sub_one_eq_mod]
theorem wb_a1 {n : Nat} (hn : n < 2 ^ 64) : lN n &&& 1 = lN (n % 2) := wb_mask (k := 1) hn (by decide)
theorem wb_bit {n k : Nat} (hn : n < 2 ^ 64) (hk : k < 64) : ((lN n).toUInt64 >>> ((nI k).toInt64.toUInt64 &&& Int64.toUInt64 63)).toInt64 &&& 1 = lN (n / 2 ^ k % 2) := by
  rw [wb_shr hn hk, wb_a1 (Nat.lt_of_le_of_lt (Nat.div_le_self _ _) hn)]
theorem wb_xor {q k : Nat} (hk : k < 63) (h : 2 ^ k ≤ q) (h2 : q < 2 ^ (k + 1)) : lN q ^^^ lN (2 ^ k) = lN (q - 2 ^ k) := by
  obtain ⟨r, rfl⟩ : ∃ r, q = 2 ^ k + r := ⟨q - 2 ^ k, by omega⟩
  have hr : r < 2 ^ k := by rw [Nat.pow_succ] at h2; omega
  have hx : (2 ^ k + r) ^^^ 2 ^ k = r := by
    apply Nat.eq_of_testBit_eq
    intro i
    rw [Nat.testBit_xor, Nat.testBit_two_pow]
    rcases Nat.lt_trichotomy i k with h | h | h
    · rw [Nat.testBit_two_pow_add_gt h]
      simp [show ¬ k = i by omega]
    · subst h
      rw [Nat.testBit_two_pow_add_eq]
      simp
    · have a1 : 2 ^ (k + 1) ≤ 2 ^ i := Nat.pow_le_pow_right (by decide) h
      rw [Nat.testBit_lt_two_pow (show 2 ^ k + r < 2 ^ i by omega), Nat.testBit_lt_two_pow (show r < 2 ^ i by omega)]
      simp [show ¬ k = i by omega]
  have b1 := wb_lt2 (show k + 1 < 64 by omega)
  have b2 := wb_lt2 (show k < 64 by omega)
  apply wb_inj
  rw [Int64.toBitVec_xor, wb_tb, wb_tb, wb_tb]
  apply BitVec.eq_of_toNat_eq
  rw [BitVec.toNat_xor, BitVec.toNat_ofNat, BitVec.toNat_ofNat, BitVec.toNat_ofNat, Nat.mod_eq_of_lt (by omega : 2 ^ k + r < 2 ^ 64), Nat.mod_eq_of_lt b2, hx, Nat.add_sub_cancel_left, Nat.mod_eq_of_lt (by omega)]
section RFB
variable {WF : (Nat → Nat) → Prop}
/-- byte j of a long, the lowest first -/
def rf_vb (t j : Nat) : Nat := t / 2 ^ (8 * j) % 256
theorem rf_vb_lt (t j : Nat) : rf_vb t j < 256 := Nat.mod_lt _ (by decide)
theorem rf_lshr (a s : Int64) (k : Nat) (hs : (s.toBitVec.smod 64).toNat = k) : (a >>> s).toInt = a.toInt >>> k := by
  show (a.toBitVec.sshiftRight (s.toBitVec.smod 64).toNat).toInt = _
  rw [hs, BitVec.toInt_sshiftRight]
  rfl
theorem rf_lNt (t : Nat) (h : t < 2 ^ 64) : (lN t).toInt = t ∨ (lN t).toInt = (t : Int) - 18446744073709551616 := by
  have e : (lN t).toInt = (t : Int).bmod (2 ^ 64) := by
    show (BitVec.ofNat 64 t).toInt = _
    rw [BitVec.toInt_eq_toNat_bmod, BitVec.toNat_ofNat, Nat.mod_eq_of_lt h]
  rw [e, Int.bmod]
  split <;> omega
theorem rf_sxT (c : Nat) (h : c < 256) : (rf_sx c).toInt = (c : Int).bmod (2 ^ 8) := by
  unfold rf_sx
  rw [Int8.toInt_toInt32, Int32.toInt_toInt8, nI_toInt (by omega)]
theorem rf_bmb (T : Int) (t j : Nat) (ht : t < 2 ^ 64) (hT : T = t ∨ T = (t : Int) - 18446744073709551616) (hj : j < 8) : ((T / 2 ^ (8 * j)).bmod (2 ^ 32)).bmod (2 ^ 8) = ((t / 2 ^ (8 * j) % 256 : Nat) : Int).bmod (2 ^ 8) := by
  have key : (T / 2 ^ (8 * j)) % 256 = ((t / 2 ^ (8 * j) % 256 : Nat) : Int) := by
    have h8 : j = 0 ∨ j = 1 ∨ j = 2 ∨ j = 3 ∨ j = 4 ∨ j = 5 ∨ j = 6 ∨ j = 7 := by omega
    rcases h8 with rfl | rfl | rfl | rfl | rfl | rfl | rfl | rfl <;> rcases hT with rfl | rfl <;> simp only [Nat.reduceMul, Nat.reducePow, Int.reducePow] <;> omega
  generalize T / 2 ^ (8 * j) = x at key ⊢
  generalize t / 2 ^ (8 * j) % 256 = y at key ⊢
  simp only [Int.bmod]
  split <;> split <;> split <;> omega
theorem rf_cbyte (t j : Nat) (ht : t < 2 ^ 64) (hj : j < 8) : (lN t >>> ((nI (8 * j)).toInt64 &&& 63)).toInt32.toInt8.toInt32 = rf_sx (rf_vb t j) := by
  rw [wb_c _ (by omega)]
  apply Int32.toInt_inj.mp
  have hs : ((lN (8 * j)).toBitVec.smod 64).toNat = 8 * j := by
    rw [wb_tb, wb_sm _ (by omega), BitVec.toNat_ofNat]
    omega
  rw [Int8.toInt_toInt32, Int32.toInt_toInt8, Int64.toInt_toInt32, rf_lshr _ _ _ hs, Int.shiftRight_eq_div_pow, rf_sxT _ (rf_vb_lt t j)]
  have h := rf_bmb (lN t).toInt t j ht (rf_lNt t ht) hj
  unfold rf_vb
  rw [← h]
  rfl
theorem rf_mbyte (t j : Nat) (ht : t < 2 ^ 64) (hj : j < 8) : (((lN t).toUInt64 >>> ((nI (8 * j)).toInt64.toUInt64 &&& Int64.toUInt64 63)).toInt64 &&& (255 : Int64)).toInt32 = nI (rf_vb t j) := by
  rw [wb_shr ht (by omega)]
  have h : lN (t / 2 ^ (8 * j)) &&& lN (2 ^ 8 - 1) = lN (t / 2 ^ (8 * j) % 2 ^ 8) := wb_mask (Nat.lt_of_le_of_lt (Nat.div_le_self _ _) ht) (by decide)
  have h' : lN (t / 2 ^ (8 * j)) &&& (255 : Int64) = lN (t / 2 ^ (8 * j) % 2 ^ 8) := h
  rw [h', lN_i]
  rfl
theorem rf_vsize {z : Nat} (h : z ≤ 100) : f_RF_valueSize (nI (12 + 2 * z)) = some (nI z) := by
  simp (disch := omega) only [f_RF_valueSize, q_RF_valueSize_83, pk_div, rf_lit, nI_add, pk_mul, pk_sub, nI_ltI, nI_leI, nI_eq, rf_in, nI_clamp, pu_br_t, pu_br_f, pu_ck_t, pu_brT, pu_brF, pu_ckT, pu_nm, pu_b0_s, pu_b1_s, pu_b2_s, pu_b3_s, pu_b4_s, pu_b5_s, pu_b6_s, pu_b7_s, pu_b8_s, pu_b9_s, pu_b10_s, pu_b11_s, pu_b12_s, pu_b13_s, pu_b14_s, pu_b15_s, pu_b16_s, pu_b17_s, pu_b18_s, pu_b19_s, pu_b20_s, pu_b21_s, pu_b22_s, pu_b23_s, pu_b24_s, pu_b25_s]
  congr 2
  omega
/-- the class's loop -/
theorem rf_ext {kx : (Nat → Int32) → Option (Int32 × (Nat → Int32) × (Nat → Int32))} {cnt : Int32} {codes blobs : Nat → Int32} {n t c z : Nat} (hn : n ≤ 8) (hc : c < 3) (hz : z + n ≤ 100) (ht : t < 2 ^ 64) :
    ∃ w, q_Draft_extendBlob_68 kx cnt codes (nI n) (lN t) (nI c) (nI z) pu_fu blobs 0 = kx w ∧ (∀ i, i < n → w (100 * c + z + i) = rf_sx (rf_vb t (n - 1 - i))) ∧ ∀ j, j < 100 * c + z ∨ 100 * c + z + n ≤ j → w j = blobs j := by
  refine rf_loop (fun f st i => q_Draft_extendBlob_68 kx cnt codes (nI n) (lN t) (nI c) (nI z) f st (nI i)) (fun i st => (∀ k, k < i → st (100 * c + z + k) = rf_sx (rf_vb t (n - 1 - k))) ∧ ∀ j, j < 100 * c + z ∨ 100 * c + z + i ≤ j → st j = blobs j) (fun r => ∃ w, r = kx w ∧ (∀ i, i < n → w (100 * c + z + i) = rf_sx (rf_vb t (n - 1 - i))) ∧ ∀ j, j < 100 * c + z ∨ 100 * c + z + n ≤ j → w j = blobs j) n ?_ ?_ n pu_fu blobs 0 (by omega) (by unfold pu_fu; omega) ⟨fun k hk => by omega, fun j _ => rfl⟩
  · intro f st h
    refine ⟨st, ?_, h.1, h.2⟩
    show q_Draft_extendBlob_68 kx cnt codes (nI n) (lN t) (nI c) (nI z) (f + 1) st (nI n) = _
    simp (disch := omega) only [q_Draft_extendBlob_68, rf_lit, nI_add, pk_mul, pk_sub, nI_ltI, nI_leI, nI_eq, rf_in, nI_clamp, pu_br_t, pu_br_f, pu_ck_t, pu_brT, pu_brF, pu_ckT, pu_nm, pu_b0_s, pu_b1_s, pu_b2_s, pu_b3_s, pu_b4_s, pu_b5_s, pu_b6_s, pu_b7_s, pu_b8_s, pu_b9_s, pu_b10_s, pu_b11_s, pu_b12_s, pu_b13_s, pu_b14_s, pu_b15_s, pu_b16_s, pu_b17_s, pu_b18_s, pu_b19_s, pu_b20_s, pu_b21_s, pu_b22_s, pu_b23_s, pu_b24_s, pu_b25_s]
  · intro f st i hi h
    refine Or.inl ⟨upd st (100 * c + z + i) (rf_sx (rf_vb t (n - 1 - i))), ⟨fun k hk => ?_, fun j hj => ?_⟩, ?_⟩
    · by_cases e : k = i
      · subst e; exact pk_us
      · rw [pk_un (by omega)]; exact h.1 k (by omega)
    · rw [pk_un (by omega)]; exact h.2 j (by omega)
    · show q_Draft_extendBlob_68 kx cnt codes (nI n) (lN t) (nI c) (nI z) (f + 1) st (nI i) = _
      simp (disch := omega) only [q_Draft_extendBlob_68, rf_lit, nI_add, pk_mul, pk_sub, nI_ltI, nI_leI, nI_eq, rf_in, nI_clamp, pu_br_t, pu_br_f, pu_ck_t, pu_brT, pu_brF, pu_ckT, pu_nm, pu_b0_s, pu_b1_s, pu_b2_s, pu_b3_s, pu_b4_s, pu_b5_s, pu_b6_s, pu_b7_s, pu_b8_s, pu_b9_s, pu_b10_s, pu_b11_s, pu_b12_s, pu_b13_s, pu_b14_s, pu_b15_s, pu_b16_s, pu_b17_s, pu_b18_s, pu_b19_s, pu_b20_s, pu_b21_s, pu_b22_s, pu_b23_s, pu_b24_s, pu_b25_s]
      rw [rf_cbyte t (n - 1 - i) ht (by omega), show vp_nar .byte (rf_sx (rf_vb t (n - 1 - i))) = rf_sx (rf_vb t (n - 1 - i)) from rf_nar _, show c * 100 + z + i = 100 * c + z + i by omega]
/-- the reference's loop -/
theorem rf_mext {cols : Int32} {isB : Nat → Int32} {t c : Nat} (hc : c < 3) (ht : t < 2 ^ 64) : ∀ (m f y : Nat) (size blobs : Nat → Int32), m < f → m ≤ 8 → size c = nI y → y + m ≤ 100 →
    ∃ size' blobs', q_MD_blob_116 cols isB (lN t) (nI c) f size blobs (nI m - 1) = some (1, cols, isB, size', blobs') ∧ size' c = nI (y + m) ∧ (∀ j, j ≠ c → size' j = size j) ∧ (∀ i, i < m → blobs' (100 * c + y + i) = nI (rf_vb t (m - 1 - i))) ∧ ∀ j, j < 100 * c + y ∨ 100 * c + y + m ≤ j → blobs' j = blobs j
  | 0, f, y, size, blobs, hf, _, hs, hy => by
    obtain ⟨f, rfl⟩ : ∃ k, f = k + 1 := ⟨f - 1, by omega⟩
    refine ⟨size, blobs, ?_, hs, fun _ _ => rfl, fun i hi => by omega, fun _ _ => rfl⟩
    rw [q_MD_blob_116, pu_br_t (by decide)]
  | m + 1, f, y, size, blobs, hf, hm, hs, hy => by
    obtain ⟨f, rfl⟩ : ∃ k, f = k + 1 := ⟨f - 1, by omega⟩
    obtain ⟨size', blobs', h1, h2, h3, h4, h5⟩ := rf_mext hc ht m f (y + 1) (upd size c (nI (y + 1))) (upd blobs (100 * c + y) (nI (rf_vb t m))) (by omega) (by omega) pk_us (by omega)
    refine ⟨size', blobs', ?_, by rw [h2]; congr 1; omega, fun j hj => by rw [h3 j hj, pk_un hj], fun i hi => ?_, fun j hj => ?_⟩
    · rw [← h1, show nI (m + 1) - 1 = nI m from nI_pred m]
      simp (disch := omega) only [q_MD_blob_116, rf_lit, nI_add, pk_mul, pk_sub, nI_ltI, nI_leI, nI_eq, rf_in, nI_clamp, pu_br_t, pu_br_f, pu_ck_t, pu_brT, pu_brF, pu_ckT, pu_nm, pu_b0_s, pu_b1_s, pu_b2_s, pu_b3_s, pu_b4_s, pu_b5_s, pu_b6_s, pu_b7_s, pu_b8_s, pu_b9_s, pu_b10_s, pu_b11_s, pu_b12_s, pu_b13_s, pu_b14_s, pu_b15_s, pu_b16_s, pu_b17_s, pu_b18_s, pu_b19_s, pu_b20_s, pu_b21_s, pu_b22_s, pu_b23_s, pu_b24_s, pu_b25_s, hs]
      rw [rf_mbyte t m ht (by omega)]
      rw [show nI m + -nI 1 = nI m - nI 1 from (Int32.sub_eq_add_neg _ _).symm]
    · by_cases e : i = 0
      · subst e
        rw [h5 _ (by omega)]
        exact pk_us
      · have h6 := h4 (i - 1) (by omega)
        rw [show 100 * c + (y + 1) + (i - 1) = 100 * c + y + i by omega, show m - 1 - (i - 1) = m + 1 - 1 - i by omega] at h6
        exact h6
    · rw [h5 j (by omega), pk_un (by omega)]
theorem rf_cd_lt (v : Int64) : rf_cd v < 12 := by
  unfold rf_cd
  repeat' split
  all_goals omega
theorem rf_extend {codes blobs : Nat → Int32} {n t c z : Nat} (hn : n ≤ 8) (hc : c < 3) (hz : z + n ≤ 100) (ht : t < 2 ^ 64) (hcd : codes c = nI (12 + 2 * z)) :
    ∃ w, f_Draft_extendBlob (nI (c + 1)) codes blobs (nI n) (lN t) = some (1, upd codes c (nI (12 + 2 * (z + n))), w) ∧ (∀ i, i < n → w (100 * c + z + i) = rf_sx (rf_vb t (n - 1 - i))) ∧ ∀ j, j < 100 * c + z ∨ 100 * c + z + n ≤ j → w j = blobs j := by
  obtain ⟨w, h1, h2, h3⟩ := rf_ext (kx := fun v_blobs => q_Draft_extendBlob_109 (nI (c + 1)) codes v_blobs (nI n) (nI c)) (cnt := nI (c + 1)) (codes := codes) (blobs := blobs) hn hc hz ht
  refine ⟨w, ?_, h2, h3⟩
  have e1 : nI (c + 1) - 1 = nI c := nI_pred c
  rw [f_Draft_extendBlob, e1]
  have hv := rf_vsize (z := z) (by omega)
  simp (disch := omega) only [rf_lit, nI_add, pk_mul, pk_sub, nI_ltI, nI_leI, nI_eq, rf_in, nI_clamp, pu_br_t, pu_br_f, pu_ck_t, pu_brT, pu_brF, pu_ckT, pu_nm, pu_b0_s, pu_b1_s, pu_b2_s, pu_b3_s, pu_b4_s, pu_b5_s, pu_b6_s, pu_b7_s, pu_b8_s, pu_b9_s, pu_b10_s, pu_b11_s, pu_b12_s, pu_b13_s, pu_b14_s, pu_b15_s, pu_b16_s, pu_b17_s, pu_b18_s, pu_b19_s, pu_b20_s, pu_b21_s, pu_b22_s, pu_b23_s, pu_b24_s, pu_b25_s, hcd, hv]
  refine h1.trans ?_
  simp (disch := omega) only [q_Draft_extendBlob_109, rf_lit, nI_add, pk_mul, pk_sub, nI_ltI, nI_leI, nI_eq, rf_in, nI_clamp, pu_br_t, pu_br_f, pu_ck_t, pu_brT, pu_brF, pu_ckT, pu_nm, pu_b0_s, pu_b1_s, pu_b2_s, pu_b3_s, pu_b4_s, pu_b5_s, pu_b6_s, pu_b7_s, pu_b8_s, pu_b9_s, pu_b10_s, pu_b11_s, pu_b12_s, pu_b13_s, pu_b14_s, pu_b15_s, pu_b16_s, pu_b17_s, pu_b18_s, pu_b19_s, pu_b20_s, pu_b21_s, pu_b22_s, pu_b23_s, pu_b24_s, pu_b25_s, hcd]
  rw [show 12 + 2 * z + 2 * n = 12 + 2 * (z + n) by omega]
theorem rf_col_keep {j c : Nat} {codes numbers blobs isBlob integer size mblobs codes' numbers' blobs' isBlob' integer' size' mblobs'} (h : rf_col j codes numbers blobs isBlob integer size mblobs) (hj : j ≠ c) (h1 : ∀ i, i ≠ c → codes' i = codes i) (h2 : numbers' j = numbers j) (h3 : ∀ i, i < 100 * c ∨ 100 * c + 100 ≤ i → blobs' i = blobs i) (h4 : isBlob' j = isBlob j) (h5 : integer' j = integer j) (h6 : ∀ i, i ≠ c → size' i = size i) (h7 : ∀ i, i < 100 * c ∨ 100 * c + 100 ≤ i → mblobs' i = mblobs i) : rf_col j codes' numbers' blobs' isBlob' integer' size' mblobs' := by
  rcases h with ⟨c1, c2, c3⟩ | ⟨c1, z, c2, c3, c4, c5⟩
  · exact Or.inl ⟨by rw [h4]; exact c1, by rw [h1 j hj, h5]; exact c2, by rw [h2, h5]; exact c3⟩
  · refine Or.inr ⟨by rw [h4]; exact c1, z, c2, by rw [h6 j hj]; exact c3, by rw [h1 j hj]; exact c4, fun i hi => ?_⟩
    obtain ⟨b, b1, b2, b3⟩ := c5 i hi
    refine ⟨b, b1, ?_, ?_⟩
    · rw [h7 _ (by omega)]; exact b2
    · rw [h3 _ (by omega)]; exact b3
/-- a blob's column, longer -/
theorem rf_col_ext {c z n t : Nat} {blobs mblobs codes' blobs' isBlob' size' mblobs' : Nat → Int32} {numbers' integer' : Nat → Int64} (hz : z + n ≤ 100) (hn : n ≤ 8) (h0 : ∀ i, i < z → ∃ b, b < 256 ∧ mblobs (100 * c + i) = nI b ∧ blobs (100 * c + i) = rf_sx b)
    (h1 : codes' c = nI (12 + 2 * (z + n))) (h2 : isBlob' c = 1) (h3 : size' c = nI (z + n)) (h4 : ∀ i, i < n → blobs' (100 * c + z + i) = rf_sx (rf_vb t (n - 1 - i))) (h5 : ∀ j, j < 100 * c + z ∨ 100 * c + z + n ≤ j → blobs' j = blobs j)
    (h6 : ∀ i, i < n → mblobs' (100 * c + z + i) = nI (rf_vb t (n - 1 - i))) (h7 : ∀ j, j < 100 * c + z ∨ 100 * c + z + n ≤ j → mblobs' j = mblobs j) : rf_col c codes' numbers' blobs' isBlob' integer' size' mblobs' := by
  refine Or.inr ⟨h2, z + n, hz, h3, h1, fun i hi => ?_⟩
  by_cases e : i < z
  · obtain ⟨b, b1, b2, b3⟩ := h0 i e
    exact ⟨b, b1, by rw [h7 _ (by omega)]; exact b2, by rw [h5 _ (by omega)]; exact b3⟩
  · have g4 := h4 (i - z) (by omega)
    have g6 := h6 (i - z) (by omega)
    rw [show 100 * c + z + (i - z) = 100 * c + i by omega] at g4 g6
    exact ⟨_, rf_vb_lt _ _, g6, g4⟩
theorem opp_blob  : op_blob (in_v WF) := by
  intro v_x_up v_x_armed v_x_draft_count v_x_draft_codes v_x_draft_numbers v_x_draft_blobs v_x_now_count v_x_now_bytes v_x_before_count v_x_before_bytes v_x_disk_headThere v_x_disk_headPages v_x_disk_headRecords v_x_disk_file_count v_x_disk_file_bytes v_x_disk_records_count v_x_disk_records_bytes v_x_disk_recorded v_x_disk_different v_x_row_length v_x_row_count v_x_row_bytes v_x_row_codes v_x_row_starts v_x_node_count v_x_node_last v_x_node_leaf v_x_node_bytes v_x_node_starts v_x_node_sizes v_x_tree_depth v_x_tree_slot v_x_tree_cellSize v_x_tree_path v_x_tree_slots v_x_tree_cell v_x_tree_waiting v_x_tree_leaves v_x_check_treeSize v_x_check_reached v_x_check_treePages v_x_check_lows v_x_check_highs v_m_onDisk v_m_head v_m_headPages v_m_records v_m_up v_m_armed v_m_columns v_m_length v_m_kind v_m_cells v_m_last v_m_made v_m_deep v_m_at v_m_bad v_m_now v_m_disk v_m_before v_m_recordPage v_m_recordBytes v_m_isBlob v_m_integer v_m_size v_m_blobs v_m_record v_m_cellLength v_m_row v_m_cell v_m_way v_m_turn v_m_used a_1 a_2 a_3 hI
  obtain ⟨⟨k, hk, rfl, rfl, hc⟩, hua, hdk⟩ := hI
  have hin : in_v WF v_x_up v_x_armed (nI k) v_x_draft_codes v_x_draft_numbers v_x_draft_blobs v_x_now_count v_x_now_bytes v_x_before_count v_x_before_bytes v_x_disk_headThere v_x_disk_headPages v_x_disk_headRecords v_x_disk_file_count v_x_disk_file_bytes v_x_disk_records_count v_x_disk_records_bytes v_x_disk_recorded v_x_disk_different v_x_row_length v_x_row_count v_x_row_bytes v_x_row_codes v_x_row_starts v_x_node_count v_x_node_last v_x_node_leaf v_x_node_bytes v_x_node_starts v_x_node_sizes v_x_tree_depth v_x_tree_slot v_x_tree_cellSize v_x_tree_path v_x_tree_slots v_x_tree_cell v_x_tree_waiting v_x_tree_leaves v_x_check_treeSize v_x_check_reached v_x_check_treePages v_x_check_lows v_x_check_highs v_m_onDisk v_m_head v_m_headPages v_m_records v_m_up v_m_armed (nI k) v_m_length v_m_kind v_m_cells v_m_last v_m_made v_m_deep v_m_at v_m_bad v_m_now v_m_disk v_m_before v_m_recordPage v_m_recordBytes v_m_isBlob v_m_integer v_m_size v_m_blobs v_m_record v_m_cellLength v_m_row v_m_cell v_m_way v_m_turn v_m_used := ⟨⟨k, hk, rfl, rfl, hc⟩, hua, hdk⟩
  obtain ⟨t, ht, rfl⟩ := wb_of a_3
  by_cases n0 : a_2 < 0
  · refine ⟨0, _, _, _, ?_, _, _, _, _, ?_, hin⟩
    · rw [f_RF_blob, pu_br_t n0]
    · rw [f_MD_blob, pu_br_t n0]
  by_cases n8' : ¬ a_2 ≤ 8
  · have n8 := n8'
    refine ⟨0, _, _, _, ?_, _, _, _, _, ?_, hin⟩
    · rw [f_RF_blob, pu_br_f n0, pu_br_f n8]
    · rw [f_MD_blob, pu_br_f n0, pu_br_f n8]
  have n8 : a_2 ≤ 8 := Classical.not_not.mp n8'
  obtain ⟨n, hn, rfl⟩ := nI_of2 (M := 8) (n := 8) (by decide) n0 n8
  by_cases m0 : a_1 = 0
  · by_cases h3 : k = 3
    · subst h3
      refine ⟨0, _, _, _, ?_, _, _, _, _, ?_, hin⟩
      · simp (disch := omega) only [f_RF_blob, f_Draft_addBlob, m0, rf_lit, nI_add, pk_mul, pk_sub, nI_ltI, nI_leI, nI_eq, rf_in, nI_clamp, pu_br_t, pu_br_f, pu_ck_t, pu_brT, pu_brF, pu_ckT, pu_nm, pu_b0_s, pu_b1_s, pu_b2_s, pu_b3_s, pu_b4_s, pu_b5_s, pu_b6_s, pu_b7_s, pu_b8_s, pu_b9_s, pu_b10_s, pu_b11_s, pu_b12_s, pu_b13_s, pu_b14_s, pu_b15_s, pu_b16_s, pu_b17_s, pu_b18_s, pu_b19_s, pu_b20_s, pu_b21_s, pu_b22_s, pu_b23_s, pu_b24_s, pu_b25_s]
        all_goals rfl
      · simp (disch := omega) only [f_MD_blob, m0, rf_lit, nI_add, pk_mul, pk_sub, nI_ltI, nI_leI, nI_eq, rf_in, nI_clamp, pu_br_t, pu_br_f, pu_ck_t, pu_brT, pu_brF, pu_ckT, pu_nm, pu_b0_s, pu_b1_s, pu_b2_s, pu_b3_s, pu_b4_s, pu_b5_s, pu_b6_s, pu_b7_s, pu_b8_s, pu_b9_s, pu_b10_s, pu_b11_s, pu_b12_s, pu_b13_s, pu_b14_s, pu_b15_s, pu_b16_s, pu_b17_s, pu_b18_s, pu_b19_s, pu_b20_s, pu_b21_s, pu_b22_s, pu_b23_s, pu_b24_s, pu_b25_s]
        all_goals rfl
    · obtain ⟨w, w1, w2, w3⟩ := rf_extend (codes := upd v_x_draft_codes k 12) (blobs := v_x_draft_blobs) (n := n) (t := t) (c := k) (z := 0) hn (by omega) (by omega) ht pk_us
      obtain ⟨s', b', q1, q2, q3, q4, q5⟩ := rf_mext (cols := nI (k + 1)) (isB := upd v_m_isBlob k 1) (t := t) (c := k) (by omega) ht n pu_fu 0 (upd v_m_size k 0) v_m_blobs (by unfold pu_fu; omega) hn pk_us (by omega)
      refine ⟨1, nI (k + 1), upd (upd v_x_draft_codes k 12) k (nI (12 + 2 * (0 + n))), w, ?_, nI (k + 1), upd v_m_isBlob k 1, s', b', ?_, ⟨k + 1, by omega, rfl, rfl, fun j hj => ?_⟩, hua, hdk⟩
      · simp (disch := omega) only [f_RF_blob, f_Draft_addBlob, q_RF_blob_28, m0, rf_lit, nI_add, pk_mul, pk_sub, nI_ltI, nI_leI, nI_eq, rf_in, nI_clamp, pu_br_t, pu_br_f, pu_ck_t, pu_brT, pu_brF, pu_ckT, pu_nm, pu_b0_s, pu_b1_s, pu_b2_s, pu_b3_s, pu_b4_s, pu_b5_s, pu_b6_s, pu_b7_s, pu_b8_s, pu_b9_s, pu_b10_s, pu_b11_s, pu_b12_s, pu_b13_s, pu_b14_s, pu_b15_s, pu_b16_s, pu_b17_s, pu_b18_s, pu_b19_s, pu_b20_s, pu_b21_s, pu_b22_s, pu_b23_s, pu_b24_s, pu_b25_s]
        rw [show nI 12 = (12 : Int32) from rfl, w1, pu_b3_s, pu_ck_t pu_bz1]
        rfl
      · have hin3 : vp_in (nI k) 3 := vp_in_nI (by omega) (by decide)
        have hk3 : ¬ nI k = 3 := fun h => h3 ((nI_eq (by omega) (by decide)).mp (show nI k = nI 3 from h))
        rw [f_MD_blob, pu_br_f n0, pu_br_t n8, pu_br_t m0, pu_br_f hk3, q_MD_blob_24, pu_br_t m0, q_MD_blob_69, pu_br_t m0, pu_ck_t hin3, pu_nm, pu_ck_t hin3, pu_nm, pu_nm, nI_clamp (by omega), nI_1, q_MD_blob_103, pu_nm, pu_nm, show nI (k + 1) - 1 = nI k from nI_pred k]
        exact q1
      · by_cases e : j = k
        · subst e
          refine rf_col_ext (z := 0) (n := n) (t := t) (blobs := v_x_draft_blobs) (mblobs := v_m_blobs) (by omega) hn (fun i hi => by omega) pk_us pk_us q2 w2 w3 q4 q5
        · refine rf_col_keep (hc j (by omega)) e (fun i hi => by rw [pk_un hi, pk_un hi]) rfl (fun i hi => w3 i (by omega)) (pk_un e) rfl (fun i hi => by rw [q3 i hi, pk_un hi]) (fun i hi => q5 i (by omega))
  · by_cases k0 : k = 0
    · subst k0
      refine ⟨0, _, _, _, ?_, _, _, _, _, ?_, hin⟩
      · rw [f_RF_blob, pu_br_f n0, pu_br_t n8, pu_br_f m0, q_RF_blob_28, f_Draft_extendBlob]
        show pu_b3 (pu_br (nI 0 - 1 < 0) _ _) _ = _
        rw [pu_br_t (by decide), pu_b3_s, pu_ck_t pu_bz0]
      · rw [f_MD_blob, pu_br_f n0, pu_br_t n8, pu_br_f m0, q_MD_blob_24, pu_br_f m0, pu_br_t (show nI 0 = 0 from rfl)]
    · obtain ⟨c, rfl⟩ : ∃ c, k = c + 1 := ⟨k - 1, by omega⟩
      have e1 : nI (c + 1) - 1 = nI c := nI_pred c
      rcases hc c (by omega) with ⟨c1, c2, c3⟩ | ⟨c1, z, c2, c3, c4, c5⟩
      · have hlt := rf_cd_lt (v_m_integer c)
        refine ⟨0, _, _, _, ?_, _, _, _, _, ?_, hin⟩
        · rw [f_RF_blob, pu_br_f n0, pu_br_t n8, pu_br_f m0, q_RF_blob_28, f_Draft_extendBlob, e1]
          simp (disch := omega) only [rf_lit, nI_add, pk_mul, pk_sub, nI_ltI, nI_leI, nI_eq, rf_in, nI_clamp, pu_br_t, pu_br_f, pu_ck_t, pu_brT, pu_brF, pu_ckT, pu_nm, pu_b0_s, pu_b1_s, pu_b2_s, pu_b3_s, pu_b4_s, pu_b5_s, pu_b6_s, pu_b7_s, pu_b8_s, pu_b9_s, pu_b10_s, pu_b11_s, pu_b12_s, pu_b13_s, pu_b14_s, pu_b15_s, pu_b16_s, pu_b17_s, pu_b18_s, pu_b19_s, pu_b20_s, pu_b21_s, pu_b22_s, pu_b23_s, pu_b24_s, pu_b25_s, c2]
          exact pu_ck_t pu_bz0
        · rw [f_MD_blob, pu_br_f n0, pu_br_t n8, pu_br_f m0, q_MD_blob_24, pu_br_f m0, e1]
          simp (disch := omega) only [rf_lit, nI_add, pk_mul, pk_sub, nI_ltI, nI_leI, nI_eq, rf_in, nI_clamp, pu_br_t, pu_br_f, pu_ck_t, pu_brT, pu_brF, pu_ckT, pu_nm, pu_b0_s, pu_b1_s, pu_b2_s, pu_b3_s, pu_b4_s, pu_b5_s, pu_b6_s, pu_b7_s, pu_b8_s, pu_b9_s, pu_b10_s, pu_b11_s, pu_b12_s, pu_b13_s, pu_b14_s, pu_b15_s, pu_b16_s, pu_b17_s, pu_b18_s, pu_b19_s, pu_b20_s, pu_b21_s, pu_b22_s, pu_b23_s, pu_b24_s, pu_b25_s, c1]
          all_goals rfl
      · by_cases hz : z + n ≤ 100
        · obtain ⟨w, w1, w2, w3⟩ := rf_extend (codes := v_x_draft_codes) (blobs := v_x_draft_blobs) (n := n) (t := t) (c := c) (z := z) hn (by omega) hz ht c4
          obtain ⟨s', b', q1, q2, q3, q4, q5⟩ := rf_mext (cols := nI (c + 1)) (isB := v_m_isBlob) (t := t) (c := c) (by omega) ht n pu_fu z v_m_size v_m_blobs (by unfold pu_fu; omega) hn c3 (by omega)
          refine ⟨1, nI (c + 1), upd v_x_draft_codes c (nI (12 + 2 * (z + n))), w, ?_, nI (c + 1), v_m_isBlob, s', b', ?_, ⟨c + 1, by omega, rfl, rfl, fun j hj => ?_⟩, hua, hdk⟩
          · rw [f_RF_blob, pu_br_f n0, pu_br_t n8, pu_br_f m0, q_RF_blob_28, w1, pu_b3_s, pu_ck_t pu_bz1]
          · rw [f_MD_blob, pu_br_f n0, pu_br_t n8, pu_br_f m0, q_MD_blob_24, pu_br_f m0, q_MD_blob_69, pu_br_f m0, q_MD_blob_103, e1]
            simp (disch := omega) only [rf_lit, nI_add, pk_mul, pk_sub, nI_ltI, nI_leI, nI_eq, rf_in, nI_clamp, pu_br_t, pu_br_f, pu_ck_t, pu_brT, pu_brF, pu_ckT, pu_nm, pu_b0_s, pu_b1_s, pu_b2_s, pu_b3_s, pu_b4_s, pu_b5_s, pu_b6_s, pu_b7_s, pu_b8_s, pu_b9_s, pu_b10_s, pu_b11_s, pu_b12_s, pu_b13_s, pu_b14_s, pu_b15_s, pu_b16_s, pu_b17_s, pu_b18_s, pu_b19_s, pu_b20_s, pu_b21_s, pu_b22_s, pu_b23_s, pu_b24_s, pu_b25_s, c1, c3]
            refine Eq.trans ?_ q1
            rw [show (1 : Int32) = nI 1 from rfl]
          · by_cases e : j = c
            · subst e
              exact rf_col_ext hz hn c5 pk_us c1 q2 w2 w3 q4 q5
            · exact rf_col_keep (hc j (by omega)) e (fun i hi => pk_un hi) rfl (fun i hi => w3 i (by omega)) rfl rfl q3 (fun i hi => q5 i (by omega))
        · refine ⟨0, _, _, _, ?_, _, _, _, _, ?_, hin⟩
          · have hv := rf_vsize (z := z) (by omega)
            rw [f_RF_blob, pu_br_f n0, pu_br_t n8, pu_br_f m0, q_RF_blob_28, f_Draft_extendBlob, e1]
            simp (disch := omega) only [rf_lit, nI_add, pk_mul, pk_sub, nI_ltI, nI_leI, nI_eq, rf_in, nI_clamp, pu_br_t, pu_br_f, pu_ck_t, pu_brT, pu_brF, pu_ckT, pu_nm, pu_b0_s, pu_b1_s, pu_b2_s, pu_b3_s, pu_b4_s, pu_b5_s, pu_b6_s, pu_b7_s, pu_b8_s, pu_b9_s, pu_b10_s, pu_b11_s, pu_b12_s, pu_b13_s, pu_b14_s, pu_b15_s, pu_b16_s, pu_b17_s, pu_b18_s, pu_b19_s, pu_b20_s, pu_b21_s, pu_b22_s, pu_b23_s, pu_b24_s, pu_b25_s, c4, hv]
            exact pu_ck_t pu_bz0
          · rw [f_MD_blob, pu_br_f n0, pu_br_t n8, pu_br_f m0, q_MD_blob_24, pu_br_f m0, e1]
            simp (disch := omega) only [rf_lit, nI_add, pk_mul, pk_sub, nI_ltI, nI_leI, nI_eq, rf_in, nI_clamp, pu_br_t, pu_br_f, pu_ck_t, pu_brT, pu_brF, pu_ckT, pu_nm, pu_b0_s, pu_b1_s, pu_b2_s, pu_b3_s, pu_b4_s, pu_b5_s, pu_b6_s, pu_b7_s, pu_b8_s, pu_b9_s, pu_b10_s, pu_b11_s, pu_b12_s, pu_b13_s, pu_b14_s, pu_b15_s, pu_b16_s, pu_b17_s, pu_b18_s, pu_b19_s, pu_b20_s, pu_b21_s, pu_b22_s, pu_b23_s, pu_b24_s, pu_b25_s, c1, c3]
            all_goals rfl
end RFB
