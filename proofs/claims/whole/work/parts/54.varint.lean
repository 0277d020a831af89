section RFV
theorem rf_or7 {v b : Nat} (hv : v < 2 ^ 22) (hb : b < 256) : (nI v <<< ((7 : Int32) &&& 31)) ||| (nI b &&& (127 : Int32)) = nI (v * 128 + b % 128) := by
  rw [pk_shlN _ 7 (by decide) (by omega)]
  have e1 : nI b &&& (127 : Int32) = nI (b % 2 ^ 7) := pk_andN (by omega) 7 (by decide)
  have e : ∀ x y : Nat, nI x ||| nI y = nI (x ||| y) := by
    intro x y
    apply Int32.toBitVec_inj.mp
    show BitVec.ofNat 32 x ||| BitVec.ofNat 32 y = BitVec.ofNat 32 (x ||| y)
    exact BitVec.ofNat_or.symm
  rw [e1, e]
  congr 1
  have := Nat.shiftLeft_add_eq_or_of_lt (i := 7) (b := b % 2 ^ 7) (Nat.mod_lt _ (by decide)) v
  rw [Nat.shiftLeft_eq] at this
  exact this.symm
/-- a number of up to three groups, ahead of e: its value and its size -/
def rf_rd (g : Nat → Nat) (s e : Nat) : Option (Nat × Nat) :=
  if e ≤ s then none else if g s = 128 then none else if g s < 128 then some (g s, 1)
  else if e ≤ s + 1 then none else if g (s + 1) < 128 then some ((g s - 128) * 128 + g (s + 1), 2)
  else if e ≤ s + 2 then none else if g (s + 2) < 128 then some (((g s - 128) * 128 + (g (s + 1) - 128)) * 128 + g (s + 2), 3) else none
theorem rf_rd_lt {g : Nat → Nat} (hg : ∀ k, g k < 256) {s e v z : Nat} (h : rf_rd g s e = some (v, z)) : v < 2097152 ∧ 1 ≤ z ∧ z ≤ 3 ∧ s + z ≤ e := by
  have h0 := hg s
  have h1 := hg (s + 1)
  have h2 := hg (s + 2)
  unfold rf_rd at h
  repeat' split at h
  all_goals first | (cases h; done) | (cases h; omega)
def rf_rv (o : Option (Nat × Nat)) : Int32 := match o with
  | none => -1
  | some p => nI p.1
theorem rf_readVarint {N : Nat} {b : Nat → Int32} {g : Nat → Nat} {s e : Nat} (hg : ∀ k, g k < 256) (hb : ∀ k, k < e → b k &&& 255 = nI (g k)) (he : e ≤ N) (hN : N < 2 ^ 20) (hs : s < 2 ^ 20) : f_RF_readVarint N b (nI s) (nI e) = some (rf_rv (rf_rd g s e)) := by
  have hF : f_RF_readVarint N b (nI s) (nI e) = q_RF_readVarint_17 N b (nI s) (nI e) (1996 + 1 + 1 + 1 + 1) (nI 0) (nI 0) := by
    rw [f_RF_readVarint, pu_br_f (nI_pos (by omega)), pu_br_t (show nI e ≤ Int32.ofNat N from nI_le he (by omega))]
    rfl
  have h0 := hg s
  have h1 := hg (s + 1)
  have h2 := hg (s + 2)
  -- one group
  have stop : ∀ f v i, e ≤ s + i → i < 3 → q_RF_readVarint_17 N b (nI s) (nI e) (f + 1) v (nI i) = some (-1) := by
    intro f v i h hi
    rw [q_RF_readVarint_17, pu_br_f (show ¬ (3 : Int32) ≤ nI i from nI_ge (a := i) (b := 3) hi (by decide)), nI_add, pu_br_t (nI_le h (by omega))]
  have e58 : ∀ f v i, v < 2 ^ 22 → i < 3 → q_RF_readVarint_58 (q_RF_readVarint_17 N b (nI s) (nI e) f) N b (nI s) (nI e) (nI v) (nI i) (nI (g (s + i))) = if g (s + i) < 128 then some (nI (v * 128 + g (s + i) % 128)) else q_RF_readVarint_17 N b (nI s) (nI e) f (nI (v * 128 + g (s + i) % 128)) (nI (i + 1)) := by
    intro f v i hv hi
    have hgi := hg (s + i)
    rw [q_RF_readVarint_58, pu_nm, rf_or7 hv hgi, nI_1, pu_nm]
    by_cases q : g (s + i) < 128
    · rw [pu_br_f (show ¬ (128 : Int32) ≤ nI (g (s + i)) from nI_ge (a := g (s + i)) (b := 128) q (by decide)), if_pos q]
    · rw [pu_br_t (show (128 : Int32) ≤ nI (g (s + i)) from nI_le (a := 128) (b := g (s + i)) (by omega) (by omega)), if_neg q]
  have go : ∀ f v i, ¬ e ≤ s + i → i < 3 → q_RF_readVarint_17 N b (nI s) (nI e) (f + 1) v (nI i) = pu_br (nI i = 0) (pu_br (nI (g (s + i)) = (128 : Int32)) (some (-1 : Int32)) (q_RF_readVarint_58 (q_RF_readVarint_17 N b (nI s) (nI e) f) N b (nI s) (nI e) v (nI i) (nI (g (s + i))))) (q_RF_readVarint_58 (q_RF_readVarint_17 N b (nI s) (nI e) f) N b (nI s) (nI e) v (nI i) (nI (g (s + i)))) := by
    intro f v i h hi
    rw [q_RF_readVarint_17, pu_br_f (show ¬ (3 : Int32) ≤ nI i from nI_ge (a := i) (b := 3) hi (by decide)), nI_add, pu_br_f (nI_ge (by omega) (by omega)), pu_ck_t (vp_in_nI (by omega) (by omega)), nI_clamp (by omega), hb _ (by omega), pu_nm]
  rw [hF]
  unfold rf_rd
  by_cases g0 : e ≤ s
  · rw [if_pos g0, stop _ _ 0 (by omega) (by omega)]; rfl
  rw [if_neg g0, go _ _ 0 (by omega) (by omega), pu_br_t (show nI 0 = 0 from rfl), Nat.add_zero]
  by_cases g1 : g s = 128
  · rw [if_pos g1, pu_br_t (show nI (g s) = (128 : Int32) by rw [g1]; rfl)]; rfl
  rw [if_neg g1, pu_br_f (show ¬ nI (g s) = (128 : Int32) from fun q => g1 ((nI_eq (by omega) (by decide)).mp (show nI (g s) = nI 128 from q)))]
  have e58' := e58 (1996 + 1 + 1 + 1) 0 0 (by omega) (by omega)
  rw [show s + 0 = s from rfl] at e58'
  rw [e58']
  by_cases g2 : g s < 128
  · rw [if_pos g2, if_pos g2, Nat.mod_eq_of_lt g2, Nat.zero_mul, Nat.zero_add]; rfl
  rw [if_neg g2, if_neg g2]
  by_cases g3 : e ≤ s + 1
  · rw [if_pos g3, stop _ _ 1 (by omega) (by omega)]; rfl
  rw [if_neg g3, go _ _ 1 (by omega) (by omega), pu_br_f (by decide), e58 _ _ 1 (by omega) (by omega)]
  have m1 : g s % 128 = g s - 128 := by omega
  by_cases g4 : g (s + 1) < 128
  · rw [if_pos g4, if_pos g4, m1, Nat.mod_eq_of_lt g4, Nat.zero_mul, Nat.zero_add]; rfl
  rw [if_neg g4, if_neg g4]
  have m2 : g (s + 1) % 128 = g (s + 1) - 128 := by omega
  by_cases g5 : e ≤ s + 2
  · rw [if_pos g5, stop _ _ 2 (by omega) (by omega)]; rfl
  rw [if_neg g5, go _ _ 2 (by omega) (by omega), pu_br_f (by decide), e58 _ _ 2 (by omega) (by omega)]
  by_cases g6 : g (s + 2) < 128
  · rw [if_pos g6, if_pos g6, m1, m2, Nat.mod_eq_of_lt g6, Nat.zero_mul, Nat.zero_add]; rfl
  · rw [if_neg g6, if_neg g6, q_RF_readVarint_17, pu_br_t (by decide)]; rfl
theorem rf_vsz {v : Nat} (h : v < 2 ^ 31) : f_RF_varintSize (nI v) = some (nI (if v < 128 then 1 else if v < 16384 then 2 else 3)) := by
  by_cases h1 : v < 128
  · rw [if_pos h1]
    simp (disch := omega) only [f_RF_varintSize, rf_lit, nI_add, pk_mul, pk_sub, nI_ltI, nI_leI, nI_eq, rf_in, nI_clamp, pu_br_t, pu_br_f, pu_ck_t, pu_brT, pu_brF, pu_ckT, pu_nm, pu_b0_s, pu_b1_s, pu_b2_s, pu_b3_s, pu_b4_s, pu_b5_s, pu_b6_s, pu_b7_s, pu_b8_s, pu_b9_s, pu_b10_s, pu_b11_s, pu_b12_s, pu_b13_s, pu_b14_s, pu_b15_s, pu_b16_s, pu_b17_s, pu_b18_s, pu_b19_s, pu_b20_s, pu_b21_s, pu_b22_s, pu_b23_s, pu_b24_s, pu_b25_s]
  · by_cases h2 : v < 16384
    · rw [if_neg h1, if_pos h2]
      simp (disch := omega) only [f_RF_varintSize, rf_lit, nI_add, pk_mul, pk_sub, nI_ltI, nI_leI, nI_eq, rf_in, nI_clamp, pu_br_t, pu_br_f, pu_ck_t, pu_brT, pu_brF, pu_ckT, pu_nm, pu_b0_s, pu_b1_s, pu_b2_s, pu_b3_s, pu_b4_s, pu_b5_s, pu_b6_s, pu_b7_s, pu_b8_s, pu_b9_s, pu_b10_s, pu_b11_s, pu_b12_s, pu_b13_s, pu_b14_s, pu_b15_s, pu_b16_s, pu_b17_s, pu_b18_s, pu_b19_s, pu_b20_s, pu_b21_s, pu_b22_s, pu_b23_s, pu_b24_s, pu_b25_s]
    · rw [if_neg h1, if_neg h2]
      simp (disch := omega) only [f_RF_varintSize, rf_lit, nI_add, pk_mul, pk_sub, nI_ltI, nI_leI, nI_eq, rf_in, nI_clamp, pu_br_t, pu_br_f, pu_ck_t, pu_brT, pu_brF, pu_ckT, pu_nm, pu_b0_s, pu_b1_s, pu_b2_s, pu_b3_s, pu_b4_s, pu_b5_s, pu_b6_s, pu_b7_s, pu_b8_s, pu_b9_s, pu_b10_s, pu_b11_s, pu_b12_s, pu_b13_s, pu_b14_s, pu_b15_s, pu_b16_s, pu_b17_s, pu_b18_s, pu_b19_s, pu_b20_s, pu_b21_s, pu_b22_s, pu_b23_s, pu_b24_s, pu_b25_s]
theorem rf_rd_size {g : Nat → Nat} (hg : ∀ k, g k < 256) {s e v z : Nat} (h : rf_rd g s e = some (v, z)) : z = if v < 128 then 1 else if v < 16384 then 2 else 3 := by
  have h0 := hg s
  have h1 := hg (s + 1)
  have h2 := hg (s + 2)
  unfold rf_rd at h
  repeat' split at h
  all_goals first | (cases h; done) | (cases h; (repeat' split) <;> omega)
end RFV
