section RFVW
/-- a number's groups -/
def rf_vz (v : Nat) : Nat := if v < 128 then 1 else if v < 16384 then 2 else 3
def rf_ve (v j : Nat) : Nat := v / 2 ^ (7 * (rf_vz v - 1 - j)) % 128 + (if j + 1 < rf_vz v then 128 else 0)
theorem rf_vz_le (v : Nat) : 1 ≤ rf_vz v ∧ rf_vz v ≤ 3 := by
  unfold rf_vz
  by_cases c1 : v < 128
  · rw [if_pos c1]; omega
  · rw [if_neg c1]; split <;> omega
theorem rf_ve_lt (v j : Nat) : rf_ve v j < 256 := by
  unfold rf_ve
  have := Nat.mod_lt (v / 2 ^ (7 * (rf_vz v - 1 - j))) (show 0 < 128 by decide)
  split <;> omega
theorem rf_rd_ve {g : Nat → Nat} {v s e : Nat} (hv : v < 2097152) (he : s + rf_vz v ≤ e) (hg : ∀ j, j < rf_vz v → g (s + j) = rf_ve v j) : rf_rd g s e = some (v, rf_vz v) := by
  unfold rf_vz at he
  unfold rf_rd
  by_cases c1 : v < 128
  · have z : rf_vz v = 1 := by unfold rf_vz; rw [if_pos c1]
    have g0 := hg 0 (by omega)
    unfold rf_ve at g0
    rw [z] at g0
    rw [if_pos c1] at he
    have : g s = v := by
      rw [Nat.add_zero] at g0
      rw [g0, if_neg (by omega)]
      show v / 1 % 128 + 0 = v
      omega
    rw [if_neg (by omega), this, if_neg (by omega), if_pos c1, z]
  rw [if_neg c1] at he
  by_cases c2 : v < 16384
  · have z : rf_vz v = 2 := by unfold rf_vz; rw [if_neg c1, if_pos c2]
    have g0 := hg 0 (by omega)
    have g1 := hg 1 (by omega)
    unfold rf_ve at g0 g1
    rw [z] at g0 g1
    rw [if_pos c2] at he
    rw [if_pos (by omega), Nat.add_zero, show 2 ^ (7 * (2 - 1 - 0)) = 128 from rfl] at g0
    rw [if_neg (by omega), show 2 ^ (7 * (2 - 1 - 1)) = 1 from rfl] at g1
    rw [if_neg (by omega), if_neg (by omega), if_neg (by omega), if_neg (by omega), if_pos (by omega), z]
    congr 2
    omega
  · have z : rf_vz v = 3 := by unfold rf_vz; rw [if_neg c1, if_neg c2]
    have g0 := hg 0 (by omega)
    have g1 := hg 1 (by omega)
    have g2 := hg 2 (by omega)
    unfold rf_ve at g0 g1 g2
    rw [z] at g0 g1 g2
    rw [if_neg c2] at he
    rw [if_pos (by omega), Nat.add_zero, show 2 ^ (7 * (3 - 1 - 0)) = 16384 from rfl] at g0
    rw [if_pos (by omega), show 2 ^ (7 * (3 - 1 - 1)) = 128 from rfl] at g1
    rw [if_neg (by omega), show 2 ^ (7 * (3 - 1 - 2)) = 1 from rfl] at g2
    rw [if_neg (by omega), if_neg (by omega), if_neg (by omega), if_neg (by omega), if_neg (by omega), if_neg (by omega), if_pos (by omega), z]
    congr 2
    omega
theorem rf_wv_sh : ∀ z, z < 4 → ∀ j, j < z → ((((7 : Int32) * ((nI z - 1) - nI j)) &&& 31).toBitVec.smod 32).toNat = 7 * (z - 1 - j) := by decide
theorem rf_varintSize {v : Nat} (hv : v < 2 ^ 31) : f_RF_varintSize (nI v) = some (nI (rf_vz v)) := by
  unfold rf_vz
  rw [f_RF_varintSize]
  by_cases c1 : v < 128
  · rw [if_pos c1, pu_br_f (show ¬ (128 : Int32) ≤ nI v from nI_ge (b := 128) c1 (by omega))]; rfl
  rw [if_neg c1, pu_br_t (show (128 : Int32) ≤ nI v from nI_le (a := 128) (by omega) hv)]
  by_cases c2 : v < 16384
  · rw [if_pos c2, pu_br_f (show ¬ (16384 : Int32) ≤ nI v from nI_ge (b := 16384) c2 (by omega))]; rfl
  · rw [if_neg c2, pu_br_t (show (16384 : Int32) ≤ nI v from nI_le (a := 16384) (by omega) hv)]; rfl
theorem rf_writeVarint {N : Nat} {b : Nat → Int32} {s v : Nat} (hv : v < 2097152) (hN : N < 2 ^ 20) (hs : s + rf_vz v ≤ N) :
    ∃ w, f_RF_writeVarint N b (nI s) (nI v) = some (nI (s + rf_vz v), w) ∧ (∀ j, j < rf_vz v → w (s + j) = rf_sx (rf_ve v j)) ∧ ∀ k, k < s ∨ s + rf_vz v ≤ k → w k = b k := by
  have hz := rf_vz_le v
  have key : ∃ w, q_RF_writeVarint_22 (fun v_p0 => q_RF_writeVarint_76 N v_p0 (nI s) (nI (rf_vz v))) N (nI s) (nI v) (nI (rf_vz v)) pu_fu b 0 = some (nI (s + rf_vz v), w) ∧ (∀ j, j < rf_vz v → w (s + j) = rf_sx (rf_ve v j)) ∧ ∀ k, k < s ∨ s + rf_vz v ≤ k → w k = b k := by
    refine rf_loop (fun f x i => q_RF_writeVarint_22 (fun v_p0 => q_RF_writeVarint_76 N v_p0 (nI s) (nI (rf_vz v))) N (nI s) (nI v) (nI (rf_vz v)) f x (nI i)) (fun i x => (∀ j, j < i → x (s + j) = rf_sx (rf_ve v j)) ∧ ∀ k, k < s ∨ s + i ≤ k → x k = b k) (fun r => ∃ w, r = some (nI (s + rf_vz v), w) ∧ (∀ j, j < rf_vz v → w (s + j) = rf_sx (rf_ve v j)) ∧ ∀ k, k < s ∨ s + rf_vz v ≤ k → w k = b k) (rf_vz v) ?_ ?_ (rf_vz v) pu_fu b 0 (by omega) (by rw [rf_fu]; omega) ⟨fun j hj => by omega, fun _ _ => rfl⟩
    · rintro f x ⟨h1, h2⟩
      refine ⟨x, ?_, h1, h2⟩
      show q_RF_writeVarint_22 (fun v_p0 => q_RF_writeVarint_76 N v_p0 (nI s) (nI (rf_vz v))) N (nI s) (nI v) (nI (rf_vz v)) (f + 1) x (nI (rf_vz v)) = _
      rw [q_RF_writeVarint_22, pu_br_t (nI_le (Nat.le_refl _) (by omega)), q_RF_writeVarint_76, nI_add]
    · rintro f x i hi ⟨h1, h2⟩
      have e1 : (nI v >>> (((7 : Int32) * ((nI (rf_vz v) - 1) - nI i)) &&& 31)) &&& (127 : Int32) = nI (v / 2 ^ (7 * (rf_vz v - 1 - i)) % 128) := by
        rw [pk_shrN (by omega) _ _ (rf_wv_sh _ (by omega) _ hi)]
        refine pk_andN ?_ 7 (by decide)
        have := Nat.div_le_self v (2 ^ (7 * (rf_vz v - 1 - i)))
        omega
      have e2 : nI (rf_vz v) - (1 : Int32) = nI (rf_vz v - 1) := pk_sub (b := 1) (by omega)
      refine Or.inl ⟨upd x (s + i) (rf_sx (rf_ve v i)), ⟨fun j hj => ?_, fun k hk => by rw [pk_un (by omega)]; exact h2 k (by omega)⟩, ?_⟩
      · by_cases e : j = i
        · subst e; rw [pk_us]
        · rw [pk_un (by omega)]; exact h1 j (by omega)
      · show q_RF_writeVarint_22 (fun v_p0 => q_RF_writeVarint_76 N v_p0 (nI s) (nI (rf_vz v))) N (nI s) (nI v) (nI (rf_vz v)) (f + 1) x (nI i) = q_RF_writeVarint_22 (fun v_p0 => q_RF_writeVarint_76 N v_p0 (nI s) (nI (rf_vz v))) N (nI s) (nI v) (nI (rf_vz v)) f (upd x (s + i) (rf_sx (rf_ve v i))) (nI (i + 1))
        rw [q_RF_writeVarint_22, pu_br_f (nI_ge hi (by omega)), e1, pu_nm, e2]
        unfold rf_ve
        by_cases c : i + 1 < rf_vz v
        · rw [pu_br_f (nI_ge (by omega) (by omega)), q_RF_writeVarint_68, nI_add, pu_ck_t (vp_in_nI (by omega) (by omega)), nI_clamp (by omega), show nI (v / 2 ^ (7 * (rf_vz v - 1 - i)) % 128) + (128 : Int32) = nI (v / 2 ^ (7 * (rf_vz v - 1 - i)) % 128 + 128) from nI_add _ 128, rf_nar_sx, pu_nm, nI_1, pu_nm, if_pos c]
        · rw [pu_br_t (nI_le (by omega) (by omega)), q_RF_writeVarint_68, nI_add, pu_ck_t (vp_in_nI (by omega) (by omega)), nI_clamp (by omega), rf_nar_sx, pu_nm, nI_1, pu_nm, if_neg c]
          rfl
  obtain ⟨w, k1, k2, k3⟩ := key
  refine ⟨w, ?_, k2, k3⟩
  rw [f_RF_writeVarint, rf_varintSize (by omega), pu_b1_s, pu_br_f (nI_pos (by omega)), nI_add, show Int32.ofNat N = nI N from rfl, pu_br_t (nI_le hs (by omega)), k1]
theorem rf_orN (x y : Nat) : nI x ||| nI y = nI (x ||| y) := by
  apply Int32.toBitVec_inj.mp
  show BitVec.ofNat 32 x ||| BitVec.ofNat 32 y = BitVec.ofNat 32 (x ||| y)
  exact BitVec.ofNat_or.symm
theorem rf_or128 : ∀ x, x < 128 → x ||| 128 = x + 128 := by decide +kernel
theorem rf_mvarint {N : Nat} {b : Nat → Int32} {s v : Nat} (hv : v < 2097152) (hN : N < 2 ^ 20) (hs : s + rf_vz v ≤ N) :
    ∃ w, f_MD_varint N b (nI s) (nI v) = some (nI (s + rf_vz v), w) ∧ (∀ j, j < rf_vz v → w (s + j) = nI (rf_ve v j)) ∧ ∀ k, k < s ∨ s + rf_vz v ≤ k → w k = b k := by
  have hz := rf_vz_le v
  have sh21 : nI v >>> ((21 : Int32) &&& 31) = nI (v / 2 ^ 21) := pk_shrN (by omega) _ 21 (by decide)
  have sh14 : nI v >>> ((14 : Int32) &&& 31) = nI (v / 2 ^ 14) := pk_shrN (by omega) _ 14 (by decide)
  have sh7 : nI v >>> ((7 : Int32) &&& 31) = nI (v / 2 ^ 7) := pk_shrN (by omega) _ 7 (by decide)
  have d21 : v / 2 ^ 21 = 0 := by omega
  have hF : f_MD_varint N b (nI s) (nI v) = q_MD_varint_6 (fun v_p0 x_3 => q_MD_varint_41 N v_p0 (nI v) x_3) N (nI v) (1996 + 1 + 1 + 1 + 1) b (nI s) 21 := by
    rw [f_MD_varint]; rfl
  have gr : ∀ k, k = 7 ∨ k = 14 → (nI (v / 2 ^ k) &&& (127 : Int32)) ||| (128 : Int32) = nI (v / 2 ^ k % 128 + 128) := by
    intro k hk
    have := Nat.div_le_self v (2 ^ k)
    rw [show nI (v / 2 ^ k) &&& (127 : Int32) = nI (v / 2 ^ k % 128) from pk_andN (by omega) 7 (by decide), show (128 : Int32) = nI 128 from rfl, rf_orN, rf_or128 _ (Nat.mod_lt _ (by decide))]
  have lo : nI v &&& (127 : Int32) = nI (v % 128) := pk_andN (by omega) 7 (by decide)
  have m7 : (21 : Int32) + -7 = 14 := by decide
  have m14 : (14 : Int32) + -7 = 7 := by decide
  have m0 : (7 : Int32) + -7 = 0 := by decide
  have h21 : ∀ (x : Nat → Int32) (t : Int32), q_MD_varint_6 (fun v_p0 x_3 => q_MD_varint_41 N v_p0 (nI v) x_3) N (nI v) (1996 + 1 + 1 + 1 + 1) x t 21 = q_MD_varint_6 (fun v_p0 x_3 => q_MD_varint_41 N v_p0 (nI v) x_3) N (nI v) (1996 + 1 + 1 + 1) x t 14 := by
    intro x t
    rw [q_MD_varint_6, pu_br_f (by decide), sh21, d21, pu_br_t (by decide), q_MD_varint_35, m7, pu_nm]
  have hend : ∀ (x : Nat → Int32) (t : Nat), t < N → q_MD_varint_6 (fun v_p0 x_3 => q_MD_varint_41 N v_p0 (nI v) x_3) N (nI v) (1996 + 1) x (nI t) 0 = some (nI (t + 1), upd x t (nI (v % 128))) := by
    intro x t ht
    rw [q_MD_varint_6, pu_br_t (by decide), q_MD_varint_41, pu_ck_t (vp_in_nI (by omega) (by omega)), nI_clamp (by omega), lo, pu_nm, nI_1]
  rw [hF, h21]
  by_cases c1 : v < 128
  · have z : rf_vz v = 1 := by unfold rf_vz; rw [if_pos c1]
    rw [z] at hs ⊢
    refine ⟨upd b s (nI (v % 128)), ?_, fun j hj => ?_, fun k hk => by rw [pk_un (by omega)]⟩
    · rw [q_MD_varint_6, pu_br_f (by decide), sh14, show v / 2 ^ 14 = 0 by omega, pu_br_t (by decide), q_MD_varint_35, m14, pu_nm, q_MD_varint_6, pu_br_f (by decide), sh7, show v / 2 ^ 7 = 0 by omega, pu_br_t (by decide), q_MD_varint_35, m0, pu_nm, hend b s (by omega)]
    · rw [show j = 0 by omega, Nat.add_zero, pk_us]
      unfold rf_ve
      rw [z, if_neg (by omega)]
      show _ = nI (v / 1 % 128 + 0)
      rw [Nat.div_one, Nat.add_zero]
  by_cases c2 : v < 16384
  · have z : rf_vz v = 2 := by unfold rf_vz; rw [if_neg c1, if_pos c2]
    rw [z] at hs ⊢
    refine ⟨upd (upd b s (nI (v / 2 ^ 7 % 128 + 128))) (s + 1) (nI (v % 128)), ?_, fun j hj => ?_, fun k hk => by rw [pk_un (by omega), pk_un (by omega)]⟩
    · rw [q_MD_varint_6, pu_br_f (by decide), sh14, show v / 2 ^ 14 = 0 by omega, pu_br_t (by decide), q_MD_varint_35, m14, pu_nm, q_MD_varint_6, pu_br_f (by decide), sh7, pu_br_f (nI_nle (by omega) (by omega)), pu_ck_t (vp_in_nI (by omega) (by omega)), nI_clamp (by omega), gr 7 (Or.inl rfl), pu_nm, nI_1, pu_nm, q_MD_varint_35, m0, pu_nm, hend _ (s + 1) (by omega)]
    · unfold rf_ve
      rw [z]
      by_cases e : j = 0
      · rw [e, pk_un (by omega), if_pos (by omega)]; exact pk_us
      · rw [show j = 1 by omega, pk_us, if_neg (by omega)]
        show _ = nI (v / 1 % 128 + 0)
        rw [Nat.div_one, Nat.add_zero]
  · have z : rf_vz v = 3 := by unfold rf_vz; rw [if_neg c1, if_neg c2]
    rw [z] at hs ⊢
    refine ⟨upd (upd (upd b s (nI (v / 2 ^ 14 % 128 + 128))) (s + 1) (nI (v / 2 ^ 7 % 128 + 128))) (s + 1 + 1) (nI (v % 128)), ?_, fun j hj => ?_, fun k hk => by rw [pk_un (by omega), pk_un (by omega), pk_un (by omega)]⟩
    · rw [q_MD_varint_6, pu_br_f (by decide), sh14, pu_br_f (nI_nle (by omega) (by omega)), pu_ck_t (vp_in_nI (by omega) (by omega)), nI_clamp (by omega), gr 14 (Or.inr rfl), pu_nm, nI_1, pu_nm, q_MD_varint_35, m14, pu_nm, q_MD_varint_6, pu_br_f (by decide), sh7, pu_br_f (nI_nle (by omega) (by omega)), pu_ck_t (vp_in_nI (by omega) (by omega)), nI_clamp (by omega), gr 7 (Or.inl rfl), pu_nm, nI_1, pu_nm, q_MD_varint_35, m0, pu_nm, hend _ (s + 1 + 1) (by omega)]
    · unfold rf_ve
      rw [z]
      by_cases e : j = 0
      · rw [e, pk_un (by omega), pk_un (by omega), if_pos (by omega)]; exact pk_us
      by_cases e1 : j = 1
      · rw [e1, pk_un (by omega), pk_us, if_pos (by omega)]
      · rw [show j = 2 by omega, show s + 2 = s + 1 + 1 by omega, pk_us, if_neg (by omega)]
        show _ = nI (v / 1 % 128 + 0)
        rw [Nat.div_one, Nat.add_zero]
end RFVW
