section RFFT
variable {n : Nat → Nat} {c p : Nat}
theorem rf_lk1 (n : Nat → Nat) : ∀ (m p : Nat), n (64 * rf_lk n m p) = rf_lk n (m + 1) p
  | 0, _ => rfl
  | m + 1, p => by rw [rf_lk, rf_lk1 n m]; rfl
theorem rf_fetch143 {kx : (Nat → Int32) → Int32 → Option (Int32 × Int32 × Int32 × Int32 × (Nat → Int32))} {mn : Nat → Int32} (hmn : rf_md mn n) {L q n0 : Nat} {at' bad x5 : Int32} (hq : 64 * q + 64 ≤ 1600) (hn0 : n0 ≤ L) (hL : L ≤ 700) (rec : Nat → Int32) :
    ∃ w, q_MD_fetchRecord_143 kx mn (nI L) at' bad x5 (nI q) pu_fu rec (nI n0) 1 = kx w (nI (n0 + (if L - n0 < 63 then L - n0 else 63))) ∧ (∀ k, k < n0 → w k = rec k) ∧ ∀ j, j < (if L - n0 < 63 then L - n0 else 63) → w (n0 + j) = nI (n (64 * q + 1 + j)) := by
  have hm : (if L - n0 < 63 then L - n0 else 63) ≤ 63 := by split <;> omega
  have hm2 : n0 + (if L - n0 < 63 then L - n0 else 63) ≤ L := by split <;> omega
  have hm3 : (if L - n0 < 63 then L - n0 else 63) = 63 ∨ n0 + (if L - n0 < 63 then L - n0 else 63) = L := by split <;> omega
  generalize (if L - n0 < 63 then L - n0 else 63) = M at *
  refine rf_loop (fun f (st : Nat → Int32) i => q_MD_fetchRecord_143 kx mn (nI L) at' bad x5 (nI q) f st (nI (n0 + i)) (nI (1 + i))) (fun i st => (∀ k, k < n0 → st k = rec k) ∧ ∀ j, j < i → st (n0 + j) = nI (n (64 * q + 1 + j))) (fun r => ∃ w, r = kx w (nI (n0 + M)) ∧ (∀ k, k < n0 → w k = rec k) ∧ ∀ j, j < M → w (n0 + j) = nI (n (64 * q + 1 + j))) M ?_ ?_ M pu_fu rec 0 (by omega) (by rw [rf_fu]; omega) ⟨fun _ _ => rfl, fun j hj => by omega⟩
  · intro f st h
    refine ⟨st, ?_, h⟩
    show q_MD_fetchRecord_143 kx mn (nI L) at' bad x5 (nI q) (f + 1) st (nI (n0 + M)) (nI (1 + M)) = _
    rw [q_MD_fetchRecord_143]
    rcases hm3 with e | e
    · rw [pu_br_t (show (64 : Int32) ≤ nI (1 + M) from nI_le (a := 64) (by omega) (by omega))]
    · by_cases e2 : 64 ≤ 1 + M
      · rw [pu_br_t (show (64 : Int32) ≤ nI (1 + M) from nI_le (a := 64) (by omega) (by omega))]
      · rw [pu_br_f (show ¬ (64 : Int32) ≤ nI (1 + M) from nI_ge (b := 64) (by omega) (by omega)), pu_br_t (nI_le (by omega) (by omega))]
  · intro f st i hi h
    refine Or.inl ⟨upd st (n0 + i) (nI (n (64 * q + 1 + i))), ⟨fun k hk => by rw [pk_un (by omega)]; exact h.1 k hk, fun j hj => ?_⟩, ?_⟩
    · by_cases e : j = i
      · subst e; exact pk_us
      · rw [pk_un (by omega)]; exact h.2 j (by omega)
    · show q_MD_fetchRecord_143 kx mn (nI L) at' bad x5 (nI q) (f + 1) st (nI (n0 + i)) (nI (1 + i)) = q_MD_fetchRecord_143 kx mn (nI L) at' bad x5 (nI q) f _ (nI (n0 + (i + 1))) (nI (1 + (i + 1)))
      rw [q_MD_fetchRecord_143, pu_br_f (show ¬ (64 : Int32) ≤ nI (1 + i) from nI_ge (b := 64) (by omega) (by omega)), pu_br_f (nI_ge (by omega) (by omega)), rf_mx, pu_ck_t (vp_in_nI (by omega) (by decide)), pu_ck_t (vp_in_nI (by omega) (by decide)), nI_clamp (by omega), nI_clamp (by omega), hmn _ (by omega), pu_nm, pu_nm, pu_nm, nI_1, nI_1]
      rw [show 64 * q + (1 + i) = 64 * q + 1 + i by omega, show n0 + i + 1 = n0 + (i + 1) by omega, show 1 + i + 1 = 1 + (i + 1) by omega]
/-- fetchRecord: the record of a cell -/
theorem rf_fetchRecord {mn : Nat → Int32} (hn : rf_bt n) (hmn : rf_md mn n) (h1 : 1 ≤ p) (h2 : p ≤ c) (hc : c ≤ 24) (hl : rf_lay (rf_gb n c p)) {i : Nat} (hi : i < rf_gb n c p 1) (h0 : rf_c0 n c (rf_gb n c p) i) (len at' bad : Int32) (rec : Nat → Int32) :
    ∃ a' w, f_MD_fetchRecord mn len at' bad rec (nI p) (nI i) = some (nI (rf_cf (rf_gb n c p) i), nI (rf_cL (rf_gb n c p) i), a', 0, w) ∧ ∀ k, k < rf_cL (rf_gb n c p) i → w k = nI (rf_rc n (rf_gb n c p) i k) := by
  have h30 := hl.2.2.2.1
  have hs := rf_nd_st hl hi
  obtain ⟨y, kk, z, k1, k2, k3, k4, k5, k6⟩ := h0
  have hgn : ∀ a, a < rf_st (rf_gb n c p) i → rf_gb n c p a = n (64 * p + a) := fun a ha => rf_gb_at h1 h2 (by omega)
  have r1 := rf_rd_shift hgn (show 64 * p + rf_st (rf_gb n c p) i ≤ 1600 by omega) k1
  have r2 := rf_rd_shift hgn (show 64 * p + rf_st (rf_gb n c p) i ≤ 1600 by omega) k2
  have e0 : (64 : Int32) * nI p = nI (64 * p) := pk_mul 64 p
  have l1 := rf_rd_lt (rf_gb_lt hn c p) k1
  have l2 := rf_rd_lt (rf_gb_lt hn c p) k2
  have e2 : 64 * p + (rf_st (rf_gb n c p) (i + 1) + y) = 64 * p + rf_st (rf_gb n c p) (i + 1) + y := by omega
  rw [e2] at r2
  rw [f_MD_fetchRecord, rf_begin hmn h1 h2 hc (by omega), pu_b1_s, e0, nI_add, pu_nm, rf_mread_ok hn hmn (by omega) r1, pu_b3_s, rf_mread_ok hn hmn (by omega) r2, pu_b3_s, show 64 * p + rf_st (rf_gb n c p) (i + 1) + y + z = 64 * p + rf_cb (rf_gb n c p) i by omega]
  generalize hA : 64 * p + rf_cb (rf_gb n c p) i = A
  generalize hLL : rf_cL (rf_gb n c p) i = L at *
  -- the first loop
  have loop1 : ∀ (s : Nat) (kx : (Nat → Int32) → Option (Int32 × Int32 × Int32 × Int32 × (Nat → Int32))) (lenI : Int32), s ≤ 24 → A + s ≤ 1600 → ∃ w, q_MD_fetchRecord_70 kx mn lenI (nI A) 0 (nI s) pu_fu rec 0 = kx w ∧ ∀ k, k < s → w k = nI (n (A + k)) := by
    intro s kx lenI hs24 hAs
    refine rf_loop (fun f (st : Nat → Int32) j => q_MD_fetchRecord_70 kx mn lenI (nI A) 0 (nI s) f st (nI j)) (fun j st => ∀ k, k < j → st k = nI (n (A + k))) (fun r => ∃ w, r = kx w ∧ ∀ k, k < s → w k = nI (n (A + k))) s ?_ ?_ s pu_fu rec 0 (by omega) (by rw [rf_fu]; omega) (fun k hk => by omega)
    · intro f st h
      refine ⟨st, ?_, h⟩
      show q_MD_fetchRecord_70 kx mn lenI (nI A) 0 (nI s) (f + 1) st (nI s) = _
      rw [q_MD_fetchRecord_70, pu_br_t (nI_le (Nat.le_refl _) (by omega))]
    · intro f st j hj h
      refine Or.inl ⟨upd st j (nI (n (A + j))), fun k hk => ?_, ?_⟩
      · by_cases e : k = j
        · subst e; exact pk_us
        · rw [pk_un e]; exact h k (by omega)
      · show q_MD_fetchRecord_70 kx mn lenI (nI A) 0 (nI s) (f + 1) st (nI j) = q_MD_fetchRecord_70 kx mn lenI (nI A) 0 (nI s) f _ (nI (j + 1))
        rw [q_MD_fetchRecord_70, pu_br_f (nI_ge hj (by omega)), nI_add, pu_ck_t (vp_in_nI (by omega) (by decide)), pu_ck_t (vp_in_nI (by omega) (by decide)), nI_clamp (by omega), nI_clamp (by omega), hmn _ (by omega), pu_nm, nI_1, pu_nm]
  by_cases e24 : L ≤ 24
  · rw [if_pos e24] at k5
    have hcf : rf_cf (rf_gb n c p) i = 0 := by unfold rf_cf; rw [hLL, if_pos e24]
    obtain ⟨w, q1, q2⟩ := loop1 L (fun v_record => q_MD_fetchRecord_102 mn (nI L) (nI A) 0 v_record (nI L)) (nI L) e24 (by omega)
    refine ⟨nI A, w, ?_, fun k hk => ?_⟩
    · rw [pu_br_t (show nI L ≤ (24 : Int32) from nI_le (b := 24) e24 (by decide)), q_MD_fetchRecord_65, q1, q_MD_fetchRecord_102, pu_br_t rfl, hcf]
      rfl
    · unfold rf_rc
      rw [q2 k hk, hLL, if_pos (Or.inl e24), rf_gb_at h1 h2 (by omega), ← hA, Nat.add_assoc]
  · rw [if_neg e24] at k5
    have hcf : rf_cf (rf_gb n c p) i = n (A + 16) := by
      unfold rf_cf
      rw [hLL, if_neg e24, show rf_st (rf_gb n c p) i - 1 = rf_cb (rf_gb n c p) i + 16 by omega, rf_gb_at h1 h2 (by omega), ← hA, Nat.add_assoc]
    obtain ⟨w, q1, q2⟩ := loop1 16 (fun v_record => q_MD_fetchRecord_102 mn (nI L) (nI A) 0 v_record (nI 16)) (nI L) (by omega) (by omega)
    have e16 : nI A + (16 : Int32) = nI (A + 16) := nI_add A 16
    rw [hcf] at k6 ⊢
    have hcp := rf_cpL k3
    have hcpe : rf_cp L = (L - 16 + 62) / 63 := by unfold rf_cp; rw [if_neg e24]
    have main : ∃ w2, q_MD_fetchRecord_131 mn (nI L) (nI A) 0 (nI (n (A + 16))) pu_fu w (nI 16) (nI (n (A + 16))) = some (nI (n (A + 16)), nI L, nI A, 0, w2) ∧ ∀ k, k < L → w2 k = nI (rf_rc n (rf_gb n c p) i k) := by
      refine rf_loop (fun f (st : (Nat → Int32) × Int32 × Int32) j => q_MD_fetchRecord_131 mn (nI L) (nI A) 0 (nI (n (A + 16))) f st.1 st.2.1 st.2.2) (fun j st => st.2.1 = nI (if 16 + 63 * j ≤ L then 16 + 63 * j else L) ∧ st.2.2 = nI (rf_lk n j (n (A + 16))) ∧ ∀ k, k < L → k < 16 + 63 * j → st.1 k = nI (rf_rc n (rf_gb n c p) i k)) (fun r => ∃ w2, r = some (nI (n (A + 16)), nI L, nI A, 0, w2) ∧ ∀ k, k < L → w2 k = nI (rf_rc n (rf_gb n c p) i k)) (rf_cp L) ?_ ?_ (rf_cp L) pu_fu (w, nI 16, nI (n (A + 16))) 0 (by omega) (by rw [rf_fu]; omega) ⟨?_, rfl, ?_⟩
      · intro f st h
        refine ⟨st.1, ?_, fun k hk => h.2.2 k hk (by omega)⟩
        show q_MD_fetchRecord_131 mn (nI L) (nI A) 0 (nI (n (A + 16))) (f + 1) st.1 st.2.1 st.2.2 = _
        rw [q_MD_fetchRecord_131, h.1, pu_br_t (nI_le (by split <;> omega) (by split <;> omega))]
      · intro f st j hj h
        have hj2 : 16 + 63 * j < L := by omega
        have hpg := rf_hn_lk k6 j hj
        have hst1 : st.2.1 = nI (16 + 63 * j) := by rw [h.1, if_pos (by omega)]
        obtain ⟨w3, p1, p2, p3⟩ := rf_fetch143 (kx := fun v_record x_4 => q_MD_fetchRecord_188 (q_MD_fetchRecord_131 mn (nI L) (nI A) 0 (nI (n (A + 16))) f) mn (nI L) (nI A) 0 v_record x_4 (nI (n (A + 16))) (nI (rf_lk n j (n (A + 16))))) hmn (L := L) (q := rf_lk n j (n (A + 16))) (n0 := 16 + 63 * j) (at' := nI A) (bad := 0) (x5 := nI (n (A + 16))) (by omega) (by omega) (by omega) st.1
        refine Or.inl ⟨(w3, nI (16 + 63 * j + (if L - (16 + 63 * j) < 63 then L - (16 + 63 * j) else 63)), nI (rf_lk n (j + 1) (n (A + 16)))), ⟨?_, rfl, fun k hk hk2 => ?_⟩, ?_⟩
        · dsimp only
          congr 1
          by_cases e : L - (16 + 63 * j) < 63
          · rw [if_pos e]
            by_cases e2 : 16 + 63 * (j + 1) ≤ L
            · omega
            · rw [if_neg e2]; omega
          · rw [if_neg e, if_pos (by omega)]; omega
        · dsimp only
          by_cases e : k < 16 + 63 * j
          · rw [p2 k e]; exact h.2.2 k hk e
          · have hkk : k = 16 + 63 * j + (k - (16 + 63 * j)) := by omega
            have hlt : k - (16 + 63 * j) < if L - (16 + 63 * j) < 63 then L - (16 + 63 * j) else 63 := by split <;> omega
            have := p3 (k - (16 + 63 * j)) hlt
            rw [← hkk] at this
            rw [this]
            unfold rf_rc
            rw [hLL, if_neg (fun q => by rcases q with q | q; exact e24 q; omega), show (k - 16) / 63 = j by omega, show (k - 16) % 63 = k - (16 + 63 * j) by omega, hcf]
        · show q_MD_fetchRecord_131 mn (nI L) (nI A) 0 (nI (n (A + 16))) (f + 1) st.1 st.2.1 st.2.2 = _
          have e64 : (64 : Int32) * nI (rf_lk n j (n (A + 16))) = nI (64 * rf_lk n j (n (A + 16))) := pk_mul 64 _
          rw [q_MD_fetchRecord_131, hst1, h.2.1, pu_br_f (nI_ge hj2 (by omega)), p1, q_MD_fetchRecord_188, e64, pu_ck_t (vp_in_nI (by omega) (by decide)), nI_clamp (by omega), hmn _ (by omega), pu_nm, rf_lk1 n]
      · show nI 16 = _
        rw [if_pos (by omega)]
      · intro k hk hk2
        show w k = _
        unfold rf_rc
        rw [q2 k (by omega), hLL, if_pos (Or.inr (by omega)), rf_gb_at h1 h2 (by omega), ← hA, Nat.add_assoc]
    obtain ⟨w2, p1, p2⟩ := main
    refine ⟨nI A, w2, ?_, p2⟩
    rw [pu_br_f (show ¬ nI L ≤ (24 : Int32) from nI_ge (a := 24) (by omega) (by omega)), q_MD_fetchRecord_65]
    refine Eq.trans q1 ?_
    show q_MD_fetchRecord_102 mn (nI L) (nI A) 0 w (nI 16) = _
    rw [q_MD_fetchRecord_102, pu_br_f (fun q => by have := (nI_eq (by omega) (by omega)).mp q; omega), e16, pu_ck_t (vp_in_nI (by omega) (by decide)), nI_clamp (by omega), hmn _ (by omega), pu_nm]
    exact p1
end RFFT
