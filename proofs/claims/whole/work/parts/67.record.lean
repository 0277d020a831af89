section RFRD
variable {n : Nat → Nat} {c : Nat}
/-- a cell of a leaf, its record's bytes apart -/
def rf_c0 (n : Nat → Nat) (c : Nat) (g : Nat → Nat) (i : Nat) : Prop :=
  ∃ y k z, rf_ln g i = some (rf_cL g i, y) ∧ rf_rd g (rf_st g (i + 1) + y) (rf_st g i) = some (k, z) ∧ rf_cL g i ≤ 307 ∧ rf_st g (i + 1) + y + z = rf_cb g i ∧ rf_cb g i + (if rf_cL g i ≤ 24 then rf_cL g i else 17) = rf_st g i ∧ rf_hn n c (rf_cp (rf_cL g i)) (rf_cf g i)
theorem rf_cl_c0 {g : Nat → Nat} {i : Nat} (h : rf_cl n c g i) : rf_c0 n c g i ∧ rf_wr (rf_rc n g i) (rf_cL g i) := by
  obtain ⟨y, k, z, h1, h2, h3, h4, h5, h6, h7⟩ := h
  exact ⟨⟨y, k, z, h1, h2, h3, h4, h5, h6⟩, h7⟩
def rf_sil (L : Nat) : Nat := if L ≤ 24 then L else 16
theorem rf_sizeInLeaf {L : Nat} (h : L < 2 ^ 20) : f_RF_sizeInLeaf (nI L) = some (nI (rf_sil L)) := by
  unfold rf_sil
  by_cases e : L ≤ 24
  · rw [if_pos e, f_RF_sizeInLeaf, pu_br_f (show ¬ (24 : Int32) < nI L from nI_nlt (a := 24) (b := L) e (by omega))]
  · rw [if_neg e, f_RF_sizeInLeaf, pu_br_t (show (24 : Int32) < nI L from nI_lt (a := 24) (b := L) (by omega) (by omega))]
    rfl
theorem rf_chainPages {L : Nat} (h : L < 2 ^ 20) : f_RF_chainPages (nI L) = some (nI (rf_cp L)) := by
  have e : rf_sil L ≤ L := by unfold rf_sil; split <;> omega
  rw [f_RF_chainPages, rf_sizeInLeaf h, pu_b1_s, pk_sub e, show nI (L - rf_sil L) + (63 : Int32) = nI (L - rf_sil L + 63) from nI_add _ 63, show nI (L - rf_sil L + 63) - (1 : Int32) = nI (L - rf_sil L + 63 - 1) from pk_sub (b := 1) (by omega), show nI (L - rf_sil L + 63 - 1) / (63 : Int32) = nI ((L - rf_sil L + 63 - 1) / 63) from pk_div (d := 63) (by omega) (by omega) (by omega)]
  congr 2
  unfold rf_sil rf_cp
  by_cases e : L ≤ 24
  · rw [if_pos e, if_pos e]; omega
  · rw [if_neg e, if_neg e]; omega
theorem rf_cpyok {b : Nat → Int32} {s d k N0 N1 : Nat} (h1 : s + k ≤ N0) (h2 : d + k ≤ N1) (hN0 : N0 < 2 ^ 31) (hN1 : N1 < 2 ^ 31) (h : ∀ i, i < k → ∃ v, b (s + i) = rf_sx v) : pu_cp .byte b (nI s) (nI d) (nI k) N0 N1 := by
  refine ⟨nI_pos (by omega), nI_pos (by omega), nI_pos (by omega), ?_, ?_, fun i hi => ?_⟩
  · rw [nI_clamp (by omega), nI_clamp (by omega)]; exact h1
  · rw [nI_clamp (by omega), nI_clamp (by omega)]; exact h2
  · rw [nI_clamp (by omega)] at hi ⊢
    obtain ⟨v, hv⟩ := h i hi
    rw [hv]; exact rf_sx_fits v
theorem rf_copyRecord {g : Nat → Nat} {cnt leaf : Int32} {b starts sizes : Nat → Int32} (h : rf_nd g cnt leaf b starts sizes) {i : Nat} (hi : i < g 1) (h0 : rf_c0 n c g i) (rb : Nat → Int32) :
    ∃ w, f_Node_copyRecord 307 cnt b starts sizes rb (nI i) (nI (rf_cL g i)) = some w ∧ ∀ k, k < rf_sil (rf_cL g i) → w k = rf_sx (g (rf_cb g i + k)) := by
  obtain ⟨y, kk, z, h1, h2, h3, h4, h5, h6⟩ := h0
  obtain ⟨hl, hg, hb, hle, rfl, hc⟩ := h
  have hs := rf_nd_st hl hi
  have h30 := hl.2.2.2.1
  have i31 : vp_in (nI i) 31 := vp_in_nI (by omega) (by decide)
  have hsil : rf_sil (rf_cL g i) ≤ 24 := by unfold rf_sil; split <;> omega
  refine ⟨va_cpy b rb (rf_cb g i) 0 (rf_sil (rf_cL g i)), ?_, fun k hk => ?_⟩
  · have main : ∀ x : Nat, x + rf_sil (rf_cL g i) = rf_st g i - rf_cb g i → x ≤ 1 → q_Node_copyRecord_17 307 (nI (g 1)) b starts sizes rb (nI i) (nI (rf_sil (rf_cL g i))) (nI x) = some (va_cpy b rb (rf_cb g i) 0 (rf_sil (rf_cL g i))) := by
      intro x hx hx1
      have e1 : nI (rf_st g (i + 1)) + nI (rf_st g i - rf_st g (i + 1)) = nI (rf_st g i) := by rw [nI_add]; congr 1; omega
      have e2 : (nI (rf_st g i) - nI x) - nI (rf_sil (rf_cL g i)) = nI (rf_cb g i) := by rw [pk_sub (by omega), pk_sub (by omega)]; congr 1; omega
      have hcp : pu_cp .byte b (nI (rf_cb g i)) 0 (nI (rf_sil (rf_cL g i))) 96 307 := rf_cpyok (d := 0) (by omega) (by omega) (by decide) (by decide) (fun j hj => ⟨_, hb _ (by omega)⟩)
      have c0 : (0 : Int32).toNatClampNeg = 0 := by decide
      rw [q_Node_copyRecord_17, rf_hasCell (by omega) (by omega), if_pos hi, pu_b1_s, pu_br_f (by decide), pu_br_f (nI_pos (by omega)), pu_br_f (show ¬ Int32.ofNat 307 < nI (rf_sil (rf_cL g i)) from nI_nlt (a := 307) (by omega) (by omega)), pu_ck_t i31, nI_clamp (by omega), (hc i hi).2, nI_add, pu_br_f (nI_nlt (by omega) (by omega)), pu_ck_t i31, pu_ck_t i31, (hc i hi).1, e1, e2, pu_ck_t hcp, nI_clamp (by omega), nI_clamp (by omega), c0, pu_nm]
    rw [f_Node_copyRecord, rf_sizeInLeaf (by omega), pu_b1_s]
    by_cases e : rf_cL g i ≤ 24
    · rw [pu_br_t (show nI (rf_cL g i) ≤ (24 : Int32) from nI_le (b := 24) e (by decide))]
      rw [if_pos e] at h5
      exact main 0 (by unfold rf_sil; rw [if_pos e]; omega) (by omega)
    · rw [pu_br_f (show ¬ nI (rf_cL g i) ≤ (24 : Int32) from nI_ge (a := 24) (by omega) (by omega))]
      rw [if_neg e] at h5
      exact main 1 (by unfold rf_sil; rw [if_neg e]; omega) (by omega)
  · rw [pk_cpy_in (by omega) (by omega), Nat.sub_zero, hb _ (by
      have : rf_sil (rf_cL g i) ≤ (if rf_cL g i ≤ 24 then rf_cL g i else 17) := by unfold rf_sil; split <;> omega
      omega)]
theorem rf_chainStart {g : Nat → Nat} {cnt leaf : Int32} {b starts sizes : Nat → Int32} (h : rf_nd g cnt leaf b starts sizes) {i : Nat} (hi : i < g 1) (hL : rf_cL g i < 2 ^ 31) : f_Node_chainStart cnt b starts sizes (nI i) (nI (rf_cL g i)) = some (nI (rf_cf g i)) := by
  obtain ⟨hl, hg, hb, hle, rfl, hc⟩ := h
  have hs := rf_nd_st hl hi
  have h30 := hl.2.2.2.1
  have i31 : vp_in (nI i) 31 := vp_in_nI (by omega) (by decide)
  rw [f_Node_chainStart, rf_hasCell (by omega) (by omega), if_pos hi, pu_b1_s, pu_br_f (by decide)]
  unfold rf_cf
  by_cases e : rf_cL g i ≤ 24
  · rw [if_pos e, pu_br_f (show ¬ (24 : Int32) < nI (rf_cL g i) from nI_nlt (a := 24) e (by omega))]
    rfl
  · have e1 : (nI (rf_st g (i + 1)) + nI (rf_st g i - rf_st g (i + 1))) - (1 : Int32) = nI (rf_st g i - 1) := by
      rw [nI_add, show nI (rf_st g (i + 1) + (rf_st g i - rf_st g (i + 1))) - (1 : Int32) = nI (rf_st g (i + 1) + (rf_st g i - rf_st g (i + 1)) - 1) from pk_sub (b := 1) (by omega)]
      congr 1; omega
    rw [if_neg e, pu_br_t (show (24 : Int32) < nI (rf_cL g i) from nI_lt (a := 24) (by omega) hL), pu_ck_t i31, pu_ck_t i31, nI_clamp (by omega), (hc i hi).1, (hc i hi).2, e1, pu_ck_t (vp_in_nI (by omega) (by decide)), nI_clamp (by omega), hb _ (by omega), rf_sx_and (hg _)]
theorem rf_copyOut {pb : Nat → Int32} (hn : rf_bt n) (hpb : rf_pg pb n) (hc : c ≤ 24) {p at' k : Nat} (h1 : 1 ≤ p) (h2 : p ≤ c) (hk : k < 64) (ha : at' + k ≤ 307) (rb : Nat → Int32) :
    ∃ w, f_Pages_copyOut 307 (nI c) pb rb (nI p) (nI at') (nI k) = some w ∧ (∀ j, j < k → w (at' + j) = rf_sx (n (64 * p + 1 + j))) ∧ ∀ j, j < at' → w j = rb j := by
  refine ⟨va_cpy pb rb (64 * (p - 1) + 1) at' k, ?_, fun j hj => ?_, fun j hj => pk_cpy_out (Or.inl hj)⟩
  · have e1 : ((nI p - (1 : Int32)) * (64 : Int32)) + (1 : Int32) = nI (64 * (p - 1) + 1) := rf_ix (a := 1) h1
    have hcp : pu_cp .byte pb (nI (64 * (p - 1) + 1)) (nI at') (nI k) 1536 307 := rf_cpyok (by omega) (by omega) (by decide) (by decide) (fun j hj => ⟨_, hpb _ (by omega)⟩)
    rw [f_Pages_copyOut, rf_has_in hc h1 h2 hk, pu_b1_s, pu_br_f (by decide), pu_br_f (nI_pos (by omega)), pu_br_f (nI_pos (by omega)), nI_add, pu_br_f (show ¬ Int32.ofNat 307 < nI (at' + k) from nI_nlt (a := 307) ha (by omega)), e1, pu_ck_t hcp, nI_clamp (by omega), nI_clamp (by omega), nI_clamp (by omega), pu_nm]
  · rw [pk_cpy_in (by omega) (by omega), hpb _ (by omega)]
    congr 2
    omega
theorem rf_cpL {L : Nat} (hL : L ≤ 307) : rf_cp L ≤ 5 := by unfold rf_cp; split <;> omega
/-- Rec.read: the record of a cell -/
theorem rf_read {pb : Nat → Int32} (hn : rf_bt n) (hpb : rf_pg pb n) (hc : c ≤ 24) {g : Nat → Nat} {cnt leaf : Int32} {b starts sizes : Nat → Int32} (h : rf_nd g cnt leaf b starts sizes) {i : Nat} (hi : i < g 1) (h0 : rf_c0 n c g i) (rl : Int32) (rb : Nat → Int32) :
    ∃ w, f_Rec_read (nI c) pb cnt b starts sizes rl rb (nI i) = some (nI (rf_cL g i), w) ∧ ∀ k, k < rf_cL g i → w k = rf_sx (rf_rc n g i k) := by
  have hrl := rf_recordLength h hi
  obtain ⟨w, hw1, hw2⟩ := rf_copyRecord h hi h0 rb
  have h0' := h0
  obtain ⟨y, kk, z, h1, h2, h3, h4, h5, h6⟩ := h0'
  have hcs := rf_chainStart h hi (by omega)
  have hcp := rf_cpL h3
  rw [h1, show rf_rv (some (rf_cL g i, y)) = nI (rf_cL g i) from rfl] at hrl
  rw [f_Rec_read, hrl, pu_b1_s, pu_br_f (nI_pos (by omega)), pu_br_t (show nI (rf_cL g i) ≤ (307 : Int32) from nI_le (b := 307) h3 (by decide)), rf_sizeInLeaf (by omega), pu_b1_s, hw1, pu_b1_s, hcs, pu_b1_s]
  refine rf_loop (fun f (st : Int32 × (Nat → Int32) × Int32) j => q_Rec_read_58 (nI c) pb cnt b starts sizes (nI (rf_cL g i)) f st.1 st.2.1 st.2.2 (nI j)) (fun j st => st.1 = nI (if rf_cL g i ≤ 24 then rf_cL g i else if 16 + 63 * j ≤ rf_cL g i then 16 + 63 * j else rf_cL g i) ∧ st.2.2 = nI (rf_lk n j (rf_cf g i)) ∧ ∀ k, k < rf_cL g i → (24 < rf_cL g i → k < 16 + 63 * j) → st.2.1 k = rf_sx (rf_rc n g i k)) (fun r => ∃ w, r = some (nI (rf_cL g i), w) ∧ ∀ k, k < rf_cL g i → w k = rf_sx (rf_rc n g i k)) (rf_cp (rf_cL g i)) ?_ ?_ (rf_cp (rf_cL g i)) pu_fu (nI (rf_sil (rf_cL g i)), w, nI (rf_cf g i)) 0 (by omega) (by rw [rf_fu]; omega) ⟨?_, rfl, ?_⟩
  · intro f st hst
    refine ⟨st.2.1, ?_, fun k hk => hst.2.2 k hk (fun hL => by unfold rf_cp; rw [if_neg (by omega)]; omega)⟩
    show q_Rec_read_58 (nI c) pb cnt b starts sizes (nI (rf_cL g i)) (f + 1) st.1 st.2.1 st.2.2 (nI (rf_cp (rf_cL g i))) = _
    rw [q_Rec_read_58, rf_chainPages (by omega), pu_b1_s, pu_br_t (nI_le (Nat.le_refl _) (by omega)), hst.1]
    congr 2
    congr 1
    unfold rf_cp
    by_cases e : rf_cL g i ≤ 24
    · rw [if_pos e]
    · rw [if_neg e, if_neg e]
      by_cases e2 : 16 + 63 * ((rf_cL g i - 16 + 62) / 63) ≤ rf_cL g i
      · rw [if_pos e2]; omega
      · rw [if_neg e2]
  · intro f st j hj hst
    have e24 : ¬ rf_cL g i ≤ 24 := fun q => by unfold rf_cp at hj; rw [if_pos q] at hj; omega
    have hj2 : 16 + 63 * j < rf_cL g i := by unfold rf_cp at hj; rw [if_neg e24] at hj; omega
    have hpg := rf_hn_lk h6 j hj
    have hst1 : st.1 = nI (16 + 63 * j) := by rw [hst.1, if_neg e24, if_pos (by omega)]
    have ht7 : (if nI (rf_cL g i) - nI (16 + 63 * j) < 63 then nI (rf_cL g i) - nI (16 + 63 * j) else 63) = nI (if rf_cL g i - (16 + 63 * j) < 63 then rf_cL g i - (16 + 63 * j) else 63) := by
      rw [pk_sub (by omega)]
      by_cases e : rf_cL g i - (16 + 63 * j) < 63
      · rw [if_pos e, if_pos (show nI (rf_cL g i - (16 + 63 * j)) < (63 : Int32) from nI_lt (b := 63) e (by decide))]
      · rw [if_neg e, if_neg (show ¬ nI (rf_cL g i - (16 + 63 * j)) < (63 : Int32) from nI_nlt (b := 63) (by omega) (by omega))]
        rfl
    obtain ⟨w', q1, q2, q3⟩ := rf_copyOut hn hpb hc (p := rf_lk n j (rf_cf g i)) (at' := 16 + 63 * j) (k := if rf_cL g i - (16 + 63 * j) < 63 then rf_cL g i - (16 + 63 * j) else 63) (by omega) hpg.2.1 (by split <;> omega) (by split <;> omega) st.2.1
    have hget : f_Pages_get (nI c) pb (nI (rf_lk n j (rf_cf g i))) 0 = some (nI (n (64 * rf_lk n j (rf_cf g i)))) := by
      have := rf_get hn hpb (c := c) (p := rf_lk n j (rf_cf g i)) (a := 0) hc (by omega) (by omega)
      rw [rf_gb_at (by omega) hpg.2.1 (by omega)] at this
      exact this
    have hlk : ∀ (m p : Nat), n (64 * rf_lk n m p) = rf_lk n (m + 1) p := by
      intro m
      induction m with
      | zero => intro p; rfl
      | succ m ih => intro p; rw [rf_lk, ih]; rfl
    refine Or.inl ⟨(nI (16 + 63 * j + (if rf_cL g i - (16 + 63 * j) < 63 then rf_cL g i - (16 + 63 * j) else 63)), w', nI (rf_lk n (j + 1) (rf_cf g i))), ⟨?_, rfl, fun k hk hk2 => ?_⟩, ?_⟩
    · dsimp only
      congr 1
      rw [if_neg e24]
      by_cases e : rf_cL g i - (16 + 63 * j) < 63
      · rw [if_pos e]
        by_cases e2 : 16 + 63 * (j + 1) ≤ rf_cL g i
        · omega
        · rw [if_neg e2]; omega
      · rw [if_neg e, if_pos (by omega)]; omega
    · have hk3 := hk2 (by omega)
      by_cases e : k < 16 + 63 * j
      · dsimp only
        rw [q3 k e]; exact hst.2.2 k hk (fun _ => e)
      · have hkk : k = 16 + 63 * j + (k - (16 + 63 * j)) := by omega
        have hlt : k - (16 + 63 * j) < if rf_cL g i - (16 + 63 * j) < 63 then rf_cL g i - (16 + 63 * j) else 63 := by split <;> omega
        have := q2 (k - (16 + 63 * j)) hlt
        rw [← hkk] at this
        dsimp only
        rw [this]
        unfold rf_rc
        rw [if_neg (fun q => by rcases q with q | q; exact e24 q; omega), show (k - 16) / 63 = j by omega, show (k - 16) % 63 = k - (16 + 63 * j) by omega]
    · show q_Rec_read_58 (nI c) pb cnt b starts sizes (nI (rf_cL g i)) (f + 1) st.1 st.2.1 st.2.2 (nI j) = _
      rw [q_Rec_read_58, rf_chainPages (by omega), pu_b1_s, pu_br_f (nI_ge hj (by omega)), hst1, hst.2.1, ht7, pu_nm, q1, pu_b1_s, nI_add, pu_nm, hget, pu_b1_s, nI_1, pu_nm, hlk]
  · show nI (rf_sil (rf_cL g i)) = _
    congr 1
    unfold rf_sil
    by_cases e : rf_cL g i ≤ 24
    · rw [if_pos e, if_pos e]
    · rw [if_neg e, if_neg e, if_pos (by omega)]
  · intro k hk hk2
    show w k = _
    unfold rf_rc
    by_cases e : rf_cL g i ≤ 24
    · rw [if_pos (Or.inl e), hw2 k (by unfold rf_sil; rw [if_pos e]; exact hk)]
    · rw [if_pos (Or.inr (by have := hk2 (by omega); omega)), hw2 k (by unfold rf_sil; rw [if_neg e]; have := hk2 (by omega); omega)]
end RFRD
