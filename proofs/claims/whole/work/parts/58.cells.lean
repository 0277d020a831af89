section RFC
/-- the length and the key of a page's cell -/
def rf_ln (g : Nat → Nat) (i : Nat) : Option (Nat × Nat) := rf_rd g (rf_st g (i + 1)) (rf_st g i)
def rf_ky (g : Nat → Nat) (i : Nat) : Option (Nat × Nat) :=
  if g 0 = 13 then (match rf_ln g i with
    | none => none
    | some q => rf_rd g (rf_st g (i + 1) + q.2) (rf_st g i)) else rf_rd g (rf_st g (i + 1) + 1) (rf_st g i)
/-- a node in hand that is a page's: what its methods need -/
def rf_nd (g : Nat → Nat) (cnt leaf : Int32) (b starts sizes : Nat → Int32) : Prop :=
  rf_lay g ∧ (∀ k, g k < 256) ∧ (∀ a, a < 64 → b a = rf_sx (g a)) ∧ leaf = nI (rf_dv (g 0 = 13)) ∧ cnt = nI (g 1) ∧ ∀ i, i < g 1 → starts i = nI (rf_st g (i + 1)) ∧ sizes i = nI (rf_st g i - rf_st g (i + 1))
theorem rf_nd_of {g : Nat → Nat} {r cnt last leaf : Int32} {b starts sizes : Nat → Int32} (hg : ∀ k, g k < 256) (h : rf_ld g r cnt last leaf b starts sizes) (hl : rf_lay g) : r = 1 ∧ rf_nd g cnt leaf b starts sizes := by
  obtain ⟨h1, h2, h3, h4⟩ := h
  rcases h4 with ⟨k1, k2, k3, k4⟩ | ⟨k1, k2, k3⟩
  · exact ⟨k2, k1, hg, h1, h3, k3, k4⟩
  · exact absurd hl k1
theorem rf_nd_st {g : Nat → Nat} (h : rf_lay g) {i : Nat} (hi : i < g 1) : rf_st g (i + 1) < rf_st g i ∧ rf_st g i ≤ 64 ∧ 4 ≤ rf_st g (i + 1) := by
  have h1 := h.2.2.2.2.1 i hi
  have h2 := rf_st_le (m := g 1) (g := g) h.2.2.2.2.1 i (by omega)
  exact ⟨h1.1, h2, by have := h1.2; omega⟩
theorem rf_hasCell {m i : Nat} (hm : m < 2 ^ 31) (hi : i < 2 ^ 31) : f_Node_hasCell (nI m) (nI i) = some (nI (if i < m then 1 else 0)) := by
  by_cases h : i < m
  · rw [if_pos h]
    simp (disch := omega) only [f_Node_hasCell, rf_lit, nI_add, pk_mul, pk_sub, nI_ltI, nI_leI, nI_eq, rf_in, nI_clamp, pu_br_t, pu_br_f, pu_ck_t, pu_brT, pu_brF, pu_ckT, pu_nm, pu_b0_s, pu_b1_s, pu_b2_s, pu_b3_s, pu_b4_s, pu_b5_s, pu_b6_s, pu_b7_s, pu_b8_s, pu_b9_s, pu_b10_s, pu_b11_s, pu_b12_s, pu_b13_s, pu_b14_s, pu_b15_s, pu_b16_s, pu_b17_s, pu_b18_s, pu_b19_s, pu_b20_s, pu_b21_s, pu_b22_s, pu_b23_s, pu_b24_s, pu_b25_s]
  · rw [if_neg h]
    simp (disch := omega) only [f_Node_hasCell, rf_lit, nI_add, pk_mul, pk_sub, nI_ltI, nI_leI, nI_eq, rf_in, nI_clamp, pu_br_t, pu_br_f, pu_ck_t, pu_brT, pu_brF, pu_ckT, pu_nm, pu_b0_s, pu_b1_s, pu_b2_s, pu_b3_s, pu_b4_s, pu_b5_s, pu_b6_s, pu_b7_s, pu_b8_s, pu_b9_s, pu_b10_s, pu_b11_s, pu_b12_s, pu_b13_s, pu_b14_s, pu_b15_s, pu_b16_s, pu_b17_s, pu_b18_s, pu_b19_s, pu_b20_s, pu_b21_s, pu_b22_s, pu_b23_s, pu_b24_s, pu_b25_s]
theorem rf_recordLength {g : Nat → Nat} {cnt leaf : Int32} {b starts sizes : Nat → Int32} (h : rf_nd g cnt leaf b starts sizes) {i : Nat} (hi : i < g 1) : f_Node_recordLength cnt b starts sizes (nI i) = some (rf_rv (rf_ln g i)) := by
  obtain ⟨hl, hg, hb, hle, rfl, hc⟩ := h
  have hs := rf_nd_st hl hi
  have h30 := hl.2.2.2.1
  have i31 : vp_in (nI i) 31 := vp_in_nI (by omega) (by decide)
  have e1 : nI (rf_st g (i + 1)) + nI (rf_st g i - rf_st g (i + 1)) = nI (rf_st g i) := by rw [nI_add]; congr 1; omega
  rw [f_Node_recordLength, rf_hasCell (by omega) (by omega), if_pos hi, pu_b1_s, pu_br_f (by decide), pu_ck_t i31, pu_ck_t i31, pu_ck_t i31, nI_clamp (by omega), (hc i hi).1, (hc i hi).2, e1, rf_readVarint (g := g) hg (fun k hk => by rw [hb k (by omega)]; exact rf_sx_and (hg k)) (by omega) (by omega) (by omega), pu_b1_s]
  rfl
theorem rf_cellKey {g : Nat → Nat} {cnt leaf : Int32} {b starts sizes : Nat → Int32} (h : rf_nd g cnt leaf b starts sizes) {i : Nat} (hi : i < g 1) : f_Node_cellKey cnt leaf b starts sizes (nI i) = some (rf_rv (rf_ky g i)) := by
  have hrl := rf_recordLength h hi
  obtain ⟨hl, hg, hb, hle, rfl, hc⟩ := h
  have hs := rf_nd_st hl hi
  have h30 := hl.2.2.2.1
  have i31 : vp_in (nI i) 31 := vp_in_nI (by omega) (by decide)
  have e1 : nI (rf_st g (i + 1)) + nI (rf_st g i - rf_st g (i + 1)) = nI (rf_st g i) := by rw [nI_add]; congr 1; omega
  have e36 : ∀ (lf : Int32) (z : Nat), z < 100 → q_Node_cellKey_36 (nI (g 1)) lf b starts sizes (nI i) (nI z) = some (rf_rv (rf_rd g (rf_st g (i + 1) + z) (rf_st g i))) := by
    intro lf z hz
    rw [q_Node_cellKey_36, pu_ck_t i31, pu_ck_t i31, pu_ck_t i31, nI_clamp (by omega), (hc i hi).1, (hc i hi).2, e1, nI_add, rf_readVarint (g := g) hg (fun k hk => by rw [hb k (by omega)]; exact rf_sx_and (hg k)) (by omega) (by omega) (by omega), pu_b1_s]
  rw [f_Node_cellKey, rf_hasCell (by omega) (by omega), if_pos hi, pu_b1_s, pu_br_f (by decide), hle]
  unfold rf_ky
  by_cases k : g 0 = 13
  · rw [rf_dv_t k, pu_br_f (by decide), if_pos k, hrl, pu_b1_s]
    cases hln : rf_ln g i with
    | none =>
      show pu_br ((0 : Int32) ≤ -1) _ _ = _
      rw [pu_br_f (by decide)]
      rfl
    | some q =>
      obtain ⟨v, z⟩ := q
      have hlt := rf_rd_lt hg hln
      have hsz := rf_rd_size hg hln
      have er : rf_rv (some (v, z)) = nI v := rfl
      rw [er, pu_br_t (nI_pos' (by omega)), rf_vsz (by omega), pu_b1_s, ← hsz, e36 _ z (by omega)]
  · rw [rf_dv_f k, pu_br_t (show nI 0 = (0 : Int32) from rfl), if_neg k]
    exact e36 _ 1 (by omega)
theorem rf_child {g : Nat → Nat} {cnt last leaf : Int32} {b starts sizes : Nat → Int32} (h : rf_nd g cnt leaf b starts sizes) (hla : last = nI (g 2)) {i : Nat} (hi : i < 1000) : f_Node_child cnt last b starts (nI i) = some (nI (if i < g 1 then g (rf_st g (i + 1)) else g 2)) := by
  obtain ⟨hl, hg, hb, hle, rfl, hc⟩ := h
  have h30 := hl.2.2.2.1
  rw [f_Node_child, rf_hasCell (by omega) (by omega)]
  by_cases k : i < g 1
  · have hs := rf_nd_st hl k
    rw [if_pos k, if_pos k, pu_b1_s, pu_br_f (by decide), pu_ck_t (vp_in_nI (by omega) (by decide)), nI_clamp (by omega), (hc i k).1, pu_ck_t (vp_in_nI (by omega) (by decide)), nI_clamp (by omega), hb _ (by omega), rf_sx_and (hg _)]
  · rw [if_neg k, if_neg k, pu_b1_s, pu_br_t (show nI 0 = (0 : Int32) from rfl), hla]
/-- the first cell whose key is not less -/
def rf_slot (g : Nat → Nat) (key : Int32) : Nat → Nat
  | 0 => g 1
  | m + 1 => if rf_rv (rf_ky g (g 1 - (m + 1))) < key then rf_slot g key m else g 1 - (m + 1)
theorem rf_slotOf {g : Nat → Nat} {cnt leaf : Int32} {b starts sizes : Nat → Int32} (h : rf_nd g cnt leaf b starts sizes) (key : Int32) : f_Node_slotOf cnt leaf b starts sizes key = some (nI (rf_slot g key (g 1))) := by
  have hck := fun i (hi : i < g 1) => rf_cellKey h hi
  obtain ⟨hl, hg, hb, hle, rfl, hc⟩ := h
  have h30 := hl.2.2.2.1
  unfold f_Node_slotOf
  refine rf_loop (σ := Unit) (fun f _ i => q_Node_slotOf_2 (q_Node_slotOf_27 (nI (g 1)) leaf b starts sizes) (nI (g 1)) leaf b starts sizes key f (nI i)) (fun i _ => i ≤ g 1 ∧ rf_slot g key (g 1) = rf_slot g key (g 1 - i)) (fun r => r = some (nI (rf_slot g key (g 1)))) (g 1) ?_ ?_ (g 1) pu_fu () 0 (by omega) (by rw [rf_fu]; omega) ⟨by omega, rfl⟩
  · intro f _ h
    show q_Node_slotOf_2 (q_Node_slotOf_27 (nI (g 1)) leaf b starts sizes) (nI (g 1)) leaf b starts sizes key (f + 1) (nI (g 1)) = _
    rw [q_Node_slotOf_2, pu_br_t (nI_le (Nat.le_refl _) (by omega)), q_Node_slotOf_27, h.2, Nat.sub_self]
    rfl
  · intro f _ i hi h
    have e : g 1 - i = (g 1 - (i + 1)) + 1 := by omega
    have e2 : g 1 - (g 1 - (i + 1) + 1) = i := by omega
    by_cases q : rf_rv (rf_ky g i) < key
    · refine Or.inl ⟨(), ⟨by omega, ?_⟩, ?_⟩
      · rw [h.2, e]
        rw [rf_slot, e2, if_pos q]
      · show q_Node_slotOf_2 (q_Node_slotOf_27 (nI (g 1)) leaf b starts sizes) (nI (g 1)) leaf b starts sizes key (f + 1) (nI i) = q_Node_slotOf_2 _ (nI (g 1)) leaf b starts sizes key f (nI (i + 1))
        rw [q_Node_slotOf_2, pu_br_f (nI_ge hi (by omega)), hck i hi, pu_b1_s, pu_br_t q, pu_nm, nI_1]
    · refine Or.inr ?_
      show q_Node_slotOf_2 (q_Node_slotOf_27 (nI (g 1)) leaf b starts sizes) (nI (g 1)) leaf b starts sizes key (f + 1) (nI i) = _
      rw [q_Node_slotOf_2, pu_br_f (nI_ge hi (by omega)), hck i hi, pu_b1_s, pu_br_f q, h.2, e]
      rw [rf_slot, e2, if_neg q]
theorem rf_slot_le (g : Nat → Nat) (key : Int32) : ∀ m, rf_slot g key m ≤ g 1
  | 0 => Nat.le_refl _
  | m + 1 => by
    have := rf_slot_le g key m
    unfold rf_slot
    split
    · exact this
    · omega
end RFC
