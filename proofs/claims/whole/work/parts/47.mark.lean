section RFM
/-- a page that a commit must write -/
def rf_df (n d : Nat → Nat) (c nc p : Nat) : Prop := p ≤ nc ∧ (c < p ∨ ¬ rf_sm n d p)
noncomputable def rf_cn (P : Nat → Prop) : Nat → Nat
  | 0 => 0
  | m + 1 => rf_cn P m + rf_dv (P (m + 1))
theorem rf_cn_le (P : Nat → Prop) : ∀ m, rf_cn P m ≤ m
  | 0 => Nat.le_refl _
  | m + 1 => by
    have h1 := rf_cn_le P m
    have h2 := rf_dv_le (P (m + 1))
    unfold rf_cn
    omega
theorem rf_cn_tail (P : Nat → Prop) (k : Nat) (h : ∀ p, k < p → ¬ P p) : ∀ m, k ≤ m → rf_cn P m = rf_cn P k := by
  intro m hm
  induction m with
  | zero => have : k = 0 := by omega
            rw [this]
  | succ m ih =>
    by_cases e : k = m + 1
    · rw [e]
    · show rf_cn P m + rf_dv (P (m + 1)) = _
      rw [rf_dv_f (h _ (by omega)), ih (by omega)]
      omega
theorem rf_mark {nb fb df : Nat → Int32} {n d : Nat → Nat} {nc c : Nat} (hn : rf_bt n) (hd : rf_bt d) (hnb : rf_pg nb n) (hfb : rf_pg fb d) (h3 : c ≤ nc) (h4 : nc ≤ 24) :
    ∃ w, f_Disk_markDifferent (nI c) fb (nI nc) nb df = some (nI (rf_cn (rf_df n d c nc) 24), w) ∧ ∀ p, 1 ≤ p → p ≤ 24 → w p = nI (rf_dv (rf_df n d c nc p)) := by
  unfold f_Disk_markDifferent
  refine rf_loop (fun f (st : (Nat → Int32) × Int32) i => q_Disk_markDifferent_4 (nI c) fb (nI nc) nb f st.1 st.2 (nI i)) (fun i st => 1 ≤ i ∧ st.2 = nI (rf_cn (rf_df n d c nc) (i - 1)) ∧ ∀ p, 1 ≤ p → p < i → st.1 p = nI (rf_dv (rf_df n d c nc p))) (fun r => ∃ w, r = some (nI (rf_cn (rf_df n d c nc) 24), w) ∧ ∀ p, 1 ≤ p → p ≤ 24 → w p = nI (rf_dv (rf_df n d c nc p))) 25 ?_ ?_ 24 pu_fu (df, 0) 1 rfl (by decide) ⟨by omega, rfl, fun p h1 h2 => by omega⟩
  · intro f st h
    refine ⟨st.1, ?_, fun p h1 h2 => h.2.2 p h1 (by omega)⟩
    show q_Disk_markDifferent_4 (nI c) fb (nI nc) nb (f + 1) st.1 st.2 (nI 25) = _
    rw [q_Disk_markDifferent_4, pu_br_t (by decide), h.2.1]
  · intro f st i hi h
    obtain ⟨hi1, hc, hp⟩ := h
    have hle := rf_cn_le (rf_df n d c nc) (i - 1)
    have hin : vp_in (nI i) 25 := vp_in_nI hi (by decide)
    have hcl : (nI i).toNatClampNeg = i := nI_clamp (by omega)
    have h24 : ¬ (24 : Int32) < nI i := nI_nlt (a := 24) (b := i) (by omega) (by decide)
    refine Or.inl ⟨(upd st.1 i (nI (rf_dv (rf_df n d c nc i))), nI (rf_cn (rf_df n d c nc) i)), ⟨by omega, rfl, fun p h1 h2 => ?_⟩, ?_⟩
    · by_cases e : p = i
      · subst e; exact pk_us
      · show upd st.1 i _ p = _
        rw [pk_un e]; exact hp p h1 (by omega)
    · show q_Disk_markDifferent_4 (nI c) fb (nI nc) nb (f + 1) st.1 st.2 (nI i) = q_Disk_markDifferent_4 (nI c) fb (nI nc) nb f (upd st.1 i (nI (rf_dv (rf_df n d c nc i)))) (nI (rf_cn (rf_df n d c nc) i)) (nI (i + 1))
      have hcn : rf_cn (rf_df n d c nc) i = rf_cn (rf_df n d c nc) (i - 1) + rf_dv (rf_df n d c nc i) := by
        obtain ⟨j, rfl⟩ : ∃ j, i = j + 1 := ⟨i - 1, by omega⟩
        rfl
      have hno : ∀ kb : (Nat → Int32) → Int32 → Int32 → Option (Int32 × (Nat → Int32)), ¬ rf_df n d c nc i → q_Disk_markDifferent_50 kb (nI c) fb (nI nc) nb st.1 st.2 (nI i) (nI i) = kb (upd st.1 i (nI (rf_dv (rf_df n d c nc i)))) (nI (rf_cn (rf_df n d c nc) i)) (nI (i + 1)) := by
        intro kb hq
        rw [q_Disk_markDifferent_50, q_Disk_markDifferent_51, pu_ck_t hin, pu_nm, pu_ck_t hin, hcl, rf_nz0, pk_us, pu_br_t rfl, q_Disk_markDifferent_64, pu_nm, nI_1, hcn, rf_dv_f hq, hc]
        rfl
      have hyes : ∀ kb : (Nat → Int32) → Int32 → Int32 → Option (Int32 × (Nat → Int32)), rf_df n d c nc i → q_Disk_markDifferent_46 kb (nI c) fb (nI nc) nb st.1 st.2 (nI i) (nI i) = kb (upd st.1 i (nI (rf_dv (rf_df n d c nc i)))) (nI (rf_cn (rf_df n d c nc) i)) (nI (i + 1)) := by
        intro kb hq
        rw [q_Disk_markDifferent_46, q_Disk_markDifferent_51, pu_ck_t hin, pu_nm, pu_ck_t hin, hcl, rf_nz1, pk_us, pu_br_f (by decide), pu_nm, q_Disk_markDifferent_64, pu_nm, nI_1, hcn, rf_dv_t hq, hc, nI_1]
        rfl
      rw [q_Disk_markDifferent_4, pu_br_f h24]
      by_cases g1 : nc < i
      · rw [pu_br_t (nI_lt g1 (by omega)), hno _ (fun q => by have := q.1; omega)]
      rw [pu_br_f (nI_nlt (by omega) (by omega))]
      by_cases g2 : c < i
      · rw [pu_br_t (nI_lt g2 (by omega)), hyes _ ⟨by omega, Or.inl g2⟩]
      rw [pu_br_f (nI_nlt (by omega) (by omega)), rf_same hn hd hnb hfb hi1 (by omega) h3 h4, pu_b1_s]
      by_cases g3 : rf_sm n d i
      · rw [rf_dv_t g3, pu_br_f (by decide), hno _ (fun q => q.2.elim (fun h => g2 h) (fun h => h g3))]
      · rw [rf_dv_f g3, pu_br_t (show nI 0 = 0 from rfl), hyes _ ⟨by omega, Or.inr g3⟩]
theorem rf_mpages {mn : Nat → Int32} {n : Nat → Nat} (h : rf_md mn n) : f_MD_pages mn = some (nI (n 65)) := by
  have e : (65 : Int32).toNatClampNeg = 65 := by decide
  rw [f_MD_pages, pu_ck_t (by unfold vp_in; decide), e, h 65 (by omega)]
theorem rf_mdifferent {mn md : Nat → Int32} {n d : Nat → Nat} {c : Nat} (hn : rf_bt n) (hd : rf_bt d) (hmn : rf_md mn n) (hmd : rf_md md d) (hc : c ≤ 24) (h4 : n 65 ≤ 24) : f_MD_different (nI c) mn md = some (nI (rf_cn (rf_df n d c (n 65)) 24)) := by
  have ht : rf_cn (rf_df n d c (n 65)) 24 = rf_cn (rf_df n d c (n 65)) (n 65) := rf_cn_tail _ (n 65) (fun p hp q => by have := q.1; omega) 24 h4
  rw [ht]
  unfold f_MD_different
  refine rf_loop (fun f st i => q_MD_different_4 (nI c) mn md f st (nI i)) (fun i st => 1 ≤ i ∧ st = nI (rf_cn (rf_df n d c (n 65)) (i - 1))) (fun r => r = some (nI (rf_cn (rf_df n d c (n 65)) (n 65)))) (n 65 + 1) ?_ ?_ (n 65) pu_fu 0 1 (by omega) (by rw [rf_fu]; omega) ⟨by omega, rfl⟩
  · intro f st h
    show q_MD_different_4 (nI c) mn md (f + 1) st (nI (n 65 + 1)) = _
    rw [q_MD_different_4, rf_mpages hmn, pu_b1_s, pu_br_t (nI_lt (by omega) (by omega)), h.2]
    rfl
  · intro f st i hi h
    refine Or.inl ⟨nI (rf_cn (rf_df n d c (n 65)) i), ⟨by omega, rfl⟩, ?_⟩
    show q_MD_different_4 (nI c) mn md (f + 1) st (nI i) = q_MD_different_4 (nI c) mn md f _ (nI (i + 1))
    have hcn : rf_cn (rf_df n d c (n 65)) i = rf_cn (rf_df n d c (n 65)) (i - 1) + rf_dv (rf_df n d c (n 65) i) := by
      obtain ⟨j, rfl⟩ : ∃ j, i = j + 1 := ⟨i - 1, by omega⟩
      rfl
    have hle := rf_cn_le (rf_df n d c (n 65)) (i - 1)
    rw [q_MD_different_4, rf_mpages hmn, pu_b1_s, pu_br_f (nI_nlt (by omega) (by omega)), rf_differs hn hd hmn hmd hc (by omega), pu_b1_s, h.2, hcn]
    by_cases g : c < i ∨ ¬ rf_sm n d i
    · rw [rf_dv_t g, pu_br_f (by decide), q_MD_different_26, pu_nm, pu_nm, nI_1, nI_1, rf_dv_t (show rf_df n d c (n 65) i from ⟨by omega, g⟩)]
    · rw [rf_dv_f g, pu_br_t (show nI 0 = 0 from rfl), q_MD_different_26, pu_nm, pu_nm, nI_1, rf_dv_f (fun q : rf_df n d c (n 65) i => g q.2)]
      rw [show nI (rf_cn (rf_df n d c (n 65)) (i - 1)) + 0 = nI (rf_cn (rf_df n d c (n 65)) (i - 1) + 0) from nI_add _ 0]
end RFM
