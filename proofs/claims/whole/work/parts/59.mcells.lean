section RFE
theorem rf_rd_shift {g n : Nat → Nat} {o s e E : Nat} (hgn : ∀ a, a < e → g a = n (o + a)) (hE : o + e ≤ E) {r : Nat × Nat} (h : rf_rd g s e = some r) : rf_rd n (o + s) E = some r := by
  unfold rf_rd at h ⊢
  by_cases c0 : e ≤ s
  · rw [if_pos c0] at h; cases h
  rw [if_neg c0, hgn s (by omega)] at h
  rw [if_neg (by omega)]
  by_cases c1 : n (o + s) = 128
  · rw [if_pos c1] at h; cases h
  rw [if_neg c1] at h ⊢
  by_cases c2 : n (o + s) < 128
  · rw [if_pos c2] at h ⊢; exact h
  rw [if_neg c2] at h ⊢
  by_cases c3 : e ≤ s + 1
  · rw [if_pos c3] at h; cases h
  rw [if_neg c3, hgn (s + 1) (by omega)] at h
  rw [if_neg (by omega), show o + s + 1 = o + (s + 1) by omega]
  by_cases c4 : n (o + (s + 1)) < 128
  · rw [if_pos c4] at h ⊢; exact h
  rw [if_neg c4] at h ⊢
  by_cases c5 : e ≤ s + 2
  · rw [if_pos c5] at h; cases h
  rw [if_neg c5, hgn (s + 2) (by omega)] at h
  rw [if_neg (by omega), show o + s + 2 = o + (s + 2) by omega]
  exact h
/-- every cell of the page has a key -/
def rf_kk (g : Nat → Nat) : Prop := ∀ i, i < g 1 → ∃ k z, rf_ky g i = some (k, z)
theorem rf_gb_at {n : Nat → Nat} {c p a : Nat} (h1 : 1 ≤ p) (h2 : p ≤ c) (h3 : a < 64) : rf_gb n c p a = n (64 * p + a) := by unfold rf_gb; rw [if_pos ⟨h1, h2, h3⟩]
variable {mn : Nat → Int32} {n : Nat → Nat} {c p : Nat}
theorem rf_begin (hmn : rf_md mn n) (h1 : 1 ≤ p) (h2 : p ≤ c) (hc : c ≤ 24) {i : Nat} (hi : i < 60) : f_MD_begin mn (nI p) (nI i) = some (nI (rf_st (rf_gb n c p) (i + 1))) := by
  have e1 : ((64 : Int32) * nI p + (4 : Int32)) + nI i = nI (64 * p + 4 + i) := by
    rw [show (64 : Int32) * nI p = nI (64 * p) from pk_mul 64 p, show nI (64 * p) + (4 : Int32) = nI (64 * p + 4) from nI_add _ 4, nI_add]
  rw [f_MD_begin, pu_br_t (nI_pos' (by omega)), e1, pu_ck_t (vp_in_nI (by omega) (by decide)), nI_clamp (by omega), hmn _ (by omega), rf_st1, rf_gb_at h1 h2 (by omega), show 64 * p + (4 + i) = 64 * p + 4 + i by omega]
theorem rf_mread_ok (hn : rf_bt n) (hmn : rf_md mn n) {s : Nat} (hs : s < 1600) {v z : Nat} (h : rf_rd n s 1600 = some (v, z)) : f_MD_read 1600 mn (nI s) 0 1600 = some (nI v, nI (s + z), 0) := by
  rcases rf_mread (N := 1600) (b := mn) (g := n) (s := s) (e := 1600) hn (fun k hk => hmn k hk) (Nat.le_refl _) (by decide) (by omega) with ⟨v', z', q1, q2⟩ | ⟨q1, _⟩
  · rw [h] at q1
    cases q1
    exact q2
  · rw [h] at q1; cases q1
theorem rf_keyAt (hn : rf_bt n) (hmn : rf_md mn n) (h1 : 1 ≤ p) (h2 : p ≤ c) (hc : c ≤ 24) (hl : rf_lay (rf_gb n c p)) {i k z : Nat} (hi : i < rf_gb n c p 1) (hk : rf_ky (rf_gb n c p) i = some (k, z)) (at' bad : Int32) : ∃ a', f_MD_keyAt mn at' bad (nI p) (nI i) = some (nI k, a', 0) := by
  have h30 := hl.2.2.2.1
  have hs := rf_nd_st hl hi
  have hg0 : rf_gb n c p 0 = n (64 * p) := rf_gb_at h1 h2 (by omega)
  have hgn : ∀ a, a < rf_st (rf_gb n c p) i → rf_gb n c p a = n (64 * p + a) := fun a ha => rf_gb_at h1 h2 (by omega)
  have e0 : (64 : Int32) * nI p = nI (64 * p) := pk_mul 64 p
  have hin : vp_in (nI (64 * p)) 1600 := vp_in_nI (by omega) (by decide)
  have hcl : (nI (64 * p)).toNatClampNeg = 64 * p := nI_clamp (by omega)
  have hb := hn (64 * p)
  rw [f_MD_keyAt, rf_begin hmn h1 h2 hc (by omega), pu_b1_s, e0, pu_ck_t hin, hcl, hmn _ (by omega), nI_add]
  unfold rf_ky at hk
  rcases hl.1 with k13 | k5
  · rw [if_pos k13] at hk
    have k13' : n (64 * p) = 13 := by rw [← hg0]; exact k13
    cases hln : rf_ln (rf_gb n c p) i with
    | none => rw [hln] at hk; cases hk
    | some q =>
      obtain ⟨v, y⟩ := q
      rw [hln] at hk
      have hk : rf_rd (rf_gb n c p) (rf_st (rf_gb n c p) (i + 1) + y) (rf_st (rf_gb n c p) i) = some (k, z) := hk
      have r1 := rf_rd_shift hgn (show 64 * p + rf_st (rf_gb n c p) i ≤ 1600 by omega) hln
      have r2 := rf_rd_shift hgn (show 64 * p + rf_st (rf_gb n c p) i ≤ 1600 by omega) hk
      have l1 := rf_rd_lt (rf_gb_lt hn c p) hln
      have l2 := rf_rd_lt (rf_gb_lt hn c p) hk
      refine ⟨nI (64 * p + rf_st (rf_gb n c p) (i + 1) + y + z), ?_⟩
      rw [k13', pu_br_f (by decide), q_MD_keyAt_30, show nI (64 * p + rf_st (rf_gb n c p) (i + 1)) + (0 : Int32) = nI (64 * p + rf_st (rf_gb n c p) (i + 1)) from nI_add _ 0, pu_nm, e0, pu_ck_t hin, hcl, hmn _ (by omega), k13', pu_br_t (by decide), rf_mread_ok hn hmn (by omega) r1, pu_b3_s, q_MD_keyAt_68]
      have e2 : 64 * p + (rf_st (rf_gb n c p) (i + 1) + y) = 64 * p + rf_st (rf_gb n c p) (i + 1) + y := by omega
      rw [e2] at r2
      rw [rf_mread_ok hn hmn (by omega) r2, pu_b3_s]
  · have k5' : n (64 * p) = 5 := by rw [← hg0]; exact k5
    rw [if_neg (by omega)] at hk
    have r1 := rf_rd_shift hgn (show 64 * p + rf_st (rf_gb n c p) i ≤ 1600 by omega) hk
    have l2 := rf_rd_lt (rf_gb_lt hn c p) hk
    have e2 : 64 * p + (rf_st (rf_gb n c p) (i + 1) + 1) = 64 * p + rf_st (rf_gb n c p) (i + 1) + 1 := by omega
    rw [e2] at r1
    refine ⟨nI (64 * p + rf_st (rf_gb n c p) (i + 1) + 1 + z), ?_⟩
    rw [k5', pu_br_t (by decide), q_MD_keyAt_30, nI_1, pu_nm, e0, pu_ck_t hin, hcl, hmn _ (by omega), k5', pu_br_f (by decide), q_MD_keyAt_68, rf_mread_ok hn hmn (by omega) r1, pu_b3_s]
theorem rf_mchild (hmn : rf_md mn n) (h1 : 1 ≤ p) (h2 : p ≤ c) (hc : c ≤ 24) (hn : rf_bt n) (hl : rf_lay (rf_gb n c p)) {i : Nat} (hi : i ≤ rf_gb n c p 1) : f_MD_child mn (nI p) (nI i) = some (nI (if i < rf_gb n c p 1 then rf_gb n c p (rf_st (rf_gb n c p) (i + 1)) else rf_gb n c p 2)) := by
  have h30 := hl.2.2.2.1
  have g1 : rf_gb n c p 1 = n (64 * p + 1) := rf_gb_at h1 h2 (by omega)
  have g2 : rf_gb n c p 2 = n (64 * p + 2) := rf_gb_at h1 h2 (by omega)
  have e0 : (64 : Int32) * nI p = nI (64 * p) := pk_mul 64 p
  have e1 : nI (64 * p) + (1 : Int32) = nI (64 * p + 1) := nI_1 _
  have e2 : nI (64 * p) + (2 : Int32) = nI (64 * p + 2) := nI_add _ 2
  rw [f_MD_child, e0, e1, e2, pu_ck_t (vp_in_nI (by omega) (by decide)), nI_clamp (by omega), hmn _ (by omega), ← g1]
  by_cases k : i < rf_gb n c p 1
  · have hs := rf_nd_st hl k
    rw [pu_br_f (fun q => by have := (nI_eq (by omega) (by omega)).mp q; omega), if_pos k, rf_begin hmn h1 h2 hc (by omega), pu_b1_s, nI_add, pu_ck_t (vp_in_nI (by omega) (by decide)), nI_clamp (by omega), hmn _ (by omega), rf_gb_at h1 h2 (by omega)]
  · rw [pu_br_t (by congr 1; omega), if_neg k, pu_ck_t (vp_in_nI (by omega) (by decide)), nI_clamp (by omega), hmn _ (by omega), g2]
theorem rf_seek (hn : rf_bt n) (hmn : rf_md mn n) (h1 : 1 ≤ p) (h2 : p ≤ c) (hc : c ≤ 24) (hl : rf_lay (rf_gb n c p)) (hk : rf_kk (rf_gb n c p)) (key at' bad : Int32) : ∃ a' b', f_MD_seek mn at' bad (nI p) key = some (nI (rf_slot (rf_gb n c p) key (rf_gb n c p 1)), a', b') := by
  have h30 := hl.2.2.2.1
  have g1 : rf_gb n c p 1 = n (64 * p + 1) := rf_gb_at h1 h2 (by omega)
  have e0 : (64 : Int32) * nI p + (1 : Int32) = nI (64 * p + 1) := by rw [show (64 : Int32) * nI p = nI (64 * p) from pk_mul 64 p]; exact nI_1 _
  unfold f_MD_seek
  refine rf_loop (fun f (st : Int32 × Int32) i => q_MD_seek_2 mn (nI p) key f st.1 st.2 (nI i)) (fun i _ => i ≤ rf_gb n c p 1 ∧ rf_slot (rf_gb n c p) key (rf_gb n c p 1) = rf_slot (rf_gb n c p) key (rf_gb n c p 1 - i)) (fun r => ∃ a' b', r = some (nI (rf_slot (rf_gb n c p) key (rf_gb n c p 1)), a', b')) (rf_gb n c p 1) ?_ ?_ (rf_gb n c p 1) pu_fu (at', bad) 0 (by omega) (by rw [rf_fu]; omega) ⟨by omega, rfl⟩
  · intro f st h
    refine ⟨st.1, st.2, ?_⟩
    show q_MD_seek_2 mn (nI p) key (f + 1) st.1 st.2 (nI (rf_gb n c p 1)) = _
    rw [q_MD_seek_2, e0, pu_ck_t (vp_in_nI (by omega) (by decide)), nI_clamp (by omega), hmn _ (by omega), ← g1, pu_br_t (nI_le (Nat.le_refl _) (by omega)), h.2, Nat.sub_self]
    rfl
  · intro f st i hi h
    obtain ⟨k, z, hky⟩ := hk i hi
    obtain ⟨a', ha'⟩ := rf_keyAt hn hmn h1 h2 hc hl hi hky st.1 st.2
    have e : rf_gb n c p 1 - i = (rf_gb n c p 1 - (i + 1)) + 1 := by omega
    have e2 : rf_gb n c p 1 - (rf_gb n c p 1 - (i + 1) + 1) = i := by omega
    have erv : rf_rv (rf_ky (rf_gb n c p) i) = nI k := by rw [hky]; rfl
    have hd : ∀ st1 st2, q_MD_seek_2 mn (nI p) key (f + 1) st1 st2 (nI i) = pu_b3 (f_MD_keyAt mn st1 st2 (nI p) (nI i)) (fun r1 w2 w3 => pu_br (key ≤ r1) (some (nI i, w2, w3)) (pu_nm (nI i + (1 : Int32)) (fun t4 => q_MD_seek_2 mn (nI p) key f w2 w3 t4))) := by
      intro st1 st2
      rw [q_MD_seek_2, e0, pu_ck_t (vp_in_nI (by omega) (by decide)), nI_clamp (by omega), hmn _ (by omega), ← g1, pu_br_f (nI_ge hi (by omega))]
    by_cases q : nI k < key
    · refine Or.inl ⟨(a', 0), ⟨by omega, ?_⟩, ?_⟩
      · rw [h.2, e, rf_slot, e2, erv, if_pos q]
      · show q_MD_seek_2 mn (nI p) key (f + 1) st.1 st.2 (nI i) = q_MD_seek_2 mn (nI p) key f a' 0 (nI (i + 1))
        rw [hd, ha', pu_b3_s, pu_br_f (Int32.not_le.mpr q), pu_nm, nI_1]
    · refine Or.inr ⟨a', 0, ?_⟩
      show q_MD_seek_2 mn (nI p) key (f + 1) st.1 st.2 (nI i) = _
      rw [hd, ha', pu_b3_s, pu_br_t (Int32.not_lt.mp q), h.2, e, rf_slot, e2, erv, if_neg q]
end RFE
