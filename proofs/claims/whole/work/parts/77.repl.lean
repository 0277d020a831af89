section RFRP
variable {n n' : Nat → Nat} {c c' p D : Nat}
theorem rf_ct5 {q : Nat} (k : rf_gb n c p 0 = 5) : rf_ct n c (D + 1) p q = (if p = q then 1 else 0) + rf_su (fun i => rf_ct n c D (rf_kid (rf_gb n c p) i) q) (rf_gb n c p 1 + 1) := by
  rw [rf_ct, if_neg (show ¬ rf_gb n c p 0 = 13 by omega)]
theorem rf_trL {m : Nat} {ln : Nat → Nat} {cb : Nat → Nat → Nat} (h1 : 2 ≤ p) (h2 : p ≤ c) (hg : rf_gb n c p = rf_mk 13 m 0 ln cb) (hr : 4 + m + rf_su ln m ≤ 64) (hl : ∀ i, i < m → 1 ≤ ln i) (hk : ∀ i, i < m → rf_kl n c (ln i) (cb i)) :
    rf_tr n c (D + 1) p ∧ ∀ q, rf_ct n c (D + 1) p q = (if p = q then 1 else 0) + rf_su (fun i => rf_kq n q (ln i) (cb i)) m := by
  have hy : rf_lay (rf_mk 13 m 0 ln cb) := rf_mk_lay hr hl (Or.inl rfl) (fun _ => rfl)
  have hc1 : ∀ i, i < m → rf_st (rf_mk 13 m 0 ln cb) (i + 1) < rf_st (rf_mk 13 m 0 ln cb) i := fun i hi => (rf_lay_ln hy (by rw [rf_mk_1]; exact hi)).2
  unfold rf_tr rf_ct
  rw [hg, rf_mk_0, rf_mk_1]
  refine ⟨⟨h1, h2, hy, fun _ i hi => ?_, fun q => by omega⟩, fun q => ?_⟩
  · rw [rf_cl_kl (hc1 i hi), rf_mk_cln hr hi]
    exact rf_kl_congr (fun k hk => rf_mk_ccb hr hi hk) (hl i hi) (hk i hi)
  · rw [if_pos rfl]
    congr 1
    refine rf_su_congr m (fun i hi => ?_)
    rw [rf_lq_kq (hc1 i hi), rf_mk_cln hr hi]
    exact rf_kq_congr (fun k hk => rf_mk_ccb hr hi hk) (hl i hi)
theorem rf_kid_lo {g : Nat → Nat} {i : Nat} (h : i < g 1) : rf_kid g i = rf_ccb g i 0 := by unfold rf_kid; rw [if_pos h]; rfl
theorem rf_kid_la {g : Nat → Nat} : rf_kid g (g 1) = g 2 := by unfold rf_kid; rw [if_neg (by omega)]
theorem rf_ki_ln {ln : Nat} {cb : Nat → Nat} (h : rf_ki ln cb) : 1 ≤ ln := by
  obtain ⟨k, z, _, h2⟩ := h; omega
theorem rf_trI {m la : Nat} {ln : Nat → Nat} {cb : Nat → Nat → Nat} (h1 : 2 ≤ p) (h2 : p ≤ c) (hg : rf_gb n c p = rf_mk 5 m la ln cb) (hr : 4 + m + rf_su ln m ≤ 64) (hm : 1 ≤ m) (hk : ∀ i, i < m → rf_ki (ln i) (cb i)) (ht : ∀ i, i < m → rf_tr n c D (cb i 0)) (hla : rf_tr n c D la) :
    rf_tr n c (D + 1) p ∧ ∀ q, rf_ct n c (D + 1) p q = (if p = q then 1 else 0) + (rf_su (fun i => rf_ct n c D (cb i 0) q) m + rf_ct n c D la q) := by
  have hl : ∀ i, i < m → 1 ≤ ln i := fun i hi => rf_ki_ln (hk i hi)
  have hy : rf_lay (rf_mk 5 m la ln cb) := rf_mk_lay hr hl (Or.inr rfl) (fun q => by omega)
  have hc1 : ∀ i, i < m → rf_st (rf_mk 5 m la ln cb) (i + 1) < rf_st (rf_mk 5 m la ln cb) i := fun i hi => (rf_lay_ln hy (by rw [rf_mk_1]; exact hi)).2
  have ek : ∀ i, i < m → rf_kid (rf_mk 5 m la ln cb) i = cb i 0 := fun i hi => by
    rw [rf_kid_lo (by rw [rf_mk_1]; exact hi)]
    exact rf_mk_ccb hr hi (hl i hi)
  have el : rf_kid (rf_mk 5 m la ln cb) m = la := rf_kid_la (g := rf_mk 5 m la ln cb)
  refine ⟨?_, fun q => ?_⟩
  unfold rf_tr
  rw [hg, rf_mk_0, rf_mk_1]
  refine ⟨h1, h2, hy, fun q => by omega, fun _ => ⟨hm, fun i hi => ?_, fun i hi => ?_⟩⟩
  · rw [rf_ci_ki (hc1 i hi), rf_mk_cln hr hi]
    exact rf_ki_congr (fun k hk => rf_mk_ccb hr hi hk) (hk i hi)
  · by_cases e : i = m
    · subst e; rw [el]; exact hla
    · rw [ek i (by omega)]; exact ht i (by omega)
  · rw [rf_ct5 (by rw [hg]; rfl), hg, rf_mk_1, rf_su, el]
    congr 2
    exact rf_su_congr m (fun i hi => by rw [ek i hi])
theorem rf_trL_of (h : rf_tr n c (D + 1) p) (k : rf_gb n c p 0 = 13) : (∀ i, i < rf_gb n c p 1 → rf_kl n c (rf_cln (rf_gb n c p) i) (rf_ccb (rf_gb n c p) i)) ∧ ∀ q, rf_ct n c (D + 1) p q = (if p = q then 1 else 0) + rf_su (fun i => rf_kq n q (rf_cln (rf_gb n c p) i) (rf_ccb (rf_gb n c p) i)) (rf_gb n c p 1) := by
  obtain ⟨h1, h2, h3, h4, h5⟩ := h
  refine ⟨fun i hi => (rf_cl_kl (rf_lay_ln h3 hi).2).mp (h4 k i hi), fun q => ?_⟩
  rw [rf_ct, if_pos k]
  congr 1
  exact rf_su_congr _ (fun i hi => rf_lq_kq (rf_lay_ln h3 hi).2)
theorem rf_trI_of (h : rf_tr n c (D + 1) p) (k : rf_gb n c p 0 = 5) : 1 ≤ rf_gb n c p 1 ∧ (∀ i, i < rf_gb n c p 1 → rf_ki (rf_cln (rf_gb n c p) i) (rf_ccb (rf_gb n c p) i) ∧ rf_tr n c D (rf_ccb (rf_gb n c p) i 0)) ∧ rf_tr n c D (rf_gb n c p 2) ∧
    ∀ q, rf_ct n c (D + 1) p q = (if p = q then 1 else 0) + (rf_su (fun i => rf_ct n c D (rf_ccb (rf_gb n c p) i 0) q) (rf_gb n c p 1) + rf_ct n c D (rf_gb n c p 2) q) := by
  obtain ⟨h1, h2, h3, h4, h5⟩ := h
  obtain ⟨g1, g2, g3⟩ := h5 k
  refine ⟨g1, fun i hi => ⟨(rf_ci_ki (rf_lay_ln h3 hi).2).mp (g2 i hi), ?_⟩, ?_, fun q => ?_⟩
  · rw [← rf_kid_lo hi]; exact g3 i (by omega)
  · rw [← rf_kid_la (g := rf_gb n c p)]; exact g3 _ (by omega)
  · rw [rf_ct5 k, rf_su, rf_kid_la]
    congr 2
    exact rf_su_congr (rf_gb n c p 1) (fun i hi => by rw [rf_kid_lo hi])
/-- what a freed page does -/
theorem rf_fr_pe {q : Nat} (hq : q ≠ p) (hq1 : 2 ≤ q) : rf_pe n (rf_fr n p) q := by
  intro a ha
  unfold rf_fr rf_h2 rf_wp
  rw [if_neg (by omega), if_neg (by omega), if_neg (by omega)]
theorem rf_fr_hd {k : Nat} (hp : 2 ≤ p) (hk : k < 128) (h6 : k ≠ 66) (h7 : k ≠ 67) : rf_fr n p k = n k := by
  unfold rf_fr rf_h2 rf_wp
  rw [if_neg (by omega), if_neg (by omega), if_neg (by omega)]
theorem rf_fr_66 : rf_fr n p 66 = p := rfl
theorem rf_fr_67 : rf_fr n p 67 = n 67 + 1 := rfl
theorem rf_fr_0 (hp : 2 ≤ p) : rf_fr n p (64 * p) = n 66 := by
  unfold rf_fr rf_h2 rf_wp
  dsimp only
  rw [if_neg (by omega), if_neg (by omega), if_pos (by omega), if_pos (by omega)]
theorem rf_fr_hn (h1 : 2 ≤ p) (h2 : p ≤ c) (h : rf_hn n c (n 67) (n 66)) (h0 : rf_hc n (n 67) (n 66) p = 0) : rf_hn (rf_fr n p) c (rf_fr n p 67) (rf_fr n p 66) ∧ ∀ q, rf_hc (rf_fr n p) (rf_fr n p 67) (rf_fr n p 66) q = (if p = q then 1 else 0) + rf_hc n (n 67) (n 66) q := by
  rw [rf_fr_66, rf_fr_67]
  obtain ⟨k1, k2, _⟩ := rf_hn_frame (n' := rf_fr n p) (Nat.le_refl c) h (fun q hq => rf_fr_pe (fun e => by subst e; omega) (rf_hc_in h hq).1)
  refine ⟨⟨h1, h2, by rw [rf_fr_0 h1]; exact k1⟩, fun q => ?_⟩
  rw [rf_hc, rf_fr_0 h1, k2]
theorem rf_su_rp {F F' : Nat → Nat} {s : Nat} : ∀ {m}, s < m → (∀ i, i < m → i ≠ s → F' i = F i) → rf_su F' m + F s = rf_su F m + F' s
  | 0, h, _ => by omega
  | m + 1, h, he => by
    rw [rf_su, rf_su]
    by_cases e : s = m
    · subst e
      rw [rf_su_congr s (fun i hi => he i (by omega) (by omega))]; omega
    · have := rf_su_rp (F := F) (F' := F') (s := s) (m := m) (by omega) (fun i hi => he i (by omega))
      have := he m (by omega) (by omega)
      omega
/-- a child that changed -/
theorem rf_ups {D' s : Nat} (hc : c ≤ c') (h : rf_tr n c (D + 1) p) (k5 : rf_gb n c p 0 = 5) (hs : s < rf_gb n c p 1 + 1) (hD : D ≤ D') (h1 : ∀ q, rf_ct n c (D + 1) p q ≤ 1) (hf : ∀ q, 1 ≤ rf_ct n c (D + 1) p q → rf_ct n c D (rf_kid (rf_gb n c p) s) q = 0 → rf_pe n n' q) (ht : rf_tr n' c' D' (rf_kid (rf_gb n c p) s)) :
    rf_tr n' c' (D' + 1) p ∧ ∀ q, rf_ct n' c' (D' + 1) p q + rf_ct n c D (rf_kid (rf_gb n c p) s) q = rf_ct n c (D + 1) p q + rf_ct n' c' D' (rf_kid (rf_gb n c p) s) q := by
  obtain ⟨p1, p2, p3, p4, p5⟩ := h
  obtain ⟨g1, g2, g3⟩ := p5 k5
  have ec : ∀ q, rf_ct n c (D + 1) p q = (if p = q then 1 else 0) + rf_su (fun i => rf_ct n c D (rf_kid (rf_gb n c p) i) q) (rf_gb n c p 1 + 1) := fun q => rf_ct5 k5
  have hpp : rf_pe n n' p := by
    have e := ec p
    rw [if_pos rfl] at e
    have := h1 p
    have := rf_su_le (f := fun i => rf_ct n c D (rf_kid (rf_gb n c p) i) p) hs
    exact hf p (by omega) (by omega)
  have eg := rf_gb_pe (c' := c') (by omega) p2 hc hpp
  have hk : ∀ i, i < rf_gb n c p 1 + 1 → i ≠ s → rf_tr n' c' D' (rf_kid (rf_gb n c p) i) ∧ ∀ q, rf_ct n' c' D' (rf_kid (rf_gb n c p) i) q = rf_ct n c D (rf_kid (rf_gb n c p) i) q := by
    intro i hi his
    obtain ⟨a1, a2⟩ := rf_tr_frame (n' := n') (c' := c') hc (g3 i hi) (fun q hq => by
      have e := ec q
      have := h1 q
      have two : rf_ct n c D (rf_kid (rf_gb n c p) i) q + rf_ct n c D (rf_kid (rf_gb n c p) s) q ≤ rf_su (fun i => rf_ct n c D (rf_kid (rf_gb n c p) i) q) (rf_gb n c p 1 + 1) := by
        by_cases e : i < s
        · exact rf_su_two (f := fun i => rf_ct n c D (rf_kid (rf_gb n c p) i) q) e hs
        · have := rf_su_two (f := fun i => rf_ct n c D (rf_kid (rf_gb n c p) i) q) (show s < i by omega) hi
          omega
      exact hf q (by omega) (by omega))
    obtain ⟨b1, b2, _⟩ := rf_mono a1 hD
    exact ⟨b1, fun q => (b2 q).trans (a2 q)⟩
  refine ⟨?_, fun q => ?_⟩
  · unfold rf_tr
    rw [eg]
    refine ⟨p1, Nat.le_trans p2 hc, p3, fun q => by omega, fun _ => ⟨g1, g2, fun i hi => ?_⟩⟩
    by_cases e : i = s
    · subst e; exact ht
    · exact (hk i hi e).1
  · rw [ec q, rf_ct5 (by rw [eg]; exact k5), eg]
    have := rf_su_rp (F := fun i => rf_ct n c D (rf_kid (rf_gb n c p) i) q) (F' := fun i => rf_ct n' c' D' (rf_kid (rf_gb n c p) i) q) hs (fun i hi e => (hk i hi e).2 q)
    omega
theorem rf_sl_le {key : Int32} : rf_sl n c key p < rf_gb n c p 1 + 1 := by
  have := rf_slot_le (rf_gb n c p) key (rf_gb n c p 1)
  unfold rf_sl; omega
theorem rf_way_ct1 {key : Int32} {root k : Nat} (h : rf_tr n c D root) (hk : ∀ i, i < k → rf_gb n c (rf_way n c key root i) 0 = 5) (hkD : k < D) {j : Nat} (hj : j < k) (q : Nat) : rf_ct n c (D - (j + 1)) (rf_way n c key root (j + 1)) q + (if rf_way n c key root j = q then 1 else 0) ≤ rf_ct n c (D - j) (rf_way n c key root j) q := by
  rw [show D - j = (D - (j + 1)) + 1 by omega, rf_ct5 (hk j hj)]
  have := rf_su_le (f := fun i => rf_ct n c (D - (j + 1)) (rf_kid (rf_gb n c (rf_way n c key root j)) i) q) (rf_sl_le (n := n) (c := c) (key := key) (p := rf_way n c key root j))
  rw [rf_way]
  omega
theorem rf_way_ct {key : Int32} {root k : Nat} (h : rf_tr n c D root) (hk : ∀ i, i < k → rf_gb n c (rf_way n c key root i) 0 = 5) (hkD : k < D) (q : Nat) : ∀ j, j ≤ k → rf_ct n c (D - j) (rf_way n c key root j) q ≤ rf_ct n c D root q
  | 0, _ => Nat.le_refl _
  | j + 1, hj => by
    have := rf_way_ct h hk hkD q j (by omega)
    have := rf_way_ct1 h hk hkD (j := j) (by omega) q
    omega
theorem rf_upl {key : Int32} {root k : Nat} (hc : c ≤ c') (h : rf_tr n c D root) (hk : ∀ i, i < k → rf_gb n c (rf_way n c key root i) 0 = 5) (hkD : k < D) (h1 : ∀ q, rf_ct n c D root q ≤ 1) :
    ∀ l, l ≤ k → ∀ D', D - l ≤ D' → (∀ q, 1 ≤ rf_ct n c D root q → rf_ct n c (D - l) (rf_way n c key root l) q = 0 → rf_pe n n' q) → rf_tr n' c' D' (rf_way n c key root l) →
      rf_tr n' c' (D' + l) root ∧ ∀ q, rf_ct n' c' (D' + l) root q + rf_ct n c (D - l) (rf_way n c key root l) q = rf_ct n c D root q + rf_ct n' c' D' (rf_way n c key root l) q
  | 0, _, D', hD, hf, ht => ⟨ht, fun q => by rw [Nat.add_zero]; show rf_ct n' c' D' root q + rf_ct n c D root q = _ + rf_ct n' c' D' root q; omega⟩
  | l + 1, hl, D', hD, hf, ht => by
    have tl := rf_way_tr h hk hkD l (by omega)
    rw [show D - l = (D - (l + 1)) + 1 by omega] at tl
    have ct := fun q => rf_way_ct h hk hkD q l (by omega)
    have ct1 := fun q => rf_way_ct1 h hk hkD (j := l) (by omega) q
    rw [show D - l = (D - (l + 1)) + 1 by omega] at ct ct1
    obtain ⟨a1, a2⟩ := rf_ups (n' := n') (c' := c') (D' := D') hc tl (hk l (by omega)) (rf_sl_le (key := key)) hD (fun q => Nat.le_trans (ct q) (h1 q)) (fun q q1 q2 => hf q (by have := ct q; omega) q2) ht
    obtain ⟨b1, b2⟩ := rf_upl hc h hk hkD h1 l (by omega) (D' + 1) (by omega) (fun q q1 q2 => hf q q1 (by
      rw [show D - l = (D - (l + 1)) + 1 by omega] at q2
      have := ct1 q
      omega)) a1
    rw [show D' + 1 + l = D' + (l + 1) by omega] at b1 b2
    refine ⟨b1, fun q => ?_⟩
    have x1 := a2 q
    have x2 := b2 q
    rw [show D - l = (D - (l + 1)) + 1 by omega] at x2
    have e : rf_kid (rf_gb n c (rf_way n c key root l)) (rf_sl n c key (rf_way n c key root l)) = rf_way n c key root (l + 1) := rfl
    rw [e] at x1
    omega
end RFRP
