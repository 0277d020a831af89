section RFRW
variable {n n' : Nat → Nat} {c c' p D : Nat} {key : Int32} {root k : Nat}
theorem rf_rd_congr2 {g g' : Nat → Nat} {s e : Nat} (h : ∀ a, s ≤ a → a < e → g' a = g a) : rf_rd g' s e = rf_rd g s e := by
  unfold rf_rd
  by_cases c0 : e ≤ s
  · rw [if_pos c0, if_pos c0]
  rw [if_neg c0, if_neg c0, h s (by omega) (by omega)]
  by_cases c3 : e ≤ s + 1
  · rw [if_pos c3, if_pos c3]
  rw [if_neg c3, if_neg c3, h (s + 1) (by omega) (by omega)]
  by_cases c5 : e ≤ s + 2
  · rw [if_pos c5, if_pos c5]
  rw [if_neg c5, if_neg c5, h (s + 2) (by omega) (by omega)]
theorem rf_kc_kid {g : Nat → Nat} (hl : rf_lay g) {t O i : Nat} (ht : t ≤ g 1) (hi : i ≤ g 1) : rf_kid (rf_kc g t O) i = if i = t then O else rf_kid g i := by
  have e1 : rf_kc g t O 1 = g 1 := rf_kc_out hl (by omega) (by omega)
  by_cases e : i < g 1
  · rw [rf_kid_lo (by rw [e1]; exact e), rf_kc_ccb hl e (rf_lay_ln hl e).1, rf_kid_lo e]
    by_cases e2 : i = t
    · rw [if_pos ⟨e2, rfl⟩, if_pos e2]
    · rw [if_neg (fun q => e2 q.1), if_neg e2]
  · have ei : i = g 1 := by omega
    subst ei
    have e3 : rf_kid (rf_kc g t O) (g 1) = rf_kc g t O 2 := by rw [← e1]; exact rf_kid_la
    rw [e3, rf_kc_2 hl, rf_kid_la]
    by_cases e2 : g 1 = t
    · rw [if_neg (by omega), if_pos e2]
    · rw [if_pos (by omega), if_neg e2]
theorem rf_kc_ci {g : Nat → Nat} (hl : rf_lay g) {t O i : Nat} (hi : i < g 1) (h : rf_ci g i) : rf_ci (rf_kc g t O) i := by
  have hs := rf_nd_st hl hi
  obtain ⟨k, z, h1, h2⟩ := h
  refine ⟨k, z, ?_, by rw [rf_kc_st hl (by omega), rf_kc_st hl (by omega)]; exact h2⟩
  rw [rf_kc_st hl (by omega), rf_kc_st hl (by omega), rf_rd_congr2 (g := g) (fun a a1 a2 => ?_)]
  · exact h1
  · unfold rf_kc rf_p1
    by_cases e : t < g 1
    · rw [if_pos e, if_neg]
      have ht := rf_nd_st hl e
      by_cases e2 : i = t
      · subst e2; omega
      by_cases e4 : i < t
      · have := rf_st_mono hl (i := i + 1) (j := t) (by omega) (by omega)
        omega
      · have := rf_st_mono hl (i := t + 1) (j := i) (by omega) (by omega)
        omega
    · rw [if_neg e, if_neg (by omega)]
/-- the leaf that lost a cell -/
theorem rf_rmA (H : rf_hy n c key root k) {s : Nat} (hs : s < rf_gb n c (rf_way n c key root k) 1) :
    rf_tr (rf_r2 n c (rf_way n c key root k) s) c 23 root ∧ ∀ q, rf_ct (rf_r2 n c (rf_way n c key root k) s) c 23 root q + rf_lq n (rf_gb n c (rf_way n c key root k)) q s = rf_ct n c 23 root q := by
  obtain ⟨p1, p2, p3⟩ := rf_hy_pg H (Nat.le_refl k)
  obtain ⟨a1, a2, a3, a4, a5, a6, _, a8, a9⟩ := rf_r2_all H hs
  have t0 := rf_hy_tr H (Nat.le_refl k)
  have h23 := H.2.2.2.2.1
  have one := rf_hy_one H (Nat.le_refl k)
  have lf := fun (j : Nat) (hj : j < rf_gb n c (rf_way n c key root k) 1) q => rf_hy_leaf H hj q
  rw [show 23 - k = (22 - k) + 1 by omega] at t0 one lf
  obtain ⟨c1, c2⟩ := rf_trL_of t0 H.2.2.2.2.2.2.1
  have room := rf_lay_dl p3 hs
  have g30 := p3.2.2.2.1
  have lk : ∀ q j, j < rf_gb n c (rf_way n c key root k) 1 → rf_lq n (rf_gb n c (rf_way n c key root k)) q j = rf_kq n q (rf_cln (rf_gb n c (rf_way n c key root k)) j) (rf_ccb (rf_gb n c (rf_way n c key root k)) j) := fun q j hj => rf_lq_kq (rf_lay_ln p3 hj).2
  have eg : rf_gb (rf_r2 n c (rf_way n c key root k) s) c (rf_way n c key root k) = rf_ml (rf_gb n c (rf_way n c key root k)) s := by
    rw [a6]
    exact rf_wp_gb (by omega) p2 (fun a ha => rf_mk_big ha (by omega))
  have hh : ∀ j, j < rf_gb n c (rf_way n c key root k) 1 → j ≠ s → rf_kl (rf_r2 n c (rf_way n c key root k) s) c (rf_cln (rf_gb n c (rf_way n c key root k)) j) (rf_ccb (rf_gb n c (rf_way n c key root k)) j) ∧ ∀ q, rf_kq (rf_r2 n c (rf_way n c key root k) s) q (rf_cln (rf_gb n c (rf_way n c key root k)) j) (rf_ccb (rf_gb n c (rf_way n c key root k)) j) = rf_kq n q (rf_cln (rf_gb n c (rf_way n c key root k)) j) (rf_ccb (rf_gb n c (rf_way n c key root k)) j) := by
    intro j hj hjs
    refine rf_kl_frame (Nat.le_refl c) (c1 j hj) (fun q hq => ?_)
    have o1 := one q
    rw [c2 q] at o1
    have two : rf_kq n q (rf_cln (rf_gb n c (rf_way n c key root k)) j) (rf_ccb (rf_gb n c (rf_way n c key root k)) j) + rf_kq n q (rf_cln (rf_gb n c (rf_way n c key root k)) s) (rf_ccb (rf_gb n c (rf_way n c key root k)) s) ≤ rf_su (fun i => rf_kq n q (rf_cln (rf_gb n c (rf_way n c key root k)) i) (rf_ccb (rf_gb n c (rf_way n c key root k)) i)) (rf_gb n c (rf_way n c key root k) 1) := by
      by_cases e : j < s
      · exact rf_su_two (f := fun i => rf_kq n q (rf_cln (rf_gb n c (rf_way n c key root k)) i) (rf_ccb (rf_gb n c (rf_way n c key root k)) i)) e hs
      · have := rf_su_two (f := fun i => rf_kq n q (rf_cln (rf_gb n c (rf_way n c key root k)) i) (rf_ccb (rf_gb n c (rf_way n c key root k)) i)) (show s < j by omega) hj
        omega
    have hq2 : 2 ≤ q := by
      obtain ⟨y, kk, z, _, _, _, _, _, h6, _⟩ := c1 j hj
      exact (rf_hc_in h6 hq).1
    refine a4 q hq2 (fun e => ?_) (by rw [lk q s hs]; omega)
    rw [if_pos e.symm] at o1
    omega
  have tl := rf_trL (D := 22 - k) p1 p2 eg room (fun i hi => ?_) (fun i hi => ?_)
  · obtain ⟨tl1, tl2⟩ := tl
    rw [show 22 - k + 1 = 23 - k by omega] at tl1 tl2
    obtain ⟨u1, u2⟩ := rf_upl (n' := rf_r2 n c (rf_way n c key root k) s) (Nat.le_refl c) H.2.2.2.1 H.2.2.2.2.2.1 h23 (fun q => by have := H.2.2.2.2.2.2.2.2 q; omega) k (Nat.le_refl k) (23 - k) (Nat.le_refl _) (fun q q1 q2 => by
      have hq2 := (rf_ct_in H.2.2.2.1 q1).1
      rw [show 23 - k = (22 - k) + 1 by omega] at q2
      have := lf s hs q
      refine a4 q hq2 (fun e => ?_) (by omega)
      rw [if_pos e.symm] at this
      omega) tl1
    rw [show 23 - k + k = 23 by omega] at u1 u2
    refine ⟨u1, fun q => ?_⟩
    have x1 := u2 q
    have x2 := tl2 q
    have x3 := c2 q
    rw [show 22 - k + 1 = 23 - k by omega] at x3
    have x4 := rf_dl_su (f := fun i => rf_kq n q (rf_cln (rf_gb n c (rf_way n c key root k)) i) (rf_ccb (rf_gb n c (rf_way n c key root k)) i)) (i := s) (m := rf_gb n c (rf_way n c key root k) 1 - 1) (by omega)
    rw [show rf_gb n c (rf_way n c key root k) 1 - 1 + 1 = rf_gb n c (rf_way n c key root k) 1 by omega] at x4
    have x5 : rf_su (fun i => rf_kq (rf_r2 n c (rf_way n c key root k) s) q (rf_dl s (rf_cln (rf_gb n c (rf_way n c key root k))) i) (rf_dl s (rf_ccb (rf_gb n c (rf_way n c key root k))) i)) (rf_gb n c (rf_way n c key root k) 1 - 1) = rf_su (rf_dl s (fun i => rf_kq n q (rf_cln (rf_gb n c (rf_way n c key root k)) i) (rf_ccb (rf_gb n c (rf_way n c key root k)) i))) (rf_gb n c (rf_way n c key root k) 1 - 1) := by
      refine rf_su_congr _ (fun i hi => ?_)
      by_cases e : i < s
      · rw [rf_dl_lo e, rf_dl_lo e, rf_dl_lo e]; exact (hh i (by omega) (by omega)).2 q
      · rw [rf_dl_hi (by omega), rf_dl_hi (by omega), rf_dl_hi (by omega)]; exact (hh (i + 1) (by omega) (by omega)).2 q
    rw [lk q s hs]
    omega
  · by_cases e : i < s
    · rw [rf_dl_lo e]; exact (rf_lay_ln p3 (by omega)).1
    · rw [rf_dl_hi (by omega)]; exact (rf_lay_ln p3 (by omega)).1
  · by_cases e : i < s
    · rw [rf_dl_lo e, rf_dl_lo e]; exact (hh i (by omega) (by omega)).1
    · rw [rf_dl_hi (by omega), rf_dl_hi (by omega)]; exact (hh (i + 1) (by omega) (by omega)).1
/-- the kids of the page above, but the leaf's -/
theorem rf_kids_pe {m : Nat → Nat} (H : rf_hy n c key root k) (hk : 1 ≤ k) (hm : ∀ q, 2 ≤ q → q ≠ rf_way n c key root (k - 1) → rf_ct n c (23 - k) (rf_way n c key root k) q = 0 → rf_pe n m q) {j : Nat} (hj : j < rf_gb n c (rf_way n c key root (k - 1)) 1 + 1) (hjt : j ≠ rf_sl n c key (rf_way n c key root (k - 1))) :
    rf_tr m c (23 - k) (rf_kid (rf_gb n c (rf_way n c key root (k - 1))) j) ∧ ∀ q, rf_ct m c (23 - k) (rf_kid (rf_gb n c (rf_way n c key root (k - 1))) j) q = rf_ct n c (23 - k) (rf_kid (rf_gb n c (rf_way n c key root (k - 1))) j) q := by
  have t := rf_hy_tr H (j := k - 1) (by omega)
  have h5 := H.2.2.2.2.1
  rw [show 23 - (k - 1) = (23 - k) + 1 by omega] at t
  have g5 := H.2.2.2.2.2.1 (k - 1) (by omega)
  obtain ⟨i1, i2, i3⟩ := t.2.2.2.2 g5
  have hsl := rf_sl_le (n := n) (c := c) (key := key) (p := rf_way n c key root (k - 1))
  have eP : rf_way n c key root k = rf_kid (rf_gb n c (rf_way n c key root (k - 1))) (rf_sl n c key (rf_way n c key root (k - 1))) := by
    obtain ⟨j, rfl⟩ : ∃ j, k = j + 1 := ⟨k - 1, by omega⟩
    rfl
  refine rf_tr_frame (Nat.le_refl c) (i3 j hj) (fun q hq => ?_)
  have one := rf_hy_one H (j := k - 1) (by omega) q
  rw [show 23 - (k - 1) = (23 - k) + 1 by omega, rf_ct5 g5] at one
  have two : rf_ct n c (23 - k) (rf_kid (rf_gb n c (rf_way n c key root (k - 1))) j) q + rf_ct n c (23 - k) (rf_kid (rf_gb n c (rf_way n c key root (k - 1))) (rf_sl n c key (rf_way n c key root (k - 1)))) q ≤ rf_su (fun i => rf_ct n c (23 - k) (rf_kid (rf_gb n c (rf_way n c key root (k - 1))) i) q) (rf_gb n c (rf_way n c key root (k - 1)) 1 + 1) := by
    by_cases e : j < rf_sl n c key (rf_way n c key root (k - 1))
    · exact rf_su_two (f := fun i => rf_ct n c (23 - k) (rf_kid (rf_gb n c (rf_way n c key root (k - 1))) i) q) e hsl
    · have := rf_su_two (f := fun i => rf_ct n c (23 - k) (rf_kid (rf_gb n c (rf_way n c key root (k - 1))) i) q) (show rf_sl n c key (rf_way n c key root (k - 1)) < j by omega) hj
      omega
  refine hm q (rf_ct_in (i3 j hj) hq).1 (fun e => ?_) (by rw [eP]; omega)
  rw [if_pos e.symm] at one
  omega
/-- what stands after the page above is written -/
theorem rf_r4_st (H : rf_hy n c key root k) (hk : 1 ≤ k) (hg1 : rf_gb n c (rf_way n c key root k) 1 = 1) {m : Nat → Nat} (em : m = rf_r4 (rf_r2 n c (rf_way n c key root k) 0) (rf_way n c key root k) (rf_way n c key root (k - 1)) (rf_gb n c (rf_way n c key root (k - 1))) (rf_sl n c key (rf_way n c key root (k - 1)))) :
    rf_bt m ∧ (∀ q, 2 ≤ q → q ≠ rf_way n c key root (k - 1) → rf_ct n c (23 - k) (rf_way n c key root k) q = 0 → rf_pe n m q) ∧ rf_hn m c (m 67) (m 66) ∧ (∀ q, rf_hc m (m 67) (m 66) q = rf_ct n c (23 - k) (rf_way n c key root k) q + rf_hc n (n 67) (n 66) q) ∧ (∀ j, j < 128 → j ≠ 66 → j ≠ 67 → m j = n j) ∧ rf_gb m c (rf_way n c key root (k - 1)) = rf_mi (rf_gb n c (rf_way n c key root (k - 1))) (rf_sl n c key (rf_way n c key root (k - 1))) := by
  have hs : 0 < rf_gb n c (rf_way n c key root k) 1 := by omega
  obtain ⟨b1, b2, b3, b4, b5⟩ := rf_r4_all H hk hs
  obtain ⟨x1, x2, x3⟩ := rf_hy_pg H (j := k - 1) (by omega)
  have x30 := x3.2.2.2.1
  have h23 := H.2.2.2.2.1
  have ecP : ∀ q, rf_ct n c (23 - k) (rf_way n c key root k) q = (if rf_way n c key root k = q then 1 else 0) + rf_lq n (rf_gb n c (rf_way n c key root k)) q 0 := by
    intro q
    rw [show 23 - k = (22 - k) + 1 by omega, rf_ct, if_pos H.2.2.2.2.2.2.1, hg1, rf_su, rf_su]; omega
  have fr := rf_way_free H (j := k - 1) (by omega) hs
  have hcA : rf_hc n (n 67) (n 66) (rf_way n c key root (k - 1)) = 0 := by
    have := rf_hy_two H (i := k - 1) (j := k) (by omega) (Nat.le_refl k) (rf_way n c key root (k - 1))
    rw [if_pos rfl] at this
    omega
  have hgl : ∀ a, rf_gb n c (rf_way n c key root (k - 1)) a < 256 := rf_gb_lt H.1 c _
  generalize hn3 : rf_fr (rf_r2 n c (rf_way n c key root k) 0) (rf_way n c key root k) = n3 at *
  have em' : m = rf_wp n3 (rf_way n c key root (k - 1)) (rf_mi (rf_gb n c (rf_way n c key root (k - 1))) (rf_sl n c key (rf_way n c key root (k - 1)))) := by
    rw [em, ← hn3]; rfl
  subst em'
  obtain ⟨f1, f2, _⟩ := rf_hn_frame (n' := rf_wp n3 (rf_way n c key root (k - 1)) (rf_mi (rf_gb n c (rf_way n c key root (k - 1))) (rf_sl n c key (rf_way n c key root (k - 1))))) (Nat.le_refl c) b3 (fun q hq => rf_wp_pe (fun e => by
    rw [b4, e] at hq
    have := fr.1
    rw [if_neg (fun e => this e.symm)] at hq
    omega))
  have e6 : rf_wp n3 (rf_way n c key root (k - 1)) (rf_mi (rf_gb n c (rf_way n c key root (k - 1))) (rf_sl n c key (rf_way n c key root (k - 1)))) 66 = n3 66 := rf_wp_hd x1 (by omega)
  have e7 : rf_wp n3 (rf_way n c key root (k - 1)) (rf_mi (rf_gb n c (rf_way n c key root (k - 1))) (rf_sl n c key (rf_way n c key root (k - 1)))) 67 = n3 67 := rf_wp_hd x1 (by omega)
  refine ⟨rf_wp_bt b1 (rf_mi_lt hgl x3 _), fun q q1 q2 q3 a ha => ?_, by rw [e6, e7]; exact f1, fun q => by rw [e6, e7, f2, b4, ecP], fun j j1 j2 j3 => by rw [rf_wp_hd x1 j1]; exact b5 j j1 j2 j3, rf_wp_gb (by omega) x2 (fun a ha => rf_mk_big ha (by omega))⟩
  rw [rf_wp_pe q2 a ha]
  rw [ecP] at q3
  exact b2 q q1 (fun e => by rw [if_pos e.symm] at q3; omega) (by omega) a ha
end RFRW
