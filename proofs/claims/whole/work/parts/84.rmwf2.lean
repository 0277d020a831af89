section RFRV
variable {n n' : Nat → Nat} {c c' p D : Nat} {key : Int32} {root k : Nat}
theorem rf_way_s (hk : 1 ≤ k) : rf_way n c key root k = rf_kid (rf_gb n c (rf_way n c key root (k - 1))) (rf_sl n c key (rf_way n c key root (k - 1))) := by
  obtain ⟨j, rfl⟩ : ∃ j, k = j + 1 := ⟨k - 1, by omega⟩
  rfl
/-- the page above keeps a cell -/
theorem rf_rmB (H : rf_hy n c key root k) (hk : 1 ≤ k) (hg1 : rf_gb n c (rf_way n c key root k) 1 = 1) (h2 : 1 < rf_gb n c (rf_way n c key root (k - 1)) 1) {m : Nat → Nat} (em : m = rf_r4 (rf_r2 n c (rf_way n c key root k) 0) (rf_way n c key root k) (rf_way n c key root (k - 1)) (rf_gb n c (rf_way n c key root (k - 1))) (rf_sl n c key (rf_way n c key root (k - 1)))) :
    rf_tr m c 23 root ∧ ∀ q, rf_ct m c 23 root q + rf_ct n c (23 - k) (rf_way n c key root k) q = rf_ct n c 23 root q := by
  obtain ⟨m1, m2, m3, m4, m5, m6⟩ := rf_r4_st H hk hg1 em
  clear em
  have kid := fun (j : Nat) hj hjt => rf_kids_pe H hk m2 (j := j) hj hjt
  have t := rf_hy_tr H (j := k - 1) (by omega)
  have h23 := H.2.2.2.2.1
  rw [show 23 - (k - 1) = (23 - k) + 1 by omega] at t
  have g5 := H.2.2.2.2.2.1 (k - 1) (by omega)
  obtain ⟨i1, i2, i3, i4⟩ := rf_trI_of t g5
  obtain ⟨x1, x2, x3⟩ := rf_hy_pg H (j := k - 1) (by omega)
  have hsl := rf_sl_le (n := n) (c := c) (key := key) (p := rf_way n c key root (k - 1))
  have eP := rf_way_s (n := n) (c := c) (key := key) (root := root) hk
  have ec : ∀ q, rf_ct n c (23 - k + 1) (rf_way n c key root (k - 1)) q = (if rf_way n c key root (k - 1) = q then 1 else 0) + rf_su (fun i => rf_ct n c (23 - k) (rf_kid (rf_gb n c (rf_way n c key root (k - 1))) i) q) (rf_gb n c (rf_way n c key root (k - 1)) 1 + 1) := fun q => rf_ct5 g5
  have two := fun q => rf_hy_two H (i := k - 1) (j := k) (by omega) (Nat.le_refl k) q
  have ctA := fun q => rf_way_ct1 (q := q) H.2.2.2.1 H.2.2.2.2.2.1 h23 (j := k - 1) (by omega)
  rw [show k - 1 + 1 = k by omega, show 23 - (k - 1) = (23 - k) + 1 by omega] at ctA
  have upl := rf_upl (n' := m) (Nat.le_refl c) H.2.2.2.1 H.2.2.2.2.2.1 h23 (fun q => by have := H.2.2.2.2.2.2.2.2 q; omega) (k - 1) (by omega) (23 - k + 1) (by omega) (fun q q1 q2 => by
    rw [show 23 - (k - 1) = (23 - k) + 1 by omega] at q2
    have := ctA q
    exact m2 q (rf_ct_in H.2.2.2.1 q1).1 (fun e => by rw [if_pos e.symm] at this; omega) (by omega))
  rw [show 23 - k + 1 + (k - 1) = 23 by omega, show 23 - (k - 1) = (23 - k) + 1 by omega] at upl
  have room := rf_lay_dl x3 (i := rf_dx (rf_gb n c (rf_way n c key root (k - 1))) (rf_sl n c key (rf_way n c key root (k - 1)))) (by unfold rf_dx; split <;> omega)
  generalize rf_sl n c key (rf_way n c key root (k - 1)) = s at *
  generalize rf_way n c key root (k - 1) = A at *
  generalize rf_gb n c A = g at *
  have hdx : rf_dx g s ≤ g 1 - 1 := by unfold rf_dx; split <;> omega
  have hds : ∀ i, i < g 1 - 1 → ∃ j, j < g 1 ∧ j ≠ s ∧ (∀ {α : Type} (f : Nat → α), rf_dl (rf_dx g s) f i = f j) := by
    intro i hi
    unfold rf_dx
    by_cases e : s < g 1
    · rw [if_pos e]
      by_cases e2 : i < s
      · exact ⟨i, by omega, by omega, fun f => rf_dl_lo e2⟩
      · exact ⟨i + 1, by omega, by omega, fun f => rf_dl_hi (by omega)⟩
    · rw [if_neg e]
      exact ⟨i, by omega, by omega, fun f => rf_dl_lo (by omega)⟩
  have tA := rf_trI (D := 23 - k) x1 x2 m6 room (by omega) (fun i hi => ?_) (fun i hi => ?_) ?_
  · obtain ⟨u1, u2⟩ := upl tA.1
    refine ⟨u1, fun q => ?_⟩
    have y1 := u2 q
    have y2 := tA.2 q
    have y3 := ec q
    have y4 := rf_dl_su (f := fun i => rf_ct n c (23 - k) (rf_kid g i) q) (i := rf_dx g s) (m := g 1 - 1) hdx
    rw [show g 1 - 1 + 1 = g 1 by omega] at y4
    have y5 : rf_su (fun i => rf_ct m c (23 - k) (rf_dl (rf_dx g s) (rf_ccb g) i 0) q) (g 1 - 1) = rf_su (rf_dl (rf_dx g s) (fun i => rf_ct n c (23 - k) (rf_kid g i) q)) (g 1 - 1) := by
      refine rf_su_congr _ (fun i hi => ?_)
      obtain ⟨j, j1, j2, j3⟩ := hds i hi
      rw [j3, j3, ← rf_kid_lo j1]
      exact (kid j (by omega) j2).2 q
    have y6 : rf_ct m c (23 - k) (rf_lx g s) q + rf_ct n c (23 - k) (rf_kid g s) q = rf_ct n c (23 - k) (rf_kid g (rf_dx g s)) q + rf_ct n c (23 - k) (rf_kid g (g 1)) q := by
      rw [rf_lx_kid (by omega)]
      unfold rf_dx
      by_cases e : s < g 1
      · rw [if_pos e, if_pos e, (kid (g 1) (by omega) (by omega)).2 q]; omega
      · rw [if_neg e, if_neg e, (kid (g 1 - 1) (by omega) (by omega)).2 q, show s = g 1 by omega]
    rw [rf_su] at y3
    rw [eP]
    omega
  · obtain ⟨j, j1, j2, j3⟩ := hds i hi
    rw [j3, j3]; exact (i2 j j1).1
  · obtain ⟨j, j1, j2, j3⟩ := hds i hi
    rw [j3, ← rf_kid_lo j1]; exact (kid j (by omega) j2).1
  · rw [rf_lx_kid (by omega)]
    by_cases e : s < g 1
    · rw [if_pos e]; exact (kid _ (by omega) (by omega)).1
    · rw [if_neg e]; exact (kid _ (by omega) (by omega)).1
/-- the page above has one child left -/
theorem rf_only_ct (H : rf_hy n c key root k) (hk : 1 ≤ k) (h2 : rf_gb n c (rf_way n c key root (k - 1)) 1 = 1) (q : Nat) : rf_ct n c (23 - (k - 1)) (rf_way n c key root (k - 1)) q = (if rf_way n c key root (k - 1) = q then 1 else 0) + rf_ct n c (23 - k) (rf_way n c key root k) q + rf_ct n c (23 - k) (rf_lx (rf_gb n c (rf_way n c key root (k - 1))) (rf_sl n c key (rf_way n c key root (k - 1)))) q := by
  have h23 := H.2.2.2.2.1
  have g5 := H.2.2.2.2.2.1 (k - 1) (by omega)
  have hsl := rf_sl_le (n := n) (c := c) (key := key) (p := rf_way n c key root (k - 1))
  rw [show 23 - (k - 1) = (23 - k) + 1 by omega, rf_ct5 g5, rf_way_s (n := n) (c := c) (key := key) (root := root) hk, rf_lx_kid (by omega), h2]
  rw [h2] at hsl
  generalize rf_sl n c key (rf_way n c key root (k - 1)) = s at *
  rw [rf_su, rf_su, rf_su]
  by_cases e : s = 0
  · rw [if_pos (show s < 1 by omega), e]; omega
  · rw [if_neg (show ¬ s < 1 by omega), show s = 1 by omega, show (1 : Nat) - 1 = 0 from rfl]; omega
/-- the root takes what its only child has -/
theorem rf_rmC (H : rf_hy n c key root k) (hk : k = 1) (hg1 : rf_gb n c (rf_way n c key root k) 1 = 1) (h2 : rf_gb n c (rf_way n c key root (k - 1)) 1 = 1) {m : Nat → Nat} (em : m = rf_r4 (rf_r2 n c (rf_way n c key root k) 0) (rf_way n c key root k) (rf_way n c key root (k - 1)) (rf_gb n c (rf_way n c key root (k - 1))) (rf_sl n c key (rf_way n c key root (k - 1)))) {O : Nat} (eO : O = rf_lx (rf_gb n c (rf_way n c key root (k - 1))) (rf_sl n c key (rf_way n c key root (k - 1)))) :
    rf_bt (rf_r5 m (rf_way n c key root (k - 1)) O) ∧ rf_tr (rf_r5 m (rf_way n c key root (k - 1)) O) c 23 root ∧ rf_hn (rf_r5 m (rf_way n c key root (k - 1)) O) c (rf_r5 m (rf_way n c key root (k - 1)) O 67) (rf_r5 m (rf_way n c key root (k - 1)) O 66) ∧
    (∀ q, rf_ct (rf_r5 m (rf_way n c key root (k - 1)) O) c 23 root q + rf_hc (rf_r5 m (rf_way n c key root (k - 1)) O) (rf_r5 m (rf_way n c key root (k - 1)) O 67) (rf_r5 m (rf_way n c key root (k - 1)) O 66) q = rf_ct n c 23 root q + rf_hc n (n 67) (n 66) q) ∧ (∀ j, j < 128 → j ≠ 66 → j ≠ 67 → rf_r5 m (rf_way n c key root (k - 1)) O j = n j) := by
  obtain ⟨m1, m2, m3, m4, m5, m6⟩ := rf_r4_st H (by omega) hg1 em
  clear em
  have oct := rf_only_ct H (by omega) h2
  have ht := (rf_hy_only H (by omega) 0).1
  have h23 := H.2.2.2.2.1
  have hc := H.2.2.1
  obtain ⟨x1, x2, x3⟩ := rf_hy_pg H (j := k - 1) (by omega)
  rw [← eO] at oct ht
  clear eO
  have sum := H.2.2.2.2.2.2.2.2
  have er : rf_way n c key root (k - 1) = root := by rw [hk]; rfl
  rw [show 23 - (k - 1) = 23 by omega] at oct
  have e22 : 23 - k = 21 + 1 := by omega
  rw [er] at m2 oct x1 x2 x3 ⊢
  rw [e22] at m2 m4 oct ht
  clear m6
  generalize rf_way n c key root k = P at *
  have o1 := ht.1
  have o2 := ht.2.1
  have AO : root ≠ O := fun e => by
    have y1 := oct root
    have y2 := sum root
    rw [if_pos rfl, ← e] at y1
    have y3 : 1 ≤ rf_ct n c (21 + 1) root root := by rw [rf_ct, if_pos rfl]; omega
    omega
  have ctO1 : 1 ≤ rf_ct n c (21 + 1) O O := by rw [rf_ct, if_pos rfl]; omega
  have pO : rf_pe n m O := m2 O o1 (fun e => AO e.symm) (by have y1 := oct O; have y2 := sum O; omega)
  have hmO : rf_hc m (m 67) (m 66) O = 0 := by rw [m4]; have y1 := oct O; have y2 := sum O; omega
  have hmA : rf_hc m (m 67) (m 66) root = 0 := by
    rw [m4]
    have y1 := oct root
    have y2 := sum root
    rw [if_pos rfl] at y1
    omega
  unfold rf_r5
  generalize hm' : rf_wp m root (fun a => m (64 * O + a)) = m'
  have bt' : rf_bt m' := by rw [← hm']; exact rf_wp_bt m1 (fun a => m1 _)
  have e6 : m' 66 = m 66 := by rw [← hm']; exact rf_wp_hd x1 (by omega)
  have e7 : m' 67 = m 67 := by rw [← hm']; exact rf_wp_hd x1 (by omega)
  obtain ⟨f1, f2, _⟩ := rf_hn_frame (n' := m') (Nat.le_refl c) m3 (fun q hq => by rw [← hm']; exact rf_wp_pe (fun e => by rw [e] at hq; omega))
  obtain ⟨g1, g2⟩ := rf_fr_hn (n := m') o1 o2 (by rw [e6, e7]; exact f1) (by rw [e6, e7, f2]; exact hmO)
  have h67 : m 67 ≤ 23 := rf_hn_23 hc m3 (fun q => by rw [m4]; have y1 := oct q; have y2 := sum q; omega)
  have eg : rf_gb (rf_fr m' O) c root = rf_gb n c O := by
    funext a
    by_cases ha : a < 64
    · rw [rf_gb_at (by omega) x2 ha, rf_gb_at (by omega) o2 ha, rf_fr_pe AO x1 a ha, ← hm', rf_wp_at ha]
      exact pO a ha
    · unfold rf_gb
      rw [if_neg (fun q => ha q.2.2), if_neg (fun q => ha q.2.2)]
  have cp := rf_tr_copy (n := n) (n' := rf_fr m' O) (c := c) (c' := c) (D := 21) (O := O) (A := root) (Nat.le_refl c) ht eg x1 x2 (fun q => by have y1 := oct q; have y2 := sum q; omega) (fun q q1 q2 a ha => by
    have y1 := oct q
    have y2 := sum q
    have qr : q ≠ root := fun e => by rw [if_pos e.symm] at y1; omega
    have q2' := (rf_ct_in ht q1).1
    rw [rf_fr_pe q2 q2' a ha, ← hm', rf_wp_pe qr a ha]
    exact m2 q q2' qr (by omega) a ha)
  obtain ⟨c1, c2⟩ := cp
  obtain ⟨d1, d2, _⟩ := rf_mono c1 (show 21 + 1 ≤ 23 by omega)
  refine ⟨rf_fr_bt bt' (by omega) (by omega), d1, g1, fun q => ?_, fun j j1 j2 j3 => ?_⟩
  · rw [d2, g2, e6, e7, f2, m4]
    have y1 := oct q
    have y2 := c2 q
    omega
  · rw [rf_fr_hd o1 j1 j2 j3, ← hm', rf_wp_hd x1 j1]; exact m5 j j1 j2 j3
end RFRV
