section RFRX
variable {n n' : Nat → Nat} {c c' p D : Nat} {key : Int32} {root k : Nat}
/-- the page two above leads past the one above -/
theorem rf_rmD (H : rf_hy n c key root k) (hk : 2 ≤ k) (hg1 : rf_gb n c (rf_way n c key root k) 1 = 1) (h2 : rf_gb n c (rf_way n c key root (k - 1)) 1 = 1) {m : Nat → Nat} (em : m = rf_r4 (rf_r2 n c (rf_way n c key root k) 0) (rf_way n c key root k) (rf_way n c key root (k - 1)) (rf_gb n c (rf_way n c key root (k - 1))) (rf_sl n c key (rf_way n c key root (k - 1)))) {O : Nat} (eO : O = rf_lx (rf_gb n c (rf_way n c key root (k - 1))) (rf_sl n c key (rf_way n c key root (k - 1)))) {m5 : Nat → Nat}
    (em5 : m5 = rf_r6 m (rf_way n c key root (k - 1)) (rf_way n c key root (k - 2)) (rf_gb n c (rf_way n c key root (k - 2))) (rf_sl n c key (rf_way n c key root (k - 2))) O) :
    rf_bt m5 ∧ rf_tr m5 c 23 root ∧ rf_hn m5 c (m5 67) (m5 66) ∧ (∀ q, rf_ct m5 c 23 root q + rf_hc m5 (m5 67) (m5 66) q = rf_ct n c 23 root q + rf_hc n (n 67) (n 66) q) ∧ (∀ j, j < 128 → j ≠ 66 → j ≠ 67 → m5 j = n j) := by
  obtain ⟨m1, m2, m3, m4, mh, m6⟩ := rf_r4_st H (by omega) hg1 em
  clear em m6
  have oct := rf_only_ct H (by omega) h2
  have ht := (rf_hy_only H (by omega) 0).1
  have h23 := H.2.2.2.2.1
  have hc := H.2.2.1
  have sum := H.2.2.2.2.2.2.2.2
  obtain ⟨x1, x2, x3⟩ := rf_hy_pg H (j := k - 1) (by omega)
  obtain ⟨y1, y2, y3⟩ := rf_hy_pg H (j := k - 2) (by omega)
  have tH := rf_hy_tr H (j := k - 2) (by omega)
  have h5 := H.2.2.2.2.2.1 (k - 2) (by omega)
  rw [← eO] at oct ht
  have lxl : O < 256 := by rw [eO]; exact rf_lx_lt (rf_gb_lt H.1 c _) _
  clear eO
  have eD : 23 - (k - 2) = (23 - (k - 1)) + 1 := by omega
  have eD2 : 23 - (k - 1) = (23 - k) + 1 := by omega
  rw [eD] at tH
  obtain ⟨i1, i2, i3⟩ := tH.2.2.2.2 h5
  have hsl := rf_sl_le (n := n) (c := c) (key := key) (p := rf_way n c key root (k - 2))
  have eA : rf_way n c key root (k - 1) = rf_kid (rf_gb n c (rf_way n c key root (k - 2))) (rf_sl n c key (rf_way n c key root (k - 2))) := by
    have := rf_way_s (n := n) (c := c) (key := key) (root := root) (k := k - 1) (by omega)
    rw [show k - 1 - 1 = k - 2 by omega] at this
    exact this
  have ec : ∀ q, rf_ct n c (23 - (k - 1) + 1) (rf_way n c key root (k - 2)) q = (if rf_way n c key root (k - 2) = q then 1 else 0) + rf_su (fun i => rf_ct n c (23 - (k - 1)) (rf_kid (rf_gb n c (rf_way n c key root (k - 2))) i) q) (rf_gb n c (rf_way n c key root (k - 2)) 1 + 1) := fun q => rf_ct5 h5
  have oneH : ∀ q, rf_ct n c (23 - (k - 1) + 1) (rf_way n c key root (k - 2)) q + rf_hc n (n 67) (n 66) q ≤ 1 := fun q => by
    have := rf_hy_one H (j := k - 2) (by omega) q
    rw [eD] at this
    exact this
  have ctH := fun q => rf_way_ct1 (q := q) H.2.2.2.1 H.2.2.2.2.2.1 h23 (j := k - 2) (by omega)
  rw [show k - 2 + 1 = k - 1 by omega, eD] at ctH
  have upl := fun (mm : Nat → Nat) => rf_upl (n' := mm) (Nat.le_refl c) H.2.2.2.1 H.2.2.2.2.2.1 h23 (fun q => by have := sum q; omega) (k - 2) (by omega) (23 - (k - 1) + 1) (by omega)
  rw [show 23 - (k - 1) + 1 + (k - 2) = 23 by omega, eD] at upl
  have hHl : ∀ a, rf_gb n c (rf_way n c key root (k - 2)) a < 256 := rf_gb_lt H.1 c _
  generalize rf_sl n c key (rf_way n c key root (k - 2)) = s at *
  generalize hP : rf_way n c key root k = P at *
  generalize hA : rf_way n c key root (k - 1) = A at *
  generalize hW : rf_way n c key root (k - 2) = W at *
  have o1 : 2 ≤ O := by rw [show 23 - k = (22 - k) + 1 by omega] at ht; exact ht.1
  have o2 : O ≤ c := by rw [show 23 - k = (22 - k) + 1 by omega] at ht; exact ht.2.1
  have ctO1 : 1 ≤ rf_ct n c (23 - k) O O := by rw [show 23 - k = (22 - k) + 1 by omega, rf_ct, if_pos rfl]; omega
  have WA : W ≠ A := fun e => by
    have z1 := ctH W
    have z2 := oneH W
    have z3 := oct W
    rw [if_pos rfl] at z1
    rw [if_pos e.symm] at z3
    omega
  have fA : rf_hc m (m 67) (m 66) A = 0 := by
    rw [m4]
    have z1 := ctH A
    have z2 := oneH A
    have z3 := oct A
    rw [if_pos rfl] at z3
    omega
  have fW : rf_hc m (m 67) (m 66) W = 0 := by
    rw [m4]
    have z1 := ctH W
    have z2 := oneH W
    have z3 := oct W
    rw [if_pos rfl] at z1
    omega
  have kcl : ∀ a, rf_kc (rf_gb n c W) s O a < 256 := by
    intro a
    unfold rf_kc rf_p1
    by_cases e : a = (if s < rf_gb n c W 1 then rf_st (rf_gb n c W) (s + 1) else 2)
    · rw [if_pos e]; exact lxl
    · rw [if_neg e]; exact hHl a
  unfold rf_r6 at em5
  generalize hm' : rf_wp m W (rf_kc (rf_gb n c W) s O) = m' at em5
  have bt' : rf_bt m' := by rw [← hm']; exact rf_wp_bt m1 kcl
  have e6 : m' 66 = m 66 := by rw [← hm']; exact rf_wp_hd y1 (by omega)
  have e7 : m' 67 = m 67 := by rw [← hm']; exact rf_wp_hd y1 (by omega)
  obtain ⟨f1, f2, _⟩ := rf_hn_frame (n' := m') (Nat.le_refl c) m3 (fun q hq => by rw [← hm']; exact rf_wp_pe (fun e => by rw [e] at hq; omega))
  obtain ⟨g1, g2⟩ := rf_fr_hn (n := m') x1 x2 (by rw [e6, e7]; exact f1) (by rw [e6, e7, f2]; exact fA)
  have h67 : m 67 ≤ 23 := rf_hn_23 hc m3 (fun q => by rw [m4]; have z1 := oct q; have z2 := ctH q; have z3 := oneH q; omega)
  subst em5
  -- pages as they were
  have pe5 : ∀ q, 2 ≤ q → q ≠ A → q ≠ W → rf_ct n c (23 - k) P q = 0 → rf_pe n (rf_fr m' A) q := by
    intro q q1 q2 q3 q4 a ha
    rw [rf_fr_pe q2 q1 a ha, ← hm', rf_wp_pe q3 a ha]
    exact m2 q q1 q2 q4 a ha
  have eg : rf_gb (rf_fr m' A) c W = rf_kc (rf_gb n c W) s O := by
    funext a
    by_cases ha : a < 64
    · rw [rf_gb_at (by omega) y2 ha, rf_fr_pe WA y1 a ha, ← hm', rf_wp_at ha]
    · have z0 : rf_gb n c W a = 0 := by unfold rf_gb; rw [if_neg (fun q => ha q.2.2)]
      have z1 : rf_gb (rf_fr m' A) c W a = 0 := by unfold rf_gb; rw [if_neg (fun q => ha q.2.2)]
      rw [z1]
      unfold rf_kc rf_p1
      rw [if_neg, z0]
      by_cases e : s < rf_gb n c W 1
      · have := rf_nd_st y3 e
        rw [if_pos e]; omega
      · rw [if_neg e]; omega
  have k1 : rf_kc (rf_gb n c W) s O 1 = rf_gb n c W 1 := rf_kc_out y3 (by omega) (by omega)
  have k0 : rf_kc (rf_gb n c W) s O 0 = 5 := by rw [rf_kc_out y3 (by omega) (by omega)]; exact h5
  -- its kids
  have tO : rf_tr (rf_fr m' A) c (23 - (k - 1)) O ∧ ∀ q, rf_ct (rf_fr m' A) c (23 - (k - 1)) O q = rf_ct n c (23 - k) O q := by
    obtain ⟨z1, z2⟩ := rf_tr_frame (n' := rf_fr m' A) (Nat.le_refl c) ht (fun q hq => by
      have a1 := oct q
      have a2 := ctH q
      have a3 := oneH q
      exact pe5 q (rf_ct_in ht hq).1 (fun e => by rw [if_pos e.symm] at a1; omega) (fun e => by rw [if_pos e.symm] at a2; omega) (by omega))
    obtain ⟨z3, z4, _⟩ := rf_mono z1 (show 23 - k ≤ 23 - (k - 1) by omega)
    exact ⟨z3, fun q => (z4 q).trans (z2 q)⟩
  have tK : ∀ i, i < rf_gb n c W 1 + 1 → i ≠ s → rf_tr (rf_fr m' A) c (23 - (k - 1)) (rf_kid (rf_gb n c W) i) ∧ ∀ q, rf_ct (rf_fr m' A) c (23 - (k - 1)) (rf_kid (rf_gb n c W) i) q = rf_ct n c (23 - (k - 1)) (rf_kid (rf_gb n c W) i) q := by
    intro i hi his
    refine rf_tr_frame (Nat.le_refl c) (i3 i hi) (fun q hq => ?_)
    have a1 := oct q
    have a3 := oneH q
    rw [ec] at a3
    have two : rf_ct n c (23 - (k - 1)) (rf_kid (rf_gb n c W) i) q + rf_ct n c (23 - (k - 1)) (rf_kid (rf_gb n c W) s) q ≤ rf_su (fun i => rf_ct n c (23 - (k - 1)) (rf_kid (rf_gb n c W) i) q) (rf_gb n c W 1 + 1) := by
      by_cases e : i < s
      · exact rf_su_two (f := fun i => rf_ct n c (23 - (k - 1)) (rf_kid (rf_gb n c W) i) q) e hsl
      · have := rf_su_two (f := fun i => rf_ct n c (23 - (k - 1)) (rf_kid (rf_gb n c W) i) q) (show s < i by omega) hi
        omega
    rw [← eA] at two
    exact pe5 q (rf_ct_in (i3 i hi) hq).1 (fun e => by rw [if_pos e.symm] at a1; omega) (fun e => by rw [if_pos e.symm] at a3; omega) (by omega)
  have kid : ∀ i, i < rf_gb n c W 1 + 1 → rf_kid (rf_kc (rf_gb n c W) s O) i = if i = s then O else rf_kid (rf_gb n c W) i := fun i hi => rf_kc_kid y3 (by omega) (by omega)
  have tW : rf_tr (rf_fr m' A) c (23 - (k - 1) + 1) W := by
    unfold rf_tr
    rw [eg, k1]
    refine ⟨y1, y2, rf_kc_lay y3 h5, fun q => by omega, fun _ => ⟨i1, fun i hi => rf_kc_ci y3 hi (i2 i hi), fun i hi => ?_⟩⟩
    rw [kid i hi]
    by_cases e : i = s
    · rw [if_pos e]; exact tO.1
    · rw [if_neg e]; exact (tK i hi e).1
  obtain ⟨u1, u2⟩ := upl (rf_fr m' A) (fun q q1 q2 => by
    have a1 := oct q
    have a2 := ctH q
    exact pe5 q (rf_ct_in H.2.2.2.1 q1).1 (fun e => by rw [if_pos e.symm] at a1; omega) (fun e => by rw [if_pos e.symm] at a2; omega) (by omega)) tW
  refine ⟨rf_fr_bt bt' (by omega) (by omega), u1, g1, fun q => ?_, fun j j1 j2 j3 => ?_⟩
  · rw [g2, e6, e7, f2, m4]
    have a1 := u2 q
    have a2 := ec q
    have a3 : rf_ct (rf_fr m' A) c (23 - (k - 1) + 1) W q = (if W = q then 1 else 0) + rf_su (fun i => rf_ct (rf_fr m' A) c (23 - (k - 1)) (rf_kid (rf_kc (rf_gb n c W) s O) i) q) (rf_gb n c W 1 + 1) := by
      rw [rf_ct5 (by rw [eg]; exact k0), eg, k1]
    have a4 := rf_su_rp (F := fun i => rf_ct n c (23 - (k - 1)) (rf_kid (rf_gb n c W) i) q) (F' := fun i => rf_ct (rf_fr m' A) c (23 - (k - 1)) (rf_kid (rf_kc (rf_gb n c W) s O) i) q) hsl (fun i hi e => by
      show rf_ct (rf_fr m' A) c (23 - (k - 1)) (rf_kid (rf_kc (rf_gb n c W) s O) i) q = _
      rw [kid i hi, if_neg e]; exact (tK i hi e).2 q)
    rw [kid s hsl, if_pos rfl, tO.2 q, ← eA] at a4
    have a5 := oct q
    omega
  · rw [rf_fr_hd x1 j1 j2 j3, ← hm', rf_wp_hd y1 j1]; exact mh j j1 j2 j3
/-- remove leaves a file as it must be -/
theorem rf_rm_wf {k : Nat} {key : Int32} (H : rf_hy n (n 65) key (n 70) k) (hs : rf_sl n (n 65) key (rf_way n (n 65) key (n 70) k) < rf_gb n (n 65) (rf_way n (n 65) key (n 70) k) 1) :
    rf_bt (rf_rm n (n 65) key (n 70) k) ∧ rf_rm n (n 65) key (n 70) k 65 = n 65 ∧ rf_wf (rf_rm n (n 65) key (n 70) k) := by
  have sum := H.2.2.2.2.2.2.2.2
  have fin : ∀ m : Nat → Nat, rf_bt m → rf_tr m (n 65) 23 (n 70) → rf_hn m (n 65) (m 67) (m 66) → (∀ q, rf_ct m (n 65) 23 (n 70) q + rf_hc m (m 67) (m 66) q = rf_ct n (n 65) 23 (n 70) q + rf_hc n (n 67) (n 66) q) → (∀ j, j < 128 → j ≠ 66 → j ≠ 67 → m j = n j) → rf_bt m ∧ m 65 = n 65 ∧ rf_wf m := by
    intro m m1 m2 m3 m4 m5
    have e5 := m5 65 (by omega) (by omega) (by omega)
    have e0 := m5 70 (by omega) (by omega) (by omega)
    refine ⟨m1, e5, 23, ?_, ?_, fun q => ?_⟩
    · rw [e5, e0]; exact m2
    · rw [e5]; exact m3
    · rw [e5, e0, m4]; exact sum q
  unfold rf_rm
  by_cases c1 : 1 < rf_gb n (n 65) (rf_way n (n 65) key (n 70) k) 1 ∨ k = 0
  · rw [if_pos c1]
    obtain ⟨a1, a2, a3, a4, a5, _⟩ := rf_r2_all H hs
    obtain ⟨b1, b2⟩ := rf_rmA H hs
    exact fin _ a1 b1 a2 (fun q => by rw [a3]; have := b2 q; omega) a5
  · rw [if_neg c1]
    have s0 : rf_sl n (n 65) key (rf_way n (n 65) key (n 70) k) = 0 := by omega
    have hg1 : rf_gb n (n 65) (rf_way n (n 65) key (n 70) k) 1 = 1 := by omega
    rw [s0]
    have hi1 : 1 ≤ rf_gb n (n 65) (rf_way n (n 65) key (n 70) (k - 1)) 1 := by
      have := rf_hy_tr H (j := k - 1) (by omega)
      rw [show 23 - (k - 1) = (23 - k) + 1 by have := H.2.2.2.2.1; omega] at this
      exact (this.2.2.2.2 (H.2.2.2.2.2.1 (k - 1) (by omega))).1
    by_cases c2 : 1 < rf_gb n (n 65) (rf_way n (n 65) key (n 70) (k - 1)) 1
    · rw [if_pos c2]
      obtain ⟨m1, m2, m3, m4, m5, m6⟩ := rf_r4_st H (by omega) hg1 rfl
      obtain ⟨b1, b2⟩ := rf_rmB H (by omega) hg1 c2 rfl
      exact fin _ m1 b1 m3 (fun q => by rw [m4]; have := b2 q; omega) m5
    · rw [if_neg c2]
      by_cases c3 : k = 1
      · rw [if_pos c3]
        obtain ⟨d1, d2, d3, d4, d5⟩ := rf_rmC H c3 hg1 (by omega) rfl rfl
        exact fin _ d1 d2 d3 d4 d5
      · rw [if_neg c3]
        obtain ⟨d1, d2, d3, d4, d5⟩ := rf_rmD H (by omega) hg1 (by omega) rfl rfl rfl
        exact fin _ d1 d2 d3 d4 d5
end RFRX
