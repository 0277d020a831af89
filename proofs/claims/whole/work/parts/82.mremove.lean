section RFMR
variable {n n' : Nat → Nat} {c c' p D : Nat} {key : Int32} {root k : Nat}
theorem rf_take_pe {mn : Nat → Int32} (hmn : rf_md mn n') (h1 : 1 ≤ p) (h2 : p ≤ c) (hc : c ≤ 24) (hp : rf_pe n n' p) (hl : rf_lay (rf_gb n c p)) (kind cells last : Int32) (cl row : Nat → Int32) :
    ∃ cl' row', f_MD_take mn kind cells last cl row (nI p) = some (nI (rf_gb n c p 0), nI (rf_gb n c p 1), nI (rf_gb n c p 2), cl', row') ∧ rf_ry (rf_gb n c p 1) (rf_cln (rf_gb n c p)) (rf_ccb (rf_gb n c p)) cl' row' := by
  have eg : rf_gb n' c p = rf_gb n c p := rf_gb_pe h1 h2 (Nat.le_refl c) hp
  have := rf_take hmn h1 h2 hc (by rw [eg]; exact hl) kind cells last cl row
  rw [eg] at this
  exact this
/-- the reference takes a row out, once it is found and its chain is free -/
theorem rf_mremove (H : rf_hy n c key root k) {b : Nat → Int32} (hb : rf_md b n) (hs : rf_sl n c key (rf_way n c key root k) < rf_gb n c (rf_way n c key root k) 1) (up len kind cells last at' bad : Int32) {rec cl row way turn : Nat → Int32}
    (hw : ∀ i, i ≤ k → way i = nI (rf_way n c key root i)) (ht : ∀ i, i < k → turn i = nI (rf_sl n c key (rf_way n c key root i))) :
    ∃ w kind' cells' last' cl' row', q_MD_remove_44 (fun v_now => q_MD_remove_74 up len kind cells last (nI k) at' bad v_now rec cl row way turn (nI (rf_sl n c key (rf_way n c key root k))) (nI (rf_way n c key root k))) up len kind cells last (nI k) at' bad rec cl row way turn (nI (rf_sl n c key (rf_way n c key root k))) (nI (rf_way n c key root k)) pu_fu b (nI (rf_cf (rf_gb n c (rf_way n c key root k)) (rf_sl n c key (rf_way n c key root k)))) = some (1, len, kind', cells', last', nI k, at', bad, w, rec, cl', row', way, turn) ∧ rf_md w (rf_rm n c key root k) := by
  have h13 := H.2.2.2.2.2.2.1
  have hc := H.2.2.1
  have h23 := H.2.2.2.2.1
  obtain ⟨p1, p2, p3⟩ := rf_hy_pg H (Nat.le_refl k)
  obtain ⟨a1, a2, a3, a4, a5, a6, _, a8, a9⟩ := rf_r2_all H hs
  have hbt := H.1
  have g30 := p3.2.2.2.1
  have lfP := rf_hy_leaf H hs (rf_way n c key root k)
  have oneP := rf_hy_one H (Nat.le_refl k) (rf_way n c key root k)
  rw [if_pos rfl] at lfP
  unfold rf_lq at lfP
  obtain ⟨f0, f1, f2, f3, f4⟩ := rf_fc_all hc hbt a8 H.2.2.2.2.2.2.2.1 a9
  have hcp : rf_cp (rf_cL (rf_gb n c (rf_way n c key root k)) (rf_sl n c key (rf_way n c key root k))) ≤ 23 := rf_hn_23 hc a8 (fun q => by have := a9 q; omega)
  obtain ⟨b2, t1, t2⟩ := rf_mfreeChain hc up len kind cells last (nI k) at' bad rec cl row way turn (nI (rf_sl n c key (rf_way n c key root k))) (nI (rf_way n c key root k)) (fun v_now => q_MD_remove_74 up len kind cells last (nI k) at' bad v_now rec cl row way turn (nI (rf_sl n c key (rf_way n c key root k))) (nI (rf_way n c key root k))) hbt hb a8 H.2.2.2.2.2.2.2.1 a9 pu_fu (by rw [rf_fu]; omega)
  have pP := f3 (rf_way n c key root k) p1 (by omega)
  obtain ⟨cl1, row1, u1, u2⟩ := rf_take_pe t2 (by omega) p2 hc pP p3 kind cells last cl row
  obtain ⟨M, hM⟩ : ∃ M, rf_gb n c (rf_way n c key root k) 1 = M + 1 := ⟨_, (by omega : rf_gb n c (rf_way n c key root k) 1 = rf_gb n c (rf_way n c key root k) 1 - 1 + 1)⟩
  have room0 := rf_lay_room p3
  rw [hM] at u2 room0
  obtain ⟨cl2, row2, u3, u4⟩ := rf_removeCell u2 (i := rf_sl n c key (rf_way n c key root k)) (by omega) (by omega) (by omega)
  have room := rf_lay_dl p3 hs
  rw [hM, Nat.add_sub_cancel] at room
  obtain ⟨b3, u5, u6⟩ := rf_mput0 (kd := 13) (la := 0) u4 t2 (show rf_way n c key root k ≤ 24 by omega) room
  have eml : rf_mk 13 M 0 (rf_dl (rf_sl n c key (rf_way n c key root k)) (rf_cln (rf_gb n c (rf_way n c key root k)))) (rf_dl (rf_sl n c key (rf_way n c key root k)) (rf_ccb (rf_gb n c (rf_way n c key root k)))) = rf_ml (rf_gb n c (rf_way n c key root k)) (rf_sl n c key (rf_way n c key root k)) := by
    unfold rf_ml; rw [hM, Nat.add_sub_cancel]
  rw [eml, ← a6] at u6
  rw [t1]
  clear t1 t2 a6 a8 a9 f0 f1 f2 f3 f4
  rw [q_MD_remove_74, u1, pu_b5_s, hM, u3, pu_b3_s, h13]
  rw [show f_MD_put (nI 13) cl2 row2 b2 (nI (rf_way n c key root k)) 0 (nI M) 0 = some b3 from u5, pu_b1_s]
  unfold rf_rm
  by_cases c1 : 1 < rf_gb n c (rf_way n c key root k) 1 ∨ k = 0
  · rw [if_pos c1]
    refine ⟨b3, nI 13, nI M, nI (rf_gb n c (rf_way n c key root k) 2), cl2, row2, ?_, u6⟩
    by_cases c2 : M = 0
    · rw [pu_br_f (show ¬ (0 : Int32) < nI M by rw [c2]; decide), pu_br_t (show nI k = (0 : Int32) by rw [show k = 0 by omega]; rfl)]
    · rw [pu_br_t (show (0 : Int32) < nI M from nI_lt (a := 0) (by omega) (by omega))]
  · rw [if_neg c1]
    have M0 : M = 0 := by omega
    have k1 : 1 ≤ k := by omega
    obtain ⟨b1, bb2, b4, b5, b6⟩ := rf_r4_all H k1 hs
    obtain ⟨x1, x2, x3⟩ := rf_hy_pg H (j := k - 1) (by omega)
    have g5 := H.2.2.2.2.2.1 (k - 1) (by omega)
    have only := rf_hy_only H k1
    have fr := rf_way_free H (j := k - 1) (by omega) hs
    obtain ⟨w3, s1, s2⟩ := rf_mfree u6 p1 (by omega)
    have pA : rf_pe n (rf_fr (rf_r2 n c (rf_way n c key root k) (rf_sl n c key (rf_way n c key root k))) (rf_way n c key root k)) (rf_way n c key root (k - 1)) := bb2 _ x1 fr.1 fr.2
    obtain ⟨cl3, row3, q1, q2⟩ := rf_take_pe s2 (by omega) x2 hc pA x3 (nI 13) (nI M) (nI (rf_gb n c (rf_way n c key root k) 2)) cl2 row2
    have hi1 : 1 ≤ rf_gb n c (rf_way n c key root (k - 1)) 1 := by
      have := rf_hy_tr H (j := k - 1) (by omega)
      rw [show 23 - (k - 1) = (23 - k) + 1 by omega] at this
      exact (this.2.2.2.2 g5).1
    have hsl := rf_sl_le (n := n) (c := c) (key := key) (p := rf_way n c key root (k - 1))
    have x30 := x3.2.2.2.1
    obtain ⟨M', hM'⟩ : ∃ M', rf_gb n c (rf_way n c key root (k - 1)) 1 = M' + 1 := ⟨_, (by omega : rf_gb n c (rf_way n c key root (k - 1)) 1 = rf_gb n c (rf_way n c key root (k - 1)) 1 - 1 + 1)⟩
    have room1 := rf_lay_room x3
    rw [hM'] at q2 room1
    have hdx : rf_dx (rf_gb n c (rf_way n c key root (k - 1))) (rf_sl n c key (rf_way n c key root (k - 1))) ≤ M' := by
      unfold rf_dx; split <;> omega
    obtain ⟨cl4, row4, d3, d4⟩ := rf_removeCell q2 (i := rf_dx (rf_gb n c (rf_way n c key root (k - 1))) (rf_sl n c key (rf_way n c key root (k - 1)))) hdx (by omega) (by omega)
    have room2 := rf_lay_dl x3 (i := rf_dx (rf_gb n c (rf_way n c key root (k - 1))) (rf_sl n c key (rf_way n c key root (k - 1)))) (by omega)
    rw [hM', Nat.add_sub_cancel] at room2
    obtain ⟨w4, s3, s4⟩ := rf_mput0 (n := rf_fr (rf_r2 n c (rf_way n c key root k) (rf_sl n c key (rf_way n c key root k))) (rf_way n c key root k)) (p := rf_way n c key root (k - 1)) (kd := 5) (la := rf_lx (rf_gb n c (rf_way n c key root (k - 1))) (rf_sl n c key (rf_way n c key root (k - 1)))) d4 s2 (by omega) room2
    have emi : rf_wp (rf_fr (rf_r2 n c (rf_way n c key root k) (rf_sl n c key (rf_way n c key root k))) (rf_way n c key root k)) (rf_way n c key root (k - 1)) (rf_mk 5 M' (rf_lx (rf_gb n c (rf_way n c key root (k - 1))) (rf_sl n c key (rf_way n c key root (k - 1)))) (rf_dl (rf_dx (rf_gb n c (rf_way n c key root (k - 1))) (rf_sl n c key (rf_way n c key root (k - 1)))) (rf_cln (rf_gb n c (rf_way n c key root (k - 1))))) (rf_dl (rf_dx (rf_gb n c (rf_way n c key root (k - 1))) (rf_sl n c key (rf_way n c key root (k - 1)))) (rf_ccb (rf_gb n c (rf_way n c key root (k - 1)))))) = rf_r4 (rf_r2 n c (rf_way n c key root k) (rf_sl n c key (rf_way n c key root k))) (rf_way n c key root k) (rf_way n c key root (k - 1)) (rf_gb n c (rf_way n c key root (k - 1))) (rf_sl n c key (rf_way n c key root (k - 1))) := by
      unfold rf_r4 rf_mi; rw [hM', Nat.add_sub_cancel]
    rw [emi] at s4
    have ek : nI k - (1 : Int32) = nI (k - 1) := pk_sub (a := k) (b := 1) (by omega)
    have step : ∀ o, q_MD_remove_195 up len (nI 5) (nI M') (nI (rf_lx (rf_gb n c (rf_way n c key root (k - 1))) (rf_sl n c key (rf_way n c key root (k - 1))))) (nI k) at' bad w3 rec cl4 row4 way turn (nI (rf_way n c key root (k - 1))) = o →
        pu_br (0 < nI M) (some (1, len, nI 13, nI M, nI (rf_gb n c (rf_way n c key root k) 2), nI k, at', bad, b3, rec, cl2, row2, way, turn)) (pu_br (nI k = 0) (some (1, len, nI 13, nI M, nI (rf_gb n c (rf_way n c key root k) 2), nI k, at', bad, b3, rec, cl2, row2, way, turn)) (pu_b1 (f_MD_free b3 (nI (rf_way n c key root k))) (fun w34 => pu_ck (vp_in (nI k - 1) 40) (pu_nm (way (nI k - 1).toNatClampNeg) (fun t35 => pu_b5 (f_MD_take w34 (nI 13) (nI M) (nI (rf_gb n c (rf_way n c key root k) 2)) cl2 row2 t35) (fun w37 w38 w39 w40 w41 => pu_ck (vp_in (nI k - 1) 40) (pu_nm (turn (nI k - 1).toNatClampNeg) (fun t42 => pu_br (t42 = w38) (pu_b1 (f_MD_start w40 (w38 - 1)) (fun r51 => pu_ck (vp_in r51 2000) (pu_nm (w41 r51.toNatClampNeg) (fun t52 => pu_b3 (f_MD_removeCell w38 w40 w41 (w38 - 1)) (fun w54 w55 w56 => q_MD_remove_195 up len w37 w54 t52 (nI k) at' bad w34 rec w55 w56 way turn t35))))) (pu_b3 (f_MD_removeCell w38 w40 w41 t42) (fun w44 w45 w46 => q_MD_remove_195 up len w37 w44 w39 (nI k) at' bad w34 rec w45 w46 way turn t35)))))))))) = o := by
      intro o ho
      rw [pu_br_f (show ¬ (0 : Int32) < nI M by rw [M0]; decide), pu_br_f (nI_ne0 (by omega) (by omega)), s1, pu_b1_s, ek, pu_ck_t (vp_in_nI (by omega) (by decide)), nI_clamp (by omega), hw (k - 1) (by omega), pu_nm, q1, pu_b5_s, pu_ck_t (vp_in_nI (by omega) (by decide)), ht (k - 1) (by omega), pu_nm, hM', g5]
      by_cases e : rf_sl n c key (rf_way n c key root (k - 1)) < rf_gb n c (rf_way n c key root (k - 1)) 1
      · unfold rf_dx at d3
        unfold rf_lx at ho
        rw [if_pos e] at d3 ho
        rw [pu_br_f (fun q => by rw [nI_eq (by omega) (by omega)] at q; omega), d3, pu_b3_s, ho]
      · unfold rf_dx at d3
        unfold rf_lx at ho
        rw [if_neg e, hM', Nat.add_sub_cancel] at d3
        rw [if_neg e, hM', Nat.add_sub_cancel] at ho
        have hst := rf_mstart (M := M' + 1) (fun i hi => (q2 i hi).1) (by omega) (show M' ≤ M' + 1 by omega)
        have hsu : rf_su (rf_cln (rf_gb n c (rf_way n c key root (k - 1)))) (M' + 1) = rf_su (rf_cln (rf_gb n c (rf_way n c key root (k - 1)))) M' + rf_cln (rf_gb n c (rf_way n c key root (k - 1))) M' := rfl
        have h0 := (q2 M' (by omega)).2 0 (rf_lay_ln x3 (by omega)).1
        rw [Nat.add_zero] at h0
        rw [pu_br_t (show nI (rf_sl n c key (rf_way n c key root (k - 1))) = nI (M' + 1) by congr 1; omega), show nI (M' + 1) - (1 : Int32) = nI M' from pk_sub (a := M' + 1) (b := 1) (by omega), hst, pu_b1_s, pu_ck_t (vp_in_nI (by omega) (by decide)), nI_clamp (by omega), h0, pu_nm, d3, pu_b3_s, ho]
    by_cases c2 : 1 < rf_gb n c (rf_way n c key root (k - 1)) 1
    · rw [if_pos c2]
      refine ⟨w4, nI 5, nI M', nI (rf_lx (rf_gb n c (rf_way n c key root (k - 1))) (rf_sl n c key (rf_way n c key root (k - 1)))), cl4, row4, step _ ?_, s4⟩
      rw [q_MD_remove_195, s3, pu_b1_s, pu_br_f (nI_ne0 (by omega) (by omega))]
    · rw [if_neg c2]
      have M1 : M' = 0 := by omega
      obtain ⟨o1, o2⟩ := only (rf_lx (rf_gb n c (rf_way n c key root (k - 1))) (rf_sl n c key (rf_way n c key root (k - 1))))
      have oA := (only (rf_way n c key root (k - 1))).2
      have ot := o1
      rw [show 23 - k = (22 - k) + 1 by omega] at ot
      have O1 := ot.1
      have O2 := ot.2.1
      have AO : rf_way n c key root (k - 1) ≠ rf_lx (rf_gb n c (rf_way n c key root (k - 1))) (rf_sl n c key (rf_way n c key root (k - 1))) := by
        intro e
        have one := rf_hy_one H (j := k - 1) (by omega) (rf_way n c key root (k - 1))
        rw [if_pos rfl, ← e, show 23 - k = (22 - k) + 1 by omega, rf_ct, rf_ct, if_pos rfl] at oA
        omega
      by_cases c3 : k = 1
      · rw [if_pos c3]
        obtain ⟨w5, v1, v2⟩ := rf_mcopy s4 (A := rf_way n c key root (k - 1)) (O := rf_lx (rf_gb n c (rf_way n c key root (k - 1))) (rf_sl n c key (rf_way n c key root (k - 1)))) (by omega) (by omega) AO (nI k) way turn (fun v_now => q_MD_lift_47 (nI (rf_lx (rf_gb n c (rf_way n c key root (k - 1))) (rf_sl n c key (rf_way n c key root (k - 1))))) (nI k) way turn v_now)
        obtain ⟨w6, v3, v4⟩ := rf_mfree v2 O1 (by omega)
        refine ⟨w6, nI 5, nI M', nI (rf_lx (rf_gb n c (rf_way n c key root (k - 1))) (rf_sl n c key (rf_way n c key root (k - 1)))), cl4, row4, step _ ?_, v4⟩
        rw [q_MD_remove_195, s3, pu_b1_s, pu_br_t (show nI M' = (0 : Int32) by rw [M1]; rfl), f_MD_lift, pu_br_t (show nI k = (1 : Int32) by rw [c3]; rfl), v1, q_MD_lift_47, v3, pu_b1_s, pu_b1_s]
      · rw [if_neg c3]
        obtain ⟨y1, y2, y3⟩ := rf_hy_pg H (j := k - 2) (by omega)
        have frH := rf_way_free H (j := k - 2) (by omega) hs
        have h5 := H.2.2.2.2.2.1 (k - 2) (by omega)
        have AH : rf_way n c key root (k - 2) ≠ rf_way n c key root (k - 1) := by
          have := rf_hy_two H (i := k - 2) (j := k - 1) (by omega) (by omega) (rf_way n c key root (k - 2))
          rw [if_pos rfl] at this
          intro e
          rw [← e, show 23 - (k - 1) = (23 - k) + 1 by omega, rf_ct, if_pos rfl] at this
          omega
        have pH : rf_pe n (rf_r4 (rf_r2 n c (rf_way n c key root k) (rf_sl n c key (rf_way n c key root k))) (rf_way n c key root k) (rf_way n c key root (k - 1)) (rf_gb n c (rf_way n c key root (k - 1))) (rf_sl n c key (rf_way n c key root (k - 1)))) (rf_way n c key root (k - 2)) := by
          intro a ha
          unfold rf_r4
          rw [rf_wp_pe AH a ha]
          exact bb2 _ y1 frH.1 frH.2 a ha
        have eH := rf_gb_pe (c' := c) (by omega) y2 (Nat.le_refl c) pH
        have y30 := y3.2.2.2.1
        have hsl2 := rf_sl_le (n := n) (c := c) (key := key) (p := rf_way n c key root (k - 2))
        have e0 : (64 : Int32) * nI (rf_way n c key root (k - 2)) = nI (64 * rf_way n c key root (k - 2)) := pk_mul 64 _
        have ek2 : nI k - (2 : Int32) = nI (k - 2) := pk_sub (a := k) (b := 2) (by omega)
        have m1 : w4 (64 * rf_way n c key root (k - 2) + 1) = nI (rf_gb n c (rf_way n c key root (k - 2)) 1) := by
          rw [s4 _ (by omega), pH 1 (by omega), rf_gb_at (by omega) y2 (by omega)]
        have self : rf_wp (rf_r4 (rf_r2 n c (rf_way n c key root k) (rf_sl n c key (rf_way n c key root k))) (rf_way n c key root k) (rf_way n c key root (k - 1)) (rf_gb n c (rf_way n c key root (k - 1))) (rf_sl n c key (rf_way n c key root (k - 1)))) (rf_way n c key root (k - 2)) (rf_gb n c (rf_way n c key root (k - 2))) = (rf_r4 (rf_r2 n c (rf_way n c key root k) (rf_sl n c key (rf_way n c key root k))) (rf_way n c key root k) (rf_way n c key root (k - 1)) (rf_gb n c (rf_way n c key root (k - 1))) (rf_sl n c key (rf_way n c key root (k - 1)))) := by
          rw [← eH]; exact rf_wp_gself (by omega) y2
        have s5 := s4
        rw [← self] at s5
        -- the byte above
        have up2 : ∃ w5, f_MD_lift (nI (rf_lx (rf_gb n c (rf_way n c key root (k - 1))) (rf_sl n c key (rf_way n c key root (k - 1))))) (nI k) way turn w4 (nI (rf_way n c key root (k - 1))) = q_MD_lift_133 (nI (rf_lx (rf_gb n c (rf_way n c key root (k - 1))) (rf_sl n c key (rf_way n c key root (k - 1))))) (nI k) way turn w5 (nI (rf_way n c key root (k - 1))) ∧ rf_md w5 (rf_wp (rf_r4 (rf_r2 n c (rf_way n c key root k) (rf_sl n c key (rf_way n c key root k))) (rf_way n c key root k) (rf_way n c key root (k - 1)) (rf_gb n c (rf_way n c key root (k - 1))) (rf_sl n c key (rf_way n c key root (k - 1)))) (rf_way n c key root (k - 2)) (rf_kc (rf_gb n c (rf_way n c key root (k - 2))) (rf_sl n c key (rf_way n c key root (k - 2))) (rf_lx (rf_gb n c (rf_way n c key root (k - 1))) (rf_sl n c key (rf_way n c key root (k - 1)))))) := by
          rw [f_MD_lift, pu_br_f (show ¬ nI k = (1 : Int32) from fun q => by rw [show (1 : Int32) = nI 1 from rfl, nI_eq (by omega) (by omega)] at q; omega), ek2, pu_ck_t (vp_in_nI (by omega) (by decide)), nI_clamp (by omega), hw (k - 2) (by omega), pu_nm, pu_ck_t (vp_in_nI (by omega) (by decide)), ht (k - 2) (by omega), pu_nm, e0, show nI (64 * rf_way n c key root (k - 2)) + (1 : Int32) = nI (64 * rf_way n c key root (k - 2) + 1) from nI_add _ 1, pu_ck_t (vp_in_nI (by omega) (by decide)), nI_clamp (by omega), m1]
          by_cases e : rf_sl n c key (rf_way n c key root (k - 2)) < rf_gb n c (rf_way n c key root (k - 2)) 1
          · have ys := rf_nd_st y3 e
            have hbg := rf_begin s4 (p := rf_way n c key root (k - 2)) (c := c) (by omega) y2 hc (i := rf_sl n c key (rf_way n c key root (k - 2))) (by omega)
            rw [eH] at hbg
            have pp := rf_mputw s5 (a := rf_st (rf_gb n c (rf_way n c key root (k - 2))) (rf_sl n c key (rf_way n c key root (k - 2)) + 1)) (v := rf_lx (rf_gb n c (rf_way n c key root (k - 1))) (rf_sl n c key (rf_way n c key root (k - 1)))) (by omega)
            refine ⟨_, ?_, by unfold rf_kc; rw [if_pos e]; exact pp⟩
            rw [pu_br_f (fun q => by rw [nI_eq (by omega) (by omega)] at q; omega), hbg, pu_b1_s, nI_add, pu_ck_t (vp_in_nI (by omega) (by decide)), nI_clamp (by omega), pu_nm]
          · have pp := rf_mputw s5 (a := 2) (v := rf_lx (rf_gb n c (rf_way n c key root (k - 1))) (rf_sl n c key (rf_way n c key root (k - 1)))) (by omega)
            refine ⟨_, ?_, by unfold rf_kc; rw [if_neg e]; exact pp⟩
            rw [pu_br_t (by congr 1; omega), show nI (64 * rf_way n c key root (k - 2)) + (2 : Int32) = nI (64 * rf_way n c key root (k - 2) + 2) from nI_add _ 2, pu_ck_t (vp_in_nI (by omega) (by decide)), nI_clamp (by omega), pu_nm]
        obtain ⟨w5, v1, v2⟩ := up2
        obtain ⟨w6, v3, v4⟩ := rf_mfree v2 x1 (by omega)
        refine ⟨w6, nI 5, nI M', nI (rf_lx (rf_gb n c (rf_way n c key root (k - 1))) (rf_sl n c key (rf_way n c key root (k - 1)))), cl4, row4, step _ ?_, v4⟩
        rw [q_MD_remove_195, s3, pu_b1_s, pu_br_t (show nI M' = (0 : Int32) by rw [M1]; rfl), v1, q_MD_lift_133, v3, pu_b1_s, pu_b1_s]
end RFMR
