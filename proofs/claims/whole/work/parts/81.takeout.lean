section RFTO
variable {n n' : Nat → Nat} {c c' p D : Nat} {key : Int32} {root k : Nat}
theorem rf_nd_lf {g : Nat → Nat} {cnt leaf : Int32} {b st sz : Nat → Int32} (h : rf_nd g cnt leaf b st sz) : (leaf = 0 ∧ g 0 = 5) ∨ (leaf = 1 ∧ g 0 = 13) := by
  rcases h.1.1 with k | k
  · exact Or.inr ⟨by rw [h.2.2.2.1, rf_dv_t k]; rfl, k⟩
  · exact Or.inl ⟨by rw [h.2.2.2.1, rf_dv_f (by omega)]; rfl, k⟩
/-- a page loaded that is as it was -/
theorem rf_load_nd {b : Nat → Int32} (hn : rf_bt n') (hb : rf_pg b n') (hc : c ≤ 24) (h1 : 1 ≤ p) (h2 : p ≤ c) (hp : rf_pe n n' p) (hl : rf_lay (rf_gb n c p)) (cnt last leaf : Int32) (nb st sz : Nat → Int32) :
    ∃ r cn la le b' st' sz', f_Node_load (nI c) b cnt last leaf nb st sz (nI p) = some (r, cn, la, le, b', st', sz') ∧ rf_nd (rf_gb n c p) cn le b' st' sz' ∧ la = nI (rf_gb n c p 2) := by
  have eg : rf_gb n' c p = rf_gb n c p := rf_gb_pe h1 h2 (Nat.le_refl c) hp
  obtain ⟨r, cn, la, le, b', st', sz', q1, q2, _⟩ := rf_load hn hb (c := c) (p := p) hc (by omega) cnt last leaf nb st sz
  rw [eg] at q2
  exact ⟨r, cn, la, le, b', st', sz', q1, (rf_nd_of (by rw [← eg]; exact rf_gb_lt hn c p) q2 hl).2, q2.2.1⟩
/-- the only other child, of a page of two -/
theorem rf_lx_kid {g : Nat → Nat} {t : Nat} (h1 : 1 ≤ g 1) : rf_lx g t = rf_kid g (if t < g 1 then g 1 else g 1 - 1) := by
  unfold rf_lx
  by_cases e : t < g 1
  · rw [if_pos e, if_pos e, rf_kid_la]
  · rw [if_neg e, if_neg e, rf_kid_lo (by omega)]
theorem rf_hy_only (H : rf_hy n c key root k) (hk : 1 ≤ k) (q : Nat) :
    rf_tr n c (23 - k) (rf_lx (rf_gb n c (rf_way n c key root (k - 1))) (rf_sl n c key (rf_way n c key root (k - 1)))) ∧
    (if rf_way n c key root (k - 1) = q then 1 else 0) + rf_ct n c (23 - k) (rf_way n c key root k) q + rf_ct n c (23 - k) (rf_lx (rf_gb n c (rf_way n c key root (k - 1))) (rf_sl n c key (rf_way n c key root (k - 1)))) q ≤ rf_ct n c (23 - (k - 1)) (rf_way n c key root (k - 1)) q := by
  have t := rf_hy_tr H (j := k - 1) (by omega)
  have h5 := H.2.2.2.2.1
  rw [show 23 - (k - 1) = (23 - k) + 1 by omega] at t ⊢
  have g5 := H.2.2.2.2.2.1 (k - 1) (by omega)
  have hsl := rf_sl_le (n := n) (c := c) (key := key) (p := rf_way n c key root (k - 1))
  obtain ⟨i1, i2, i3⟩ := t.2.2.2.2 g5
  have eP : rf_way n c key root k = rf_kid (rf_gb n c (rf_way n c key root (k - 1))) (rf_sl n c key (rf_way n c key root (k - 1))) := by
    obtain ⟨j, rfl⟩ : ∃ j, k = j + 1 := ⟨k - 1, by omega⟩
    rfl
  rw [rf_lx_kid i1]
  refine ⟨i3 _ (by split <;> omega), ?_⟩
  rw [rf_ct5 g5, eP]
  generalize rf_sl n c key (rf_way n c key root (k - 1)) = t at *
  by_cases e : t < rf_gb n c (rf_way n c key root (k - 1)) 1
  · rw [if_pos e]
    have := rf_su_two (f := fun i => rf_ct n c (23 - k) (rf_kid (rf_gb n c (rf_way n c key root (k - 1))) i) q) e (show _ < rf_gb n c (rf_way n c key root (k - 1)) 1 + 1 by omega)
    omega
  · rw [if_neg e]
    have := rf_su_two (f := fun i => rf_ct n c (23 - k) (rf_kid (rf_gb n c (rf_way n c key root (k - 1))) i) q) (show rf_gb n c (rf_way n c key root (k - 1)) 1 - 1 < t by omega) (by omega)
    omega
/-- what stands after the leaf is free and the page above is written -/
theorem rf_r4_all (H : rf_hy n c key root k) (hk : 1 ≤ k) {s : Nat} (hs : s < rf_gb n c (rf_way n c key root k) 1) :
    rf_bt (rf_fr (rf_r2 n c (rf_way n c key root k) s) (rf_way n c key root k)) ∧ (∀ q, 2 ≤ q → q ≠ rf_way n c key root k → rf_lq n (rf_gb n c (rf_way n c key root k)) q s = 0 → rf_pe n (rf_fr (rf_r2 n c (rf_way n c key root k) s) (rf_way n c key root k)) q) ∧
    rf_hn (rf_fr (rf_r2 n c (rf_way n c key root k) s) (rf_way n c key root k)) c (rf_fr (rf_r2 n c (rf_way n c key root k) s) (rf_way n c key root k) 67) (rf_fr (rf_r2 n c (rf_way n c key root k) s) (rf_way n c key root k) 66) ∧
    (∀ q, rf_hc (rf_fr (rf_r2 n c (rf_way n c key root k) s) (rf_way n c key root k)) (rf_fr (rf_r2 n c (rf_way n c key root k) s) (rf_way n c key root k) 67) (rf_fr (rf_r2 n c (rf_way n c key root k) s) (rf_way n c key root k) 66) q = (if rf_way n c key root k = q then 1 else 0) + rf_lq n (rf_gb n c (rf_way n c key root k)) q s + rf_hc n (n 67) (n 66) q) ∧
    (∀ j, j < 128 → j ≠ 66 → j ≠ 67 → rf_fr (rf_r2 n c (rf_way n c key root k) s) (rf_way n c key root k) j = n j) := by
  have lf := rf_hy_leaf H hs
  have one := rf_hy_one H (Nat.le_refl k)
  obtain ⟨p1, p2, p3⟩ := rf_hy_pg H (Nat.le_refl k)
  obtain ⟨a1, a2, a3, a4, a5, _⟩ := rf_r2_all H hs
  have hc := H.2.2.1
  have lP := lf (rf_way n c key root k)
  have oP := one (rf_way n c key root k)
  rw [if_pos rfl] at lP
  have h67 : rf_r2 n c (rf_way n c key root k) s 67 ≤ 23 := rf_hn_23 hc a2 (fun q => by rw [a3]; have := lf q; have := one q; omega)
  obtain ⟨b1, b2⟩ := rf_fr_hn p1 p2 a2 (by rw [a3]; omega)
  refine ⟨rf_fr_bt a1 (by omega) (by omega), fun q q1 q2 q3 a ha => ?_, b1, fun q => by rw [b2, a3]; omega, fun j j1 j2 j3 => by rw [rf_fr_hd p1 j1 j2 j3, a5 j j1 j2 j3]⟩
  rw [rf_fr_pe q2 q1 a ha]
  exact a4 q q1 q2 q3 a ha
theorem rf_way_free (H : rf_hy n c key root k) {j s : Nat} (hj : j < k) (hs : s < rf_gb n c (rf_way n c key root k) 1) : rf_way n c key root j ≠ rf_way n c key root k ∧ rf_lq n (rf_gb n c (rf_way n c key root k)) (rf_way n c key root j) s = 0 := by
  have a := rf_hy_two H hj (Nat.le_refl k) (rf_way n c key root j)
  have b := rf_hy_leaf H hs (rf_way n c key root j)
  rw [if_pos rfl] at a
  refine ⟨fun e => ?_, by omega⟩
  rw [if_pos e.symm] at b
  omega
/-- the class takes a row out -/
theorem rf_takeOut (H : rf_hy n c key root k) {b : Nat → Int32} (hb : rf_pg b n) (hs : rf_sl n c key (rf_way n c key root k) < rf_gb n c (rf_way n c key root k) 1) {cnt last leaf : Int32} {nb st sz path slots : Nat → Int32}
    (nd : rf_nd (rf_gb n c (rf_way n c key root k)) cnt leaf nb st sz) (hla : last = nI (rf_gb n c (rf_way n c key root k) 2)) (hp : ∀ i, i ≤ k → path i = nI (rf_way n c key root i) ∧ slots i = nI (rf_sl n c key (rf_way n c key root i))) :
    ∃ w cnt' last' leaf' b' st' sz', f_Tree_takeOut (nI k) (nI (rf_sl n c key (rf_way n c key root k))) (nI c) path slots b cnt last leaf nb st sz = some (w, cnt', last', leaf', b', st', sz') ∧ rf_pg w (rf_rm n c key root k) := by
  have h13 := H.2.2.2.2.2.2.1
  have hc := H.2.2.1
  have h23 := H.2.2.2.2.1
  obtain ⟨p1, p2, p3⟩ := rf_hy_pg H (Nat.le_refl k)
  obtain ⟨a1, a2, a3, a4, a5, a6, ⟨n1, n2, n3, n4⟩, a8⟩ := rf_r2_all H hs
  obtain ⟨f1, f2, f3, f4, f5⟩ := rf_hy_cl H hs
  have hL : rf_cL (rf_gb n c (rf_way n c key root k)) (rf_sl n c key (rf_way n c key root k)) ≤ 307 := by
    exact f5.2.1
  have hln : rf_ln (rf_gb n c (rf_way n c key root k)) (rf_sl n c key (rf_way n c key root k)) = some (rf_cL (rf_gb n c (rf_way n c key root k)) (rf_sl n c key (rf_way n c key root k)), f1) := f4
  have g2 : rf_gb n c (rf_way n c key root k) 2 = 0 := p3.2.1 h13
  have g30 := p3.2.2.2.1
  have rl := rf_recordLength nd hs
  rw [hln] at rl
  have cs := rf_chainStart nd hs (by omega)
  have nx := rf_nd_nx nd
  have lf : leaf = 1 := by
    rcases rf_nd_lf nd with ⟨_, q⟩ | ⟨q, _⟩
    · omega
    · exact q
  obtain ⟨M, hM⟩ : ∃ M, rf_gb n c (rf_way n c key root k) 1 = M + 1 := ⟨_, (by omega : rf_gb n c (rf_way n c key root k) 1 = rf_gb n c (rf_way n c key root k) 1 - 1 + 1)⟩
  rw [hM] at nx
  obtain ⟨st1, sz1, d1, d2⟩ := rf_dropCell nx (i := rf_sl n c key (rf_way n c key root k)) (by omega)
  have room := rf_lay_dl p3 hs
  rw [hM, Nat.add_sub_cancel] at room
  obtain ⟨w1, s1, s2⟩ := rf_storeAll (n := n) (c := c) (p := rf_way n c key root k) (kd := 13) (la := 0) (last := last) d2 (Or.inr ⟨lf, rfl⟩) hb hc (by omega) p2 room (by omega) (by rw [hla, g2])
  have eml : rf_mk 13 M 0 (rf_dl (rf_sl n c key (rf_way n c key root k)) (rf_cln (rf_gb n c (rf_way n c key root k)))) (rf_dl (rf_sl n c key (rf_way n c key root k)) (rf_ccb (rf_gb n c (rf_way n c key root k)))) = rf_ml (rf_gb n c (rf_way n c key root k)) (rf_sl n c key (rf_way n c key root k)) := by
    unfold rf_ml; rw [hM, Nat.add_sub_cancel]
  rw [eml] at s2
  have hcp : rf_cp (rf_cL (rf_gb n c (rf_way n c key root k)) (rf_sl n c key (rf_way n c key root k))) ≤ 5 := by unfold rf_cp; split <;> omega
  obtain ⟨w2, t1, t2⟩ := rf_freeChain hc (L := rf_cL (rf_gb n c (rf_way n c key root k)) (rf_sl n c key (rf_way n c key root k))) (by omega) rfl (nI k) (nI (rf_sl n c key (rf_way n c key root k))) (nI M) last leaf path slots nb st1 sz1 (fun v_pages_bytes => q_Tree_takeOut_94 (nI k) (nI (rf_sl n c key (rf_way n c key root k))) (nI c) path slots v_pages_bytes (nI M) last leaf nb st1 sz1) (i := 0) n2 s2 n1 n3 n4 (by omega) (by omega) pu_fu (by rw [rf_fu]; omega)
  have head : ∀ q, q_Tree_takeOut_94 (nI k) (nI (rf_sl n c key (rf_way n c key root k))) (nI c) path slots w2 (nI M) last leaf nb st1 sz1 = q → f_Tree_takeOut (nI k) (nI (rf_sl n c key (rf_way n c key root k))) (nI c) path slots b cnt last leaf nb st sz = q := by
    intro q hq
    rw [f_Tree_takeOut, rl, pu_b1_s, show rf_rv (some (rf_cL (rf_gb n c (rf_way n c key root k)) (rf_sl n c key (rf_way n c key root k)), f1)) = nI (rf_cL (rf_gb n c (rf_way n c key root k)) (rf_sl n c key (rf_way n c key root k))) from rfl, cs, pu_b1_s, d1, pu_b3_s, pu_ck_t (vp_in_nI (by omega) (by decide)), nI_clamp (by omega), (hp k (Nat.le_refl k)).1, s1, pu_b1_s, show (0 : Int32) = nI 0 from rfl, t1, hq]
  have e2 : rf_fc (rf_cp (rf_cL (rf_gb n c (rf_way n c key root k)) (rf_sl n c key (rf_way n c key root k)))) (rf_wp n (rf_way n c key root k) (rf_ml (rf_gb n c (rf_way n c key root k)) (rf_sl n c key (rf_way n c key root k)))) (rf_cf (rf_gb n c (rf_way n c key root k)) (rf_sl n c key (rf_way n c key root k))) = rf_r2 n c (rf_way n c key root k) (rf_sl n c key (rf_way n c key root k)) := rfl
  rw [e2] at t2
  clear t1 s1 s2 rl cs n1 n2 n3 n4 a6 a8 e2
  unfold rf_rm
  by_cases c1 : 1 < rf_gb n c (rf_way n c key root k) 1 ∨ k = 0
  · rw [if_pos c1]
    refine ⟨w2, nI M, last, leaf, nb, st1, sz1, head _ ?_, t2⟩
    rw [q_Tree_takeOut_94]
    by_cases c2 : M = 0
    · rw [pu_br_t (show nI M = (0 : Int32) by rw [c2]; rfl), pu_br_t (show nI k ≤ (0 : Int32) by rw [show k = 0 by omega]; decide)]
    · rw [pu_br_f (nI_ne0 (by omega) (by omega))]
  · rw [if_neg c1]
    have M0 : M = 0 := by omega
    have k1 : 1 ≤ k := by omega
    obtain ⟨b1, b2, b3, b4, b5⟩ := rf_r4_all H k1 hs
    obtain ⟨x1, x2, x3⟩ := rf_hy_pg H (j := k - 1) (by omega)
    have g5 := H.2.2.2.2.2.1 (k - 1) (by omega)
    have only := rf_hy_only H k1
    have fr := rf_way_free H (j := k - 1) (by omega) hs
    obtain ⟨w3, s1, s2⟩ := rf_freePage a1 t2 hc p1 p2
    have pA : rf_pe n (rf_fr (rf_r2 n c (rf_way n c key root k) (rf_sl n c key (rf_way n c key root k))) (rf_way n c key root k)) (rf_way n c key root (k - 1)) := b2 _ x1 fr.1 fr.2
    obtain ⟨r0, cn0, la0, le0, nb0, st0, sz0, q1, q2, q3⟩ := rf_load_nd b1 s2 hc (by omega) x2 pA x3 (nI M) last leaf nb st1 sz1
    have hi1 : 1 ≤ rf_gb n c (rf_way n c key root (k - 1)) 1 := by
      have := rf_hy_tr H (j := k - 1) (by omega)
      rw [show 23 - (k - 1) = (23 - k) + 1 by omega] at this
      exact (this.2.2.2.2 g5).1
    have hsl := rf_sl_le (n := n) (c := c) (key := key) (p := rf_way n c key root (k - 1))
    have x30 := x3.2.2.2.1
    have ch := rf_child q2 q3 (i := rf_gb n c (rf_way n c key root (k - 1)) 1 - 1) (by omega)
    rw [if_pos (by omega)] at ch
    have nx0 := rf_nd_nx q2
    obtain ⟨M', hM'⟩ : ∃ M', rf_gb n c (rf_way n c key root (k - 1)) 1 = M' + 1 := ⟨_, (by omega : rf_gb n c (rf_way n c key root (k - 1)) 1 = rf_gb n c (rf_way n c key root (k - 1)) 1 - 1 + 1)⟩
    rw [hM'] at nx0
    have hdx : rf_dx (rf_gb n c (rf_way n c key root (k - 1))) (rf_sl n c key (rf_way n c key root (k - 1))) ≤ M' := by
      unfold rf_dx; split <;> omega
    obtain ⟨st2, sz2, d3, d4⟩ := rf_dropCell nx0 (i := rf_dx (rf_gb n c (rf_way n c key root (k - 1))) (rf_sl n c key (rf_way n c key root (k - 1)))) hdx
    have room2 := rf_lay_dl x3 (i := rf_dx (rf_gb n c (rf_way n c key root (k - 1))) (rf_sl n c key (rf_way n c key root (k - 1)))) (by omega)
    rw [hM', Nat.add_sub_cancel] at room2
    have lf0 : le0 = 0 := by
      rcases rf_nd_lf q2 with ⟨q, _⟩ | ⟨_, q⟩
      · exact q
      · omega
    have hgl : ∀ a, rf_gb n c (rf_way n c key root (k - 1)) a < 256 := rf_gb_lt H.1 c _
    obtain ⟨w4, s3, s4⟩ := rf_storeAll (n := rf_fr (rf_r2 n c (rf_way n c key root k) (rf_sl n c key (rf_way n c key root k))) (rf_way n c key root k)) (c := c) (p := rf_way n c key root (k - 1)) (kd := 5) (la := rf_lx (rf_gb n c (rf_way n c key root (k - 1))) (rf_sl n c key (rf_way n c key root (k - 1)))) d4 (Or.inl ⟨lf0, rfl⟩) s2 hc (by omega) x2 room2 (rf_lx_lt hgl _) rfl
    have emi : rf_wp (rf_fr (rf_r2 n c (rf_way n c key root k) (rf_sl n c key (rf_way n c key root k))) (rf_way n c key root k)) (rf_way n c key root (k - 1)) (rf_mk 5 M' (rf_lx (rf_gb n c (rf_way n c key root (k - 1))) (rf_sl n c key (rf_way n c key root (k - 1)))) (rf_dl (rf_dx (rf_gb n c (rf_way n c key root (k - 1))) (rf_sl n c key (rf_way n c key root (k - 1)))) (rf_cln (rf_gb n c (rf_way n c key root (k - 1))))) (rf_dl (rf_dx (rf_gb n c (rf_way n c key root (k - 1))) (rf_sl n c key (rf_way n c key root (k - 1)))) (rf_ccb (rf_gb n c (rf_way n c key root (k - 1)))))) = rf_r4 (rf_r2 n c (rf_way n c key root k) (rf_sl n c key (rf_way n c key root k))) (rf_way n c key root k) (rf_way n c key root (k - 1)) (rf_gb n c (rf_way n c key root (k - 1))) (rf_sl n c key (rf_way n c key root (k - 1))) := by
      unfold rf_r4 rf_mi; rw [hM', Nat.add_sub_cancel]
    rw [emi] at s4
    have ek : nI k - (1 : Int32) = nI (k - 1) := pk_sub (a := k) (b := 1) (by omega)
    -- down to the page above
    have step : ∀ (o : (Nat → Int32) × Int32 × Int32 × Int32 × (Nat → Int32) × (Nat → Int32) × (Nat → Int32)), q_Tree_dropLeaf_67 (nI k) (nI c) path slots w3 cn0 (nI (rf_lx (rf_gb n c (rf_way n c key root (k - 1))) (rf_sl n c key (rf_way n c key root (k - 1))))) le0 nb0 st0 sz0 (nI (rf_way n c key root (k - 1))) (nI (rf_dx (rf_gb n c (rf_way n c key root (k - 1))) (rf_sl n c key (rf_way n c key root (k - 1))))) = some o → q_Tree_takeOut_94 (nI k) (nI (rf_sl n c key (rf_way n c key root k))) (nI c) path slots w2 (nI M) last leaf nb st1 sz1 = some o := by
      rintro ⟨o1, o2, o3, o4, o5, o6, o7⟩ ho
      have hcn : cn0 = nI (rf_gb n c (rf_way n c key root (k - 1)) 1) := q2.2.2.2.2.1
      have dl : f_Tree_dropLeaf (nI k) (nI c) path slots w2 (nI M) last leaf nb st1 sz1 (nI (rf_way n c key root (k - 1))) (nI (rf_sl n c key (rf_way n c key root (k - 1)))) = some (o1, o2, o3, o4, o5, o6, o7) := by
        rw [f_Tree_dropLeaf, pu_ck_t (vp_in_nI (by omega) (by decide)), nI_clamp (by omega), (hp k (Nat.le_refl k)).1, s1, pu_b1_s, q1, pu_b7_s]
        by_cases e : rf_sl n c key (rf_way n c key root (k - 1)) < rf_gb n c (rf_way n c key root (k - 1)) 1
        · rw [hcn, pu_br_t (nI_lt e (by omega)), ← hcn]
          unfold rf_dx rf_lx at ho
          rw [if_pos e, if_pos e] at ho
          rw [q3]
          exact ho
        · rw [hcn, pu_br_f (nI_nlt (by omega) (by omega)), show nI (rf_gb n c (rf_way n c key root (k - 1)) 1) - (1 : Int32) = nI (rf_gb n c (rf_way n c key root (k - 1)) 1 - 1) from pk_sub (b := 1) (by omega), pu_nm, ← hcn, ch, pu_b1_s]
          unfold rf_dx rf_lx at ho
          rw [if_neg e, if_neg e, ← rf_kid_lo (by omega), show rf_kid (rf_gb n c (rf_way n c key root (k - 1))) (rf_gb n c (rf_way n c key root (k - 1)) 1 - 1) = rf_gb n c (rf_way n c key root (k - 1)) (rf_st (rf_gb n c (rf_way n c key root (k - 1))) (rf_gb n c (rf_way n c key root (k - 1)) 1 - 1 + 1)) by unfold rf_kid; rw [if_pos (by omega)]] at ho
          exact ho
      rw [q_Tree_takeOut_94, pu_br_t (show nI M = (0 : Int32) by rw [M0]; rfl), pu_br_f (nI_nle (by omega) (by omega)), ek, pu_ck_t (vp_in_nI (by omega) (by decide)), pu_ck_t (vp_in_nI (by omega) (by decide)), nI_clamp (by omega), (hp (k - 1) (by omega)).1, (hp (k - 1) (by omega)).2, dl, pu_b7_s]
    by_cases c2 : 1 < rf_gb n c (rf_way n c key root (k - 1)) 1
    · rw [if_pos c2]
      refine ⟨w4, nI M', nI (rf_lx (rf_gb n c (rf_way n c key root (k - 1))) (rf_sl n c key (rf_way n c key root (k - 1)))), le0, nb0, st2, sz2, head _ (step _ ?_), s4⟩
      rw [q_Tree_dropLeaf_67, d3, pu_b3_s, s3, pu_b1_s, pu_br_f (nI_ne0 (by omega) (by omega))]
    · rw [if_neg c2]
      have M1 : M' = 0 := by omega
      obtain ⟨o1, o2⟩ := only (rf_lx (rf_gb n c (rf_way n c key root (k - 1))) (rf_sl n c key (rf_way n c key root (k - 1))))
      have ot := o1
      rw [show 23 - k = (22 - k) + 1 by omega] at ot
      have O1 := ot.1
      have O2 := ot.2.1
      have bt4 : rf_bt (rf_r4 (rf_r2 n c (rf_way n c key root k) (rf_sl n c key (rf_way n c key root k))) (rf_way n c key root k) (rf_way n c key root (k - 1)) (rf_gb n c (rf_way n c key root (k - 1))) (rf_sl n c key (rf_way n c key root (k - 1)))) := rf_wp_bt b1 (rf_mi_lt hgl x3 _)
      by_cases c3 : k = 1
      · rw [if_pos c3]
        obtain ⟨w5, u1, u2⟩ := rf_copyAl s4 hc (A := rf_way n c key root (k - 1)) (O := rf_lx (rf_gb n c (rf_way n c key root (k - 1))) (rf_sl n c key (rf_way n c key root (k - 1)))) (by omega) x2 (by omega) O2
        obtain ⟨w6, u3, u4⟩ := rf_freePage (rf_wp_bt bt4 (fun a => bt4 _)) u2 hc O1 O2
        refine ⟨w6, nI M', nI (rf_lx (rf_gb n c (rf_way n c key root (k - 1))) (rf_sl n c key (rf_way n c key root (k - 1)))), le0, nb0, st2, sz2, head _ (step _ ?_), u4⟩
        rw [q_Tree_dropLeaf_67, d3, pu_b3_s, s3, pu_b1_s, pu_br_t (show nI M' = (0 : Int32) by rw [M1]; rfl), f_Tree_dropInner, pu_br_f (show ¬ (2 : Int32) ≤ nI k by rw [c3]; decide), u1, pu_b1_s, u3, pu_b1_s, pu_b7_s]
      · rw [if_neg c3]
        obtain ⟨y1, y2, y3⟩ := rf_hy_pg H (j := k - 2) (by omega)
        have frH := rf_way_free H (j := k - 2) (by omega) hs
        have h5 := H.2.2.2.2.2.1 (k - 2) (by omega)
        have AH : rf_way n c key root (k - 2) ≠ rf_way n c key root (k - 1) := by
          have := rf_hy_two H (i := k - 2) (j := k - 1) (by omega) (by omega) (rf_way n c key root (k - 2))
          rw [if_pos rfl] at this
          intro e
          rw [← e, show 23 - (k - 1) = (23 - k) + 1 by omega, rf_ct, if_pos rfl] at this
          omega
        have pH : rf_pe n (rf_r4 (rf_r2 n c (rf_way n c key root k) (rf_sl n c key (rf_way n c key root k))) (rf_way n c key root k) (rf_way n c key root (k - 1)) (rf_gb n c (rf_way n c key root (k - 1))) (rf_sl n c key (rf_way n c key root (k - 1)))) (rf_way n c key root (k - 2)) := by
          intro a ha
          unfold rf_r4
          rw [rf_wp_pe AH a ha]
          exact b2 _ y1 frH.1 frH.2 a ha
        obtain ⟨r1, cn1, la1, le1, nb1, st3, sz3, v1, v2, v3⟩ := rf_load_nd bt4 s4 hc (by omega) y2 pH y3 (nI M') (nI (rf_lx (rf_gb n c (rf_way n c key root (k - 1))) (rf_sl n c key (rf_way n c key root (k - 1))))) le0 nb0 st2 sz2
        have hsl2 := rf_sl_le (n := n) (c := c) (key := key) (p := rf_way n c key root (k - 2))
        obtain ⟨la2, nb2, z1, z2, z3⟩ := rf_setChild v2 v3 (t := rf_sl n c key (rf_way n c key root (k - 2))) (O := rf_lx (rf_gb n c (rf_way n c key root (k - 1))) (rf_sl n c key (rf_way n c key root (k - 1)))) (by omega)
        have lf1 : le1 = 0 := by
          rcases rf_nd_lf v2 with ⟨q, _⟩ | ⟨_, q⟩
          · exact q
          · omega
        have hHl : ∀ a, rf_gb n c (rf_way n c key root (k - 2)) a < 256 := rf_gb_lt H.1 c _
        have ly := rf_kc_lay y3 h5 (t := rf_sl n c key (rf_way n c key root (k - 2))) (O := rf_lx (rf_gb n c (rf_way n c key root (k - 1))) (rf_sl n c key (rf_way n c key root (k - 1))))
        have kc1 : rf_kc (rf_gb n c (rf_way n c key root (k - 2))) (rf_sl n c key (rf_way n c key root (k - 2))) (rf_lx (rf_gb n c (rf_way n c key root (k - 1))) (rf_sl n c key (rf_way n c key root (k - 1)))) 1 = rf_gb n c (rf_way n c key root (k - 2)) 1 := rf_kc_out y3 (by omega) (by omega)
        have kc0 : rf_kc (rf_gb n c (rf_way n c key root (k - 2))) (rf_sl n c key (rf_way n c key root (k - 2))) (rf_lx (rf_gb n c (rf_way n c key root (k - 1))) (rf_sl n c key (rf_way n c key root (k - 1)))) 0 = 5 := by rw [rf_kc_out y3 (by omega) (by omega)]; exact h5
        have kclt : ∀ a, rf_kc (rf_gb n c (rf_way n c key root (k - 2))) (rf_sl n c key (rf_way n c key root (k - 2))) (rf_lx (rf_gb n c (rf_way n c key root (k - 1))) (rf_sl n c key (rf_way n c key root (k - 1)))) a < 256 := by
          intro a
          have := rf_lx_lt hgl (rf_sl n c key (rf_way n c key root (k - 1)))
          unfold rf_kc rf_p1
          by_cases e : a = (if rf_sl n c key (rf_way n c key root (k - 2)) < rf_gb n c (rf_way n c key root (k - 2)) 1 then rf_st (rf_gb n c (rf_way n c key root (k - 2))) (rf_sl n c key (rf_way n c key root (k - 2)) + 1) else 2)
          · rw [if_pos e]; exact this
          · rw [if_neg e]; exact hHl a
        have rm := rf_lay_room ly
        have mk := rf_lay_mk ly
        rw [kc1] at rm mk
        rw [kc0] at mk
        obtain ⟨w5, u1, u2⟩ := rf_storeAll (n := rf_r4 (rf_r2 n c (rf_way n c key root k) (rf_sl n c key (rf_way n c key root k))) (rf_way n c key root k) (rf_way n c key root (k - 1)) (rf_gb n c (rf_way n c key root (k - 1))) (rf_sl n c key (rf_way n c key root (k - 1)))) (c := c) (p := rf_way n c key root (k - 2)) (kd := 5) (la := rf_kc (rf_gb n c (rf_way n c key root (k - 2))) (rf_sl n c key (rf_way n c key root (k - 2))) (rf_lx (rf_gb n c (rf_way n c key root (k - 1))) (rf_sl n c key (rf_way n c key root (k - 1)))) 2) z3 (Or.inl ⟨lf1, rfl⟩) s4 hc (by omega) y2 rm (kclt 2) z2
        rw [← rf_wp_congr mk] at u2
        obtain ⟨w6, u3, u4⟩ := rf_freePage (rf_wp_bt bt4 kclt) u2 hc x1 x2
        refine ⟨w6, cn1, la2, le1, nb2, st3, sz3, head _ (step _ ?_), u4⟩
        have ek2 : nI k - (2 : Int32) = nI (k - 2) := pk_sub (a := k) (b := 2) (by omega)
        rw [q_Tree_dropLeaf_67, d3, pu_b3_s, s3, pu_b1_s, pu_br_t (show nI M' = (0 : Int32) by rw [M1]; rfl), f_Tree_dropInner, pu_br_t (show (2 : Int32) ≤ nI k from nI_le (a := 2) (by omega) (by omega)), ek2, pu_ck_t (vp_in_nI (by omega) (by decide)), nI_clamp (by omega), (hp (k - 2) (by omega)).1, v1, pu_b7_s, pu_ck_t (vp_in_nI (by omega) (by decide)), (hp (k - 2) (by omega)).2, z1, pu_b2_s, pu_ck_t (vp_in_nI (by omega) (by decide)), u1, pu_b1_s, u3, pu_b1_s, pu_b7_s]
end RFTO
