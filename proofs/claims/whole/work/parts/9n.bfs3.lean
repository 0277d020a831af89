section RFB3
variable {n : Nat → Nat} {c : Nat}
theorem rf_bS_x {D x T q : Nat} {wp : Nat → Nat} (h : x < T) : rf_bS n c D wp x T q = rf_cu n c D (wp x) q + rf_bS n c D wp (x + 1) T q := by
  unfold rf_bS
  exact rf_su_from (f := fun j => rf_cu n c D (wp j) q) h
theorem rf_bS_mono {D D' x T q : Nat} {wp wl wh : Nat → Nat} (h : ∀ j, x ≤ j → j < T → rf_tq n c D (wp j) (wl j) (wh j)) (hD : D ≤ D') : rf_bS n c D' wp x T q = rf_bS n c D wp x T q := by
  unfold rf_bS
  exact rf_su_congr _ (fun j hj => rf_cu_mono (h (x + j) (by omega) (by omega)).1 hD q)
theorem rf_cu13 {D p q : Nat} (k : rf_gb n c p 0 = 13) : rf_cu n c (D + 1) p q = rf_su (rf_lq n (rf_gb n c p) q) (rf_gb n c p 1) := by
  unfold rf_cu
  rw [rf_ct, if_pos k]; omega
theorem rf_cu5 {D p q : Nat} (k : rf_gb n c p 0 = 5) : rf_cu n c (D + 1) p q = rf_su (fun i => rf_ct n c D (rf_kid (rf_gb n c p) i) q) (rf_gb n c p 1 + 1) := by
  unfold rf_cu
  rw [rf_ct5 k]; omega
theorem rf_Q_L {R : Nat → Nat} {x T : Nat} {wp wl wh : Nat → Nat} (hx : x < T) (h1 : 2 ≤ wp x) (h2 : wp x ≤ c) (hl : rf_lay (rf_gb n c (wp x))) (g13 : rf_gb n c (wp x) 0 = 13) (hne : rf_ne n c (wp x)) : rf_Q n c R x T wp wl wh ↔ rf_QL n c (rf_gb n c (wp x)) (x + 1) T (wl x) (wh x) wp wl wh R 0 := by
  constructor
  · rintro ⟨D, a1, a2⟩
    have t := a1 x (Nat.le_refl _) hx
    have d := rf_tq_pos t
    obtain ⟨D, rfl⟩ : ∃ d, D = d + 1 := ⟨D - 1, by omega⟩
    obtain ⟨t1, t2⟩ := t
    refine ⟨D + 1, fun j j1 j2 => a1 j (by omega) j2, fun j _ j2 => ⟨t1.2.2.2.1 g13 j j2, t2.2.2.1 g13 j j2, (t2.2.1 j j2).1, (t2.2.1 j j2).2⟩, fun q => ?_⟩
    have b := a2 q
    rw [rf_bS_x hx, rf_cu13 g13] at b
    rw [Nat.sub_zero, rf_su_congr (g := rf_lq n (rf_gb n c (wp x)) q) _ (fun j _ => by rw [Nat.zero_add])]
    omega
  · rintro ⟨D, a1, a2, a3⟩
    refine ⟨D + 1, fun j j1 j2 => ?_, fun q => ?_⟩
    · by_cases e : j = x
      · subst e
        exact ⟨⟨h1, h2, hl, fun _ i hi => (a2 i (Nat.zero_le _) hi).1, fun z => by omega⟩, hne, fun i hi => (a2 i (Nat.zero_le _) hi).2.2, fun _ i hi => (a2 i (Nat.zero_le _) hi).2.1, fun z => by omega⟩
      · exact rf_tq_mono (a1 j (by omega) j2) (by omega)
    · have b := a3 q
      rw [Nat.sub_zero, rf_su_congr (g := rf_lq n (rf_gb n c (wp x)) q) _ (fun j _ => by rw [Nat.zero_add])] at b
      rw [rf_bS_x hx, rf_cu13 g13, rf_bS_mono a1 (by omega)]
      omega
theorem rf_Q_I {R : Nat → Nat} {x T : Nat} {wp wl wh : Nat → Nat} (hx : x < T) (h1 : 2 ≤ wp x) (h2 : wp x ≤ c) (hl : rf_lay (rf_gb n c (wp x))) (g5 : rf_gb n c (wp x) 0 = 5) (g1 : 1 ≤ rf_gb n c (wp x) 1) : rf_Q n c R x T wp wl wh ↔ rf_QI n c (rf_gb n c (wp x)) (x + 1) (wl x) (wh x) R 0 T wp wl wh := by
  constructor
  · rintro ⟨D, a1, a2⟩
    have t := a1 x (Nat.le_refl _) hx
    have d := rf_tq_pos t
    obtain ⟨D, rfl⟩ : ∃ d, D = d + 1 := ⟨D - 1, by omega⟩
    obtain ⟨t1, t2⟩ := t
    obtain ⟨u1, u2, u3⟩ := t1.2.2.2.2 g5
    have u4 := t2.2.2.2 g5
    refine ⟨D + 1, fun j j1 j2 => a1 j (by omega) j2, fun j _ j2 => ⟨u2 j j2, (t2.2.1 j j2).1, (t2.2.1 j j2).2⟩, fun j _ j2 => rf_tq_mono ⟨u3 j j2, u4 j j2⟩ (by omega), fun q => ?_⟩
    have b := a2 q
    rw [rf_bS_x hx, rf_cu5 g5] at b
    rw [Nat.sub_zero, rf_su_congr (g := fun i => rf_ct n c D (rf_kid (rf_gb n c (wp x)) i) q) _ (fun j hj => by rw [Nat.zero_add, (rf_mono1 (u3 j hj)).2.1 q])]
    omega
  · rintro ⟨D, a1, a2, a3, a4⟩
    refine ⟨D + 1, fun j j1 j2 => ?_, fun q => ?_⟩
    · by_cases e : j = x
      · subst e
        exact ⟨⟨h1, h2, hl, fun z => by omega, fun _ => ⟨g1, fun i hi => (a2 i (Nat.zero_le _) hi).1, fun i hi => (a3 i (Nat.zero_le _) hi).1⟩⟩, fun z => by omega, fun i hi => (a2 i (Nat.zero_le _) hi).2, fun z => by omega, fun _ i hi => (a3 i (Nat.zero_le _) hi).2⟩
      · exact rf_tq_mono (a1 j (by omega) j2) (by omega)
    · have b := a4 q
      rw [Nat.sub_zero, rf_su_congr (g := fun i => rf_ct n c D (rf_kid (rf_gb n c (wp x)) i) q) _ (fun j _ => by rw [Nat.zero_add])] at b
      rw [rf_bS_x hx, rf_cu5 g5, rf_bS_mono a1 (by omega)]
      omega
/-- one page of the tree, in the class's check -/
theorem rf_treePage {b : Nat → Int32} (hn : rf_bt n) (hb : rf_pg b n) (h1c : 1 ≤ c) (hc : c ≤ 24) {x T : Nat} {R wp wl wh : Nat → Nat} {arr tp lw hgA : Nat → Int32} (hx : x < T) (hs : rf_se arr R) (hRc : ∀ q, 1 ≤ R q → q ≤ c) (hT : T ≤ rf_su R 25) (hw : rf_wa T tp lw hgA wp wl wh) (hv : rf_wv c T wp wl wh) (cnt0 last0 leaf0 : Int32) (nb0 st0 sz0 : Nat → Int32) (rl rcnt : Int32) (rb rco rst : Nat → Int32) :
    ∃ (y : Int32) (T' : Nat) (cnt last leaf : Int32) (nb st sz : Nat → Int32) (rl' rcnt' : Int32) (rb' rco' rst' arr' tp' lw' hg' : Nat → Int32), f_Check_treePageHolds (nI c) b (nI T) cnt0 last0 leaf0 nb0 st0 sz0 rl rcnt rb rco rst arr tp lw hgA (nI (wp x)) (rf_lz (wl x)) (nI (wh x)) = some (y, nI T', cnt, last, leaf, nb, st, sz, rl', rcnt', rb', rco', rst', arr', tp', lw', hg') ∧
      ((y = 0 ∧ ¬ rf_Q n c R x T wp wl wh) ∨ (y = 1 ∧ ∃ R' wp' wl' wh', rf_se arr' R' ∧ (∀ q, 1 ≤ R' q → q ≤ c) ∧ T ≤ T' ∧ T' ≤ rf_su R' 25 ∧ rf_wa T' tp' lw' hg' wp' wl' wh' ∧ rf_wv c T' wp' wl' wh' ∧ (rf_Q n c R x T wp wl wh ↔ rf_Q n c R' (x + 1) T' wp' wl' wh'))) := by
  obtain ⟨v1, v2, v3, v4⟩ := hv x hx
  have hgl : ∀ a, rf_gb n c (wp x) a < 256 := rf_gb_lt hn c _
  obtain ⟨r, cn, la, le, nb, st, sz, q1, q2, _⟩ := rf_load hn hb (c := c) (p := wp x) hc (by omega) cnt0 last0 leaf0 nb0 st0 sz0
  have hroot : f_Pages_root (nI c) b = some (nI (n 70)) := rf_root hn hb h1c hc
  have b70 := hn 70
  by_cases ly : rf_lay (rf_gb n c (wp x))
  · obtain ⟨r1, nd⟩ := rf_nd_of hgl q2 ly
    have hla := q2.2.1
    have hcn : cn = nI (rf_gb n c (wp x) 1) := nd.2.2.2.2.1
    have h30 := ly.2.2.2.1
    by_cases e0 : rf_gb n c (wp x) 1 = 0
    · rcases rf_nd_lf nd with ⟨lf, g5⟩ | ⟨lf, g13⟩
      · refine ⟨0, T, cn, la, le, nb, st, sz, rl, rcnt, rb, rco, rst, arr, tp, lw, hgA, ?_, Or.inl ⟨rfl, ?_⟩⟩
        · rw [f_Check_treePageHolds, q1, pu_b7_s, r1, pu_br_f (by decide), pu_br_t (show cn = 0 by rw [hcn, e0]; rfl), pu_br_t lf]
        · rintro ⟨D, a1, a2⟩
          have t := a1 x (Nat.le_refl _) hx
          have d := rf_tq_pos t
          obtain ⟨D, rfl⟩ : ∃ d, D = d + 1 := ⟨D - 1, by omega⟩
          have := (t.2.1 e0).1
          omega
      · by_cases er : wp x = n 70
        · have hne : rf_ne n c (wp x) := fun _ => ⟨g13, er⟩
          refine ⟨1, T, cn, la, le, nb, st, sz, rl, rcnt, rb, rco, rst, arr, tp, lw, hgA, ?_, Or.inr ⟨rfl, R, wp, wl, wh, hs, hRc, Nat.le_refl _, hT, hw, hv, ?_⟩⟩
          · rw [f_Check_treePageHolds, q1, pu_b7_s, r1, pu_br_f (by decide), pu_br_t (show cn = 0 by rw [hcn, e0]; rfl), pu_br_f (by rw [lf]; decide), hroot, pu_b1_s, pu_br_t (by rw [er])]
          · rw [rf_Q_L hx v1 v2 ly g13 hne]
            constructor
            · rintro ⟨D, a1, a2, a3⟩
              refine ⟨D, a1, fun q => ?_⟩
              have b := a3 q
              rw [e0] at b
              exact b
            · rintro ⟨D, a1, a2⟩
              refine ⟨D, a1, fun j _ j2 => by omega, fun q => ?_⟩
              rw [e0]
              exact a2 q
        · refine ⟨0, T, cn, la, le, nb, st, sz, rl, rcnt, rb, rco, rst, arr, tp, lw, hgA, ?_, Or.inl ⟨rfl, ?_⟩⟩
          · rw [f_Check_treePageHolds, q1, pu_b7_s, r1, pu_br_f (by decide), pu_br_t (show cn = 0 by rw [hcn, e0]; rfl), pu_br_f (by rw [lf]; decide), hroot, pu_b1_s, pu_br_f (fun q => er ((nI_eq (by omega) (by omega)).mp q))]
          · rintro ⟨D, a1, a2⟩
            have t := a1 x (Nat.le_refl _) hx
            have d := rf_tq_pos t
            obtain ⟨D, rfl⟩ : ∃ d, D = d + 1 := ⟨D - 1, by omega⟩
            exact er (t.2.1 e0).2
    · have hne : rf_ne n c (wp x) := fun z => absurd z e0
      have hd : ∀ q, q_Check_treePageHolds_60 (fun v_treeSize v_row_length v_row_count v_row_bytes v_row_codes v_row_starts v_reached v_treePages v_lows v_highs x_4 => q_Check_treePageHolds_165 (nI c) b v_treeSize cn la le nb st sz v_row_length v_row_count v_row_bytes v_row_codes v_row_starts v_reached v_treePages v_lows v_highs (nI (wh x)) x_4) (nI c) b cn la le nb st sz (nI (wh x)) pu_fu (nI T) rl rcnt rb rco rst arr tp lw hgA (rf_lz (rf_lo (rf_gb n c (wp x)) (wl x) 0)) (nI 0) = q → f_Check_treePageHolds (nI c) b (nI T) cnt0 last0 leaf0 nb0 st0 sz0 rl rcnt rb rco rst arr tp lw hgA (nI (wp x)) (rf_lz (wl x)) (nI (wh x)) = q := by
        intro q hq
        rw [f_Check_treePageHolds, q1, pu_b7_s, r1, pu_br_f (by decide), pu_br_f (show ¬ cn = 0 by rw [hcn]; exact nI_ne0 (by omega) (by omega))]
        exact hq
      rcases rf_nd_lf nd with ⟨lf, g5⟩ | ⟨lf, g13⟩
      · obtain ⟨y, T', arr', tp', lw', hg', i1, i2⟩ := rf_inner_go hn hb hc nd hla g5 (x := x + 1) (lo := wl x) (hi := wh x) v3 v4 rl rcnt rb rco rst (rf_gb n c (wp x) 1) 0 pu_fu R T arr tp lw hgA wp wl wh (by omega) (by rw [rf_fu]; omega) hs hRc (by omega) hT hw hv
        refine ⟨y, T', cn, la, le, nb, st, sz, rl, rcnt, rb, rco, rst, arr', tp', lw', hg', hd _ i1, ?_⟩
        have qi := rf_Q_I (R := R) (wl := wl) (wh := wh) hx v1 v2 ly g5 (by omega)
        rcases i2 with ⟨e1, e2⟩ | ⟨e1, R', wp', wl', wh', e2, e3, e4, e5, e6, e7, e8⟩
        · exact Or.inl ⟨e1, fun q => e2 (qi.mp q)⟩
        · refine Or.inr ⟨e1, R', wp', wl', wh', e2, e3, e4, e5, e6, e7, (qi.trans e8).trans ?_⟩
          constructor
          · rintro ⟨D, a1, a2, a3, a4⟩
            refine ⟨D, a1, fun q => ?_⟩
            have b := a4 q
            rw [Nat.sub_self] at b
            exact b
          · rintro ⟨D, a1, a2⟩
            refine ⟨D, a1, fun j j1 j2 => by omega, fun j j1 j2 => by omega, fun q => ?_⟩
            rw [Nat.sub_self]
            exact a2 q
      · obtain ⟨y, rl', rcnt', rb', rco', rst', arr', i1, i2⟩ := rf_leaf_go (x := x + 1) (T := T) (wp := wp) (wl := wl) (wh := wh) hn hb hc nd g13 (last := la) (lo := wl x) (hi := wh x) v3 v4 tp lw hgA (rf_gb n c (wp x) 1) 0 pu_fu R arr rb rco rst rl rcnt (by omega) (by rw [rf_fu]; omega) hs hRc
        refine ⟨y, T, cn, la, le, nb, st, sz, rl', rcnt', rb', rco', rst', arr', tp, lw, hgA, hd _ i1, ?_⟩
        have ql := rf_Q_L (R := R) (wl := wl) (wh := wh) hx v1 v2 ly g13 hne
        rcases i2 with ⟨e1, e2⟩ | ⟨e1, R', e2, e3, e4, e5⟩
        · exact Or.inl ⟨e1, fun q => e2 (ql.mp q)⟩
        · refine Or.inr ⟨e1, R', wp, wl, wh, e2, e3, Nat.le_refl _, Nat.le_trans hT (rf_su_le25 e4), hw, hv, (ql.trans e5).trans ?_⟩
          constructor
          · rintro ⟨D, a1, a2, a3⟩
            refine ⟨D, a1, fun q => ?_⟩
            have b := a3 q
            rw [Nat.sub_self] at b
            exact b
          · rintro ⟨D, a1, a2⟩
            refine ⟨D, a1, fun j j1 j2 => by omega, fun q => ?_⟩
            rw [Nat.sub_self]
            exact a2 q
  · have r0 : r = 0 := by
      obtain ⟨_, _, _, h4⟩ := q2
      rcases h4 with ⟨k1, _⟩ | ⟨_, k2, _⟩
      · exact absurd k1 ly
      · exact k2
    refine ⟨0, T, cn, la, le, nb, st, sz, rl, rcnt, rb, rco, rst, arr, tp, lw, hgA, ?_, Or.inl ⟨rfl, ?_⟩⟩
    · rw [f_Check_treePageHolds, q1, pu_b7_s, r0, pu_br_t rfl]
    · rintro ⟨D, a1, a2⟩
      have t := a1 x (Nat.le_refl _) hx
      have d := rf_tq_pos t
      obtain ⟨D, rfl⟩ : ∃ d, D = d + 1 := ⟨D - 1, by omega⟩
      exact ly t.1.2.2.1
/-- the whole check of the class's tree -/
theorem rf_bfs_go {b : Nat → Int32} (hn : rf_bt n) (hb : rf_pg b n) (h1c : 1 ≤ c) (hc : c ≤ 24) : ∀ μ x fu (T : Nat) (R wp wl wh : Nat → Nat) (arr tp lw hgA : Nat → Int32) (cnt last leaf : Int32) (nb st sz : Nat → Int32) (rl rcnt : Int32) (rb rco rst : Nat → Int32), x + μ = 24 → μ < fu → x ≤ T → rf_se arr R → (∀ q, 1 ≤ R q → q ≤ c) → T ≤ rf_su R 25 → rf_wa T tp lw hgA wp wl wh → rf_wv c T wp wl wh →
    ∃ (y ts : Int32) (cnt' last' leaf' : Int32) (nb' st' sz' : Nat → Int32) (rl' rcnt' : Int32) (rb' rco' rst' arr' tp' lw' hg' : Nat → Int32), q_Check_holds_61 (fun v_treeSize v_node_count v_node_last v_node_leaf v_node_bytes v_node_starts v_node_sizes v_row_length v_row_count v_row_bytes v_row_codes v_row_starts v_reached v_treePages v_lows v_highs => q_Check_holds_108 (nI c) b v_treeSize v_node_count v_node_last v_node_leaf v_node_bytes v_node_starts v_node_sizes v_row_length v_row_count v_row_bytes v_row_codes v_row_starts v_reached v_treePages v_lows v_highs) (nI c) b fu (nI T) cnt last leaf nb st sz rl rcnt rb rco rst arr tp lw hgA (nI x) = some (y, ts, cnt', last', leaf', nb', st', sz', rl', rcnt', rb', rco', rst', arr', tp', lw', hg') ∧ (rf_Q n c R x T wp wl wh → y = 1) ∧ (¬ rf_Q n c R x T wp wl wh → y = 0) := by
  intro μ
  induction μ with
  | zero =>
    intro x fu T R wp wl wh arr tp lw hgA cnt last leaf nb st sz rl rcnt rb rco rst hx hf hxT hs hRc hT hw hv
    have := rf_se_23 hs
    omega
  | succ μ ih =>
    intro x fu T R wp wl wh arr tp lw hgA cnt last leaf nb st sz rl rcnt rb rco rst hx hf hxT hs hRc hT hw hv
    obtain ⟨fu, rfl⟩ : ∃ f, fu = f + 1 := ⟨fu - 1, by omega⟩
    have t23 := rf_se_23 hs
    by_cases e : x = T
    · subst e
      have al := rf_allReached (c := c) hs hc
      have iff : rf_Q n c R x x wp wl wh ↔ ∀ q, 2 ≤ q → q ≤ c → R q = 1 := by
        constructor
        · rintro ⟨D, a1, a2⟩ q q1 q2
          have b := a2 q
          unfold rf_bS rf_full at b
          rw [Nat.sub_self, if_pos ⟨q1, q2⟩] at b
          exact b
        · intro h
          refine ⟨1, fun j j1 j2 => by omega, fun q => ?_⟩
          unfold rf_bS rf_full
          rw [Nat.sub_self]
          show R q + 0 = _
          by_cases z : 2 ≤ q ∧ q ≤ c
          · rw [if_pos z, h q z.1 z.2]
          · rw [if_neg z]
            by_cases z2 : 1 ≤ R q
            · exact absurd ⟨(hs.2.1 q z2).1, hRc q z2⟩ z
            · omega
      rw [← rf_dv_congr iff] at al
      refine ⟨nI (rf_dv (rf_Q n c R x x wp wl wh)), nI x, cnt, last, leaf, nb, st, sz, rl, rcnt, rb, rco, rst, arr, tp, lw, hgA, ?_, fun h => by rw [rf_dv_t h]; rfl, fun h => by rw [rf_dv_f h]; rfl⟩
      rw [q_Check_holds_61, pu_br_t (nI_le (Nat.le_refl _) (by omega)), q_Check_holds_108, al, pu_b1_s, pu_ck_t (rf_dv_bz _)]
    · have hxT' : x < T := by omega
      obtain ⟨w1, w2, w3⟩ := hw x hxT'
      obtain ⟨y, T', cnt1, last1, leaf1, nb1, st1, sz1, rl1, rcnt1, rb1, rco1, rst1, arr1, tp1, lw1, hg1, p1, p2⟩ := rf_treePage hn hb h1c hc hxT' hs hRc hT hw hv cnt last leaf nb st sz rl rcnt rb rco rst
      have i24 : vp_in (nI x) 24 := vp_in_nI (by omega) (by decide)
      have hd : ∀ q, pu_br (y = 0) (some (0, nI T', cnt1, last1, leaf1, nb1, st1, sz1, rl1, rcnt1, rb1, rco1, rst1, arr1, tp1, lw1, hg1)) (q_Check_holds_61 (fun v_treeSize v_node_count v_node_last v_node_leaf v_node_bytes v_node_starts v_node_sizes v_row_length v_row_count v_row_bytes v_row_codes v_row_starts v_reached v_treePages v_lows v_highs => q_Check_holds_108 (nI c) b v_treeSize v_node_count v_node_last v_node_leaf v_node_bytes v_node_starts v_node_sizes v_row_length v_row_count v_row_bytes v_row_codes v_row_starts v_reached v_treePages v_lows v_highs) (nI c) b fu (nI T') cnt1 last1 leaf1 nb1 st1 sz1 rl1 rcnt1 rb1 rco1 rst1 arr1 tp1 lw1 hg1 (nI (x + 1))) = q → q_Check_holds_61 (fun v_treeSize v_node_count v_node_last v_node_leaf v_node_bytes v_node_starts v_node_sizes v_row_length v_row_count v_row_bytes v_row_codes v_row_starts v_reached v_treePages v_lows v_highs => q_Check_holds_108 (nI c) b v_treeSize v_node_count v_node_last v_node_leaf v_node_bytes v_node_starts v_node_sizes v_row_length v_row_count v_row_bytes v_row_codes v_row_starts v_reached v_treePages v_lows v_highs) (nI c) b (fu + 1) (nI T) cnt last leaf nb st sz rl rcnt rb rco rst arr tp lw hgA (nI x) = q := by
        intro q hq
        rw [q_Check_holds_61, pu_br_f (nI_ge hxT' (by omega)), pu_br_f (show ¬ (24 : Int32) ≤ nI x from nI_ge (b := 24) (by omega) (by omega)), pu_ck_t i24, pu_ck_t i24, pu_ck_t i24, nI_clamp (by omega), w1, w2, w3, p1, pu_b17_s, nI_1, pu_nm]
        exact hq
      rcases p2 with ⟨e1, e2⟩ | ⟨e1, R', wp', wl', wh', e2, e3, e4, e5, e6, e7, e8⟩
      · refine ⟨0, nI T', cnt1, last1, leaf1, nb1, st1, sz1, rl1, rcnt1, rb1, rco1, rst1, arr1, tp1, lw1, hg1, hd _ ?_, fun h => absurd h e2, fun _ => rfl⟩
        rw [e1, pu_br_t rfl]
      · obtain ⟨y2, ts, c2, l2, f2, n2, s2, z2, rl2, rc2, rb2, ro2, rs2, ar2, tp2, lw2, hg2, j1, j2, j3⟩ := ih (x + 1) fu T' R' wp' wl' wh' arr1 tp1 lw1 hg1 cnt1 last1 leaf1 nb1 st1 sz1 rl1 rcnt1 rb1 rco1 rst1 (by omega) (by omega) (by omega) e2 e3 e5 e6 e7
        refine ⟨y2, ts, c2, l2, f2, n2, s2, z2, rl2, rc2, rb2, ro2, rs2, ar2, tp2, lw2, hg2, hd _ ?_, fun h => j2 (e8.mp h), fun h => j3 (fun z => h (e8.mpr z))⟩
        rw [e1, pu_br_f (by decide), j1]
end RFB3
