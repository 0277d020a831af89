section RFHO
variable {n : Nat → Nat} {c : Nat}
/-- a file exactly as it must be -/
def rf_P (n : Nat → Nat) (c : Nat) : Prop := rf_F1 n c ∧ rf_hn n c (n 67) (n 66) ∧ (∀ j, j < n 67 → rf_zr n (rf_lk n j (n 66)) 1) ∧ ∃ D, rf_tq n c D (n 70) 0 1000000 ∧ ∀ q, rf_ct n c D (n 70) q + rf_hc n (n 67) (n 66) q = rf_full c q
theorem rf_holds {b : Nat → Int32} (hn : rf_bt n) (hb : rf_pg b n) (h1c : 1 ≤ c) (hc : c ≤ 24) (ts cnt last leaf : Int32) (nb st sz : Nat → Int32) (rl rcnt : Int32) (rb rco rst arr tp lw hgA : Nat → Int32) :
    ∃ (y ts' : Int32) (cnt' last' leaf' : Int32) (nb' st' sz' : Nat → Int32) (rl' rcnt' : Int32) (rb' rco' rst' arr' tp' lw' hg' : Nat → Int32), f_Check_holds (nI c) b ts cnt last leaf nb st sz rl rcnt rb rco rst arr tp lw hgA = some (y, ts', cnt', last', leaf', nb', st', sz', rl', rcnt', rb', rco', rst', arr', tp', lw', hg') ∧ (rf_P n c → y = 1) ∧ (¬ rf_P n c → y = 0) := by
  -- nothing met
  have clr : ∃ arr0, f_Check_holds (nI c) b ts cnt last leaf nb st sz rl rcnt rb rco rst arr tp lw hgA = q_Check_holds_26 (nI c) b 0 cnt last leaf nb st sz rl rcnt rb rco rst arr0 tp lw hgA ∧ rf_se arr0 (fun _ => 0) := by
    rw [f_Check_holds]
    refine rf_loop (fun f x i => q_Check_holds_7 (fun v_reached => q_Check_holds_26 (nI c) b 0 cnt last leaf nb st sz rl rcnt rb rco rst v_reached tp lw hgA) (nI c) b 0 cnt last leaf nb st sz rl rcnt rb rco rst tp lw hgA f x (nI i)) (fun i x => ∀ q, q < i → x q = nI 0) (fun r => ∃ arr0, r = q_Check_holds_26 (nI c) b 0 cnt last leaf nb st sz rl rcnt rb rco rst arr0 tp lw hgA ∧ rf_se arr0 (fun _ => 0)) 25 ?_ ?_ 25 pu_fu arr 0 (by omega) (by rw [rf_fu]; omega) (fun q hq => by omega)
    · intro f x hx
      refine ⟨x, ?_, fun q => by show (0 : Nat) ≤ 1; omega, fun q hq => absurd hq (by show ¬ (1 : Nat) ≤ 0; omega), fun q hq => hx q (by omega)⟩
      show q_Check_holds_7 (fun v_reached => q_Check_holds_26 (nI c) b 0 cnt last leaf nb st sz rl rcnt rb rco rst v_reached tp lw hgA) (nI c) b 0 cnt last leaf nb st sz rl rcnt rb rco rst tp lw hgA (f + 1) x (nI 25) = _
      rw [q_Check_holds_7, pu_br_t (by decide)]
    · intro f x i hi hx
      refine Or.inl ⟨upd x i 0, fun q hq => ?_, ?_⟩
      · by_cases e : q = i
        · rw [e, pk_us]; rfl
        · rw [pk_un e]; exact hx q (by omega)
      · show q_Check_holds_7 (fun v_reached => q_Check_holds_26 (nI c) b 0 cnt last leaf nb st sz rl rcnt rb rco rst v_reached tp lw hgA) (nI c) b 0 cnt last leaf nb st sz rl rcnt rb rco rst tp lw hgA (f + 1) x (nI i) = q_Check_holds_7 (fun v_reached => q_Check_holds_26 (nI c) b 0 cnt last leaf nb st sz rl rcnt rb rco rst v_reached tp lw hgA) (nI c) b 0 cnt last leaf nb st sz rl rcnt rb rco rst tp lw hgA f (upd x i 0) (nI (i + 1))
        rw [q_Check_holds_7, pu_br_f (show ¬ (24 : Int32) < nI i from nI_nlt (a := 24) (by omega) (by omega)), pu_ck_t (vp_in_nI (by omega) (by decide)), nI_clamp (by omega), rf_nz0, pu_nm, nI_1, pu_nm]
  obtain ⟨arr0, k1, k2⟩ := clr
  have fp := rf_firstPage hn hb h1c hc
  by_cases f1 : rf_F1 n c
  case neg =>
    refine ⟨0, 0, cnt, last, leaf, nb, st, sz, rl, rcnt, rb, rco, rst, arr0, tp, lw, hgA, ?_, fun q => absurd q.1 f1, fun _ => rfl⟩
    rw [k1, q_Check_holds_26, fp, rf_dv_f f1, pu_b1_s, pu_br_t (show nI 0 = (0 : Int32) from rfl)]
  rw [rf_dv_t f1] at fp
  obtain ⟨arr1, l1, l2⟩ := rf_listHolds hn hb h1c hc k2
  have wki := rf_wk_iff (n := n) (c := c) (zf := fun _ => 1) (n 67) 0 (n 66) (fun _ => 0) (fun q => by show (0 : Nat) ≤ 1; omega)
  by_cases wk : rf_wk n c (fun _ => 1) (n 67) 0 (n 66) (fun _ => 0)
  case neg =>
    refine ⟨0, 0, cnt, last, leaf, nb, st, sz, rl, rcnt, rb, rco, rst, arr1, tp, lw, hgA, ?_, fun q => ?_, fun _ => rfl⟩
    · rw [k1, q_Check_holds_26, fp, pu_b1_s, pu_br_f (by decide), l1, rf_dv_f wk, pu_b2_s, pu_br_t (show nI 0 = (0 : Int32) from rfl)]
    · obtain ⟨_, p2, p3, D, p4, p5⟩ := q
      exact absurd (wki.mpr ⟨p2, fun q => by have := p5 q; have := rf_full_le c q; omega, p3⟩) wk
  obtain ⟨w1, w2, w3⟩ := wki.mp wk
  have se1 := l2 wk
  have eR : ∀ q, rf_wks n (n 67) (n 66) (fun _ => 0) q = rf_hc n (n 67) (n 66) q := fun q => by rw [rf_wks_hc]; omega
  have hroot : f_Pages_root (nI c) b = some (nI (n 70)) := rf_root hn hb h1c hc
  have b70 := hn 70
  obtain ⟨c1, c2⟩ := rf_reachT (T := 0) (tp := tp) (lw := lw) (hg := hgA) se1 hc (show n 70 < 2 ^ 20 by omega) (by omega) (-1) 1000000
  have hd : ∀ q, pu_b6 (f_Check_reachTreePage (nI c) (nI 0) arr1 tp lw hgA (nI (n 70)) (-1) 1000000) (fun r5 w6 w7 w8 w9 w10 => pu_br (r5 = 0) (some (0, w6, cnt, last, leaf, nb, st, sz, rl, rcnt, rb, rco, rst, w7, w8, w9, w10)) (q_Check_holds_61 (fun v_treeSize v_node_count v_node_last v_node_leaf v_node_bytes v_node_starts v_node_sizes v_row_length v_row_count v_row_bytes v_row_codes v_row_starts v_reached v_treePages v_lows v_highs => q_Check_holds_108 (nI c) b v_treeSize v_node_count v_node_last v_node_leaf v_node_bytes v_node_starts v_node_sizes v_row_length v_row_count v_row_bytes v_row_codes v_row_starts v_reached v_treePages v_lows v_highs) (nI c) b pu_fu w6 cnt last leaf nb st sz rl rcnt rb rco rst w7 w8 w9 w10 (nI 0))) = q → f_Check_holds (nI c) b ts cnt last leaf nb st sz rl rcnt rb rco rst arr tp lw hgA = q := by
    intro q hq
    rw [k1, q_Check_holds_26, fp, pu_b1_s, pu_br_f (by decide), l1, rf_dv_t wk, pu_b2_s, pu_br_f (by decide), hroot, pu_b1_s]
    exact hq
  by_cases er : 2 ≤ n 70 ∧ n 70 ≤ c ∧ rf_wks n (n 67) (n 66) (fun _ => 0) (n 70) = 0
  · have seR := rf_se_ad se1 er.2.2 er.1 (by omega)
    obtain ⟨y, ts', a1, a2, a3, a4, a5, a6, a7, a8, a9, a10, a11, a12, a13, a14, a15, g1, g2, g3⟩ := rf_bfs_go hn hb h1c hc 24 0 pu_fu 1 (rf_ad (rf_wks n (n 67) (n 66) (fun _ => 0)) (n 70)) (fun _ => n 70) (fun _ => 0) (fun _ => 1000000) (upd arr1 (n 70) 1) (upd tp 0 (nI (n 70))) (upd lw 0 (-1)) (upd hgA 0 1000000) cnt last leaf nb st sz rl rcnt rb rco rst (by omega) (by rw [rf_fu]; omega) (by omega) seR (fun q hq => by
      unfold rf_ad at hq
      by_cases e : n 70 = q
      · omega
      · rw [if_neg e, eR] at hq
        exact (rf_hc_in w1 (q := q) (by omega)).2) (by rw [rf_su_ad (by omega)]; omega) (fun j hj => by
      rw [show j = 0 by omega, pk_us, pk_us, pk_us]
      exact ⟨rfl, by decide, rfl⟩) (fun j _ => ⟨er.1, er.2.1, by show (0 : Nat) ≤ _; omega, by show (1000000 : Nat) < 2 ^ 29; omega⟩)
    have iff : rf_P n c ↔ rf_Q n c (rf_ad (rf_wks n (n 67) (n 66) (fun _ => 0)) (n 70)) 0 1 (fun _ => n 70) (fun _ => 0) (fun _ => 1000000) := by
      have es : ∀ D q, rf_bS n c D (fun _ => n 70) 0 1 q = rf_cu n c D (n 70) q := fun D q => by
        show 0 + rf_cu n c D (n 70) q = _
        rw [Nat.zero_add]
      constructor
      · rintro ⟨_, _, _, D, p4, p5⟩
        refine ⟨D, fun j _ _ => p4, fun q => ?_⟩
        have b := p5 q
        rw [rf_cu_ct (rf_tq_pos p4)] at b
        rw [es]
        unfold rf_ad
        rw [eR]
        omega
      · rintro ⟨D, p4, p5⟩
        have t := p4 0 (Nat.le_refl _) (by omega)
        refine ⟨f1, w1, w3, D, t, fun q => ?_⟩
        have b := p5 q
        rw [es] at b
        unfold rf_ad at b
        rw [eR] at b
        rw [rf_cu_ct (rf_tq_pos t)]
        omega
    refine ⟨y, ts', a1, a2, a3, a4, a5, a6, a7, a8, a9, a10, a11, a12, a13, a14, a15, hd _ ?_, fun q => g2 (iff.mp q), fun q => g3 (fun z => q (iff.mpr z))⟩
    rw [c1 er, pu_b6_s, pu_br_f (by decide), g1]
  · refine ⟨0, nI 0, cnt, last, leaf, nb, st, sz, rl, rcnt, rb, rco, rst, arr1, tp, lw, hgA, hd _ ?_, fun q => ?_, fun _ => rfl⟩
    · rw [c2 er, pu_b6_s, pu_br_t rfl]
    · obtain ⟨_, p2, p3, D, p4, p5⟩ := q
      exfalso
      refine er ?_
      have t1 := p4.1
      have d := rf_tq_pos p4
      obtain ⟨D, rfl⟩ : ∃ d, D = d + 1 := ⟨D - 1, by omega⟩
      have b := p5 (n 70)
      rw [rf_ct, if_pos rfl] at b
      have f := rf_full_le c (n 70)
      exact ⟨t1.1, t1.2.1, by rw [eR]; omega⟩
/-- the keys as the reference follows them: the bound that a tree leaves behind -/
def rf_mE (n : Nat → Nat) (c : Nat) : Nat → Nat → Nat → Nat
  | 0, _, lo => lo
  | D + 1, p, lo => if rf_gb n c p 0 = 13 then (if rf_gb n c p 1 = 0 then lo else rf_kv (rf_gb n c p) (rf_gb n c p 1 - 1) + 1) else rf_mE n c D (rf_kid (rf_gb n c p) (rf_gb n c p 1)) (rf_lo (rf_gb n c p) lo (rf_gb n c p 1))
def rf_ke (n : Nat → Nat) (c : Nat) : Nat → Nat → Nat → Prop
  | 0, _, _ => False
  | D + 1, p, lo => rf_ne n c p ∧ (rf_gb n c p 0 = 13 → ∀ i, i < rf_gb n c p 1 → rf_zt n (rf_gb n c p) i ∧ rf_lo (rf_gb n c p) lo i ≤ rf_kv (rf_gb n c p) i ∧ rf_kv (rf_gb n c p) i ≤ 1000000) ∧
    (rf_gb n c p 0 = 5 → (∀ i, i < rf_gb n c p 1 + 1 → rf_ke n c D (rf_kid (rf_gb n c p) i) (rf_lo (rf_gb n c p) lo i)) ∧ ∀ i, i < rf_gb n c p 1 → rf_mE n c D (rf_kid (rf_gb n c p) i) (rf_lo (rf_gb n c p) lo i) ≤ rf_kv (rf_gb n c p) i + 1 ∧ rf_kv (rf_gb n c p) i ≤ 1000000)
theorem rf_mE_s (D p lo : Nat) : rf_mE n c (D + 1) p lo = if rf_gb n c p 0 = 13 then (if rf_gb n c p 1 = 0 then lo else rf_kv (rf_gb n c p) (rf_gb n c p 1 - 1) + 1) else rf_mE n c D (rf_kid (rf_gb n c p) (rf_gb n c p 1)) (rf_lo (rf_gb n c p) lo (rf_gb n c p 1)) := rfl
theorem rf_mE_mono1 : ∀ D p lo, rf_tr n c D p → rf_mE n c (D + 1) p lo = rf_mE n c D p lo
  | 0, _, _, h => absurd h (fun q => q)
  | D + 1, p, lo, h => by
    rw [rf_mE_s (D + 1) p lo, rf_mE_s D p lo]
    by_cases k : rf_gb n c p 0 = 13
    · rw [if_pos k, if_pos k]
    · rw [if_neg k, if_neg k]
      exact rf_mE_mono1 D _ _ ((h.2.2.2.2 (h.2.2.1.1.resolve_left k)).2.2 _ (by omega))
theorem rf_ke_mono1 : ∀ D p lo, rf_tr n c D p → rf_ke n c D p lo → rf_ke n c (D + 1) p lo
  | 0, _, _, h, _ => absurd h (fun q => q)
  | D + 1, p, lo, h, k => by
    refine ⟨k.1, k.2.1, fun k5 => ?_⟩
    obtain ⟨a, b⟩ := k.2.2 k5
    have t := (h.2.2.2.2 k5).2.2
    exact ⟨fun i hi => rf_ke_mono1 D _ _ (t i hi) (a i hi), fun i hi => by rw [rf_mE_mono1 D _ _ (t i (by omega))]; exact b i hi⟩
theorem rf_ke_mono {D D' p lo : Nat} (h : rf_tr n c D p) (hD : D ≤ D') : rf_mE n c D' p lo = rf_mE n c D p lo ∧ (rf_ke n c D p lo → rf_ke n c D' p lo) := by
  obtain ⟨k, rfl⟩ : ∃ k, D' = D + k := ⟨D' - D, by omega⟩
  clear hD
  induction k with
  | zero => exact ⟨rfl, fun z => z⟩
  | succ k ih =>
    have t := (rf_mono h (show D ≤ D + k by omega)).1
    exact ⟨(rf_mE_mono1 _ _ _ t).trans ih.1, fun z => rf_ke_mono1 _ _ _ t (ih.2 z)⟩
/-- a tree without the root has a key more than its bound -/
theorem rf_mE_gt : ∀ D p lo, rf_tr n c D p → rf_ke n c D p lo → rf_ct n c D p (n 70) = 0 → lo + 1 ≤ rf_mE n c D p lo
  | 0, _, _, h, _, _ => absurd h (fun q => q)
  | D + 1, p, lo, h, k, h0 => by
    have hp : p ≠ n 70 := fun e => by rw [rf_ct, if_pos e] at h0; omega
    rw [rf_mE]
    by_cases k13 : rf_gb n c p 0 = 13
    · rw [if_pos k13]
      by_cases e : rf_gb n c p 1 = 0
      · exact absurd (k.1 e).2 hp
      · rw [if_neg e]
        have a := k.2.1 k13
        have : ∀ i, i < rf_gb n c p 1 → lo ≤ rf_kv (rf_gb n c p) i := by
          intro i
          induction i with
          | zero => intro hi; have := (a 0 hi).2.1; unfold rf_lo at this; rw [if_pos rfl] at this; exact this
          | succ i ih =>
            intro hi
            have b := (a (i + 1) hi).2.1
            unfold rf_lo at b
            rw [if_neg (by omega), Nat.add_sub_cancel] at b
            have := ih (by omega)
            omega
        have := this (rf_gb n c p 1 - 1) (by omega)
        omega
    · have k5 := h.2.2.1.1.resolve_left k13
      obtain ⟨a, b⟩ := k.2.2 k5
      obtain ⟨g1, _, t⟩ := h.2.2.2.2 k5
      rw [if_neg k13]
      have z : ∀ i, i < rf_gb n c p 1 + 1 → rf_ct n c D (rf_kid (rf_gb n c p) i) (n 70) = 0 := fun i hi => by
        rw [rf_ct5 k5] at h0
        have := rf_su_le (f := fun i => rf_ct n c D (rf_kid (rf_gb n c p) i) (n 70)) hi
        omega
      have key : ∀ i, i < rf_gb n c p 1 + 1 → lo ≤ rf_lo (rf_gb n c p) lo i := by
        intro i
        induction i with
        | zero => intro _; unfold rf_lo; rw [if_pos rfl]; exact Nat.le_refl _
        | succ i ih =>
          intro hi
          have u := rf_mE_gt D _ _ (t i (by omega)) (a i (by omega)) (z i (by omega))
          have v := (b i (by omega)).1
          have w := ih (by omega)
          unfold rf_lo
          rw [if_neg (by omega), Nat.add_sub_cancel]
          omega
      have u := rf_mE_gt D _ _ (t _ (by omega)) (a (rf_gb n c p 1) (by omega)) (z _ (by omega))
      have w := key (rf_gb n c p 1) (by omega)
      omega
end RFHO
