section RFB2
variable {n : Nat → Nat} {c : Nat}
def rf_sn (f : Nat → Nat) (T v : Nat) : Nat → Nat := fun j => if j = T then v else f j
def rf_wv (c T : Nat) (wp wl wh : Nat → Nat) : Prop := ∀ j, j < T → 2 ≤ wp j ∧ wp j ≤ c ∧ wl j ≤ 2097153 ∧ wh j < 2 ^ 29
theorem rf_sn_at {f : Nat → Nat} {T v : Nat} : rf_sn f T v T = v := if_pos rfl
theorem rf_sn_ne {f : Nat → Nat} {T v j : Nat} (h : j ≠ T) : rf_sn f T v j = f j := if_neg h
theorem rf_bS_s {D x T p q : Nat} {wp : Nat → Nat} (h : x ≤ T) : rf_bS n c D (rf_sn wp T p) x (T + 1) q = rf_bS n c D wp x T q + rf_cu n c D p q := by
  unfold rf_bS
  rw [show T + 1 - x = (T - x) + 1 by omega, rf_su, show x + (T - x) = T by omega, rf_sn_at]
  congr 1
  exact rf_su_congr _ (fun j hj => by rw [rf_sn_ne (by omega)])
theorem rf_wa_s {T p l h : Nat} {tp lw hg : Nat → Int32} {wp wl wh : Nat → Nat} (hw : rf_wa T tp lw hg wp wl wh) : rf_wa (T + 1) (upd tp T (nI p)) (upd lw T (rf_lz l)) (upd hg T (nI h)) (rf_sn wp T p) (rf_sn wl T l) (rf_sn wh T h) := by
  intro j hj
  by_cases e : j = T
  · subst e; rw [pk_us, pk_us, pk_us, rf_sn_at, rf_sn_at, rf_sn_at]; exact ⟨rfl, rfl, rfl⟩
  · rw [pk_un e, pk_un e, pk_un e, rf_sn_ne e, rf_sn_ne e, rf_sn_ne e]; exact hw j (by omega)
theorem rf_su_from {f : Nat → Nat} {i N : Nat} (h : i < N) : rf_su (fun j => f (i + j)) (N - i) = f i + rf_su (fun j => f (i + 1 + j)) (N - (i + 1)) := by
  have := rf_su_sp (fun j => f (i + j)) 1 (N - (i + 1))
  rw [show 1 + (N - (i + 1)) = N - i by omega] at this
  rw [this]
  show 0 + f (i + 0) + _ = _
  rw [Nat.zero_add, Nat.add_zero]
  congr 1
  exact rf_su_congr _ (fun j _ => by rw [Nat.add_assoc i 1 j])
theorem rf_QI_step {g : Nat → Nat} {x lo hi i T : Nat} {R wp wl wh : Nat → Nat} (hx : x ≤ T) (hi1 : i < g 1 + 1) (hk : i < g 1 → rf_ci g i ∧ rf_lo g lo i ≤ rf_kv g i ∧ rf_kv g i ≤ hi) :
    rf_QI n c g x lo hi R i T wp wl wh ↔ rf_QI n c g x lo hi (rf_ad R (rf_kid g i)) (i + 1) (T + 1) (rf_sn wp T (rf_kid g i)) (rf_sn wl T (rf_lo g lo i)) (rf_sn wh T (rf_hi g hi i)) := by
  constructor
  · rintro ⟨D, a1, a2, a3, a4⟩
    refine ⟨D, fun j j1 j2 => ?_, fun j j1 j2 => a2 j (by omega) j2, fun j j1 j2 => a3 j (by omega) j2, fun q => ?_⟩
    · by_cases e : j = T
      · subst e; rw [rf_sn_at, rf_sn_at, rf_sn_at]; exact a3 i (Nat.le_refl _) hi1
      · rw [rf_sn_ne e, rf_sn_ne e, rf_sn_ne e]; exact a1 j j1 (by omega)
    · have b := a4 q
      rw [rf_su_from (f := fun j => rf_ct n c D (rf_kid g j) q) hi1, rf_cu_ct (rf_tq_pos (a3 i (Nat.le_refl _) hi1))] at b
      rw [rf_bS_s hx]
      unfold rf_ad
      omega
  · rintro ⟨D, a1, a2, a3, a4⟩
    have t := a1 T hx (by omega)
    rw [rf_sn_at, rf_sn_at, rf_sn_at] at t
    refine ⟨D, fun j j1 j2 => ?_, fun j j1 j2 => ?_, fun j j1 j2 => ?_, fun q => ?_⟩
    · have := a1 j j1 (by omega)
      rw [rf_sn_ne (by omega), rf_sn_ne (by omega), rf_sn_ne (by omega)] at this
      exact this
    · by_cases e : j = i
      · subst e; exact hk j2
      · exact a2 j (by omega) j2
    · by_cases e : j = i
      · subst e; exact t
      · exact a3 j (by omega) j2
    · have b := a4 q
      rw [rf_bS_s hx] at b
      unfold rf_ad at b
      rw [rf_su_from (f := fun j => rf_ct n c D (rf_kid g j) q) hi1, rf_cu_ct (rf_tq_pos t)]
      omega
theorem rf_QI_no {g : Nat → Nat} {x lo hi i T : Nat} {R wp wl wh : Nat → Nat} (hi1 : i < g 1 + 1) (hno : ¬ (2 ≤ rf_kid g i ∧ rf_kid g i ≤ c ∧ R (rf_kid g i) = 0)) : ¬ rf_QI n c g x lo hi R i T wp wl wh := by
  rintro ⟨D, a1, a2, a3, a4⟩
  have t := a3 i (Nat.le_refl _) hi1
  have d := rf_tq_pos t
  have t1 := t.1
  obtain ⟨D, rfl⟩ : ∃ d, D = d + 1 := ⟨D - 1, by omega⟩
  have b := a4 (rf_kid g i)
  rw [rf_su_from (f := fun j => rf_ct n c (D + 1) (rf_kid g j) (rf_kid g i)) hi1, rf_cu_ct d, if_pos rfl] at b
  have f := rf_full_le c (rf_kid g i)
  exact hno ⟨t1.1, t1.2.1, by omega⟩
theorem rf_su_le25 {R R' : Nat → Nat} (h : ∀ q, R q ≤ R' q) : rf_su R 25 ≤ rf_su R' 25 := rf_su_mono _ (fun q _ => h q)
/-- the cells of an inner page, in the class's check -/
theorem rf_inner_go {b : Nat → Int32} (hn : rf_bt n) (hb : rf_pg b n) (hc : c ≤ 24) {g : Nat → Nat} {cnt last leaf : Int32} {nb st sz : Nat → Int32} (nd : rf_nd g cnt leaf nb st sz) (hla : last = nI (g 2)) (g5 : g 0 = 5) {x lo hi : Nat} (hlo : lo ≤ 2097153) (hhi : hi < 2 ^ 29) (rl rcnt : Int32) (rb rco rst : Nat → Int32) :
    ∀ m i fu (R : Nat → Nat) (T : Nat) (arr tp lw hgA : Nat → Int32) (wp wl wh : Nat → Nat), i + m = g 1 → m < fu → rf_se arr R → (∀ q, 1 ≤ R q → q ≤ c) → x ≤ T → T ≤ rf_su R 25 → rf_wa T tp lw hgA wp wl wh → rf_wv c T wp wl wh →
      ∃ (y : Int32) (T' : Nat) (arr' tp' lw' hg' : Nat → Int32), q_Check_treePageHolds_60 (fun v_treeSize v_row_length v_row_count v_row_bytes v_row_codes v_row_starts v_reached v_treePages v_lows v_highs x_4 => q_Check_treePageHolds_165 (nI c) b v_treeSize cnt last leaf nb st sz v_row_length v_row_count v_row_bytes v_row_codes v_row_starts v_reached v_treePages v_lows v_highs (nI hi) x_4) (nI c) b cnt last leaf nb st sz (nI hi) fu (nI T) rl rcnt rb rco rst arr tp lw hgA (rf_lz (rf_lo g lo i)) (nI i) = some (y, nI T', cnt, last, leaf, nb, st, sz, rl, rcnt, rb, rco, rst, arr', tp', lw', hg') ∧
        ((y = 0 ∧ ¬ rf_QI n c g x lo hi R i T wp wl wh) ∨ (y = 1 ∧ ∃ R' wp' wl' wh', rf_se arr' R' ∧ (∀ q, 1 ≤ R' q → q ≤ c) ∧ T ≤ T' ∧ T' ≤ rf_su R' 25 ∧ rf_wa T' tp' lw' hg' wp' wl' wh' ∧ rf_wv c T' wp' wl' wh' ∧ (rf_QI n c g x lo hi R i T wp wl wh ↔ rf_QI n c g x lo hi R' (g 1 + 1) T' wp' wl' wh'))) := by
  have hg := nd.2.1
  have hl := nd.1
  have h30 := hl.2.2.2.1
  have lf : leaf = 0 := by
    rcases rf_nd_lf nd with ⟨e, _⟩ | ⟨_, e⟩
    · exact e
    · omega
  have hcn : cnt = nI (g 1) := nd.2.2.2.2.1
  -- one child more
  have kidl : ∀ i, rf_kid g i < 256 := fun i => by unfold rf_kid; split <;> exact hg _
  have push : ∀ i R T (arr tp lw hgA : Nat → Int32) (wp wl wh : Nat → Nat), i < g 1 + 1 → rf_se arr R → (∀ q, 1 ≤ R q → q ≤ c) → T ≤ rf_su R 25 → rf_wa T tp lw hgA wp wl wh → rf_wv c T wp wl wh → 2 ≤ rf_kid g i ∧ rf_kid g i ≤ c ∧ R (rf_kid g i) = 0 →
      rf_se (upd arr (rf_kid g i) 1) (rf_ad R (rf_kid g i)) ∧ (∀ q, 1 ≤ rf_ad R (rf_kid g i) q → q ≤ c) ∧ T + 1 ≤ rf_su (rf_ad R (rf_kid g i)) 25 ∧ rf_wa (T + 1) (upd tp T (nI (rf_kid g i))) (upd lw T (rf_lz (rf_lo g lo i))) (upd hgA T (nI (rf_hi g hi i))) (rf_sn wp T (rf_kid g i)) (rf_sn wl T (rf_lo g lo i)) (rf_sn wh T (rf_hi g hi i)) ∧ rf_wv c (T + 1) (rf_sn wp T (rf_kid g i)) (rf_sn wl T (rf_lo g lo i)) (rf_sn wh T (rf_hi g hi i)) := by
    intro i R T arr tp lw hgA wp wl wh hi1 hs hRc hT hw hv e
    refine ⟨rf_se_ad hs e.2.2 e.1 (by omega), fun q hq => ?_, by rw [rf_su_ad (by omega)]; omega, rf_wa_s hw, fun j hj => ?_⟩
    · unfold rf_ad at hq
      by_cases e2 : rf_kid g i = q
      · omega
      · rw [if_neg e2] at hq; exact hRc q (by omega)
    · by_cases e2 : j = T
      · subst e2
        rw [rf_sn_at, rf_sn_at, rf_sn_at]
        refine ⟨e.1, e.2.1, rf_lo_lt hg hlo i, ?_⟩
        unfold rf_hi
        split
        · have := rf_kv_lt hg i; omega
        · exact hhi
      · rw [rf_sn_ne e2, rf_sn_ne e2, rf_sn_ne e2]; exact hv j (by omega)
  intro m
  induction m with
  | zero =>
    intro i fu R T arr tp lw hgA wp wl wh hi' hf hs hRc hx hT hw hv
    obtain ⟨fu, rfl⟩ : ∃ f, fu = f + 1 := ⟨fu - 1, by omega⟩
    have ei : i = g 1 := by omega
    subst ei
    have t23 := rf_se_23 hs
    have ekid : rf_kid g (g 1) = g 2 := rf_kid_la
    have ehi : rf_hi g hi (g 1) = hi := by unfold rf_hi; rw [if_neg (by omega)]
    obtain ⟨c1, c2⟩ := rf_reachT (T := T) (tp := tp) (lw := lw) (hg := hgA) hs hc (show rf_kid g (g 1) < 2 ^ 20 by have := kidl (g 1); omega) (by omega) (rf_lz (rf_lo g lo (g 1))) (nI hi)
    have hd : ∀ q, pu_b6 (f_Check_reachTreePage (nI c) (nI T) arr tp lw hgA (nI (rf_kid g (g 1))) (rf_lz (rf_lo g lo (g 1))) (nI hi)) (fun r8 w9 w10 w11 w12 w13 => pu_br (r8 = 0) (some (0, w9, cnt, last, leaf, nb, st, sz, rl, rcnt, rb, rco, rst, w10, w11, w12, w13)) (some (1, w9, cnt, last, leaf, nb, st, sz, rl, rcnt, rb, rco, rst, w10, w11, w12, w13))) = q → q_Check_treePageHolds_60 (fun v_treeSize v_row_length v_row_count v_row_bytes v_row_codes v_row_starts v_reached v_treePages v_lows v_highs x_4 => q_Check_treePageHolds_165 (nI c) b v_treeSize cnt last leaf nb st sz v_row_length v_row_count v_row_bytes v_row_codes v_row_starts v_reached v_treePages v_lows v_highs (nI hi) x_4) (nI c) b cnt last leaf nb st sz (nI hi) (fu + 1) (nI T) rl rcnt rb rco rst arr tp lw hgA (rf_lz (rf_lo g lo (g 1))) (nI (g 1)) = q := by
      intro q hq
      rw [q_Check_treePageHolds_60, pu_br_t (show cnt ≤ nI (g 1) by rw [hcn]; exact nI_le (Nat.le_refl _) (by omega)), q_Check_treePageHolds_165, pu_br_t lf]
      have hla2 : last = nI (rf_kid g (g 1)) := by rw [ekid]; exact hla
      rw [← hla2] at hq
      exact hq
    by_cases e : 2 ≤ rf_kid g (g 1) ∧ rf_kid g (g 1) ≤ c ∧ R (rf_kid g (g 1)) = 0
    · obtain ⟨p1, p2, p3, p4, p5⟩ := push (g 1) R T arr tp lw hgA wp wl wh (by omega) hs hRc hT hw hv e
      rw [ehi] at p4 p5
      have st := rf_QI_step (n := n) (c := c) (lo := lo) (hi := hi) (R := R) (wp := wp) (wl := wl) (wh := wh) hx (show g 1 < g 1 + 1 by omega) (fun h => by omega)
      rw [ehi] at st
      refine ⟨1, T + 1, upd arr (rf_kid g (g 1)) 1, upd tp T (nI (rf_kid g (g 1))), upd lw T (rf_lz (rf_lo g lo (g 1))), upd hgA T (nI hi), hd _ ?_, Or.inr ⟨rfl, _, _, _, _, p1, p2, by omega, p3, p4, p5, st⟩⟩
      rw [c1 e, pu_b6_s, pu_br_f (by decide)]
    · refine ⟨0, T, arr, tp, lw, hgA, hd _ ?_, Or.inl ⟨rfl, rf_QI_no (by omega) e⟩⟩
      rw [c2 e, pu_b6_s, pu_br_t rfl]
  | succ m ih =>
    intro i fu R T arr tp lw hgA wp wl wh hi' hf hs hRc hx hT hw hv
    obtain ⟨fu, rfl⟩ : ∃ f, fu = f + 1 := ⟨fu - 1, by omega⟩
    have hi1 : i < g 1 := by omega
    have t23 := rf_se_23 hs
    have hk := rf_cellKey nd hi1
    have hfit := rf_cellFits nd hi1
    have kvl := rf_kv_lt hg i
    have lol := rf_lo_lt hg hlo i
    by_cases ck : rf_cok g i
    case neg =>
      refine ⟨0, T, arr, tp, lw, hgA, ?_, Or.inl ⟨rfl, fun q => ?_⟩⟩
      · rw [q_Check_treePageHolds_60, pu_br_f (show ¬ cnt ≤ nI i by rw [hcn]; exact nI_ge hi1 (by omega)), hk, pu_b1_s, hfit, rf_dv_f ck, pu_b1_s, pu_br_t (show nI 0 = (0 : Int32) from rfl)]
      · obtain ⟨D, _, q2, _⟩ := q
        exact ck ⟨fun z => by omega, fun _ => (q2 i (Nat.le_refl _) hi1).1⟩
    rw [rf_cok_ky (Or.inr g5) ck] at hk
    rw [rf_dv_t ck] at hfit
    have hch := rf_child nd hla (i := i) (by omega)
    have ekid : (if i < g 1 then g (rf_st g (i + 1)) else g 2) = rf_kid g i := rfl
    rw [ekid] at hch
    have hd : ∀ q, pu_br (nI (rf_kv g i) ≤ rf_lz (rf_lo g lo i)) (some (0, nI T, cnt, last, leaf, nb, st, sz, rl, rcnt, rb, rco, rst, arr, tp, lw, hgA)) (pu_br (nI (rf_kv g i) ≤ nI hi) (pu_b6 (f_Check_reachTreePage (nI c) (nI T) arr tp lw hgA (nI (rf_kid g i)) (rf_lz (rf_lo g lo i)) (nI (rf_kv g i))) (fun r17 w18 w19 w20 w21 w22 => q_Check_treePageHolds_146 (q_Check_treePageHolds_60 (fun v_treeSize v_row_length v_row_count v_row_bytes v_row_codes v_row_starts v_reached v_treePages v_lows v_highs x_4 => q_Check_treePageHolds_165 (nI c) b v_treeSize cnt last leaf nb st sz v_row_length v_row_count v_row_bytes v_row_codes v_row_starts v_reached v_treePages v_lows v_highs (nI hi) x_4) (nI c) b cnt last leaf nb st sz (nI hi) fu) (fun v_treeSize v_row_length v_row_count v_row_bytes v_row_codes v_row_starts v_reached v_treePages v_lows v_highs x_4 => q_Check_treePageHolds_165 (nI c) b v_treeSize cnt last leaf nb st sz v_row_length v_row_count v_row_bytes v_row_codes v_row_starts v_reached v_treePages v_lows v_highs (nI hi) x_4) (nI c) b w18 cnt last leaf nb st sz rl rcnt rb rco rst w19 w20 w21 w22 (nI hi) (nI i) (nI (rf_kv g i)) r17)) (some (0, nI T, cnt, last, leaf, nb, st, sz, rl, rcnt, rb, rco, rst, arr, tp, lw, hgA))) = q → q_Check_treePageHolds_60 (fun v_treeSize v_row_length v_row_count v_row_bytes v_row_codes v_row_starts v_reached v_treePages v_lows v_highs x_4 => q_Check_treePageHolds_165 (nI c) b v_treeSize cnt last leaf nb st sz v_row_length v_row_count v_row_bytes v_row_codes v_row_starts v_reached v_treePages v_lows v_highs (nI hi) x_4) (nI c) b cnt last leaf nb st sz (nI hi) (fu + 1) (nI T) rl rcnt rb rco rst arr tp lw hgA (rf_lz (rf_lo g lo i)) (nI i) = q := by
      intro q hq
      rw [q_Check_treePageHolds_60, pu_br_f (show ¬ cnt ≤ nI i by rw [hcn]; exact nI_ge hi1 (by omega)), hk, pu_b1_s, hfit, pu_b1_s, pu_br_f (by decide), pu_br_t lf, hch, pu_b1_s]
      exact hq
    by_cases cl : rf_kv g i < rf_lo g lo i
    · refine ⟨0, T, arr, tp, lw, hgA, hd _ ?_, Or.inl ⟨rfl, fun q => ?_⟩⟩
      · rw [pu_br_t ((rf_lz_le (by omega) (by omega)).mpr cl)]
      · obtain ⟨D, _, q2, _⟩ := q
        have := (q2 i (Nat.le_refl _) hi1).2.1
        omega
    by_cases ch : rf_kv g i ≤ hi
    case neg =>
      refine ⟨0, T, arr, tp, lw, hgA, hd _ ?_, Or.inl ⟨rfl, fun q => ?_⟩⟩
      · rw [pu_br_f (fun z => cl ((rf_lz_le (by omega) (by omega)).mp z)), pu_br_f (nI_ge (by omega) (by omega))]
      · obtain ⟨D, _, q2, _⟩ := q
        exact ch (q2 i (Nat.le_refl _) hi1).2.2
    obtain ⟨c1, c2⟩ := rf_reachT (T := T) (tp := tp) (lw := lw) (hg := hgA) hs hc (show rf_kid g i < 2 ^ 20 by have := kidl i; omega) (by omega) (rf_lz (rf_lo g lo i)) (nI (rf_kv g i))
    have ehi : rf_hi g hi i = rf_kv g i := by unfold rf_hi; rw [if_pos hi1]
    by_cases e : 2 ≤ rf_kid g i ∧ rf_kid g i ≤ c ∧ R (rf_kid g i) = 0
    · obtain ⟨p1, p2, p3, p4, p5⟩ := push i R T arr tp lw hgA wp wl wh (by omega) hs hRc hT hw hv e
      have st := rf_QI_step (n := n) (c := c) (lo := lo) (hi := hi) (R := R) (wp := wp) (wl := wl) (wh := wh) hx (show i < g 1 + 1 by omega) (fun _ => ⟨ck.2 g5, by omega, ch⟩)
      rw [ehi] at p4 p5 st
      obtain ⟨y, T', arr', tp', lw', hg', i1, i2⟩ := ih (i + 1) fu (rf_ad R (rf_kid g i)) (T + 1) _ _ _ _ _ _ _ (by omega) (by omega) p1 p2 (by omega) p3 p4 p5
      have elo : nI (rf_kv g i) = rf_lz (rf_lo g lo (i + 1)) := by
        unfold rf_lo
        rw [if_neg (by omega), Nat.add_sub_cancel, rf_lz_s]
      refine ⟨y, T', arr', tp', lw', hg', hd _ ?_, ?_⟩
      · rw [pu_br_f (fun z => cl ((rf_lz_le (by omega) (by omega)).mp z)), pu_br_t (nI_le ch (by omega)), c1 e, pu_b6_s, q_Check_treePageHolds_146, pu_br_f (by decide), nI_1, pu_nm]
        rw [← elo] at i1
        exact i1
      · rcases i2 with ⟨e1, e2⟩ | ⟨e1, R', wp', wl', wh', e2, e3, e4, e5, e6, e7, e8⟩
        · exact Or.inl ⟨e1, fun q => e2 (st.mp q)⟩
        · exact Or.inr ⟨e1, R', wp', wl', wh', e2, e3, by omega, e5, e6, e7, st.trans e8⟩
    · refine ⟨0, T, arr, tp, lw, hgA, hd _ ?_, Or.inl ⟨rfl, rf_QI_no (by omega) e⟩⟩
      rw [pu_br_f (fun z => cl ((rf_lz_le (by omega) (by omega)).mp z)), pu_br_t (nI_le ch (by omega)), c2 e, pu_b6_s, q_Check_treePageHolds_146, pu_br_t rfl]
end RFB2
