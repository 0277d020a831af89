section RFBF
variable {n : Nat → Nat} {c : Nat}
/-- the pages that wait, with their bounds -/
def rf_wa (T : Nat) (tp lw hg : Nat → Int32) (wp wl wh : Nat → Nat) : Prop := ∀ j, j < T → tp j = nI (wp j) ∧ lw j = rf_lz (wl j) ∧ hg j = nI (wh j)
def rf_bS (n : Nat → Nat) (c D : Nat) (wp : Nat → Nat) (x T q : Nat) : Nat := rf_su (fun j => rf_cu n c D (wp (x + j)) q) (T - x)
def rf_Q (n : Nat → Nat) (c : Nat) (R : Nat → Nat) (x T : Nat) (wp wl wh : Nat → Nat) : Prop := ∃ D, (∀ j, x ≤ j → j < T → rf_tq n c D (wp j) (wl j) (wh j)) ∧ ∀ q, R q + rf_bS n c D wp x T q = rf_full c q
def rf_QL (n : Nat → Nat) (c : Nat) (g : Nat → Nat) (x T lo hi : Nat) (wp wl wh : Nat → Nat) (R : Nat → Nat) (i : Nat) : Prop :=
  ∃ D, (∀ j, x ≤ j → j < T → rf_tq n c D (wp j) (wl j) (wh j)) ∧ (∀ j, i ≤ j → j < g 1 → rf_cl n c g j ∧ rf_zt n g j ∧ rf_lo g lo j ≤ rf_kv g j ∧ rf_kv g j ≤ hi) ∧ ∀ q, R q + rf_su (fun j => rf_lq n g q (i + j)) (g 1 - i) + rf_bS n c D wp x T q = rf_full c q
def rf_QI (n : Nat → Nat) (c : Nat) (g : Nat → Nat) (x lo hi : Nat) (R : Nat → Nat) (i T : Nat) (wp wl wh : Nat → Nat) : Prop :=
  ∃ D, (∀ j, x ≤ j → j < T → rf_tq n c D (wp j) (wl j) (wh j)) ∧ (∀ j, i ≤ j → j < g 1 → rf_ci g j ∧ rf_lo g lo j ≤ rf_kv g j ∧ rf_kv g j ≤ hi) ∧ (∀ j, i ≤ j → j < g 1 + 1 → rf_tq n c D (rf_kid g j) (rf_lo g lo j) (rf_hi g hi j)) ∧ ∀ q, R q + rf_su (fun j => rf_ct n c D (rf_kid g (i + j)) q) (g 1 + 1 - i) + rf_bS n c D wp x T q = rf_full c q
theorem rf_reachT {R : Nat → Nat} {p T : Nat} {arr tp lw hg : Nat → Int32} (hs : rf_se arr R) (hc : c ≤ 24) (hp : p < 2 ^ 20) (hT : T < 24) (l h : Int32) :
    (2 ≤ p ∧ p ≤ c ∧ R p = 0 → f_Check_reachTreePage (nI c) (nI T) arr tp lw hg (nI p) l h = some (1, nI (T + 1), upd arr p 1, upd tp T (nI p), upd lw T l, upd hg T h)) ∧ (¬ (2 ≤ p ∧ p ≤ c ∧ R p = 0) → f_Check_reachTreePage (nI c) (nI T) arr tp lw hg (nI p) l h = some (0, nI T, arr, tp, lw, hg)) := by
  constructor
  · intro e
    rw [f_Check_reachTreePage, (rf_reach hs hc hp).1 e, pu_b2_s, pu_br_f (by decide), pu_br_t (show nI T < (24 : Int32) from nI_lt (b := 24) hT (by omega)), pu_ck_t (vp_in_nI (by omega) (by decide)), nI_clamp (by omega), pu_nm, pu_ck_t (vp_in_nI (by omega) (by decide)), pu_nm, pu_ck_t (vp_in_nI (by omega) (by decide)), pu_nm, nI_1, pu_nm]
  · intro e
    rw [f_Check_reachTreePage, (rf_reach hs hc hp).2 e, pu_b2_s, pu_br_t rfl]
theorem rf_kv_lt {g : Nat → Nat} (hg : ∀ k, g k < 256) (i : Nat) : rf_kv g i < 2097152 := by
  unfold rf_kv
  cases h : rf_ky g i with
  | none => show 0 < 2097152; omega
  | some q =>
    obtain ⟨k, z⟩ := q
    show k < 2097152
    unfold rf_ky at h
    by_cases e : g 0 = 13
    · rw [if_pos e] at h
      cases hl : rf_ln g i with
      | none => rw [hl] at h; cases h
      | some v => rw [hl] at h; exact (rf_rd_lt hg h).1
    · rw [if_neg e] at h; exact (rf_rd_lt hg h).1
theorem rf_lo_lt {g : Nat → Nat} (hg : ∀ k, g k < 256) {lo : Nat} (hl : lo ≤ 2097153) (i : Nat) : rf_lo g lo i ≤ 2097153 := by
  unfold rf_lo; split
  · exact hl
  · have := rf_kv_lt hg (i - 1); omega
theorem rf_cok_ky {g : Nat → Nat} {i : Nat} (hk : g 0 = 13 ∨ g 0 = 5) (h : rf_cok g i) : rf_rv (rf_ky g i) = nI (rf_kv g i) := by
  rcases hk with k | k
  · obtain ⟨y, kk, z, w1, w2, w3⟩ := h.1 k
    have : rf_ky g i = some (kk, z) := by unfold rf_ky; rw [if_pos k, w1]; exact w2
    rw [rf_kv_ky this, this]; rfl
  · obtain ⟨kk, z, w1, w2⟩ := h.2 k
    have : rf_ky g i = some (kk, z) := by unfold rf_ky; rw [if_neg (by omega)]; exact w1
    rw [rf_kv_ky this, this]; rfl
theorem rf_cl_cf0 {g : Nat → Nat} {i : Nat} (h : rf_cl n c g i) : rf_cf0 g i := by
  obtain ⟨y, k, z, w1, w2, w3, w4, w5, _⟩ := h
  exact ⟨y, k, z, w1, w2, by omega⟩
/-- the cells of a leaf, in the class's check -/
theorem rf_leaf_go {b : Nat → Int32} (hn : rf_bt n) (hb : rf_pg b n) (hc : c ≤ 24) {g : Nat → Nat} {cnt last leaf : Int32} {nb st sz : Nat → Int32} (nd : rf_nd g cnt leaf nb st sz) (g13 : g 0 = 13) {x T lo hi : Nat} {wp wl wh : Nat → Nat} (hlo : lo ≤ 2097153) (hhi : hi < 2 ^ 29) (tp lw hgA : Nat → Int32) :
    ∀ m i fu (R : Nat → Nat) (arr rb rco rst : Nat → Int32) (rl rcnt : Int32), i + m = g 1 → m < fu → rf_se arr R → (∀ q, 1 ≤ R q → q ≤ c) →
      ∃ (y : Int32) (rl' rcnt' : Int32) (rb' rco' rst' arr' : Nat → Int32), q_Check_treePageHolds_60 (fun v_treeSize v_row_length v_row_count v_row_bytes v_row_codes v_row_starts v_reached v_treePages v_lows v_highs x_4 => q_Check_treePageHolds_165 (nI c) b v_treeSize cnt last leaf nb st sz v_row_length v_row_count v_row_bytes v_row_codes v_row_starts v_reached v_treePages v_lows v_highs (nI hi) x_4) (nI c) b cnt last leaf nb st sz (nI hi) fu (nI T) rl rcnt rb rco rst arr tp lw hgA (rf_lz (rf_lo g lo i)) (nI i) = some (y, nI T, cnt, last, leaf, nb, st, sz, rl', rcnt', rb', rco', rst', arr', tp, lw, hgA) ∧
        ((y = 0 ∧ ¬ rf_QL n c g x T lo hi wp wl wh R i) ∨ (y = 1 ∧ ∃ R', rf_se arr' R' ∧ (∀ q, 1 ≤ R' q → q ≤ c) ∧ (∀ q, R q ≤ R' q) ∧ (rf_QL n c g x T lo hi wp wl wh R i ↔ rf_QL n c g x T lo hi wp wl wh R' (g 1)))) := by
  have hg := nd.2.1
  have hl := nd.1
  have h30 := hl.2.2.2.1
  have lf : leaf = 1 := by
    rcases rf_nd_lf nd with ⟨_, e⟩ | ⟨e, _⟩
    · omega
    · exact e
  have hcn : cnt = nI (g 1) := nd.2.2.2.2.1
  intro m
  induction m with
  | zero =>
    intro i fu R arr rb rco rst rl rcnt hi' hf hs hRc
    obtain ⟨fu, rfl⟩ : ∃ f, fu = f + 1 := ⟨fu - 1, by omega⟩
    have ei : i = g 1 := by omega
    subst ei
    refine ⟨1, rl, rcnt, rb, rco, rst, arr, ?_, Or.inr ⟨rfl, R, hs, hRc, fun _ => Nat.le_refl _, Iff.rfl⟩⟩
    rw [q_Check_treePageHolds_60, pu_br_t (show cnt ≤ nI (g 1) by rw [hcn]; exact nI_le (Nat.le_refl _) (by omega)), q_Check_treePageHolds_165, pu_br_f (by rw [lf]; decide)]
  | succ m ih =>
    intro i fu R arr rb rco rst rl rcnt hi' hf hs hRc
    obtain ⟨fu, rfl⟩ : ∃ f, fu = f + 1 := ⟨fu - 1, by omega⟩
    have hi1 : i < g 1 := by omega
    have hk := rf_cellKey nd hi1
    have hfit := rf_cellFits nd hi1
    have kvl := rf_kv_lt hg i
    have lol := rf_lo_lt hg hlo i
    by_cases ck : rf_cok g i
    case neg =>
      refine ⟨0, rl, rcnt, rb, rco, rst, arr, ?_, Or.inl ⟨rfl, fun q => ?_⟩⟩
      · rw [q_Check_treePageHolds_60, pu_br_f (show ¬ cnt ≤ nI i by rw [hcn]; exact nI_ge hi1 (by omega)), hk, pu_b1_s, hfit, rf_dv_f ck, pu_b1_s, pu_br_t (show nI 0 = (0 : Int32) from rfl)]
      · obtain ⟨D, _, q2, _⟩ := q
        exact ck ⟨fun _ => rf_cl_cf0 (q2 i (Nat.le_refl _) hi1).1, fun z => by omega⟩
    rw [rf_cok_ky (Or.inl g13) ck] at hk
    rw [rf_dv_t ck] at hfit
    have hd : ∀ q, pu_br (nI (rf_kv g i) ≤ rf_lz (rf_lo g lo i)) (some (0, nI T, cnt, last, leaf, nb, st, sz, rl, rcnt, rb, rco, rst, arr, tp, lw, hgA)) (pu_br (nI (rf_kv g i) ≤ nI hi) (pu_b7 (f_Check_rowHolds (nI c) b cnt nb st sz rl rcnt rb rco rst arr (nI i)) (fun r24 w25 w26 w27 w28 w29 w30 => q_Check_treePageHolds_146 (q_Check_treePageHolds_60 (fun v_treeSize v_row_length v_row_count v_row_bytes v_row_codes v_row_starts v_reached v_treePages v_lows v_highs x_4 => q_Check_treePageHolds_165 (nI c) b v_treeSize cnt last leaf nb st sz v_row_length v_row_count v_row_bytes v_row_codes v_row_starts v_reached v_treePages v_lows v_highs (nI hi) x_4) (nI c) b cnt last leaf nb st sz (nI hi) fu) (fun v_treeSize v_row_length v_row_count v_row_bytes v_row_codes v_row_starts v_reached v_treePages v_lows v_highs x_4 => q_Check_treePageHolds_165 (nI c) b v_treeSize cnt last leaf nb st sz v_row_length v_row_count v_row_bytes v_row_codes v_row_starts v_reached v_treePages v_lows v_highs (nI hi) x_4) (nI c) b (nI T) cnt last leaf nb st sz w25 w26 w27 w28 w29 w30 tp lw hgA (nI hi) (nI i) (nI (rf_kv g i)) r24)) (some (0, nI T, cnt, last, leaf, nb, st, sz, rl, rcnt, rb, rco, rst, arr, tp, lw, hgA))) = q → q_Check_treePageHolds_60 (fun v_treeSize v_row_length v_row_count v_row_bytes v_row_codes v_row_starts v_reached v_treePages v_lows v_highs x_4 => q_Check_treePageHolds_165 (nI c) b v_treeSize cnt last leaf nb st sz v_row_length v_row_count v_row_bytes v_row_codes v_row_starts v_reached v_treePages v_lows v_highs (nI hi) x_4) (nI c) b cnt last leaf nb st sz (nI hi) (fu + 1) (nI T) rl rcnt rb rco rst arr tp lw hgA (rf_lz (rf_lo g lo i)) (nI i) = q := by
      intro q hq
      rw [q_Check_treePageHolds_60, pu_br_f (show ¬ cnt ≤ nI i by rw [hcn]; exact nI_ge hi1 (by omega)), hk, pu_b1_s, hfit, pu_b1_s, pu_br_f (by decide), pu_br_f (show ¬ leaf = 0 by rw [lf]; decide)]
      exact hq
    by_cases cl : rf_kv g i < rf_lo g lo i
    · refine ⟨0, rl, rcnt, rb, rco, rst, arr, hd _ ?_, Or.inl ⟨rfl, fun q => ?_⟩⟩
      · rw [pu_br_t ((rf_lz_le (by omega) (by omega)).mpr cl)]
      · obtain ⟨D, _, q2, _⟩ := q
        have := (q2 i (Nat.le_refl _) hi1).2.2.1
        omega
    by_cases ch : rf_kv g i ≤ hi
    case neg =>
      refine ⟨0, rl, rcnt, rb, rco, rst, arr, hd _ ?_, Or.inl ⟨rfl, fun q => ?_⟩⟩
      · rw [pu_br_f (fun z => cl ((rf_lz_le (by omega) (by omega)).mp z)), pu_br_f (nI_ge (by omega) (by omega))]
      · obtain ⟨D, _, q2, _⟩ := q
        exact ch (q2 i (Nat.le_refl _) hi1).2.2.2
    obtain ⟨y, rl1, rcnt1, rb1, rco1, rst1, arr1, r1, r2, r3⟩ := rf_rowHolds hn hb hc nd hi1 (ck.1 g13) hs rl rcnt rb rco rst
    have iffw := rf_lw_iff (c := c) (i := i) hn hg hs.1
    by_cases cw : rf_lw n c g i R
    · obtain ⟨y1, s1⟩ := r2 cw
      obtain ⟨w1, w2, w3⟩ := iffw.mp cw
      have eR : ∀ q, rf_wks n (rf_cp (rf_cL g i)) (rf_cf g i) R q = R q + rf_lq n g q i := fun q => rf_wks_hc _ _ _ _
      have hRc1 : ∀ q, 1 ≤ rf_wks n (rf_cp (rf_cL g i)) (rf_cf g i) R q → q ≤ c := fun q hq => by
        rw [eR] at hq
        by_cases e : 1 ≤ R q
        · exact hRc q e
        · obtain ⟨_, _, _, _, _, _, _, _, h6, _⟩ := w1
          exact (rf_hc_in h6 (q := q) (by unfold rf_lq at hq; omega)).2
      obtain ⟨y', rl', rcnt', rb', rco', rst', arr', i1, i2⟩ := ih (i + 1) fu (rf_wks n (rf_cp (rf_cL g i)) (rf_cf g i) R) arr1 rb1 rco1 rst1 rl1 rcnt1 (by omega) (by omega) s1 hRc1
      have step : rf_QL n c g x T lo hi wp wl wh R i ↔ rf_QL n c g x T lo hi wp wl wh (rf_wks n (rf_cp (rf_cL g i)) (rf_cf g i) R) (i + 1) := by
        have es : ∀ q, rf_su (fun j => rf_lq n g q (i + j)) (g 1 - i) = rf_lq n g q i + rf_su (fun j => rf_lq n g q (i + 1 + j)) (g 1 - (i + 1)) := fun q => by
          have := rf_su_sp (fun j => rf_lq n g q (i + j)) 1 (g 1 - (i + 1))
          rw [show 1 + (g 1 - (i + 1)) = g 1 - i by omega] at this
          rw [this]
          show 0 + rf_lq n g q (i + 0) + _ = _
          rw [Nat.zero_add, Nat.add_zero]
          congr 1
          exact rf_su_congr _ (fun j _ => by rw [Nat.add_assoc i 1 j])
        constructor
        · rintro ⟨D, a1, a2, a3⟩
          exact ⟨D, a1, fun j j1 j2 => a2 j (by omega) j2, fun q => by have := a3 q; rw [es] at this; rw [eR]; omega⟩
        · rintro ⟨D, a1, a2, a3⟩
          refine ⟨D, a1, fun j j1 j2 => ?_, fun q => by have := a3 q; rw [eR] at this; rw [es]; omega⟩
          by_cases e : j = i
          · subst e; exact ⟨w1, w3, by omega, ch⟩
          · exact a2 j (by omega) j2
      have elo : nI (rf_kv g i) = rf_lz (rf_lo g lo (i + 1)) := by
        unfold rf_lo
        rw [if_neg (by omega), Nat.add_sub_cancel, rf_lz_s]
      refine ⟨y', rl', rcnt', rb', rco', rst', arr', hd _ ?_, ?_⟩
      · rw [pu_br_f (fun z => cl ((rf_lz_le (by omega) (by omega)).mp z)), pu_br_t (nI_le ch (by omega)), r1, pu_b7_s, y1, q_Check_treePageHolds_146, pu_br_f (by decide), nI_1, pu_nm, elo, i1]
      · rcases i2 with ⟨e1, e2⟩ | ⟨e1, R', e2, e3, e4, e5⟩
        · exact Or.inl ⟨e1, fun q => e2 (step.mp q)⟩
        · exact Or.inr ⟨e1, R', e2, e3, fun q => by have := e4 q; rw [eR] at this; omega, step.trans e5⟩
    · refine ⟨0, rl1, rcnt1, rb1, rco1, rst1, arr1, hd _ ?_, Or.inl ⟨rfl, fun q => ?_⟩⟩
      · rw [pu_br_f (fun z => cl ((rf_lz_le (by omega) (by omega)).mp z)), pu_br_t (nI_le ch (by omega)), r1, pu_b7_s, r3 cw, q_Check_treePageHolds_146, pu_br_t rfl]
      · obtain ⟨D, _, q2, q3⟩ := q
        obtain ⟨z1, z2, z3⟩ := q2 i (Nat.le_refl _) hi1
        refine cw (iffw.mpr ⟨z1, fun q => ?_, z2⟩)
        have a := q3 q
        have b := rf_full_le c q
        have d := rf_su_le (f := fun j => rf_lq n g q (i + j)) (m := g 1 - i) (i := 0) (by omega)
        rw [Nat.add_zero] at d
        omega
end RFBF
