section RFXC
variable {n R : Nat → Nat} {c p : Nat} {arr : Nat → Int32}
/-- the parts of a cell fill it -/
def rf_cok (g : Nat → Nat) (i : Nat) : Prop := (g 0 = 13 → rf_cf0 g i) ∧ (g 0 = 5 → rf_ci g i)
theorem rf_kv_ky {g : Nat → Nat} {i k z : Nat} (h : rf_ky g i = some (k, z)) : rf_kv g i = k := by unfold rf_kv; rw [h]
/-- the reference reads a key of an inner page -/
theorem rf_innerKey {mn : Nat → Int32} (hn : rf_bt n) (hmn : rf_md mn n) (h1 : 1 ≤ p) (h2 : p ≤ c) (hc : c ≤ 24) (hl : rf_lay (rf_gb n c p)) (g5 : rf_gb n c p 0 = 5) {i : Nat} (hi : i < rf_gb n c p 1) (at' bad : Int32) :
    ∃ k' a' b', f_MD_innerKey mn at' bad (nI p) (nI i) = some (k', a', b') ∧ (rf_ci (rf_gb n c p) i ∧ rf_kv (rf_gb n c p) i ≤ 1000000 → k' = nI (rf_kv (rf_gb n c p) i)) ∧ (¬ (rf_ci (rf_gb n c p) i ∧ rf_kv (rf_gb n c p) i ≤ 1000000) → k' = -2) := by
  have e0 : (64 : Int32) * nI p = nI (64 * p) := pk_mul 64 p
  have h30 := hl.2.2.2.1
  have hst := rf_nd_st hl hi
  have bg1 := rf_beginp hmn h1 h2 hc (i := i) (by omega)
  have bg2 := rf_begin hmn h1 h2 hc (i := i) (by omega)
  have gl : ∀ a, rf_gb n c p a < 256 := rf_gb_lt hn c p
  have rdp : ∀ a e, e ≤ 64 → rf_rd n (64 * p + a) (64 * p + e) = rf_rd (rf_gb n c p) a e := fun a e he => rf_gb_rd h1 h2 he
  generalize rf_gb n c p = g at *
  have eky : rf_ky g i = rf_rd g (rf_st g (i + 1) + 1) (rf_st g i) := by unfold rf_ky; rw [if_neg (by omega)]
  have hd : ∀ q, pu_b3 (f_MD_read 1600 mn (nI (64 * p + (rf_st g (i + 1) + 1))) 0 (nI (64 * p + rf_st g i))) (fun r5 w6 w7 => pu_br (w7 = 0) (pu_br (w6 = nI (64 * p + rf_st g i)) (pu_br (r5 ≤ 1000000) (some (r5, w6, w7)) (some (-2, w6, w7))) (some (-2, w6, w7))) (some (-2, w6, w7))) = q → f_MD_innerKey mn at' bad (nI p) (nI i) = q := by
    intro q hq
    rw [f_MD_innerKey, bg1, pu_b1_s, e0, nI_add, pu_nm, bg2, pu_b1_s, nI_add, nI_1, pu_nm, Nat.add_assoc (64 * p)]
    exact hq
  have rd1 := rf_mread4 (N := 1600) (b := mn) (g := n) (s := 64 * p + (rf_st g (i + 1) + 1)) (e := 64 * p + rf_st g i) hn (fun k hk => hmn k (by omega)) (by omega) (by omega) (by omega)
  rw [rdp _ _ hst.2.1] at rd1
  rcases rd1 with ⟨v, z, q1, q2⟩ | ⟨q1, ⟨s', q2⟩ | ⟨v, v1, v2, v3, q2⟩⟩
  · have lt := rf_rd_lt gl q1
    have ekv : rf_kv g i = v := rf_kv_ky (by rw [eky]; exact q1)
    rw [ekv]
    by_cases ce : rf_st g (i + 1) + 1 + z = rf_st g i
    · by_cases ck : v ≤ 1000000
      · refine ⟨nI v, nI (64 * p + (rf_st g (i + 1) + 1) + z), 0, hd _ ?_, fun _ => rfl, fun q => absurd ⟨⟨v, z, q1, ce⟩, ck⟩ q⟩
        rw [q2, pu_b3_s, pu_br_t rfl, pu_br_t (by congr 1; omega), pu_br_t (show nI v ≤ (1000000 : Int32) from nI_le (b := 1000000) ck (by omega))]
      · refine ⟨-2, nI (64 * p + (rf_st g (i + 1) + 1) + z), 0, hd _ ?_, fun q => absurd q.2 ck, fun _ => rfl⟩
        rw [q2, pu_b3_s, pu_br_t rfl, pu_br_t (by congr 1; omega), pu_br_f (show ¬ nI v ≤ (1000000 : Int32) from nI_ge (a := 1000000) (by omega) (by omega))]
    · refine ⟨-2, nI (64 * p + (rf_st g (i + 1) + 1) + z), 0, hd _ ?_, fun q => ?_, fun _ => rfl⟩
      · rw [q2, pu_b3_s, pu_br_t rfl, pu_br_f (fun q => ce (by have := (nI_eq (by omega) (by omega)).mp q; omega))]
      · obtain ⟨k', z', w1, w2⟩ := q.1
        rw [q1] at w1
        cases w1
        exact absurd w2 ce
  · refine ⟨-2, s', 1, hd _ ?_, fun q => ?_, fun _ => rfl⟩
    · rw [q2, pu_b3_s, pu_br_f (by decide)]
    · obtain ⟨k', z', w1, w2⟩ := q.1
      rw [q1] at w1
      cases w1
  · refine ⟨-2, nI (64 * p + (rf_st g (i + 1) + 1) + 4), 0, hd _ ?_, fun q => ?_, fun _ => rfl⟩
    · rw [q2, pu_b3_s, pu_br_t rfl]
      by_cases ce : nI (64 * p + (rf_st g (i + 1) + 1) + 4) = nI (64 * p + rf_st g i)
      · rw [pu_br_t ce, pu_br_f (show ¬ nI v ≤ (1000000 : Int32) from nI_ge (a := 1000000) (by omega) (by omega))]
      · rw [pu_br_f ce]
    · obtain ⟨k', z', w1, w2⟩ := q.1
      rw [q1] at w1
      cases w1
theorem rf_sizeInLeaf2 {L : Nat} (h : L < 2 ^ 31) : f_RF_sizeInLeaf (nI L) = some (nI (rf_sil L)) := by
  unfold rf_sil
  rw [f_RF_sizeInLeaf]
  by_cases e : L ≤ 24
  · rw [if_pos e, pu_br_f (show ¬ (24 : Int32) < nI L from nI_nlt (a := 24) e (by omega))]
  · rw [if_neg e, pu_br_t (show (24 : Int32) < nI L from nI_lt (a := 24) (by omega) h)]; rfl
/-- the class holds a cell's parts against its size -/
theorem rf_cellFits {g : Nat → Nat} {cnt leaf : Int32} {b starts sizes : Nat → Int32} (h : rf_nd g cnt leaf b starts sizes) {i : Nat} (hi : i < g 1) : f_Node_cellFits cnt leaf b starts sizes (nI i) = some (nI (rf_dv (rf_cok g i))) := by
  have hk := rf_cellKey h hi
  have hrl := rf_recordLength h hi
  have hlf := rf_nd_lf h
  obtain ⟨hl, hg, hb, hle, rfl, hc⟩ := h
  have hst := rf_nd_st hl hi
  have h30 := hl.2.2.2.1
  have i31 : vp_in (nI i) 31 := vp_in_nI (by omega) (by decide)
  rw [f_Node_cellFits, hk, pu_b1_s]
  rcases hlf with ⟨lf, g5⟩ | ⟨lf, g13⟩
  · -- an inner page
    have eky : rf_ky g i = rf_rd g (rf_st g (i + 1) + 1) (rf_st g i) := by unfold rf_ky; rw [if_neg (by omega)]
    have co : rf_cok g i ↔ rf_ci g i := ⟨fun q => q.2 g5, fun q => ⟨fun z => by omega, fun _ => q⟩⟩
    rw [rf_dv_congr co, eky]
    cases hrd : rf_rd g (rf_st g (i + 1) + 1) (rf_st g i) with
    | none =>
      show pu_br ((0 : Int32) ≤ -1) _ _ = _
      rw [pu_br_f (by decide), rf_dv_f]
      · rfl
      · rintro ⟨k, z, w1, w2⟩; rw [hrd] at w1; cases w1
    | some q =>
      obtain ⟨k, z⟩ := q
      have lt := rf_rd_lt hg hrd
      have sz := rf_rd_size hg hrd
      have er : rf_rv (some (k, z)) = nI k := rfl
      rw [er, pu_br_t (nI_pos' (by omega)), pu_br_t lf, pu_ck_t i31, rf_vsz (by omega), pu_b1_s, ← sz, nI_clamp (by omega), (hc i hi).2, show (1 : Int32) + nI z = nI (1 + z) from nI_add 1 _]
      by_cases e : rf_st g i - rf_st g (i + 1) = 1 + z
      · rw [pu_br_t (by rw [e]), rf_dv_t ⟨k, z, hrd, by omega⟩]; rfl
      · rw [pu_br_f (fun q => e ((nI_eq (by omega) (by omega)).mp q)), rf_dv_f]
        · rfl
        · rintro ⟨k', z', w1, w2⟩
          rw [hrd] at w1
          cases w1
          omega
  · have co : rf_cok g i ↔ rf_cf0 g i := ⟨fun q => q.1 g13, fun q => ⟨fun _ => q, fun z => by omega⟩⟩
    rw [rf_dv_congr co]
    cases hln : rf_ln g i with
    | none =>
      have eky : rf_ky g i = none := by unfold rf_ky; rw [if_pos g13, hln]
      rw [eky]
      show pu_br ((0 : Int32) ≤ -1) _ _ = _
      rw [pu_br_f (by decide), rf_dv_f]
      · rfl
      · rintro ⟨y, k, z, w1, w2, w3⟩; rw [hln] at w1; cases w1
    | some q =>
      obtain ⟨v, y⟩ := q
      have ecL : rf_cL g i = v := by unfold rf_cL; rw [hln]
      have lt1 := rf_rd_lt hg hln
      have sz1 := rf_rd_size hg hln
      have eky : rf_ky g i = rf_rd g (rf_st g (i + 1) + y) (rf_st g i) := by unfold rf_ky; rw [if_pos g13, hln]
      rw [eky]
      cases hrd : rf_rd g (rf_st g (i + 1) + y) (rf_st g i) with
      | none =>
        show pu_br ((0 : Int32) ≤ -1) _ _ = _
        rw [pu_br_f (by decide), rf_dv_f]
        · rfl
        · rintro ⟨y', k', z', w1, w2, w3⟩
          rw [hln] at w1
          cases w1
          rw [hrd] at w2
          cases w2
      | some q =>
        obtain ⟨k, z⟩ := q
        have lt2 := rf_rd_lt hg hrd
        have sz2 := rf_rd_size hg hrd
        have er : rf_rv (some (k, z)) = nI k := rfl
        have er2 : rf_rv (some (v, y)) = nI v := rfl
        rw [hln, er2] at hrl
        have body : ∀ s0 : Nat, s0 = (if v ≤ 24 then 0 else 1) → q_Node_cellFits_57 (nI (g 1)) leaf b starts sizes (nI i) (nI k) (nI v) (nI s0) = some (nI (rf_dv (rf_cf0 g i))) := by
          intro s0 hs0
          have esl : rf_sil v + s0 = (if v ≤ 24 then v else 17) := by
            rw [hs0]
            unfold rf_sil
            by_cases e : v ≤ 24
            · rw [if_pos e, if_pos e, if_pos e]; omega
            · rw [if_neg e, if_neg e, if_neg e]
          rw [q_Node_cellFits_57, pu_ck_t i31, rf_vsz (by omega), pu_b1_s, ← sz1, rf_vsz (by omega), pu_b1_s, ← sz2, rf_sizeInLeaf2 (by omega), pu_b1_s, nI_clamp (by omega), (hc i hi).2, nI_add, nI_add, nI_add]
          have sl := rf_sil_le (L := v)
          have s01 : s0 ≤ 1 := by rw [hs0]; split <;> omega
          by_cases e : rf_st g i - rf_st g (i + 1) = y + z + rf_sil v + s0
          · rw [pu_br_t (by rw [e]), rf_dv_t ⟨y, k, z, by rw [hln, ecL], hrd, by rw [ecL]; omega⟩]; rfl
          · rw [pu_br_f (fun q => e ((nI_eq (by omega) (by omega)).mp q)), rf_dv_f]
            · rfl
            · rintro ⟨y', k', z', w1, w2, w3⟩
              rw [hln] at w1
              cases w1
              rw [hrd] at w2
              cases w2
              rw [ecL] at w3
              omega
        rw [er, pu_br_t (nI_pos' (by omega)), pu_br_f (by rw [lf]; decide), hrl, pu_b1_s]
        by_cases e : v ≤ 24
        · rw [pu_br_t (show nI v ≤ (24 : Int32) from nI_le (b := 24) e (by omega))]
          exact body 0 (by rw [if_pos e])
        · rw [pu_br_f (show ¬ nI v ≤ (24 : Int32) from nI_ge (a := 24) (by omega) (by omega))]
          exact body 1 (by rw [if_neg e])
theorem rf_wk_hn {zf : Nat → Nat} : ∀ m i p R, rf_wk n c zf m i p R → rf_hn n c m p
  | 0, _, _, _, h => h
  | m + 1, i, p, R, h => ⟨h.1, h.2.1, rf_wk_hn m (i + 1) _ _ h.2.2.2.2⟩
/-- the class holds a row against what it must be -/
theorem rf_rowHolds {b : Nat → Int32} (hn : rf_bt n) (hb : rf_pg b n) (hc : c ≤ 24) {g : Nat → Nat} {cnt leaf : Int32} {nb starts sizes : Nat → Int32} (h : rf_nd g cnt leaf nb starts sizes) {i : Nat} (hi : i < g 1) (h0 : rf_cf0 g i) (hs : rf_se arr R) (rl rcnt : Int32) (rb rco rst : Nat → Int32) :
    ∃ x rl' rcnt' rb' rco' rst' arr', f_Check_rowHolds (nI c) b cnt nb starts sizes rl rcnt rb rco rst arr (nI i) = some (x, rl', rcnt', rb', rco', rst', arr') ∧ (rf_lw n c g i R → x = 1 ∧ rf_se arr' (rf_wks n (rf_cp (rf_cL g i)) (rf_cf g i) R)) ∧ (¬ rf_lw n c g i R → x = 0) := by
  have h0' := h0
  obtain ⟨y, k, z, w1, w2, w3⟩ := h0
  have hg := h.2.1
  have hl := h.1
  have hst := rf_nd_st hl hi
  have hrl := rf_recordLength h hi
  rw [w1] at hrl
  have er : rf_rv (some (rf_cL g i, y)) = nI (rf_cL g i) := rfl
  rw [er] at hrl
  have ltL := rf_rd_lt hg w1
  have rcl := rf_rc_lt (n := n) hn hg i
  rw [f_Check_rowHolds, hrl, pu_b1_s]
  by_cases cL : rf_cL g i ≤ 307
  · have cs := rf_chainStart h hi (by omega)
    have cfl : rf_cf g i < 256 := by unfold rf_cf; split; omega; exact hg _
    obtain ⟨arr1, q1, q2⟩ := rf_chainHolds hn hb hc (L := rf_cL g i) (by omega) cfl hs
    rw [pu_br_f (show ¬ (307 : Int32) < nI (rf_cL g i) from nI_nlt (a := 307) cL (by omega)), cs, pu_b1_s, q1, pu_b2_s]
    by_cases cw : rf_wk n c (rf_zf (rf_cL g i)) (rf_cp (rf_cL g i)) 0 (rf_cf g i) R
    · have c0 : rf_c0 n c g i := ⟨y, k, z, w1, w2, cL, by unfold rf_cb; omega, by unfold rf_cb; omega, rf_wk_hn _ _ _ _ cw⟩
      obtain ⟨w, r1, r2⟩ := rf_read hn hb hc h hi c0 rl rb
      obtain ⟨x, cnt', codes', starts', d1, d2⟩ := rf_decode (r := rf_rc n g i) rcl r2 cL rcnt rco rst
      rw [rf_dv_t cw, pu_br_f (by decide), r1, pu_b2_s, d1, pu_b4_s]
      rcases d2 with ⟨x1, m, cd, zz, d3, _⟩ | ⟨x0, d3⟩
      · rw [x1, pu_ck_t pu_bz1]
        exact ⟨1, _, _, _, _, _, arr1, rfl, fun _ => ⟨rfl, q2 cw⟩, fun q => absurd ⟨h0', cw, ⟨m, cd, zz, d3⟩⟩ q⟩
      · rw [x0, pu_ck_t pu_bz0]
        exact ⟨0, _, _, _, _, _, arr1, rfl, fun q => absurd q.2.2 d3, fun _ => rfl⟩
    · rw [rf_dv_f cw, pu_br_t (show nI 0 = (0 : Int32) from rfl)]
      exact ⟨0, _, _, _, _, _, arr1, rfl, fun q => absurd q.2.1 cw, fun _ => rfl⟩
  · rw [pu_br_t (show (307 : Int32) < nI (rf_cL g i) from nI_lt (a := 307) (by omega) (by omega))]
    exact ⟨0, _, _, _, _, _, arr, rfl, fun q => absurd (rf_wr_307 rcl q.2.2).1 cL, fun _ => rfl⟩
end RFXC
