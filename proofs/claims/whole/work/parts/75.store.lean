section RFST
variable {n : Nat → Nat} {c p : Nat}
/-- one byte of a page -/
def rf_p1 (h : Nat → Nat) (a v : Nat) : Nat → Nat := fun b => if b = a then v else h b
theorem rf_wp_congr {h h' : Nat → Nat} (e : ∀ a, a < 64 → h a = h' a) : rf_wp n p h = rf_wp n p h' := by
  funext k
  unfold rf_wp
  by_cases q : 64 * p ≤ k ∧ k < 64 * p + 64
  · rw [if_pos q, if_pos q]; exact e _ (by omega)
  · rw [if_neg q, if_neg q]
theorem rf_wp_wp {h h' : Nat → Nat} : rf_wp (rf_wp n p h) p h' = rf_wp n p h' := by
  funext k
  unfold rf_wp
  by_cases q : 64 * p ≤ k ∧ k < 64 * p + 64
  · rw [if_pos q, if_pos q]
  · rw [if_neg q, if_neg q, if_neg q]
theorem rf_wp_cm {q : Nat} {h h' : Nat → Nat} (e : p ≠ q) : rf_wp (rf_wp n p h) q h' = rf_wp (rf_wp n q h') p h := by
  funext k
  unfold rf_wp
  by_cases q1 : 64 * p ≤ k ∧ k < 64 * p + 64
  · rw [if_pos q1, if_pos q1, if_neg (by omega)]
  · rw [if_neg q1, if_neg q1]
theorem rf_wp_self : rf_wp n p (fun a => n (64 * p + a)) = n := by
  funext k
  unfold rf_wp
  by_cases q : 64 * p ≤ k ∧ k < 64 * p + 64
  · rw [if_pos q]
    show n (64 * p + (k - 64 * p)) = n k
    congr 1; omega
  · rw [if_neg q]
theorem rf_wp_gself (h1 : 1 ≤ p) (h2 : p ≤ c) : rf_wp n p (rf_gb n c p) = n := by
  rw [rf_wp_congr (h' := fun a => n (64 * p + a)) (fun a ha => rf_gb_at h1 h2 ha), rf_wp_self]
theorem rf_sx_id (v : Nat) : (rf_sx v).toInt8.toInt32 = rf_sx v := by
  have h1 := rf_sx_mod v
  have : ∀ b, b < 256 → (rf_sx b).toInt8.toInt32 = rf_sx b := by decide +kernel
  rw [h1]
  exact this _ (Nat.mod_lt _ (by decide))
theorem rf_putw {b : Nat → Int32} {h : Nat → Nat} (hb : rf_pg b (rf_wp n p h)) (hc : c ≤ 24) (h1 : 1 ≤ p) (h2 : p ≤ c) {a v : Nat} (ha : a < 64) {x : Int32} (hx : x.toInt8.toInt32 = rf_sx v) :
    ∃ w, f_Pages_put (nI c) b (nI p) (nI a) x = some w ∧ rf_pg w (rf_wp n p (rf_p1 h a v)) := by
  obtain ⟨w, e1, e2⟩ := rf_put hb (c := c) (p := p) (a := a) (v := v) hc (by omega) (by omega) hx
  refine ⟨w, e1, fun k hk => ?_⟩
  rw [e2 k hk]
  congr 1
  unfold rf_pt rf_wp rf_p1
  by_cases q : k + 64 = 64 * p + a
  · rw [if_pos ⟨h1, h2, ha, q⟩, if_pos (by omega), if_pos (by omega)]
  · rw [if_neg (fun z => q z.2.2.2)]
    by_cases q2 : 64 * p ≤ k + 64 ∧ k + 64 < 64 * p + 64
    · rw [if_pos q2, if_pos q2, if_neg (by omega)]
    · rw [if_neg q2, if_neg q2]
theorem rf_mputw {b : Nat → Int32} {h : Nat → Nat} (hb : rf_md b (rf_wp n p h)) {a v : Nat} (ha : a < 64) : rf_md (upd b (64 * p + a) (nI v)) (rf_wp n p (rf_p1 h a v)) := by
  intro k hk
  by_cases q : k = 64 * p + a
  · subst q
    rw [pk_us, rf_wp_at ha]
    unfold rf_p1
    rw [if_pos rfl]
  · rw [pk_un q, hb k hk]
    congr 1
    unfold rf_wp rf_p1
    by_cases q2 : 64 * p ≤ k ∧ k < 64 * p + 64
    · rw [if_pos q2, if_pos q2, if_neg (by omega)]
    · rw [if_neg q2, if_neg q2]
theorem rf_wipe {b : Nat → Int32} (hb : rf_pg b n) (hc : c ≤ 24) (h1 : 1 ≤ p) (h2 : p ≤ c) : ∃ w, f_Pages_wipe (nI c) b (nI p) = some w ∧ rf_pg w (rf_wp n p (fun _ => 0)) := by
  have e0 : (nI p - (1 : Int32)) * (64 : Int32) = nI (64 * (p - 1)) := by
    have := rf_ix (p := p) (a := 0) h1
    rw [show nI 0 = (0 : Int32) from rfl, Int32.add_zero] at this
    exact this
  have e1 : nI (64 * (p - 1)) + (64 : Int32) = nI (64 * (p - 1) + 64) := nI_add _ 64
  have key : ∃ w, q_Arrays_fill_10 1536 (nI (64 * (p - 1) + 64)) 0 pu_fu b (nI (64 * (p - 1))) = some w ∧ rf_pg w (rf_wp n p (fun _ => 0)) := by
    refine rf_loop (fun f st i => q_Arrays_fill_10 1536 (nI (64 * (p - 1) + 64)) 0 f st (nI i)) (fun i st => 64 * (p - 1) ≤ i ∧ ∀ k, k < 1536 → st k = if 64 * (p - 1) ≤ k ∧ k < i then 0 else b k) (fun r => ∃ w, r = some w ∧ rf_pg w (rf_wp n p (fun _ => 0))) (64 * (p - 1) + 64) ?_ ?_ 64 pu_fu b (64 * (p - 1)) (by omega) (by rw [rf_fu]; omega) ⟨Nat.le_refl _, fun k _ => by rw [if_neg (by omega)]⟩
    · rintro f st ⟨_, h⟩
      refine ⟨st, ?_, fun k hk => ?_⟩
      · show q_Arrays_fill_10 1536 (nI (64 * (p - 1) + 64)) 0 (f + 1) st (nI (64 * (p - 1) + 64)) = _
        rw [q_Arrays_fill_10, pu_br_t (nI_le (Nat.le_refl _) (by omega))]
      · rw [h k hk]
        unfold rf_wp
        by_cases q : 64 * (p - 1) ≤ k ∧ k < 64 * (p - 1) + 64
        · rw [if_pos q, if_pos (by omega), rf_sx0]
        · rw [if_neg q, if_neg (by omega), hb k hk]
    · rintro f st i hi ⟨hi2, h⟩
      refine Or.inl ⟨upd st i 0, ⟨by omega, fun k hk => ?_⟩, ?_⟩
      · by_cases q : k = i
        · subst q; rw [pk_us, if_pos (by omega)]
        · rw [pk_un q, h k hk]
          by_cases q2 : 64 * (p - 1) ≤ k ∧ k < i
          · rw [if_pos q2, if_pos (by omega)]
          · rw [if_neg q2, if_neg (by omega)]
      · show q_Arrays_fill_10 1536 (nI (64 * (p - 1) + 64)) 0 (f + 1) st (nI i) = q_Arrays_fill_10 1536 (nI (64 * (p - 1) + 64)) 0 f (upd st i 0) (nI (i + 1))
        rw [q_Arrays_fill_10, pu_br_f (nI_ge hi (by omega)), pu_ck_t (vp_in_nI (by omega) (by decide)), nI_clamp (by omega), pu_nm, nI_1, pu_nm]
        rfl
  obtain ⟨w, k1, k2⟩ := key
  refine ⟨w, ?_, k2⟩
  rw [f_Pages_wipe, show (0 : Int32) = nI 0 from rfl, rf_has_in hc h1 h2 (by omega), pu_b1_s, pu_br_f (by decide), e0, pu_nm, e1, f_Arrays_fill, f_Arrays_rangeCheck, pu_br_t (nI_le (by omega) (by omega)), show (0 : Int32) = nI 0 from rfl, pu_br_t (nI_le (by omega) (by omega)), show Int32.ofNat 1536 = nI 1536 from rfl, pu_br_t (nI_le (by omega) (by omega)), pu_b0_s, show nI 0 = (0 : Int32) from rfl, k1, pu_b1_s]
theorem rf_erase {b : Nat → Int32} (hb : rf_md b n) (h2 : p ≤ 24) : ∃ w, f_MD_erase b (nI p) = some w ∧ rf_md w (rf_wp n p (fun _ => 0)) := by
  have e0 : (64 : Int32) * nI p = nI (64 * p) := pk_mul 64 p
  have e1 : nI (64 * p) + (64 : Int32) = nI (64 * p + 64) := nI_add _ 64
  rw [f_MD_erase, e0]
  refine rf_loop (fun f st i => q_MD_erase_5 (nI p) f st (nI i)) (fun i st => 64 * p ≤ i ∧ ∀ k, k < 1600 → st k = if 64 * p ≤ k ∧ k < i then 0 else b k) (fun r => ∃ w, r = some w ∧ rf_md w (rf_wp n p (fun _ => 0))) (64 * p + 64) ?_ ?_ 64 pu_fu b (64 * p) (by omega) (by rw [rf_fu]; omega) ⟨Nat.le_refl _, fun k _ => by rw [if_neg (by omega)]⟩
  · rintro f st ⟨_, h⟩
    refine ⟨st, ?_, fun k hk => ?_⟩
    · show q_MD_erase_5 (nI p) (f + 1) st (nI (64 * p + 64)) = _
      rw [q_MD_erase_5, e0, e1, pu_br_t (nI_le (Nat.le_refl _) (by omega))]
    · rw [h k hk]
      unfold rf_wp
      by_cases q : 64 * p ≤ k ∧ k < 64 * p + 64
      · rw [if_pos q, if_pos q]; rfl
      · rw [if_neg q, if_neg q, hb k hk]
  · rintro f st i hi ⟨hi2, h⟩
    refine Or.inl ⟨upd st i 0, ⟨by omega, fun k hk => ?_⟩, ?_⟩
    · by_cases q : k = i
      · subst q; rw [pk_us, if_pos (by omega)]
      · rw [pk_un q, h k hk]
        by_cases q2 : 64 * p ≤ k ∧ k < i
        · rw [if_pos q2, if_pos (by omega)]
        · rw [if_neg q2, if_neg (by omega)]
    · show q_MD_erase_5 (nI p) (f + 1) st (nI i) = q_MD_erase_5 (nI p) f (upd st i 0) (nI (i + 1))
      rw [q_MD_erase_5, e0, e1, pu_br_f (nI_ge hi (by omega)), pu_ck_t (vp_in_nI (by omega) (by decide)), nI_clamp (by omega), pu_nm, nI_1, pu_nm]
/-- the node in hand, by its cells -/
def rf_nx (M : Nat) (ln : Nat → Nat) (cb : Nat → Nat → Nat) (cnt : Int32) (b starts sizes : Nat → Int32) : Prop :=
  M ≤ 31 ∧ cnt = nI M ∧ ∀ i, i < M → ∃ s, starts i = nI s ∧ sizes i = nI (ln i) ∧ s + ln i ≤ 96 ∧ ∀ k, k < ln i → b (s + k) = rf_sx (cb i k)
theorem rf_nd_nx {g : Nat → Nat} {cnt leaf : Int32} {b starts sizes : Nat → Int32} (h : rf_nd g cnt leaf b starts sizes) : rf_nx (g 1) (rf_cln g) (rf_ccb g) cnt b starts sizes := by
  obtain ⟨h1, h2, h3, h4, h5, h6⟩ := h
  have h30 := h1.2.2.2.1
  refine ⟨by omega, h5, fun i hi => ?_⟩
  have hs := rf_nd_st h1 hi
  refine ⟨rf_st g (i + 1), (h6 i hi).1, (h6 i hi).2, ?_, fun k hk => ?_⟩
  · unfold rf_cln; omega
  · unfold rf_cln at hk
    rw [h3 _ (by omega)]
    rfl
/-- a cell half written -/
def rf_pk (kd m la : Nat) (ln : Nat → Nat) (cb : Nat → Nat → Nat) (i k : Nat) : Nat → Nat := fun a => if a = 4 + i then 64 - rf_su ln (i + 1) else if 64 - rf_su ln (i + 1) ≤ a ∧ a < 64 - rf_su ln (i + 1) + k then cb i (a - (64 - rf_su ln (i + 1))) else rf_pw kd m la ln cb i a
variable {kd m la : Nat} {ln : Nat → Nat} {cb : Nat → Nat → Nat}
theorem rf_pk_0 {i a : Nat} : rf_pk kd m la ln cb i 0 a = rf_p1 (rf_pw kd m la ln cb i) (4 + i) (64 - rf_su ln (i + 1)) a := by
  unfold rf_pk rf_p1
  by_cases e : a = 4 + i
  · rw [if_pos e, if_pos e]
  · rw [if_neg e, if_neg e, if_neg (by omega)]
theorem rf_pk_s {i k a : Nat} (hr : 4 + i + 1 + rf_su ln (i + 1) ≤ 64) : rf_pk kd m la ln cb i (k + 1) a = rf_p1 (rf_pk kd m la ln cb i k) (64 - rf_su ln (i + 1) + k) (cb i k) a := by
  unfold rf_pk rf_p1
  dsimp only
  by_cases e : a = 4 + i
  · rw [if_pos e, if_neg (by omega), if_pos e]
  · rw [if_neg e, if_neg e]
    by_cases e2 : a = 64 - rf_su ln (i + 1) + k
    · rw [if_pos e2, if_pos (by omega)]
      congr 1; omega
    · rw [if_neg e2]
      by_cases e3 : 64 - rf_su ln (i + 1) ≤ a ∧ a < 64 - rf_su ln (i + 1) + k
      · rw [if_pos e3, if_pos (by omega)]
      · rw [if_neg e3, if_neg (by omega)]
theorem rf_pk_e {i a : Nat} (hr : 4 + i + 1 + rf_su ln (i + 1) ≤ 64) : rf_pk kd m la ln cb i (ln i) a = rf_pw kd m la ln cb (i + 1) a := by
  have h3 : rf_su ln (i + 1) = rf_su ln i + ln i := rfl
  unfold rf_pk rf_pw
  rw [rf_by]
  by_cases e : a = 4 + i
  · rw [if_pos e, if_neg (by omega), if_neg (by omega), if_neg (by omega), if_neg (by omega), if_pos (by omega)]
    congr 2; omega
  rw [if_neg e]
  by_cases e2 : 64 - rf_su ln (i + 1) ≤ a ∧ a < 64 - rf_su ln i
  · rw [if_pos (by omega), if_neg (by omega), if_neg (by omega), if_neg (by omega), if_neg (by omega), if_neg (by omega), if_pos e2]
  · rw [if_neg (show ¬ (64 - rf_su ln (i + 1) ≤ a ∧ a < 64 - rf_su ln (i + 1) + ln i) by omega), if_neg e2]
    by_cases e3 : a < 4 + i
    · rw [if_pos e3, if_pos (show a < 4 + (i + 1) by omega)]
    · rw [if_neg e3, if_neg (show ¬ a < 4 + (i + 1) by omega)]
/-- Node.store: cells f0 .. f0 + m - 1 -/
theorem rf_store {M f0 : Nat} {LN : Nat → Nat} {CB : Nat → Nat → Nat} {cnt leaf : Int32} {nb st sz b : Nat → Int32} (hx : rf_nx M LN CB cnt nb st sz) (hf : f0 + m ≤ M) (hkd : (leaf = 0 ∧ kd = 5) ∨ (leaf = 1 ∧ kd = 13)) (hb : rf_pg b n) (hc : c ≤ 24) (h1 : 1 ≤ p) (h2 : p ≤ c)
    (hr : 4 + m + rf_su (fun i => LN (f0 + i)) m ≤ 64) (hla : la < 256) :
    ∃ w, f_Node_store cnt leaf nb st sz (nI c) b (nI p) (nI f0) (nI (f0 + m)) (nI la) = some w ∧ rf_pg w (rf_wp n p (rf_mk kd m la (fun i => LN (f0 + i)) (fun i => CB (f0 + i)))) := by
  obtain ⟨hM, hcn, hcell⟩ := hx
  subst hcn
  generalize hln : (fun i => LN (f0 + i)) = ln at hr ⊢
  generalize hcb : (fun i => CB (f0 + i)) = cb
  have hlni : ∀ i, ln i = LN (f0 + i) := fun i => by rw [← hln]
  have hcbi : ∀ i, cb i = CB (f0 + i) := fun i => by rw [← hcb]
  have hsu : ∀ i, i < m → 4 + i + 1 + rf_su ln (i + 1) ≤ 64 := by
    intro i hi
    have : rf_su ln (i + 1) ≤ rf_su ln m := rf_su_le_of (by omega)
    omega
  -- the bytes of one cell
  have inner : ∀ i, i < m → ∀ (kx : (Nat → Int32) → Option (Nat → Int32)) w, rf_pg w (rf_wp n p (rf_pk kd m la ln cb i 0)) →
      ∃ w', q_Node_store_93 kx (nI M) leaf nb st sz (nI c) (nI p) (nI f0) (nI (f0 + m)) (nI (64 - rf_su ln (i + 1))) (nI (f0 + i)) pu_fu w 0 = kx w' ∧ rf_pg w' (rf_wp n p (rf_pw kd m la ln cb (i + 1))) := by
    intro i hi kx w hw
    obtain ⟨s, k1, k2, k3, k4⟩ := hcell (f0 + i) (by omega)
    have h3 : rf_su ln (i + 1) = rf_su ln i + ln i := rfl
    have hsi := hsu i hi
    rw [← hlni] at k2 k3 k4
    rw [← hcbi] at k4
    refine rf_loop (fun f x k => q_Node_store_93 kx (nI M) leaf nb st sz (nI c) (nI p) (nI f0) (nI (f0 + m)) (nI (64 - rf_su ln (i + 1))) (nI (f0 + i)) f x (nI k)) (fun k x => rf_pg x (rf_wp n p (rf_pk kd m la ln cb i k))) (fun r => ∃ w', r = kx w' ∧ rf_pg w' (rf_wp n p (rf_pw kd m la ln cb (i + 1)))) (ln i) ?_ ?_ (ln i) pu_fu w 0 (by omega) (by rw [rf_fu]; omega) hw
    · intro f x hh
      refine ⟨x, ?_, ?_⟩
      · show q_Node_store_93 kx (nI M) leaf nb st sz (nI c) (nI p) (nI f0) (nI (f0 + m)) (nI (64 - rf_su ln (i + 1))) (nI (f0 + i)) (f + 1) x (nI (ln i)) = _
        rw [q_Node_store_93, pu_ck_t (vp_in_nI (by omega) (by decide)), nI_clamp (by omega), k2, pu_br_t (nI_le (Nat.le_refl _) (by omega))]
      · rw [rf_wp_congr (h' := rf_pk kd m la ln cb i (ln i)) (fun a _ => (rf_pk_e hsi).symm)]
        exact hh
    · intro f x k hk hh
      obtain ⟨w', q1, q2⟩ := rf_putw hh (a := 64 - rf_su ln (i + 1) + k) (v := cb i k) hc h1 h2 (by omega) (rf_sx_id _)
      refine Or.inl ⟨w', ?_, ?_⟩
      · rw [rf_wp_congr (fun a _ => rf_pk_s hsi)]
        exact q2
      · show q_Node_store_93 kx (nI M) leaf nb st sz (nI c) (nI p) (nI f0) (nI (f0 + m)) (nI (64 - rf_su ln (i + 1))) (nI (f0 + i)) (f + 1) x (nI k) = q_Node_store_93 kx (nI M) leaf nb st sz (nI c) (nI p) (nI f0) (nI (f0 + m)) (nI (64 - rf_su ln (i + 1))) (nI (f0 + i)) f w' (nI (k + 1))
        have i31 : vp_in (nI (f0 + i)) 31 := vp_in_nI (by omega) (by decide)
        rw [q_Node_store_93, pu_ck_t i31, nI_clamp (by omega), k2, pu_br_f (nI_ge hk (by omega)), pu_ck_t i31, k1, nI_add, pu_ck_t (vp_in_nI (by omega) (by decide)), nI_clamp (by omega), k4 k hk, nI_add, q1, pu_b1_s, nI_1, pu_nm]
  -- the cells
  have outer : ∀ w, rf_pg w (rf_wp n p (rf_pw kd m la ln cb 0)) → ∃ w', q_Node_store_49 (nI M) leaf nb st sz (nI c) (nI p) (nI f0) (nI (f0 + m)) pu_fu w 64 (nI f0) = some w' ∧ rf_pg w' (rf_wp n p (rf_mk kd m la ln cb)) := by
    intro w hw
    refine rf_loop (fun f (x : (Nat → Int32) × Int32) i => q_Node_store_49 (nI M) leaf nb st sz (nI c) (nI p) (nI f0) (nI (f0 + m)) f x.1 x.2 (nI (f0 + i))) (fun i x => rf_pg x.1 (rf_wp n p (rf_pw kd m la ln cb i)) ∧ x.2 = nI (64 - rf_su ln i)) (fun r => ∃ w', r = some w' ∧ rf_pg w' (rf_wp n p (rf_mk kd m la ln cb))) m ?_ ?_ m pu_fu (w, 64) 0 (by omega) (by rw [rf_fu]; omega) ⟨hw, rfl⟩
    · rintro f ⟨x, y⟩ ⟨hh, _⟩
      refine ⟨x, ?_, hh⟩
      show q_Node_store_49 (nI M) leaf nb st sz (nI c) (nI p) (nI f0) (nI (f0 + m)) (f + 1) x y (nI (f0 + m)) = _
      rw [q_Node_store_49, pu_br_t (nI_le (Nat.le_refl _) (by omega))]
    · rintro f ⟨x, y⟩ i hi ⟨hh, hy⟩
      dsimp only at hh hy
      subst hy
      have hsi := hsu i hi
      have h3 : rf_su ln (i + 1) = rf_su ln i + ln i := rfl
      obtain ⟨s, k1, k2, k3, k4⟩ := hcell (f0 + i) (by omega)
      rw [← hlni] at k2
      have e1 : nI (64 - rf_su ln i) - nI (ln i) = nI (64 - rf_su ln (i + 1)) := by
        rw [pk_sub (by omega)]; congr 1; omega
      have e2 : ((4 : Int32) + nI (f0 + i)) - nI f0 = nI (4 + i) := by
        rw [show (4 : Int32) + nI (f0 + i) = nI (4 + (f0 + i)) from nI_add 4 _, pk_sub (by omega)]; congr 1; omega
      obtain ⟨w1, q1, q2⟩ := rf_putw hh (a := 4 + i) (v := 64 - rf_su ln (i + 1)) (x := nI (64 - rf_su ln (i + 1))) hc h1 h2 (by omega) rfl
      rw [← rf_wp_congr (fun a _ => rf_pk_0)] at q2
      obtain ⟨w2, q3, q4⟩ := inner i hi (fun v_p1_bytes => q_Node_store_136 (q_Node_store_49 (nI M) leaf nb st sz (nI c) (nI p) (nI f0) (nI (f0 + m)) f) (nI M) leaf nb st sz (nI c) v_p1_bytes (nI p) (nI f0) (nI (f0 + m)) (nI (64 - rf_su ln (i + 1))) (nI (f0 + i))) w1 q2
      refine Or.inl ⟨(w2, nI (64 - rf_su ln (i + 1))), ⟨q4, rfl⟩, ?_⟩
      show q_Node_store_49 (nI M) leaf nb st sz (nI c) (nI p) (nI f0) (nI (f0 + m)) (f + 1) x (nI (64 - rf_su ln i)) (nI (f0 + i)) = q_Node_store_49 (nI M) leaf nb st sz (nI c) (nI p) (nI f0) (nI (f0 + m)) f w2 (nI (64 - rf_su ln (i + 1))) (nI (f0 + (i + 1)))
      rw [q_Node_store_49, pu_br_f (nI_ge (by omega) (by omega)), rf_hasCell (by omega) (by omega), if_pos (by omega), pu_b1_s, pu_br_f (by decide), pu_ck_t (vp_in_nI (by omega) (by decide)), nI_clamp (by omega), k2, e1, pu_nm, e2, q1, pu_b1_s, q3, q_Node_store_136, nI_1, pu_nm]
      rfl
  obtain ⟨w0, q0, r0⟩ := rf_wipe hb hc h1 h2
  have tail : ∀ x : Int32, x = nI kd → ∃ w, q_Node_store_21 (nI M) leaf nb st sz (nI c) w0 (nI p) (nI f0) (nI (f0 + m)) (nI la) (nI p) 0 x = some w ∧ rf_pg w (rf_wp n p (rf_mk kd m la ln cb)) := by
    intro x hx
    subst hx
    obtain ⟨w1, q1, r1⟩ := rf_putw r0 (a := 0) (v := kd) (x := nI kd) hc h1 h2 (by omega) rfl
    obtain ⟨w2, q2, r2⟩ := rf_putw r1 (a := 1) (v := m) (x := nI m) hc h1 h2 (by omega) rfl
    obtain ⟨w3, q3, r3⟩ := rf_putw r2 (a := 2) (v := la) (x := nI la) hc h1 h2 (by omega) rfl
    obtain ⟨w4, q4, r4⟩ := outer w3 (by
      rw [rf_wp_congr (h' := rf_p1 (rf_p1 (rf_p1 (fun _ => 0) 0 kd) 1 m) 2 la) (fun a _ => ?_)]
      · exact r3
      · unfold rf_pw rf_p1
        by_cases e0 : a = 0
        · rw [if_pos e0, if_neg (by omega), if_neg (by omega), if_pos e0]
        by_cases e1 : a = 1
        · rw [if_neg e0, if_pos e1, if_neg (by omega), if_pos e1]
        by_cases e2 : a = 2
        · rw [if_neg e0, if_neg e1, if_pos e2, if_pos e2]
        rw [if_neg e0, if_neg e1, if_neg e2, if_neg e2, if_neg e1, if_neg e0]
        by_cases e3 : a = 3
        · rw [if_pos e3]
        · rw [if_neg e3, if_neg (by omega)]; rfl)
    refine ⟨w4, ?_, r4⟩
    rw [q_Node_store_21, show (0 : Int32) = nI 0 from rfl, q1, pu_b1_s, pk_sub (show f0 ≤ f0 + m by omega), show f0 + m - f0 = m by omega, show (1 : Int32) = nI 1 from rfl, q2, pu_b1_s, show (2 : Int32) = nI 2 from rfl, q3, pu_b1_s, q4]
  rcases hkd with ⟨hl, hk⟩ | ⟨hl, hk⟩
  · obtain ⟨w, t1, t2⟩ := tail 5 (by rw [hk]; rfl)
    refine ⟨w, ?_, t2⟩
    rw [f_Node_store, q0, pu_b1_s, pu_br_t hl, t1]
  · obtain ⟨w, t1, t2⟩ := tail 13 (by rw [hk]; rfl)
    refine ⟨w, ?_, t2⟩
    rw [f_Node_store, q0, pu_b1_s, pu_br_f (by rw [hl]; decide), t1]
/-- the reference's cells -/
def rf_ry (M : Nat) (ln : Nat → Nat) (cb : Nat → Nat → Nat) (cl row : Nat → Int32) : Prop :=
  ∀ i, i < M → cl i = nI (ln i) ∧ ∀ k, k < ln i → row (rf_su ln i + k) = nI (cb i k)
theorem rf_mstart {M : Nat} {cl : Nat → Int32} (hl : ∀ i, i < M → cl i = nI (ln i)) (hM : M ≤ 80) {i : Nat} (hi : i ≤ M) : f_MD_start cl (nI i) = some (nI (rf_su ln i)) := by
  rw [f_MD_start]
  refine rf_loop (fun f x j => q_MD_start_4 cl (nI i) f x (nI j)) (fun j x => x = nI (rf_su ln j)) (fun r => r = some (nI (rf_su ln i))) i ?_ ?_ i pu_fu 0 0 (by omega) (by rw [rf_fu]; omega) rfl
  · intro f x h
    show q_MD_start_4 cl (nI i) (f + 1) x (nI i) = _
    rw [q_MD_start_4, pu_br_t (nI_le (Nat.le_refl _) (by omega)), h]
  · intro f x j hj h
    refine Or.inl ⟨nI (rf_su ln (j + 1)), rfl, ?_⟩
    show q_MD_start_4 cl (nI i) (f + 1) x (nI j) = q_MD_start_4 cl (nI i) f (nI (rf_su ln (j + 1))) (nI (j + 1))
    rw [q_MD_start_4, pu_br_f (nI_ge hj (by omega)), pu_ck_t (vp_in_nI (by omega) (by decide)), nI_clamp (by omega), hl j (by omega), h, nI_add, pu_nm, nI_1, pu_nm]
    rfl
/-- MD.put: cells f0 .. f0 + m - 1 -/
theorem rf_mput {M f0 : Nat} {LN : Nat → Nat} {CB : Nat → Nat → Nat} {cl row b : Nat → Int32} (hx : rf_ry M LN CB cl row) (hM : M ≤ 80) (hR : rf_su LN M ≤ 2000) (hf : f0 + m ≤ M) (hb : rf_md b n) (h2 : p ≤ 24)
    (hr : 4 + m + rf_su (fun i => LN (f0 + i)) m ≤ 64) :
    ∃ w, f_MD_put (nI kd) cl row b (nI p) (nI f0) (nI m) (nI la) = some w ∧ rf_md w (rf_wp n p (rf_mk kd m la (fun i => LN (f0 + i)) (fun i => CB (f0 + i)))) := by
  generalize hln : (fun i => LN (f0 + i)) = ln at hr ⊢
  generalize hcb : (fun i => CB (f0 + i)) = cb
  have hlni : ∀ i, ln i = LN (f0 + i) := fun i => by rw [← hln]
  have hcbi : ∀ i, cb i = CB (f0 + i) := fun i => by rw [← hcb]
  have e0 : (64 : Int32) * nI p = nI (64 * p) := pk_mul 64 p
  have hsu : ∀ i, i < m → 4 + i + 1 + rf_su ln (i + 1) ≤ 64 := by
    intro i hi
    have : rf_su ln (i + 1) ≤ rf_su ln m := rf_su_le_of (by omega)
    omega
  have inner : ∀ i, i < m → ∀ (kx : (Nat → Int32) → Option (Nat → Int32)) w, rf_md w (rf_wp n p (rf_pk kd m la ln cb i 0)) →
      ∃ w', q_MD_put_89 kx (nI kd) cl row (nI p) (nI f0) (nI m) (nI (64 - rf_su ln (i + 1))) (nI i) pu_fu w 0 = kx w' ∧ rf_md w' (rf_wp n p (rf_pw kd m la ln cb (i + 1))) := by
    intro i hi kx w hw
    obtain ⟨k2, k4⟩ := hx (f0 + i) (by omega)
    have h3 : rf_su ln (i + 1) = rf_su ln i + ln i := rfl
    have h4 : rf_su LN (f0 + i + 1) = rf_su LN (f0 + i) + LN (f0 + i) := rfl
    have h5 : rf_su LN (f0 + i + 1) ≤ rf_su LN M := rf_su_le_of (by omega)
    have hsi := hsu i hi
    rw [← hlni] at k2 k4 h4
    rw [← hcbi] at k4
    refine rf_loop (fun f x k => q_MD_put_89 kx (nI kd) cl row (nI p) (nI f0) (nI m) (nI (64 - rf_su ln (i + 1))) (nI i) f x (nI k)) (fun k x => rf_md x (rf_wp n p (rf_pk kd m la ln cb i k))) (fun r => ∃ w', r = kx w' ∧ rf_md w' (rf_wp n p (rf_pw kd m la ln cb (i + 1)))) (ln i) ?_ ?_ (ln i) pu_fu w 0 (by omega) (by rw [rf_fu]; omega) hw
    · intro f x hh
      refine ⟨x, ?_, ?_⟩
      · show q_MD_put_89 kx (nI kd) cl row (nI p) (nI f0) (nI m) (nI (64 - rf_su ln (i + 1))) (nI i) (f + 1) x (nI (ln i)) = _
        rw [q_MD_put_89, nI_add, pu_ck_t (vp_in_nI (by omega) (by decide)), nI_clamp (by omega), k2, pu_br_t (nI_le (Nat.le_refl _) (by omega))]
      · rw [rf_wp_congr (h' := rf_pk kd m la ln cb i (ln i)) (fun a _ => (rf_pk_e hsi).symm)]
        exact hh
    · intro f x k hk hh
      have q2 := rf_mputw hh (a := 64 - rf_su ln (i + 1) + k) (v := cb i k) (by omega)
      refine Or.inl ⟨upd x (64 * p + (64 - rf_su ln (i + 1) + k)) (nI (cb i k)), ?_, ?_⟩
      · rw [rf_wp_congr (fun a _ => rf_pk_s hsi)]
        exact q2
      · show q_MD_put_89 kx (nI kd) cl row (nI p) (nI f0) (nI m) (nI (64 - rf_su ln (i + 1))) (nI i) (f + 1) x (nI k) = q_MD_put_89 kx (nI kd) cl row (nI p) (nI f0) (nI m) (nI (64 - rf_su ln (i + 1))) (nI i) f (upd x (64 * p + (64 - rf_su ln (i + 1) + k)) (nI (cb i k))) (nI (k + 1))
        rw [q_MD_put_89, nI_add, pu_ck_t (vp_in_nI (by omega) (by decide)), nI_clamp (by omega), k2, pu_br_f (nI_ge hk (by omega)), rf_mstart (M := M) (fun i hi => (hx i hi).1) hM (by omega), pu_b1_s, nI_add, pu_ck_t (vp_in_nI (by omega) (by decide)), nI_clamp (by omega), k4 k hk, e0, nI_add, nI_add, pu_ck_t (vp_in_nI (by omega) (by decide)), nI_clamp (by omega), pu_nm, nI_1, pu_nm, Nat.add_assoc (64 * p)]
  have outer : ∀ w, rf_md w (rf_wp n p (rf_pw kd m la ln cb 0)) → ∃ w', q_MD_put_50 (nI kd) cl row (nI p) (nI f0) (nI m) pu_fu w 64 0 = some w' ∧ rf_md w' (rf_wp n p (rf_mk kd m la ln cb)) := by
    intro w hw
    refine rf_loop (fun f (x : (Nat → Int32) × Int32) i => q_MD_put_50 (nI kd) cl row (nI p) (nI f0) (nI m) f x.1 x.2 (nI i)) (fun i x => rf_md x.1 (rf_wp n p (rf_pw kd m la ln cb i)) ∧ x.2 = nI (64 - rf_su ln i)) (fun r => ∃ w', r = some w' ∧ rf_md w' (rf_wp n p (rf_mk kd m la ln cb))) m ?_ ?_ m pu_fu (w, 64) 0 (by omega) (by rw [rf_fu]; omega) ⟨hw, rfl⟩
    · rintro f ⟨x, y⟩ ⟨hh, _⟩
      refine ⟨x, ?_, hh⟩
      show q_MD_put_50 (nI kd) cl row (nI p) (nI f0) (nI m) (f + 1) x y (nI m) = _
      rw [q_MD_put_50, pu_br_t (nI_le (Nat.le_refl _) (by omega))]
    · rintro f ⟨x, y⟩ i hi ⟨hh, hy⟩
      dsimp only at hh hy
      subst hy
      have hsi := hsu i hi
      have h3 : rf_su ln (i + 1) = rf_su ln i + ln i := rfl
      obtain ⟨k2, k4⟩ := hx (f0 + i) (by omega)
      rw [← hlni] at k2
      have e1 : nI (64 - rf_su ln i) - nI (ln i) = nI (64 - rf_su ln (i + 1)) := by
        rw [pk_sub (by omega)]; congr 1; omega
      have q2 := rf_mputw hh (a := 4 + i) (v := 64 - rf_su ln (i + 1)) (by omega)
      rw [← rf_wp_congr (fun a _ => rf_pk_0)] at q2
      obtain ⟨w2, q3, q4⟩ := inner i hi (fun v_now => q_MD_put_140 (q_MD_put_50 (nI kd) cl row (nI p) (nI f0) (nI m) f) (nI kd) cl row v_now (nI p) (nI f0) (nI m) (nI (64 - rf_su ln (i + 1))) (nI i)) (upd x (64 * p + (4 + i)) (nI (64 - rf_su ln (i + 1)))) q2
      refine Or.inl ⟨(w2, nI (64 - rf_su ln (i + 1))), ⟨q4, rfl⟩, ?_⟩
      show q_MD_put_50 (nI kd) cl row (nI p) (nI f0) (nI m) (f + 1) x (nI (64 - rf_su ln i)) (nI i) = q_MD_put_50 (nI kd) cl row (nI p) (nI f0) (nI m) f w2 (nI (64 - rf_su ln (i + 1))) (nI (i + 1))
      rw [q_MD_put_50, pu_br_f (nI_ge (by omega) (by omega)), nI_add, pu_ck_t (vp_in_nI (by omega) (by decide)), nI_clamp (by omega), k2, e1, pu_nm, e0, show nI (64 * p) + (4 : Int32) = nI (64 * p + 4) from nI_add _ 4, nI_add, pu_ck_t (vp_in_nI (by omega) (by decide)), nI_clamp (by omega), pu_nm, Nat.add_assoc (64 * p), q3, q_MD_put_140, nI_1, pu_nm]
  obtain ⟨w0, q0, r0⟩ := rf_erase hb h2
  have r1 := rf_mputw r0 (a := 0) (v := kd) (by omega)
  have r2 := rf_mputw r1 (a := 1) (v := m) (by omega)
  have r3 := rf_mputw r2 (a := 2) (v := la) (by omega)
  obtain ⟨w4, q4, r4⟩ := outer _ (by
      rw [rf_wp_congr (h' := rf_p1 (rf_p1 (rf_p1 (fun _ => 0) 0 kd) 1 m) 2 la) (fun a _ => ?_)]
      · exact r3
      · unfold rf_pw rf_p1
        by_cases e0 : a = 0
        · rw [if_pos e0, if_neg (by omega), if_neg (by omega), if_pos e0]
        by_cases e1 : a = 1
        · rw [if_neg e0, if_pos e1, if_neg (by omega), if_pos e1]
        by_cases e2 : a = 2
        · rw [if_neg e0, if_neg e1, if_pos e2, if_pos e2]
        rw [if_neg e0, if_neg e1, if_neg e2, if_neg e2, if_neg e1, if_neg e0]
        by_cases e3 : a = 3
        · rw [if_pos e3]
        · rw [if_neg e3, if_neg (by omega)]; rfl)
  refine ⟨w4, ?_, r4⟩
  rw [f_MD_put, q0, pu_b1_s, e0, pu_ck_t (vp_in_nI (by omega) (by decide)), nI_clamp (by omega), pu_nm, show nI (64 * p) + (1 : Int32) = nI (64 * p + 1) from nI_add _ 1, pu_ck_t (vp_in_nI (by omega) (by decide)), nI_clamp (by omega), pu_nm, show nI (64 * p) + (2 : Int32) = nI (64 * p + 2) from nI_add _ 2, pu_ck_t (vp_in_nI (by omega) (by decide)), nI_clamp (by omega), pu_nm]
  exact q4
end RFST
