section RFLC
variable {r : Nat → Nat} {L kk f : Nat}
/-- the cell of a row in a leaf -/
def rf_lcb (r : Nat → Nat) (L kk f : Nat) : Nat → Nat := fun k => if k < rf_vz L then rf_ve L k else if k < rf_vz L + rf_vz kk then rf_ve kk (k - rf_vz L) else if k < rf_vz L + rf_vz kk + rf_sil L then r (k - (rf_vz L + rf_vz kk)) else f
def rf_lcl (L kk : Nat) : Nat := rf_vz L + rf_vz kk + rf_sil L + (if L ≤ 24 then 0 else 1)
theorem rf_sil_le : rf_sil L ≤ 24 := by unfold rf_sil; split <;> omega
theorem rf_lcl_le (hL : L ≤ 307) : rf_lcl L kk ≤ 28 ∧ 1 ≤ rf_lcl L kk := by
  have a := rf_vz_le kk
  unfold rf_lcl rf_sil
  by_cases e : L ≤ 24
  · rw [if_pos e, if_pos e]
    have : rf_vz L = 1 := by unfold rf_vz; rw [if_pos (by omega)]
    omega
  · rw [if_neg e, if_neg e]
    have b : rf_vz L ≤ 2 := by
      unfold rf_vz
      by_cases c1 : L < 128
      · rw [if_pos c1]; omega
      · rw [if_neg c1, if_pos (by omega)]; omega
    omega
theorem rf_lcb_lt (hr : ∀ k, r k < 256) (hf : f < 256) (k : Nat) : rf_lcb r L kk f k < 256 := by
  unfold rf_lcb
  repeat' split
  all_goals first | exact rf_ve_lt _ _ | exact hr _ | exact hf
theorem rf_lcb_0 {k : Nat} (h : k < rf_vz L) : rf_lcb r L kk f k = rf_ve L k := by unfold rf_lcb; rw [if_pos h]
theorem rf_lcb_1 {k : Nat} (h : k < rf_vz kk) : rf_lcb r L kk f (rf_vz L + k) = rf_ve kk k := by unfold rf_lcb; rw [if_neg (by omega), if_pos (by omega), Nat.add_sub_cancel_left]
theorem rf_lcb_2 {k : Nat} (h : k < rf_sil L) : rf_lcb r L kk f (rf_vz L + rf_vz kk + k) = r k := by unfold rf_lcb; rw [if_neg (by omega), if_neg (by omega), if_pos (by omega), Nat.add_sub_cancel_left]
theorem rf_lcb_3 : rf_lcb r L kk f (rf_vz L + rf_vz kk + rf_sil L) = f := by unfold rf_lcb; rw [if_neg (by omega), if_neg (by omega), if_neg (by omega)]
/-- the class makes it -/
theorem rf_leafCell {rb cell : Nat → Int32} (hL : L ≤ 307) (hk : kk < 2097152) (hrb : ∀ a, a < L → rb a = rf_sx (r a)) (hf : (L ≤ 24 ∧ f = 0) ∨ (24 < L ∧ 1 ≤ f ∧ f < 256)) (cs : Int32) :
    ∃ w, f_Tree_makeLeafCell (nI L) rb cs cell (nI kk) (nI f) = some (nI (rf_lcl L kk), w) ∧ ∀ k, k < rf_lcl L kk → w k = rf_sx (rf_lcb r L kk f k) := by
  have z1 := rf_vz_le L
  have z2 := rf_vz_le kk
  have s24 := rf_sil_le (L := L)
  have hll := (rf_lcl_le (kk := kk) hL).1
  have hsl : rf_sil L ≤ L := by unfold rf_sil; split <;> omega
  obtain ⟨w1, q1, a1, a2⟩ := rf_writeVarint (N := 32) (b := cell) (s := 0) (v := L) (by omega) (by omega) (by omega)
  obtain ⟨w2, q2, b1, b2⟩ := rf_writeVarint (N := 32) (b := w1) (s := rf_vz L) (v := kk) hk (by omega) (by omega)
  rw [Nat.zero_add] at q1
  have pre : ∀ k, k < rf_vz L + rf_vz kk + rf_sil L → va_cpy rb w2 0 (rf_vz L + rf_vz kk) (rf_sil L) k = rf_sx (rf_lcb r L kk f k) := by
    intro k hk
    by_cases e : k < rf_vz L + rf_vz kk
    · rw [pk_cpy_out (Or.inl e)]
      by_cases e2 : k < rf_vz L
      · rw [b2 k (Or.inl e2)]
        have := a1 k e2
        rw [Nat.zero_add] at this
        rw [this, rf_lcb_0 e2]
      · obtain ⟨t, rfl⟩ : ∃ t, k = rf_vz L + t := ⟨k - rf_vz L, by omega⟩
        rw [b1 t (by omega), rf_lcb_1 (by omega)]
    · obtain ⟨t, rfl⟩ : ∃ t, k = rf_vz L + rf_vz kk + t := ⟨k - (rf_vz L + rf_vz kk), by omega⟩
      rw [pk_cpy_in (by omega) (by omega), Nat.add_sub_cancel_left, Nat.zero_add, hrb t (by omega), rf_lcb_2 (by omega)]
  have head : ∀ q, pu_br (nI f = 0) (some (nI (rf_vz L + rf_vz kk + rf_sil L), va_cpy rb w2 0 (rf_vz L + rf_vz kk) (rf_sil L))) (pu_ck (vp_in (nI (rf_vz L + rf_vz kk + rf_sil L)) 32) (pu_nm (upd (va_cpy rb w2 0 (rf_vz L + rf_vz kk) (rf_sil L)) (nI (rf_vz L + rf_vz kk + rf_sil L)).toNatClampNeg (vp_nar .byte (nI f).toInt8.toInt32)) (fun a8 => pu_nm (nI (rf_vz L + rf_vz kk + rf_sil L) + 1) (fun t9 => some (t9, a8))))) = q → f_Tree_makeLeafCell (nI L) rb cs cell (nI kk) (nI f) = q := by
    intro q hq
    have lt32 : rf_vz L + rf_vz kk + rf_sil L < 32 := by unfold rf_lcl at hll; omega
    rw [f_Tree_makeLeafCell, rf_sizeInLeaf (by omega), pu_b1_s, show (0 : Int32) = nI 0 from rfl, q1, pu_b2_s, q2, pu_b2_s, pu_br_f (nI_nlt (by omega) (by omega)), nI_add, pu_br_t (show nI (rf_vz L + rf_vz kk + rf_sil L) < (32 : Int32) from nI_lt (b := 32) lt32 (by omega)), pu_ck_t (rf_cpyok (by omega) (by omega) (by decide) (by decide) (fun i hi => ⟨r i, by rw [Nat.zero_add]; exact hrb i (by omega)⟩)), nI_clamp (n := 0) (by omega), nI_clamp (n := rf_vz L + rf_vz kk) (by omega), nI_clamp (n := rf_sil L) (by omega), pu_nm, pu_nm]
    exact hq
  rcases hf with ⟨e1, e2⟩ | ⟨e1, e2, e3⟩
  · have el : rf_lcl L kk = rf_vz L + rf_vz kk + rf_sil L := by unfold rf_lcl; rw [if_pos e1, Nat.add_zero]
    refine ⟨_, head _ ?_, by rw [el]; exact pre⟩
    rw [pu_br_t (show nI f = (0 : Int32) by rw [e2]; rfl), el]
  · have el : rf_lcl L kk = rf_vz L + rf_vz kk + rf_sil L + 1 := by unfold rf_lcl; rw [if_neg (by omega)]
    refine ⟨upd (va_cpy rb w2 0 (rf_vz L + rf_vz kk) (rf_sil L)) (rf_vz L + rf_vz kk + rf_sil L) (rf_sx f), head _ ?_, fun k hk => ?_⟩
    · rw [pu_br_f (nI_ne0 e2 (by omega)), pu_ck_t (vp_in_nI (by omega) (by decide)), nI_clamp (by omega), rf_nar_sx, pu_nm, nI_1, pu_nm, el]
    · by_cases e : k = rf_vz L + rf_vz kk + rf_sil L
      · rw [e, pk_us, rf_lcb_3]
      · rw [pk_un e]; exact pre k (by omega)
/-- the reference makes it -/
theorem rf_mleaf (hL : L ≤ 307) (hf : (L ≤ 24 ∧ f = 0) ∨ (24 < L ∧ 1 ≤ f ∧ f < 256)) {cell rec : Nat → Int32} (hrec : ∀ a, a < L → rec a = nI (r a)) (hc : ∀ k, k < rf_vz L + rf_vz kk → cell k = nI (rf_lcb r L kk f k)) (up cols : Int32) (isb : Nat → Int32) (int : Nat → Int64) (size blobs : Nat → Int32) (len kind cells last made deep at' bad : Int32) (now before cl row way turn : Nat → Int32) (x1 : Int32) :
    ∃ w, q_MD_insert_125 up cols isb int size blobs len kind cells last made deep at' bad now before rec cl row cell way turn x1 (nI f) (nI (rf_vz L + rf_vz kk)) (nI (rf_sil L)) = q_MD_insert_191 up cols isb int size blobs len kind cells last (nI (rf_lcl L kk)) deep at' bad now before rec cl row w way turn x1 ∧ ∀ k, k < rf_lcl L kk → w k = nI (rf_lcb r L kk f k) := by
  have z1 := rf_vz_le L
  have z2 := rf_vz_le kk
  have s24 := rf_sil_le (L := L)
  have hsl : rf_sil L ≤ L := by unfold rf_sil; split <;> omega
  have lp : ∃ w, q_MD_insert_125 up cols isb int size blobs len kind cells last made deep at' bad now before rec cl row cell way turn x1 (nI f) (nI (rf_vz L + rf_vz kk)) (nI (rf_sil L)) = q_MD_insert_159 up cols isb int size blobs len kind cells last made deep at' bad now before rec cl row w way turn x1 (nI f) (nI (rf_vz L + rf_vz kk)) (nI (rf_sil L)) ∧ ∀ k, k < rf_vz L + rf_vz kk + rf_sil L → w k = nI (rf_lcb r L kk f k) := by
    rw [q_MD_insert_125]
    refine rf_loop (fun fu x t => q_MD_insert_130 (fun v_cell => q_MD_insert_159 up cols isb int size blobs len kind cells last made deep at' bad now before rec cl row v_cell way turn x1 (nI f) (nI (rf_vz L + rf_vz kk)) (nI (rf_sil L))) up cols isb int size blobs len kind cells last made deep at' bad now before rec cl row way turn x1 (nI f) (nI (rf_vz L + rf_vz kk)) (nI (rf_sil L)) fu x (nI t)) (fun t x => ∀ k, k < rf_vz L + rf_vz kk + t → x k = nI (rf_lcb r L kk f k)) (fun q => ∃ w, q = q_MD_insert_159 up cols isb int size blobs len kind cells last made deep at' bad now before rec cl row w way turn x1 (nI f) (nI (rf_vz L + rf_vz kk)) (nI (rf_sil L)) ∧ ∀ k, k < rf_vz L + rf_vz kk + rf_sil L → w k = nI (rf_lcb r L kk f k)) (rf_sil L) ?_ ?_ (rf_sil L) pu_fu cell 0 (by omega) (by rw [rf_fu]; omega) hc
    · intro fu x hx
      refine ⟨x, ?_, hx⟩
      show q_MD_insert_130 (fun v_cell => q_MD_insert_159 up cols isb int size blobs len kind cells last made deep at' bad now before rec cl row v_cell way turn x1 (nI f) (nI (rf_vz L + rf_vz kk)) (nI (rf_sil L))) up cols isb int size blobs len kind cells last made deep at' bad now before rec cl row way turn x1 (nI f) (nI (rf_vz L + rf_vz kk)) (nI (rf_sil L)) (fu + 1) x (nI (rf_sil L)) = _
      rw [q_MD_insert_130, pu_br_t (nI_le (Nat.le_refl _) (by omega))]
    · intro fu x t ht hx
      refine Or.inl ⟨upd x (rf_vz L + rf_vz kk + t) (nI (r t)), fun k hk => ?_, ?_⟩
      · by_cases e : k = rf_vz L + rf_vz kk + t
        · rw [e, pk_us, rf_lcb_2 ht]
        · rw [pk_un e]; exact hx k (by omega)
      · show q_MD_insert_130 (fun v_cell => q_MD_insert_159 up cols isb int size blobs len kind cells last made deep at' bad now before rec cl row v_cell way turn x1 (nI f) (nI (rf_vz L + rf_vz kk)) (nI (rf_sil L))) up cols isb int size blobs len kind cells last made deep at' bad now before rec cl row way turn x1 (nI f) (nI (rf_vz L + rf_vz kk)) (nI (rf_sil L)) (fu + 1) x (nI t) = q_MD_insert_130 (fun v_cell => q_MD_insert_159 up cols isb int size blobs len kind cells last made deep at' bad now before rec cl row v_cell way turn x1 (nI f) (nI (rf_vz L + rf_vz kk)) (nI (rf_sil L))) up cols isb int size blobs len kind cells last made deep at' bad now before rec cl row way turn x1 (nI f) (nI (rf_vz L + rf_vz kk)) (nI (rf_sil L)) fu (upd x (rf_vz L + rf_vz kk + t) (nI (r t))) (nI (t + 1))
        rw [q_MD_insert_130, pu_br_f (nI_ge ht (by omega)), pu_ck_t (vp_in_nI (by omega) (by decide)), nI_add, pu_ck_t (vp_in_nI (by omega) (by decide)), nI_clamp (by omega), nI_clamp (by omega), hrec t (by omega), pu_nm, nI_1, pu_nm]
  obtain ⟨w, q1, q2⟩ := lp
  rcases hf with ⟨e1, e2⟩ | ⟨e1, e2, e3⟩
  · have el : rf_lcl L kk = rf_vz L + rf_vz kk + rf_sil L := by unfold rf_lcl; rw [if_pos e1, Nat.add_zero]
    refine ⟨w, ?_, by rw [el]; exact q2⟩
    rw [q1, q_MD_insert_159, nI_add, pu_nm, pu_br_t (show nI f ≤ (0 : Int32) by rw [e2]; decide), el]
  · have el : rf_lcl L kk = rf_vz L + rf_vz kk + rf_sil L + 1 := by unfold rf_lcl; rw [if_neg (by omega)]
    refine ⟨upd w (rf_vz L + rf_vz kk + rf_sil L) (nI f), ?_, fun k hk => ?_⟩
    · rw [q1, q_MD_insert_159, nI_add, pu_nm, pu_br_f (nI_nle e2 (by omega)), pu_ck_t (vp_in_nI (by omega) (by decide)), nI_clamp (by omega), pu_nm, nI_1, pu_nm, el]
    · by_cases e : k = rf_vz L + rf_vz kk + rf_sil L
      · rw [e, pk_us, rf_lcb_3]
      · rw [pk_un e]; exact q2 k (by omega)
/-- it is as it must be -/
theorem rf_lcb_kl {m : Nat → Nat} {c : Nat} (hL : L ≤ 307) (hk : kk < 2097152) (hf : (L ≤ 24 ∧ f = 0) ∨ 24 < L) (hn : rf_hn m c (rf_cp L) f) (hw : rf_wr r L) (hch : ∀ k, 16 ≤ k → k < L → 24 < L → m (64 * rf_lk m ((k - 16) / 63) f + 1 + (k - 16) % 63) = r k) :
    rf_kl m c (rf_lcl L kk) (rf_lcb r L kk f) ∧ ∀ q, rf_kq m q (rf_lcl L kk) (rf_lcb r L kk f) = rf_hc m (rf_cp L) f q := by
  have z1 := rf_vz_le L
  have z2 := rf_vz_le kk
  have el : rf_lcl L kk = rf_vz L + rf_vz kk + (if L ≤ 24 then L else 17) := by
    unfold rf_lcl rf_sil
    by_cases e : L ≤ 24
    · rw [if_pos e, if_pos e, if_pos e]; omega
    · rw [if_neg e, if_neg e, if_neg e]
  have r1 : rf_rd (rf_lcb r L kk f) 0 (rf_lcl L kk) = some (L, rf_vz L) := rf_rd_ve (by omega) (by rw [el]; omega) (fun j hj => by rw [Nat.zero_add]; exact rf_lcb_0 hj)
  have r2 : rf_rd (rf_lcb r L kk f) (rf_vz L) (rf_lcl L kk) = some (kk, rf_vz kk) := rf_rd_ve hk (by rw [el]; omega) (fun j hj => rf_lcb_1 hj)
  have tL : rf_tL (rf_lcl L kk) (rf_lcb r L kk f) = L := by unfold rf_tL; rw [r1]
  have tb : rf_tb (rf_lcl L kk) (rf_lcb r L kk f) = rf_vz L + rf_vz kk := by
    unfold rf_tb; rw [tL, el, Nat.add_sub_cancel]
  have tf : rf_tf (rf_lcl L kk) (rf_lcb r L kk f) = f := by
    unfold rf_tf
    rw [tL]
    by_cases e : L ≤ 24
    · rw [if_pos e]
      rcases hf with h | h
      · exact h.2.symm
      · omega
    · rw [if_neg e, el, if_neg e]
      have : rf_sil L = 16 := by unfold rf_sil; rw [if_neg e]
      have h3 := rf_lcb_3 (r := r) (L := L) (kk := kk) (f := f)
      rw [this] at h3
      rw [show rf_vz L + rf_vz kk + 17 - 1 = rf_vz L + rf_vz kk + 16 by omega]
      exact h3
  refine ⟨⟨rf_vz L, kk, rf_vz kk, by rw [tL]; exact r1, r2, by rw [tL]; exact hL, tb.symm, by rw [tL, tb, el], by rw [tL, tf]; exact hn, ?_⟩, fun q => by unfold rf_kq; rw [tL, tf]⟩
  obtain ⟨cm, cd, z, hq⟩ := hw
  refine ⟨cm, cd, z, ?_⟩
  rw [tL]
  refine rf_wq_congr (fun k hk => ?_) hq
  unfold rf_tc
  rw [tL, tb, tf]
  by_cases e : L ≤ 24 ∨ k < 16
  · rw [if_pos e]
    refine rf_lcb_2 ?_
    unfold rf_sil
    by_cases e2 : L ≤ 24
    · rw [if_pos e2]; exact hk
    · rw [if_neg e2]; omega
  · rw [if_neg e]
    exact hch k (by omega) hk (by omega)
theorem rf_kl_28 {m : Nat → Nat} {c ln : Nat} {cb : Nat → Nat} (hx : ∀ k, cb k < 256) (h : rf_kl m c ln cb) : ln ≤ 28 := by
  obtain ⟨y, k, z, h1, h2, h3, h4, h5, _⟩ := h
  have a := rf_rd_size hx h1
  have b := rf_rd_lt hx h2
  by_cases e : rf_tL ln cb ≤ 24
  · rw [if_pos e] at h5
    rw [if_pos (by omega)] at a
    omega
  · rw [if_neg e] at h5
    by_cases c1 : rf_tL ln cb < 128
    · rw [if_pos c1] at a; omega
    · rw [if_neg c1, if_pos (by omega)] at a; omega
variable {n m : Nat → Nat} {c c' : Nat} {key : Int32} {root k : Nat}
theorem rf_way_pe (H : rf_hy n c key root k) (hc : c ≤ c') (hpe : ∀ q, 1 ≤ rf_ct n c 23 root q → rf_pe n m q) : ∀ j, j ≤ k → rf_way m c' key root j = rf_way n c key root j ∧ rf_gb m c' (rf_way n c key root j) = rf_gb n c (rf_way n c key root j) := by
  have eg : ∀ j, j ≤ k → rf_gb m c' (rf_way n c key root j) = rf_gb n c (rf_way n c key root j) := by
    intro j hj
    obtain ⟨p1, p2, p3⟩ := rf_hy_pg H hj
    refine rf_gb_pe (by omega) p2 hc (hpe _ ?_)
    have a := rf_way_ct (q := rf_way n c key root j) H.2.2.2.1 H.2.2.2.2.2.1 H.2.2.2.2.1 j hj
    have b : 1 ≤ rf_ct n c (23 - j) (rf_way n c key root j) (rf_way n c key root j) := by
      rw [show 23 - j = (22 - j) + 1 by have := H.2.2.2.2.1; omega, rf_ct, if_pos rfl]; omega
    omega
  intro j
  induction j with
  | zero => intro h; exact ⟨rfl, eg 0 h⟩
  | succ j ih =>
    intro h
    obtain ⟨a, b⟩ := ih (by omega)
    refine ⟨?_, eg _ h⟩
    rw [rf_way, rf_way, a]
    unfold rf_sl
    rw [b]
/-- the settling begins -/
theorem rf_lvl_init {U : Nat → Nat} {ln : Nat} {cb : Nat → Nat} {X : Nat → Nat} (H : rf_hy n c key root k) (ok : rf_ok m (fun q => rf_ct n c 23 root q + X q)) (hc : c ≤ m 65) (h70 : m 70 = root) (hpe : ∀ q, 1 ≤ rf_ct n c 23 root q → rf_pe n m q) (hcb : ∀ i, cb i < 256) (hl : ln ≤ 28) (h1 : 1 ≤ ln) (hk : rf_kl m (m 65) ln cb) (hX : ∀ q, X q = rf_kq m q ln cb) {g : Nat → Nat} (eg : g = rf_gb n c (rf_way n c key root k)) {s : Nat} (hs : s ≤ g 1) :
    ∃ C, rf_lvl n c key root m (fun q => rf_ct n c 23 root q + X q) k 13 (g 1 + 1) 0 23 (rf_ins s (rf_cln g) ln) (rf_ins s (rf_ccb g) cb) C := by
  obtain ⟨p1, p2, p3⟩ := rf_hy_pg H (Nat.le_refl k)
  have t0 := rf_hy_tr H (Nat.le_refl k)
  have h23 := H.2.2.2.2.1
  rw [show 23 - k = (22 - k) + 1 by omega] at t0
  obtain ⟨c1, c2⟩ := rf_trL_of t0 H.2.2.2.2.2.2.1
  have hgl : ∀ a, rf_gb n c (rf_way n c key root k) a < 256 := rf_gb_lt H.1 c _
  have ctr := fun q => rf_way_ct (q := q) H.2.2.2.1 H.2.2.2.2.2.1 h23 k (Nat.le_refl k)
  rw [show 23 - k = (22 - k) + 1 by omega] at ctr
  rw [← eg] at p3 c1 c2 hgl
  have room := rf_lay_room p3
  have old : ∀ i, i < g 1 → rf_kl m (m 65) (rf_cln g i) (rf_ccb g i) ∧ ∀ q, rf_kq m q (rf_cln g i) (rf_ccb g i) = rf_kq n q (rf_cln g i) (rf_ccb g i) := fun i hi => rf_kl_frame hc (c1 i hi) (fun q hq => hpe q (by
    have a := ctr q
    rw [c2] at a
    have b := rf_su_le (f := fun i => rf_kq n q (rf_cln g i) (rf_ccb g i)) hi
    omega))
  refine ⟨fun q => rf_su (fun i => rf_kq m q (rf_ins s (rf_cln g) ln i) (rf_ins s (rf_ccb g) cb i)) (g 1 + 1), ok, hc, h70, fun q q1 _ => hpe q q1, ⟨fun i k => ?_, by omega, fun i hi => ?_, Or.inl ⟨rfl, rfl, fun i hi => ?_, fun q => rfl⟩⟩, by omega, ?_, fun q => ?_⟩
  · unfold rf_ins
    split
    · exact hgl _
    · split
      · exact hcb _
      · exact hgl _
  · by_cases e : i = s
    · rw [e, rf_ins_at]; exact ⟨h1, hl⟩
    · by_cases e2 : i < s
      · rw [rf_ins_lo e2]
        exact ⟨(rf_lay_ln p3 (by omega)).1, rf_kl_28 (fun k => rf_ccb_lt hgl i k) (c1 i (by omega))⟩
      · rw [rf_ins_hi (by omega)]
        exact ⟨(rf_lay_ln p3 (by omega)).1, rf_kl_28 (fun k => rf_ccb_lt hgl (i - 1) k) (c1 (i - 1) (by omega))⟩
  · by_cases e : i = s
    · rw [e, rf_ins_at, rf_ins_at]; exact hk
    · by_cases e2 : i < s
      · rw [rf_ins_lo e2, rf_ins_lo e2]; exact (old i (by omega)).1
      · rw [rf_ins_hi (by omega), rf_ins_hi (by omega)]; exact (old (i - 1) (by omega)).1
  · rw [rf_ins_su hs]; omega
  · rw [show 23 - k = (22 - k) + 1 by omega, c2]
    have a : rf_su (fun i => rf_kq m q (rf_ins s (rf_cln g) ln i) (rf_ins s (rf_ccb g) cb i)) (g 1 + 1) = rf_su (fun i => rf_kq n q (rf_cln g i) (rf_ccb g i)) (g 1) + rf_kq m q ln cb := by
      rw [← rf_ins_su hs]
      refine rf_su_congr _ (fun i hi => ?_)
      by_cases e : i = s
      · rw [e, rf_ins_at, rf_ins_at, rf_ins_at]
      · by_cases e2 : i < s
        · rw [rf_ins_lo e2, rf_ins_lo e2, rf_ins_lo e2]; exact (old i (by omega)).2 q
        · rw [rf_ins_hi (by omega), rf_ins_hi (by omega), rf_ins_hi (by omega)]; exact (old (i - 1) (by omega)).2 q
    have b := hX q
    dsimp only
    omega
end RFLC
