section RFLV
variable {m U : Nat → Nat} {kd M la D : Nat} {ln : Nat → Nat} {cb : Nat → Nat → Nat} {C : Nat → Nat}
theorem rf_sp_all (H : rf_ok m U) (hp : rf_tk m ≠ 0) (h : rf_hand m kd M la D ln cb C) (hs : rf_su ln M + M ≤ 89) (hf : rf_ft ln M < M) {P : Nat} (hP : 1 ≤ U P) (hC : ∀ q, C q + (if P = q then 1 else 0) ≤ U q) {m2 : Nat → Nat} (em : m2 = rf_sp m P kd M la ln cb) :
    rf_ok m2 (fun q => U q + (if rf_tk m = q then 1 else 0)) ∧ m2 65 = rf_tn m 65 ∧ m 65 ≤ m2 65 ∧ m2 70 = m 70 ∧ (∀ q, 2 ≤ q → q ≠ rf_tk m → q ≠ P → rf_pe m m2 q) ∧
    ∃ C1 C2 : Nat → Nat, (∀ q, C1 q + C2 q = C q) ∧ rf_tr m2 (m2 65) (D + 1) (rf_tk m) ∧ (∀ q, rf_ct m2 (m2 65) (D + 1) (rf_tk m) q = (if rf_tk m = q then 1 else 0) + C1 q) ∧ rf_tr m2 (m2 65) (D + 1) P ∧ ∀ q, rf_ct m2 (m2 65) (D + 1) P q = (if P = q then 1 else 0) + C2 q := by
  obtain ⟨t1, t2, t3, t4, t5, t6, t7, t8⟩ := rf_tk_ok H hp
  obtain ⟨f1, f2, f3, f4⟩ := rf_hand_ft h hs hf
  have hr1 := rf_sl1_room h hs hf
  obtain ⟨p1, p2⟩ := H.2.2.2.2.2 P hP
  have one := H.2.2.2.2.1
  have hcb := h.1
  have kdl : kd < 256 := by rcases rf_kd_or h with e | e <;> omega
  have sfl := rf_sf_le (kd := kd) (f := rf_ft ln M)
  have sa : rf_sa kd (rf_ft ln M) cb < 256 := by unfold rf_sa; split <;> first | omega | exact hcb _ _
  have lt1 : ∀ a, rf_sl1 kd M ln cb a < 256 := rf_mk_lt kdl (by omega) sa (fun i k _ => hcb _ _)
  have lt2 : ∀ a, rf_sl2 kd M la ln cb a < 256 := rf_mk_lt kdl (by omega) h.2.1 (fun i k _ => hcb _ _)
  have rP : rf_tk m ≠ P := fun e => by rw [e] at t4; omega
  have Cr : C (rf_tk m) = 0 := by have := hC (rf_tk m); omega
  have CP : C P = 0 := by
    have a := hC P
    have b := one P
    rw [if_pos rfl] at a
    omega
  -- the page taken
  have h1 : rf_hand (rf_tn m) kd M la D ln cb C := rf_hand_fr h t3 (fun q hq => t6 q (H.2.2.2.2.2 q (by have := hC q; omega)).1 (fun e => by rw [e] at hq; omega))
  obtain ⟨C1, l1, C2, l2, l3⟩ := rf_hand_lo h1 hf f1 f2
  have C1r : C1 (rf_tk m) = 0 := by have := l3 (rf_tk m); omega
  have C2P : C2 P = 0 := by have := l3 P; omega
  have C1P : C1 P = 0 := by have := l3 P; omega
  obtain ⟨a1, a2⟩ := rf_hand_st l1 hr1 t1 t2 C1r
  generalize hma : rf_wp (rf_tn m) (rf_tk m) (rf_mk kd (rf_sf kd (rf_ft ln M)) (rf_sa kd (rf_ft ln M) cb) ln cb) = ma at a1 a2
  have ma65 : ma 65 = rf_tn m 65 := by rw [← hma]; exact rf_wp_hd t1 (by omega)
  have oka : rf_ok ma (fun q => U q + (if rf_tk m = q then 1 else 0)) := by
    rw [← hma]
    exact rf_wp_ok t5 (by rw [if_pos rfl]; omega) lt1
  have l2' : rf_hand ma kd (M - rf_ft ln M) la D (fun i => ln (rf_ft ln M + i)) (fun i => cb (rf_ft ln M + i)) C2 := rf_hand_fr l2 (by omega) (fun q hq => by rw [← hma]; exact rf_wp_pe (fun e => by rw [e] at hq; have := l3 (rf_tk m); omega))
  obtain ⟨b1, b2⟩ := rf_hand_st (p := P) l2' f4 p1 (by omega) C2P
  have em2 : m2 = rf_wp ma P (rf_mk kd (M - rf_ft ln M) la (fun i => ln (rf_ft ln M + i)) (fun i => cb (rf_ft ln M + i))) := by rw [em, ← hma]; rfl
  rw [← em2] at b1 b2
  have m265 : m2 65 = ma 65 := by rw [em2]; exact rf_wp_hd p1 (by omega)
  have tr := rf_tr_frame (n' := m2) (Nat.le_refl (ma 65)) (by rw [ma65]; exact a1) (fun q hq => by
    rw [em2]
    refine rf_wp_pe (fun e => ?_)
    rw [ma65, a2, e, if_neg rP] at hq
    omega)
  have e70 : rf_tn m 70 = m 70 := t8 70 (by omega) (by omega) (by omega) (by omega)
  refine ⟨?_, by omega, by omega, ?_, fun q q1 q2 q3 a ha => ?_, C1, C2, l3, by rw [m265]; exact tr.1, fun q => by rw [m265, tr.2, ma65]; exact a2 q, by rw [m265]; exact b1, fun q => by rw [m265]; exact b2 q⟩
  · rw [em2]
    exact rf_wp_ok oka (by omega) lt2
  · rw [em2, rf_wp_hd p1 (by omega), ← hma, rf_wp_hd t1 (by omega), e70]
  · rw [em2, rf_wp_pe q3 a ha, ← hma, rf_wp_pe q2 a ha]
    exact t6 q q1 q2 a ha
/-- where the settling stands: level l, its cells in hand -/
def rf_lvl (n : Nat → Nat) (c : Nat) (key : Int32) (root : Nat) (m U : Nat → Nat) (l kd M la D : Nat) (ln : Nat → Nat) (cb : Nat → Nat → Nat) (C : Nat → Nat) : Prop :=
  rf_ok m U ∧ c ≤ m 65 ∧ m 70 = root ∧ (∀ q, 1 ≤ rf_ct n c 23 root q → rf_ct n c (23 - l) (rf_way n c key root l) q = 0 → rf_pe n m q) ∧ rf_hand m kd M la D ln cb C ∧ 23 - l ≤ D ∧ rf_su ln M + M ≤ 89 ∧ ∀ q, U q + rf_ct n c (23 - l) (rf_way n c key root l) q = rf_ct n c 23 root q + (if rf_way n c key root l = q then 1 else 0) + C q
variable {n : Nat → Nat} {c : Nat} {key : Int32} {root k l : Nat}
theorem rf_lvl_wl (H : rf_hy n c key root k) (hl : l ≤ k) (h : rf_lvl n c key root m U l kd M la D ln cb C) : U (rf_way n c key root l) = 1 ∧ C (rf_way n c key root l) = 0 ∧ 2 ≤ rf_way n c key root l ∧ rf_way n c key root l ≤ m 65 ∧ (∀ q, C q + (if rf_way n c key root l = q then 1 else 0) ≤ U q) ∧ 1 ≤ rf_ct n c (23 - l) (rf_way n c key root l) (rf_way n c key root l) := by
  obtain ⟨h1, h2, h3, h4, h5, h6, h7, h8⟩ := h
  have k23 := H.2.2.2.2.1
  have a := h8 (rf_way n c key root l)
  rw [if_pos rfl] at a
  have b := rf_way_ct (q := rf_way n c key root l) H.2.2.2.1 H.2.2.2.2.2.1 k23 l hl
  have d := H.2.2.2.2.2.2.2.2 (rf_way n c key root l)
  have e := h1.2.2.2.2.1 (rf_way n c key root l)
  have f : 1 ≤ rf_ct n c (23 - l) (rf_way n c key root l) (rf_way n c key root l) := by
    rw [show 23 - l = (22 - l) + 1 by omega, rf_ct, if_pos rfl]; omega
  obtain ⟨p1, p2, p3⟩ := rf_hy_pg H hl
  refine ⟨by omega, by omega, p1, by omega, fun q => ?_, f⟩
  have a := h8 q
  have b := rf_way_ct (q := q) H.2.2.2.1 H.2.2.2.2.2.1 k23 l hl
  omega
/-- it fits: the file is as it must be -/
theorem rf_lvl_fit (H : rf_hy n c key root k) (hl : l ≤ k) (h : rf_lvl n c key root m U l kd M la D ln cb C) (hf : 4 + M + rf_su ln M ≤ 64) {m' : Nat → Nat} (em : m' = rf_wp m (rf_way n c key root l) (rf_mk kd M la ln cb)) : rf_bt m' ∧ rf_wf m' ∧ m' 65 = m 65 := by
  obtain ⟨w1, w2, w3, w4, w5, w6⟩ := rf_lvl_wl H hl h
  obtain ⟨h1, h2, h3, h4, h5, h6, h7, h8⟩ := h
  have k23 := H.2.2.2.2.1
  obtain ⟨a1, a2⟩ := rf_hand_st h5 hf w3 w4 w2
  rw [← em] at a1 a2
  have e65 : m' 65 = m 65 := by rw [em]; exact rf_wp_hd w3 (by omega)
  have e70 : m' 70 = root := by rw [em, rf_wp_hd w3 (by omega)]; exact h3
  have kdl : kd < 256 := by rcases rf_kd_or h5 with e | e <;> omega
  have ok : rf_ok m' U := by
    rw [em]
    exact rf_wp_ok h1 (by omega) (rf_mk_lt kdl (by omega) h5.2.1 (fun i k _ => h5.1 _ _))
  obtain ⟨u1, u2⟩ := rf_upl (n' := m') (c' := m 65) h2 H.2.2.2.1 H.2.2.2.2.2.1 k23 (fun q => by have := H.2.2.2.2.2.2.2.2 q; omega) l hl (D + 1) (by omega) (fun q q1 q2 a ha => by
    rw [em, rf_wp_pe (fun e => by rw [e] at q2; omega) a ha]
    exact h4 q q1 q2 a ha) a1
  refine ⟨ok.1, ⟨D + 1 + l, by rw [e65, e70]; exact u1, ok.2.2.2.1, fun q => ?_⟩, e65⟩
  have x1 := u2 q
  have x2 := a2 q
  have x3 := h8 q
  have x4 := ok.2.2.2.2.1 q
  rw [e65, e70]
  omega
theorem rf_ki_le {L : Nat} {x : Nat → Nat} (hx : ∀ k, x k < 256) (h : rf_ki L x) : 1 ≤ L ∧ L ≤ 4 := by
  obtain ⟨k, z, h1, h2⟩ := h
  have := rf_rd_lt hx h1
  omega
theorem rf_xc_ki {r v : Nat} (hv : v < 2097152) : rf_ki (1 + rf_vz v) (rf_xc r v) := ⟨v, rf_vz v, rf_rd_ve hv (Nat.le_refl _) (fun j _ => rf_xc_s r v j), rfl⟩
theorem rf_xc_lt {r v : Nat} (hr : r < 256) (k : Nat) : rf_xc r v k < 256 := by
  unfold rf_xc; split
  · exact hr
  · exact rf_ve_lt _ _
/-- a page below the root is split -/
theorem rf_lvl_split (H : rf_hy n c key root k) (hl : l ≤ k) (l1 : 1 ≤ l) (h : rf_lvl n c key root m U l kd M la D ln cb C) (hf : rf_ft ln M < M) (hp : rf_tk m ≠ 0) {m2 : Nat → Nat} (em : m2 = rf_sp m (rf_way n c key root l) kd M la ln cb) {g : Nat → Nat} (eg : g = rf_gb n c (rf_way n c key root (l - 1))) :
    rf_gb m2 (rf_tn m 65) (rf_way n c key root (l - 1)) = g ∧ rf_lay g ∧ g 0 = 5 ∧ rf_sl n c key (rf_way n c key root (l - 1)) ≤ g 1 ∧ m2 65 = rf_tn m 65 ∧ m 65 ≤ m2 65 ∧ ∃ U' C' D', rf_lvl n c key root m2 U' (l - 1) 5 (g 1 + 1) (g 2) D' (rf_ins (rf_sl n c key (rf_way n c key root (l - 1))) (rf_cln g) (1 + rf_vz (rf_kyv kd (ln (rf_ft ln M - 1)) (cb (rf_ft ln M - 1))))) (rf_ins (rf_sl n c key (rf_way n c key root (l - 1))) (rf_ccb g) (rf_xc (rf_tk m) (rf_kyv kd (ln (rf_ft ln M - 1)) (cb (rf_ft ln M - 1))))) C' := by
  obtain ⟨w1, w2, w3, w4, w5, w6⟩ := rf_lvl_wl H hl h
  obtain ⟨h1, h2, h3, h4, h5, h6, h7, h8⟩ := h
  have k23 := H.2.2.2.2.1
  obtain ⟨s1, s2, s3, s4, s5, C1, C2, s6, s7, s8, s9, s10⟩ := rf_sp_all h1 hp h5 h7 hf (P := rf_way n c key root l) (by omega) w5 em
  obtain ⟨t1, t2, t3, t4, _⟩ := rf_tk_ok h1 hp
  have f1 := (rf_hand_ft h5 h7 hf).1
  obtain ⟨z, hk1, _⟩ := rf_hand_key h5 (i := rf_ft ln M - 1) (by omega)
  generalize rf_kyv kd (ln (rf_ft ln M - 1)) (cb (rf_ft ln M - 1)) = v at *
  have vz := rf_vz_le v
  clear em
  obtain ⟨x1, x2, x3⟩ := rf_hy_pg H (j := l - 1) (by omega)
  have g5 := H.2.2.2.2.2.1 (l - 1) (by omega)
  have tA := rf_hy_tr H (j := l - 1) (by omega)
  rw [show 23 - (l - 1) = (23 - l) + 1 by omega] at tA
  have hsl := rf_sl_le (n := n) (c := c) (key := key) (p := rf_way n c key root (l - 1))
  have eP := rf_way_s (n := n) (c := c) (key := key) (root := root) l1
  obtain ⟨i1, i2, i3, i4⟩ := rf_trI_of tA g5
  have i5 := (tA.2.2.2.2 g5).2.2
  have ct1 := fun q => rf_way_ct1 (q := q) H.2.2.2.1 H.2.2.2.2.2.1 k23 (j := l - 1) (by omega)
  rw [show l - 1 + 1 = l by omega, show 23 - (l - 1) = (23 - l) + 1 by omega] at ct1
  have ctr := fun q => rf_way_ct (q := q) H.2.2.2.1 H.2.2.2.2.2.1 k23 (l - 1) (by omega)
  rw [show 23 - (l - 1) = (23 - l) + 1 by omega] at ctr
  have sum := H.2.2.2.2.2.2.2.2
  have hgl : ∀ a, rf_gb n c (rf_way n c key root (l - 1)) a < 256 := rf_gb_lt H.1 c _
  have c24 := s1.2.2.1
  -- pages as they were
  have pe2 : ∀ q, 1 ≤ rf_ct n c 23 root q → rf_ct n c (23 - l) (rf_way n c key root l) q = 0 → rf_pe n m2 q := by
    intro q q1 q2 a ha
    have hU : 1 ≤ U q := by have := h8 q; omega
    rw [s5 q (h1.2.2.2.2.2 q hU).1 (fun e => by rw [e, t4] at hU; omega) (fun e => by rw [e] at q2; omega) a ha]
    exact h4 q q1 q2 a ha
  have pA : rf_pe n m2 (rf_way n c key root (l - 1)) := by
    have a := ct1 (rf_way n c key root (l - 1))
    have b := ctr (rf_way n c key root (l - 1))
    have d := sum (rf_way n c key root (l - 1))
    rw [if_pos rfl] at a
    exact pe2 _ (by omega) (by omega)
  have egA : rf_gb m2 (rf_tn m 65) (rf_way n c key root (l - 1)) = g := by rw [eg]; exact rf_gb_pe (by omega) x2 (by omega) pA
  have kid : ∀ i, i < g 1 + 1 → i ≠ rf_sl n c key (rf_way n c key root (l - 1)) → rf_tr m2 (m2 65) (D + 1) (rf_kid g i) ∧ ∀ q, rf_ct m2 (m2 65) (D + 1) (rf_kid g i) q = rf_ct n c (23 - l) (rf_kid g i) q := by
    intro i hi his
    rw [eg] at hi ⊢
    obtain ⟨y1, y2⟩ := rf_tr_frame (n' := m2) (c' := m2 65) (by omega) (i5 i hi) (fun q hq => by
      have a := sum q
      have b := ctr q
      rw [rf_ct5 g5] at b
      have two : rf_ct n c (23 - l) (rf_kid (rf_gb n c (rf_way n c key root (l - 1))) i) q + rf_ct n c (23 - l) (rf_kid (rf_gb n c (rf_way n c key root (l - 1))) (rf_sl n c key (rf_way n c key root (l - 1)))) q ≤ rf_su (fun i => rf_ct n c (23 - l) (rf_kid (rf_gb n c (rf_way n c key root (l - 1))) i) q) (rf_gb n c (rf_way n c key root (l - 1)) 1 + 1) := by
        by_cases e : i < rf_sl n c key (rf_way n c key root (l - 1))
        · exact rf_su_two (f := fun i => rf_ct n c (23 - l) (rf_kid (rf_gb n c (rf_way n c key root (l - 1))) i) q) e hsl
        · have := rf_su_two (f := fun i => rf_ct n c (23 - l) (rf_kid (rf_gb n c (rf_way n c key root (l - 1))) i) q) (show rf_sl n c key (rf_way n c key root (l - 1)) < i by omega) hi
          omega
      rw [← eP] at two
      exact pe2 q (by omega) (by omega))
    obtain ⟨y3, y4, _⟩ := rf_mono y1 (show 23 - l ≤ D + 1 by omega)
    exact ⟨y3, fun q => (y4 q).trans (y2 q)⟩
  rw [← eg] at x3 g5 i1 i2 i4 hsl eP hgl
  refine ⟨egA, x3, g5, by omega, s2, s3, fun q => U q + (if rf_tk m = q then 1 else 0), fun q => rf_su (fun i => rf_ct m2 (m2 65) (D + 1) (rf_ins (rf_sl n c key (rf_way n c key root (l - 1))) (rf_ccb g) (rf_xc (rf_tk m) v) i 0) q) (g 1 + 1) + rf_ct m2 (m2 65) (D + 1) (g 2) q, D + 1, ?_⟩
  have room := rf_lay_room x3
  -- every child is a tree
  have ck : ∀ i, i < g 1 + 1 → rf_tr m2 (m2 65) (D + 1) (rf_kid g i) := by
    intro i hi
    by_cases e : i = rf_sl n c key (rf_way n c key root (l - 1))
    · rw [e, ← eP]; exact s9
    · exact (kid i hi e).1
  have xc0 : rf_xc (rf_tk m) v 0 = rf_tk m := rfl
  refine ⟨s1, by omega, by omega, fun q q1 q2 => ?_, ⟨fun i k => ?_, hgl 2, fun i hi => ?_, Or.inr ⟨rfl, by omega, fun i hi => ?_, ?_, fun q => rfl⟩⟩, by omega, ?_, fun q => ?_⟩
  · rw [show 23 - (l - 1) = (23 - l) + 1 by omega] at q2
    exact pe2 q q1 (by have := ct1 q; omega)
  · unfold rf_ins
    split
    · exact hgl _
    · split
      · exact rf_xc_lt (by omega) _
      · exact hgl _
  · by_cases e : i = rf_sl n c key (rf_way n c key root (l - 1))
    · rw [e, rf_ins_at]; omega
    · by_cases e2 : i < rf_sl n c key (rf_way n c key root (l - 1))
      · rw [rf_ins_lo e2]
        have := rf_ki_le (fun k => rf_ccb_lt hgl i k) (i2 i (by omega)).1
        omega
      · rw [rf_ins_hi (by omega)]
        have := rf_ki_le (fun k => rf_ccb_lt hgl (i - 1) k) (i2 (i - 1) (by omega)).1
        omega
  · by_cases e : i = rf_sl n c key (rf_way n c key root (l - 1))
    · rw [e, rf_ins_at, rf_ins_at]
      exact ⟨rf_xc_ki hk1, by omega, s7⟩
    · by_cases e2 : i < rf_sl n c key (rf_way n c key root (l - 1))
      · rw [rf_ins_lo e2, rf_ins_lo e2]
        refine ⟨(i2 i (by omega)).1, (rf_ki_le (fun k => rf_ccb_lt hgl i k) (i2 i (by omega)).1).2, ?_⟩
        rw [← rf_kid_lo (by omega)]; exact ck i hi
      · rw [rf_ins_hi (by omega), rf_ins_hi (by omega)]
        refine ⟨(i2 (i - 1) (by omega)).1, (rf_ki_le (fun k => rf_ccb_lt hgl (i - 1) k) (i2 (i - 1) (by omega)).1).2, ?_⟩
        rw [← rf_kid_lo (by omega)]; exact ck (i - 1) (by omega)
  · rw [← rf_kid_la (g := g)]; exact ck (g 1) (by omega)
  · rw [rf_ins_su (by omega)]; omega
  · rw [show 23 - (l - 1) = (23 - l) + 1 by omega]
    have a1 := h8 q
    have a2 : rf_ct n c (23 - l + 1) (rf_way n c key root (l - 1)) q = (if rf_way n c key root (l - 1) = q then 1 else 0) + rf_su (fun i => rf_ct n c (23 - l) (rf_kid g i) q) (g 1 + 1) := by
      rw [rf_ct5 (by rw [← eg]; exact g5), ← eg]
    have a3 : rf_su (fun i => rf_ct m2 (m2 65) (D + 1) (rf_ins (rf_sl n c key (rf_way n c key root (l - 1))) (rf_ccb g) (rf_xc (rf_tk m) v) i 0) q) (g 1 + 1) = rf_su (fun i => rf_ct m2 (m2 65) (D + 1) (rf_kid g i) q) (g 1) + rf_ct m2 (m2 65) (D + 1) (rf_tk m) q := by
      rw [← rf_ins_su (show rf_sl n c key (rf_way n c key root (l - 1)) ≤ g 1 by omega)]
      refine rf_su_congr _ (fun i hi => ?_)
      by_cases e : i = rf_sl n c key (rf_way n c key root (l - 1))
      · rw [e, rf_ins_at, rf_ins_at, xc0]
      · by_cases e2 : i < rf_sl n c key (rf_way n c key root (l - 1))
        · rw [rf_ins_lo e2, rf_ins_lo e2, rf_kid_lo (by omega)]
        · rw [rf_ins_hi (by omega), rf_ins_hi (by omega), rf_kid_lo (by omega)]
    have a4 : rf_su (fun i => rf_ct m2 (m2 65) (D + 1) (rf_kid g i) q) (g 1 + 1) = rf_su (fun i => rf_ct m2 (m2 65) (D + 1) (rf_kid g i) q) (g 1) + rf_ct m2 (m2 65) (D + 1) (g 2) q := by
      rw [rf_su, rf_kid_la]
    have a5 := rf_su_rp (F := fun i => rf_ct n c (23 - l) (rf_kid g i) q) (F' := fun i => rf_ct m2 (m2 65) (D + 1) (rf_kid g i) q) hsl (fun i hi e => (kid i hi e).2 q)
    rw [← eP, s10 q] at a5
    have a6 := s8 q
    have a7 := s6 q
    dsimp only
    omega
end RFLV
