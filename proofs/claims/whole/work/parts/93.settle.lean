section RFSE
variable {m U : Nat → Nat} {kd M la D : Nat} {ln : Nat → Nat} {cb : Nat → Nat → Nat} {C : Nat → Nat}
variable {n : Nat → Nat} {c : Nat} {key : Int32} {root k l : Nat}
/-- a root that leads to one page -/
def rf_rt (b : Nat) : Nat → Nat := fun a => if a = 0 then 5 else if a = 2 then b else 0
theorem rf_rt_lay (b : Nat) : rf_lay (rf_rt b) := by
  have e0 : rf_rt b 0 = 5 := rfl
  have e1 : rf_rt b 1 = 0 := rfl
  refine ⟨Or.inr rfl, (fun q => by omega), rfl, by omega, (fun i hi => by omega), fun a h1 h2 => ?_⟩
  unfold rf_rt
  rw [if_neg (by omega), if_neg (by omega)]
theorem rf_rt_lt {b : Nat} (hb : b < 256) (a : Nat) : rf_rt b a < 256 := by
  unfold rf_rt; split
  · omega
  · split <;> omega
def rf_dr1 (m : Nat → Nat) (root : Nat) : Nat → Nat := rf_wp (rf_tn m) root (rf_rt (rf_tk m))
/-- the root is split -/
theorem rf_lvl_root (H : rf_hy n c key root k) (h : rf_lvl n c key root m U 0 kd M la D ln cb C) (hf : rf_ft ln M < M) (hp : rf_tk m ≠ 0) {mr : Nat → Nat} (er : mr = rf_dr1 m root) :
    rf_ok mr (fun q => U q + (if rf_tk m = q then 1 else 0)) ∧ rf_hand mr kd M la D ln cb C ∧ 2 ≤ rf_tk m ∧ rf_tk m ≤ mr 65 ∧ 2 ≤ root ∧ root ≤ mr 65 ∧ m 65 ≤ mr 65 ∧ mr 65 = rf_tn m 65 ∧ (rf_tk mr ≠ 0 → ∀ m2, m2 = rf_sp mr (rf_tk m) kd M la ln cb → rf_gb m2 (rf_tn mr 65) root = rf_rt (rf_tk m) ∧ m2 65 = rf_tn mr 65 ∧
      ∃ U' C' D', rf_lvl n c key root m2 U' 0 5 (0 + 1) (rf_rt (rf_tk m) 2) D' (rf_ins 0 (rf_cln (rf_rt (rf_tk m))) (1 + rf_vz (rf_kyv kd (ln (rf_ft ln M - 1)) (cb (rf_ft ln M - 1))))) (rf_ins 0 (rf_ccb (rf_rt (rf_tk m))) (rf_xc (rf_tk mr) (rf_kyv kd (ln (rf_ft ln M - 1)) (cb (rf_ft ln M - 1))))) C' ∧ 1 + rf_vz (rf_kyv kd (ln (rf_ft ln M - 1)) (cb (rf_ft ln M - 1))) ≤ 4) := by
  obtain ⟨w1, w2, w3, w4, w5, w6⟩ := rf_lvl_wl H (Nat.zero_le k) h
  obtain ⟨h1, h2, h3, h4, h5, h6, h7, h8⟩ := h
  rw [show rf_way n c key root 0 = root from rfl] at *
  rw [show 23 - 0 = 23 from rfl] at *
  obtain ⟨t1, t2, t3, t4, t5, t6, t7, t8⟩ := rf_tk_ok h1 hp
  have c24 := t5.2.2.1
  have rb : root ≠ rf_tk m := fun e => by rw [← e] at t4; omega
  have e65 : mr 65 = rf_tn m 65 := by rw [er]; exact rf_wp_hd w3 (by omega)
  have ok1 : rf_ok mr (fun q => U q + (if rf_tk m = q then 1 else 0)) := by
    rw [er]
    exact rf_wp_ok t5 (by omega) (rf_rt_lt (by omega))
  have Cb : C (rf_tk m) = 0 := by have := w5 (rf_tk m); omega
  have hd : rf_hand mr kd M la D ln cb C := by
    refine rf_hand_fr h5 (by omega) (fun q hq a ha => ?_)
    have hU : 1 ≤ U q := by have := w5 q; omega
    rw [er]
    unfold rf_dr1
    rw [rf_wp_pe (fun e => by rw [e] at hq; omega) a ha]
    exact t6 q (h1.2.2.2.2.2 q hU).1 (fun e => by rw [e] at hq; omega) a ha
  refine ⟨ok1, hd, t1, by omega, w3, by omega, by omega, e65, fun hp2 m2 em => ?_⟩
  obtain ⟨s1, s2, s3, s4, s5, C1, C2, s6, s7, s8, s9, s10⟩ := rf_sp_all ok1 hp2 hd h7 hf (P := rf_tk m) (by rw [if_pos rfl]; omega) (fun q => by have := w5 q; omega) em
  obtain ⟨v1, v2, v3, v4, v5, v6, v7, v8⟩ := rf_tk_ok ok1 hp2
  have f1 := (rf_hand_ft h5 h7 hf).1
  obtain ⟨z, hk1, _⟩ := rf_hand_key h5 (i := rf_ft ln M - 1) (by omega)
  generalize rf_kyv kd (ln (rf_ft ln M - 1)) (cb (rf_ft ln M - 1)) = v at *
  have vz := rf_vz_le v
  have c24' := s1.2.2.1
  have rr : root ≠ rf_tk mr := fun e => by rw [← e] at v4; omega
  have egr : rf_gb m2 (rf_tn mr 65) root = rf_rt (rf_tk m) := by
    funext a
    by_cases ha : a < 64
    · rw [rf_gb_at (by omega) (by omega) ha, s5 root w3 rr rb a ha, er]
      exact rf_wp_at ha
    · unfold rf_gb
      rw [if_neg (fun q => ha q.2.2)]
      unfold rf_rt
      rw [if_neg (by omega), if_neg (by omega)]
  have xc0 : rf_xc (rf_tk mr) v 0 = rf_tk mr := rfl
  have e70 : mr 70 = m 70 := by
    rw [er]
    unfold rf_dr1
    rw [rf_wp_hd w3 (by omega)]
    exact t8 70 (by omega) (by omega) (by omega) (by omega)
  have i0 : ∀ {α : Type} (f : Nat → α) (x : α), rf_ins 0 f x 0 = x := fun f x => rf_ins_at
  refine ⟨egr, s2, _, fun q => rf_ct m2 (m2 65) (D + 1) (rf_tk mr) q + rf_ct m2 (m2 65) (D + 1) (rf_tk m) q, D + 1, ⟨s1, by omega, by omega, fun q q1 q2 => ?_, ⟨fun i k => ?_, ?_, fun i hi => ?_, Or.inr ⟨rfl, by omega, fun i hi => ?_, s9, fun q => ?_⟩⟩, by omega, ?_, fun q => ?_⟩, by omega⟩
  · rw [show rf_way n c key root 0 = root from rfl, show 23 - 0 = 23 from rfl] at q2
    omega
  · unfold rf_ins
    split
    · exact rf_rt_lt (by omega) _
    · split
      · exact rf_xc_lt (by omega) _
      · exact rf_rt_lt (by omega) _
  · exact rf_rt_lt (by omega) _
  · rw [show i = 0 by omega, i0]; omega
  · rw [show i = 0 by omega, i0, i0]
    exact ⟨rf_xc_ki hk1, by omega, s7⟩
  · show _ = 0 + rf_ct m2 (m2 65) (D + 1) (rf_ins 0 (rf_ccb (rf_rt (rf_tk m))) (rf_xc (rf_tk mr) v) 0 0) q + rf_ct m2 (m2 65) (D + 1) (rf_tk m) q
    rw [i0, xc0, Nat.zero_add]
  · show 0 + rf_ins 0 (rf_cln (rf_rt (rf_tk m))) (1 + rf_vz v) 0 + (0 + 1) ≤ 89
    rw [i0]; omega
  · rw [show rf_way n c key root 0 = root from rfl, show 23 - 0 = 23 from rfl]
    have a1 := h8 q
    have a2 := s8 q
    have a3 := s10 q
    have a4 := s6 q
    dsimp only
    omega
/-- the class makes room below the root -/
theorem rf_deepen (H : rf_ok m U) (hp : rf_tk m ≠ 0) {b path slots : Nat → Int32} (hb : rf_pg b m) (r1 : 2 ≤ root) (r2 : root ≤ m 65) (p0 : path 0 = nI root) : ∃ w, f_Tree_deepenRoot (nI (m 65)) b path slots = some (1, nI (rf_tn m 65), w, upd path 1 (nI (rf_tk m)), upd slots 0 0) ∧ rf_pg w (rf_dr1 m root) := by
  obtain ⟨t1, t2, t3, t4, t5, t6, t7, t8⟩ := rf_tk_ok H hp
  have c24 := t5.2.2.1
  obtain ⟨w1, q1, s1⟩ := rf_takePage H hb hp
  obtain ⟨w2, q2, s2⟩ := rf_wipe s1 (c := rf_tn m 65) (p := root) c24 (by omega) (by omega)
  obtain ⟨w3, q3, s3⟩ := rf_putw s2 (a := 0) (v := 5) (x := nI 5) c24 (by omega) (by omega) (by omega) rfl
  obtain ⟨w4, q4, s4⟩ := rf_putw s3 (a := 2) (v := rf_tk m) (x := nI (rf_tk m)) c24 (by omega) (by omega) (by omega) rfl
  refine ⟨w4, ?_, ?_⟩
  · have c0 : (0 : Int32).toNatClampNeg = 0 := by decide
    have c1 : (1 : Int32).toNatClampNeg = 1 := by decide
    have i0 : vp_in (0 : Int32) 25 := by unfold vp_in; decide
    have i1 : vp_in (1 : Int32) 25 := by unfold vp_in; decide
    rw [f_Tree_deepenRoot, q1, pu_b3_s, pu_br_f (nI_ne0 (by omega) (by omega)), pu_ck_t i0, c0, p0, q2, pu_b1_s, pu_ck_t i0]
    rw [show f_Pages_put (nI (rf_tn m 65)) w2 (nI root) 0 5 = some w3 from q3, pu_b1_s, pu_ck_t i0, show f_Pages_put (nI (rf_tn m 65)) w3 (nI root) 2 (nI (rf_tk m)) = some w4 from q4, pu_b1_s, pu_ck_t i0, pu_nm, pu_ck_t i1, c1, pu_nm]
  · unfold rf_dr1
    rw [rf_wp_congr (h' := rf_p1 (rf_p1 (fun _ => 0) 0 5) 2 (rf_tk m)) (fun a ha => ?_)]
    · exact s4
    · unfold rf_rt rf_p1
      dsimp only
      by_cases e0 : a = 0
      · rw [if_pos e0, if_neg (by omega), if_pos e0]
      · rw [if_neg e0, if_neg e0]
theorem rf_deepen0 (H : rf_ok m U) (hp : rf_tk m = 0) {b path slots : Nat → Int32} (hb : rf_pg b m) : f_Tree_deepenRoot (nI (m 65)) b path slots = some (0, nI (m 65), b, path, slots) := by
  rw [f_Tree_deepenRoot, rf_takePage0 H hb hp, pu_b3_s, pu_br_t rfl]
/-- the reference splits the root's page -/
theorem rf_msplit_r (H : rf_ok m U) (hp : rf_tk m ≠ 0) {b way turn cl row cell : Nat → Int32} (hb : rf_md b m) (r1 : 2 ≤ root) (r2 : root ≤ m 65) (p0 : way 0 = nI root) (kind cells last made at' bad : Int32) : ∃ w, f_MD_split kind cells last made 0 at' bad b cl row cell way turn = q_MD_split_79 kind cells last made (nI 1) at' bad w cl row cell (upd way 1 (nI (rf_tk m))) (upd turn 0 0) ∧ rf_md w (rf_dr1 m root) := by
  obtain ⟨t1, t2, t3, t4, t5, t6, t7, t8⟩ := rf_tk_ok H hp
  have c24 := t5.2.2.1
  obtain ⟨w1, q1, s1⟩ := rf_mtakePage H hb hp
  obtain ⟨w2, q2, s2⟩ := rf_erase s1 (p := root) (by omega)
  have s3 := rf_mputw s2 (a := 0) (v := 5) (by omega)
  have s4 := rf_mputw s3 (a := 2) (v := rf_tk m) (by omega)
  refine ⟨upd (upd w2 (64 * root + 0) (nI 5)) (64 * root + 2) (nI (rf_tk m)), ?_, ?_⟩
  · have c0 : (0 : Int32).toNatClampNeg = 0 := by decide
    have c1 : (1 : Int32).toNatClampNeg = 1 := by decide
    have i0 : vp_in (0 : Int32) 40 := by unfold vp_in; decide
    have i1 : vp_in (1 : Int32) 40 := by unfold vp_in; decide
    have a0 : upd way 1 (nI (rf_tk m)) 0 = nI root := by rw [pk_un (by omega)]; exact p0
    rw [f_MD_split, pu_br_t rfl, q1, pu_b2_s, pu_br_f (nI_ne0 (by omega) (by omega)), pu_ck_t i1, c1, pu_nm, pu_ck_t i0, c0, pu_nm, pu_ck_t i0, a0, q2, pu_b1_s, pu_ck_t i0, show (64 : Int32) * nI root = nI (64 * root) from pk_mul 64 _, pu_ck_t (vp_in_nI (by omega) (by decide)), nI_clamp (by omega), pu_nm, pu_ck_t i0, show nI (64 * root) + (2 : Int32) = nI (64 * root + 2) from nI_add _ 2, pu_ck_t (vp_in_nI (by omega) (by decide)), nI_clamp (by omega), pu_nm]
    rfl
  · unfold rf_dr1
    rw [rf_wp_congr (h' := rf_p1 (rf_p1 (fun _ => 0) 0 5) 2 (rf_tk m)) (fun a ha => ?_)]
    · exact s4
    · unfold rf_rt rf_p1
      dsimp only
      by_cases e0 : a = 0
      · rw [if_pos e0, if_neg (by omega), if_pos e0]
      · rw [if_neg e0, if_neg e0]
theorem rf_msplit0 (h66 : m 66 < 2 ^ 31) (hp : rf_tk m = 0) {b : Nat → Int32} (hb : rf_md b m) (kind cells last made deep at' bad : Int32) (cl row cell way turn : Nat → Int32) : q_MD_split_79 kind cells last made deep at' bad b cl row cell way turn = some (0, kind, cells, last, made, deep, at', bad, b, cl, row, cell, way, turn) := by
  rw [q_MD_split_79, rf_mtakePage0 hb h66 hp, pu_b2_s, pu_br_t rfl]
end RFSE
