section RFCA
variable {n : Nat → Nat} {c : Nat}
theorem rf_mread_rec {N : Nat} {rec : Nat → Int32} {r : Nat → Nat} (hr : ∀ k, r k < 256) {s e v z : Nat} (hrec : ∀ k, k < e → rec k = nI (r k)) (he : e ≤ N) (hN : N < 2 ^ 20) (hs : s < 2 ^ 20) (h : rf_rd r s e = some (v, z)) : f_MD_read N rec (nI s) 0 (nI e) = some (nI v, nI (s + z), 0) := by
  rcases rf_mread (N := N) (b := rec) (g := r) (s := s) (e := e) hr hrec he hN hs with ⟨v', z', q1, q2⟩ | ⟨q1, _⟩
  · rw [h] at q1; cases q1; exact q2
  · rw [h] at q1; cases q1
theorem rf_wq_head {r : Nat → Nat} (hr : ∀ k, r k < 256) {L m : Nat} {cd z : Nat → Nat} (h : rf_wq r L m cd z) : r 0 ≤ 10 ∧ rf_rd r 0 L = some (r 0, 1) := by
  obtain ⟨w1, w2, w3, w4, w5, w6⟩ := rf_wq_iff.mp h
  have := rf_pf_le hr w3
  have h1 := rf_wq_pos h
  refine ⟨by omega, ?_⟩
  unfold rf_rd
  rw [if_neg (by omega), if_neg (by omega), if_pos (by omega)]
theorem rf_codeAt {rec : Nat → Int32} {r : Nat → Nat} (hr : ∀ k, r k < 256) {L m : Nat} {cd z : Nat → Nat} (h : rf_wq r L m cd z) (hrec : ∀ k, k < L → rec k = nI (r k)) (hL : L ≤ 700) {i : Nat} (hi : i < 2 ^ 31) (at' bad : Int32) :
    ∃ a', f_MD_codeAt (nI L) rec at' bad (nI i) = some (if i < m then nI (cd i) else -1, a', 0) ∧ (i < m → a' = nI (r 0 + rf_su (fun j => rf_sz (cd j)) i)) := by
  have hh := rf_wq_head hr h
  have hp := rf_wq_pos h
  obtain ⟨w1, w2, w3, w4, w5, w6⟩ := rf_wq_iff.mp h
  have hF : f_MD_codeAt (nI L) rec at' bad (nI i) = q_MD_codeAt_28 (fun v_at v_bad x_3 x_5 => q_MD_codeAt_53 (nI L) rec v_at v_bad x_3 x_5) (nI L) rec (nI i) (nI (r 0)) pu_fu (nI (0 + 1)) 0 (nI (r 0)) 0 := by
    rw [f_MD_codeAt, show f_MD_read 700 rec 0 0 (nI L) = some (nI (r 0), nI (0 + 1), 0) from rf_mread_rec hr hrec hL (by decide) (by decide) hh.2, pu_b3_s]
  rw [hF]
  refine rf_loop (fun f (st : Int32 × Int32) j => q_MD_codeAt_28 (fun v_at v_bad x_3 x_5 => q_MD_codeAt_53 (nI L) rec v_at v_bad x_3 x_5) (nI L) rec (nI i) (nI (r 0)) f st.1 0 st.2 (nI j)) (fun j st => j ≤ i ∧ st.1 = nI (1 + rf_su z j) ∧ st.2 = nI (r 0 + rf_su (fun j => rf_sz (cd j)) j)) (fun q => ∃ a', q = some (if i < m then nI (cd i) else -1, a', 0) ∧ (i < m → a' = nI (r 0 + rf_su (fun j => rf_sz (cd j)) i))) m ?_ ?_ m pu_fu (nI (0 + 1), nI (r 0)) 0 (by omega) (by rw [rf_fu]; omega) ⟨Nat.zero_le _, rfl, rfl⟩
  · rintro f st ⟨h1, h2, h3⟩
    refine ⟨st.1, ?_, fun q => by omega⟩
    show q_MD_codeAt_28 _ (nI L) rec (nI i) (nI (r 0)) (f + 1) st.1 0 st.2 (nI m) = _
    rw [q_MD_codeAt_28, h2, w5, pu_br_t (nI_le (Nat.le_refl _) (by omega)), if_neg (by omega)]
  · rintro f st j hj ⟨h1, h2, h3⟩
    have hrd := (w3 j hj).1
    have hlt := rf_rd_lt hr hrd
    have hvl := rf_vc_lt (w3 j hj).2
    have hmr := rf_mread_rec (N := 700) hr (fun k hk => hrec k (by omega)) (by omega) (by decide) (by omega) hrd
    have hstep : ∀ q, pu_br (nI j = nI i) (some (nI (cd j), nI (r 0 + rf_su (fun j => rf_sz (cd j)) j), 0)) (q_MD_codeAt_28 (fun v_at v_bad x_3 x_5 => q_MD_codeAt_53 (nI L) rec v_at v_bad x_3 x_5) (nI L) rec (nI i) (nI (r 0)) f (nI (1 + rf_su z j + z j)) 0 (nI (r 0 + rf_su (fun j => rf_sz (cd j)) j + rf_sz (cd j))) (nI (j + 1))) = q → q_MD_codeAt_28 (fun v_at v_bad x_3 x_5 => q_MD_codeAt_53 (nI L) rec v_at v_bad x_3 x_5) (nI L) rec (nI i) (nI (r 0)) (f + 1) st.1 0 st.2 (nI j) = q := by
      intro q hq
      rw [q_MD_codeAt_28, h2, pu_br_f (nI_ge (by omega) (by omega)), hmr, pu_b3_s, rf_bytesOf (by omega), pu_b1_s, pu_nm, pu_nm, h3, nI_add, nI_1, q_MD_codeAt_53]
      exact hq
    by_cases e : j = i
    · subst e
      refine Or.inr ⟨nI (r 0 + rf_su (fun j => rf_sz (cd j)) j), hstep _ ?_, fun _ => rfl⟩
      rw [pu_br_t rfl, if_pos hj]
    · refine Or.inl ⟨(nI (1 + rf_su z (j + 1)), nI (r 0 + rf_su (fun j => rf_sz (cd j)) (j + 1))), ⟨by omega, rfl, rfl⟩, hstep _ ?_⟩
      rw [pu_br_f (fun q => e ((nI_eq (by omega) hi).mp q))]
      show _ = q_MD_codeAt_28 _ (nI L) rec (nI i) (nI (r 0)) f (nI (1 + rf_su z (j + 1))) 0 (nI (r 0 + rf_su (fun j => rf_sz (cd j)) (j + 1))) (nI (j + 1))
      rw [rf_su, rf_su, ← Nat.add_assoc, ← Nat.add_assoc]
theorem rf_way_tr {key : Int32} {root D k : Nat} (h : rf_tr n c D root) (hk : ∀ i, i < k → rf_gb n c (rf_way n c key root i) 0 = 5) (hkD : k < D) : ∀ j, j ≤ k → rf_tr n c (D - j) (rf_way n c key root j)
  | 0, _ => h
  | j + 1, hj => by
    have ih := rf_way_tr h hk hkD j (by omega)
    rw [show D - j = (D - (j + 1)) + 1 by omega] at ih
    exact (ih.2.2.2.2 (hk j (by omega))).2.2 _ (by have := rf_slot_le (rf_gb n c (rf_way n c key root j)) key (rf_gb n c (rf_way n c key root j) 1); show rf_slot _ _ _ < _; omega)
/-- find, in the reference -/
theorem rf_mfind {mn : Nat → Int32} (hn : rf_bt n) (hmn : rf_md mn n) (h1 : 1 ≤ c) (hc : c ≤ 24) (key : Int32) (ht : rf_tr n c 23 (n 70)) {k : Nat} (hk : k < 23) (hk5 : ∀ i, i < k → rf_gb n c (rf_way n c key (n 70) i) 0 = 5) (hk13 : rf_gb n c (rf_way n c key (n 70) k) 0 = 13) (len deep at' bad : Int32) (rec way turn : Nat → Int32) :
    ∃ (a' b' : Int32) (way' turn' : Nat → Int32), (∀ i, i ≤ k → way' i = nI (rf_way n c key (n 70) i)) ∧ (∀ i, i < k → turn' i = nI (rf_sl n c key (rf_way n c key (n 70) i))) ∧
      (rf_fd (rf_gb n c (rf_way n c key (n 70) k)) key (rf_sl n c key (rf_way n c key (n 70) k)) → ∃ w, f_MD_find mn len deep at' bad rec way turn key = some (1, nI (rf_cL (rf_gb n c (rf_way n c key (n 70) k)) (rf_sl n c key (rf_way n c key (n 70) k))), nI k, a', b', w, way', turn') ∧ ∀ j, j < rf_cL (rf_gb n c (rf_way n c key (n 70) k)) (rf_sl n c key (rf_way n c key (n 70) k)) → w j = nI (rf_rc n (rf_gb n c (rf_way n c key (n 70) k)) (rf_sl n c key (rf_way n c key (n 70) k)) j)) ∧
      (¬ rf_fd (rf_gb n c (rf_way n c key (n 70) k)) key (rf_sl n c key (rf_way n c key (n 70) k)) → f_MD_find mn len deep at' bad rec way turn key = some (0, len, nI k, a', b', rec, way', turn')) := by
  obtain ⟨k', a1, b1, way', turn', q1, q2, q3, q4, q5, q6, q7⟩ := rf_goto hn hmn h1 hc key (D := 23) (by omega) (rf_tr_gd ht) deep at' bad way turn
  have hkk : k' = k := rf_way_end q2 q3 hk5 hk13
  subst hkk
  have htl := rf_way_tr ht hk5 hk k' (Nat.le_refl _)
  rw [show 23 - k' = (22 - k') + 1 by omega] at htl
  have hsle : rf_sl n c key (rf_way n c key (n 70) k') ≤ rf_gb n c (rf_way n c key (n 70) k') 1 := rf_slot_le _ _ _
  obtain ⟨t1, t2, t3, t4, t5⟩ := htl
  have hq6 := q6 k' (Nat.le_refl _)
  generalize rf_way n c key (n 70) k' = p at *
  generalize rf_sl n c key p = s at *
  have h30 := t3.2.2.2.1
  have g1 : rf_gb n c p 1 = n (64 * p + 1) := rf_gb_at (by omega) t2 (by omega)
  have e0 : (64 : Int32) * nI p + (1 : Int32) = nI (64 * p + 1) := by rw [show (64 : Int32) * nI p = nI (64 * p) from pk_mul 64 p]; exact nI_1 _
  have hhead : ∀ q, pu_br (nI s = nI (rf_gb n c p 1)) (some ((0 : Int32), len, nI k', a1, b1, rec, way', turn')) (pu_b3 (f_MD_keyAt mn a1 b1 (nI p) (nI s)) (fun r8 w9 w10 => pu_br (r8 = key) (pu_b5 (f_MD_fetchRecord mn len w9 w10 rec (nI p) (nI s)) (fun r11 w12 w13 w14 w15 => some ((1 : Int32), w12, nI k', w13, w14, w15, way', turn'))) (some ((0 : Int32), len, nI k', w9, w10, rec, way', turn')))) = q → f_MD_find mn len deep at' bad rec way turn key = q := by
    intro q hq
    rw [f_MD_find, q5, pu_b6_s, pu_ck_t (vp_in_nI (by omega) (by decide)), nI_clamp (by omega), hq6, pu_nm, e0, pu_ck_t (vp_in_nI (by omega) (by decide)), nI_clamp (by omega), hmn _ (by omega), ← g1]
    exact hq
  by_cases es : s = rf_gb n c p 1
  · refine ⟨a1, b1, way', turn', q6, q7, fun q => ?_, fun _ => hhead _ ?_⟩
    · have := q.2.1; omega
    · rw [pu_br_t (by rw [es])]
  · have hs : s < rf_gb n c p 1 := by omega
    obtain ⟨kk, z, hky⟩ := rf_cl_ky hk13 (t4 hk13 s hs)
    have hc0 := (rf_cl_c0 (t4 hk13 s hs)).1
    have hkl : kk < 2097152 := by
      unfold rf_ky at hky
      rw [if_pos hk13] at hky
      cases hln : rf_ln (rf_gb n c p) s with
      | none => rw [hln] at hky; cases hky
      | some v => rw [hln] at hky; exact (rf_rd_lt (rf_gb_lt hn c p) hky).1
    obtain ⟨a2, ha2⟩ := rf_keyAt hn hmn (p := p) (c := c) (by omega) t2 hc t3 hs hky a1 b1
    obtain ⟨a3, w, hf1, hf2⟩ := rf_fetchRecord hn hmn (p := p) (c := c) (by omega) t2 hc t3 hs hc0 len a2 0 rec
    have hne : ¬ nI s = nI (rf_gb n c p 1) := fun q => es ((nI_eq (by omega) (by omega)).mp q)
    by_cases ek : nI kk = key
    · refine ⟨a3, 0, way', turn', q6, q7, fun _ => ⟨w, hhead _ ?_, hf2⟩, fun q => ?_⟩
      · rw [pu_br_f hne, ha2, pu_b3_s, pu_br_t ek, hf1, pu_b5_s]
      · exact absurd ⟨by rw [← ek]; exact nI_pos (by omega), hs, by rw [hky]; exact ek⟩ q
    · refine ⟨a2, 0, way', turn', q6, q7, fun q => ?_, fun _ => hhead _ ?_⟩
      · have := q.2.2
        rw [hky] at this
        exact absurd this ek
      · rw [pu_br_f hne, ha2, pu_b3_s, pu_br_f ek]
/-- load, in the class -/
theorem rf_xload {pb : Nat → Int32} (hn : rf_bt n) (hpb : rf_pg pb n) (h1 : 1 ≤ c) (hc : c ≤ 24) (key : Int32) (ht : rf_tr n c 23 (n 70)) {up : Int32} (hup : ¬ up = 0) (rl rcnt cnt last leaf depth slot : Int32) (rb rco rst b st sz path slots : Nat → Int32) :
    ∃ (k : Nat) (rl' rcnt' cnt' last' leaf' dep' slot' : Int32) (rb' rco' rst' b' st' sz' path' slots' : Nat → Int32), k < 23 ∧ (∀ i, i < k → rf_gb n c (rf_way n c key (n 70) i) 0 = 5) ∧ rf_gb n c (rf_way n c key (n 70) k) 0 = 13 ∧
      f_RF_load up (nI c) pb rl rcnt rb rco rst cnt last leaf b st sz depth slot path slots key = some (nI (rf_dv (rf_fd (rf_gb n c (rf_way n c key (n 70) k)) key (rf_sl n c key (rf_way n c key (n 70) k)))), rl', rcnt', rb', rco', rst', cnt', last', leaf', b', st', sz', dep', slot', path', slots') ∧
      (rf_fd (rf_gb n c (rf_way n c key (n 70) k)) key (rf_sl n c key (rf_way n c key (n 70) k)) → rf_cL (rf_gb n c (rf_way n c key (n 70) k)) (rf_sl n c key (rf_way n c key (n 70) k)) ≤ 307 ∧ (∀ j, j < rf_cL (rf_gb n c (rf_way n c key (n 70) k)) (rf_sl n c key (rf_way n c key (n 70) k)) → rb' j = rf_sx (rf_rc n (rf_gb n c (rf_way n c key (n 70) k)) (rf_sl n c key (rf_way n c key (n 70) k)) j)) ∧ ∃ m cd z, rf_wq (rf_rc n (rf_gb n c (rf_way n c key (n 70) k)) (rf_sl n c key (rf_way n c key (n 70) k))) (rf_cL (rf_gb n c (rf_way n c key (n 70) k)) (rf_sl n c key (rf_way n c key (n 70) k))) m cd z ∧ rcnt' = nI m ∧ ∀ j, j < m → rco' j = nI (cd j) ∧ rst' j = nI (rf_rc n (rf_gb n c (rf_way n c key (n 70) k)) (rf_sl n c key (rf_way n c key (n 70) k)) 0 + rf_su (fun i => rf_sz (cd i)) j)) := by
  obtain ⟨k, cnt', last', leaf', b', st', sz', path', slots', q1, q2, q3, q4, q5, q6, q7, q8⟩ := rf_find hn hpb h1 hc key (D := 23) (by omega) (rf_tr_gd ht) depth slot cnt last leaf b st sz path slots
  have htl := rf_way_tr ht q2 q1 k (Nat.le_refl _)
  rw [show 23 - k = (22 - k) + 1 by omega] at htl
  obtain ⟨t1, t2, t3, t4, t5⟩ := htl
  by_cases hf : rf_fd (rf_gb n c (rf_way n c key (n 70) k)) key (rf_sl n c key (rf_way n c key (n 70) k))
  · obtain ⟨hc0, hwr⟩ := rf_cl_c0 (t4 q3 _ hf.2.1)
    have h307 : rf_cL (rf_gb n c (rf_way n c key (n 70) k)) (rf_sl n c key (rf_way n c key (n 70) k)) ≤ 307 := by
      obtain ⟨y, kk, z, _, _, h3, _⟩ := hc0
      exact h3
    obtain ⟨w, r1, r2⟩ := rf_read hn hpb hc q6 hf.2.1 hc0 rl rb
    have hrl : ∀ j, rf_rc n (rf_gb n c (rf_way n c key (n 70) k)) (rf_sl n c key (rf_way n c key (n 70) k)) j < 256 := by
      intro j
      unfold rf_rc
      split
      · exact rf_gb_lt hn _ _ _
      · exact hn _
    obtain ⟨x, rc', co', so', d1, d2⟩ := rf_decode hrl r2 h307 rcnt rco rst
    rcases d2 with ⟨d3, m, cd, z, d4, d5, d6⟩ | ⟨_, d3⟩
    · refine ⟨k, nI (rf_cL (rf_gb n c (rf_way n c key (n 70) k)) (rf_sl n c key (rf_way n c key (n 70) k))), rc', cnt', last', leaf', nI k, nI (rf_sl n c key (rf_way n c key (n 70) k)), w, co', so', b', st', sz', path', slots', q1, q2, q3, ?_, fun _ => ⟨h307, r2, m, cd, z, d4, d5, d6⟩⟩
      rw [f_RF_load, pu_br_f hup, q5, pu_b11_s, rf_dv_t hf, pu_br_f (by decide), f_Tree_readRow, r1, pu_b2_s, d1, pu_b4_s, d3, pu_ck_t pu_bz1, pu_b6_s, pu_br_f (by decide)]
      rfl
    · exact absurd hwr d3
  · refine ⟨k, rl, rcnt, cnt', last', leaf', nI k, nI (rf_sl n c key (rf_way n c key (n 70) k)), rb, rco, rst, b', st', sz', path', slots', q1, q2, q3, ?_, fun q => absurd q hf⟩
    rw [f_RF_load, pu_br_f hup, q5, pu_b11_s, rf_dv_f hf, pu_br_t (show nI 0 = (0 : Int32) from rfl)]
    rfl
end RFCA
