section RFSP
variable {m U : Nat → Nat} {kd M la D : Nat} {ln : Nat → Nat} {cb : Nat → Nat → Nat} {C : Nat → Nat}
def rf_sl1 (kd M : Nat) (ln : Nat → Nat) (cb : Nat → Nat → Nat) : Nat → Nat := rf_mk kd (rf_sf kd (rf_ft ln M)) (rf_sa kd (rf_ft ln M) cb) ln cb
def rf_sl2 (kd M la : Nat) (ln : Nat → Nat) (cb : Nat → Nat → Nat) : Nat → Nat := rf_mk kd (M - rf_ft ln M) la (fun i => ln (rf_ft ln M + i)) (fun i => cb (rf_ft ln M + i))
def rf_sp (m : Nat → Nat) (P kd M la : Nat) (ln : Nat → Nat) (cb : Nat → Nat → Nat) : Nat → Nat := rf_wp (rf_wp (rf_tn m) (rf_tk m) (rf_sl1 kd M ln cb)) P (rf_sl2 kd M la ln cb)
def rf_xc (r key : Nat) : Nat → Nat := fun k => if k = 0 then r else rf_ve key (k - 1)
theorem rf_xc_s (r key j : Nat) : rf_xc r key (1 + j) = rf_ve key j := by unfold rf_xc; rw [if_neg (by omega), Nat.add_sub_cancel_left]
theorem rf_sf_le {f : Nat} : rf_sf kd f ≤ f := by unfold rf_sf; split <;> omega
theorem rf_sl1_room (h : rf_hand m kd M la D ln cb C) (hs : rf_su ln M + M ≤ 89) (hf : rf_ft ln M < M) : 4 + rf_sf kd (rf_ft ln M) + rf_su ln (rf_sf kd (rf_ft ln M)) ≤ 64 := by
  obtain ⟨f1, f2, f3, f4⟩ := rf_hand_ft h hs hf
  have a := rf_sf_le (kd := kd) (f := rf_ft ln M)
  have b := rf_su_le_of (f := ln) a
  omega
theorem rf_kd_or (h : rf_hand m kd M la D ln cb C) : kd = 13 ∨ kd = 5 := by
  rcases h.2.2.2 with k | k
  · exact Or.inl k.1
  · exact Or.inr k.1
theorem rf_splitTo {m1 : Nat → Nat} (h : rf_hand m kd M la D ln cb C) (hs : rf_su ln M + M ≤ 89) (hf : rf_ft ln M < M) {cnt leaf last : Int32} {nb st sz b : Nat → Int32} (nx : rf_nx M ln cb cnt nb st sz) (hkd : (leaf = 0 ∧ kd = 5) ∨ (leaf = 1 ∧ kd = 13)) (hla : last = nI la) {c r P : Nat} (hb : rf_pg b m1) (hc : c ≤ 24) (r1 : 1 ≤ r) (r2 : r ≤ c) (p1 : 1 ≤ P) (p2 : P ≤ c) :
    ∃ w, f_Tree_splitTo (nI c) cnt last leaf nb st sz b (nI r) (nI P) = some (nI (rf_kyv kd (ln (rf_ft ln M - 1)) (cb (rf_ft ln M - 1))), w) ∧ rf_pg w (rf_wp (rf_wp m1 r (rf_sl1 kd M ln cb)) P (rf_sl2 kd M la ln cb)) := by
  obtain ⟨f1, f2, f3, f4⟩ := rf_hand_ft h hs hf
  have hr1 := rf_sl1_room h hs hf
  obtain ⟨z, hk1, hk2⟩ := rf_hand_key h (i := rf_ft ln M - 1) (by omega)
  have hsa : rf_sa kd (rf_ft ln M) cb < 256 := by
    unfold rf_sa; split
    · omega
    · exact h.1 _ _
  have key : f_Node_cellKey cnt leaf nb st sz (nI (rf_ft ln M - 1)) = some (nI (rf_kyv kd (ln (rf_ft ln M - 1)) (cb (rf_ft ln M - 1)))) := by
    refine rf_key_nx (z := z) nx (by omega) (h.1 _) hk1 ?_
    rcases hkd with ⟨a, b⟩ | ⟨a, b⟩
    · rcases hk2 with ⟨_, k⟩ | ⟨k, _⟩
      · exact Or.inl ⟨a, k⟩
      · omega
    · rcases hk2 with ⟨k, _⟩ | ⟨_, k⟩
      · omega
      · exact Or.inr ⟨a, k⟩
  obtain ⟨w1, s1, s2⟩ := rf_store (n := m1) (c := c) (p := r) (kd := kd) (m := rf_sf kd (rf_ft ln M)) (la := rf_sa kd (rf_ft ln M) cb) (f0 := 0) nx (by have := rf_sf_le (kd := kd) (f := rf_ft ln M); omega) hkd hb hc r1 r2 (by rw [rf_z0]; exact hr1) hsa
  rw [rf_z0, rf_z0, Nat.zero_add] at *
  obtain ⟨w2, s3, s4⟩ := rf_store (n := rf_wp m1 r (rf_mk kd (rf_sf kd (rf_ft ln M)) (rf_sa kd (rf_ft ln M) cb) ln cb)) (c := c) (p := P) (kd := kd) (m := M - rf_ft ln M) (la := la) (f0 := rf_ft ln M) nx (by omega) hkd s2 hc p1 p2 f4 h.2.1
  rw [show rf_ft ln M + (M - rf_ft ln M) = M by omega, ← nx.2.1, ← hla] at s3
  refine ⟨w2, ?_, s4⟩
  have ef : nI (rf_ft ln M) - (1 : Int32) = nI (rf_ft ln M - 1) := pk_sub (b := 1) f1
  rw [f_Tree_splitTo, rf_fitting nx, pu_b1_s, ef, key, pu_b1_s]
  rcases hkd with ⟨a, b⟩ | ⟨a, b⟩
  · have n13 : ¬ kd = 13 := by omega
    unfold rf_sf rf_sa at s1
    rw [if_neg n13, if_neg n13] at s1
    rw [pu_br_t a, rf_child_nx nx (by omega) (h.2.2.1 _ (by omega)).1 (h.1 _ _), pu_b1_s, show (0 : Int32) = nI 0 from rfl, s1, pu_b1_s, q_Tree_splitTo_74, s3, pu_b1_s]
  · unfold rf_sf rf_sa at s1
    rw [if_pos b, if_pos b] at s1
    rw [pu_br_f (by rw [a]; decide), show (0 : Int32) = nI 0 from rfl, s1, pu_b1_s, q_Tree_splitTo_74, s3, pu_b1_s]
theorem rf_makeInner {r key : Nat} (hk : key < 2097152) (cs : Int32) (cell : Nat → Int32) : ∃ cell', f_Tree_makeInnerCell cs cell (nI r) (nI key) = some (nI (1 + rf_vz key), cell') ∧ ∀ k, k < 1 + rf_vz key → cell' k = rf_sx (rf_xc r key k) := by
  have hz := rf_vz_le key
  obtain ⟨w, q1, q2, q3⟩ := rf_writeVarint (N := 32) (b := upd cell 0 (rf_sx r)) (s := 1) (v := key) hk (by omega) (by omega)
  refine ⟨w, ?_, fun k hk => ?_⟩
  · rw [f_Tree_makeInnerCell, show (0 : Int32) = nI 0 from rfl, pu_ck_t (vp_in_nI (by omega) (by decide)), nI_clamp (by omega), rf_nar_sx, pu_nm, show (1 : Int32) = nI 1 from rfl, q1, pu_b2_s]
  · by_cases e : k = 0
    · subst e; rw [q3 0 (Or.inl (by omega)), pk_us]; rfl
    · have := q2 (k - 1) (by omega)
      rw [show 1 + (k - 1) = k by omega] at this
      rw [this]
      unfold rf_xc
      rw [if_neg e]
/-- the class splits a page -/
theorem rf_xsplit (H : rf_ok m U) (hp : rf_tk m ≠ 0) (h : rf_hand m kd M la D ln cb C) (hs : rf_su ln M + M ≤ 89) (hf : rf_ft ln M < M) {cnt leaf last cs dep : Int32} {nb st sz b path slots cell : Nat → Int32} (nx : rf_nx M ln cb cnt nb st sz) (hkd : (leaf = 0 ∧ kd = 5) ∨ (leaf = 1 ∧ kd = 13)) (hla : last = nI la) (hb : rf_pg b m)
    {P A l i s : Nat} (l1 : 1 ≤ l) (l2 : l ≤ 24) (hP1 : 2 ≤ P) (hP2 : P ≤ m 65) (hA1 : 1 ≤ A) (hA2 : A ≤ m 65) (pl : path l = nI P) (pa : path (l - 1) = nI A) (ps : slots (l - 1) = nI s) {g : Nat → Nat} (eg : rf_gb (rf_sp m P kd M la ln cb) (rf_tn m 65) A = g) (gl : rf_lay g) (g5 : g 0 = 5) (hsg : s ≤ g 1) (kb kx) :
    ∃ w nb' st' sz' cell', q_Tree_settle_45 kb kx dep cs (nI (m 65)) b cnt last leaf nb st sz path slots cell (nI l) (nI i) = kb (nI (1 + rf_vz (rf_kyv kd (ln (rf_ft ln M - 1)) (cb (rf_ft ln M - 1))))) (nI (rf_tn m 65)) w (nI (g 1 + 1)) (nI (g 2)) 0 nb' st' sz' path slots cell' (nI (l - 1)) (nI (i + 1)) ∧ rf_pg w (rf_sp m P kd M la ln cb) ∧
      rf_nx (g 1 + 1) (rf_ins s (rf_cln g) (1 + rf_vz (rf_kyv kd (ln (rf_ft ln M - 1)) (cb (rf_ft ln M - 1))))) (rf_ins s (rf_ccb g) (rf_xc (rf_tk m) (rf_kyv kd (ln (rf_ft ln M - 1)) (cb (rf_ft ln M - 1))))) (nI (g 1 + 1)) nb' st' sz' := by
  obtain ⟨t1, t2, t3, t4, t5, t6, t7, t8⟩ := rf_tk_ok H hp
  have c24 := t5.2.2.1
  have f1 := (rf_hand_ft h hs hf).1
  obtain ⟨w1, q1, r1⟩ := rf_takePage H hb hp
  obtain ⟨w2, q2, r2⟩ := rf_splitTo h hs hf nx hkd hla (c := rf_tn m 65) (r := rf_tk m) (P := P) r1 c24 (by omega) t2 (by omega) (by omega)
  obtain ⟨z, hk1, _⟩ := rf_hand_key h (i := rf_ft ln M - 1) (by omega)
  obtain ⟨cell', q3, r3⟩ := rf_makeInner (r := rf_tk m) hk1 cs cell
  have hz := rf_vz_le (rf_kyv kd (ln (rf_ft ln M - 1)) (cb (rf_ft ln M - 1)))
  have bt1 : rf_bt (rf_sp m P kd M la ln cb) := by
    have hcb := h.1
    have hM : M ≤ 89 := by omega
    have sf := rf_sf_le (kd := kd) (f := rf_ft ln M)
    have kdl : kd < 256 := by rcases rf_kd_or h with e | e <;> omega
    have sa : rf_sa kd (rf_ft ln M) cb < 256 := by unfold rf_sa; split <;> first | omega | exact hcb _ _
    exact rf_wp_bt (rf_wp_bt t5.1 (rf_mk_lt kdl (by omega) sa (fun i k _ => hcb _ _))) (rf_mk_lt kdl (by omega) h.2.1 (fun i k _ => hcb _ _))
  obtain ⟨rr, cn, la', le, nb1, st1, sz1, q4, q5, _⟩ := rf_load bt1 r2 (c := rf_tn m 65) (p := A) c24 (by omega) cnt last leaf nb st sz
  rw [eg] at q5
  have gb : ∀ k, g k < 256 := by rw [← eg]; exact rf_gb_lt bt1 _ _
  obtain ⟨_, nd⟩ := rf_nd_of gb q5 gl
  obtain ⟨nb2, st2, sz2, q6, q7⟩ := rf_addCell nd (i := s) (L := 1 + rf_vz (rf_kyv kd (ln (rf_ft ln M - 1)) (cb (rf_ft ln M - 1)))) hsg (by omega) r3
  have le0 : le = 0 := by
    rcases rf_nd_lf nd with ⟨e, _⟩ | ⟨_, e⟩
    · exact e
    · omega
  have la0 : la' = nI (g 2) := q5.2.1
  refine ⟨w2, nb2, st2, sz2, cell', ?_, r2, q7⟩
  have el : nI l + (-1 : Int32) = nI (l - 1) := by
    have := rf_m1 (l - 1)
    rw [show l - 1 + 1 = l by omega] at this
    exact this
  rw [q_Tree_settle_45, q1, pu_b3_s, pu_br_f (nI_ne0 (by omega) (by omega)), pu_ck_t (vp_in_nI (by omega) (by decide)), nI_clamp (by omega), pl, q2, pu_b2_s, q3, pu_b2_s, el, pu_nm, pu_ck_t (vp_in_nI (by omega) (by decide)), nI_clamp (by omega), pa, q4, pu_b7_s, pu_ck_t (vp_in_nI (by omega) (by decide)), ps, q6, pu_b4_s, nI_1, pu_nm, le0, la0]
theorem rf_xsplit0 (H : rf_ok m U) (hp : rf_tk m = 0) {cnt leaf last cs dep : Int32} {nb st sz b path slots cell : Nat → Int32} (hb : rf_pg b m) {x1 x2 : Int32} (kb kx) : q_Tree_settle_45 kb kx dep cs (nI (m 65)) b cnt last leaf nb st sz path slots cell x1 x2 = some (0, cs, nI (m 65), b, cnt, last, leaf, nb, st, sz, path, slots, cell) := by
  rw [q_Tree_settle_45, rf_takePage0 H hb hp, pu_b3_s, pu_br_t rfl]
/-- the reference splits a page -/
theorem rf_msplit (H : rf_ok m U) (hp : rf_tk m ≠ 0) (h : rf_hand m kd M la D ln cb C) (hs : rf_su ln M + M ≤ 89) (hf : rf_ft ln M < M) {cl row b cell way turn : Nat → Int32} (ry : rf_ry M ln cb cl row) (hb : rf_md b m)
    {P A l s : Nat} (l1 : 1 ≤ l) (l2 : l ≤ 24) (hP1 : 2 ≤ P) (hP2 : P ≤ m 65) (hA1 : 1 ≤ A) (hA2 : A ≤ m 65) (pl : way l = nI P) (pa : way (l - 1) = nI A) (ps : turn (l - 1) = nI s) {g : Nat → Nat} (eg : rf_gb (rf_sp m P kd M la ln cb) (rf_tn m 65) A = g) (gl : rf_lay g) (g5 : g 0 = 5) (hsg : s ≤ g 1) (made at' bad : Int32) :
    ∃ w cl' row' cell' at2, q_MD_split_79 (nI kd) (nI M) (nI la) made (nI l) at' bad b cl row cell way turn = some (1, nI 5, nI (g 1 + 1), nI (g 2), nI (1 + rf_vz (rf_kyv kd (ln (rf_ft ln M - 1)) (cb (rf_ft ln M - 1)))), nI (l - 1), at2, 0, w, cl', row', cell', way, turn) ∧ rf_md w (rf_sp m P kd M la ln cb) ∧
      rf_ry (g 1 + 1) (rf_ins s (rf_cln g) (1 + rf_vz (rf_kyv kd (ln (rf_ft ln M - 1)) (cb (rf_ft ln M - 1))))) (rf_ins s (rf_ccb g) (rf_xc (rf_tk m) (rf_kyv kd (ln (rf_ft ln M - 1)) (cb (rf_ft ln M - 1))))) cl' row' := by
  obtain ⟨t1, t2, t3, t4, t5, t6, t7, t8⟩ := rf_tk_ok H hp
  have c24 := t5.2.2.1
  obtain ⟨f1, f2, f3, f4⟩ := rf_hand_ft h hs hf
  have hr1 := rf_sl1_room h hs hf
  have hM : M ≤ 80 := by
    have a := rf_su_ge (f := ln) (m := M) (fun i hi => (h.2.2.1 i hi).1)
    omega
  obtain ⟨w1, q1, r1⟩ := rf_mtakePage H hb hp
  have ft := rf_mfitting ry hM (fun i hi => by have := (h.2.2.1 i hi).2; omega)
  have st := rf_mstart (M := M) (fun i hi => (ry i hi).1) hM (i := rf_ft ln M - 1) (by omega)
  have sfl := rf_sf_le (kd := kd) (f := rf_ft ln M)
  obtain ⟨w2, s1, s2⟩ := rf_mput (n := rf_tn m) (p := rf_tk m) (kd := kd) (m := rf_sf kd (rf_ft ln M)) (la := rf_sa kd (rf_ft ln M) cb) (f0 := 0) ry hM (by omega) (by omega) r1 (by omega) (by rw [rf_z0]; exact hr1)
  rw [rf_z0, rf_z0] at s2
  obtain ⟨w3, s3, s4⟩ := rf_mput (n := rf_wp (rf_tn m) (rf_tk m) (rf_mk kd (rf_sf kd (rf_ft ln M)) (rf_sa kd (rf_ft ln M) cb) ln cb)) (p := P) (kd := kd) (m := M - rf_ft ln M) (la := la) (f0 := rf_ft ln M) ry hM (by omega) (by omega) s2 (by omega) f4
  obtain ⟨z, hk1, hk2⟩ := rf_hand_key h (i := rf_ft ln M - 1) (by omega)
  have hz := rf_vz_le (rf_kyv kd (ln (rf_ft ln M - 1)) (cb (rf_ft ln M - 1)))
  have hsu : rf_su ln (rf_ft ln M - 1 + 1) ≤ rf_su ln M := rf_su_le_of (by omega)
  rw [rf_su] at hsu
  obtain ⟨cl2, row2, u1, u2⟩ := rf_take (n := rf_sp m P kd M la ln cb) s4 (p := A) (c := rf_tn m 65) hA1 (by omega) c24 (by rw [eg]; exact gl) (nI kd) (nI M) (nI la) cl row
  rw [eg] at u1 u2
  have g30 := gl.2.2.2.1
  have groom := rf_lay_room gl
  obtain ⟨cell2, v1, v2, v3⟩ := rf_mvarint (N := 80) (b := upd cell 0 (nI (rf_tk m))) (s := 1) (v := rf_kyv kd (ln (rf_ft ln M - 1)) (cb (rf_ft ln M - 1))) hk1 (by omega) (by omega)
  have hcell : ∀ k, k < 1 + rf_vz (rf_kyv kd (ln (rf_ft ln M - 1)) (cb (rf_ft ln M - 1))) → cell2 k = nI (rf_xc (rf_tk m) (rf_kyv kd (ln (rf_ft ln M - 1)) (cb (rf_ft ln M - 1))) k) := by
    intro k hk
    by_cases e : k = 0
    · subst e; rw [v3 0 (Or.inl (by omega)), pk_us]; rfl
    · have := v2 (k - 1) (by omega)
      rw [show 1 + (k - 1) = k by omega] at this
      rw [this]
      unfold rf_xc
      rw [if_neg e]
  obtain ⟨cl3, row3, x1, x2⟩ := rf_insertCell u2 (i := s) (L := 1 + rf_vz (rf_kyv kd (ln (rf_ft ln M - 1)) (cb (rf_ft ln M - 1)))) hsg (by omega) (by omega) (by omega) hcell
  have ef : nI (rf_ft ln M) - (1 : Int32) = nI (rf_ft ln M - 1) := pk_sub (b := 1) f1
  have el : nI l - (1 : Int32) = nI (l - 1) := pk_sub (b := 1) l1
  have eM : nI M - nI (rf_ft ln M) = nI (M - rf_ft ln M) := pk_sub (by omega)
  -- from the key on
  have tail : ∀ (a0 s0 : Int32) (a2 : Int32), f_MD_read 2000 row a0 0 2000 = some (nI (rf_kyv kd (ln (rf_ft ln M - 1)) (cb (rf_ft ln M - 1))), a2, 0) → q_MD_split_178 (nI kd) (nI M) (nI la) made (nI l) a0 0 w2 cl row cell way turn (nI (rf_tk m)) (nI (rf_ft ln M)) s0 = some (1, nI 5, nI (g 1 + 1), nI (g 2), nI (1 + rf_vz (rf_kyv kd (ln (rf_ft ln M - 1)) (cb (rf_ft ln M - 1)))), nI (l - 1), a2, 0, w3, cl3, row3, cell2, way, turn) := by
    intro a0 s0 a2 hr
    rw [q_MD_split_178, hr, pu_b3_s, pu_ck_t (vp_in_nI (by omega) (by decide)), nI_clamp (by omega), pl, eM, s3, pu_b1_s, el, pu_nm, pu_ck_t (vp_in_nI (by omega) (by decide)), nI_clamp (by omega), pa, u1, pu_b5_s, show (0 : Int32) = nI 0 from rfl, pu_ck_t (vp_in_nI (by omega) (by decide)), nI_clamp (by omega), pu_nm, show (1 : Int32) = nI 1 from rfl, v1, pu_b2_s, pu_ck_t (vp_in_nI (by omega) (by decide)), ps, x1, pu_b3_s, g5]
  have hrow := (ry (rf_ft ln M - 1) (by omega)).2
  have rd : ∀ t v y, rf_rd (cb (rf_ft ln M - 1)) t (ln (rf_ft ln M - 1)) = some (v, y) → f_MD_read 2000 row (nI (rf_su ln (rf_ft ln M - 1) + t)) 0 2000 = some (nI v, nI (rf_su ln (rf_ft ln M - 1) + t + y), 0) := fun t v y ht => rf_mread_loc (N := 2000) (h.1 _) hrow (by omega) (by omega) ht
  have head : ∀ q, pu_br (nI kd = 5) (pu_ck (vp_in (nI (rf_su ln (rf_ft ln M - 1))) 2000) (pu_b1 (f_MD_put (nI kd) cl row w1 (nI (rf_tk m)) 0 (nI (rf_ft ln M - 1)) (row (nI (rf_su ln (rf_ft ln M - 1))).toNatClampNeg)) (fun w30 => pu_nm (nI (rf_su ln (rf_ft ln M - 1)) + 1) (fun t31 => q_MD_split_149 (nI kd) (nI M) (nI la) made (nI l) t31 bad w30 cl row cell way turn (nI (rf_tk m)) (nI (rf_ft ln M)))))) (pu_b1 (f_MD_put (nI kd) cl row w1 (nI (rf_tk m)) 0 (nI (rf_ft ln M)) 0) (fun w6 => q_MD_split_149 (nI kd) (nI M) (nI la) made (nI l) (nI (rf_su ln (rf_ft ln M - 1))) bad w6 cl row cell way turn (nI (rf_tk m)) (nI (rf_ft ln M)))) = q → q_MD_split_79 (nI kd) (nI M) (nI la) made (nI l) at' bad b cl row cell way turn = q := by
    intro q hq
    rw [q_MD_split_79, q1, pu_b2_s, pu_br_f (nI_ne0 (by omega) (by omega)), ft, pu_b1_s, ef, st, pu_b1_s]
    exact hq
  rcases hk2 with ⟨k5, hr⟩ | ⟨k13, L, y, hr, hr2⟩
  · have n13 : ¬ kd = 13 := by omega
    unfold rf_sf rf_sa at s1
    rw [if_neg n13, if_neg n13] at s1
    have h0 := hrow 0 (by have := (h.2.2.1 (rf_ft ln M - 1) (by omega)).1; omega)
    rw [Nat.add_zero] at h0
    refine ⟨w3, cl3, row3, cell2, nI (rf_su ln (rf_ft ln M - 1) + 1 + z), head _ ?_, s4, x2⟩
    rw [pu_br_t (show nI kd = (5 : Int32) by rw [k5]; rfl), pu_ck_t (vp_in_nI (by omega) (by decide)), nI_clamp (by omega), h0, show f_MD_put (nI kd) cl row w1 (nI (rf_tk m)) 0 (nI (rf_ft ln M - 1)) (nI (cb (rf_ft ln M - 1) 0)) = some w2 from s1, pu_b1_s, nI_1, pu_nm, q_MD_split_149, pu_br_f (show ¬ nI kd = (13 : Int32) by rw [k5]; decide)]
    exact tail _ _ _ (rd 1 _ _ hr)
  · unfold rf_sf rf_sa at s1
    rw [if_pos k13, if_pos k13] at s1
    refine ⟨w3, cl3, row3, cell2, nI (rf_su ln (rf_ft ln M - 1) + y + z), head _ ?_, s4, x2⟩
    have r0 := rd 0 _ _ hr
    rw [Nat.add_zero] at r0
    rw [pu_br_f (show ¬ nI kd = (5 : Int32) by rw [k13]; decide), show f_MD_put (nI kd) cl row w1 (nI (rf_tk m)) 0 (nI (rf_ft ln M)) 0 = some w2 from s1, pu_b1_s, q_MD_split_149, pu_br_t (show nI kd = (13 : Int32) by rw [k13]; rfl), r0, pu_b3_s]
    exact tail _ _ _ (rd y _ _ hr2)
end RFSP
