section RFPL
variable {n m : Nat → Nat} {c : Nat} {key : Int32} {root k : Nat} {r : Nat → Nat} {L kk f : Nat}
/-- from the chain on, in both -/
theorem rf_place_go (H : rf_hy n c (nI kk) root k) (hk : kk < 2097152) (hr : ∀ j, r j < 256) (hL : L ≤ 307) (hw : rf_wr r L) (hf : (L ≤ 24 ∧ f = 0) ∨ (24 < L ∧ 1 ≤ f ∧ f < 256)) {X : Nat → Nat} (ok : rf_ok m (fun q => rf_ct n c 23 root q + X q)) (hc : c ≤ m 65) (h70 : m 70 = root) (hpe : ∀ q, 1 ≤ rf_ct n c 23 root q → rf_pe n m q) (hhn : rf_hn m (m 65) (rf_cp L) f) (hX : ∀ q, X q = rf_hc m (rf_cp L) f q) (hch : ∀ j, 16 ≤ j → j < L → 24 < L → m (64 * rf_lk m ((j - 16) / 63) f + 1 + (j - 16) % 63) = r j)
    {b rb nb st sz path slots cell : Nat → Int32} {cs cnt last leaf : Int32} (hb : rf_pg b m) (hrb : ∀ a, a < L → rb a = rf_sx (r a)) (nd : rf_nd (rf_gb n c (rf_way n c (nI kk) root k)) cnt leaf nb st sz) (hla : last = nI (rf_gb n c (rf_way n c (nI kk) root k) 2)) (hp : ∀ i, i ≤ k → path i = nI (rf_way n c (nI kk) root i) ∧ slots i = nI (rf_sl n c (nI kk) (rf_way n c (nI kk) root i)))
    {mn rec before mcell cl row way turn : Nat → Int32} (hmn : rf_md mn m) (hrec : ∀ a, a < L → rec a = nI (r a)) (hbf : rf_md before n) (up cols : Int32) (isb : Nat → Int32) (int : Nat → Int64) (size blobs : Nat → Int32) (kind cells mlast made deep at' bad : Int32) :
    rf_fin n c (q_Tree_place_25 (nI k) (nI (rf_sl n c (nI kk) (rf_way n c (nI kk) root k))) (nI L) rb cs (nI (m 65)) b cnt last leaf nb st sz path slots cell (nI kk) (nI f))
      (pu_b2 (f_MD_varint 80 mcell 0 (nI L)) (fun r14 w15 => pu_b2 (f_MD_varint 80 w15 r14 (nI kk)) (fun r16 w17 => pu_br (nI L ≤ 24) (q_MD_insert_125 up cols isb int size blobs (nI L) kind cells mlast made deep at' bad mn before rec cl row w17 way turn (nI kk) (nI f) r16 (nI L)) (q_MD_insert_125 up cols isb int size blobs (nI L) kind cells mlast made deep at' bad mn before rec cl row w17 way turn (nI kk) (nI f) r16 16)))) (nI L) before rec := by
  have k23 := H.2.2.2.2.1
  have c24 := ok.2.2.1
  have hf256 : f < 256 := by rcases hf with h | h <;> omega
  obtain ⟨p1, p2, p3⟩ := rf_hy_pg H (Nat.le_refl k)
  have g30 := p3.2.2.2.1
  have room := rf_lay_room p3
  have h13 := H.2.2.2.2.2.2.1
  have hsle := rf_sl_le (n := n) (c := c) (key := nI kk) (p := rf_way n c (nI kk) root k)
  obtain ⟨kl1, kl2⟩ := rf_lcb_kl (kk := kk) hL hk (by rcases hf with h | h; exact Or.inl h; exact Or.inr h.1) hhn hw hch
  obtain ⟨l28, l1⟩ := rf_lcl_le (kk := kk) hL
  obtain ⟨C, lvl⟩ := rf_lvl_init (U := X) (s := rf_sl n c (nI kk) (rf_way n c (nI kk) root k)) H ok hc h70 hpe (rf_lcb_lt hr hf256) l28 l1 kl1 (fun q => by rw [hX, kl2]) rfl (by omega)
  -- the class
  obtain ⟨w1, q1, q2⟩ := rf_leafCell (r := r) (cell := cell) hL hk hrb hf cs
  obtain ⟨nb1, st1, sz1, q3, q4⟩ := rf_addCell nd (i := rf_sl n c (nI kk) (rf_way n c (nI kk) root k)) (L := rf_lcl L kk) (by omega) (by omega) q2
  have lf1 : leaf = 1 := by
    rcases rf_nd_lf nd with ⟨_, e⟩ | ⟨e, _⟩
    · omega
    · exact e
  have g2 : rf_gb n c (rf_way n c (nI kk) root k) 2 = 0 := p3.2.1 h13
  -- the reference
  have z1 := rf_vz_le L
  have z2 := rf_vz_le kk
  obtain ⟨v1, u1, a1, a2⟩ := rf_mvarint (N := 80) (b := mcell) (s := 0) (v := L) (by omega) (by omega) (by omega)
  obtain ⟨v2, u2, b1, b2⟩ := rf_mvarint (N := 80) (b := v1) (s := rf_vz L) (v := kk) hk (by omega) (by omega)
  rw [Nat.zero_add] at u1
  obtain ⟨v3, u3, u4⟩ := rf_mleaf (r := r) (kk := kk) hL hf (cell := v2) hrec (fun j hj => by
    by_cases e2 : j < rf_vz L
    · rw [b2 j (Or.inl e2)]
      have := a1 j e2
      rw [Nat.zero_add] at this
      rw [this, rf_lcb_0 e2]
    · obtain ⟨t, rfl⟩ : ∃ t, j = rf_vz L + t := ⟨j - rf_vz L, by omega⟩
      rw [b1 t (by omega), rf_lcb_1 (by omega)]) up cols isb int size blobs (nI L) kind cells mlast made deep at' bad mn before cl row way turn (nI kk)
  have wp := rf_way_pe (m := m) (c' := m 65) H hc hpe
  have trm := (rf_tr_frame (n' := m) (c' := m 65) hc H.2.2.2.1 hpe).1
  obtain ⟨k', a', bd', way', turn', r1, r2, r3, r4, r5, r6, r7⟩ := rf_goto ok.1 hmn (c := m 65) (by omega) c24 (nI kk) (D := 23) (by omega) (rf_tr_gd (by rw [h70]; exact trm)) deep at' bad way turn
  rw [h70] at r2 r3 r4 r5 r6 r7
  have hkk : k' = k := by
    have e1 : ∀ i, i < k → rf_gb m (m 65) (rf_way m (m 65) (nI kk) root i) 0 = 5 := fun i hi => by
      rw [(wp i (by omega)).1, (wp i (by omega)).2]; exact H.2.2.2.2.2.1 i hi
    have e2 : rf_gb m (m 65) (rf_way m (m 65) (nI kk) root k) 0 = 13 := by
      rw [(wp k (Nat.le_refl k)).1, (wp k (Nat.le_refl k)).2]; exact h13
    exact rf_way_end (n := m) (c := m 65) (by rw [h70]; exact r2) (by rw [h70]; exact r3) (by rw [h70]; exact e1) (by rw [h70]; exact e2)
  subst hkk
  have esl : ∀ i, i ≤ k' → rf_sl m (m 65) (nI kk) (rf_way m (m 65) (nI kk) root i) = rf_sl n c (nI kk) (rf_way n c (nI kk) root i) := fun i hi => by
    rw [(wp i hi).1]
    unfold rf_sl
    rw [(wp i hi).2]
  rw [esl k' (Nat.le_refl _)] at r5
  have hw' : ∀ i, i ≤ k' → way' i = nI (rf_way n c (nI kk) root i) := fun i hi => by rw [r6 i hi, (wp i hi).1]
  have ht' : ∀ i, i < k' → turn' i = nI (rf_sl n c (nI kk) (rf_way n c (nI kk) root i)) := fun i hi => by rw [r7 i hi, esl i (by omega)]
  have pP : rf_pe n m (rf_way n c (nI kk) root k') := by
    refine hpe _ ?_
    have a := rf_way_ct (q := rf_way n c (nI kk) root k') H.2.2.2.1 H.2.2.2.2.2.1 H.2.2.2.2.1 k' (Nat.le_refl _)
    have b : 1 ≤ rf_ct n c (23 - k') (rf_way n c (nI kk) root k') (rf_way n c (nI kk) root k') := by
      rw [show 23 - k' = (22 - k') + 1 by omega, rf_ct, if_pos rfl]; omega
    omega
  have egm : rf_gb m (m 65) (rf_way n c (nI kk) root k') = rf_gb n c (rf_way n c (nI kk) root k') := (wp k' (Nat.le_refl _)).2
  obtain ⟨cl1, row1, s1, s2⟩ := rf_take hmn (p := rf_way n c (nI kk) root k') (c := m 65) (by omega) (by omega) c24 (by rw [egm]; exact p3) kind cells mlast cl row
  rw [egm] at s1 s2
  obtain ⟨cl2, row2, s3, s4⟩ := rf_insertCell s2 (i := rf_sl n c (nI kk) (rf_way n c (nI kk) root k')) (L := rf_lcl L kk) (by omega) (by omega) (by omega) (by omega) u4
  have sil : (if L ≤ 24 then nI L else (16 : Int32)) = nI (rf_sil L) := by
    unfold rf_sil
    by_cases e : L ≤ 24
    · rw [if_pos e, if_pos e]
    · rw [if_neg e, if_neg e]; rfl
  have y125 : pu_b2 (f_MD_varint 80 mcell 0 (nI L)) (fun r14 w15 => pu_b2 (f_MD_varint 80 w15 r14 (nI kk)) (fun r16 w17 => pu_br (nI L ≤ 24) (q_MD_insert_125 up cols isb int size blobs (nI L) kind cells mlast made deep at' bad mn before rec cl row w17 way turn (nI kk) (nI f) r16 (nI L)) (q_MD_insert_125 up cols isb int size blobs (nI L) kind cells mlast made deep at' bad mn before rec cl row w17 way turn (nI kk) (nI f) r16 16))) = q_MD_insert_125 up cols isb int size blobs (nI L) kind cells mlast made deep at' bad mn before rec cl row v2 way turn (nI kk) (nI f) (nI (rf_vz L + rf_vz kk)) (nI (rf_sil L)) := by
    rw [show (0 : Int32) = nI 0 from rfl, u1, pu_b2_s, u2, pu_b2_s]
    by_cases e : L ≤ 24
    · rw [if_pos e] at sil
      rw [pu_br_t (show nI L ≤ (24 : Int32) from nI_le (b := 24) e (by omega)), sil]
    · rw [if_neg e] at sil
      rw [pu_br_f (show ¬ nI L ≤ (24 : Int32) from nI_ge (a := 24) (by omega) (by omega)), sil]
  rw [y125, u3, q_MD_insert_191, r5, pu_b6_s, pu_ck_t (vp_in_nI (by omega) (by decide)), nI_clamp (by omega), hw' k' (Nat.le_refl _), s1, pu_b5_s, s3, pu_b3_s, q_Tree_place_25, q1, pu_b2_s, q3, pu_b4_s, f_Tree_settle, hla, g2, h13]
  have go := rf_settle_go H up cols isb int size blobs (nI L) before rec hbf (nI k') k' (Nat.le_refl _) lvl (by omega) (cs := nI (rf_lcl L kk)) (cell := w1) (path := path) (slots := slots) hb q4 (Or.inr ⟨lf1, rfl⟩) (fun j hj => (hp j hj).1) (fun j hj => (hp j (by omega)).2) 0 (by omega) 1999 (by omega) (made := nI (rf_lcl L kk)) (at' := a') (bad := bd') (mcell := v3) hmn s4 hw' ht' 1999 (by omega)
  rw [show pu_fu = 1999 + 1 from rfl, show (0 : Int32) = nI 0 from rfl]
  generalize q_Tree_settle_7 (fun v_cellSize v_pages_count v_pages_bytes v_node_count v_node_last v_node_leaf v_node_bytes v_node_starts v_node_sizes v_path v_slots v_cell x_1 => q_Tree_settle_123 (nI k') v_cellSize v_pages_count v_pages_bytes v_node_count v_node_last v_node_leaf v_node_bytes v_node_starts v_node_sizes v_path v_slots v_cell x_1) (nI k') (1999 + 1) (nI (rf_lcl L kk)) (nI (m 65)) b (nI (rf_gb n c (rf_way n c (nI kk) root k') 1 + 1)) (nI 0) leaf nb1 st1 sz1 path slots w1 (nI k') (nI 0) = x at go ⊢
  rcases go with ⟨a0, a1', a2', a3, a4, a5, a6, a7, a8, a9, a10, a11, e, rest⟩ | ⟨m', a0, a2', a3, a4, a5, a6, a7, a8, a9, a10, a11, e, rest⟩
  · refine Or.inl ⟨a0, a1', a2', a3, a4, a5, a6, a7, a8, a9, a10, a11, ?_, rest⟩
    rw [e, pu_b13_s, pu_ck_t pu_bz0]
  · refine Or.inr ⟨m', a0, a2', a3, a4, a5, a6, a7, a8, a9, a10, a11, ?_, rest⟩
    rw [e, pu_b13_s, pu_ck_t pu_bz1]
/-- place, in both -/
theorem rf_place (H : rf_hy n (n 65) (nI kk) (n 70) k) (hk : kk < 2097152) (hr : ∀ j, r j < 256) (hL : L ≤ 307) (hw : rf_wr r L)
    {b rb nb st sz path slots cell : Nat → Int32} {cs cnt last leaf : Int32} (hb : rf_pg b n) (hrb : ∀ a, a < L → rb a = rf_sx (r a)) (nd : rf_nd (rf_gb n (n 65) (rf_way n (n 65) (nI kk) (n 70) k)) cnt leaf nb st sz) (hla : last = nI (rf_gb n (n 65) (rf_way n (n 65) (nI kk) (n 70) k) 2)) (hp : ∀ i, i ≤ k → path i = nI (rf_way n (n 65) (nI kk) (n 70) i) ∧ slots i = nI (rf_sl n (n 65) (nI kk) (rf_way n (n 65) (nI kk) (n 70) i)))
    {mn rec rec0 before mcell cl row way turn : Nat → Int32} (hmn : rf_md mn n) (hrec : ∀ a, a < L → rec a = nI (r a)) (hbf : rf_md before n) (up cols : Int32) (isb : Nat → Int32) (int : Nat → Int64) (size blobs : Nat → Int32) (len0 kind cells mlast made deep at' bad : Int32) (hE : f_MD_encode cols isb int size blobs len0 rec0 = some (nI L, rec)) :
    rf_fin n (n 65) (f_Tree_place (nI k) (nI (rf_sl n (n 65) (nI kk) (rf_way n (n 65) (nI kk) (n 70) k))) (nI L) rb cs (nI (n 65)) b cnt last leaf nb st sz path slots cell (nI kk))
      (q_MD_insert_66 up cols isb int size blobs len0 kind cells mlast made deep at' bad mn before rec0 cl row mcell way turn (nI kk)) (nI L) before rec := by
  have ok0 : rf_ok n (fun q => rf_ct n (n 65) 23 (n 70) q) := ⟨H.1, H.2.1, H.2.2.1, H.2.2.2.2.2.2.2.1, H.2.2.2.2.2.2.2.2, fun q hq => rf_ct_in H.2.2.2.1 hq⟩
  rw [f_Tree_place, q_MD_insert_66, hE, pu_b2_s]
  by_cases e : L ≤ 24
  · have cp0 : rf_cp L = 0 := by unfold rf_cp; rw [if_pos e]
    rw [pu_br_t (show nI L ≤ (24 : Int32) from nI_le (b := 24) e (by omega)), f_MD_makeChain, show pu_fu = 1999 + 1 from rfl, q_MD_makeChain_7, pu_br_t (show nI L ≤ (24 : Int32) from nI_le (b := 24) e (by omega)), pu_b2_s, pu_br_t (by decide)]
    exact rf_place_go (f := 0) (m := n) (X := fun _ => 0) H hk hr hL hw (Or.inl ⟨e, rfl⟩) ok0 (Nat.le_refl _) rfl (fun q _ a _ => rfl) (by rw [cp0]; rfl) (fun q => by rw [cp0]; rfl) (fun j _ _ h => by omega) hb hrb nd hla hp hmn hrec hbf up cols isb int size blobs kind cells mlast made deep at' bad
  · have ch := rf_chain_go (U := fun q => rf_ct n (n 65) 23 (n 70) q) (m0 := n) hr (by omega) hL hrb hrec (rf_cp L) 0 (by omega) (m := n) (ps := fun _ => 0) (b := b) (mn := mn) ok0 (fun j hj => by omega) hb hmn (Nat.le_refl _) rfl (fun q _ a _ => rfl) 1999 1999 (by unfold rf_cp; split <;> omega) (by unfold rf_cp; split <;> omega)
    rw [if_pos rfl, if_pos (show 16 + 63 * 0 ≤ L by omega)] at ch
    rw [pu_br_f (show ¬ nI L ≤ (24 : Int32) from nI_ge (a := 24) (by omega) (by omega)), f_Tree_writeChain, f_MD_makeChain, show pu_fu = 1999 + 1 from rfl]
    rw [show nI 0 = (0 : Int32) from rfl, show nI (16 + 63 * 0) = (16 : Int32) from rfl] at ch
    rcases ch with ⟨pc, pb, w, e1, e2⟩ | ⟨m', ps, pb, w, e1, e2, e3, e4, e5, e6, e7, e8, e9⟩
    · rw [e1, e2, pu_b3_s, pu_br_t rfl, pu_b2_s, pu_br_f (by decide)]
      obtain ⟨rw', r1, r2⟩ := rf_noRoom (now := w) hbf
      rw [r1, pu_b2_s]
      exact Or.inl ⟨_, _, _, _, _, _, _, _, _, _, _, _, rfl, _, _, _, _, _, _, _, _, _, _, _, _, _, rfl, r2⟩
    · have cp1 : 1 ≤ rf_cp L := by unfold rf_cp; rw [if_neg e]; omega
      obtain ⟨p1, p2, p3⟩ := e6 0 (by omega)
      have c24 := e5.2.2.1
      obtain ⟨h1, h2⟩ := rf_chv_hn e6 (rf_cp L) (Nat.le_refl _)
      rw [Nat.sub_self, if_pos (by omega)] at h1 h2
      rw [e1, e2, pu_b3_s, pu_br_f (nI_ne0 (n := ps 0) (by omega) (by omega)), pu_b2_s, pu_br_t (nI_pos' (by omega))]
      refine rf_place_go (f := ps 0) (m := m') (X := fun q => rf_cps ps (rf_cp L) q) H hk hr hL hw (Or.inr ⟨by omega, by omega, by omega⟩) e5 e7 e8 e9 h1 (fun q => ?_) (fun j j1 j2 _ => ?_) e3 hrb nd hla hp e4 hrec hbf up cols isb int size blobs kind cells mlast made deep at' bad
      · have a := h2 q
        have b : rf_cps ps 0 q = 0 := rfl
        omega
      · have hj : (j - 16) / 63 < rf_cp L := by unfold rf_cp; rw [if_neg e]; omega
        have lk := rf_chv_lk e6 ((j - 16) / 63) 0 (by omega)
        rw [Nat.zero_add] at lk
        have pg := (e6 _ hj).2.2 (1 + (j - 16) % 63) (by omega)
        rw [lk, Nat.add_assoc, pg]
        unfold rf_cpg
        rw [if_neg (by omega), if_pos (by omega)]
        congr 1
        omega
end RFPL
