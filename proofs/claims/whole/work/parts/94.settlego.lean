section RFSG
variable {n : Nat → Nat} {c : Nat} {key : Int32} {root k : Nat}
theorem rf_noRoom {n : Nat → Nat} {before now : Nat → Int32} (hb : rf_md before n) : ∃ w, f_MD_noRoom before now = some (-2, w) ∧ rf_md w n := by
  rw [f_MD_noRoom]
  refine rf_loop (fun f x i => q_MD_noRoom_2 before f x (nI i)) (fun i x => ∀ j, j < i → x j = nI (n j)) (fun r => ∃ w, r = some (-2, w) ∧ rf_md w n) 1600 ?_ ?_ 1600 pu_fu now 0 (by omega) (by rw [rf_fu]; omega) (fun j hj => by omega)
  · intro f x hx
    refine ⟨x, ?_, hx⟩
    show q_MD_noRoom_2 before (f + 1) x (nI 1600) = _
    rw [q_MD_noRoom_2, pu_br_t (show (1600 : Int32) ≤ nI 1600 by decide)]
  · intro f x i hi hx
    refine Or.inl ⟨upd x i (nI (n i)), fun j hj => ?_, ?_⟩
    · by_cases e : j = i
      · subst e; rw [pk_us]
      · rw [pk_un e]; exact hx j (by omega)
    · show q_MD_noRoom_2 before (f + 1) x (nI i) = q_MD_noRoom_2 before f (upd x i (nI (n i))) (nI (i + 1))
      rw [q_MD_noRoom_2, pu_br_f (show ¬ (1600 : Int32) ≤ nI i from nI_ge (b := 1600) hi (by omega)), pu_ck_t (vp_in_nI hi (by decide)), pu_ck_t (vp_in_nI hi (by decide)), nI_clamp (by omega), hb i hi, pu_nm, nI_1, pu_nm]
/-- what both answer in the end -/
def rf_fin (n : Nat → Nat) (c : Nat) (x : Option (Int32 × Int32 × Int32 × (Nat → Int32) × Int32 × Int32 × Int32 × (Nat → Int32) × (Nat → Int32) × (Nat → Int32) × (Nat → Int32) × (Nat → Int32) × (Nat → Int32))) (y : Option (Int32 × Int32 × Int32 × Int32 × Int32 × Int32 × Int32 × Int32 × Int32 × (Nat → Int32) × (Nat → Int32) × (Nat → Int32) × (Nat → Int32) × (Nat → Int32) × (Nat → Int32) × (Nat → Int32) × (Nat → Int32))) (len : Int32) (before record : Nat → Int32) : Prop :=
  (∃ cs pc pb cnt last leaf nb st sz path slots cell, x = some (0, cs, pc, pb, cnt, last, leaf, nb, st, sz, path, slots, cell) ∧ ∃ kind cells mlast made deep at' bad now cl row mcell way turn, y = some (-2, len, kind, cells, mlast, made, deep, at', bad, now, before, record, cl, row, mcell, way, turn) ∧ rf_md now n) ∨
  (∃ m' cs pb cnt last leaf nb st sz path slots cell, x = some (1, cs, nI (m' 65), pb, cnt, last, leaf, nb, st, sz, path, slots, cell) ∧ rf_pg pb m' ∧ rf_bt m' ∧ rf_wf m' ∧ c ≤ m' 65 ∧ m' 65 ≤ 24 ∧ ∃ kind cells mlast made deep at' bad now cl row mcell way turn, y = some (1, len, kind, cells, mlast, made, deep, at', bad, now, before, record, cl, row, mcell, way, turn) ∧ rf_md now m')
theorem rf_settle_fit (H : rf_hy n c key root k) (up cols : Int32) (isb : Nat → Int32) (int : Nat → Int64) (size blobs : Nat → Int32) (len : Int32) (before record : Nat → Int32) (dep : Int32) {l : Nat} (hl : l ≤ k) {m U : Nat → Nat} {kd M la D : Nat} {ln : Nat → Nat} {cb : Nat → Nat → Nat} {C : Nat → Nat} (h : rf_lvl n c key root m U l kd M la D ln cb C) (hM : M ≤ 31) (hf : rf_ft ln M = M)
    {cs leaf : Int32} {b nb st sz path slots cell : Nat → Int32} (hb : rf_pg b m) (nx : rf_nx M ln cb (nI M) nb st sz) (hkd : (leaf = 0 ∧ kd = 5) ∨ (leaf = 1 ∧ kd = 13)) (hp : path l = nI (rf_way n c key root l)) (i : Nat) (hi : i < 24) (fx : Nat)
    {made at' bad : Int32} {mn cl row mcell way turn : Nat → Int32} (hmn : rf_md mn m) (ry : rf_ry M ln cb cl row) (hw : way l = nI (rf_way n c key root l)) (fm : Nat) :
    rf_fin n c (q_Tree_settle_7 (fun v_cellSize v_pages_count v_pages_bytes v_node_count v_node_last v_node_leaf v_node_bytes v_node_starts v_node_sizes v_path v_slots v_cell x_1 => q_Tree_settle_123 dep v_cellSize v_pages_count v_pages_bytes v_node_count v_node_last v_node_leaf v_node_bytes v_node_starts v_node_sizes v_path v_slots v_cell x_1) dep (fx + 1) cs (nI (m 65)) b (nI M) (nI la) leaf nb st sz path slots cell (nI l) (nI i))
      (q_MD_insert_217 (fun v_kind v_cells v_last v_made v_deep v_at v_bad v_now v_cellLength v_row v_cell v_way v_turn => q_MD_insert_235 up cols isb int size blobs len v_kind v_cells v_last v_made v_deep v_at v_bad v_now before record v_cellLength v_row v_cell v_way v_turn) (fun v_kind v_cells v_last v_made v_deep v_at v_bad v_now v_cellLength v_row v_cell v_way v_turn => q_MD_insert_240 up cols isb int size blobs len v_kind v_cells v_last v_made v_deep v_at v_bad v_now before record v_cellLength v_row v_cell v_way v_turn) up cols isb int size blobs len before record (fm + 1) (nI kd) (nI M) (nI la) made (nI l) at' bad mn cl row mcell way turn) len before record := by
  have k23 := H.2.2.2.2.1
  obtain ⟨a1, a2, a3⟩ := rf_ft_all ln M
  rw [hf, rf_su1] at a2
  obtain ⟨w1, w2, w3, w4, w5, w6⟩ := rf_lvl_wl H hl h
  obtain ⟨f1, f2, f3⟩ := rf_lvl_fit H hl h (by omega) rfl
  have hla := h.2.2.2.2.1.2.1
  have c24 := h.1.2.2.1
  have hlen := h.2.2.2.2.1.2.2.1
  obtain ⟨w, q1, q2⟩ := rf_storeAll (n := m) (c := m 65) (p := rf_way n c key root l) (kd := kd) (la := la) (last := nI la) nx hkd hb c24 (by omega) w4 (by omega) hla rfl
  obtain ⟨mw, q3, q4⟩ := rf_mput0 (n := m) (p := rf_way n c key root l) (kd := kd) (la := la) ry hmn (by omega) (by omega)
  refine Or.inr ⟨_, cs, w, nI M, nI la, leaf, nb, st, sz, path, slots, cell, ?_, q2, f1, f2, by rw [f3]; exact h.2.1, by rw [f3]; exact c24, nI kd, nI M, nI la, made, nI l, at', bad, mw, cl, row, mcell, way, turn, ?_, q4⟩
  · rw [q_Tree_settle_7, pu_br_f (show ¬ (24 : Int32) ≤ nI i from nI_ge (b := 24) hi (by omega)), rf_fitting nx, hf, pu_b1_s, pu_br_t (nI_le (Nat.le_refl _) (by omega)), q_Tree_settle_123, pu_ck_t (vp_in_nI (by omega) (by decide)), nI_clamp (by omega), hp, q1, pu_b1_s, f3]
  · rw [q_MD_insert_217, rf_mfitting ry (by omega) (fun i hi => by have := (hlen i hi).2; omega), hf, pu_b1_s, pu_br_t (nI_le (Nat.le_refl _) (by omega)), q_MD_insert_240, pu_ck_t (vp_in_nI (by omega) (by decide)), nI_clamp (by omega), hw, q3, pu_b1_s]
theorem rf_settle_go (H : rf_hy n c key root k) (up cols : Int32) (isb : Nat → Int32) (int : Nat → Int64) (size blobs : Nat → Int32) (len : Int32) (before record : Nat → Int32) (hbf : rf_md before n) (dep : Int32) :
    ∀ l, l ≤ k → ∀ {m U : Nat → Nat} {kd M la D : Nat} {ln : Nat → Nat} {cb : Nat → Nat → Nat} {C : Nat → Nat} (_ : rf_lvl n c key root m U l kd M la D ln cb C) (_ : M ≤ 31)
    {cs leaf : Int32} {b nb st sz path slots cell : Nat → Int32} (_ : rf_pg b m) (_ : rf_nx M ln cb (nI M) nb st sz) (_ : (leaf = 0 ∧ kd = 5) ∨ (leaf = 1 ∧ kd = 13)) (_ : ∀ j, j ≤ l → path j = nI (rf_way n c key root j)) (_ : ∀ j, j < l → slots j = nI (rf_sl n c key (rf_way n c key root j))) (i : Nat) (_ : i + l < 23) (fx : Nat) (_ : l + 1 ≤ fx)
    {made at' bad : Int32} {mn cl row mcell way turn : Nat → Int32} (_ : rf_md mn m) (_ : rf_ry M ln cb cl row) (_ : ∀ j, j ≤ l → way j = nI (rf_way n c key root j)) (_ : ∀ j, j < l → turn j = nI (rf_sl n c key (rf_way n c key root j))) (fm : Nat) (_ : l + 1 ≤ fm),
    rf_fin n c (q_Tree_settle_7 (fun v_cellSize v_pages_count v_pages_bytes v_node_count v_node_last v_node_leaf v_node_bytes v_node_starts v_node_sizes v_path v_slots v_cell x_1 => q_Tree_settle_123 dep v_cellSize v_pages_count v_pages_bytes v_node_count v_node_last v_node_leaf v_node_bytes v_node_starts v_node_sizes v_path v_slots v_cell x_1) dep (fx + 1) cs (nI (m 65)) b (nI M) (nI la) leaf nb st sz path slots cell (nI l) (nI i))
      (q_MD_insert_217 (fun v_kind v_cells v_last v_made v_deep v_at v_bad v_now v_cellLength v_row v_cell v_way v_turn => q_MD_insert_235 up cols isb int size blobs len v_kind v_cells v_last v_made v_deep v_at v_bad v_now before record v_cellLength v_row v_cell v_way v_turn) (fun v_kind v_cells v_last v_made v_deep v_at v_bad v_now v_cellLength v_row v_cell v_way v_turn => q_MD_insert_240 up cols isb int size blobs len v_kind v_cells v_last v_made v_deep v_at v_bad v_now before record v_cellLength v_row v_cell v_way v_turn) up cols isb int size blobs len before record (fm + 1) (nI kd) (nI M) (nI la) made (nI l) at' bad mn cl row mcell way turn) len before record := by
  intro l
  induction l with
  | zero =>
    intro hl m U kd M la D ln cb C h hM cs leaf b nb st sz path slots cell hb nx hkd hp hsl i hi fx hfx made at' bad mn cl row mcell way turn hmn ry hw ht fm hfm
    by_cases hf : rf_ft ln M = M
    · exact rf_settle_fit H up cols isb int size blobs len before record dep hl h hM hf hb nx hkd (hp 0 (Nat.le_refl _)) i (by omega) fx hmn ry (hw 0 (Nat.le_refl _)) fm
    · have hf' : rf_ft ln M < M := by have := (rf_ft_all ln M).1; omega
      have ok := h.1
      have hand := h.2.2.2.2.1
      have hs := h.2.2.2.2.2.2.1
      have bt := ok.1
      have w0 : rf_way n c key root 0 = root := rfl
      obtain ⟨wl1, wl2, wl3, wl4, wl5, wl6⟩ := rf_lvl_wl H (Nat.zero_le k) h
      rw [w0] at wl3 wl4
      have hp0 := hp 0 (Nat.le_refl _)
      have hw0 := hw 0 (Nat.le_refl _)
      rw [w0] at hp0 hw0
      have mf := rf_mfitting ry (by omega) (fun i hi => by have := (hand.2.2.1 i hi).2; omega)
      obtain ⟨fx, rfl⟩ : ∃ f, fx = f + 1 := ⟨fx - 1, by omega⟩
      obtain ⟨fm, rfl⟩ : ∃ f, fm = f + 1 := ⟨fm - 1, by omega⟩
      rw [q_Tree_settle_7, pu_br_f (show ¬ (24 : Int32) ≤ nI i from nI_ge (b := 24) (by omega) (by omega)), rf_fitting nx, pu_b1_s, pu_br_f (nI_ge hf' (by omega)), pu_br_t (show nI 0 = (0 : Int32) from rfl), q_MD_insert_217, mf, pu_b1_s, pu_br_f (nI_ge hf' (by omega))]
      by_cases tk : rf_tk m = 0
      · obtain ⟨rw', r1, r2⟩ := rf_noRoom (now := mn) hbf
        refine Or.inl ⟨cs, nI (m 65), b, nI M, nI la, leaf, nb, st, sz, path, slots, cell, ?_, nI kd, nI M, nI la, made, nI 0, at', bad, rw', cl, row, mcell, way, turn, ?_, r2⟩
        · rw [rf_deepen0 ok tk hb, pu_b5_s, pu_br_t rfl]
        · rw [f_MD_split, pu_br_t (show nI 0 = (0 : Int32) from rfl), rf_mtakePage0 hmn (by have := bt 66; omega) tk, pu_b2_s, pu_br_t rfl, pu_b14_s, pu_br_t rfl, q_MD_insert_235, r1, pu_b2_s]
      · obtain ⟨d1, d2⟩ := rf_deepen (slots := slots) ok tk hb wl3 wl4 hp0
        obtain ⟨g1, g2, g3, g4, g5, g6, g7, g8, g9⟩ := rf_lvl_root H h hf' tk rfl
        obtain ⟨mw, e1, e2⟩ := rf_msplit_r (cl := cl) (row := row) (cell := mcell) (turn := turn) ok tk hmn wl3 wl4 hw0 (nI kd) (nI M) (nI la) made at' bad
        rw [d2.1, pu_b5_s, pu_br_f (by decide), show f_MD_split (nI kd) (nI M) (nI la) made (nI 0) at' bad mn cl row mcell way turn = _ from e1, ← g8, show (1 : Int32) = nI 1 from rfl]
        by_cases tk2 : rf_tk (rf_dr1 m root) = 0
        · obtain ⟨rw', r1, r2⟩ := rf_noRoom (now := mw) hbf
          refine Or.inl ⟨cs, nI (rf_dr1 m root 65), d1, nI M, nI la, leaf, nb, st, sz, upd path 1 (nI (rf_tk m)), upd slots 0 0, cell, ?_, nI kd, nI M, nI la, made, nI 1, at', bad, rw', cl, row, mcell, upd way 1 (nI (rf_tk m)), upd turn 0 0, ?_, r2⟩
          · rw [rf_xsplit0 g1 tk2 d2.2]
          · rw [rf_msplit0 (by have := g1.1 66; omega) tk2 e2, pu_b14_s, pu_br_t rfl, q_MD_insert_235, r1, pu_b2_s]
        · obtain ⟨s1, s2, U', C', D', s3, s4⟩ := g9 tk2 _ rfl
          obtain ⟨x1, x2, x3, x4, x5, x6, x7, x8⟩ := rf_xsplit g1 tk2 g2 hs hf' (P := rf_tk m) (A := root) (l := 1) (i := i) (s := 0) (cs := cs) (dep := dep) (cell := cell) (path := upd path 1 (nI (rf_tk m))) (slots := upd slots 0 0) nx hkd rfl d2.2 (by omega) (by omega) g3 g4 (by omega) g6 pk_us (by rw [pk_un (by omega)]; exact hp0) pk_us s1 (rf_rt_lay _) rfl (by omega) (q_Tree_settle_7 (fun v_cellSize v_pages_count v_pages_bytes v_node_count v_node_last v_node_leaf v_node_bytes v_node_starts v_node_sizes v_path v_slots v_cell x_1 => q_Tree_settle_123 dep v_cellSize v_pages_count v_pages_bytes v_node_count v_node_last v_node_leaf v_node_bytes v_node_starts v_node_sizes v_path v_slots v_cell x_1) dep (fx + 1)) (fun v_cellSize v_pages_count v_pages_bytes v_node_count v_node_last v_node_leaf v_node_bytes v_node_starts v_node_sizes v_path v_slots v_cell x_1 => q_Tree_settle_123 dep v_cellSize v_pages_count v_pages_bytes v_node_count v_node_last v_node_leaf v_node_bytes v_node_starts v_node_sizes v_path v_slots v_cell x_1)
          obtain ⟨y1, y2, y3, y4, y5, y6, y7, y8⟩ := rf_msplit g1 tk2 g2 hs hf' (P := rf_tk m) (A := root) (l := 1) (s := 0) (cell := mcell) (way := upd way 1 (nI (rf_tk m))) (turn := upd turn 0 0) ry e2 (by omega) (by omega) g3 g4 (by omega) g6 pk_us (by rw [pk_un (by omega)]; exact hw0) pk_us s1 (rf_rt_lay _) rfl (by omega) made at' bad
          rw [x6, y6, pu_b14_s, pu_br_f (by decide), ← s2]
          have r1 : rf_rt (rf_tk m) 1 = 0 := rfl
          rw [r1] at x8 y8 ⊢
          refine rf_settle_fit H up cols isb int size blobs len before record dep hl s3 (by omega) ?_ x7 x8 (Or.inl ⟨rfl, rfl⟩) (by rw [pk_un (by omega)]; exact hp 0 (Nat.le_refl _)) (i + 1) (by omega) fx y7 y8 (by rw [pk_un (by omega)]; exact hw 0 (Nat.le_refl _)) fm
          refine rf_ft_uniq (Nat.le_refl _) ?_ (fun q => by omega)
          rw [rf_su1]
          show 0 + rf_ins 0 _ _ 0 + (0 + 1) ≤ 60
          rw [rf_ins_at]
          omega
  | succ l ih =>
    intro hl m U kd M la D ln cb C h hM cs leaf b nb st sz path slots cell hb nx hkd hp hsl i hi fx hfx made at' bad mn cl row mcell way turn hmn ry hw ht fm hfm
    by_cases hf : rf_ft ln M = M
    · exact rf_settle_fit H up cols isb int size blobs len before record dep hl h hM hf hb nx hkd (hp _ (Nat.le_refl _)) i (by omega) fx hmn ry (hw _ (Nat.le_refl _)) fm
    · have hf' : rf_ft ln M < M := by have := (rf_ft_all ln M).1; omega
      have ok := h.1
      have hand := h.2.2.2.2.1
      have hs := h.2.2.2.2.2.2.1
      have bt := ok.1
      have hc := h.2.1
      obtain ⟨wl1, wl2, wl3, wl4, wl5, wl6⟩ := rf_lvl_wl H hl h
      have k23 := H.2.2.2.2.1
      have mf := rf_mfitting ry (by omega) (fun i hi => by have := (hand.2.2.1 i hi).2; omega)
      obtain ⟨fx, rfl⟩ : ∃ f, fx = f + 1 := ⟨fx - 1, by omega⟩
      obtain ⟨fm, rfl⟩ : ∃ f, fm = f + 1 := ⟨fm - 1, by omega⟩
      rw [q_Tree_settle_7, pu_br_f (show ¬ (24 : Int32) ≤ nI i from nI_ge (b := 24) (by omega) (by omega)), rf_fitting nx, pu_b1_s, pu_br_f (nI_ge hf' (by omega)), pu_br_f (nI_ne0 (by omega) (by omega)), q_MD_insert_217, mf, pu_b1_s, pu_br_f (nI_ge hf' (by omega)), f_MD_split, pu_br_f (nI_ne0 (by omega) (by omega))]
      by_cases tk : rf_tk m = 0
      · obtain ⟨rw', r1, r2⟩ := rf_noRoom (now := mn) hbf
        refine Or.inl ⟨cs, nI (m 65), b, nI M, nI la, leaf, nb, st, sz, path, slots, cell, ?_, nI kd, nI M, nI la, made, nI (l + 1), at', bad, rw', cl, row, mcell, way, turn, ?_, r2⟩
        · rw [rf_xsplit0 ok tk hb]
        · rw [rf_msplit0 (by have := bt 66; omega) tk hmn, pu_b14_s, pu_br_t rfl, q_MD_insert_235, r1, pu_b2_s]
      · obtain ⟨g1, g2, g3, g4, g5, g6, U', C', D', g7⟩ := rf_lvl_split H hl (by omega) h hf' tk rfl rfl
        rw [Nat.add_sub_cancel] at g1 g2 g3 g4 g7
        obtain ⟨p1, p2, p3⟩ := rf_hy_pg H (j := l) (by omega)
        obtain ⟨x1, x2, x3, x4, x5, x6, x7, x8⟩ := rf_xsplit ok tk hand hs hf' (P := rf_way n c key root (l + 1)) (A := rf_way n c key root l) (l := l + 1) (i := i) (s := rf_sl n c key (rf_way n c key root l)) (cs := cs) (dep := dep) (cell := cell) (path := path) (slots := slots) nx hkd rfl hb (by omega) (by omega) wl3 wl4 (by omega) (by omega) (hp _ (Nat.le_refl _)) (hp l (by omega)) (hsl l (by omega)) g1 g2 g3 g4 (q_Tree_settle_7 (fun v_cellSize v_pages_count v_pages_bytes v_node_count v_node_last v_node_leaf v_node_bytes v_node_starts v_node_sizes v_path v_slots v_cell x_1 => q_Tree_settle_123 dep v_cellSize v_pages_count v_pages_bytes v_node_count v_node_last v_node_leaf v_node_bytes v_node_starts v_node_sizes v_path v_slots v_cell x_1) dep (fx + 1)) (fun v_cellSize v_pages_count v_pages_bytes v_node_count v_node_last v_node_leaf v_node_bytes v_node_starts v_node_sizes v_path v_slots v_cell x_1 => q_Tree_settle_123 dep v_cellSize v_pages_count v_pages_bytes v_node_count v_node_last v_node_leaf v_node_bytes v_node_starts v_node_sizes v_path v_slots v_cell x_1)
        obtain ⟨y1, y2, y3, y4, y5, y6, y7, y8⟩ := rf_msplit ok tk hand hs hf' (P := rf_way n c key root (l + 1)) (A := rf_way n c key root l) (l := l + 1) (s := rf_sl n c key (rf_way n c key root l)) (cell := mcell) (way := way) (turn := turn) ry hmn (by omega) (by omega) wl3 wl4 (by omega) (by omega) (hw _ (Nat.le_refl _)) (hw l (by omega)) (ht l (by omega)) g1 g2 g3 g4 made at' bad
        rw [Nat.add_sub_cancel] at x6 y6
        rw [x6, y6, pu_b14_s, pu_br_f (by decide), ← g5]
        exact ih (by omega) g7 (by have := g2.2.2.2.1; omega) x7 x8 (Or.inl ⟨rfl, rfl⟩) (fun j hj => hp j (by omega)) (fun j hj => hsl j (by omega)) (i + 1) (by omega) fx (by omega) y7 y8 (fun j hj => hw j (by omega)) (fun j hj => ht j (by omega)) fm (by omega)
end RFSG
