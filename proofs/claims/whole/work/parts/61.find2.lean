section RFF2
variable {n : Nat → Nat} {c : Nat}
theorem rf_cellKey_out {g : Nat → Nat} {cnt leaf : Int32} {b starts sizes : Nat → Int32} (h : rf_nd g cnt leaf b starts sizes) {i : Nat} (hi : g 1 ≤ i) (hi2 : i < 2 ^ 31) : f_Node_cellKey cnt leaf b starts sizes (nI i) = some (-1) := by
  obtain ⟨hl, hg, hb, hle, rfl, hc⟩ := h
  have h30 := hl.2.2.2.1
  rw [f_Node_cellKey, rf_hasCell (by omega) hi2, if_neg (by omega), pu_b1_s, pu_br_t (show nI 0 = (0 : Int32) from rfl)]
/-- the key stands in the leaf, at this slot -/
def rf_fd (g : Nat → Nat) (key : Int32) (s : Nat) : Prop := ¬ key < 0 ∧ s < g 1 ∧ rf_rv (rf_ky g s) = key
theorem rf_root {pb : Nat → Int32} (hn : rf_bt n) (hpb : rf_pg pb n) (h1 : 1 ≤ c) (hc : c ≤ 24) : f_Pages_root (nI c) pb = some (nI (n 70)) := by
  have := rf_get hn hpb (c := c) (p := 1) (a := 6) hc (by omega) (by omega)
  rw [rf_gb_at (by omega) h1 (by omega)] at this
  have e : f_Pages_get (nI c) pb 1 6 = some (nI (n 70)) := this
  rw [f_Pages_root, e, pu_b1_s]
theorem rf_mroot {mn : Nat → Int32} (hmn : rf_md mn n) : f_MD_root mn = some (nI (n 70)) := by
  have e : (70 : Int32).toNatClampNeg = 70 := by decide
  rw [f_MD_root, pu_ck_t (by unfold vp_in; decide), e, hmn 70 (by omega)]
/-- find, in the class: the leaf is in hand, the way is in path and slots -/
theorem rf_find {pb : Nat → Int32} (hn : rf_bt n) (hpb : rf_pg pb n) (h1 : 1 ≤ c) (hc : c ≤ 24) (key : Int32) {D : Nat} (hD : D ≤ 24) (hg : rf_gd n c D (n 70)) (depth slot cnt last leaf : Int32) (b st sz path slots : Nat → Int32) :
    ∃ (k : Nat) (cnt' last' leaf' : Int32) (b' st' sz' path' slots' : Nat → Int32), k < D ∧ (∀ i, i < k → rf_gb n c (rf_way n c key (n 70) i) 0 = 5) ∧ rf_gb n c (rf_way n c key (n 70) k) 0 = 13 ∧ rf_gd n c 1 (rf_way n c key (n 70) k) ∧
      f_Tree_find (nI c) pb depth slot cnt last leaf b st sz path slots key = some (nI (rf_dv (rf_fd (rf_gb n c (rf_way n c key (n 70) k)) key (rf_sl n c key (rf_way n c key (n 70) k)))), nI k, nI (rf_sl n c key (rf_way n c key (n 70) k)), cnt', last', leaf', b', st', sz', path', slots') ∧
      rf_nd (rf_gb n c (rf_way n c key (n 70) k)) cnt' leaf' b' st' sz' ∧ last' = nI (rf_gb n c (rf_way n c key (n 70) k) 2) ∧ ∀ i, i ≤ k → path' i = nI (rf_way n c key (n 70) i) ∧ slots' i = nI (rf_sl n c key (rf_way n c key (n 70) i)) := by
  obtain ⟨k, cnt', last', leaf', b', st', sz', path', slots', q1, q2, q3, q4, q5, q6, q7, q8, q9⟩ := rf_find_go (n := n) (c := c) hn hpb hc key (n 70) (kx80 := fun v_depth v_slot v_node_count v_node_last v_node_leaf v_node_bytes v_node_starts v_node_sizes v_path v_slots => q_Tree_find_80 (nI c) pb v_depth v_slot v_node_count v_node_last v_node_leaf v_node_bytes v_node_starts v_node_sizes v_path v_slots key) (kx108 := fun v_depth v_slot v_node_count v_node_last v_node_leaf v_node_bytes v_node_starts v_node_sizes v_path v_slots => q_Tree_find_108 (nI c) pb v_depth v_slot v_node_count v_node_last v_node_leaf v_node_bytes v_node_starts v_node_sizes v_path v_slots key) D pu_fu 0 slot cnt last leaf b st sz path slots hg (by omega) (by rw [rf_fu]; omega) (fun i hi => by omega)
  refine ⟨k, cnt', last', leaf', b', st', sz', path', slots', by omega, fun i hi => q3 i (by omega) hi, q4, q5, ?_, q7, q8, q9⟩
  rw [f_Tree_find, rf_root hn hpb h1 hc, pu_b1_s]
  refine Eq.trans q6 ?_
  have hle : leaf' = nI (rf_dv (rf_gb n c (rf_way n c key (n 70) k) 0 = 13)) := q7.2.2.2.1
  rw [rf_dv_t q4] at hle
  have hsle := rf_slot_le (rf_gb n c (rf_way n c key (n 70) k)) key (rf_gb n c (rf_way n c key (n 70) k) 1)
  have h30 := q7.1.2.2.2.1
  have hs31 : rf_sl n c key (rf_way n c key (n 70) k) ≤ 30 := Nat.le_trans hsle h30
  show q_Tree_find_80 (nI c) pb (nI k) (nI (rf_sl n c key (rf_way n c key (n 70) k))) cnt' last' leaf' b' st' sz' path' slots' key = _
  rw [q_Tree_find_80, q_Tree_find_108, pu_br_f (show ¬ leaf' = 0 by rw [hle]; decide)]
  by_cases kn : key < 0
  · rw [pu_br_t kn, rf_dv_f (fun q => q.1 kn)]
    rfl
  rw [pu_br_f kn]
  by_cases ks : rf_sl n c key (rf_way n c key (n 70) k) < rf_gb n c (rf_way n c key (n 70) k) 1
  · rw [rf_cellKey q7 ks, pu_b1_s]
    by_cases ke : rf_rv (rf_ky (rf_gb n c (rf_way n c key (n 70) k)) (rf_sl n c key (rf_way n c key (n 70) k))) = key
    · rw [pu_br_t ke, rf_dv_t ⟨kn, ks, ke⟩]
      rfl
    · rw [pu_br_f ke, rf_dv_f (fun q => ke q.2.2)]
      rfl
  · rw [rf_cellKey_out q7 (by omega) (by omega), pu_b1_s, pu_br_f (fun q => kn (by rw [← q]; decide)), rf_dv_f (fun q => ks q.2.1)]
    rfl
/-- goTo, in the reference -/
theorem rf_goto {mn : Nat → Int32} (hn : rf_bt n) (hmn : rf_md mn n) (h1 : 1 ≤ c) (hc : c ≤ 24) (key : Int32) {D : Nat} (hD : D ≤ 24) (hg : rf_gd n c D (n 70)) (deep at' bad : Int32) (way turn : Nat → Int32) :
    ∃ (k : Nat) (a' b' : Int32) (way' turn' : Nat → Int32), k < D ∧ (∀ i, i < k → rf_gb n c (rf_way n c key (n 70) i) 0 = 5) ∧ rf_gb n c (rf_way n c key (n 70) k) 0 = 13 ∧ rf_gd n c 1 (rf_way n c key (n 70) k) ∧
      f_MD_goTo mn deep at' bad way turn key = some (nI (rf_sl n c key (rf_way n c key (n 70) k)), nI k, a', b', way', turn') ∧ (∀ i, i ≤ k → way' i = nI (rf_way n c key (n 70) i)) ∧ ∀ i, i < k → turn' i = nI (rf_sl n c key (rf_way n c key (n 70) i)) := by
  obtain ⟨k, a', b', way', turn', q1, q2, q3, q4, q5, q6, q7, q8⟩ := rf_goto_go (n := n) (c := c) hn hmn hc key (n 70) (kx := fun v_deep v_at v_bad v_way v_turn => q_MD_goTo_105 mn v_deep v_at v_bad v_way v_turn key) D pu_fu 0 at' bad (upd way 0 (nI (n 70))) turn hg (by omega) (by rw [rf_fu]; omega) (fun i hi => by rw [show i = 0 by omega]; exact pk_us) (fun i hi => by omega)
  obtain ⟨g1, g2, g3, g4, g5⟩ := q5
  obtain ⟨a2, b2, hs⟩ := rf_seek hn hmn (p := rf_way n c key (n 70) k) (c := c) (by omega) g2 hc g3 g4 key a' b'
  refine ⟨k, a2, b2, way', turn', by omega, fun i hi => q3 i (by omega) hi, q4, ⟨g1, g2, g3, g4, g5⟩, ?_, q7, q8⟩
  have e0 : (0 : Int32).toNatClampNeg = 0 := by decide
  rw [f_MD_goTo, rf_mroot hmn, pu_b1_s, pu_ck_t (by unfold vp_in; decide), e0, pu_nm]
  refine Eq.trans q6 ?_
  show q_MD_goTo_105 mn (nI k) a' b' way' turn' key = _
  rw [q_MD_goTo_105, pu_ck_t (vp_in_nI (by omega) (by decide)), nI_clamp (by omega), q7 k (Nat.le_refl _), hs, pu_b3_s]
  rfl
/-- the two ways end at the same leaf -/
theorem rf_way_end {key : Int32} {k k' : Nat} (h1 : ∀ i, i < k → rf_gb n c (rf_way n c key (n 70) i) 0 = 5) (h2 : rf_gb n c (rf_way n c key (n 70) k) 0 = 13) (h1' : ∀ i, i < k' → rf_gb n c (rf_way n c key (n 70) i) 0 = 5) (h2' : rf_gb n c (rf_way n c key (n 70) k') 0 = 13) : k = k' := by
  by_cases e : k < k'
  · have := h1' k e; omega
  · by_cases e2 : k' < k
    · have := h1 k' e2; omega
    · omega
end RFF2
