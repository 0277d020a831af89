section RFL
theorem rf_sx_inj {a b : Nat} (ha : a < 256) (hb : b < 256) : rf_sx a = rf_sx b ↔ a = b := by
  constructor
  · intro h
    have e1 := rf_sx_and ha
    rw [h, rf_sx_and hb] at e1
    exact ((nI_eq (by omega) (by omega)).mp e1).symm
  · intro h; rw [h]
theorem rf_sx_eq0 {a : Nat} (ha : a < 256) : rf_sx a = 0 ↔ a = 0 := by
  rw [← rf_sx0]; exact rf_sx_inj ha (by omega)
theorem rf_sx_eq13 {a : Nat} (ha : a < 256) : rf_sx a = 13 ↔ a = 13 := by
  rw [show (13 : Int32) = rf_sx 13 by decide]; exact rf_sx_inj ha (by omega)
theorem rf_sx_eq5 {a : Nat} (ha : a < 256) : rf_sx a = 5 ↔ a = 5 := by
  rw [show (5 : Int32) = rf_sx 5 by decide]; exact rf_sx_inj ha (by omega)
/-- where the cells of a page begin: rf_st g (i + 1) is the start of cell i -/
def rf_st (g : Nat → Nat) (i : Nat) : Nat := if i = 0 then 64 else g (3 + i)
theorem rf_st0 (g : Nat → Nat) : rf_st g 0 = 64 := rfl
theorem rf_st1 (g : Nat → Nat) (i : Nat) : rf_st g (i + 1) = g (4 + i) := by
  unfold rf_st
  rw [if_neg (by omega), show 3 + (i + 1) = 4 + i by omega]
def rf_c1 (g : Nat → Nat) (m i : Nat) : Prop := rf_st g (i + 1) < rf_st g i ∧ 4 + m ≤ rf_st g (i + 1)
def rf_lc (g : Nat → Nat) (m : Nat) : Prop := (∀ i, i < m → rf_c1 g m i) ∧ ∀ a, 4 + m ≤ a → a < rf_st g m → g a = 0
def rf_lay (g : Nat → Nat) : Prop := (g 0 = 13 ∨ g 0 = 5) ∧ (g 0 = 13 → g 2 = 0) ∧ g 3 = 0 ∧ g 1 ≤ 30 ∧ rf_lc g (g 1)
theorem rf_st_le {g : Nat → Nat} {m : Nat} (h : ∀ i, i < m → rf_c1 g m i) : ∀ i, i ≤ m → rf_st g i ≤ 64 := by
  intro i
  induction i with
  | zero => intro _; exact Nat.le_refl _
  | succ i ih => intro hi; have := (h i (by omega)).1; have := ih (by omega); omega
theorem rf_find83 {kx : Option (Int32 × Int32 × (Nat → Int32) × (Nat → Int32))} {b : Nat → Int32} {cnt : Int32} {starts sizes : Nat → Int32} {x1 : Int32} {g : Nat → Nat} {lo e : Nat} (hg : ∀ k, g k < 256) (hb : ∀ k, k < 64 → b k = rf_sx (g k)) (he : e ≤ 64) (hlo : lo ≤ 64) :
    ((∀ a, lo ≤ a → a < e → g a = 0) ∧ q_Node_findCells_83 kx b cnt starts sizes x1 (nI e) pu_fu (nI lo) = kx) ∨ ((¬ ∀ a, lo ≤ a → a < e → g a = 0) ∧ q_Node_findCells_83 kx b cnt starts sizes x1 (nI e) pu_fu (nI lo) = some (0, cnt, starts, sizes)) := by
  by_cases hle : lo ≤ e
  · refine rf_loop (σ := Unit) (fun f _ i => q_Node_findCells_83 kx b cnt starts sizes x1 (nI e) f (nI i)) (fun i _ => lo ≤ i ∧ ∀ a, lo ≤ a → a < i → g a = 0) (fun r => ((∀ a, lo ≤ a → a < e → g a = 0) ∧ r = kx) ∨ ((¬ ∀ a, lo ≤ a → a < e → g a = 0) ∧ r = some (0, cnt, starts, sizes))) e ?_ ?_ (e - lo) pu_fu () lo (by omega) (by rw [rf_fu]; omega) ⟨Nat.le_refl _, fun a h1 h2 => by omega⟩
    · intro f _ h
      refine Or.inl ⟨h.2, ?_⟩
      show q_Node_findCells_83 kx b cnt starts sizes x1 (nI e) (f + 1) (nI e) = kx
      rw [q_Node_findCells_83, pu_br_t (nI_le (Nat.le_refl _) (by omega))]
    · intro f _ i hi h
      have hgi := hg i
      by_cases z : g i = 0
      · refine Or.inl ⟨(), ⟨by omega, fun a h1 h2 => ?_⟩, ?_⟩
        · by_cases e2 : a = i
          · rw [e2]; exact z
          · exact h.2 a h1 (by omega)
        · show q_Node_findCells_83 kx b cnt starts sizes x1 (nI e) (f + 1) (nI i) = q_Node_findCells_83 kx b cnt starts sizes x1 (nI e) f (nI (i + 1))
          rw [q_Node_findCells_83, pu_br_f (nI_ge hi (by omega)), pu_ck_t (vp_in_nI (by omega) (by decide)), nI_clamp (by omega), hb i (by omega), pu_br_t ((rf_sx_eq0 hgi).mpr z), pu_nm, nI_1]
      · refine Or.inr (Or.inr ⟨fun q => z (q i h.1 hi), ?_⟩)
        show q_Node_findCells_83 kx b cnt starts sizes x1 (nI e) (f + 1) (nI i) = _
        rw [q_Node_findCells_83, pu_br_f (nI_ge hi (by omega)), pu_ck_t (vp_in_nI (by omega) (by decide)), nI_clamp (by omega), hb i (by omega), pu_br_f (fun q => z ((rf_sx_eq0 hgi).mp q))]
  · refine Or.inl ⟨fun a h1 h2 => by omega, ?_⟩
    rw [show pu_fu = 1999 + 1 from rfl, q_Node_findCells_83, pu_br_t (nI_le (by omega) (by omega))]
theorem rf_findCells {b : Nat → Int32} {cnt : Int32} {starts sizes : Nat → Int32} {g : Nat → Nat} {m : Nat} (hg : ∀ k, g k < 256) (hb : ∀ k, k < 64 → b k = rf_sx (g k)) (hm : m ≤ 30) :
    ∃ r cn' st' sz', f_Node_findCells b cnt starts sizes (nI m) = some (r, cn', st', sz') ∧ ((rf_lc g m ∧ r = 1 ∧ cn' = nI m ∧ ∀ i, i < m → st' i = nI (rf_st g (i + 1)) ∧ sz' i = nI (rf_st g i - rf_st g (i + 1))) ∨ (¬ rf_lc g m ∧ r = 0 ∧ cn' = cnt)) := by
  unfold f_Node_findCells
  refine rf_loop (fun f (st : (Nat → Int32) × (Nat → Int32) × Int32) i => q_Node_findCells_5 (fun v_starts v_sizes x_2 => q_Node_findCells_79 b cnt v_starts v_sizes (nI m) x_2) b cnt (nI m) f st.1 st.2.1 st.2.2 (nI i)) (fun i st => st.2.2 = nI (rf_st g i) ∧ ∀ j, j < i → st.1 j = nI (rf_st g (j + 1)) ∧ st.2.1 j = nI (rf_st g j - rf_st g (j + 1)) ∧ rf_c1 g m j)
    (fun q => ∃ r cn' st' sz', q = some (r, cn', st', sz') ∧ ((rf_lc g m ∧ r = 1 ∧ cn' = nI m ∧ ∀ i, i < m → st' i = nI (rf_st g (i + 1)) ∧ sz' i = nI (rf_st g i - rf_st g (i + 1))) ∨ (¬ rf_lc g m ∧ r = 0 ∧ cn' = cnt))) m ?_ ?_ m pu_fu (starts, sizes, 64) 0 (by omega) (by rw [rf_fu]; omega) ⟨rfl, fun j hj => by omega⟩
  · intro f st h
    have hle := rf_st_le (fun i hi => (h.2 i hi).2.2) m (Nat.le_refl _)
    have e1 : q_Node_findCells_5 (fun v_starts v_sizes x_2 => q_Node_findCells_79 b cnt v_starts v_sizes (nI m) x_2) b cnt (nI m) (f + 1) st.1 st.2.1 st.2.2 (nI m) = q_Node_findCells_79 b cnt st.1 st.2.1 (nI m) (nI (rf_st g m)) := by
      rw [q_Node_findCells_5, pu_br_t (nI_le (Nat.le_refl _) (by omega)), h.1]
    have e2 : (4 : Int32) + nI m = nI (4 + m) := nI_add 4 m
    rcases rf_find83 (kx := q_Node_findCells_105 b cnt st.1 st.2.1 (nI m)) (b := b) (cnt := cnt) (starts := st.1) (sizes := st.2.1) (x1 := nI m) (g := g) (lo := 4 + m) (e := rf_st g m) hg hb hle (by omega) with ⟨k1, k2⟩ | ⟨k1, k2⟩
    · refine ⟨1, nI m, st.1, st.2.1, ?_, Or.inl ⟨⟨fun i hi => (h.2 i hi).2.2, k1⟩, rfl, rfl, fun i hi => ⟨(h.2 i hi).1, (h.2 i hi).2.1⟩⟩⟩
      show q_Node_findCells_5 (fun v_starts v_sizes x_2 => q_Node_findCells_79 b cnt v_starts v_sizes (nI m) x_2) b cnt (nI m) (f + 1) st.1 st.2.1 st.2.2 (nI m) = _
      rw [e1, q_Node_findCells_79, e2, k2, q_Node_findCells_105]
    · refine ⟨0, cnt, st.1, st.2.1, ?_, Or.inr ⟨fun q => k1 q.2, rfl, rfl⟩⟩
      show q_Node_findCells_5 (fun v_starts v_sizes x_2 => q_Node_findCells_79 b cnt v_starts v_sizes (nI m) x_2) b cnt (nI m) (f + 1) st.1 st.2.1 st.2.2 (nI m) = _
      rw [e1, q_Node_findCells_79, e2, k2]
  · intro f st i hi h
    have e2 : (4 : Int32) + nI i = nI (4 + i) := nI_add 4 i
    have e3 : (4 : Int32) + nI m = nI (4 + m) := nI_add 4 m
    have hgi := hg (4 + i)
    have hle := rf_st_le (m := i) (g := g) (fun j hj => ⟨(h.2 j hj).2.2.1, by have := (h.2 j hj).2.2.2; omega⟩) i (Nat.le_refl _)
    have hs1 := rf_st1 g i
    have i31 : vp_in (nI i) 31 := vp_in_nI (by omega) (by decide)
    have step : q_Node_findCells_5 (fun v_starts v_sizes x_2 => q_Node_findCells_79 b cnt v_starts v_sizes (nI m) x_2) b cnt (nI m) (f + 1) st.1 st.2.1 st.2.2 (nI i) = pu_br (nI (rf_st g i) - nI (rf_st g (i + 1)) ≤ 0) (some ((0 : Int32), cnt, upd st.1 i (nI (rf_st g (i + 1))), upd st.2.1 i (nI (rf_st g i) - nI (rf_st g (i + 1))))) (pu_br (nI (4 + m) ≤ nI (rf_st g (i + 1))) (q_Node_findCells_5 (fun v_starts v_sizes x_2 => q_Node_findCells_79 b cnt v_starts v_sizes (nI m) x_2) b cnt (nI m) f (upd st.1 i (nI (rf_st g (i + 1)))) (upd st.2.1 i (nI (rf_st g i) - nI (rf_st g (i + 1)))) (nI (rf_st g (i + 1))) (nI (i + 1))) (some ((0 : Int32), cnt, upd st.1 i (nI (rf_st g (i + 1))), upd st.2.1 i (nI (rf_st g i) - nI (rf_st g (i + 1)))))) := by
      rw [q_Node_findCells_5, pu_br_f (nI_ge hi (by omega)), pu_br_f (show ¬ (30 : Int32) ≤ nI i from nI_ge (a := i) (b := 30) (by omega) (by decide)), e2, e3, pu_ck_t (vp_in_nI (by omega) (by decide)), pu_ck_t i31, nI_clamp (by omega), nI_clamp (by omega), hb _ (by omega), rf_sx_and hgi, ← hs1, h.1, pu_nm, pu_ck_t i31, pu_ck_t i31, pk_us, pu_nm, pu_ck_t i31, pu_nm, pu_ck_t i31, pk_us, pu_nm, nI_1]
    have hsub : (nI (rf_st g i) - nI (rf_st g (i + 1))).toInt = (rf_st g i : Int) - rf_st g (i + 1) := pk_sub_toInt (by omega) (by omega)
    have hcond : (nI (rf_st g i) - nI (rf_st g (i + 1)) ≤ 0) ↔ ¬ rf_st g (i + 1) < rf_st g i := by
      rw [Int32.le_iff_toInt_le, hsub, show (0 : Int32).toInt = 0 by decide]
      omega
    by_cases g1 : rf_st g (i + 1) < rf_st g i
    · by_cases g2 : 4 + m ≤ rf_st g (i + 1)
      · refine Or.inl ⟨(upd st.1 i (nI (rf_st g (i + 1))), upd st.2.1 i (nI (rf_st g i - rf_st g (i + 1))), nI (rf_st g (i + 1))), ⟨rfl, fun j hj => ?_⟩, ?_⟩
        · by_cases e : j = i
          · subst e; exact ⟨pk_us, pk_us, g1, g2⟩
          · exact ⟨(pk_un e).trans (h.2 j (by omega)).1, (pk_un e).trans (h.2 j (by omega)).2.1, (h.2 j (by omega)).2.2⟩
        · refine Eq.trans step ?_
          rw [pu_br_f (fun q => hcond.mp q g1), pu_br_t (nI_le g2 (by omega)), pk_sub (by omega)]
      · refine Or.inr ⟨0, cnt, upd st.1 i (nI (rf_st g (i + 1))), upd st.2.1 i (nI (rf_st g i) - nI (rf_st g (i + 1))), Eq.trans step ?_, Or.inr ⟨fun q => g2 (q.1 i hi).2, rfl, rfl⟩⟩
        rw [pu_br_f (fun q => hcond.mp q g1), pu_br_f (nI_ge (by omega) (by omega))]
    · refine Or.inr ⟨0, cnt, upd st.1 i (nI (rf_st g (i + 1))), upd st.2.1 i (nI (rf_st g i) - nI (rf_st g (i + 1))), Eq.trans step ?_, Or.inr ⟨fun q => g1 (q.1 i hi).1, rfl, rfl⟩⟩
      rw [pu_br_t (hcond.mpr g1)]
end RFL
