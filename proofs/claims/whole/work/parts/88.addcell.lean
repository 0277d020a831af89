section RFAC
/-- one thing more -/
def rf_ins {α : Type} (i : Nat) (f : Nat → α) (x : α) : Nat → α := fun j => if j < i then f j else if j = i then x else f (j - 1)
theorem rf_ins_lo {α : Type} {i j : Nat} {f : Nat → α} {x : α} (h : j < i) : rf_ins i f x j = f j := if_pos h
theorem rf_ins_at {α : Type} {i : Nat} {f : Nat → α} {x : α} : rf_ins i f x i = x := by unfold rf_ins; rw [if_neg (by omega), if_pos rfl]
theorem rf_ins_hi {α : Type} {i j : Nat} {f : Nat → α} {x : α} (h : i < j) : rf_ins i f x j = f (j - 1) := by unfold rf_ins; rw [if_neg (by omega), if_neg (by omega)]
theorem rf_ins_su {f : Nat → Nat} {i x : Nat} : ∀ {m}, i ≤ m → rf_su (rf_ins i f x) (m + 1) = rf_su f m + x
  | 0, h => by
    rw [show i = 0 by omega]
    show 0 + rf_ins 0 f x 0 = 0 + x
    rw [rf_ins_at]
  | m + 1, h => by
    by_cases e : i = m + 1
    · subst e
      rw [rf_su, rf_ins_at, rf_su_congr (m + 1) (fun j hj => rf_ins_lo (f := f) (x := x) hj)]
    · have := rf_ins_su (f := f) (i := i) (x := x) (m := m) (by omega)
      rw [rf_su, rf_ins_hi (by omega), this, Nat.add_sub_cancel, rf_su]; omega
theorem rf_ins_st {f : Nat → Nat} {i x : Nat} : ∀ {m}, m ≤ i → rf_su (rf_ins i f x) m = rf_su f m := fun h => rf_su_congr _ (fun j hj => rf_ins_lo (by omega))
theorem rf_addCell {g : Nat → Nat} {cnt leaf : Int32} {nb st sz cell : Nat → Int32} (h : rf_nd g cnt leaf nb st sz) {i L : Nat} (hi : i ≤ g 1) (hL : L ≤ 32) {x : Nat → Nat} (hx : ∀ k, k < L → cell k = rf_sx (x k)) :
    ∃ nb' st' sz', f_Node_addCell 32 cell cnt nb st sz (nI i) (nI L) = some (nI (g 1 + 1), nb', st', sz') ∧ rf_nx (g 1 + 1) (rf_ins i (rf_cln g) L) (rf_ins i (rf_ccb g) x) (nI (g 1 + 1)) nb' st' sz' := by
  obtain ⟨hl, hg, hb, hle, rfl, hc⟩ := h
  have h30 := hl.2.2.2.1
  have e1 : nI (g 1) - nI i = nI (g 1 - i) := pk_sub hi
  refine ⟨va_cpy cell nb 0 64 L, upd (va_cpy st st i (i + 1) (g 1 - i)) i (nI 64), upd (va_cpy sz sz i (i + 1) (g 1 - i)) i (nI L), ?_, by omega, rfl, fun j hj => ?_⟩
  · rw [f_Node_addCell, pu_br_f (nI_pos (by omega)), pu_br_f (nI_nlt hi (by omega)), pu_br_f (show ¬ (31 : Int32) ≤ nI (g 1) from nI_ge (b := 31) (by omega) (by omega)), pu_br_f (show ¬ (32 : Int32) < nI L from nI_nlt (a := 32) (by omega) (by omega)), show Int32.ofNat 32 = nI 32 from rfl, pu_br_t (nI_le hL (by omega)), nI_1, nI_1, e1, pu_ck_t (rf_cpyI (by omega) (by omega) (by decide) (by decide)), pu_nm, pu_ck_t (rf_cpyI (by omega) (by omega) (by decide) (by decide)), pu_nm, show (0 : Int32) = nI 0 from rfl, show (64 : Int32) = nI 64 from rfl, pu_ck_t (rf_cpyok (by omega) (by omega) (by decide) (by decide) (fun k hk => ⟨x k, by rw [Nat.zero_add]; exact hx k hk⟩)), pu_nm, pu_ck_t (vp_in_nI (by omega) (by decide)), pu_nm, pu_ck_t (vp_in_nI (by omega) (by decide)), pu_nm, pu_nm]
    rw [nI_clamp (by omega), nI_clamp (by omega), nI_clamp (by omega), nI_clamp (by omega), nI_clamp (by omega), nI_clamp (by omega)]
  · by_cases e : j = i
    · subst e
      rw [pk_us, pk_us, rf_ins_at, rf_ins_at]
      refine ⟨64, rfl, rfl, by omega, fun k hk => ?_⟩
      rw [pk_cpy_in (by omega) (by omega), show 0 + (64 + k - 64) = k by omega]
      exact hx k hk
    · rw [pk_un e, pk_un e]
      have main : ∀ t, t < g 1 → ∃ s, st t = nI s ∧ sz t = nI (rf_cln g t) ∧ s + rf_cln g t ≤ 96 ∧ ∀ k, k < rf_cln g t → va_cpy cell nb 0 64 L (s + k) = rf_sx (rf_ccb g t k) := by
        intro t ht
        have hs := rf_nd_st hl ht
        have hln : rf_cln g t = rf_st g t - rf_st g (t + 1) := rfl
        refine ⟨rf_st g (t + 1), (hc t ht).1, (hc t ht).2, by omega, fun k hk => ?_⟩
        rw [pk_cpy_out (by omega), hb _ (by omega)]
        rfl
      by_cases e2 : j < i
      · rw [pk_cpy_out (by omega), pk_cpy_out (by omega), rf_ins_lo e2, rf_ins_lo e2]
        exact main j (by omega)
      · rw [pk_cpy_in (by omega) (by omega), pk_cpy_in (by omega) (by omega), rf_ins_hi (by omega), rf_ins_hi (by omega), show i + (j - (i + 1)) = j - 1 by omega]
        exact main (j - 1) (by omega)
theorem rf_insertCell {M i L : Nat} {ln : Nat → Nat} {cb : Nat → Nat → Nat} {cl row cell : Nat → Int32} (h : rf_ry M ln cb cl row) (hi : i ≤ M) (hM : M + 1 ≤ 80) (hL : L ≤ 80) (hR : rf_su ln M + L ≤ 1900) {x : Nat → Nat} (hx : ∀ k, k < L → cell k = nI (x k)) :
    ∃ cl' row', f_MD_insertCell (nI L) cell (nI M) cl row (nI i) = some (nI (M + 1), cl', row') ∧ rf_ry (M + 1) (rf_ins i ln L) (rf_ins i cb x) cl' row' := by
  have hl : ∀ j, j < M → cl j = nI (ln j) := fun j hj => (h j hj).1
  have hsi : rf_su ln i ≤ rf_su ln M := rf_su_le_of hi
  -- the lengths
  have step3 : ∀ row', ∃ cl', q_MD_insertCell_75 (nI L) cell (nI M) cl row' (nI i) = some (nI (M + 1), cl', row') ∧ ∀ j, j < M + 1 → cl' j = nI (rf_ins i ln L j) := by
    intro row'
    rw [q_MD_insertCell_75]
    refine rf_loop (fun f z t => q_MD_insertCell_80 (fun v_cellLength => q_MD_insertCell_105 (nI L) cell (nI M) v_cellLength row' (nI i)) (nI L) cell (nI M) row' (nI i) f z (nI (M - t))) (fun t z => (∀ j, M - t < j → j ≤ M → z j = nI (ln (j - 1))) ∧ ∀ j, j ≤ M - t → j < M → z j = cl j) (fun r => ∃ cl', r = some (nI (M + 1), cl', row') ∧ ∀ j, j < M + 1 → cl' j = nI (rf_ins i ln L j)) (M - i) ?_ ?_ (M - i) pu_fu cl 0 (by omega) (by rw [rf_fu]; omega) ⟨fun j h1 h2 => by omega, fun _ _ _ => rfl⟩
    · rintro f z ⟨z1, z2⟩
      refine ⟨upd z i (nI L), ?_, fun j hj => ?_⟩
      · show q_MD_insertCell_80 (fun v_cellLength => q_MD_insertCell_105 (nI L) cell (nI M) v_cellLength row' (nI i)) (nI L) cell (nI M) row' (nI i) (f + 1) z (nI (M - (M - i))) = _
        rw [q_MD_insertCell_80, pu_br_t (nI_le (by omega) (by omega)), q_MD_insertCell_105, pu_ck_t (vp_in_nI (by omega) (by decide)), nI_clamp (by omega), pu_nm, nI_1, pu_nm]
      · by_cases e : j = i
        · subst e; rw [pk_us, rf_ins_at]
        · rw [pk_un e]
          by_cases e2 : j < i
          · rw [rf_ins_lo e2, z2 j (by omega) (by omega)]; exact hl j (by omega)
          · rw [rf_ins_hi (by omega)]; exact z1 j (by omega) (by omega)
    · rintro f z t ht ⟨z1, z2⟩
      refine Or.inl ⟨upd z (M - t) (nI (ln (M - t - 1))), ⟨fun j h1 h2 => ?_, fun j h1 h2 => by rw [pk_un (by omega)]; exact z2 j (by omega) h2⟩, ?_⟩
      · by_cases e : j = M - t
        · subst e; rw [pk_us]
        · rw [pk_un e]; exact z1 j (by omega) h2
      · show q_MD_insertCell_80 (fun v_cellLength => q_MD_insertCell_105 (nI L) cell (nI M) v_cellLength row' (nI i)) (nI L) cell (nI M) row' (nI i) (f + 1) z (nI (M - t)) = q_MD_insertCell_80 (fun v_cellLength => q_MD_insertCell_105 (nI L) cell (nI M) v_cellLength row' (nI i)) (nI L) cell (nI M) row' (nI i) f (upd z (M - t) (nI (ln (M - t - 1)))) (nI (M - (t + 1)))
        have e1 : nI (M - t) - (1 : Int32) = nI (M - t - 1) := pk_sub (b := 1) (by omega)
        have e2 : nI (M - t) + (-1 : Int32) = nI (M - (t + 1)) := by
          have := rf_m1 (M - t - 1)
          rw [show M - t - 1 + 1 = M - t by omega] at this
          rw [this]; congr 1
        rw [q_MD_insertCell_80, pu_br_f (nI_ge (by omega) (by omega)), e1, pu_ck_t (vp_in_nI (by omega) (by decide)), pu_ck_t (vp_in_nI (by omega) (by decide)), nI_clamp (by omega), nI_clamp (by omega), z2 (M - t - 1) (by omega) (by omega), hl (M - t - 1) (by omega), pu_nm, e2, pu_nm]
  -- the cell's bytes
  have step2 : ∀ row1, ∃ row', q_MD_insertCell_45 (nI L) cell (nI M) cl row1 (nI i) (nI (rf_su ln i)) = q_MD_insertCell_75 (nI L) cell (nI M) cl row' (nI i) ∧ (∀ k, k < L → row' (rf_su ln i + k) = nI (x k)) ∧ ∀ k, k < rf_su ln i ∨ rf_su ln i + L ≤ k → row' k = row1 k := by
    intro row1
    rw [q_MD_insertCell_45]
    refine rf_loop (fun f z t => q_MD_insertCell_47 (fun v_row => q_MD_insertCell_75 (nI L) cell (nI M) cl v_row (nI i)) (nI L) cell (nI M) cl (nI i) (nI (rf_su ln i)) f z (nI t)) (fun t z => (∀ k, k < t → z (rf_su ln i + k) = nI (x k)) ∧ ∀ k, k < rf_su ln i ∨ rf_su ln i + t ≤ k → z k = row1 k) (fun r => ∃ row', r = q_MD_insertCell_75 (nI L) cell (nI M) cl row' (nI i) ∧ (∀ k, k < L → row' (rf_su ln i + k) = nI (x k)) ∧ ∀ k, k < rf_su ln i ∨ rf_su ln i + L ≤ k → row' k = row1 k) L ?_ ?_ L pu_fu row1 0 (by omega) (by rw [rf_fu]; omega) ⟨fun k hk => by omega, fun _ _ => rfl⟩
    · rintro f z ⟨z1, z2⟩
      refine ⟨z, ?_, z1, z2⟩
      show q_MD_insertCell_47 (fun v_row => q_MD_insertCell_75 (nI L) cell (nI M) cl v_row (nI i)) (nI L) cell (nI M) cl (nI i) (nI (rf_su ln i)) (f + 1) z (nI L) = _
      rw [q_MD_insertCell_47, pu_br_t (nI_le (Nat.le_refl _) (by omega))]
    · rintro f z t ht ⟨z1, z2⟩
      refine Or.inl ⟨upd z (rf_su ln i + t) (nI (x t)), ⟨fun k hk => ?_, fun k hk => by rw [pk_un (by omega)]; exact z2 k (by omega)⟩, ?_⟩
      · by_cases e : k = t
        · subst e; rw [pk_us]
        · rw [pk_un (by omega)]; exact z1 k (by omega)
      · show q_MD_insertCell_47 (fun v_row => q_MD_insertCell_75 (nI L) cell (nI M) cl v_row (nI i)) (nI L) cell (nI M) cl (nI i) (nI (rf_su ln i)) (f + 1) z (nI t) = q_MD_insertCell_47 (fun v_row => q_MD_insertCell_75 (nI L) cell (nI M) cl v_row (nI i)) (nI L) cell (nI M) cl (nI i) (nI (rf_su ln i)) f (upd z (rf_su ln i + t) (nI (x t))) (nI (t + 1))
        rw [q_MD_insertCell_47, pu_br_f (nI_ge ht (by omega)), pu_ck_t (vp_in_nI (by omega) (by decide)), nI_add, pu_ck_t (vp_in_nI (by omega) (by decide)), nI_clamp (by omega), nI_clamp (by omega), hx t ht, pu_nm, nI_1, pu_nm]
  -- the bytes behind
  have step1 : ∃ row1, q_MD_insertCell_17 (fun v_row => q_MD_insertCell_45 (nI L) cell (nI M) cl v_row (nI i) (nI (rf_su ln i))) (nI L) cell (nI M) cl (nI i) (nI (rf_su ln i)) pu_fu row (nI (rf_su ln M) - 1) = q_MD_insertCell_45 (nI L) cell (nI M) cl row1 (nI i) (nI (rf_su ln i)) ∧ (∀ k, k < rf_su ln i → row1 k = row k) ∧ ∀ k, rf_su ln i ≤ k → k < rf_su ln M → row1 (k + L) = row k := by
    refine rf_loop (fun f z t => q_MD_insertCell_17 (fun v_row => q_MD_insertCell_45 (nI L) cell (nI M) cl v_row (nI i) (nI (rf_su ln i))) (nI L) cell (nI M) cl (nI i) (nI (rf_su ln i)) f z (nI (rf_su ln M - t) - 1)) (fun t z => (∀ k, k < rf_su ln M - t → z k = row k) ∧ ∀ k, rf_su ln M - t ≤ k → k < rf_su ln M → z (k + L) = row k) (fun r => ∃ row1, r = q_MD_insertCell_45 (nI L) cell (nI M) cl row1 (nI i) (nI (rf_su ln i)) ∧ (∀ k, k < rf_su ln i → row1 k = row k) ∧ ∀ k, rf_su ln i ≤ k → k < rf_su ln M → row1 (k + L) = row k) (rf_su ln M - rf_su ln i) ?_ ?_ (rf_su ln M - rf_su ln i) pu_fu row 0 (by omega) (by rw [rf_fu]; omega) ⟨fun _ _ => rfl, fun k h1 h2 => by omega⟩
    · rintro f z ⟨z1, z2⟩
      refine ⟨z, ?_, fun k hk => z1 k (by omega), fun k h1 h2 => z2 k (by omega) h2⟩
      show q_MD_insertCell_17 (fun v_row => q_MD_insertCell_45 (nI L) cell (nI M) cl v_row (nI i) (nI (rf_su ln i))) (nI L) cell (nI M) cl (nI i) (nI (rf_su ln i)) (f + 1) z (nI (rf_su ln M - (rf_su ln M - rf_su ln i)) - 1) = _
      rw [show rf_su ln M - (rf_su ln M - rf_su ln i) = rf_su ln i by omega, q_MD_insertCell_17, pu_br_t]
      by_cases e : rf_su ln i = 0
      · rw [e]; decide
      · rw [show nI (rf_su ln i) - (1 : Int32) = nI (rf_su ln i - 1) from pk_sub (b := 1) (by omega)]
        exact nI_lt (by omega) (by omega)
    · rintro f z t ht ⟨z1, z2⟩
      refine Or.inl ⟨upd z (rf_su ln M - t - 1 + L) (row (rf_su ln M - t - 1)), ⟨fun k hk => by rw [pk_un (by omega)]; exact z1 k (by omega), fun k h1 h2 => ?_⟩, ?_⟩
      · by_cases e : k = rf_su ln M - t - 1
        · subst e; rw [pk_us]
        · rw [pk_un (by omega)]; exact z2 k (by omega) h2
      · show q_MD_insertCell_17 (fun v_row => q_MD_insertCell_45 (nI L) cell (nI M) cl v_row (nI i) (nI (rf_su ln i))) (nI L) cell (nI M) cl (nI i) (nI (rf_su ln i)) (f + 1) z (nI (rf_su ln M - t) - 1) = q_MD_insertCell_17 (fun v_row => q_MD_insertCell_45 (nI L) cell (nI M) cl v_row (nI i) (nI (rf_su ln i))) (nI L) cell (nI M) cl (nI i) (nI (rf_su ln i)) f (upd z (rf_su ln M - t - 1 + L) (row (rf_su ln M - t - 1))) (nI (rf_su ln M - (t + 1)) - 1)
        have e1 : nI (rf_su ln M - t) - (1 : Int32) = nI (rf_su ln M - t - 1) := pk_sub (b := 1) (by omega)
        rw [q_MD_insertCell_17, e1, pu_br_f (nI_nlt (by omega) (by omega)), pu_ck_t (vp_in_nI (by omega) (by decide)), nI_add, pu_ck_t (vp_in_nI (by omega) (by decide)), nI_clamp (by omega), nI_clamp (by omega), z1 _ (by omega), pu_nm, pu_nm, show nI (rf_su ln M - t - 1) + (-1 : Int32) = nI (rf_su ln M - (t + 1)) - 1 by rw [Int32.sub_eq_add_neg]; congr 2]
  obtain ⟨row1, a1, a2, a3⟩ := step1
  obtain ⟨row2, b1, b2, b3⟩ := step2 row1
  obtain ⟨cl', c1, c2⟩ := step3 row2
  refine ⟨cl', row2, ?_, fun j hj => ⟨c2 j hj, fun k hk => ?_⟩⟩
  · rw [f_MD_insertCell, rf_mstart (M := M) hl (by omega) hi, pu_b1_s, rf_mstart (M := M) hl (by omega) (Nat.le_refl _), pu_b1_s, pu_nm, a1, b1, c1]
  · by_cases e : j = i
    · subst e
      rw [rf_ins_at] at hk ⊢
      rw [rf_ins_st (Nat.le_refl _)]
      exact b2 k hk
    by_cases e2 : j < i
    · have : rf_su ln (j + 1) ≤ rf_su ln i := rf_su_le_of (by omega)
      rw [rf_su] at this
      rw [rf_ins_lo e2] at hk ⊢
      rw [rf_ins_st (by omega), b3 _ (Or.inl (by omega)), a2 _ (by omega)]
      exact (h j (by omega)).2 k hk
    · obtain ⟨j', rfl⟩ : ∃ j', j = j' + 1 := ⟨j - 1, by omega⟩
      have s1 : rf_su ln i ≤ rf_su ln j' := rf_su_le_of (by omega)
      have s2 : rf_su ln (j' + 1) ≤ rf_su ln M := rf_su_le_of (by omega)
      rw [rf_su] at s2
      rw [rf_ins_hi (by omega), Nat.add_sub_cancel] at hk ⊢
      rw [rf_ins_su (by omega), b3 _ (Or.inr (by omega)), show rf_su ln j' + L + k = rf_su ln j' + k + L by omega, a3 _ (by omega) (by omega)]
      exact (h j' (by omega)).2 k hk
/-- how many cells a page has room for -/
def rf_ft (ln : Nat → Nat) : Nat → Nat
  | 0 => 0
  | m + 1 => if rf_su (fun i => ln i + 1) (m + 1) ≤ 60 then m + 1 else rf_ft ln m
theorem rf_ft_all (ln : Nat → Nat) : ∀ m, rf_ft ln m ≤ m ∧ rf_su (fun i => ln i + 1) (rf_ft ln m) ≤ 60 ∧ (rf_ft ln m < m → 60 < rf_su (fun i => ln i + 1) (rf_ft ln m + 1))
  | 0 => ⟨Nat.le_refl _, by rw [rf_ft, rf_su]; omega, fun h => by rw [rf_ft] at h; omega⟩
  | m + 1 => by
    obtain ⟨h1, h2, h3⟩ := rf_ft_all ln m
    rw [rf_ft]
    by_cases e : rf_su (fun i => ln i + 1) (m + 1) ≤ 60
    · rw [if_pos e]; exact ⟨Nat.le_refl _, e, fun h => by omega⟩
    · rw [if_neg e]
      refine ⟨by omega, h2, fun h => ?_⟩
      by_cases e2 : rf_ft ln m = m
      · rw [e2]; omega
      · exact h3 (by omega)
theorem rf_ft_uniq {ln : Nat → Nat} {m f : Nat} (h1 : f ≤ m) (h2 : rf_su (fun i => ln i + 1) f ≤ 60) (h3 : f < m → 60 < rf_su (fun i => ln i + 1) (f + 1)) : rf_ft ln m = f := by
  obtain ⟨a1, a2, a3⟩ := rf_ft_all ln m
  by_cases e : rf_ft ln m < f
  · have := a3 (by omega)
    have := rf_su_le_of (f := fun i => ln i + 1) (show rf_ft ln m + 1 ≤ f by omega)
    omega
  · by_cases e2 : f < rf_ft ln m
    · have := h3 (by omega)
      have := rf_su_le_of (f := fun i => ln i + 1) (show f + 1 ≤ rf_ft ln m by omega)
      omega
    · omega
theorem rf_fitting {M : Nat} {ln : Nat → Nat} {cb : Nat → Nat → Nat} {cnt : Int32} {b st sz : Nat → Int32} (h : rf_nx M ln cb cnt b st sz) : f_Node_fitting cnt sz = some (nI (rf_ft ln M)) := by
  obtain ⟨h1, rfl, h3⟩ := h
  have hln : ∀ i, i < M → ln i ≤ 96 := fun i hi => by obtain ⟨s, _, _, k, _⟩ := h3 i hi; omega
  rw [f_Node_fitting]
  refine rf_loop (fun f x i => q_Node_fitting_4 (q_Node_fitting_37 (nI M) sz) (nI M) sz f x (nI i)) (fun i x => x = nI (rf_su (fun i => ln i + 1) i) ∧ rf_su (fun i => ln i + 1) i ≤ 60) (fun r => r = some (nI (rf_ft ln M))) M ?_ ?_ M pu_fu 0 0 (by omega) (by rw [rf_fu]; omega) ⟨rfl, by rw [rf_su]; omega⟩
  · rintro f x ⟨x1, x2⟩
    show q_Node_fitting_4 (q_Node_fitting_37 (nI M) sz) (nI M) sz (f + 1) x (nI M) = _
    rw [q_Node_fitting_4, pu_br_t (nI_le (Nat.le_refl _) (by omega)), q_Node_fitting_37, rf_ft_uniq (Nat.le_refl M) x2 (fun h => by omega)]
  · rintro f x i hi ⟨x1, x2⟩
    subst x1
    obtain ⟨s, k1, k2, k3, k4⟩ := h3 i hi
    have e1 : nI (rf_su (fun i => ln i + 1) i) + ((1 : Int32) + nI (ln i)) = nI (rf_su (fun i => ln i + 1) (i + 1)) := by
      rw [show (1 : Int32) + nI (ln i) = nI (1 + ln i) from nI_add 1 _, nI_add, rf_su]; congr 1; omega
    have e2 : rf_su (fun i => ln i + 1) (i + 1) = rf_su (fun i => ln i + 1) i + (ln i + 1) := rfl
    by_cases e : rf_su (fun i => ln i + 1) (i + 1) ≤ 60
    · refine Or.inl ⟨nI (rf_su (fun i => ln i + 1) (i + 1)), ⟨rfl, e⟩, ?_⟩
      show q_Node_fitting_4 (q_Node_fitting_37 (nI M) sz) (nI M) sz (f + 1) (nI (rf_su (fun i => ln i + 1) i)) (nI i) = q_Node_fitting_4 (q_Node_fitting_37 (nI M) sz) (nI M) sz f (nI (rf_su (fun i => ln i + 1) (i + 1))) (nI (i + 1))
      rw [q_Node_fitting_4, pu_br_f (nI_ge hi (by omega)), pu_ck_t (vp_in_nI (by omega) (by decide)), nI_clamp (by omega), k2, e1, pu_nm, pu_br_t (show nI (rf_su (fun i => ln i + 1) (i + 1)) ≤ (60 : Int32) from nI_le (b := 60) e (by omega)), nI_1, pu_nm]
    · refine Or.inr ?_
      show q_Node_fitting_4 (q_Node_fitting_37 (nI M) sz) (nI M) sz (f + 1) (nI (rf_su (fun i => ln i + 1) i)) (nI i) = _
      have := hln i hi
      rw [q_Node_fitting_4, pu_br_f (nI_ge hi (by omega)), pu_ck_t (vp_in_nI (by omega) (by decide)), nI_clamp (by omega), k2, e1, pu_nm, pu_br_f (show ¬ nI (rf_su (fun i => ln i + 1) (i + 1)) ≤ (60 : Int32) from nI_ge (a := 60) (by omega) (by omega)), rf_ft_uniq (by omega) x2 (fun _ => by omega)]
theorem rf_mfitting {M : Nat} {ln : Nat → Nat} {cb : Nat → Nat → Nat} {cl row : Nat → Int32} (h : rf_ry M ln cb cl row) (hM : M ≤ 80) (hln : ∀ i, i < M → ln i ≤ 96) : f_MD_fitting (nI M) cl = some (nI (rf_ft ln M)) := by
  rw [f_MD_fitting]
  refine rf_loop (fun f x i => q_MD_fitting_4 (nI M) cl f (nI i) x) (fun i x => x = nI (rf_su (fun i => ln i + 1) i) ∧ rf_su (fun i => ln i + 1) i ≤ 60) (fun r => r = some (nI (rf_ft ln M))) M ?_ ?_ M pu_fu 0 0 (by omega) (by rw [rf_fu]; omega) ⟨rfl, by rw [rf_su]; omega⟩
  · rintro f x ⟨x1, x2⟩
    show q_MD_fitting_4 (nI M) cl (f + 1) (nI M) x = _
    rw [q_MD_fitting_4, pu_br_t (nI_le (Nat.le_refl _) (by omega)), rf_ft_uniq (Nat.le_refl M) x2 (fun h => by omega)]
  · rintro f x i hi ⟨x1, x2⟩
    subst x1
    have k2 := (h i hi).1
    have := hln i hi
    have e2 : rf_su (fun i => ln i + 1) (i + 1) = rf_su (fun i => ln i + 1) i + (ln i + 1) := rfl
    have e1 : nI (rf_su (fun i => ln i + 1) i) + nI (ln i) + (1 : Int32) = nI (rf_su (fun i => ln i + 1) (i + 1)) := by
      rw [nI_add, nI_1, e2]; congr 1
    have e3 : nI (rf_su (fun i => ln i + 1) i) + (nI (ln i) + (1 : Int32)) = nI (rf_su (fun i => ln i + 1) (i + 1)) := by
      rw [nI_1, nI_add, e2]
    by_cases e : rf_su (fun i => ln i + 1) (i + 1) ≤ 60
    · refine Or.inl ⟨nI (rf_su (fun i => ln i + 1) (i + 1)), ⟨rfl, e⟩, ?_⟩
      show q_MD_fitting_4 (nI M) cl (f + 1) (nI i) (nI (rf_su (fun i => ln i + 1) i)) = q_MD_fitting_4 (nI M) cl f (nI (i + 1)) (nI (rf_su (fun i => ln i + 1) (i + 1)))
      rw [q_MD_fitting_4, pu_br_f (nI_ge hi (by omega)), pu_ck_t (vp_in_nI (by omega) (by decide)), nI_clamp (by omega), k2, e1, pu_br_f (show ¬ (60 : Int32) < nI (rf_su (fun i => ln i + 1) (i + 1)) from nI_nlt (a := 60) e (by omega)), pu_ck_t (vp_in_nI (by omega) (by decide)), e3, pu_nm, nI_1, pu_nm]
    · refine Or.inr ?_
      show q_MD_fitting_4 (nI M) cl (f + 1) (nI i) (nI (rf_su (fun i => ln i + 1) i)) = _
      rw [q_MD_fitting_4, pu_br_f (nI_ge hi (by omega)), pu_ck_t (vp_in_nI (by omega) (by decide)), nI_clamp (by omega), k2, e1, pu_br_t (show (60 : Int32) < nI (rf_su (fun i => ln i + 1) (i + 1)) from nI_lt (a := 60) (by omega) (by omega)), rf_ft_uniq (by omega) x2 (fun _ => by omega)]
end RFAC
