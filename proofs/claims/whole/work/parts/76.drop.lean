section RFDR
variable {n : Nat → Nat} {c p : Nat}
theorem rf_beginp {mn : Nat → Int32} (hmn : rf_md mn n) (h1 : 1 ≤ p) (h2 : p ≤ c) (hc : c ≤ 24) {i : Nat} (hi : i < 60) : f_MD_begin mn (nI p) (nI i - 1) = some (nI (rf_st (rf_gb n c p) i)) := by
  cases i with
  | zero =>
    rw [f_MD_begin, pu_br_f (by decide)]
    rfl
  | succ i =>
    rw [show nI (i + 1) - (1 : Int32) = nI i from pk_sub (a := i + 1) (b := 1) (by omega)]
    exact rf_begin hmn h1 h2 hc (by omega)
/-- the reference takes a page's cells -/
theorem rf_take {mn : Nat → Int32} (hmn : rf_md mn n) (h1 : 1 ≤ p) (h2 : p ≤ c) (hc : c ≤ 24) (hl : rf_lay (rf_gb n c p)) (kind cells last : Int32) (cl row : Nat → Int32) :
    ∃ cl' row', f_MD_take mn kind cells last cl row (nI p) = some (nI (rf_gb n c p 0), nI (rf_gb n c p 1), nI (rf_gb n c p 2), cl', row') ∧ rf_ry (rf_gb n c p 1) (rf_cln (rf_gb n c p)) (rf_ccb (rf_gb n c p)) cl' row' := by
  have e0 : (64 : Int32) * nI p = nI (64 * p) := pk_mul 64 p
  have h30 := hl.2.2.2.1
  have hroom := rf_lay_room hl
  have key : ∀ la : Int32, ∃ cl' row', q_MD_take_59 mn (nI (rf_gb n c p 0)) (nI (rf_gb n c p 1)) la (nI p) pu_fu cl row 0 0 = some (nI (rf_gb n c p 0), nI (rf_gb n c p 1), la, cl', row') ∧ rf_ry (rf_gb n c p 1) (rf_cln (rf_gb n c p)) (rf_ccb (rf_gb n c p)) cl' row' := by
    intro la
    have hgb : ∀ {i : Nat}, i < 60 → f_MD_begin mn (nI p) (nI i) = some (nI (rf_st (rf_gb n c p) (i + 1))) := fun hi => rf_begin hmn h1 h2 hc hi
    have hgbp : ∀ {i : Nat}, i < 60 → f_MD_begin mn (nI p) (nI i - 1) = some (nI (rf_st (rf_gb n c p) i)) := fun hi => rf_beginp hmn h1 h2 hc hi
    have hat : ∀ a, a < 64 → mn (64 * p + a) = nI (rf_gb n c p a) := fun a ha => by rw [rf_gb_at h1 h2 ha]; exact hmn _ (by omega)
    generalize rf_gb n c p = g at *
    refine rf_loop (fun f (x : (Nat → Int32) × (Nat → Int32)) i => q_MD_take_59 mn (nI (g 0)) (nI (g 1)) la (nI p) f x.1 x.2 (nI (rf_su (rf_cln g) i)) (nI i)) (fun i x => rf_ry i (rf_cln g) (rf_ccb g) x.1 x.2) (fun r => ∃ cl' row', r = some (nI (g 0), nI (g 1), la, cl', row') ∧ rf_ry (g 1) (rf_cln g) (rf_ccb g) cl' row') (g 1) ?_ ?_ (g 1) pu_fu (cl, row) 0 (by omega) (by rw [rf_fu]; omega) (fun i hi => by omega)
    · rintro f ⟨x, y⟩ h
      refine ⟨x, y, ?_, h⟩
      show q_MD_take_59 mn (nI (g 0)) (nI (g 1)) la (nI p) (f + 1) x y (nI (rf_su (rf_cln g) (g 1))) (nI (g 1)) = _
      rw [q_MD_take_59, pu_br_t (nI_le (Nat.le_refl _) (by omega))]
    · rintro f ⟨x, y⟩ i hi h
      dsimp only at h
      have hs := rf_nd_st hl hi
      have hsu := rf_lay_su hl (i := i) (by omega)
      have i80 : vp_in (nI i) 80 := vp_in_nI (by omega) (by decide)
      have hln : rf_cln g i = rf_st g i - rf_st g (i + 1) := rfl
      -- the bytes of one cell
      have inner : ∀ kx, ∃ y', q_MD_take_91 kx mn (nI (g 0)) (nI (g 1)) la (upd x i (nI (rf_cln g i))) (nI p) (nI (rf_su (rf_cln g) i)) (nI i) pu_fu y 0 = kx y' ∧ (∀ k, k < rf_cln g i → y' (rf_su (rf_cln g) i + k) = nI (rf_ccb g i k)) ∧ ∀ k, k < rf_su (rf_cln g) i → y' k = y k := by
        intro kx
        refine rf_loop (fun f z k => q_MD_take_91 kx mn (nI (g 0)) (nI (g 1)) la (upd x i (nI (rf_cln g i))) (nI p) (nI (rf_su (rf_cln g) i)) (nI i) f z (nI k)) (fun k z => (∀ j, j < k → z (rf_su (rf_cln g) i + j) = nI (rf_ccb g i j)) ∧ ∀ j, j < rf_su (rf_cln g) i → z j = y j) (fun r => ∃ y', r = kx y' ∧ (∀ k, k < rf_cln g i → y' (rf_su (rf_cln g) i + k) = nI (rf_ccb g i k)) ∧ ∀ k, k < rf_su (rf_cln g) i → y' k = y k) (rf_cln g i) ?_ ?_ (rf_cln g i) pu_fu y 0 (by omega) (by rw [rf_fu]; omega) ⟨fun j hj => by omega, fun _ _ => rfl⟩
        · intro f z hz
          refine ⟨z, ?_, hz⟩
          show q_MD_take_91 kx mn (nI (g 0)) (nI (g 1)) la (upd x i (nI (rf_cln g i))) (nI p) (nI (rf_su (rf_cln g) i)) (nI i) (f + 1) z (nI (rf_cln g i)) = _
          rw [q_MD_take_91, pu_ck_t i80, nI_clamp (by omega), pk_us, pu_br_t (nI_le (Nat.le_refl _) (by omega))]
        · rintro f z k hk ⟨hz1, hz2⟩
          refine Or.inl ⟨upd z (rf_su (rf_cln g) i + k) (nI (rf_ccb g i k)), ⟨fun j hj => ?_, fun j hj => by rw [pk_un (by omega)]; exact hz2 j hj⟩, ?_⟩
          · by_cases e : j = k
            · subst e; rw [pk_us]
            · rw [pk_un (by omega)]; exact hz1 j (by omega)
          · show q_MD_take_91 kx mn (nI (g 0)) (nI (g 1)) la (upd x i (nI (rf_cln g i))) (nI p) (nI (rf_su (rf_cln g) i)) (nI i) (f + 1) z (nI k) = q_MD_take_91 kx mn (nI (g 0)) (nI (g 1)) la (upd x i (nI (rf_cln g i))) (nI p) (nI (rf_su (rf_cln g) i)) (nI i) f (upd z (rf_su (rf_cln g) i + k) (nI (rf_ccb g i k))) (nI (k + 1))
            rw [q_MD_take_91, pu_ck_t i80, nI_clamp (n := i) (by omega), pk_us, pu_br_f (nI_ge hk (by omega)), hgb (i := i) (by omega), pu_b1_s, e0, nI_add, nI_add, pu_ck_t (vp_in_nI (by omega) (by decide)), nI_add (rf_su (rf_cln g) i), pu_ck_t (vp_in_nI (by omega) (by decide)), nI_clamp (by omega), nI_clamp (by omega), Nat.add_assoc (64 * p), hat _ (by omega), pu_nm, nI_1, pu_nm]
            rfl
      obtain ⟨y', k1, k2, k3⟩ := inner (fun v_row => q_MD_take_136 (q_MD_take_59 mn (nI (g 0)) (nI (g 1)) la (nI p) f) mn (nI (g 0)) (nI (g 1)) la (upd x i (nI (rf_cln g i))) v_row (nI p) (nI (rf_su (rf_cln g) i)) (nI i))
      refine Or.inl ⟨(upd x i (nI (rf_cln g i)), y'), fun j hj => ?_, ?_⟩
      · dsimp only
        by_cases e : j = i
        · subst e; exact ⟨pk_us, k2⟩
        · obtain ⟨a1, a2⟩ := h j (by omega)
          have : rf_su (rf_cln g) (j + 1) ≤ rf_su (rf_cln g) i := rf_su_le_of (by omega)
          rw [rf_su] at this
          exact ⟨by rw [pk_un e]; exact a1, fun k hk => by rw [k3 _ (by omega)]; exact a2 k hk⟩
      · show q_MD_take_59 mn (nI (g 0)) (nI (g 1)) la (nI p) (f + 1) x y (nI (rf_su (rf_cln g) i)) (nI i) = q_MD_take_59 mn (nI (g 0)) (nI (g 1)) la (nI p) f (upd x i (nI (rf_cln g i))) y' (nI (rf_su (rf_cln g) (i + 1))) (nI (i + 1))
        rw [q_MD_take_59, pu_br_f (nI_ge hi (by omega)), hgbp (i := i) (by omega), pu_b1_s, hgb (i := i) (by omega), pu_b1_s, pu_ck_t i80, nI_clamp (n := i) (by omega), pk_sub (by omega), ← hln, pu_nm, k1, q_MD_take_136, pu_ck_t i80, nI_clamp (n := i) (by omega), pk_us, nI_add, pu_nm, nI_1, pu_nm]
        rfl
  have hm : ∀ a, a < 64 → mn (64 * p + a) = nI (rf_gb n c p a) := fun a ha => by rw [rf_gb_at h1 h2 ha]; exact hmn _ (by omega)
  have hm0 : mn (64 * p) = nI (rf_gb n c p 0) := hm 0 (by omega)
  obtain ⟨cl', row', k1, k2⟩ := key (nI (rf_gb n c p 2))
  refine ⟨cl', row', ?_, k2⟩
  have g0 := hl.1
  have g2 := hl.2.1
  rw [f_MD_take, e0, pu_ck_t (vp_in_nI (by omega) (by decide)), nI_clamp (by omega), hm0, pu_nm, show nI (64 * p) + (1 : Int32) = nI (64 * p + 1) from nI_add _ 1, pu_ck_t (vp_in_nI (by omega) (by decide)), nI_clamp (by omega), hm 1 (by omega), pu_nm]
  rcases g0 with g0 | g0
  · rw [pu_br_f (show ¬ nI (rf_gb n c p 0) = (5 : Int32) by rw [g0]; decide), q_MD_take_52]
    rw [g2 g0] at k1
    rw [g2 g0]
    exact k1
  · rw [pu_br_t (show nI (rf_gb n c p 0) = (5 : Int32) by rw [g0]; rfl), show nI (64 * p) + (2 : Int32) = nI (64 * p + 2) from nI_add _ 2, pu_ck_t (vp_in_nI (by omega) (by decide)), nI_clamp (by omega), hm 2 (by omega), q_MD_take_52, k1]
/-- one thing dropped -/
def rf_dl {α : Type} (i : Nat) (f : Nat → α) : Nat → α := fun j => if j < i then f j else f (j + 1)
theorem rf_dl_lo {α : Type} {i j : Nat} {f : Nat → α} (h : j < i) : rf_dl i f j = f j := if_pos h
theorem rf_dl_hi {α : Type} {i j : Nat} {f : Nat → α} (h : i ≤ j) : rf_dl i f j = f (j + 1) := if_neg (by omega)
theorem rf_dl_su {f : Nat → Nat} {i : Nat} : ∀ {m}, i ≤ m → rf_su (rf_dl i f) m + f i = rf_su f (m + 1)
  | 0, h => by rw [show i = 0 by omega]; rfl
  | m + 1, h => by
    by_cases e : i = m + 1
    · subst e
      rw [rf_su_congr (m + 1) (fun j hj => rf_dl_lo (f := f) hj)]
      rfl
    · have := rf_dl_su (f := f) (i := i) (m := m) (by omega)
      rw [rf_su, rf_dl_hi (by omega)]
      show _ = rf_su f (m + 1) + f (m + 1)
      omega
theorem rf_dl_st {f : Nat → Nat} {i : Nat} : ∀ {m}, m ≤ i → rf_su (rf_dl i f) m = rf_su f m := fun h => rf_su_congr _ (fun j hj => rf_dl_lo (by omega))
theorem rf_fitsI (x : Int32) : fits .int (.int x) = true := rfl
theorem rf_cpyI {b : Nat → Int32} {s d k N0 N1 : Nat} (h1 : s + k ≤ N0) (h2 : d + k ≤ N1) (hN0 : N0 < 2 ^ 31) (hN1 : N1 < 2 ^ 31) : pu_cp .int b (nI s) (nI d) (nI k) N0 N1 := by
  refine ⟨nI_pos (by omega), nI_pos (by omega), nI_pos (by omega), ?_, ?_, fun i hi => rfl⟩
  · rw [nI_clamp (by omega), nI_clamp (by omega)]; exact h1
  · rw [nI_clamp (by omega), nI_clamp (by omega)]; exact h2
theorem rf_dropCell {M i : Nat} {ln : Nat → Nat} {cb : Nat → Nat → Nat} {cnt : Int32} {b st sz : Nat → Int32} (h : rf_nx (M + 1) ln cb cnt b st sz) (hi : i ≤ M) : ∃ st' sz', f_Node_dropCell cnt st sz (nI i) = some (nI M, st', sz') ∧ rf_nx M (rf_dl i ln) (rf_dl i cb) (nI M) b st' sz' := by
  obtain ⟨h1, rfl, h3⟩ := h
  have e1 : nI (M + 1) - nI i - (1 : Int32) = nI (M - i) := by
    rw [pk_sub (by omega), show nI (M + 1 - i) - (1 : Int32) = nI (M + 1 - i - 1) from pk_sub (a := M + 1 - i) (b := 1) (by omega)]; congr 1; omega
  have e2 : nI (M + 1) - (1 : Int32) = nI M := pk_sub (a := M + 1) (b := 1) (by omega)
  refine ⟨va_cpy st st (i + 1) i (M - i), va_cpy sz sz (i + 1) i (M - i), ?_, by omega, rfl, fun j hj => ?_⟩
  · rw [f_Node_dropCell, rf_hasCell (by omega) (by omega), if_pos (by omega), pu_b1_s, pu_br_f (by decide), nI_1, e1, e2, pu_ck_t (rf_cpyI (by omega) (by omega) (by decide) (by decide)), pu_nm, pu_ck_t (rf_cpyI (by omega) (by omega) (by decide) (by decide)), nI_clamp (by omega), nI_clamp (by omega), nI_clamp (by omega), pu_nm, pu_nm]
  · by_cases e : j < i
    · rw [pk_cpy_out (Or.inl e), pk_cpy_out (Or.inl e), rf_dl_lo e, rf_dl_lo e]
      exact h3 j (by omega)
    · rw [pk_cpy_in (by omega) (by omega), pk_cpy_in (by omega) (by omega), rf_dl_hi (by omega), rf_dl_hi (by omega), show i + 1 + (j - i) = j + 1 by omega]
      exact h3 (j + 1) (by omega)
theorem rf_removeCell {M i : Nat} {ln : Nat → Nat} {cb : Nat → Nat → Nat} {cl row : Nat → Int32} (h : rf_ry (M + 1) ln cb cl row) (hi : i ≤ M) (hM : M + 1 ≤ 80) (hR : rf_su ln (M + 1) ≤ 1900) : ∃ cl' row', f_MD_removeCell (nI (M + 1)) cl row (nI i) = some (nI M, cl', row') ∧ rf_ry M (rf_dl i ln) (rf_dl i cb) cl' row' := by
  have hl : ∀ j, j < M + 1 → cl j = nI (ln j) := fun j hj => (h j hj).1
  have hd := rf_dl_su (f := ln) (i := i) (m := M) hi
  have hsi : rf_su ln (i + 1) ≤ rf_su ln (M + 1) := rf_su_le_of (by omega)
  have hsi2 : rf_su ln (i + 1) = rf_su ln i + ln i := rfl
  -- the lengths
  have step2 : ∀ row', ∃ cl', q_MD_removeCell_57 (nI (M + 1)) cl row' (nI i) = some (nI M, cl', row') ∧ ∀ j, j < M → cl' j = nI (rf_dl i ln j) := by
    intro row'
    rw [q_MD_removeCell_57]
    refine rf_loop (fun f x j => q_MD_removeCell_60 (fun v_cellLength => q_MD_removeCell_93 (nI (M + 1)) v_cellLength row') (nI (M + 1)) row' f x (nI j)) (fun j x => i ≤ j ∧ (∀ t, t < j → x t = nI (rf_dl i ln t)) ∧ ∀ t, j ≤ t → t < M + 1 → x t = cl t) (fun r => ∃ cl', r = some (nI M, cl', row') ∧ ∀ j, j < M → cl' j = nI (rf_dl i ln j)) M ?_ ?_ (M - i) pu_fu cl i (by omega) (by rw [rf_fu]; omega) ⟨Nat.le_refl _, fun t ht => by rw [rf_dl_lo ht]; exact hl t (by omega), fun _ _ _ => rfl⟩
    · rintro f x ⟨_, hx, _⟩
      refine ⟨x, ?_, hx⟩
      show q_MD_removeCell_60 (fun v_cellLength => q_MD_removeCell_93 (nI (M + 1)) v_cellLength row') (nI (M + 1)) row' (f + 1) x (nI M) = _
      rw [q_MD_removeCell_60, nI_1, pu_br_t (nI_le (Nat.le_refl _) (by omega)), q_MD_removeCell_93, show nI (M + 1) - (1 : Int32) = nI M from pk_sub (a := M + 1) (b := 1) (by omega), pu_nm]
    · rintro f x j hj ⟨hij, hx, hx2⟩
      refine Or.inl ⟨upd x j (nI (ln (j + 1))), ⟨by omega, fun t ht => ?_, fun t h1 h2 => by rw [pk_un (by omega)]; exact hx2 t (by omega) h2⟩, ?_⟩
      · by_cases e : t = j
        · subst e; rw [pk_us, rf_dl_hi hij]
        · rw [pk_un e]; exact hx t (by omega)
      · show q_MD_removeCell_60 (fun v_cellLength => q_MD_removeCell_93 (nI (M + 1)) v_cellLength row') (nI (M + 1)) row' (f + 1) x (nI j) = q_MD_removeCell_60 (fun v_cellLength => q_MD_removeCell_93 (nI (M + 1)) v_cellLength row') (nI (M + 1)) row' f (upd x j (nI (ln (j + 1)))) (nI (j + 1))
        rw [q_MD_removeCell_60, nI_1, pu_br_f (nI_ge (by omega) (by omega)), pu_ck_t (vp_in_nI (by omega) (by decide)), pu_ck_t (vp_in_nI (by omega) (by decide)), nI_clamp (by omega), nI_clamp (by omega), hx2 (j + 1) (by omega) (by omega), hl (j + 1) (by omega), pu_nm, pu_nm]
  -- the bytes
  have step1 : ∃ row', q_MD_removeCell_26 (fun v_row => q_MD_removeCell_57 (nI (M + 1)) cl v_row (nI i)) (nI (M + 1)) cl (nI i) (nI (ln i)) (nI (rf_su ln (M + 1))) pu_fu row (nI (rf_su ln i)) = q_MD_removeCell_57 (nI (M + 1)) cl row' (nI i) ∧ (∀ k, k < rf_su ln i → row' k = row k) ∧ ∀ k, rf_su ln i ≤ k → k < rf_su ln (M + 1) - ln i → row' k = row (k + ln i) := by
    refine rf_loop (fun f x j => q_MD_removeCell_26 (fun v_row => q_MD_removeCell_57 (nI (M + 1)) cl v_row (nI i)) (nI (M + 1)) cl (nI i) (nI (ln i)) (nI (rf_su ln (M + 1))) f x (nI j)) (fun j x => rf_su ln i ≤ j ∧ (∀ k, k < rf_su ln i → x k = row k) ∧ (∀ k, rf_su ln i ≤ k → k < j → x k = row (k + ln i)) ∧ ∀ k, j ≤ k → x k = row k) (fun r => ∃ row', r = q_MD_removeCell_57 (nI (M + 1)) cl row' (nI i) ∧ (∀ k, k < rf_su ln i → row' k = row k) ∧ ∀ k, rf_su ln i ≤ k → k < rf_su ln (M + 1) - ln i → row' k = row (k + ln i)) (rf_su ln (M + 1) - ln i) ?_ ?_ (rf_su ln (M + 1) - ln i - rf_su ln i) pu_fu row (rf_su ln i) (by omega) (by rw [rf_fu]; omega) ⟨Nat.le_refl _, fun _ _ => rfl, fun k h1 h2 => by omega, fun _ _ => rfl⟩
    · rintro f x ⟨_, hx, hx2, _⟩
      refine ⟨x, ?_, hx, hx2⟩
      show q_MD_removeCell_26 (fun v_row => q_MD_removeCell_57 (nI (M + 1)) cl v_row (nI i)) (nI (M + 1)) cl (nI i) (nI (ln i)) (nI (rf_su ln (M + 1))) (f + 1) x (nI (rf_su ln (M + 1) - ln i)) = _
      rw [q_MD_removeCell_26, nI_add, pu_br_t (nI_le (by omega) (by omega))]
    · rintro f x j hj ⟨hij, hx, hx2, hx3⟩
      refine Or.inl ⟨upd x j (row (j + ln i)), ⟨by omega, fun k hk => by rw [pk_un (by omega)]; exact hx k hk, fun k h1 h2 => ?_, fun k hk => by rw [pk_un (by omega)]; exact hx3 k (by omega)⟩, ?_⟩
      · by_cases e : k = j
        · subst e; rw [pk_us]
        · rw [pk_un e]; exact hx2 k h1 (by omega)
      · show q_MD_removeCell_26 (fun v_row => q_MD_removeCell_57 (nI (M + 1)) cl v_row (nI i)) (nI (M + 1)) cl (nI i) (nI (ln i)) (nI (rf_su ln (M + 1))) (f + 1) x (nI j) = q_MD_removeCell_26 (fun v_row => q_MD_removeCell_57 (nI (M + 1)) cl v_row (nI i)) (nI (M + 1)) cl (nI i) (nI (ln i)) (nI (rf_su ln (M + 1))) f (upd x j (row (j + ln i))) (nI (j + 1))
        rw [q_MD_removeCell_26, nI_add, pu_br_f (nI_ge (by omega) (by omega)), pu_ck_t (vp_in_nI (by omega) (by decide)), pu_ck_t (vp_in_nI (by omega) (by decide)), nI_clamp (by omega), nI_clamp (by omega), hx3 (j + ln i) (by omega), pu_nm, nI_1, pu_nm]
  obtain ⟨row', a1, a2, a3⟩ := step1
  obtain ⟨cl', b1, b2⟩ := step2 row'
  refine ⟨cl', row', ?_, fun j hj => ⟨b2 j hj, fun k hk => ?_⟩⟩
  · rw [f_MD_removeCell, rf_mstart (M := M + 1) hl hM (by omega), pu_b1_s, pu_ck_t (vp_in_nI (by omega) (by decide)), nI_clamp (by omega), hl i (by omega), pu_nm, rf_mstart (M := M + 1) hl hM (Nat.le_refl _), pu_b1_s, a1, b1]
  · by_cases e : j < i
    · have : rf_su ln (j + 1) ≤ rf_su ln i := rf_su_le_of (by omega)
      rw [rf_su] at this
      rw [rf_dl_lo e] at hk
      rw [rf_dl_st (by omega), rf_dl_lo e, a2 _ (by omega)]
      exact (h j (by omega)).2 k hk
    · have hdj := rf_dl_su (f := ln) (i := i) (m := j) (by omega)
      have : rf_su ln (j + 2) ≤ rf_su ln (M + 1) := rf_su_le_of (by omega)
      rw [rf_su] at this
      have h4 : rf_su ln (i + 1) ≤ rf_su ln (j + 1) := rf_su_le_of (by omega)
      rw [rf_dl_hi (by omega)] at hk
      rw [rf_dl_hi (by omega), a3 _ (by omega) (by omega), show rf_su (rf_dl i ln) j + k + ln i = rf_su ln (j + 1) + k by omega]
      exact (h (j + 1) (by omega)).2 k hk
/-- a page made free -/
def rf_h2 (n : Nat → Nat) (a b : Nat) : Nat → Nat := fun k => if k = 66 then a else if k = 67 then b else n k
def rf_fr (n : Nat → Nat) (p : Nat) : Nat → Nat := rf_h2 (rf_wp n p (fun a => if a = 0 then n 66 else 0)) p (n 67 + 1)
theorem rf_fr_bt (hn : rf_bt n) (hp : p < 256) (h67 : n 67 < 255) : rf_bt (rf_fr n p) := by
  intro k
  unfold rf_fr rf_h2 rf_wp
  dsimp only
  repeat' split
  all_goals first | omega | exact hn _
theorem rf_freePage {b : Nat → Int32} (hn : rf_bt n) (hb : rf_pg b n) (hc : c ≤ 24) (h1 : 2 ≤ p) (h2 : p ≤ c) : ∃ w, f_Pages_freePage (nI c) b (nI p) = some w ∧ rf_pg w (rf_fr n p) := by
  obtain ⟨w0, q0, r0⟩ := rf_wipe hb hc (by omega) h2
  have bt0 : rf_bt (rf_wp n p (fun _ => 0)) := rf_wp_bt hn (fun _ => by omega)
  have g2 := rf_get bt0 r0 (c := c) (p := 1) (a := 2) hc (by omega) (by omega)
  obtain ⟨w1, q1, r1⟩ := rf_putw r0 (a := 0) (v := n 66) (x := nI (n 66)) hc (by omega) h2 (by omega) rfl
  have e66 : rf_gb (rf_wp n p (fun _ => 0)) c 1 2 = n 66 := by
    rw [rf_gb_at (by omega) (by omega) (by omega)]; exact rf_wp_hd h1 (by omega)
  rw [e66] at g2
  obtain ⟨w2, q2, r2⟩ := rf_put r1 (c := c) (p := 1) (a := 2) (v := p) (x := nI p) hc (by omega) (by omega) rfl
  have bt1 : rf_bt (rf_pt (rf_wp n p (rf_p1 (fun _ => 0) 0 (n 66))) c 1 2 p) := by
    intro k
    have := hn 66
    unfold rf_pt rf_wp rf_p1
    dsimp only
    repeat' split
    all_goals first | omega | exact hn _
  have g3 := rf_get bt1 r2 (c := c) (p := 1) (a := 3) hc (by omega) (by omega)
  have e67 : rf_gb (rf_pt (rf_wp n p (rf_p1 (fun _ => 0) 0 (n 66))) c 1 2 p) c 1 3 = n 67 := by
    rw [rf_gb_at (by omega) (by omega) (by omega)]
    unfold rf_pt
    rw [if_neg (by omega)]; exact rf_wp_hd h1 (by omega)
  rw [e67] at g3
  obtain ⟨w3, q3, r3⟩ := rf_put r2 (c := c) (p := 1) (a := 3) (v := n 67 + 1) (x := nI (n 67 + 1)) hc (by omega) (by omega) rfl
  refine ⟨w3, ?_, fun k hk => ?_⟩
  · rw [f_Pages_freePage, q0, pu_b1_s, show (1 : Int32) = nI 1 from rfl, show (2 : Int32) = nI 2 from rfl, g2, pu_b1_s, show (0 : Int32) = nI 0 from rfl, q1, pu_b1_s, q2, pu_b1_s, show (3 : Int32) = nI 3 from rfl, g3, pu_b1_s, nI_add, q3, pu_b1_s]
  · rw [r3 k hk]
    congr 1
    unfold rf_pt rf_fr rf_h2 rf_wp rf_p1
    dsimp only
    by_cases e3 : k + 64 = 67
    · rw [if_pos (by omega), if_neg (by omega), if_pos e3]
    rw [if_neg (by omega)]
    by_cases e2 : k + 64 = 66
    · rw [if_pos (by omega), if_pos e2]
    rw [if_neg (by omega), if_neg e2, if_neg e3]
theorem rf_mfree {b : Nat → Int32} (hb : rf_md b n) (h1 : 2 ≤ p) (h2 : p ≤ 24) : ∃ w, f_MD_free b (nI p) = some w ∧ rf_md w (rf_fr n p) := by
  obtain ⟨w0, q0, r0⟩ := rf_erase hb h2
  have e0 : (64 : Int32) * nI p = nI (64 * p) := pk_mul 64 p
  have c66 : (66 : Int32).toNatClampNeg = 66 := by decide
  have c67 : (67 : Int32).toNatClampNeg = 67 := by decide
  have i66 : vp_in (66 : Int32) 1600 := vp_in_nI (n := 66) (by omega) (by decide)
  have i67 : vp_in (67 : Int32) 1600 := vp_in_nI (n := 67) (by omega) (by decide)
  have e66 : w0 66 = nI (n 66) := by rw [r0 66 (by omega), rf_wp_hd h1 (by omega)]
  have e67 : w0 67 = nI (n 67) := by rw [r0 67 (by omega), rf_wp_hd h1 (by omega)]
  refine ⟨upd (upd (upd w0 (64 * p) (nI (n 66))) 66 (nI p)) 67 (nI (n 67 + 1)), ?_, fun k hk => ?_⟩
  · rw [f_MD_free, q0, pu_b1_s, pu_ck_t i66, e0, pu_ck_t (vp_in_nI (by omega) (by decide)), nI_clamp (by omega), c66, e66, pu_nm, pu_ck_t i66, pu_nm, pu_ck_t i67, pu_ck_t i67, c67, pk_un (by omega), pk_un (by omega), e67, show nI (n 67) + (1 : Int32) = nI (n 67 + 1) from nI_add _ 1, pu_nm]
  · unfold rf_fr rf_h2
    by_cases e2 : k = 66
    · subst e2; rw [if_pos rfl, pk_un (by omega), pk_us]
    by_cases e3 : k = 67
    · subst e3; rw [if_neg e2, if_pos rfl, pk_us]
    rw [if_neg e2, if_neg e3, pk_un e3, pk_un e2]
    by_cases e4 : k = 64 * p
    · subst e4
      rw [pk_us]
      unfold rf_wp
      dsimp only
      rw [if_pos (by omega), if_pos (by omega)]
    · rw [pk_un e4, r0 k hk]
      unfold rf_wp
      dsimp only
      by_cases e5 : 64 * p ≤ k ∧ k < 64 * p + 64
      · rw [if_pos e5, if_pos e5, if_neg (by omega)]
      · rw [if_neg e5, if_neg e5]
end RFDR
