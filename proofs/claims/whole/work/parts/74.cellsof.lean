section RFCO
theorem rf_rd_sh {g : Nat → Nat} {s x e : Nat} : rf_rd g (s + x) (s + e) = rf_rd (fun k => g (s + k)) x e := by
  unfold rf_rd
  dsimp only
  rw [Nat.add_assoc s x 1, Nat.add_assoc s x 2]
  by_cases c0 : e ≤ x
  · rw [if_pos c0, if_pos (by omega)]
  rw [if_neg c0, if_neg (by omega)]
  by_cases c1 : e ≤ x + 1
  · rw [if_pos c1, if_pos (by omega : s + e ≤ s + (x + 1))]
  rw [if_neg c1, if_neg (by omega : ¬ s + e ≤ s + (x + 1))]
  by_cases c2 : e ≤ x + 2
  · rw [if_pos c2, if_pos (by omega : s + e ≤ s + (x + 2))]
  rw [if_neg c2, if_neg (by omega : ¬ s + e ≤ s + (x + 2))]
/-- a cell, by its bytes -/
def rf_cln (g : Nat → Nat) (i : Nat) : Nat := rf_st g i - rf_st g (i + 1)
def rf_ccb (g : Nat → Nat) (i k : Nat) : Nat := g (rf_st g (i + 1) + k)
def rf_tL (ln : Nat) (cb : Nat → Nat) : Nat := match rf_rd cb 0 ln with
  | none => 0
  | some q => q.1
def rf_tf (ln : Nat) (cb : Nat → Nat) : Nat := if rf_tL ln cb ≤ 24 then 0 else cb (ln - 1)
def rf_tb (ln : Nat) (cb : Nat → Nat) : Nat := ln - (if rf_tL ln cb ≤ 24 then rf_tL ln cb else 17)
def rf_tc (n : Nat → Nat) (ln : Nat) (cb : Nat → Nat) (k : Nat) : Nat := if rf_tL ln cb ≤ 24 ∨ k < 16 then cb (rf_tb ln cb + k) else n (64 * rf_lk n ((k - 16) / 63) (rf_tf ln cb) + 1 + (k - 16) % 63)
def rf_kl (n : Nat → Nat) (c ln : Nat) (cb : Nat → Nat) : Prop :=
  ∃ y k z, rf_rd cb 0 ln = some (rf_tL ln cb, y) ∧ rf_rd cb y ln = some (k, z) ∧ rf_tL ln cb ≤ 307 ∧ y + z = rf_tb ln cb ∧ rf_tb ln cb + (if rf_tL ln cb ≤ 24 then rf_tL ln cb else 17) = ln ∧ rf_hn n c (rf_cp (rf_tL ln cb)) (rf_tf ln cb) ∧ rf_wr (rf_tc n ln cb) (rf_tL ln cb)
def rf_ki (ln : Nat) (cb : Nat → Nat) : Prop := ∃ k z, rf_rd cb 1 ln = some (k, z) ∧ 1 + z = ln
def rf_kq (n : Nat → Nat) (q ln : Nat) (cb : Nat → Nat) : Nat := rf_hc n (rf_cp (rf_tL ln cb)) (rf_tf ln cb) q
variable {n : Nat → Nat} {c : Nat}
theorem rf_cL_t {g : Nat → Nat} {i : Nat} (h : rf_st g (i + 1) < rf_st g i) : rf_cL g i = rf_tL (rf_cln g i) (rf_ccb g i) ∧ rf_cf g i = rf_tf (rf_cln g i) (rf_ccb g i) ∧ rf_ln g i = rf_rd (rf_ccb g i) 0 (rf_cln g i) := by
  have e1 : rf_ln g i = rf_rd (rf_ccb g i) 0 (rf_cln g i) := by
    have := rf_rd_sh (g := g) (s := rf_st g (i + 1)) (x := 0) (e := rf_cln g i)
    unfold rf_cln at this ⊢
    rw [show rf_st g (i + 1) + (rf_st g i - rf_st g (i + 1)) = rf_st g i by omega] at this
    exact this
  have e2 : rf_cL g i = rf_tL (rf_cln g i) (rf_ccb g i) := by unfold rf_cL rf_tL; rw [e1]; rfl
  refine ⟨e2, ?_, e1⟩
  unfold rf_cf rf_tf
  rw [e2]
  unfold rf_ccb rf_cln
  rw [show rf_st g (i + 1) + (rf_st g i - rf_st g (i + 1) - 1) = rf_st g i - 1 by omega]
theorem rf_rc_t {g : Nat → Nat} {i : Nat} (h : rf_st g (i + 1) < rf_st g i) (hx : (if rf_cL g i ≤ 24 then rf_cL g i else 17) ≤ rf_cln g i) : rf_cb g i = rf_st g (i + 1) + rf_tb (rf_cln g i) (rf_ccb g i) ∧ rf_rc n g i = rf_tc n (rf_cln g i) (rf_ccb g i) := by
  obtain ⟨e1, e2, e3⟩ := rf_cL_t h
  have e4 : rf_cb g i = rf_st g (i + 1) + rf_tb (rf_cln g i) (rf_ccb g i) := by
    unfold rf_cb rf_tb
    rw [← e1]
    unfold rf_cln at hx ⊢
    omega
  refine ⟨e4, ?_⟩
  funext k
  unfold rf_rc rf_tc
  rw [← e1, ← e2, e4, Nat.add_assoc]
  rfl
theorem rf_cl_kl {g : Nat → Nat} {i : Nat} (h : rf_st g (i + 1) < rf_st g i) : rf_cl n c g i ↔ rf_kl n c (rf_cln g i) (rf_ccb g i) := by
  obtain ⟨e1, e2, e3⟩ := rf_cL_t h
  have e5 : ∀ y, rf_rd g (rf_st g (i + 1) + y) (rf_st g i) = rf_rd (rf_ccb g i) y (rf_cln g i) := by
    intro y
    have := rf_rd_sh (g := g) (s := rf_st g (i + 1)) (x := y) (e := rf_cln g i)
    unfold rf_cln at this ⊢
    rw [show rf_st g (i + 1) + (rf_st g i - rf_st g (i + 1)) = rf_st g i by omega] at this
    exact this
  have e6 : rf_st g i = rf_st g (i + 1) + rf_cln g i := by unfold rf_cln; omega
  constructor
  · rintro ⟨y, k, z, h1, h2, h3, h4, h5, h6, h7⟩
    obtain ⟨e4, e7⟩ := rf_rc_t (n := n) h (by omega)
    rw [e3, e1] at h1
    rw [e5] at h2
    rw [e1] at h3 h5
    rw [e4] at h4 h5
    rw [e1, e2] at h6
    rw [e1, e7] at h7
    exact ⟨y, k, z, h1, h2, h3, by omega, by omega, h6, h7⟩
  · rintro ⟨y, k, z, h1, h2, h3, h4, h5, h6, h7⟩
    obtain ⟨e4, e7⟩ := rf_rc_t (n := n) h (by rw [e1]; omega)
    refine ⟨y, k, z, by rw [e3, e1]; exact h1, by rw [e5]; exact h2, by rw [e1]; exact h3, by omega, by rw [e1]; omega, by rw [e1, e2]; exact h6, by rw [e1, e7]; exact h7⟩
theorem rf_ci_ki {g : Nat → Nat} {i : Nat} (h : rf_st g (i + 1) < rf_st g i) : rf_ci g i ↔ rf_ki (rf_cln g i) (rf_ccb g i) := by
  have e5 : rf_rd g (rf_st g (i + 1) + 1) (rf_st g i) = rf_rd (rf_ccb g i) 1 (rf_cln g i) := by
    have := rf_rd_sh (g := g) (s := rf_st g (i + 1)) (x := 1) (e := rf_cln g i)
    unfold rf_cln at this ⊢
    rw [show rf_st g (i + 1) + (rf_st g i - rf_st g (i + 1)) = rf_st g i by omega] at this
    exact this
  have e6 : rf_st g i = rf_st g (i + 1) + rf_cln g i := by unfold rf_cln; omega
  unfold rf_ci rf_ki
  rw [e5]
  constructor
  · rintro ⟨k, z, h1, h2⟩; exact ⟨k, z, h1, by omega⟩
  · rintro ⟨k, z, h1, h2⟩; exact ⟨k, z, h1, by omega⟩
theorem rf_lq_kq {g : Nat → Nat} {q i : Nat} (h : rf_st g (i + 1) < rf_st g i) : rf_lq n g q i = rf_kq n q (rf_cln g i) (rf_ccb g i) := by
  obtain ⟨e1, e2, e3⟩ := rf_cL_t h
  unfold rf_lq rf_kq
  rw [e1, e2]
theorem rf_t_congr {ln : Nat} {cb cb' : Nat → Nat} (h : ∀ k, k < ln → cb' k = cb k) (h1 : 1 ≤ ln) : rf_tL ln cb' = rf_tL ln cb ∧ rf_tf ln cb' = rf_tf ln cb ∧ rf_tb ln cb' = rf_tb ln cb := by
  have e1 : rf_tL ln cb' = rf_tL ln cb := by unfold rf_tL; rw [rf_rd_congr h]
  refine ⟨e1, ?_, ?_⟩
  · unfold rf_tf; rw [e1, h _ (by omega)]
  · unfold rf_tb; rw [e1]
theorem rf_kl_congr {ln : Nat} {cb cb' : Nat → Nat} (h : ∀ k, k < ln → cb' k = cb k) (h1 : 1 ≤ ln) (hk : rf_kl n c ln cb) : rf_kl n c ln cb' := by
  obtain ⟨e1, e2, e3⟩ := rf_t_congr h h1
  obtain ⟨y, k, z, k1, k2, k3, k4, k5, k6, m, cd, zz, k7⟩ := hk
  refine ⟨y, k, z, by rw [rf_rd_congr h, e1]; exact k1, by rw [rf_rd_congr h]; exact k2, by rw [e1]; exact k3, by rw [e3]; exact k4, by rw [e1, e3]; exact k5, by rw [e1, e2]; exact k6, m, cd, zz, ?_⟩
  rw [e1]
  refine rf_wq_congr (fun j hj => ?_) k7
  unfold rf_tc
  rw [e1, e2, e3]
  by_cases e : rf_tL ln cb ≤ 24 ∨ j < 16
  · rw [if_pos e, if_pos e, h]
    by_cases e4 : rf_tL ln cb ≤ 24
    · rw [if_pos e4] at k5; omega
    · rw [if_neg e4] at k5; omega
  · rw [if_neg e, if_neg e]
theorem rf_ki_congr {ln : Nat} {cb cb' : Nat → Nat} (h : ∀ k, k < ln → cb' k = cb k) (hk : rf_ki ln cb) : rf_ki ln cb' := by
  obtain ⟨k, z, h1, h2⟩ := hk
  exact ⟨k, z, by rw [rf_rd_congr h]; exact h1, h2⟩
theorem rf_kq_congr {q ln : Nat} {cb cb' : Nat → Nat} (h : ∀ k, k < ln → cb' k = cb k) (h1 : 1 ≤ ln) : rf_kq n q ln cb' = rf_kq n q ln cb := by
  obtain ⟨e1, e2, e3⟩ := rf_t_congr h h1
  unfold rf_kq
  rw [e1, e2]
/-- a page made of cells -/
def rf_by (ln : Nat → Nat) (cb : Nat → Nat → Nat) : Nat → Nat → Nat
  | 0, _ => 0
  | m + 1, a => if 64 - rf_su ln (m + 1) ≤ a ∧ a < 64 - rf_su ln m then cb m (a - (64 - rf_su ln (m + 1))) else rf_by ln cb m a
def rf_pw (kd m la : Nat) (ln : Nat → Nat) (cb : Nat → Nat → Nat) (i : Nat) : Nat → Nat := fun a => if a = 0 then kd else if a = 1 then m else if a = 2 then la else if a = 3 then 0 else if a < 4 + i then 64 - rf_su ln (a - 3) else rf_by ln cb i a
def rf_mk (kd m la : Nat) (ln : Nat → Nat) (cb : Nat → Nat → Nat) : Nat → Nat := rf_pw kd m la ln cb m
theorem rf_by_in {ln : Nat → Nat} {cb : Nat → Nat → Nat} : ∀ {m i k}, rf_su ln m ≤ 64 → i < m → k < ln i → rf_by ln cb m (64 - rf_su ln (i + 1) + k) = cb i k
  | 0, _, _, _, h, _ => by omega
  | m + 1, i, k, hs, hi, hk => by
    have hm : rf_su ln (m + 1) = rf_su ln m + ln m := rfl
    have hii : rf_su ln (i + 1) = rf_su ln i + ln i := rfl
    rw [rf_by]
    by_cases e : i = m
    · subst e
      rw [if_pos ⟨by omega, by omega⟩]
      congr 1; omega
    · have h2 : rf_su ln (i + 1) ≤ rf_su ln m := rf_su_le_of (by omega)
      rw [if_neg (by omega)]
      exact rf_by_in (by omega) (by omega) hk
theorem rf_by_out {ln : Nat → Nat} {cb : Nat → Nat → Nat} : ∀ {m a}, a < 64 - rf_su ln m → rf_by ln cb m a = 0
  | 0, _, _ => rfl
  | m + 1, a, h => by
    have hm : rf_su ln (m + 1) = rf_su ln m + ln m := rfl
    rw [rf_by, if_neg (by omega)]
    exact rf_by_out (by omega)
theorem rf_by_out2 {ln : Nat → Nat} {cb : Nat → Nat → Nat} : ∀ {m a}, 64 ≤ a → rf_by ln cb m a = 0
  | 0, _, _ => rfl
  | m + 1, a, h => by
    rw [rf_by, if_neg (by omega)]
    exact rf_by_out2 h
variable {kd m la : Nat} {ln : Nat → Nat} {cb : Nat → Nat → Nat}
theorem rf_su_ge {f : Nat → Nat} : ∀ {m}, (∀ i, i < m → 1 ≤ f i) → m ≤ rf_su f m
  | 0, _ => Nat.le_refl _
  | m + 1, h => by
    have := rf_su_ge (f := f) (m := m) (fun i hi => h i (by omega))
    have := h m (by omega)
    rw [rf_su]; omega
theorem rf_mk_st (hs : 4 + m + rf_su ln m ≤ 64) {i : Nat} (hi : i ≤ m) : rf_st (rf_mk kd m la ln cb) i = 64 - rf_su ln i := by
  cases i with
  | zero => rfl
  | succ i =>
    rw [rf_st1]
    unfold rf_mk rf_pw
    rw [if_neg (by omega), if_neg (by omega), if_neg (by omega), if_neg (by omega), if_pos (by omega), show 4 + i - 3 = i + 1 by omega]
theorem rf_mk_cb (hs : 4 + m + rf_su ln m ≤ 64) {i k : Nat} (hi : i < m) (hk : k < ln i) : rf_mk kd m la ln cb (64 - rf_su ln (i + 1) + k) = cb i k := by
  have h2 : rf_su ln (i + 1) ≤ rf_su ln m := rf_su_le_of (by omega)
  unfold rf_mk rf_pw
  rw [if_neg (by omega), if_neg (by omega), if_neg (by omega), if_neg (by omega), if_neg (by omega)]
  exact rf_by_in (by omega) hi hk
theorem rf_mk_0 : rf_mk kd m la ln cb 0 = kd := rfl
theorem rf_mk_1 : rf_mk kd m la ln cb 1 = m := rfl
theorem rf_mk_2 : rf_mk kd m la ln cb 2 = la := rfl
theorem rf_mk_lay (hs : 4 + m + rf_su ln m ≤ 64) (hl : ∀ i, i < m → 1 ≤ ln i) (hk : kd = 13 ∨ kd = 5) (hla : kd = 13 → la = 0) : rf_lay (rf_mk kd m la ln cb) := by
  have hm := rf_su_ge hl
  refine ⟨by rw [rf_mk_0]; exact hk, by rw [rf_mk_0, rf_mk_2]; exact hla, rfl, by rw [rf_mk_1]; omega, ?_⟩
  rw [rf_mk_1]
  refine ⟨fun i hi => ?_, fun a h1 h2 => ?_⟩
  · have h2 : rf_su ln (i + 1) ≤ rf_su ln m := rf_su_le_of (by omega)
    have h3 : rf_su ln (i + 1) = rf_su ln i + ln i := rfl
    have h4 := hl i hi
    unfold rf_c1
    rw [rf_mk_st hs (by omega), rf_mk_st hs (by omega)]
    omega
  · rw [rf_mk_st hs (Nat.le_refl _)] at h2
    unfold rf_mk rf_pw
    rw [if_neg (by omega), if_neg (by omega), if_neg (by omega), if_neg (by omega), if_neg (by omega)]
    exact rf_by_out h2
theorem rf_mk_cln (hs : 4 + m + rf_su ln m ≤ 64) {i : Nat} (hi : i < m) : rf_cln (rf_mk kd m la ln cb) i = ln i := by
  have h2 : rf_su ln (i + 1) ≤ rf_su ln m := rf_su_le_of (by omega)
  have h3 : rf_su ln (i + 1) = rf_su ln i + ln i := rfl
  unfold rf_cln
  rw [rf_mk_st hs (by omega), rf_mk_st hs (by omega)]
  omega
theorem rf_mk_ccb (hs : 4 + m + rf_su ln m ≤ 64) {i k : Nat} (hi : i < m) (hk : k < ln i) : rf_ccb (rf_mk kd m la ln cb) i k = cb i k := by
  unfold rf_ccb
  rw [rf_mk_st hs (by omega)]
  exact rf_mk_cb hs hi hk
theorem rf_mk_big {a : Nat} (ha : 64 ≤ a) (hm : m ≤ 60) : rf_mk kd m la ln cb a = 0 := by
  unfold rf_mk rf_pw
  rw [if_neg (by omega), if_neg (by omega), if_neg (by omega), if_neg (by omega), if_neg (by omega)]
  exact rf_by_out2 ha
theorem rf_by_lt (hcb : ∀ i k, i < m → cb i k < 256) : ∀ {j a}, j ≤ m → rf_by ln cb j a < 256
  | 0, _, _ => by rw [rf_by]; omega
  | j + 1, a, h => by
    rw [rf_by]
    split
    · exact hcb _ _ (by omega)
    · exact rf_by_lt hcb (by omega)
theorem rf_mk_lt (hkd : kd < 256) (hm : m < 256) (hla : la < 256) (hcb : ∀ i k, i < m → cb i k < 256) (a : Nat) : rf_mk kd m la ln cb a < 256 := by
  unfold rf_mk rf_pw
  repeat' split
  all_goals first | omega | exact rf_by_lt hcb (Nat.le_refl _)
/-- a page as it must be is made of its cells -/
theorem rf_lay_su {g : Nat → Nat} (h : rf_lay g) : ∀ {i}, i ≤ g 1 → rf_su (rf_cln g) i + rf_st g i = 64
  | 0, _ => rfl
  | i + 1, hi => by
    have := rf_lay_su h (i := i) (by omega)
    have := rf_nd_st h (i := i) (by omega)
    rw [rf_su]
    unfold rf_cln at *
    omega
theorem rf_lay_room {g : Nat → Nat} (h : rf_lay g) : 4 + g 1 + rf_su (rf_cln g) (g 1) ≤ 64 := by
  have h1 := rf_lay_su h (Nat.le_refl _)
  by_cases e : g 1 = 0
  · rw [e] at h1 ⊢; rw [rf_st0] at h1; omega
  · have := (h.2.2.2.2.1 (g 1 - 1) (by omega)).2
    rw [show g 1 - 1 + 1 = g 1 by omega] at this
    omega
theorem rf_lay_ln {g : Nat → Nat} (h : rf_lay g) {i : Nat} (hi : i < g 1) : 1 ≤ rf_cln g i ∧ rf_st g (i + 1) < rf_st g i := by
  have := rf_nd_st h hi
  unfold rf_cln; omega
theorem rf_lay_mk {g : Nat → Nat} (h : rf_lay g) : ∀ a, a < 64 → g a = rf_mk (g 0) (g 1) (g 2) (rf_cln g) (rf_ccb g) a := by
  intro a ha
  have hroom := rf_lay_room h
  have h30 := h.2.2.2.1
  unfold rf_mk rf_pw
  by_cases e0 : a = 0
  · rw [if_pos e0, e0]
  by_cases e1 : a = 1
  · rw [if_neg e0, if_pos e1, e1]
  by_cases e2 : a = 2
  · rw [if_neg e0, if_neg e1, if_pos e2, e2]
  by_cases e3 : a = 3
  · rw [if_neg e0, if_neg e1, if_neg e2, if_pos e3, e3]; exact h.2.2.1
  rw [if_neg e0, if_neg e1, if_neg e2, if_neg e3]
  by_cases e4 : a < 4 + g 1
  · rw [if_pos e4]
    have := rf_lay_su h (i := a - 3) (by omega)
    have e5 : rf_st g (a - 3) = g a := by
      rw [show a - 3 = (a - 4) + 1 by omega, rf_st1, show 4 + (a - 4) = a by omega]
    omega
  · rw [if_neg e4]
    have hs := rf_lay_su h (Nat.le_refl (g 1))
    by_cases e5 : a < 64 - rf_su (rf_cln g) (g 1)
    · rw [rf_by_out e5]
      exact h.2.2.2.2.2 a (by omega) (by omega)
    · -- the cell that it stands in
      have : ∀ j, j ≤ g 1 → 64 - rf_su (rf_cln g) j ≤ a → rf_by (rf_cln g) (rf_ccb g) j a = g a := by
        intro j
        induction j with
        | zero => intro _ h2; have : rf_su (rf_cln g) 0 = 0 := rfl; omega
        | succ j ih =>
          intro h1 h2
          rw [rf_by]
          by_cases e6 : a < 64 - rf_su (rf_cln g) j
          · rw [if_pos ⟨h2, e6⟩]
            have := rf_lay_su h (i := j + 1) h1
            unfold rf_ccb
            congr 1; omega
          · rw [if_neg (fun q => e6 q.2)]
            exact ih (by omega) (by omega)
      exact (this (g 1) (Nat.le_refl _) (by omega)).symm
/-- a page is written -/
def rf_wp (n : Nat → Nat) (p : Nat) (h : Nat → Nat) : Nat → Nat := fun k => if 64 * p ≤ k ∧ k < 64 * p + 64 then h (k - 64 * p) else n k
theorem rf_wp_bt {p : Nat} {h : Nat → Nat} (hn : rf_bt n) (hh : ∀ a, h a < 256) : rf_bt (rf_wp n p h) := by
  intro k
  unfold rf_wp
  split
  · exact hh _
  · exact hn _
theorem rf_wp_pe {p q : Nat} {h : Nat → Nat} (hq : q ≠ p) : rf_pe n (rf_wp n p h) q := by
  intro a ha
  unfold rf_wp
  rw [if_neg (by omega)]
theorem rf_wp_at {p a : Nat} {h : Nat → Nat} (ha : a < 64) : rf_wp n p h (64 * p + a) = h a := by
  unfold rf_wp
  rw [if_pos (by omega)]
  congr 1; omega
theorem rf_wp_gb {p : Nat} {h : Nat → Nat} (h1 : 1 ≤ p) (h2 : p ≤ c) (hh : ∀ a, 64 ≤ a → h a = 0) : rf_gb (rf_wp n p h) c p = h := by
  funext a
  by_cases e : a < 64
  · rw [rf_gb_at h1 h2 e, rf_wp_at e]
  · unfold rf_gb
    rw [if_neg (fun q => e q.2.2), hh a (by omega)]
theorem rf_wp_hd {p k : Nat} {h : Nat → Nat} (hp : 2 ≤ p) (hk : k < 128) : rf_wp n p h k = n k := by
  unfold rf_wp
  rw [if_neg (by omega)]
end RFCO
