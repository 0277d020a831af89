section RFTP
/-- the reference reads a number that stands whole in a cell -/
theorem rf_mread_loc {N : Nat} {b : Nat → Int32} {x : Nat → Nat} {s L v z : Nat} (hx : ∀ k, x k < 256) (hb : ∀ k, k < L → b (s + k) = nI (x k)) (hs : s + L ≤ N) (hN : N < 2 ^ 20) {t : Nat} (h : rf_rd x t L = some (v, z)) : f_MD_read N b (nI (s + t)) 0 (nI N) = some (nI v, nI (s + t + z), 0) := by
  have hF : f_MD_read N b (nI (s + t)) 0 (nI N) = q_MD_read_8 N b (nI N) (1994 + 1 + 1 + 1 + 1 + 1 + 1) (nI (s + t + 0)) 0 (nI 0) (nI 0) (nI 1) := rfl
  have h0 := hx t
  have h1 := hx (t + 1)
  have h2 := hx (t + 2)
  have z1 : ¬ nI 1 = (0 : Int32) := by decide
  have hbb : ∀ i, t + i < L → b (s + t + i) = nI (x (t + i)) := fun i hi => by rw [Nat.add_assoc]; exact hb _ hi
  have fin : ∀ f a v i, q_MD_read_8 N b (nI N) (f + 1) a 0 v i (nI 0) = some (v, a, 0) := by
    intro f a v i
    rw [q_MD_read_8, pu_br_t (show nI 0 = (0 : Int32) from rfl)]
  have e56 : ∀ f v i, v < 2 ^ 22 → t + i < L → i < 4 → q_MD_read_56 (q_MD_read_8 N b (nI N) f) N b (nI (s + t + i)) 0 (nI N) (nI v) (nI i) = q_MD_read_8 N b (nI N) f (nI (s + t + (i + 1))) 0 (nI (v * 128 + x (t + i) % 128)) (nI (i + 1)) (nI (if x (t + i) < 128 then 0 else 1)) := by
    intro f v i hv h hi
    have hgi := hx (t + i)
    rw [q_MD_read_56, q_MD_read_57, pu_ck_t pu_bz0, pu_br_t rfl, pu_ck_t (vp_in_nI (by omega) (by omega)), nI_clamp (by omega), hbb _ h, rf_or7 hv hgi, pu_nm, pu_ck_t (vp_in_nI (by omega) (by omega))]
    by_cases q : x (t + i) < 128
    · rw [pu_br_t (show nI (x (t + i)) ≤ (127 : Int32) from nI_le (a := x (t + i)) (b := 127) (by omega) (by decide)), q_MD_read_100, pu_nm, pu_nm, nI_1, nI_1, if_pos q]
      rfl
    · rw [pu_br_f (show ¬ nI (x (t + i)) ≤ (127 : Int32) from nI_ge (a := 127) (b := x (t + i)) (by omega) (by omega)), q_MD_read_100, pu_nm, pu_nm, nI_1, nI_1, if_neg q]
      rfl
  have go : ∀ f v i, v < 2 ^ 22 → t + i < L → 1 ≤ i → i < 4 → q_MD_read_8 N b (nI N) (f + 1) (nI (s + t + i)) 0 (nI v) (nI i) (nI 1) = q_MD_read_8 N b (nI N) f (nI (s + t + (i + 1))) 0 (nI (v * 128 + x (t + i) % 128)) (nI (i + 1)) (nI (if x (t + i) < 128 then 0 else 1)) := by
    intro f v i hv h hi1 hi
    rw [q_MD_read_8, pu_br_f z1, pu_br_t rfl, pu_br_f (nI_ge (by omega) (by omega)), pu_br_f (show ¬ nI i = (4 : Int32) from fun q => by have := (nI_eq (a := i) (b := 4) (by omega) (by decide)).mp q; omega), pu_br_f (show ¬ nI i = (0 : Int32) from nI_ne0 (by omega) (by omega)), e56 _ _ _ hv h hi]
  have go0 : ∀ f, t < L → ¬ x t = 128 → q_MD_read_8 N b (nI N) (f + 1) (nI (s + t + 0)) 0 (nI 0) (nI 0) (nI 1) = q_MD_read_8 N b (nI N) f (nI (s + t + (0 + 1))) 0 (nI (0 * 128 + x (t + 0) % 128)) (nI (0 + 1)) (nI (if x (t + 0) < 128 then 0 else 1)) := by
    intro f h hq
    rw [q_MD_read_8, pu_br_f z1, pu_br_t rfl, pu_br_f (nI_ge (by omega) (by omega)), pu_br_f (show ¬ nI 0 = (4 : Int32) by decide), pu_br_t (show nI 0 = (0 : Int32) from rfl), pu_ck_t (vp_in_nI (by omega) (by omega)), nI_clamp (by omega), hbb 0 (by omega), pu_br_f (show ¬ nI (x (t + 0)) = (128 : Int32) from fun q => hq ((nI_eq (a := x t) (b := 128) (by omega) (by decide)).mp q)), e56 _ _ _ (by omega) (by omega) (by omega)]
  have m0 : 0 * 128 + x (t + 0) % 128 = x t % 128 := by rw [Nat.zero_mul, Nat.zero_add, Nat.add_zero]
  unfold rf_rd at h
  rw [hF]
  by_cases g0 : L ≤ t
  · rw [if_pos g0] at h; cases h
  rw [if_neg g0] at h
  by_cases g1 : x t = 128
  · rw [if_pos g1] at h; cases h
  rw [if_neg g1] at h
  rw [go0 _ (by omega) g1, m0]
  by_cases g2 : x t < 128
  · rw [if_pos g2] at h
    cases h
    rw [if_pos (show x (t + 0) < 128 from g2), fin, Nat.mod_eq_of_lt g2]
  rw [if_neg g2] at h
  rw [if_neg (show ¬ x (t + 0) < 128 from g2)]
  have m1 : x t % 128 = x t - 128 := by omega
  by_cases g3 : L ≤ t + 1
  · rw [if_pos g3] at h; cases h
  rw [if_neg g3] at h
  rw [go _ _ 1 (by omega) (by omega) (by omega) (by omega), m1]
  by_cases g4 : x (t + 1) < 128
  · rw [if_pos g4] at h
    cases h
    rw [if_pos g4, fin, Nat.mod_eq_of_lt g4]
  rw [if_neg g4] at h
  rw [if_neg g4]
  have m2 : x (t + 1) % 128 = x (t + 1) - 128 := by omega
  by_cases g5 : L ≤ t + 2
  · rw [if_pos g5] at h; cases h
  rw [if_neg g5] at h
  rw [go _ _ 2 (by omega) (by omega) (by omega) (by omega), m2]
  by_cases g6 : x (t + 2) < 128
  · rw [if_pos g6] at h
    cases h
    rw [if_pos g6, fin, Nat.mod_eq_of_lt g6]
  · rw [if_neg g6] at h; cases h
/-- the class reads a number of a cell in hand -/
theorem rf_rdv_loc {b : Nat → Int32} {x : Nat → Nat} {s L : Nat} (hx : ∀ k, x k < 256) (hb : ∀ k, k < L → b (s + k) = rf_sx (x k)) (hs : s + L ≤ 96) {t : Nat} (ht : t < 100) : f_RF_readVarint 96 b (nI (s + t)) (nI (s + L)) = some (rf_rv (rf_rd x t L)) := by
  obtain ⟨g, hg⟩ := Classical.skolem.mp (fun k => pk_andE (b k) (m := (255 : Int32)) 8 (by decide))
  rw [rf_readVarint (g := g) (fun k => (hg k).1) (fun k _ => (hg k).2) (by omega) (by omega) (by omega), rf_rd_sh, rf_rd_congr (g := x) (fun a ha => ?_)]
  have e1 := (hg (s + a)).2
  rw [hb a ha, rf_sx_and (hx a)] at e1
  have e2 := (hg (s + a)).1
  have e3 := hx a
  exact ((nI_eq (by omega) (by omega)).mp e1).symm
theorem rf_key_nx {M : Nat} {ln : Nat → Nat} {cb : Nat → Nat → Nat} {cnt leaf : Int32} {b st sz : Nat → Int32} (h : rf_nx M ln cb cnt b st sz) {i : Nat} (hi : i < M) (hx : ∀ k, cb i k < 256) {k z : Nat} (hk : k < 2097152)
    (hc : (leaf = 0 ∧ rf_rd (cb i) 1 (ln i) = some (k, z)) ∨ (leaf = 1 ∧ ∃ L y, rf_rd (cb i) 0 (ln i) = some (L, y) ∧ rf_rd (cb i) y (ln i) = some (k, z))) : f_Node_cellKey cnt leaf b st sz (nI i) = some (nI k) := by
  obtain ⟨h1, rfl, h3⟩ := h
  obtain ⟨s, k1, k2, k3, k4⟩ := h3 i hi
  have i31 : vp_in (nI i) 31 := vp_in_nI (by omega) (by decide)
  have e36 : ∀ (t : Nat), t < 100 → q_Node_cellKey_36 (nI M) leaf b st sz (nI i) (nI t) = some (rf_rv (rf_rd (cb i) t (ln i))) := by
    intro t ht
    rw [q_Node_cellKey_36, pu_ck_t i31, pu_ck_t i31, pu_ck_t i31, nI_clamp (by omega), k1, k2, nI_add, nI_add, rf_rdv_loc hx k4 k3 ht, pu_b1_s]
  rw [f_Node_cellKey, rf_hasCell (by omega) (by omega), if_pos hi, pu_b1_s, pu_br_f (by decide)]
  rcases hc with ⟨hl, hr⟩ | ⟨hl, L, y, hr, hr2⟩
  · rw [pu_br_t hl, show (1 : Int32) = nI 1 from rfl, e36 1 (by omega), hr]; rfl
  · have hrl : f_Node_recordLength (nI M) b st sz (nI i) = some (nI L) := by
      have := rf_rdv_loc hx k4 k3 (t := 0) (by omega)
      rw [hr] at this
      rw [f_Node_recordLength, rf_hasCell (by omega) (by omega), if_pos hi, pu_b1_s, pu_br_f (by decide), pu_ck_t i31, pu_ck_t i31, pu_ck_t i31, nI_clamp (by omega), k1, k2, nI_add]
      rw [Nat.add_zero] at this
      rw [this, pu_b1_s]; rfl
    have hlt := rf_rd_lt hx hr
    have hsz := rf_rd_size hx hr
    rw [pu_br_f (by rw [hl]; decide), hrl, pu_b1_s, pu_br_t (nI_pos' (by omega)), rf_varintSize (by omega), pu_b1_s, show rf_vz L = y from hsz.symm, e36 y (by omega), hr2]; rfl
theorem rf_child_nx {M : Nat} {ln : Nat → Nat} {cb : Nat → Nat → Nat} {cnt last : Int32} {b st sz : Nat → Int32} (h : rf_nx M ln cb cnt b st sz) {i : Nat} (hi : i < M) (hl : 1 ≤ ln i) (hx : cb i 0 < 256) : f_Node_child cnt last b st (nI i) = some (nI (cb i 0)) := by
  obtain ⟨h1, rfl, h3⟩ := h
  obtain ⟨s, k1, k2, k3, k4⟩ := h3 i hi
  have := k4 0 hl
  rw [Nat.add_zero] at this
  rw [f_Node_child, rf_hasCell (by omega) (by omega), if_pos hi, pu_b1_s, pu_br_f (by decide), pu_ck_t (vp_in_nI (by omega) (by decide)), nI_clamp (by omega), k1, pu_ck_t (vp_in_nI (by omega) (by decide)), nI_clamp (by omega), this, rf_sx_and hx]
/-- a page taken -/
def rf_tk (n : Nat → Nat) : Nat := if n 66 = 0 then (if n 65 = 24 then 0 else n 65 + 1) else n 66
def rf_th (n : Nat → Nat) : Nat → Nat := if n 66 = 0 then (fun k => if k = 65 then n 65 + 1 else n k) else rf_h2 n (n (64 * n 66)) (n 67 - 1)
def rf_tn (n : Nat → Nat) : Nat → Nat := rf_wp (rf_th n) (rf_tk n) (fun _ => 0)
/-- which pages are used, and the rest is free -/
def rf_ok (n : Nat → Nat) (U : Nat → Nat) : Prop := rf_bt n ∧ 2 ≤ n 65 ∧ n 65 ≤ 24 ∧ rf_hn n (n 65) (n 67) (n 66) ∧ (∀ q, U q + rf_hc n (n 67) (n 66) q ≤ 1) ∧ ∀ q, 1 ≤ U q → 2 ≤ q ∧ q ≤ n 65
variable {n U : Nat → Nat}
theorem rf_ok_66 (h : rf_ok n U) (h0 : n 66 ≠ 0) : 2 ≤ n 66 ∧ n 66 ≤ n 65 ∧ 1 ≤ n 67 ∧ rf_hn n (n 65) (n 67 - 1) (n (64 * n 66)) ∧ ∀ q, rf_hc n (n 67) (n 66) q = (if n 66 = q then 1 else 0) + rf_hc n (n 67 - 1) (n (64 * n 66)) q := by
  obtain ⟨h1, h2, h3, h4, h5, h6⟩ := h
  obtain ⟨m, hm⟩ : ∃ m, n 67 = m := ⟨_, rfl⟩
  rw [hm] at h4 ⊢
  cases m with
  | zero => exact absurd h4 h0
  | succ m => exact ⟨h4.1, h4.2.1, by omega, h4.2.2, fun q => rfl⟩
theorem rf_tk_ok (h : rf_ok n U) (hp : rf_tk n ≠ 0) : 2 ≤ rf_tk n ∧ rf_tk n ≤ rf_tn n 65 ∧ n 65 ≤ rf_tn n 65 ∧ U (rf_tk n) = 0 ∧ rf_ok (rf_tn n) (fun q => U q + (if rf_tk n = q then 1 else 0)) ∧ (∀ q, 2 ≤ q → q ≠ rf_tk n → rf_pe n (rf_tn n) q) ∧ (∀ a, a < 64 → rf_tn n (64 * rf_tk n + a) = 0) ∧ ∀ j, j < 128 → j ≠ 65 → j ≠ 66 → j ≠ 67 → rf_tn n j = n j := by
  have hh := h
  obtain ⟨h1, h2, h3, h4, h5, h6⟩ := h
  have zero : ∀ a, a < 64 → rf_tn n (64 * rf_tk n + a) = 0 := fun a ha => rf_wp_at ha
  by_cases e : n 66 = 0
  · have e24 : n 65 ≠ 24 := fun q => by unfold rf_tk at hp; rw [if_pos e, if_pos q] at hp; exact hp rfl
    have et : rf_tk n = n 65 + 1 := by unfold rf_tk; rw [if_pos e, if_neg e24]
    have eh : rf_th n = fun k => if k = 65 then n 65 + 1 else n k := by unfold rf_th; rw [if_pos e]
    have en : rf_tn n = rf_wp (fun k => if k = 65 then n 65 + 1 else n k) (n 65 + 1) (fun _ => 0) := by unfold rf_tn; rw [eh, et]
    have hd : ∀ j, j < 128 → rf_tn n j = if j = 65 then n 65 + 1 else n j := fun j hj => by rw [en]; exact rf_wp_hd (by omega) hj
    have e65 : rf_tn n 65 = n 65 + 1 := by rw [hd 65 (by omega), if_pos rfl]
    have e66 : rf_tn n 66 = n 66 := by rw [hd 66 (by omega), if_neg (by omega)]
    have e67 : rf_tn n 67 = n 67 := by rw [hd 67 (by omega), if_neg (by omega)]
    have pe : ∀ q, 2 ≤ q → q ≠ rf_tk n → rf_pe n (rf_tn n) q := by
      intro q q1 q2 a ha
      rw [et] at q2
      rw [en, rf_wp_pe q2 a ha, if_neg (by omega)]
    have U0 : U (rf_tk n) = 0 := by
      by_cases q : U (rf_tk n) = 0
      · exact q
      · have := h6 (rf_tk n) (by omega); omega
    have f0 : rf_hc n (n 67) (n 66) (rf_tk n) = 0 := by
      by_cases q : rf_hc n (n 67) (n 66) (rf_tk n) = 0
      · exact q
      · have := rf_hc_in h4 (q := rf_tk n) (by omega); omega
    obtain ⟨f1, f2, _⟩ := rf_hn_frame (n' := rf_tn n) (c' := n 65 + 1) (by omega) h4 (fun q hq => pe q (rf_hc_in h4 hq).1 (fun e => by rw [e] at hq; omega))
    refine ⟨by omega, by omega, by omega, U0, ⟨?_, by omega, by omega, by rw [e65, e66, e67]; exact f1, fun q => ?_, fun q hq => ?_⟩, pe, zero, fun j j1 j2 j3 j4 => by rw [hd j j1, if_neg j2]⟩
    · rw [en]
      refine rf_wp_bt (fun k => ?_) (fun _ => by omega)
      split
      · omega
      · exact h1 k
    · rw [e66, e67, f2]
      have := h5 q
      dsimp only
      by_cases q2 : rf_tk n = q
      · rw [if_pos q2]; subst q2; omega
      · rw [if_neg q2]; omega
    · dsimp only at hq
      by_cases q2 : rf_tk n = q
      · omega
      · rw [if_neg q2] at hq
        have := h6 q (by omega)
        omega
  · obtain ⟨a1, a2, a3, a4, a5⟩ := rf_ok_66 hh e
    have et : rf_tk n = n 66 := by unfold rf_tk; rw [if_neg e]
    have eh : rf_th n = rf_h2 n (n (64 * n 66)) (n 67 - 1) := by unfold rf_th; rw [if_neg e]
    have en : rf_tn n = rf_wp (rf_h2 n (n (64 * n 66)) (n 67 - 1)) (n 66) (fun _ => 0) := by unfold rf_tn; rw [eh, et]
    have hd : ∀ j, j < 128 → rf_tn n j = rf_h2 n (n (64 * n 66)) (n 67 - 1) j := fun j hj => by rw [en]; exact rf_wp_hd (by omega) hj
    have e65 : rf_tn n 65 = n 65 := by rw [hd 65 (by omega)]; rfl
    have e66 : rf_tn n 66 = n (64 * n 66) := by rw [hd 66 (by omega)]; rfl
    have e67 : rf_tn n 67 = n 67 - 1 := by rw [hd 67 (by omega)]; rfl
    have pe : ∀ q, 2 ≤ q → q ≠ rf_tk n → rf_pe n (rf_tn n) q := by
      intro q q1 q2 a ha
      rw [et] at q2
      rw [en, rf_wp_pe q2 a ha]
      unfold rf_h2
      rw [if_neg (by omega), if_neg (by omega)]
    have hP := h5 (n 66)
    rw [a5, if_pos rfl] at hP
    obtain ⟨f1, f2, _⟩ := rf_hn_frame (n' := rf_tn n) (Nat.le_refl (n 65)) a4 (fun q hq => pe q (rf_hc_in a4 hq).1 (fun e => by rw [et] at e; rw [e] at hq; omega))
    refine ⟨by omega, by omega, by omega, by rw [et]; omega, ⟨?_, by omega, by omega, by rw [e65, e66, e67]; exact f1, fun q => ?_, fun q hq => ?_⟩, pe, zero, fun j j1 j2 j3 j4 => by rw [hd j j1]; unfold rf_h2; rw [if_neg j3, if_neg j4]⟩
    · rw [en]
      refine rf_wp_bt (fun k => ?_) (fun _ => by omega)
      unfold rf_h2
      have b1 := h1 (64 * n 66)
      have b2 := h1 67
      split
      · exact b1
      · split
        · omega
        · exact h1 k
    · rw [e66, e67, f2]
      have := h5 q
      rw [a5] at this
      dsimp only
      rw [et]
      omega
    · dsimp only at hq
      rw [e65]
      by_cases q2 : rf_tk n = q
      · omega
      · rw [if_neg q2] at hq
        exact h6 q (by omega)
theorem rf_wp_ok {p : Nat} {h : Nat → Nat} (H : rf_ok n U) (hp : 1 ≤ U p) (hh : ∀ a, h a < 256) : rf_ok (rf_wp n p h) U := by
  obtain ⟨h1, h2, h3, h4, h5, h6⟩ := H
  obtain ⟨p1, p2⟩ := h6 p hp
  have e65 : rf_wp n p h 65 = n 65 := rf_wp_hd p1 (by omega)
  have e66 : rf_wp n p h 66 = n 66 := rf_wp_hd p1 (by omega)
  have e67 : rf_wp n p h 67 = n 67 := rf_wp_hd p1 (by omega)
  have := h5 p
  obtain ⟨f1, f2, _⟩ := rf_hn_frame (n' := rf_wp n p h) (Nat.le_refl (n 65)) h4 (fun q hq => rf_wp_pe (fun e => by subst e; omega))
  exact ⟨rf_wp_bt h1 hh, by omega, by omega, by rw [e65, e66, e67]; exact f1, fun q => by rw [e66, e67, f2]; exact h5 q, fun q hq => by rw [e65]; exact h6 q hq⟩
theorem rf_takePage0 {b : Nat → Int32} (H : rf_ok n U) (hb : rf_pg b n) (hp : rf_tk n = 0) : f_Pages_takePage (nI (n 65)) b = some (0, nI (n 65), b) := by
  have hh := H
  obtain ⟨h1, h2, h3, h4, h5, h6⟩ := H
  have g2 := rf_get h1 hb (c := n 65) (p := 1) (a := 2) h3 (by omega) (by omega)
  rw [rf_gb_at (by omega) (by omega) (by omega), show 64 * 1 + 2 = 66 from rfl] at g2
  have e : n 66 = 0 := by
    by_cases q : n 66 = 0
    · exact q
    · unfold rf_tk at hp; rw [if_neg q] at hp; omega
  have e24 : n 65 = 24 := by
    by_cases q : n 65 = 24
    · exact q
    · unfold rf_tk at hp; rw [if_pos e, if_neg q] at hp; omega
  rw [f_Pages_takePage, show (1 : Int32) = nI 1 from rfl, show (2 : Int32) = nI 2 from rfl, g2, pu_b1_s, pu_br_t (show nI (n 66) = (0 : Int32) by rw [e]; rfl), pu_br_f (show ¬ nI (n 65) < (24 : Int32) by rw [e24]; decide)]
theorem rf_takePage {b : Nat → Int32} (H : rf_ok n U) (hb : rf_pg b n) (hp : rf_tk n ≠ 0) : ∃ w, f_Pages_takePage (nI (n 65)) b = some (nI (rf_tk n), nI (rf_tn n 65), w) ∧ rf_pg w (rf_tn n) := by
  have hh := H
  obtain ⟨h1, h2, h3, h4, h5, h6⟩ := H
  have g2 := rf_get h1 hb (c := n 65) (p := 1) (a := 2) h3 (by omega) (by omega)
  rw [rf_gb_at (by omega) (by omega) (by omega), show 64 * 1 + 2 = 66 from rfl] at g2
  rw [f_Pages_takePage, show (1 : Int32) = nI 1 from rfl, show (2 : Int32) = nI 2 from rfl, g2, pu_b1_s]
  by_cases e : n 66 = 0
  · have e24 : n 65 ≠ 24 := fun q => by unfold rf_tk at hp; rw [if_pos e, if_pos q] at hp; exact hp rfl
    have et : rf_tk n = n 65 + 1 := by unfold rf_tk; rw [if_pos e, if_neg e24]
    have eh : rf_th n = fun k => if k = 65 then n 65 + 1 else n k := by unfold rf_th; rw [if_pos e]
    obtain ⟨w1, q1, r1⟩ := rf_put hb (c := n 65 + 1) (p := 1) (a := 1) (v := n 65 + 1) (x := nI (n 65 + 1)) (by omega) (by omega) (by omega) rfl
    have r1' : rf_pg w1 (rf_th n) := fun k hk => by
      rw [r1 k hk, eh]
      congr 1
      unfold rf_pt
      dsimp only
      by_cases e5 : k + 64 = 65
      · rw [if_pos (by omega), if_pos e5]
      · rw [if_neg (by omega), if_neg e5]
    obtain ⟨w2, q2, r2⟩ := rf_wipe r1' (c := n 65 + 1) (p := n 65 + 1) (by omega) (by omega) (by omega)
    have en : rf_tn n = rf_wp (rf_th n) (n 65 + 1) (fun _ => 0) := by unfold rf_tn; rw [et]
    have e65 : rf_tn n 65 = n 65 + 1 := by rw [en, rf_wp_hd (by omega) (by omega), eh]; rfl
    refine ⟨w2, ?_, by rw [en]; exact r2⟩
    rw [pu_br_t (show nI (n 66) = (0 : Int32) by rw [e]; rfl), pu_br_t (show nI (n 65) < (24 : Int32) from nI_lt (b := 24) (by omega) (by omega)), show nI (n 65) + nI 1 = nI (n 65 + 1) from nI_add _ 1, pu_nm, q1, pu_b1_s, q_Pages_takePage_76, q2, pu_b1_s, e65, et]
  · obtain ⟨a1, a2, a3, a4, a5⟩ := rf_ok_66 hh e
    have et : rf_tk n = n 66 := by unfold rf_tk; rw [if_neg e]
    have eh : rf_th n = rf_h2 n (n (64 * n 66)) (n 67 - 1) := by unfold rf_th; rw [if_neg e]
    have g0 := rf_get h1 hb (c := n 65) (p := n 66) (a := 0) h3 (by omega) (by omega)
    rw [rf_gb_at (by omega) a2 (by omega), Nat.add_zero] at g0
    obtain ⟨w1, q1, r1⟩ := rf_put hb (c := n 65) (p := 1) (a := 2) (v := n (64 * n 66)) (x := nI (n (64 * n 66))) h3 (by omega) (by omega) rfl
    have bt1 : rf_bt (rf_pt n (n 65) 1 2 (n (64 * n 66))) := by
      intro k
      unfold rf_pt
      split
      · exact h1 _
      · exact h1 k
    have g3 := rf_get bt1 r1 (c := n 65) (p := 1) (a := 3) h3 (by omega) (by omega)
    have e67 : rf_gb (rf_pt n (n 65) 1 2 (n (64 * n 66))) (n 65) 1 3 = n 67 := by
      rw [rf_gb_at (by omega) (by omega) (by omega)]
      unfold rf_pt
      rw [if_neg (by omega)]
    rw [e67] at g3
    obtain ⟨w2, q2, r2⟩ := rf_put r1 (c := n 65) (p := 1) (a := 3) (v := n 67 - 1) (x := nI (n 67 - 1)) h3 (by omega) (by omega) rfl
    have r2' : rf_pg w2 (rf_th n) := fun k hk => by
      rw [r2 k hk, eh]
      congr 1
      unfold rf_pt rf_h2
      by_cases e6 : k + 64 = 66
      · rw [if_neg (by omega), if_pos (by omega), if_pos e6]
      · by_cases e7 : k + 64 = 67
        · rw [if_pos (by omega), if_neg e6, if_pos e7]
        · rw [if_neg (by omega), if_neg (by omega), if_neg e6, if_neg e7]
    obtain ⟨w3, q3, r3⟩ := rf_wipe r2' (c := n 65) (p := n 66) h3 (by omega) a2
    have en : rf_tn n = rf_wp (rf_th n) (n 66) (fun _ => 0) := by unfold rf_tn; rw [et]
    have e65 : rf_tn n 65 = n 65 := by rw [en, rf_wp_hd (by omega) (by omega), eh]; rfl
    refine ⟨w3, ?_, by rw [en]; exact r3⟩
    rw [pu_br_f (nI_ne0 (by omega) (by omega)), show (0 : Int32) = nI 0 from rfl, g0, pu_b1_s, q1, pu_b1_s, show (3 : Int32) = nI 3 from rfl, g3, pu_b1_s, pk_sub a3, q2, pu_b1_s, q_Pages_takePage_76, q3, pu_b1_s, e65, et]
theorem rf_mtakePage0 {b : Nat → Int32} (hb : rf_md b n) (h66 : n 66 < 2 ^ 31) (hp : rf_tk n = 0) : f_MD_takePage b = some (0, b) := by
  have e : n 66 = 0 := by
    by_cases q : n 66 = 0
    · exact q
    · unfold rf_tk at hp; rw [if_neg q] at hp; omega
  have e24 : n 65 = 24 := by
    by_cases q : n 65 = 24
    · exact q
    · unfold rf_tk at hp; rw [if_pos e, if_neg q] at hp; omega
  have c66 : (66 : Int32).toNatClampNeg = 66 := by decide
  have c65 : (65 : Int32).toNatClampNeg = 65 := by decide
  have i66 : vp_in (66 : Int32) 1600 := vp_in_nI (n := 66) (by omega) (by decide)
  have i65 : vp_in (65 : Int32) 1600 := vp_in_nI (n := 65) (by omega) (by decide)
  rw [f_MD_takePage, pu_ck_t i66, c66, hb 66 (by omega), e, pu_nm, pu_br_t (by decide), f_MD_pages, pu_ck_t i65, c65, hb 65 (by omega), e24, pu_b1_s, pu_br_t (show nI 24 = (24 : Int32) from rfl)]
theorem rf_mtakePage {b : Nat → Int32} (H : rf_ok n U) (hb : rf_md b n) (hp : rf_tk n ≠ 0) : ∃ w, f_MD_takePage b = some (nI (rf_tk n), w) ∧ rf_md w (rf_tn n) := by
  have hh := H
  obtain ⟨h1, h2, h3, h4, h5, h6⟩ := H
  have c66 : (66 : Int32).toNatClampNeg = 66 := by decide
  have c65 : (65 : Int32).toNatClampNeg = 65 := by decide
  have c67 : (67 : Int32).toNatClampNeg = 67 := by decide
  have i66 : vp_in (66 : Int32) 1600 := vp_in_nI (n := 66) (by omega) (by decide)
  have i67 : vp_in (67 : Int32) 1600 := vp_in_nI (n := 67) (by omega) (by decide)
  have i65 : vp_in (65 : Int32) 1600 := vp_in_nI (n := 65) (by omega) (by decide)
  rw [f_MD_takePage, pu_ck_t i66, c66, hb 66 (by omega), pu_nm]
  by_cases e : n 66 = 0
  · have e24 : n 65 ≠ 24 := fun q => by unfold rf_tk at hp; rw [if_pos e, if_pos q] at hp; exact hp rfl
    have et : rf_tk n = n 65 + 1 := by unfold rf_tk; rw [if_pos e, if_neg e24]
    have eh : rf_th n = fun k => if k = 65 then n 65 + 1 else n k := by unfold rf_th; rw [if_pos e]
    have en : rf_tn n = rf_wp (rf_th n) (n 65 + 1) (fun _ => 0) := by unfold rf_tn; rw [et]
    have r1 : rf_md (upd b 65 (nI (n 65 + 1))) (rf_th n) := fun k hk => by
      rw [eh]
      dsimp only
      by_cases q : k = 65
      · subst q; rw [pk_us, if_pos rfl]
      · rw [pk_un q, if_neg q]; exact hb k hk
    obtain ⟨w, q1, q2⟩ := rf_erase r1 (p := n 65 + 1) (by omega)
    refine ⟨w, ?_, by rw [en]; exact q2⟩
    rw [e, pu_br_t (by decide), f_MD_pages, pu_ck_t i65, c65, hb 65 (by omega), pu_b1_s, pu_br_f (show ¬ nI (n 65) = (24 : Int32) from fun q => e24 ((nI_eq (b := 24) (by omega) (by omega)).mp q)), pu_ck_t i65, pu_ck_t i65, show nI (n 65) + (1 : Int32) = nI (n 65 + 1) from nI_add _ 1, pu_nm, pu_ck_t i65, pk_us, pu_nm, q_MD_takePage_72, q1, pu_b1_s, et]
  · obtain ⟨a1, a2, a3, a4, a5⟩ := rf_ok_66 hh e
    have et : rf_tk n = n 66 := by unfold rf_tk; rw [if_neg e]
    have eh : rf_th n = rf_h2 n (n (64 * n 66)) (n 67 - 1) := by unfold rf_th; rw [if_neg e]
    have en : rf_tn n = rf_wp (rf_th n) (n 66) (fun _ => 0) := by unfold rf_tn; rw [et]
    have r1 : rf_md (upd (upd b 66 (nI (n (64 * n 66)))) 67 (nI (n 67 - 1))) (rf_th n) := fun k hk => by
      rw [eh]
      unfold rf_h2
      by_cases q7 : k = 67
      · subst q7; rw [pk_us, if_neg (by omega), if_pos rfl]
      · rw [pk_un q7]
        by_cases q6 : k = 66
        · subst q6; rw [pk_us, if_pos rfl]
        · rw [pk_un q6, if_neg q6, if_neg q7]; exact hb k hk
    obtain ⟨w, q1, q2⟩ := rf_erase r1 (p := n 66) (by omega)
    refine ⟨w, ?_, by rw [en]; exact q2⟩
    rw [pu_br_f (nI_nle (by omega) (by omega)), show (64 : Int32) * nI (n 66) = nI (64 * n 66) from pk_mul 64 _, pu_ck_t (vp_in_nI (by omega) (by decide)), pu_ck_t i66, nI_clamp (by omega), hb _ (by omega), pu_nm, pu_ck_t i67, pu_ck_t i67, c67, pk_un (by omega), hb 67 (by omega), show nI (n 67) - (1 : Int32) = nI (n 67 - 1) from pk_sub (b := 1) a3, pu_nm, q_MD_takePage_72, q1, pu_b1_s, et]
end RFTP
