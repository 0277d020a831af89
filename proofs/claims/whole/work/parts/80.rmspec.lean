section RFRS
variable {n n' : Nat → Nat} {c c' p D : Nat}
/-- what stands while a key's way is in hand -/
def rf_hy (n : Nat → Nat) (c : Nat) (key : Int32) (root k : Nat) : Prop := rf_bt n ∧ 2 ≤ c ∧ c ≤ 24 ∧ rf_tr n c 23 root ∧ k < 23 ∧ (∀ i, i < k → rf_gb n c (rf_way n c key root i) 0 = 5) ∧ rf_gb n c (rf_way n c key root k) 0 = 13 ∧ rf_hn n c (n 67) (n 66) ∧ ∀ q, rf_ct n c 23 root q + rf_hc n (n 67) (n 66) q ≤ 1
variable {key : Int32} {root k : Nat}
theorem rf_hy_tr (H : rf_hy n c key root k) {j : Nat} (hj : j ≤ k) : rf_tr n c (23 - j) (rf_way n c key root j) := by
  obtain ⟨h1, h2, h3, h4, h5, h6, h7, h8, h9⟩ := H
  exact rf_way_tr h4 h6 h5 j hj
theorem rf_hy_pg (H : rf_hy n c key root k) {j : Nat} (hj : j ≤ k) : 2 ≤ rf_way n c key root j ∧ rf_way n c key root j ≤ c ∧ rf_lay (rf_gb n c (rf_way n c key root j)) := by
  have := rf_hy_tr H hj
  rw [show 23 - j = (22 - j) + 1 by have := H.2.2.2.2.1; omega] at this
  exact ⟨this.1, this.2.1, this.2.2.1⟩
theorem rf_hy_mono (H : rf_hy n c key root k) (q : Nat) {i : Nat} : ∀ j, i ≤ j → j ≤ k → rf_ct n c (23 - j) (rf_way n c key root j) q ≤ rf_ct n c (23 - i) (rf_way n c key root i) q := by
  intro j
  induction j with
  | zero => intro h _; rw [show i = 0 by omega]; exact Nat.le_refl _
  | succ j ih =>
    intro h1 h2
    by_cases e : i = j + 1
    · subst e; exact Nat.le_refl _
    · have := ih (by omega) (by omega)
      have := rf_way_ct1 (q := q) H.2.2.2.1 H.2.2.2.2.2.1 H.2.2.2.2.1 (j := j) (by omega)
      omega
theorem rf_hy_two (H : rf_hy n c key root k) {i j : Nat} (hij : i < j) (hj : j ≤ k) (q : Nat) : (if rf_way n c key root i = q then 1 else 0) + rf_ct n c (23 - j) (rf_way n c key root j) q + rf_hc n (n 67) (n 66) q ≤ 1 := by
  have a := rf_way_ct1 (q := q) H.2.2.2.1 H.2.2.2.2.2.1 H.2.2.2.2.1 (j := i) (by omega)
  have b := rf_hy_mono H q (i := i + 1) j (by omega) hj
  have d := rf_way_ct (q := q) H.2.2.2.1 H.2.2.2.2.2.1 H.2.2.2.2.1 i (by omega)
  have e := H.2.2.2.2.2.2.2.2 q
  omega
theorem rf_hy_one (H : rf_hy n c key root k) {j : Nat} (hj : j ≤ k) (q : Nat) : rf_ct n c (23 - j) (rf_way n c key root j) q + rf_hc n (n 67) (n 66) q ≤ 1 := by
  have d := rf_way_ct (q := q) H.2.2.2.1 H.2.2.2.2.2.1 H.2.2.2.2.1 j hj
  have e := H.2.2.2.2.2.2.2.2 q
  omega
theorem rf_hy_leaf (H : rf_hy n c key root k) {s : Nat} (hs : s < rf_gb n c (rf_way n c key root k) 1) (q : Nat) : (if rf_way n c key root k = q then 1 else 0) + rf_lq n (rf_gb n c (rf_way n c key root k)) q s ≤ rf_ct n c (23 - k) (rf_way n c key root k) q := by
  have h5 := H.2.2.2.2.1
  rw [show 23 - k = (22 - k) + 1 by omega, rf_ct, if_pos H.2.2.2.2.2.2.1]
  have := rf_su_le (f := rf_lq n (rf_gb n c (rf_way n c key root k)) q) hs
  omega
theorem rf_hy_cl (H : rf_hy n c key root k) {s : Nat} (hs : s < rf_gb n c (rf_way n c key root k) 1) : rf_cl n c (rf_gb n c (rf_way n c key root k)) s := by
  have := rf_hy_tr H (Nat.le_refl k)
  rw [show 23 - k = (22 - k) + 1 by have := H.2.2.2.2.1; omega] at this
  exact this.2.2.2.1 H.2.2.2.2.2.2.1 s hs
/-- remove, step by step -/
def rf_ml (g : Nat → Nat) (s : Nat) : Nat → Nat := rf_mk 13 (g 1 - 1) 0 (rf_dl s (rf_cln g)) (rf_dl s (rf_ccb g))
def rf_r2 (n : Nat → Nat) (c P s : Nat) : Nat → Nat := rf_fc (rf_cp (rf_cL (rf_gb n c P) s)) (rf_wp n P (rf_ml (rf_gb n c P) s)) (rf_cf (rf_gb n c P) s)
def rf_dx (g : Nat → Nat) (t : Nat) : Nat := if t < g 1 then t else g 1 - 1
def rf_lx (g : Nat → Nat) (t : Nat) : Nat := if t < g 1 then g 2 else rf_ccb g (g 1 - 1) 0
def rf_mi (g : Nat → Nat) (t : Nat) : Nat → Nat := rf_mk 5 (g 1 - 1) (rf_lx g t) (rf_dl (rf_dx g t) (rf_cln g)) (rf_dl (rf_dx g t) (rf_ccb g))
def rf_r4 (n : Nat → Nat) (P A : Nat) (g : Nat → Nat) (t : Nat) : Nat → Nat := rf_wp (rf_fr n P) A (rf_mi g t)
def rf_r5 (n : Nat → Nat) (A O : Nat) : Nat → Nat := rf_fr (rf_wp n A (fun a => n (64 * O + a))) O
def rf_r6 (n : Nat → Nat) (A H : Nat) (h : Nat → Nat) (t O : Nat) : Nat → Nat := rf_fr (rf_wp n H (rf_kc h t O)) A
def rf_rm (n : Nat → Nat) (c : Nat) (key : Int32) (root k : Nat) : Nat → Nat :=
  if 1 < rf_gb n c (rf_way n c key root k) 1 ∨ k = 0 then rf_r2 n c (rf_way n c key root k) (rf_sl n c key (rf_way n c key root k)) else
  if 1 < rf_gb n c (rf_way n c key root (k - 1)) 1 then rf_r4 (rf_r2 n c (rf_way n c key root k) (rf_sl n c key (rf_way n c key root k))) (rf_way n c key root k) (rf_way n c key root (k - 1)) (rf_gb n c (rf_way n c key root (k - 1))) (rf_sl n c key (rf_way n c key root (k - 1))) else
  if k = 1 then rf_r5 (rf_r4 (rf_r2 n c (rf_way n c key root k) (rf_sl n c key (rf_way n c key root k))) (rf_way n c key root k) (rf_way n c key root (k - 1)) (rf_gb n c (rf_way n c key root (k - 1))) (rf_sl n c key (rf_way n c key root (k - 1)))) (rf_way n c key root (k - 1)) (rf_lx (rf_gb n c (rf_way n c key root (k - 1))) (rf_sl n c key (rf_way n c key root (k - 1)))) else
  rf_r6 (rf_r4 (rf_r2 n c (rf_way n c key root k) (rf_sl n c key (rf_way n c key root k))) (rf_way n c key root k) (rf_way n c key root (k - 1)) (rf_gb n c (rf_way n c key root (k - 1))) (rf_sl n c key (rf_way n c key root (k - 1)))) (rf_way n c key root (k - 1)) (rf_way n c key root (k - 2)) (rf_gb n c (rf_way n c key root (k - 2))) (rf_sl n c key (rf_way n c key root (k - 2))) (rf_lx (rf_gb n c (rf_way n c key root (k - 1))) (rf_sl n c key (rf_way n c key root (k - 1))))
theorem rf_dl_room {m i : Nat} {ln : Nat → Nat} (hi : i ≤ m) (h : 4 + (m + 1) + rf_su ln (m + 1) ≤ 64) : 4 + m + rf_su (rf_dl i ln) m ≤ 64 := by
  have := rf_dl_su (f := ln) hi
  omega
theorem rf_lay_dl {g : Nat → Nat} (h : rf_lay g) {i : Nat} (hi : i < g 1) : 4 + (g 1 - 1) + rf_su (rf_dl i (rf_cln g)) (g 1 - 1) ≤ 64 := by
  refine rf_dl_room (by omega) ?_
  rw [show g 1 - 1 + 1 = g 1 by omega]
  exact rf_lay_room h
theorem rf_ccb_lt {g : Nat → Nat} (h : ∀ k, g k < 256) (i k : Nat) : rf_ccb g i k < 256 := h _
theorem rf_dl_lt {g : Nat → Nat} (h : ∀ k, g k < 256) (s i k : Nat) : rf_dl s (rf_ccb g) i k < 256 := by
  unfold rf_dl; split <;> exact h _
theorem rf_ml_lt {g : Nat → Nat} (h : ∀ k, g k < 256) (hl : rf_lay g) (s a : Nat) : rf_ml g s a < 256 := rf_mk_lt (by omega) (by have := hl.2.2.2.1; omega) (by omega) (fun i k _ => rf_dl_lt h s i k) a
theorem rf_lx_lt {g : Nat → Nat} (h : ∀ k, g k < 256) (t : Nat) : rf_lx g t < 256 := by
  unfold rf_lx; split <;> exact h _
theorem rf_mi_lt {g : Nat → Nat} (h : ∀ k, g k < 256) (hl : rf_lay g) (t a : Nat) : rf_mi g t a < 256 := rf_mk_lt (by omega) (by have := hl.2.2.2.1; omega) (rf_lx_lt h t) (fun i k _ => rf_dl_lt h _ i k) a
/-- what stands after the leaf and the chain -/
theorem rf_r2_all (H : rf_hy n c key root k) {s : Nat} (hs : s < rf_gb n c (rf_way n c key root k) 1) :
    rf_bt (rf_r2 n c (rf_way n c key root k) s) ∧ rf_hn (rf_r2 n c (rf_way n c key root k) s) c (rf_r2 n c (rf_way n c key root k) s 67) (rf_r2 n c (rf_way n c key root k) s 66) ∧
    (∀ q, rf_hc (rf_r2 n c (rf_way n c key root k) s) (rf_r2 n c (rf_way n c key root k) s 67) (rf_r2 n c (rf_way n c key root k) s 66) q = rf_lq n (rf_gb n c (rf_way n c key root k)) q s + rf_hc n (n 67) (n 66) q) ∧
    (∀ q, 2 ≤ q → q ≠ rf_way n c key root k → rf_lq n (rf_gb n c (rf_way n c key root k)) q s = 0 → rf_pe n (rf_r2 n c (rf_way n c key root k) s) q) ∧ (∀ j, j < 128 → j ≠ 66 → j ≠ 67 → rf_r2 n c (rf_way n c key root k) s j = n j) ∧
    rf_r2 n c (rf_way n c key root k) s = rf_wp (rf_fc (rf_cp (rf_cL (rf_gb n c (rf_way n c key root k)) s)) n (rf_cf (rf_gb n c (rf_way n c key root k)) s)) (rf_way n c key root k) (rf_ml (rf_gb n c (rf_way n c key root k)) s) ∧
    (rf_hn (rf_wp n (rf_way n c key root k) (rf_ml (rf_gb n c (rf_way n c key root k)) s)) c (rf_cp (rf_cL (rf_gb n c (rf_way n c key root k)) s)) (rf_cf (rf_gb n c (rf_way n c key root k)) s) ∧ rf_bt (rf_wp n (rf_way n c key root k) (rf_ml (rf_gb n c (rf_way n c key root k)) s)) ∧
      rf_hn (rf_wp n (rf_way n c key root k) (rf_ml (rf_gb n c (rf_way n c key root k)) s)) c (rf_wp n (rf_way n c key root k) (rf_ml (rf_gb n c (rf_way n c key root k)) s) 67) (rf_wp n (rf_way n c key root k) (rf_ml (rf_gb n c (rf_way n c key root k)) s) 66) ∧
      ∀ q, rf_hc (rf_wp n (rf_way n c key root k) (rf_ml (rf_gb n c (rf_way n c key root k)) s)) (rf_cp (rf_cL (rf_gb n c (rf_way n c key root k)) s)) (rf_cf (rf_gb n c (rf_way n c key root k)) s) q + rf_hc (rf_wp n (rf_way n c key root k) (rf_ml (rf_gb n c (rf_way n c key root k)) s)) (rf_wp n (rf_way n c key root k) (rf_ml (rf_gb n c (rf_way n c key root k)) s) 67) (rf_wp n (rf_way n c key root k) (rf_ml (rf_gb n c (rf_way n c key root k)) s) 66) q ≤ 1) ∧
    rf_hn n c (rf_cp (rf_cL (rf_gb n c (rf_way n c key root k)) s)) (rf_cf (rf_gb n c (rf_way n c key root k)) s) ∧ ∀ q, rf_hc n (rf_cp (rf_cL (rf_gb n c (rf_way n c key root k)) s)) (rf_cf (rf_gb n c (rf_way n c key root k)) s) q + rf_hc n (n 67) (n 66) q ≤ 1 := by
  have lf := rf_hy_leaf H hs
  have one := rf_hy_one H (Nat.le_refl k)
  obtain ⟨y, kk, z, _, _, _, _, _, hch, _⟩ := rf_hy_cl H hs
  obtain ⟨p1, p2, p3⟩ := rf_hy_pg H (Nat.le_refl k)
  unfold rf_lq at *
  unfold rf_r2
  have hg : ∀ a, rf_gb n c (rf_way n c key root k) a < 256 := rf_gb_lt H.1 c _
  generalize rf_way n c key root k = P at *
  generalize rf_gb n c P = g at *
  obtain ⟨h1, h2, h3, h4, h5, h6, h7, h8, h9⟩ := H
  have oneP := one P
  have lfP := lf P
  rw [if_pos rfl] at lfP
  have bt1 : rf_bt (rf_wp n P (rf_ml g s)) := rf_wp_bt h1 (rf_ml_lt hg p3 s)
  obtain ⟨a1, a2, _⟩ := rf_hn_frame (n' := rf_wp n P (rf_ml g s)) (Nat.le_refl c) hch (fun q hq => rf_wp_pe (fun e => by subst e; omega))
  obtain ⟨b1, b2, _⟩ := rf_hn_frame (n' := rf_wp n P (rf_ml g s)) (Nat.le_refl c) h8 (fun q hq => rf_wp_pe (fun e => by subst e; omega))
  have e6 : rf_wp n P (rf_ml g s) 66 = n 66 := rf_wp_hd p1 (by omega)
  have e7 : rf_wp n P (rf_ml g s) 67 = n 67 := rf_wp_hd p1 (by omega)
  have sum : ∀ q, rf_hc n (rf_cp (rf_cL g s)) (rf_cf g s) q + rf_hc n (n 67) (n 66) q ≤ 1 := fun q => by have := lf q; have := one q; omega
  obtain ⟨d0, d1, d2, d3, d4⟩ := rf_fc_all h3 bt1 a1 (by rw [e6, e7]; exact b1) (fun q => by rw [a2, e6, e7, b2]; exact sum q)
  refine ⟨d0, d1, fun q => ?_, fun q q1 q2 q3 a ha => ?_, fun j j1 j2 j3 => ?_, ?_, ⟨a1, bt1, by rw [e6, e7]; exact b1, fun q => by rw [a2, e6, e7, b2]; exact sum q⟩, hch, sum⟩
  · rw [d2, a2, e6, e7, b2]
  · rw [d3 q q1 (by rw [a2]; exact q3) a ha]
    exact rf_wp_pe q2 a ha
  · rw [d4 j j1 j2 j3, rf_wp_hd p1 j1]
  · exact rf_fc_wp p1 hch (by omega) (fun q => by have := sum q; omega)
end RFRS
