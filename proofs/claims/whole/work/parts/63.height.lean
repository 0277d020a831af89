section RFH
/-- the pages of the tree alone -/
def rf_np (n : Nat → Nat) (c : Nat) : Nat → Nat → Nat
  | 0, _ => 0
  | D + 1, p => 1 + if rf_gb n c p 0 = 13 then 0 else rf_su (fun i => rf_np n c D (rf_kid (rf_gb n c p) i)) (rf_gb n c p 1 + 1)
/-- lists, one after another -/
def rf_ls (f : Nat → List Nat) : Nat → Nat → List Nat
  | 0, _ => []
  | k + 1, t => f t ++ rf_ls f k (t + 1)
theorem rf_ls_congr {f g : Nat → List Nat} : ∀ k t, (∀ i, t ≤ i → i < t + k → f i = g i) → rf_ls f k t = rf_ls g k t
  | 0, _, _ => rfl
  | k + 1, t, h => by rw [rf_ls, rf_ls, h t (by omega) (by omega), rf_ls_congr k (t + 1) (fun i h1 h2 => h i (by omega) (by omega))]
/-- the leaves in their order -/
def rf_lv (n : Nat → Nat) (c : Nat) : Nat → Nat → List Nat
  | 0, _ => []
  | D + 1, p => if rf_gb n c p 0 = 13 then [p] else rf_ls (fun i => rf_lv n c D (rf_kid (rf_gb n c p) i)) (rf_gb n c p 1 + 1) 0
variable {n : Nat → Nat} {c : Nat}
theorem rf_mono1 : ∀ {D p}, rf_tr n c D p → rf_tr n c (D + 1) p ∧ (∀ q, rf_ct n c (D + 1) p q = rf_ct n c D p q) ∧ rf_np n c (D + 1) p = rf_np n c D p ∧ rf_lv n c (D + 1) p = rf_lv n c D p
  | 0, _, h => absurd h (fun q => q)
  | D + 1, p, h => by
    have h' := h
    obtain ⟨h1, h2, h3, h4, h5⟩ := h'
    by_cases k : rf_gb n c p 0 = 13
    · refine ⟨⟨h1, h2, h3, h4, fun q => by omega⟩, fun q => ?_, ?_, ?_⟩
      · rw [rf_ct, rf_ct, if_pos k, if_pos k]
      · rw [rf_np, rf_np, if_pos k, if_pos k]
      · rw [rf_lv, rf_lv, if_pos k, if_pos k]
    · obtain ⟨g1, g2, g3⟩ := h5 (h3.1.resolve_left k)
      have hk := fun i hi => rf_mono1 (g3 i hi)
      refine ⟨⟨h1, h2, h3, h4, fun _ => ⟨g1, g2, fun i hi => (hk i hi).1⟩⟩, fun q => ?_, ?_, ?_⟩
      · rw [rf_ct, rf_ct, if_neg k, if_neg k, rf_su_congr _ (fun i hi => (hk i hi).2.1 q)]
      · rw [rf_np, rf_np, if_neg k, if_neg k, rf_su_congr _ (fun i hi => (hk i hi).2.2.1)]
      · rw [rf_lv, rf_lv, if_neg k, if_neg k, rf_ls_congr _ _ (fun i _ hi => (hk i (by omega)).2.2.2)]
theorem rf_mono : ∀ {D D' p}, rf_tr n c D p → D ≤ D' → rf_tr n c D' p ∧ (∀ q, rf_ct n c D' p q = rf_ct n c D p q) ∧ rf_np n c D' p = rf_np n c D p ∧ rf_lv n c D' p = rf_lv n c D p := by
  intro D D' p h hD
  obtain ⟨k, rfl⟩ : ∃ k, D' = D + k := ⟨D' - D, by omega⟩
  clear hD
  induction k with
  | zero => exact ⟨h, fun _ => rfl, rfl, rfl⟩
  | succ k ih =>
    obtain ⟨a1, a2, a3, a4⟩ := ih
    obtain ⟨b1, b2, b3, b4⟩ := rf_mono1 a1
    exact ⟨b1, fun q => (b2 q).trans (a2 q), b3.trans a3, b4.trans a4⟩
theorem rf_ct_any {D D' p : Nat} (h : rf_tr n c D p) (h' : rf_tr n c D' p) (q : Nat) : rf_ct n c D' p q = rf_ct n c D p q := by
  by_cases e : D ≤ D'
  · exact (rf_mono h e).2.1 q
  · exact ((rf_mono h' (by omega)).2.1 q).symm
theorem rf_np_pos : ∀ {D p}, rf_tr n c D p → 1 ≤ rf_np n c D p
  | 0, _, h => absurd h (fun q => q)
  | D + 1, p, _ => by rw [rf_np]; omega
theorem rf_height : ∀ {D p}, rf_tr n c D p → rf_tr n c (rf_np n c D p) p
  | 0, _, h => absurd h (fun q => q)
  | D + 1, p, h => by
    obtain ⟨h1, h2, h3, h4, h5⟩ := h
    by_cases k : rf_gb n c p 0 = 13
    · rw [rf_np, if_pos k]
      exact ⟨h1, h2, h3, h4, fun q => by omega⟩
    · obtain ⟨g1, g2, g3⟩ := h5 (h3.1.resolve_left k)
      rw [rf_np, if_neg k, Nat.add_comm 1]
      refine ⟨h1, h2, h3, h4, fun _ => ⟨g1, g2, fun i hi => ?_⟩⟩
      exact (rf_mono (rf_height (g3 i hi)) (rf_su_le (f := fun i => rf_np n c D (rf_kid (rf_gb n c p) i)) hi)).1
theorem rf_su_swap {f : Nat → Nat → Nat} (m : Nat) : ∀ k, rf_su (fun q => rf_su (fun i => f i q) m) k = rf_su (fun i => rf_su (f i) k) m
  | 0 => by
    induction m with
    | zero => rfl
    | succ m ih => show 0 = rf_su (fun i => rf_su (f i) 0) m + 0; rw [← ih]; rfl
  | k + 1 => by
    rw [rf_su, rf_su_swap m k, ← rf_su_add]
    exact rf_su_congr m (fun i _ => rfl)
theorem rf_su_one {p : Nat} : ∀ k, rf_su (fun q => if p = q then 1 else 0) k = if p < k then 1 else 0
  | 0 => by rw [if_neg (by omega)]; rfl
  | k + 1 => by
    rw [rf_su, rf_su_one k]
    by_cases e : p = k
    · subst e; rw [if_neg (by omega), if_pos rfl, if_pos (by omega)]
    · rw [if_neg e]
      by_cases e2 : p < k
      · rw [if_pos e2, if_pos (by omega)]
      · rw [if_neg e2, if_neg (by omega)]
theorem rf_np_le (hc : c ≤ 24) : ∀ {D p}, rf_tr n c D p → rf_np n c D p ≤ rf_su (fun q => rf_ct n c D p q) 25
  | 0, _, h => absurd h (fun q => q)
  | D + 1, p, h => by
    obtain ⟨h1, h2, h3, h4, h5⟩ := h
    by_cases k : rf_gb n c p 0 = 13
    · rw [rf_np, if_pos k]
      have := rf_su_one (p := p) 25
      rw [if_pos (by omega)] at this
      have h2 : rf_su (fun q => if p = q then 1 else 0) 25 ≤ rf_su (fun q => rf_ct n c (D + 1) p q) 25 := rf_su_mono _ (fun q _ => by rw [rf_ct]; omega)
      omega
    · obtain ⟨g1, g2, g3⟩ := h5 (h3.1.resolve_left k)
      rw [rf_np, if_neg k]
      have e1 : rf_su (fun q => rf_ct n c (D + 1) p q) 25 = rf_su (fun q => (if p = q then 1 else 0) + rf_su (fun i => rf_ct n c D (rf_kid (rf_gb n c p) i) q) (rf_gb n c p 1 + 1)) 25 := rf_su_congr _ (fun q _ => by rw [rf_ct, if_neg k])
      rw [e1, rf_su_add, rf_su_one, if_pos (by omega), rf_su_swap (f := fun i q => rf_ct n c D (rf_kid (rf_gb n c p) i) q)]
      have := rf_su_mono (f := fun i => rf_np n c D (rf_kid (rf_gb n c p) i)) (g := fun i => rf_su (fun q => rf_ct n c D (rf_kid (rf_gb n c p) i) q) 25) (rf_gb n c p 1 + 1) (fun i hi => rf_np_le hc (g3 i hi))
      omega
theorem rf_hc_in : ∀ {m p q}, rf_hn n c m p → 1 ≤ rf_hc n m p q → 2 ≤ q ∧ q ≤ c
  | 0, _, _, _, h => by rw [rf_hc] at h; omega
  | m + 1, p, q, h, hq => by
    rw [rf_hc] at hq
    by_cases e : p = q
    · subst e; exact ⟨h.1, h.2.1⟩
    · rw [if_neg e] at hq; exact rf_hc_in h.2.2 (by omega)
theorem rf_su_pos {f : Nat → Nat} : ∀ {m}, 1 ≤ rf_su f m → ∃ i, i < m ∧ 1 ≤ f i
  | 0, h => by rw [rf_su] at h; omega
  | m + 1, h => by
    rw [rf_su] at h
    by_cases e : 1 ≤ f m
    · exact ⟨m, by omega, e⟩
    · obtain ⟨i, h1, h2⟩ := rf_su_pos (f := f) (m := m) (by omega)
      exact ⟨i, by omega, h2⟩
theorem rf_ct_in : ∀ {D p q}, rf_tr n c D p → 1 ≤ rf_ct n c D p q → 2 ≤ q ∧ q ≤ c
  | 0, _, _, h, _ => absurd h (fun q => q)
  | D + 1, p, q, h, hq => by
    obtain ⟨h1, h2, h3, h4, h5⟩ := h
    rw [rf_ct] at hq
    by_cases e : p = q
    · subst e; exact ⟨h1, h2⟩
    rw [if_neg e] at hq
    by_cases k : rf_gb n c p 0 = 13
    · rw [if_pos k] at hq
      obtain ⟨i, i1, i2⟩ := rf_su_pos (by omega : 1 ≤ rf_su (rf_lq n (rf_gb n c p) q) (rf_gb n c p 1))
      obtain ⟨y, kk, z, _, _, _, _, _, h6, _⟩ := h4 k i i1
      exact rf_hc_in h6 i2
    · rw [if_neg k] at hq
      obtain ⟨g1, g2, g3⟩ := h5 (h3.1.resolve_left k)
      obtain ⟨i, i1, i2⟩ := rf_su_pos (by omega : 1 ≤ rf_su (fun i => rf_ct n c D (rf_kid (rf_gb n c p) i) q) (rf_gb n c p 1 + 1))
      exact rf_ct_in (g3 i i1) i2
theorem rf_su25 {f : Nat → Nat} (h1 : ∀ q, f q ≤ 1) (h0 : ∀ q, 1 ≤ f q → 2 ≤ q) : rf_su f 25 ≤ 23 := by
  have a0 : f 0 = 0 := by
    by_cases e : f 0 = 0
    · exact e
    · have := h0 0 (by omega); omega
  have a1 : f 1 = 0 := by
    by_cases e : f 1 = 0
    · exact e
    · have := h0 1 (by omega); omega
  have : ∀ k, rf_su f (2 + k) ≤ k := by
    intro k
    induction k with
    | zero => show 0 + f 0 + f 1 ≤ 0; omega
    | succ k ih => have := h1 (2 + k); show rf_su f (2 + k) + f (2 + k) ≤ k + 1; omega
  exact this 23
/-- the file's tree has at most 23 levels -/
theorem rf_tr23 (hc : c ≤ 24) {D p : Nat} (h : rf_tr n c D p) (h1 : ∀ q, rf_ct n c D p q ≤ 1) : rf_tr n c 23 p ∧ (∀ q, rf_ct n c 23 p q = rf_ct n c D p q) ∧ rf_np n c 23 p ≤ 23 := by
  have a := rf_np_le hc h
  have b := rf_su25 (f := fun q => rf_ct n c D p q) h1 (fun q hq => (rf_ct_in h hq).1)
  have t := (rf_mono (rf_height h) (by omega : rf_np n c D p ≤ 23)).1
  have e : ∀ q, rf_ct n c 23 p q = rf_ct n c D p q := fun q => rf_ct_any h t q
  refine ⟨t, e, ?_⟩
  have a2 := rf_np_le hc t
  have b2 := rf_su25 (f := fun q => rf_ct n c 23 p q) (fun q => by rw [e]; exact h1 q) (fun q hq => (rf_ct_in t hq).1)
  omega
theorem rf_wf_nf (hw : rf_wf n) (hc : n 65 ≤ 24) : rf_tr n (n 65) 23 (n 70) ∧ rf_np n (n 65) 23 (n 70) ≤ 23 ∧ rf_hn n (n 65) (n 67) (n 66) ∧ ∀ q, rf_ct n (n 65) 23 (n 70) q + rf_hc n (n 67) (n 66) q ≤ 1 := by
  obtain ⟨D, h1, h2, h3⟩ := hw
  obtain ⟨t1, t2, t3⟩ := rf_tr23 hc h1 (fun q => by have := h3 q; omega)
  exact ⟨t1, t3, h2, fun q => by rw [t2]; exact h3 q⟩
theorem rf_cl_ky {g : Nat → Nat} {i : Nat} (k : g 0 = 13) (h : rf_cl n c g i) : ∃ kk z, rf_ky g i = some (kk, z) := by
  obtain ⟨y, kk, z, h1, h2, _⟩ := h
  exact ⟨kk, z, by unfold rf_ky; rw [if_pos k, h1]; exact h2⟩
theorem rf_ci_ky {g : Nat → Nat} {i : Nat} (k : g 0 = 5) (h : rf_ci g i) : ∃ kk z, rf_ky g i = some (kk, z) := by
  obtain ⟨kk, z, h1, h2⟩ := h
  exact ⟨kk, z, by unfold rf_ky; rw [if_neg (by omega)]; exact h1⟩
theorem rf_tr_kk {D p : Nat} (h : rf_tr n c (D + 1) p) : rf_kk (rf_gb n c p) := by
  obtain ⟨h1, h2, h3, h4, h5⟩ := h
  intro i hi
  rcases h3.1 with k | k
  · exact rf_cl_ky k (h4 k i hi)
  · exact rf_ci_ky k ((h5 k).2.1 i hi)
theorem rf_tr_gd : ∀ {D p}, rf_tr n c D p → rf_gd n c D p
  | 0, _, h => absurd h (fun q => q)
  | D + 1, p, h => ⟨h.1, h.2.1, h.2.2.1, rf_tr_kk h, fun k i hi => rf_tr_gd ((h.2.2.2.2 k).2.2 i (by omega))⟩
end RFH
