section RFCH
variable {n n' : Nat → Nat} {c c' p D : Nat}
theorem rf_kl_ln {ln : Nat} {cb : Nat → Nat} (h : rf_kl n c ln cb) : 1 ≤ ln := by
  obtain ⟨y, k, z, h1, h2, h3, h4, h5, h6, m, cd, zz, h7⟩ := h
  have := rf_wq_pos h7
  by_cases e : rf_tL ln cb ≤ 24
  · rw [if_pos e] at h5; omega
  · rw [if_neg e] at h5; omega
theorem rf_kl_frame {ln : Nat} {cb : Nat → Nat} (hc : c ≤ c') (h : rf_kl n c ln cb) (hf : ∀ q, 1 ≤ rf_kq n q ln cb → rf_pe n n' q) : rf_kl n' c' ln cb ∧ ∀ q, rf_kq n' q ln cb = rf_kq n q ln cb := by
  obtain ⟨y, k, z, h1, h2, h3, h4, h5, h6, m, cd, zz, h7⟩ := h
  obtain ⟨k1, k2, k3⟩ := rf_hn_frame (n' := n') hc h6 hf
  refine ⟨⟨y, k, z, h1, h2, h3, h4, h5, k1, m, cd, zz, rf_wq_congr (fun j hj => ?_) h7⟩, k2⟩
  unfold rf_tc
  by_cases e : rf_tL ln cb ≤ 24 ∨ j < 16
  · rw [if_pos e, if_pos e]
  · rw [if_neg e, if_neg e]
    have hm : (j - 16) / 63 < rf_cp (rf_tL ln cb) := by
      unfold rf_cp; rw [if_neg (fun q => e (Or.inl q))]
      have : 16 ≤ j := by omega
      omega
    rw [k3 _ (by omega)]
    have := hf _ (rf_hn_lk h6 _ hm).2.2 (1 + (j - 16) % 63) (by omega)
    rw [Nat.add_assoc]; exact this
theorem rf_hc_su (hc : c ≤ 24) : ∀ {m p}, rf_hn n c m p → rf_su (fun q => rf_hc n m p q) 25 = m
  | 0, p, _ => by
    have : ∀ k, rf_su (fun q => rf_hc n 0 p q) k = 0 := by
      intro k
      induction k with
      | zero => rfl
      | succ k ih => rw [rf_su, ih]; rfl
    exact this 25
  | m + 1, p, h => by
    have ih := rf_hc_su hc h.2.2
    have e : rf_su (fun q => rf_hc n (m + 1) p q) 25 = rf_su (fun q => (if p = q then 1 else 0) + rf_hc n m (n (64 * p)) q) 25 := rf_su_congr _ (fun q _ => by rw [rf_hc])
    rw [e, rf_su_add, rf_su_one, if_pos (by have := h.2.1; omega), ih]; omega
theorem rf_hn_23 (hc : c ≤ 24) {m : Nat} (h : rf_hn n c m p) (h1 : ∀ q, rf_hc n m p q ≤ 1) : m ≤ 23 := by
  have := rf_hc_su hc h
  have := rf_su25 (f := fun q => rf_hc n m p q) h1 (fun q hq => (rf_hc_in h hq).1)
  omega
/-- a chain made free -/
def rf_fc : Nat → (Nat → Nat) → Nat → (Nat → Nat)
  | 0, n, _ => n
  | m + 1, n, p => rf_fc m (rf_fr n p) (n (64 * p))
theorem rf_fr_wp {P : Nat} {h : Nat → Nat} (hp : 2 ≤ p) (hP : 2 ≤ P) (e : p ≠ P) : rf_fr (rf_wp n P h) p = rf_wp (rf_fr n p) P h := by
  have e6 : rf_wp n P h 66 = n 66 := rf_wp_hd hP (by omega)
  have e7 : rf_wp n P h 67 = n 67 := rf_wp_hd hP (by omega)
  funext k
  unfold rf_fr
  rw [e6, e7]
  unfold rf_h2 rf_wp
  dsimp only
  by_cases k6 : k = 66
  · rw [if_pos k6, if_neg (by omega), if_pos k6]
  by_cases k7 : k = 67
  · rw [if_neg k6, if_pos k7, if_neg (by omega), if_neg k6, if_pos k7]
  rw [if_neg k6, if_neg k7, if_neg k6, if_neg k7]
  by_cases k8 : 64 * p ≤ k ∧ k < 64 * p + 64
  · rw [if_pos k8, if_neg (show ¬ (64 * P ≤ k ∧ k < 64 * P + 64) by omega), if_pos k8]
  · rw [if_neg k8, if_neg k8]
theorem rf_fc_wp {P : Nat} {h : Nat → Nat} (hP : 2 ≤ P) : ∀ {m n f}, rf_hn n c m f → rf_hc n m f P = 0 → (∀ q, rf_hc n m f q ≤ 1) → rf_fc m (rf_wp n P h) f = rf_wp (rf_fc m n f) P h
  | 0, _, _, _, _, _ => rfl
  | m + 1, n, f, hh, h0, h1 => by
    have hfP : f ≠ P := fun e => by rw [rf_hc, if_pos e] at h0; omega
    have e0 : rf_wp n P h (64 * f) = n (64 * f) := by unfold rf_wp; rw [if_neg (by omega)]
    rw [rf_fc, rf_fc, e0, rf_fr_wp hh.1 hP hfP]
    have hff : rf_hc n m (n (64 * f)) f = 0 := by have := h1 f; rw [rf_hc, if_pos rfl] at this; omega
    obtain ⟨k1, k2, _⟩ := rf_hn_frame (n' := rf_fr n f) (Nat.le_refl c) hh.2.2 (fun q hq => rf_fr_pe (fun e => by subst e; omega) (rf_hc_in hh.2.2 hq).1)
    exact rf_fc_wp hP k1 (by rw [k2]; rw [rf_hc] at h0; omega) (fun q => by rw [k2]; have := h1 q; rw [rf_hc] at this; omega)
theorem rf_fc_all (hc : c ≤ 24) : ∀ {m n f}, rf_bt n → rf_hn n c m f → rf_hn n c (n 67) (n 66) → (∀ q, rf_hc n m f q + rf_hc n (n 67) (n 66) q ≤ 1) →
    rf_bt (rf_fc m n f) ∧ rf_hn (rf_fc m n f) c (rf_fc m n f 67) (rf_fc m n f 66) ∧ (∀ q, rf_hc (rf_fc m n f) (rf_fc m n f 67) (rf_fc m n f 66) q = rf_hc n m f q + rf_hc n (n 67) (n 66) q) ∧ (∀ q, 2 ≤ q → rf_hc n m f q = 0 → rf_pe n (rf_fc m n f) q) ∧ ∀ k, k < 128 → k ≠ 66 → k ≠ 67 → rf_fc m n f k = n k
  | 0, n, f, hn, _, h2, _ => ⟨hn, h2, fun q => by rw [show rf_hc n 0 f q = 0 from rfl, Nat.zero_add]; rfl, fun q _ _ a _ => rfl, fun k _ _ _ => rfl⟩
  | m + 1, n, f, hn, h1, h2, h3 => by
    have hh := h1
    obtain ⟨f1, f2, f3⟩ := h1
    have ff := h3 f
    rw [rf_hc, if_pos rfl] at ff
    have h67 : n 67 ≤ 23 := rf_hn_23 hc h2 (fun q => by have := h3 q; omega)
    obtain ⟨a1, a2⟩ := rf_fr_hn f1 f2 h2 (by omega)
    obtain ⟨k1, k2, _⟩ := rf_hn_frame (n' := rf_fr n f) (Nat.le_refl c) f3 (fun q hq => rf_fr_pe (fun e => by subst e; omega) (rf_hc_in f3 hq).1)
    obtain ⟨b0, b1, b2, b3, b4⟩ := rf_fc_all hc (rf_fr_bt hn (by omega) (by omega)) k1 a1 (fun q => by
      rw [k2, a2]
      have := h3 q
      rw [rf_hc] at this
      omega)
    rw [rf_fc]
    refine ⟨b0, b1, fun q => ?_, fun q hq h0 a ha => ?_, fun k h7 h8 h9 => ?_⟩
    · rw [b2, k2, a2, rf_hc]; omega
    · rw [rf_hc] at h0
      have hqf : q ≠ f := fun e => by rw [if_pos e.symm] at h0; omega
      rw [b3 q hq (by rw [k2]; omega) a ha]
      exact rf_fr_pe hqf hq a ha
    · rw [b4 k h7 h8 h9, rf_fr_hd f1 h7 h8 h9]
/-- a page's content at another page -/
theorem rf_tr_copy {O A : Nat} (hc : c ≤ c') (h : rf_tr n c (D + 1) O) (hg : rf_gb n' c' A = rf_gb n c O) (hA : 2 ≤ A) (hA2 : A ≤ c') (h1 : ∀ q, rf_ct n c (D + 1) O q ≤ 1) (hf : ∀ q, 1 ≤ rf_ct n c (D + 1) O q → q ≠ O → rf_pe n n' q) :
    rf_tr n' c' (D + 1) A ∧ ∀ q, rf_ct n' c' (D + 1) A q + (if O = q then 1 else 0) = rf_ct n c (D + 1) O q + (if A = q then 1 else 0) := by
  have hO := h1 O
  obtain ⟨p1, p2, p3, p4, p5⟩ := h
  unfold rf_tr
  rw [hg]
  by_cases k : rf_gb n c O 0 = 13
  · have ec : ∀ q, rf_ct n c (D + 1) O q = (if O = q then 1 else 0) + rf_su (rf_lq n (rf_gb n c O) q) (rf_gb n c O 1) := fun q => by rw [rf_ct, if_pos k]
    have eO := ec O
    rw [if_pos rfl] at eO
    have hk : ∀ i, i < rf_gb n c O 1 → rf_cl n' c' (rf_gb n c O) i ∧ ∀ q, rf_lq n' (rf_gb n c O) q i = rf_lq n (rf_gb n c O) q i := fun i hi => rf_cl_frame hc (p4 k i hi) (fun q hq => by
      have := rf_su_le (f := rf_lq n (rf_gb n c O) q) hi
      refine hf q (by rw [ec]; omega) (fun e => ?_)
      subst e
      omega)
    refine ⟨⟨hA, hA2, p3, fun _ i hi => (hk i hi).1, fun q => by omega⟩, fun q => ?_⟩
    rw [ec q, rf_ct, hg, if_pos k, rf_su_congr _ (fun i hi => (hk i hi).2 q)]; omega
  · have k5 := p3.1.resolve_left k
    obtain ⟨g1, g2, g3⟩ := p5 k5
    have ec : ∀ q, rf_ct n c (D + 1) O q = (if O = q then 1 else 0) + rf_su (fun i => rf_ct n c D (rf_kid (rf_gb n c O) i) q) (rf_gb n c O 1 + 1) := fun q => rf_ct5 k5
    have eO := ec O
    rw [if_pos rfl] at eO
    have hk : ∀ i, i < rf_gb n c O 1 + 1 → rf_tr n' c' D (rf_kid (rf_gb n c O) i) ∧ ∀ q, rf_ct n' c' D (rf_kid (rf_gb n c O) i) q = rf_ct n c D (rf_kid (rf_gb n c O) i) q := fun i hi => rf_tr_frame hc (g3 i hi) (fun q hq => by
      have := rf_su_le (f := fun i => rf_ct n c D (rf_kid (rf_gb n c O) i) q) hi
      refine hf q (by rw [ec]; omega) (fun e => ?_)
      subst e
      omega)
    refine ⟨⟨hA, hA2, p3, fun q => absurd q k, fun _ => ⟨g1, g2, fun i hi => (hk i hi).1⟩⟩, fun q => ?_⟩
    rw [ec q, rf_ct5 (by rw [hg]; exact k5), hg, rf_su_congr _ (fun i hi => (hk i hi).2 q)]; omega
end RFCH
