section RFT
/-- a sum -/
def rf_su (f : Nat → Nat) : Nat → Nat
  | 0 => 0
  | m + 1 => rf_su f m + f m
theorem rf_su_congr {f g : Nat → Nat} : ∀ m, (∀ i, i < m → f i = g i) → rf_su f m = rf_su g m
  | 0, _ => rfl
  | m + 1, h => by rw [rf_su, rf_su, rf_su_congr m (fun i hi => h i (by omega)), h m (by omega)]
theorem rf_su_le {f : Nat → Nat} : ∀ {m i}, i < m → f i ≤ rf_su f m
  | 0, i, h => by omega
  | m + 1, i, h => by
    rw [rf_su]
    by_cases e : i = m
    · subst e; omega
    · have := rf_su_le (f := f) (m := m) (i := i) (by omega); omega
theorem rf_su_two {f : Nat → Nat} : ∀ {m i j}, i < j → j < m → f i + f j ≤ rf_su f m
  | 0, i, j, h1, h2 => by omega
  | m + 1, i, j, h1, h2 => by
    rw [rf_su]
    by_cases e : j = m
    · subst e; have := rf_su_le (f := f) (m := j) (i := i) h1; omega
    · have := rf_su_two (f := f) (m := m) (i := i) (j := j) h1 (by omega); omega
theorem rf_su_mono {f g : Nat → Nat} : ∀ m, (∀ i, i < m → f i ≤ g i) → rf_su f m ≤ rf_su g m
  | 0, _ => Nat.le_refl _
  | m + 1, h => by
    rw [rf_su, rf_su]
    have := rf_su_mono m (fun i hi => h i (by omega))
    have := h m (by omega)
    omega
theorem rf_su_add {f g : Nat → Nat} : ∀ m, rf_su (fun i => f i + g i) m = rf_su f m + rf_su g m
  | 0 => rfl
  | m + 1 => by rw [rf_su, rf_su, rf_su, rf_su_add m]; omega
theorem rf_su_le_of {f : Nat → Nat} : ∀ {m m'}, m ≤ m' → rf_su f m ≤ rf_su f m'
  | m, 0, h => by rw [show m = 0 by omega]; exact Nat.le_refl _
  | m, m' + 1, h => by
    by_cases e : m = m' + 1
    · subst e; exact Nat.le_refl _
    · rw [rf_su]; have := rf_su_le_of (f := f) (m := m) (m' := m') (by omega); omega
/-- a chain of m pages, and how often a page stands in it -/
def rf_hn (n : Nat → Nat) (c : Nat) : Nat → Nat → Prop
  | 0, p => p = 0
  | m + 1, p => 2 ≤ p ∧ p ≤ c ∧ rf_hn n c m (n (64 * p))
def rf_hc (n : Nat → Nat) : Nat → Nat → Nat → Nat
  | 0, _, _ => 0
  | m + 1, p, q => (if p = q then 1 else 0) + rf_hc n m (n (64 * p)) q
/-- the page j steps on -/
def rf_lk (n : Nat → Nat) : Nat → Nat → Nat
  | 0, p => p
  | j + 1, p => rf_lk n j (n (64 * p))
/-- pages as they were -/
def rf_pe (n n' : Nat → Nat) (q : Nat) : Prop := ∀ a, a < 64 → n' (64 * q + a) = n (64 * q + a)
theorem rf_hn_frame {n n' : Nat → Nat} {c c' : Nat} (hc : c ≤ c') : ∀ {m p}, rf_hn n c m p → (∀ q, 1 ≤ rf_hc n m p q → rf_pe n n' q) → rf_hn n' c' m p ∧ (∀ q, rf_hc n' m p q = rf_hc n m p q) ∧ ∀ j, j ≤ m → rf_lk n' j p = rf_lk n j p
  | 0, p, h, _ => ⟨h, fun _ => rfl, fun j hj => by rw [show j = 0 by omega]; rfl⟩
  | m + 1, p, h, hf => by
    have e : n' (64 * p) = n (64 * p) := hf p (by rw [rf_hc, if_pos rfl]; omega) 0 (by omega)
    obtain ⟨h1, h2, h3⟩ := rf_hn_frame hc h.2.2 (fun q hq => hf q (by rw [rf_hc]; omega))
    refine ⟨⟨h.1, Nat.le_trans h.2.1 hc, by rw [e]; exact h1⟩, fun q => by rw [rf_hc, rf_hc, e, h2], fun j hj => ?_⟩
    cases j with
    | zero => rfl
    | succ j => rw [rf_lk, rf_lk, e]; exact h3 j (by omega)
theorem rf_hn_lk {n : Nat → Nat} {c : Nat} : ∀ {m p}, rf_hn n c m p → ∀ j, j < m → 2 ≤ rf_lk n j p ∧ rf_lk n j p ≤ c ∧ 1 ≤ rf_hc n m p (rf_lk n j p)
  | 0, _, _, j, hj => by omega
  | m + 1, p, h, j, hj => by
    cases j with
    | zero => exact ⟨h.1, h.2.1, by rw [rf_lk, rf_hc, if_pos rfl]; omega⟩
    | succ j =>
      obtain ⟨a, b, d⟩ := rf_hn_lk h.2.2 j (by omega)
      exact ⟨a, b, by rw [rf_lk, rf_hc]; omega⟩
/-- codes: which there are, and how many bytes -/
def rf_sz (cd : Nat) : Nat := if 11 < cd then (cd - 12) / 2 else if 7 < cd then 0 else if cd = 6 then 8 else cd
def rf_vc (cd : Nat) : Prop := cd = 1 ∨ cd = 2 ∨ cd = 4 ∨ cd = 6 ∨ cd = 8 ∨ cd = 9 ∨ (12 ≤ cd ∧ cd ≤ 212 ∧ cd % 2 = 0)
/-- the value of k bytes -/
def rf_vl (r : Nat → Nat) (s : Nat) : Nat → Int64
  | 0 => if 127 < r s then -1 else 0
  | k + 1 => (rf_vl r s k <<< ((8 : Int32).toInt64 &&& 63)) ||| (nI (r (s + k))).toInt64
/-- a record as it must be: m columns -/
def rf_wq (r : Nat → Nat) (L m : Nat) (cd z : Nat → Nat) : Prop :=
  1 ≤ m ∧ m ≤ 3 ∧ (∀ j, j < m → rf_rd r (1 + rf_su z j) (r 0) = some (cd j, z j) ∧ rf_vc (cd j) ∧ (rf_sz (cd j) ≠ 0 → cd j < 12 → rf_cd (rf_vl r (r 0 + rf_su (fun i => rf_sz (cd i)) j) (rf_sz (cd j))) = cd j)) ∧ 1 + rf_su z m = r 0 ∧ r 0 + rf_su (fun i => rf_sz (cd i)) m = L
def rf_wr (r : Nat → Nat) (L : Nat) : Prop := ∃ m cd z, rf_wq r L m cd z
/-- a cell of a leaf: its record's length, first page, beginning, bytes -/
def rf_cL (g : Nat → Nat) (i : Nat) : Nat := match rf_ln g i with
  | none => 0
  | some q => q.1
def rf_cf (g : Nat → Nat) (i : Nat) : Nat := if rf_cL g i ≤ 24 then 0 else g (rf_st g i - 1)
def rf_cb (g : Nat → Nat) (i : Nat) : Nat := rf_st g i - (if rf_cL g i ≤ 24 then rf_cL g i else 17)
def rf_cp (L : Nat) : Nat := if L ≤ 24 then 0 else (L - 16 + 62) / 63
def rf_rc (n g : Nat → Nat) (i k : Nat) : Nat := if rf_cL g i ≤ 24 ∨ k < 16 then g (rf_cb g i + k) else n (64 * rf_lk n ((k - 16) / 63) (rf_cf g i) + 1 + (k - 16) % 63)
/-- a cell of a leaf as it must be -/
def rf_cl (n : Nat → Nat) (c : Nat) (g : Nat → Nat) (i : Nat) : Prop :=
  ∃ y k z, rf_ln g i = some (rf_cL g i, y) ∧ rf_rd g (rf_st g (i + 1) + y) (rf_st g i) = some (k, z) ∧ rf_cL g i ≤ 307 ∧ rf_st g (i + 1) + y + z = rf_cb g i ∧ rf_cb g i + (if rf_cL g i ≤ 24 then rf_cL g i else 17) = rf_st g i ∧ rf_hn n c (rf_cp (rf_cL g i)) (rf_cf g i) ∧ rf_wr (rf_rc n g i) (rf_cL g i)
/-- a cell of an inner page as it must be -/
def rf_ci (g : Nat → Nat) (i : Nat) : Prop := ∃ k z, rf_rd g (rf_st g (i + 1) + 1) (rf_st g i) = some (k, z) ∧ rf_st g (i + 1) + 1 + z = rf_st g i
/-- a tree as it must be: D levels at most -/
def rf_tr (n : Nat → Nat) (c : Nat) : Nat → Nat → Prop
  | 0, _ => False
  | D + 1, p => 2 ≤ p ∧ p ≤ c ∧ rf_lay (rf_gb n c p) ∧ (rf_gb n c p 0 = 13 → ∀ i, i < rf_gb n c p 1 → rf_cl n c (rf_gb n c p) i) ∧
    (rf_gb n c p 0 = 5 → 1 ≤ rf_gb n c p 1 ∧ (∀ i, i < rf_gb n c p 1 → rf_ci (rf_gb n c p) i) ∧ ∀ i, i < rf_gb n c p 1 + 1 → rf_tr n c D (rf_kid (rf_gb n c p) i))
/-- how often a page stands in it -/
def rf_lq (n g : Nat → Nat) (q i : Nat) : Nat := rf_hc n (rf_cp (rf_cL g i)) (rf_cf g i) q
def rf_ct (n : Nat → Nat) (c : Nat) : Nat → Nat → Nat → Nat
  | 0, _, _ => 0
  | D + 1, p, q => (if p = q then 1 else 0) + (if rf_gb n c p 0 = 13 then rf_su (rf_lq n (rf_gb n c p) q) (rf_gb n c p 1) else rf_su (fun i => rf_ct n c D (rf_kid (rf_gb n c p) i) q) (rf_gb n c p 1 + 1))
/-- the file as it must be, as far as the calls need it -/
def rf_wf (n : Nat → Nat) : Prop := ∃ D, rf_tr n (n 65) D (n 70) ∧ rf_hn n (n 65) (n 67) (n 66) ∧ ∀ q, rf_ct n (n 65) D (n 70) q + rf_hc n (n 67) (n 66) q ≤ 1
theorem rf_gb_pe {n n' : Nat → Nat} {c c' p : Nat} (h1 : 1 ≤ p) (h2 : p ≤ c) (hc : c ≤ c') (h : rf_pe n n' p) : rf_gb n' c' p = rf_gb n c p := by
  funext a
  unfold rf_gb
  by_cases ha : a < 64
  · rw [if_pos ⟨h1, Nat.le_trans h2 hc, ha⟩, if_pos ⟨h1, h2, ha⟩]; exact h a ha
  · rw [if_neg (fun q => ha q.2.2), if_neg (fun q => ha q.2.2)]
theorem rf_rc_frame {n n' g : Nat → Nat} {c : Nat} {i : Nat} (h : rf_hn n c (rf_cp (rf_cL g i)) (rf_cf g i)) (hf : ∀ q, 1 ≤ rf_lq n g q i → rf_pe n n' q) : ∀ k, k < rf_cL g i → rf_rc n' g i k = rf_rc n g i k := by
  intro k hk
  unfold rf_rc
  by_cases e : rf_cL g i ≤ 24 ∨ k < 16
  · rw [if_pos e, if_pos e]
  · rw [if_neg e, if_neg e]
    have hm : (k - 16) / 63 < rf_cp (rf_cL g i) := by
      unfold rf_cp; rw [if_neg (fun q => e (Or.inl q))]
      have : 16 ≤ k := by omega
      omega
    obtain ⟨h1, h2, h3⟩ := rf_hn_frame (n' := n') (Nat.le_refl c) h hf
    rw [h3 _ (by omega)]
    have := hf _ (rf_hn_lk h _ hm).2.2 (1 + (k - 16) % 63) (by omega)
    rw [Nat.add_assoc]; exact this
theorem rf_wq_pos {r : Nat → Nat} {L m : Nat} {cd z : Nat → Nat} (h : rf_wq r L m cd z) : r 0 ≤ L ∧ 1 ≤ L := by
  have := h.2.2.2.1
  have := h.2.2.2.2
  omega
theorem rf_vl_congr {r r' : Nat → Nat} {s : Nat} : ∀ k, 1 ≤ k → (∀ j, j < k → r' (s + j) = r (s + j)) → rf_vl r' s k = rf_vl r s k
  | 0, h, _ => by omega
  | k + 1, _, h => by
    have h0 := h 0 (by omega)
    rw [Nat.add_zero] at h0
    rw [rf_vl, rf_vl, h k (by omega)]
    by_cases e : k = 0
    · subst e; rw [rf_vl, rf_vl, h0]
    · rw [rf_vl_congr k (by omega) (fun j hj => h j (by omega))]
theorem rf_rd_congr {g g' : Nat → Nat} {s e : Nat} (h : ∀ a, a < e → g' a = g a) : rf_rd g' s e = rf_rd g s e := by
  unfold rf_rd
  by_cases c0 : e ≤ s
  · rw [if_pos c0, if_pos c0]
  rw [if_neg c0, if_neg c0, h s (by omega)]
  by_cases c3 : e ≤ s + 1
  · rw [if_pos c3, if_pos c3]
  rw [if_neg c3, if_neg c3, h (s + 1) (by omega)]
  by_cases c5 : e ≤ s + 2
  · rw [if_pos c5, if_pos c5]
  rw [if_neg c5, if_neg c5, h (s + 2) (by omega)]
theorem rf_wq_congr {r r' : Nat → Nat} {L m : Nat} {cd z : Nat → Nat} (hr : ∀ k, k < L → r' k = r k) (h : rf_wq r L m cd z) : rf_wq r' L m cd z := by
  have h0 := rf_wq_pos h
  obtain ⟨h1, h2, h3, h4, h5⟩ := h
  have e0 : r' 0 = r 0 := hr 0 (by omega)
  refine ⟨h1, h2, fun j hj => ?_, by rw [e0]; exact h4, by rw [e0]; exact h5⟩
  obtain ⟨k1, k2, k3⟩ := h3 j hj
  refine ⟨by rw [e0, rf_rd_congr (fun a ha => hr a (by omega))]; exact k1, k2, fun q0 q => ?_⟩
  have hs : rf_su (fun i => rf_sz (cd i)) (j + 1) ≤ rf_su (fun i => rf_sz (cd i)) m := rf_su_le_of (by omega)
  rw [rf_su] at hs
  rw [e0]
  have e : rf_vl r' (r 0 + rf_su (fun i => rf_sz (cd i)) j) (rf_sz (cd j)) = rf_vl r (r 0 + rf_su (fun i => rf_sz (cd i)) j) (rf_sz (cd j)) := rf_vl_congr _ (by omega) (fun i hi => hr _ (by omega))
  rw [e]; exact k3 q0 q
theorem rf_cl_frame {n n' g : Nat → Nat} {c c' i : Nat} (hc : c ≤ c') (h : rf_cl n c g i) (hf : ∀ q, 1 ≤ rf_lq n g q i → rf_pe n n' q) : rf_cl n' c' g i ∧ ∀ q, rf_lq n' g q i = rf_lq n g q i := by
  obtain ⟨y, k, z, h1, h2, h3, h4, h5, h6, m, cd, zz, h7⟩ := h
  obtain ⟨k1, k2, k3⟩ := rf_hn_frame (n' := n') hc h6 hf
  exact ⟨⟨y, k, z, h1, h2, h3, h4, h5, k1, m, cd, zz, rf_wq_congr (rf_rc_frame h6 hf) h7⟩, k2⟩
/-- a tree whose pages are as they were -/
theorem rf_tr_frame {n n' : Nat → Nat} {c c' : Nat} (hc : c ≤ c') : ∀ {D p}, rf_tr n c D p → (∀ q, 1 ≤ rf_ct n c D p q → rf_pe n n' q) → rf_tr n' c' D p ∧ ∀ q, rf_ct n' c' D p q = rf_ct n c D p q
  | 0, _, h, _ => absurd h (fun q => q)
  | D + 1, p, h, hf => by
    obtain ⟨h1, h2, h3, h4, h5⟩ := h
    have hp := hf p (by rw [rf_ct, if_pos rfl]; omega)
    have eg := rf_gb_pe (c' := c') (by omega) h2 hc hp
    unfold rf_tr
    by_cases k : rf_gb n c p 0 = 13
    · have hcl : ∀ i, i < rf_gb n c p 1 → rf_cl n' c' (rf_gb n c p) i ∧ ∀ q, rf_lq n' (rf_gb n c p) q i = rf_lq n (rf_gb n c p) q i := fun i hi =>
        rf_cl_frame hc (h4 k i hi) (fun q hq => hf q (by
          rw [rf_ct, if_pos k]
          have := rf_su_le (f := rf_lq n (rf_gb n c p) q) hi
          omega))
      rw [eg]
      refine ⟨⟨h1, Nat.le_trans h2 hc, h3, fun _ i hi => (hcl i hi).1, fun q => by omega⟩, fun q => ?_⟩
      rw [rf_ct, rf_ct, eg, if_pos k, if_pos k, rf_su_congr _ (fun i hi => (hcl i hi).2 q)]
    · have k5 : rf_gb n c p 0 = 5 := h3.1.resolve_left k
      obtain ⟨g1, g2, g3⟩ := h5 k5
      have hk : ∀ i, i < rf_gb n c p 1 + 1 → rf_tr n' c' D (rf_kid (rf_gb n c p) i) ∧ ∀ q, rf_ct n' c' D (rf_kid (rf_gb n c p) i) q = rf_ct n c D (rf_kid (rf_gb n c p) i) q := fun i hi =>
        rf_tr_frame hc (g3 i hi) (fun q hq => hf q (by
          rw [rf_ct, if_neg k]
          have := rf_su_le (f := fun i => rf_ct n c D (rf_kid (rf_gb n c p) i) q) hi
          omega))
      rw [eg]
      refine ⟨⟨h1, Nat.le_trans h2 hc, h3, fun q => absurd q k, fun _ => ⟨g1, g2, fun i hi => (hk i hi).1⟩⟩, fun q => ?_⟩
      rw [rf_ct, rf_ct, eg, if_neg k, if_neg k, rf_su_congr _ (fun i hi => (hk i hi).2 q)]
end RFT
