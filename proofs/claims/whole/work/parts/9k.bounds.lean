section RFBD
variable {n R : Nat → Nat} {c : Nat}
def rf_lo (g : Nat → Nat) (lo i : Nat) : Nat := if i = 0 then lo else rf_kv g (i - 1) + 1
def rf_hi (g : Nat → Nat) (hi i : Nat) : Nat := if i < g 1 then rf_kv g i else hi
/-- zeros behind a record in its chain -/
def rf_zt (n g : Nat → Nat) (i : Nat) : Prop := ∀ j, j < rf_cp (rf_cL g i) → rf_zr n (rf_lk n j (rf_cf g i)) (rf_zf (rf_cL g i) j)
/-- the keys of a tree, from lo to hi -/
def rf_kb (n : Nat → Nat) (c : Nat) : Nat → Nat → Nat → Nat → Prop
  | 0, _, _, _ => False
  | D + 1, p, lo, hi => rf_ne n c p ∧ (∀ i, i < rf_gb n c p 1 → rf_lo (rf_gb n c p) lo i ≤ rf_kv (rf_gb n c p) i ∧ rf_kv (rf_gb n c p) i ≤ hi) ∧ (rf_gb n c p 0 = 13 → ∀ i, i < rf_gb n c p 1 → rf_zt n (rf_gb n c p) i) ∧ (rf_gb n c p 0 = 5 → ∀ i, i < rf_gb n c p 1 + 1 → rf_kb n c D (rf_kid (rf_gb n c p) i) (rf_lo (rf_gb n c p) lo i) (rf_hi (rf_gb n c p) hi i))
theorem rf_kb_mono1 : ∀ D p lo hi, rf_kb n c D p lo hi → rf_kb n c (D + 1) p lo hi
  | 0, _, _, _, h => absurd h (fun q => q)
  | D + 1, p, lo, hi, h => ⟨h.1, h.2.1, h.2.2.1, fun k i hi' => rf_kb_mono1 D _ _ _ (h.2.2.2 k i hi')⟩
theorem rf_kb_mono {D D' p lo hi : Nat} (h : rf_kb n c D p lo hi) (hD : D ≤ D') : rf_kb n c D' p lo hi := by
  obtain ⟨k, rfl⟩ : ∃ k, D' = D + k := ⟨D' - D, by omega⟩
  clear hD
  induction k with
  | zero => exact h
  | succ k ih => exact rf_kb_mono1 _ _ _ _ ih
def rf_tq (n : Nat → Nat) (c D p lo hi : Nat) : Prop := rf_tr n c D p ∧ rf_kb n c D p lo hi
theorem rf_tq_mono {D D' p lo hi : Nat} (h : rf_tq n c D p lo hi) (hD : D ≤ D') : rf_tq n c D' p lo hi := ⟨(rf_mono h.1 hD).1, rf_kb_mono h.2 hD⟩
theorem rf_tq_pos {D p lo hi : Nat} (h : rf_tq n c D p lo hi) : 1 ≤ D := by
  cases D with
  | zero => exact absurd h.1 (fun q => q)
  | succ D => omega
def rf_full (c q : Nat) : Nat := if 2 ≤ q ∧ q ≤ c then 1 else 0
theorem rf_full_le (c q : Nat) : rf_full c q ≤ 1 := by unfold rf_full; split <;> omega
def rf_cu (n : Nat → Nat) (c D p q : Nat) : Nat := rf_ct n c D p q - (if p = q then 1 else 0)
theorem rf_cu_ct {D p : Nat} (hD : 1 ≤ D) (q : Nat) : rf_ct n c D p q = (if p = q then 1 else 0) + rf_cu n c D p q := by
  unfold rf_cu
  obtain ⟨D, rfl⟩ : ∃ d, D = d + 1 := ⟨D - 1, by omega⟩
  rw [rf_ct]
  omega
theorem rf_cu_mono {D D' p : Nat} (h : rf_tr n c D p) (hD : D ≤ D') (q : Nat) : rf_cu n c D' p q = rf_cu n c D p q := by
  unfold rf_cu
  rw [(rf_mono h hD).2.1 q]
/-- a walk, seen whole -/
theorem rf_wk_iff {zf : Nat → Nat} : ∀ m i p R, (∀ q, R q ≤ 1) → (rf_wk n c zf m i p R ↔ rf_hn n c m p ∧ (∀ q, R q + rf_hc n m p q ≤ 1) ∧ ∀ j, j < m → rf_zr n (rf_lk n j p) (zf (i + j)))
  | 0, i, p, R, hR => ⟨fun h => ⟨h, fun q => by rw [rf_hc]; exact hR q, fun j hj => by omega⟩, fun h => h.1⟩
  | m + 1, i, p, R, hR => by
    constructor
    · intro h
      obtain ⟨h1, h2, h3, h4, h5⟩ := h
      have ad : ∀ q, rf_ad R p q ≤ 1 := fun q => by
        unfold rf_ad
        have := hR q
        by_cases e : p = q
        · subst e; rw [if_pos rfl]; omega
        · rw [if_neg e]; omega
      obtain ⟨a1, a2, a3⟩ := (rf_wk_iff m (i + 1) _ _ ad).mp h5
      refine ⟨⟨h1, h2, a1⟩, fun q => ?_, fun j hj => ?_⟩
      · have := a2 q
        unfold rf_ad at this
        rw [rf_hc]; omega
      · cases j with
        | zero => exact h4
        | succ j =>
          have := a3 j (by omega)
          rw [show i + 1 + j = i + (j + 1) by omega] at this
          exact this
    · rintro ⟨⟨h1, h2, h3⟩, h4, h5⟩
      have p0 : R p = 0 := by have := h4 p; rw [rf_hc, if_pos rfl] at this; omega
      have ad : ∀ q, rf_ad R p q ≤ 1 := fun q => by
        have := h4 q
        rw [rf_hc] at this
        unfold rf_ad; omega
      refine ⟨h1, h2, p0, h5 0 (by omega), (rf_wk_iff m (i + 1) _ _ ad).mpr ⟨h3, fun q => ?_, fun j hj => ?_⟩⟩
      · have := h4 q
        rw [rf_hc] at this
        unfold rf_ad; omega
      · have := h5 (j + 1) (by omega)
        rw [show i + (j + 1) = i + 1 + j by omega] at this
        exact this
theorem rf_lw_iff {g : Nat → Nat} {i : Nat} (hn : rf_bt n) (hg : ∀ k, g k < 256) (hR : ∀ q, R q ≤ 1) : rf_lw n c g i R ↔ rf_cl n c g i ∧ (∀ q, R q + rf_lq n g q i ≤ 1) ∧ rf_zt n g i := by
  unfold rf_lw rf_zt rf_lq
  rw [rf_wk_iff _ _ _ _ hR]
  constructor
  · rintro ⟨⟨y, k, z, w1, w2, w3⟩, ⟨h1, h2, h3⟩, h4⟩
    refine ⟨⟨y, k, z, w1, w2, (rf_wr_307 (rf_rc_lt hn hg i) h4).1, ?_, ?_, h1, h4⟩, h2, fun j hj => ?_⟩
    · unfold rf_cb; omega
    · unfold rf_cb; omega
    · have := h3 j hj
      rw [Nat.zero_add] at this
      exact this
  · rintro ⟨⟨y, k, z, w1, w2, w3, w4, w5, w6, w7⟩, h2, h3⟩
    refine ⟨⟨y, k, z, w1, w2, by omega⟩, ⟨w6, h2, fun j hj => ?_⟩, w7⟩
    rw [Nat.zero_add]; exact h3 j hj
/-- a bound, as the class keeps it -/
def rf_lz (lo : Nat) : Int32 := nI lo - 1
theorem rf_lz_s (k : Nat) : rf_lz (k + 1) = nI k := pk_sub (a := k + 1) (b := 1) (by omega)
theorem rf_lz_le {k lo : Nat} (hk : k < 2 ^ 30) (hl : lo < 2 ^ 30) : nI k ≤ rf_lz lo ↔ k < lo := by
  cases lo with
  | zero =>
    refine ⟨fun h => ?_, fun h => by omega⟩
    exfalso
    have e : rf_lz 0 = -1 := by decide
    rw [e, Int32.le_iff_toInt_le, nI_toInt (by omega), show (-1 : Int32).toInt = -1 by decide] at h
    omega
  | succ lo =>
    rw [rf_lz_s]
    constructor
    · intro h
      by_cases e : k < lo + 1
      · exact e
      · exact absurd h (nI_ge (by omega) (by omega))
    · intro h; exact nI_le (by omega) (by omega)
end RFBD
