section RFKK
variable {n : Nat → Nat} {c : Nat}
theorem rf_kb_step {D p lo hi : Nat} (t : rf_tr n c (D + 1) p) (hh : hi ≤ 1000000) (he : rf_gb n c p 1 = 0 → lo ≤ hi + 1) (z : rf_gb n c p 0 = 5 → ∀ i, i < rf_gb n c p 1 + 1 → rf_ct n c D (rf_kid (rf_gb n c p) i) (n 70) = 0)
    (ih : rf_gb n c p 0 = 5 → ∀ i, i < rf_gb n c p 1 + 1 → ∀ h', h' ≤ 1000000 → (rf_kb n c D (rf_kid (rf_gb n c p) i) (rf_lo (rf_gb n c p) lo i) h' ↔ rf_ke n c D (rf_kid (rf_gb n c p) i) (rf_lo (rf_gb n c p) lo i) ∧ rf_mE n c D (rf_kid (rf_gb n c p) i) (rf_lo (rf_gb n c p) lo i) ≤ h' + 1)) :
    rf_kb n c (D + 1) p lo hi ↔ rf_ke n c (D + 1) p lo ∧ rf_mE n c (D + 1) p lo ≤ hi + 1 := by
  rw [rf_mE_s D p lo]
  have los : ∀ i, rf_lo (rf_gb n c p) lo (i + 1) = rf_kv (rf_gb n c p) i + 1 := fun i => by
    unfold rf_lo
    rw [if_neg (by omega), Nat.add_sub_cancel]
  by_cases k13 : rf_gb n c p 0 = 13
  · have n5 : ¬ rf_gb n c p 0 = 5 := by omega
    rw [if_pos k13]
    constructor
    · rintro ⟨a, b, d, _⟩
      refine ⟨⟨a, fun _ i hi' => ⟨d k13 i hi', (b i hi').1, by have := (b i hi').2; omega⟩, fun k => absurd k n5⟩, ?_⟩
      by_cases e : rf_gb n c p 1 = 0
      · rw [if_pos e]; exact he e
      · rw [if_neg e]; have := (b (rf_gb n c p 1 - 1) (by omega)).2; omega
    · rintro ⟨⟨a, b, _⟩, d⟩
      have b := b k13
      refine ⟨a, fun i hi' => ⟨(b i hi').2.1, ?_⟩, fun _ i hi' => (b i hi').1, fun k => absurd k n5⟩
      rw [if_neg (by omega)] at d
      have dn : ∀ m i, i + m + 1 = rf_gb n c p 1 → rf_kv (rf_gb n c p) i ≤ hi := by
        intro m
        induction m with
        | zero => intro i e; rw [show rf_gb n c p 1 - 1 = i by omega] at d; omega
        | succ m im =>
          intro i e
          have x := im (i + 1) (by omega)
          have y := (b (i + 1) (by omega)).2.1
          rw [los] at y
          omega
      exact dn (rf_gb n c p 1 - 1 - i) i (by omega)
  · have k5 := t.2.2.1.1.resolve_left k13
    rw [if_neg k13]
    have z := z k5
    have ih := ih k5
    obtain ⟨g1, _, tt⟩ := t.2.2.2.2 k5
    have hi1 : rf_hi (rf_gb n c p) hi (rf_gb n c p 1) = hi := by unfold rf_hi; rw [if_neg (by omega)]
    have hi2 : ∀ i, i < rf_gb n c p 1 → rf_hi (rf_gb n c p) hi i = rf_kv (rf_gb n c p) i := fun i h => by unfold rf_hi; rw [if_pos h]
    constructor
    · rintro ⟨a, b, _, d⟩
      have d := d k5
      have f : ∀ i, i < rf_gb n c p 1 + 1 → rf_ke n c D (rf_kid (rf_gb n c p) i) (rf_lo (rf_gb n c p) lo i) ∧ rf_mE n c D (rf_kid (rf_gb n c p) i) (rf_lo (rf_gb n c p) lo i) ≤ rf_hi (rf_gb n c p) hi i + 1 := fun i h => by
        refine (ih i h _ ?_).mp (d i h)
        by_cases e : i < rf_gb n c p 1
        · rw [hi2 i e]; have := (b i e).2; omega
        · rw [show i = rf_gb n c p 1 by omega, hi1]; exact hh
      refine ⟨⟨a, fun k => absurd k k13, fun _ => ⟨fun i h => (f i h).1, fun i h => ⟨?_, ?_⟩⟩⟩, ?_⟩
      · have := (f i (by omega)).2; rw [hi2 i h] at this; exact this
      · have := (b i h).2; omega
      · have := (f (rf_gb n c p 1) (by omega)).2; rw [hi1] at this; exact this
    · rintro ⟨⟨a, _, b⟩, d⟩
      obtain ⟨b1, b2⟩ := b k5
      have gt : ∀ i, i < rf_gb n c p 1 + 1 → rf_lo (rf_gb n c p) lo i + 1 ≤ rf_mE n c D (rf_kid (rf_gb n c p) i) (rf_lo (rf_gb n c p) lo i) := fun i h => rf_mE_gt D _ _ (tt i h) (b1 i h) (z i h)
      have dn : ∀ m i, i + m + 1 = rf_gb n c p 1 → rf_kv (rf_gb n c p) i ≤ hi := by
        intro m
        induction m with
        | zero =>
          intro i e
          have x := gt (i + 1) (by omega)
          rw [show rf_gb n c p 1 = i + 1 by omega] at d
          rw [los] at x d
          omega
        | succ m im =>
          intro i e
          have x := im (i + 1) (by omega)
          have y := gt (i + 1) (by omega)
          have w := (b2 (i + 1) (by omega)).1
          rw [los] at y w
          omega
      have hk : ∀ i, i < rf_gb n c p 1 → rf_kv (rf_gb n c p) i ≤ hi := fun i h => dn (rf_gb n c p 1 - 1 - i) i (by omega)
      refine ⟨a, fun i h => ⟨?_, hk i h⟩, fun k => absurd k k13, fun _ i h => ?_⟩
      · have x := gt i (by omega)
        have w := (b2 i h).1
        omega
      · by_cases e : i < rf_gb n c p 1
        · rw [hi2 i e]
          exact (ih i h _ (b2 i e).2).mpr ⟨b1 i h, (b2 i e).1⟩
        · have e : i = rf_gb n c p 1 := by omega
          rw [e, hi1]
          exact (ih _ (by omega) _ hh).mpr ⟨b1 _ (by omega), d⟩
theorem rf_kb_ke : ∀ D p lo hi, rf_tr n c D p → rf_ct n c D p (n 70) = 0 → hi ≤ 1000000 → (rf_kb n c D p lo hi ↔ rf_ke n c D p lo ∧ rf_mE n c D p lo ≤ hi + 1)
  | 0, _, _, _, h, _, _ => absurd h (fun q => q)
  | D + 1, p, lo, hi, h, h0, hh => by
    have z : rf_gb n c p 0 = 5 → ∀ i, i < rf_gb n c p 1 + 1 → rf_ct n c D (rf_kid (rf_gb n c p) i) (n 70) = 0 := fun k5 i hi => by
      rw [rf_ct5 k5] at h0
      have := rf_su_le (f := fun i => rf_ct n c D (rf_kid (rf_gb n c p) i) (n 70)) hi
      omega
    have hp : p ≠ n 70 := fun e => by rw [rf_ct, if_pos e] at h0; omega
    have he : rf_ne n c p → ¬ rf_gb n c p 1 = 0 := fun a e => hp (a e).2
    have ih : rf_gb n c p 0 = 5 → ∀ i, i < rf_gb n c p 1 + 1 → ∀ h', h' ≤ 1000000 → (rf_kb n c D (rf_kid (rf_gb n c p) i) (rf_lo (rf_gb n c p) lo i) h' ↔ rf_ke n c D (rf_kid (rf_gb n c p) i) (rf_lo (rf_gb n c p) lo i) ∧ rf_mE n c D (rf_kid (rf_gb n c p) i) (rf_lo (rf_gb n c p) lo i) ≤ h' + 1) := fun k5 i hi h' hh' => rf_kb_ke D _ _ _ ((h.2.2.2.2 k5).2.2 i hi) (z k5 i hi) hh'
    by_cases e : rf_gb n c p 1 = 0
    · exact ⟨fun q => absurd e (he q.1), fun q => absurd e (he q.1.1)⟩
    · exact rf_kb_step h hh (fun q => absurd q e) z ih
theorem rf_kb_root {D : Nat} (h : rf_tr n c D (n 70)) (h1 : ∀ q, rf_ct n c D (n 70) q ≤ 1) : rf_kb n c D (n 70) 0 1000000 ↔ rf_ke n c D (n 70) 0 ∧ rf_mE n c D (n 70) 0 ≤ 1000001 := by
  cases D with
  | zero => exact absurd h (fun q => q)
  | succ D =>
    have z : rf_gb n c (n 70) 0 = 5 → ∀ i, i < rf_gb n c (n 70) 1 + 1 → rf_ct n c D (rf_kid (rf_gb n c (n 70)) i) (n 70) = 0 := fun k5 i hi => by
      have := h1 (n 70)
      rw [rf_ct5 k5, if_pos rfl] at this
      have := rf_su_le (f := fun i => rf_ct n c D (rf_kid (rf_gb n c (n 70)) i) (n 70)) hi
      omega
    exact rf_kb_step h (Nat.le_refl _) (fun _ => by omega) z (fun k5 i hi h' hh' => rf_kb_ke D _ _ _ ((h.2.2.2.2 k5).2.2 i hi) (z k5 i hi) hh')
/-- the same, as the reference looks at it -/
theorem rf_P_of {D : Nat} (f1 : rf_F1 n c) (t : rf_tr n c D (n 70)) (k : rf_ke n c D (n 70) 0) (h1 : ∀ q, rf_ct n c D (n 70) q ≤ 1) (m : rf_mE n c D (n 70) 0 ≤ 1000001) : rf_P n c ↔ rf_wk n c (fun _ => 1) (n 67) 0 (n 66) (rf_ct n c D (n 70)) ∧ ∀ q, 2 ≤ q → q ≤ c → rf_wks n (n 67) (n 66) (rf_ct n c D (n 70)) q = 1 := by
  have wi := rf_wk_iff (n := n) (c := c) (zf := fun _ => 1) (n 67) 0 (n 66) (rf_ct n c D (n 70)) h1
  rw [wi]
  constructor
  · rintro ⟨_, p2, p3, E, p4, p5⟩
    have e : ∀ q, rf_ct n c D (n 70) q + rf_hc n (n 67) (n 66) q = rf_full c q := fun q => by rw [rf_ct_any p4.1 t]; exact p5 q
    refine ⟨⟨p2, fun q => by rw [e]; exact rf_full_le c q, p3⟩, fun q q1 q2 => ?_⟩
    rw [rf_wks_hc, e]
    unfold rf_full
    rw [if_pos ⟨q1, q2⟩]
  · rintro ⟨⟨a, b, d⟩, e⟩
    refine ⟨f1, a, d, D, ⟨t, (rf_kb_root t h1).mpr ⟨k, m⟩⟩, fun q => ?_⟩
    unfold rf_full
    by_cases i : 2 ≤ q ∧ q ≤ c
    · rw [if_pos i]
      have := e q i.1 i.2
      rw [rf_wks_hc] at this
      exact this
    · rw [if_neg i]
      have x : ¬ 1 ≤ rf_ct n c D (n 70) q := fun y => i (rf_ct_in t y)
      have y : ¬ 1 ≤ rf_hc n (n 67) (n 66) q := fun y => i (rf_hc_in a y)
      omega
theorem rf_P_tree (h : rf_P n c) : ∃ D, rf_tr n c D (n 70) ∧ rf_ke n c D (n 70) 0 ∧ ∀ q, rf_ct n c D (n 70) q ≤ 1 := by
  obtain ⟨_, _, _, D, p4, p5⟩ := h
  have h1 : ∀ q, rf_ct n c D (n 70) q ≤ 1 := fun q => by have := p5 q; have := rf_full_le c q; omega
  exact ⟨D, p4.1, ((rf_kb_root p4.1 h1).mp p4.2).1, h1⟩
theorem rf_P_wf (h : rf_P n c) (hc : n 65 = c) : rf_wf n := by
  obtain ⟨_, p2, p3, D, p4, p5⟩ := h
  refine ⟨D, ?_⟩
  rw [hc]
  exact ⟨p4.1, p2, fun q => by rw [p5]; exact rf_full_le c q⟩
end RFKK
