section RFEV
theorem rf_nI64 : ∀ b, b < 256 → (nI b).toInt64 = lN b := by decide +kernel
theorem rf_vlstep {Y b : Nat} (hb : b < 256) : (lN Y <<< ((8 : Int32).toInt64 &&& 63)) ||| (nI b).toInt64 = lN ((Y * 256 + b) % 2 ^ 64) := by
  have e1 : lN Y <<< ((8 : Int32).toInt64 &&& 63) = lN (256 * (Y % 2 ^ 56)) := by
    have := wb_shl Y (k := 8) (by omega)
    rw [show nI 8 = (8 : Int32) from rfl] at this
    rw [this, wb_mod]
    congr 1
    omega
  rw [e1, rf_nI64 b hb, wb_or (by omega) (by omega)]
  congr 1
  have h2 := Nat.shiftLeft_add_eq_or_of_lt (i := 8) (b := b) hb (Y % 2 ^ 56)
  rw [Nat.shiftLeft_eq, show (2 : Nat) ^ 8 = 256 from rfl] at h2
  rw [Nat.mul_comm 256, ← h2]
  omega
/-- a number's bytes give the number -/
theorem rf_vl_enc {r : Nat → Nat} {base T s : Nat} (hT : T < 2 ^ 64) (s1 : 1 ≤ s) (s8 : s ≤ 8) (hr : ∀ i, i < s → r (base + i) = rf_vb T (s - 1 - i)) (hrg : T < 2 ^ (8 * s - 1) ∨ 2 ^ 64 - 2 ^ (8 * s - 1) ≤ T) : rf_vl r base s = lN T := by
  have hp : ∀ j, j ≤ 8 → 2 ^ (64 - 8 * j) * 2 ^ (8 * j) = 2 ^ 64 := fun j hj => by rw [← Nat.pow_add]; congr 1; omega
  have hP : ∀ j, j < 8 → 2 ^ (64 - 8 * (j + 1)) * 256 = 2 ^ (64 - 8 * j) := fun j hj => by
    rw [show 64 - 8 * j = (64 - 8 * (j + 1)) + 8 by omega, Nat.pow_add]
  have hA : ∀ j, T / 2 ^ (8 * (j + 1)) = T / 2 ^ (8 * j) / 256 := fun j => by
    rw [Nat.div_div_eq_div_mul, show 8 * (j + 1) = 8 * j + 8 by omega, Nat.pow_add]
  have hAlt : ∀ j, j ≤ 8 → T / 2 ^ (8 * j) < 2 ^ (64 - 8 * j) := fun j hj => by
    rw [Nat.div_lt_iff_lt_mul (Nat.two_pow_pos _), hp j hj]; exact hT
  have hPle : ∀ j, 2 ^ (64 - 8 * j) ≤ 2 ^ 64 := fun j => Nat.pow_le_pow_right (by decide) (by omega)
  have hr0 := hr 0 (by omega)
  rw [Nat.add_zero, Nat.sub_zero] at hr0
  have hs : 2 ^ (8 * s - 1) = 128 * 2 ^ (8 * (s - 1)) := by
    rw [show 8 * s - 1 = 7 + 8 * (s - 1) by omega, Nat.pow_add]
  have hpos := Nat.two_pow_pos (8 * (s - 1))
  rcases hrg with hlo | hhi
  · -- not negative
    have b0 : T / 2 ^ (8 * (s - 1)) < 128 := by
      rw [Nat.div_lt_iff_lt_mul hpos, ← hs]; exact hlo
    have main : ∀ t, t ≤ s → rf_vl r base t = lN (T / 2 ^ (8 * (s - t))) := by
      intro t
      induction t with
      | zero =>
        intro _
        have e : r base = T / 2 ^ (8 * (s - 1)) % 256 := hr0
        have m : T / 2 ^ (8 * (s - 1)) % 256 = T / 2 ^ (8 * (s - 1)) := Nat.mod_eq_of_lt (Nat.lt_of_lt_of_le b0 (by decide))
        rw [rf_vl, e, m, if_neg (Nat.not_lt.mpr (Nat.le_of_lt_succ b0)), Nat.sub_zero]
        have := hA (s - 1)
        rw [show s - 1 + 1 = s by omega] at this
        rw [this, Nat.div_eq_of_lt (Nat.lt_of_lt_of_le b0 (by decide))]; rfl
      | succ t ih =>
        intro ht
        have e : r (base + t) = T / 2 ^ (8 * (s - 1 - t)) % 256 := hr t (by omega)
        have a := hA (s - 1 - t)
        rw [show s - 1 - t + 1 = s - t by omega] at a
        have lt := hAlt (s - 1 - t) (by omega)
        have le := hPle (s - 1 - t)
        rw [rf_vl, ih (by omega), e, rf_vlstep (Nat.mod_lt _ (by decide)), a, show s - (t + 1) = s - 1 - t by omega]
        congr 1
        generalize T / 2 ^ (8 * (s - 1 - t)) = A at *
        generalize 2 ^ (64 - 8 * (s - 1 - t)) = P at *
        omega
    rw [main s (Nat.le_refl _), Nat.sub_self]
    show lN (T / 1) = _
    rw [Nat.div_one]
  · -- negative
    have b0 : 128 ≤ T / 2 ^ (8 * (s - 1)) % 256 ∧ T / 2 ^ (8 * (s - 1)) / 256 + 1 = 2 ^ (64 - 8 * s) := by
      have h1 := hp (s - 1) (by omega)
      have h3 : 2 ^ (64 - 8 * (s - 1)) = 256 * 2 ^ (64 - 8 * s) := by
        have := hP (s - 1) (by omega)
        rw [show s - 1 + 1 = s by omega] at this
        omega
      have h2 := hAlt (s - 1) (by omega)
      have h4 : 2 ^ (64 - 8 * (s - 1)) - 128 ≤ T / 2 ^ (8 * (s - 1)) := by
        rw [Nat.le_div_iff_mul_le hpos, Nat.sub_mul, h1, ← hs]; exact hhi
      have h5 := Nat.two_pow_pos (64 - 8 * s)
      rw [h3] at h2 h4
      generalize T / 2 ^ (8 * (s - 1)) = A at *
      generalize 2 ^ (64 - 8 * s) = P at *
      omega
    have main : ∀ t, t ≤ s → rf_vl r base t = lN (T / 2 ^ (8 * (s - t)) + (2 ^ 64 - 2 ^ (64 - 8 * (s - t)))) := by
      intro t
      induction t with
      | zero =>
        intro _
        have e : r base = T / 2 ^ (8 * (s - 1)) % 256 := hr0
        rw [rf_vl, e, if_pos (by omega), Nat.sub_zero]
        have a := hA (s - 1)
        rw [show s - 1 + 1 = s by omega] at a
        have le := hPle s
        rw [a, show T / 2 ^ (8 * (s - 1)) / 256 + (2 ^ 64 - 2 ^ (64 - 8 * s)) = 2 ^ 64 - 1 by omega]; rfl
      | succ t ih =>
        intro ht
        have e : r (base + t) = T / 2 ^ (8 * (s - 1 - t)) % 256 := hr t (by omega)
        have a := hA (s - 1 - t)
        have p := hP (s - 1 - t) (by omega)
        rw [show s - 1 - t + 1 = s - t by omega] at a p
        have lt := hAlt (s - 1 - t) (by omega)
        have le := hPle (s - 1 - t)
        have le2 := hPle (s - t)
        rw [rf_vl, ih (by omega), e, rf_vlstep (Nat.mod_lt _ (by decide)), a, show s - (t + 1) = s - 1 - t by omega]
        congr 1
        generalize T / 2 ^ (8 * (s - 1 - t)) = A at *
        generalize 2 ^ (64 - 8 * (s - 1 - t)) = P at *
        generalize 2 ^ (64 - 8 * (s - t)) = Q at *
        omega
    rw [main s (Nat.le_refl _), Nat.sub_self]
    show lN (T / 1 + 0) = _
    rw [Nat.div_one, Nat.add_zero]
theorem rf_cd_rg {T : Nat} (hT : T < 2 ^ 64) (hz : rf_sz (rf_cd (lN T)) ≠ 0) : 1 ≤ rf_sz (rf_cd (lN T)) ∧ rf_sz (rf_cd (lN T)) ≤ 8 ∧ (T < 2 ^ (8 * rf_sz (rf_cd (lN T)) - 1) ∨ 2 ^ 64 - 2 ^ (8 * rf_sz (rf_cd (lN T)) - 1) ≤ T) := by
  have hi := rf_lNt T hT
  unfold rf_cd at *
  by_cases c0 : lN T = 0
  · rw [if_pos c0] at hz; exact absurd rfl hz
  rw [if_neg c0] at hz ⊢
  by_cases c1 : lN T = 1
  · rw [if_pos c1] at hz; exact absurd rfl hz
  rw [if_neg c1] at hz ⊢
  by_cases c2 : -128 ≤ lN T ∧ lN T ≤ 127
  · rw [if_pos c2]
    rw [Int64.le_iff_toInt_le, Int64.le_iff_toInt_le, show (-128 : Int64).toInt = -128 by decide, show (127 : Int64).toInt = 127 by decide] at c2
    rw [show rf_sz 1 = 1 from rfl]
    refine ⟨by omega, by omega, ?_⟩
    show T < 128 ∨ 2 ^ 64 - 128 ≤ T
    omega
  rw [if_neg c2]
  by_cases c3 : -32768 ≤ lN T ∧ lN T ≤ 32767
  · rw [if_pos c3]
    rw [Int64.le_iff_toInt_le, Int64.le_iff_toInt_le, show (-32768 : Int64).toInt = -32768 by decide, show (32767 : Int64).toInt = 32767 by decide] at c3
    rw [show rf_sz 2 = 2 from rfl]
    refine ⟨by omega, by omega, ?_⟩
    show T < 32768 ∨ 2 ^ 64 - 32768 ≤ T
    omega
  rw [if_neg c3]
  by_cases c4 : -2147483648 ≤ lN T ∧ lN T ≤ 2147483647
  · rw [if_pos c4]
    rw [Int64.le_iff_toInt_le, Int64.le_iff_toInt_le, show (-2147483648 : Int64).toInt = -2147483648 by decide, show (2147483647 : Int64).toInt = 2147483647 by decide] at c4
    rw [show rf_sz 4 = 4 from rfl]
    refine ⟨by omega, by omega, ?_⟩
    show T < 2147483648 ∨ 2 ^ 64 - 2147483648 ≤ T
    omega
  rw [if_neg c4, show rf_sz 6 = 8 from rfl]
  refine ⟨by omega, by omega, ?_⟩
  show T < 9223372036854775808 ∨ 2 ^ 64 - 9223372036854775808 ≤ T
  omega
theorem rf_cd_vc (v : Int64) : rf_vc (rf_cd v) := by
  unfold rf_cd rf_vc
  repeat' split
  all_goals omega
theorem rf_vl_cd {r : Nat → Nat} {base T : Nat} (hT : T < 2 ^ 64) (hz : rf_sz (rf_cd (lN T)) ≠ 0) (hr : ∀ i, i < rf_sz (rf_cd (lN T)) → r (base + i) = rf_vb T (rf_sz (rf_cd (lN T)) - 1 - i)) : rf_cd (rf_vl r base (rf_sz (rf_cd (lN T)))) = rf_cd (lN T) := by
  obtain ⟨h1, h2, h3⟩ := rf_cd_rg hT hz
  rw [rf_vl_enc hT h1 h2 hr h3]
end RFEV
