section RFNC
/-- a page of a chain -/
def rf_cpg (r : Nat → Nat) (L s lk : Nat) : Nat → Nat := fun a => if a = 0 then lk else if s + (a - 1) < L then r (s + (a - 1)) else 0
/-- the pages of the chain so far -/
def rf_chv (r : Nat → Nat) (L : Nat) (m : Nat → Nat) (i : Nat) (ps : Nat → Nat) : Prop := ∀ j, j < i → 2 ≤ ps j ∧ ps j ≤ m 65 ∧ ∀ a, a < 64 → m (64 * ps j + a) = rf_cpg r L (16 + 63 * j) (if j + 1 < i then ps (j + 1) else 0) a
def rf_cps (ps : Nat → Nat) (i q : Nat) : Nat := rf_su (fun j => if ps j = q then 1 else 0) i
variable {r : Nat → Nat} {L : Nat} {m U : Nat → Nat} {i : Nat} {ps : Nat → Nat}
theorem rf_chv_hn (h : rf_chv r L m i ps) : ∀ d, d ≤ i → rf_hn m (m 65) d (if i - d < i then ps (i - d) else 0) ∧ ∀ q, rf_hc m d (if i - d < i then ps (i - d) else 0) q + rf_cps ps (i - d) q = rf_cps ps i q := by
  intro d
  induction d with
  | zero =>
    intro _
    rw [Nat.sub_zero, if_neg (by omega)]
    exact ⟨rfl, fun q => by rw [rf_hc]; omega⟩
  | succ d ih =>
    intro hd
    obtain ⟨a1, a2⟩ := ih (by omega)
    obtain ⟨b1, b2, b3⟩ := h (i - (d + 1)) (by omega)
    have b0 := b3 0 (by omega)
    unfold rf_cpg at b0
    rw [if_pos rfl, Nat.add_zero, show i - (d + 1) + 1 = i - d by omega] at b0
    rw [if_pos (by omega)]
    refine ⟨⟨b1, b2, by rw [b0]; exact a1⟩, fun q => ?_⟩
    have x := a2 q
    rw [rf_hc, b0]
    have y : rf_cps ps (i - d) q = rf_cps ps (i - (d + 1)) q + (if ps (i - (d + 1)) = q then 1 else 0) := by
      rw [show i - d = i - (d + 1) + 1 by omega]; rfl
    omega
theorem rf_chv_lk (h : rf_chv r L m i ps) : ∀ t j, j + t < i → rf_lk m t (ps j) = ps (j + t) := by
  intro t
  induction t with
  | zero => intro j _; rfl
  | succ t ih =>
    intro j hj
    have b0 := (h j (by omega)).2.2 0 (by omega)
    unfold rf_cpg at b0
    rw [if_pos rfl, Nat.add_zero, if_pos (by omega)] at b0
    rw [rf_lk, b0, ih (j + 1) (by omega)]
    congr 1; omega
/-- one page more -/
def rf_c1p (r : Nat → Nat) (L : Nat) (m : Nat → Nat) (i : Nat) (ps : Nat → Nat) : Nat → Nat :=
  rf_wp (if i = 0 then rf_tn m else rf_wp (rf_tn m) (ps (i - 1)) (rf_cpg r L (16 + 63 * (i - 1)) (rf_tk m))) (rf_tk m) (rf_cpg r L (16 + 63 * i) 0)
theorem rf_cps_s {p : Nat} : ∀ q, rf_cps (fun j => if j = i then p else ps j) (i + 1) q = rf_cps ps i q + (if p = q then 1 else 0) := by
  intro q
  have e : rf_su (fun j => if (if j = i then p else ps j) = q then 1 else 0) i = rf_su (fun j => if ps j = q then 1 else 0) i := rf_su_congr i (fun j hj => by rw [if_neg (show ¬ j = i by omega)])
  show rf_su (fun j => if (if j = i then p else ps j) = q then 1 else 0) i + (if (if i = i then p else ps i) = q then 1 else 0) = _
  rw [e, if_pos (rfl : i = i)]
  rfl
theorem rf_cpg_lt (hr : ∀ k, r k < 256) {s lk : Nat} (hl : lk < 256) (a : Nat) : rf_cpg r L s lk a < 256 := by
  unfold rf_cpg
  split
  · exact hl
  · split
    · exact hr _
    · omega
theorem rf_c1p_all (hr : ∀ k, r k < 256) (H : rf_ok m (fun q => U q + rf_cps ps i q)) (h : rf_chv r L m i ps) (hp : rf_tk m ≠ 0) {m2 : Nat → Nat} (em : m2 = rf_c1p r L m i ps) :
    rf_ok m2 (fun q => U q + rf_cps (fun j => if j = i then rf_tk m else ps j) (i + 1) q) ∧ rf_chv r L m2 (i + 1) (fun j => if j = i then rf_tk m else ps j) ∧ m2 65 = rf_tn m 65 ∧ m 65 ≤ m2 65 ∧ m2 70 = m 70 ∧ ∀ q, 1 ≤ U q → rf_pe m m2 q := by
  obtain ⟨t1, t2, t3, t4, t5, t6, t7, t8⟩ := rf_tk_ok H hp
  have c24 := t5.2.2.1
  have e70 : rf_tn m 70 = m 70 := t8 70 (by omega) (by omega) (by omega) (by omega)
  have one : ∀ q, U q + rf_cps ps i q + rf_hc m (m 67) (m 66) q ≤ 1 := H.2.2.2.2.1
  have t4 : U (rf_tk m) + rf_cps ps i (rf_tk m) = 0 := t4
  have inn : ∀ q, 1 ≤ U q + rf_cps ps i q → 2 ≤ q ∧ q ≤ m 65 := H.2.2.2.2.2
  have psU : ∀ j, j < i → 1 ≤ rf_cps ps i (ps j) := fun j hj => by
    have := rf_su_le (f := fun t => if ps t = ps j then 1 else 0) hj
    rw [if_pos rfl] at this
    exact this
  have pst : ∀ j, j < i → ps j ≠ rf_tk m := fun j hj e => by
    have := psU j hj
    rw [e] at this
    omega
  have psd : ∀ j j', j < j' → j' < i → ps j ≠ ps j' := fun j j' h1 h2 e => by
    have a := rf_su_two (f := fun t => if ps t = ps j then 1 else 0) h1 h2
    rw [if_pos rfl, if_pos e.symm] at a
    have b := one (ps j)
    have : rf_cps ps i (ps j) = rf_su (fun t => if ps t = ps j then 1 else 0) i := rfl
    omega
  have okU : (fun q => U q + rf_cps (fun j => if j = i then rf_tk m else ps j) (i + 1) q) = fun q => U q + rf_cps ps i q + (if rf_tk m = q then 1 else 0) := by
    funext q; rw [rf_cps_s]; omega
  rw [okU]
  -- the link
  obtain ⟨ml, hml⟩ : ∃ ml, ml = (if i = 0 then rf_tn m else rf_wp (rf_tn m) (ps (i - 1)) (rf_cpg r L (16 + 63 * (i - 1)) (rf_tk m))) := ⟨_, rfl⟩
  have em' : m2 = rf_wp ml (rf_tk m) (rf_cpg r L (16 + 63 * i) 0) := by rw [em, hml]; rfl
  have okl : rf_ok ml (fun q => U q + rf_cps ps i q + (if rf_tk m = q then 1 else 0)) := by
    rw [hml]
    by_cases e : i = 0
    · rw [if_pos e]; exact t5
    · rw [if_neg e]
      exact rf_wp_ok t5 (by have := psU (i - 1) (by omega); omega) (rf_cpg_lt hr (by omega))
  have hdl : ∀ j, j < 128 → ml j = rf_tn m j := fun j hj => by
    rw [hml]
    by_cases e : i = 0
    · rw [if_pos e]
    · rw [if_neg e]
      exact rf_wp_hd (h (i - 1) (by omega)).1 hj
  have pel : ∀ q, (i = 0 ∨ q ≠ ps (i - 1)) → rf_pe (rf_tn m) ml q := fun q hq => by
    rw [hml]
    by_cases e : i = 0
    · rw [if_pos e]; exact fun a _ => rfl
    · rw [if_neg e]
      exact rf_wp_pe (hq.resolve_left e)
  have m65 : m2 65 = rf_tn m 65 := by rw [em', rf_wp_hd t1 (by omega)]; exact hdl 65 (by omega)
  refine ⟨?_, fun j hj => ?_, m65, by omega, by rw [em', rf_wp_hd t1 (by omega), hdl 70 (by omega), e70], fun q hq a ha => ?_⟩
  · rw [em']
    exact rf_wp_ok okl (by rw [if_pos rfl]; omega) (rf_cpg_lt hr (by omega))
  · dsimp only
    by_cases e : j = i
    · rw [if_pos e, if_neg (by omega), e]
      refine ⟨t1, by omega, fun a ha => ?_⟩
      rw [em', rf_wp_at ha]
    · obtain ⟨b1, b2, b3⟩ := h j (by omega)
      rw [if_neg e]
      refine ⟨b1, by omega, fun a ha => ?_⟩
      rw [em', rf_wp_pe (pst j (by omega)) a ha, if_pos (by omega)]
      by_cases e2 : j + 1 = i
      · rw [if_pos e2, hml, if_neg (by omega), show j = i - 1 by omega, rf_wp_at ha]
      · rw [if_neg e2, pel (ps j) (Or.inr (psd j (i - 1) (by omega) (by omega))) a ha, t6 (ps j) b1 (pst j (by omega)) a ha, b3 a ha, if_pos (by omega)]
  · have hqt : q ≠ rf_tk m := fun e => by rw [e] at hq; omega
    have hqi : i = 0 ∨ q ≠ ps (i - 1) := by
      by_cases e : i = 0
      · exact Or.inl e
      · refine Or.inr (fun e2 => ?_)
        have a := psU (i - 1) (by omega)
        have b := one q
        rw [← e2] at a
        omega
    rw [em', rf_wp_pe hqt a ha, pel q hqi a ha]
    exact t6 q (inn q (by omega)).1 hqt a ha
end RFNC
