section RFHA
variable {m m' : Nat → Nat} {kd M la D : Nat} {ln : Nat → Nat} {cb : Nat → Nat → Nat} {C : Nat → Nat}
theorem rf_su1 (f : Nat → Nat) : ∀ m, rf_su (fun i => f i + 1) m = rf_su f m + m
  | 0 => rfl
  | m + 1 => by rw [rf_su, rf_su, rf_su1 f m]; omega
theorem rf_su_sp (f : Nat → Nat) (a : Nat) : ∀ b, rf_su f (a + b) = rf_su f a + rf_su (fun i => f (a + i)) b
  | 0 => rfl
  | b + 1 => by
    show rf_su f (a + b) + f (a + b) = _
    rw [rf_su_sp f a b, rf_su]; omega
/-- the cells in hand: what they need of the pages, and which pages they use -/
def rf_hand (m : Nat → Nat) (kd M la D : Nat) (ln : Nat → Nat) (cb : Nat → Nat → Nat) (C : Nat → Nat) : Prop :=
  (∀ i k, cb i k < 256) ∧ la < 256 ∧ (∀ i, i < M → 1 ≤ ln i ∧ ln i ≤ 28) ∧
  ((kd = 13 ∧ la = 0 ∧ (∀ i, i < M → rf_kl m (m 65) (ln i) (cb i)) ∧ ∀ q, C q = rf_su (fun i => rf_kq m q (ln i) (cb i)) M) ∨
   (kd = 5 ∧ 1 ≤ M ∧ (∀ i, i < M → rf_ki (ln i) (cb i) ∧ ln i ≤ 4 ∧ rf_tr m (m 65) D (cb i 0)) ∧ rf_tr m (m 65) D la ∧ ∀ q, C q = rf_su (fun i => rf_ct m (m 65) D (cb i 0) q) M + rf_ct m (m 65) D la q))
theorem rf_hand_fr (h : rf_hand m kd M la D ln cb C) (hc : m 65 ≤ m' 65) (hf : ∀ q, 1 ≤ C q → rf_pe m m' q) : rf_hand m' kd M la D ln cb C := by
  obtain ⟨h1, h2, h3, h4⟩ := h
  refine ⟨h1, h2, h3, ?_⟩
  rcases h4 with ⟨k1, k2, k3, k4⟩ | ⟨k1, k2, k3, k4, k5⟩
  · have a := fun i hi => rf_kl_frame (n' := m') hc (k3 i hi) (fun q hq => hf q (by
      rw [k4]
      have := rf_su_le (f := fun i => rf_kq m q (ln i) (cb i)) hi
      omega))
    exact Or.inl ⟨k1, k2, fun i hi => (a i hi).1, fun q => by rw [k4]; exact rf_su_congr M (fun i hi => ((a i hi).2 q).symm)⟩
  · have a := fun i hi => rf_tr_frame (n' := m') hc (k3 i hi).2.2 (fun q hq => hf q (by
      rw [k5]
      have := rf_su_le (f := fun i => rf_ct m (m 65) D (cb i 0) q) hi
      omega))
    have b := rf_tr_frame (n' := m') hc k4 (fun q hq => hf q (by rw [k5]; omega))
    exact Or.inr ⟨k1, k2, fun i hi => ⟨(k3 i hi).1, (k3 i hi).2.1, (a i hi).1⟩, b.1, fun q => by rw [k5, b.2, rf_su_congr M (fun i hi => ((a i hi).2 q).symm)]⟩
theorem rf_hand_st {p : Nat} (h : rf_hand m kd M la D ln cb C) (hr : 4 + M + rf_su ln M ≤ 64) (h1 : 2 ≤ p) (h2 : p ≤ m 65) (h0 : C p = 0) :
    rf_tr (rf_wp m p (rf_mk kd M la ln cb)) (m 65) (D + 1) p ∧ ∀ q, rf_ct (rf_wp m p (rf_mk kd M la ln cb)) (m 65) (D + 1) p q = (if p = q then 1 else 0) + C q := by
  have e65 : rf_wp m p (rf_mk kd M la ln cb) 65 = m 65 := rf_wp_hd h1 (by omega)
  have h' : rf_hand (rf_wp m p (rf_mk kd M la ln cb)) kd M la D ln cb C := rf_hand_fr h (by omega) (fun q hq => rf_wp_pe (fun e => by subst e; omega))
  obtain ⟨a1, a2, a3, a4⟩ := h'
  rw [e65] at a4
  have hM : M ≤ 60 := by omega
  have eg : rf_gb (rf_wp m p (rf_mk kd M la ln cb)) (m 65) p = rf_mk kd M la ln cb := rf_wp_gb (by omega) h2 (fun a ha => rf_mk_big ha hM)
  rcases a4 with ⟨k1, k2, k3, k4⟩ | ⟨k1, k2, k3, k4, k5⟩
  · rw [k1, k2] at eg
    obtain ⟨b1, b2⟩ := rf_trL (D := D) h1 h2 (by rw [k1, k2]; exact eg) hr (fun i hi => (a3 i hi).1) k3
    refine ⟨b1, fun q => ?_⟩
    rw [b2, k4]
  · rw [k1] at eg
    obtain ⟨b1, b2⟩ := rf_trI (D := D) h1 h2 (by rw [k1]; exact eg) hr k2 (fun i hi => (k3 i hi).1) (fun i hi => (k3 i hi).2.2) k4
    refine ⟨b1, fun q => ?_⟩
    rw [b2, k5]
/-- how many cells stay in the new page -/
def rf_sf (kd f : Nat) : Nat := if kd = 13 then f else f - 1
def rf_sa (kd f : Nat) (cb : Nat → Nat → Nat) : Nat := if kd = 13 then 0 else cb (f - 1) 0
theorem rf_hand_ft (h : rf_hand m kd M la D ln cb C) (hs : rf_su ln M + M ≤ 89) (hf : rf_ft ln M < M) : 1 ≤ rf_ft ln M ∧ (kd = 5 → 2 ≤ rf_ft ln M) ∧ 4 + rf_ft ln M + rf_su ln (rf_ft ln M) ≤ 64 ∧ 4 + (M - rf_ft ln M) + rf_su (fun i => ln (rf_ft ln M + i)) (M - rf_ft ln M) ≤ 64 := by
  obtain ⟨a1, a2, a3, a4⟩ := h
  obtain ⟨b1, b2, b3⟩ := rf_ft_all ln M
  have b4 := b3 hf
  rw [rf_su1] at b2 b4
  have b5 : rf_su ln (rf_ft ln M + 1) = rf_su ln (rf_ft ln M) + ln (rf_ft ln M) := rfl
  have b6 := (a3 _ hf).2
  have b7 := rf_su_sp ln (rf_ft ln M) (M - rf_ft ln M)
  rw [show rf_ft ln M + (M - rf_ft ln M) = M by omega] at b7
  have f1 : 1 ≤ rf_ft ln M := by
    by_cases e0 : rf_ft ln M = 0
    · rw [e0] at b4 b6
      have : rf_su ln (0 + 1) = 0 + ln 0 := rfl
      omega
    · omega
  refine ⟨f1, fun k => ?_, by omega, by omega⟩
  by_cases e : rf_ft ln M = 1
  · rw [e] at b4
    rcases a4 with ⟨k1, _⟩ | ⟨_, _, k3, _⟩
    · omega
    · have z1 := (k3 0 (by omega)).2.1
      have z2 := (k3 1 (by omega)).2.1
      rw [rf_su, rf_su, rf_su] at b4
      omega
  · omega
/-- the two halves -/
theorem rf_hand_lo {f : Nat} (h : rf_hand m kd M la D ln cb C) (hf : f < M) (h1 : 1 ≤ f) (h2 : kd = 5 → 2 ≤ f) : ∃ C1, rf_hand m kd (rf_sf kd f) (rf_sa kd f cb) D ln cb C1 ∧ ∃ C2, rf_hand m kd (M - f) la D (fun i => ln (f + i)) (fun i => cb (f + i)) C2 ∧ ∀ q, C1 q + C2 q = C q := by
  obtain ⟨a1, a2, a3, a4⟩ := h
  unfold rf_sf rf_sa
  rcases a4 with ⟨k1, k2, k3, k4⟩ | ⟨k1, k2, k3, k4, k5⟩
  · refine ⟨fun q => rf_su (fun i => rf_kq m q (ln i) (cb i)) f, ⟨a1, by rw [if_pos k1]; omega, fun i hi => a3 i (by rw [if_pos k1] at hi; omega), Or.inl ⟨k1, if_pos k1, fun i hi => k3 i (by rw [if_pos k1] at hi; omega), fun q => by rw [if_pos k1]⟩⟩, fun q => rf_su (fun i => rf_kq m q (ln (f + i)) (cb (f + i))) (M - f), ⟨fun i k => a1 _ _, a2, fun i hi => a3 _ (by omega), Or.inl ⟨k1, k2, fun i hi => k3 _ (by omega), fun q => rfl⟩⟩, fun q => ?_⟩
    rw [k4]
    have := rf_su_sp (fun i => rf_kq m q (ln i) (cb i)) f (M - f)
    rw [show f + (M - f) = M by omega] at this
    exact this.symm
  · have n13 : ¬ kd = 13 := by omega
    have f2 := h2 k1
    refine ⟨fun q => rf_su (fun i => rf_ct m (m 65) D (cb i 0) q) f, ⟨a1, by rw [if_neg n13]; exact a1 _ _, fun i hi => a3 i (by rw [if_neg n13] at hi; omega), Or.inr ⟨k1, by rw [if_neg n13]; omega, fun i hi => k3 i (by rw [if_neg n13] at hi; omega), by rw [if_neg n13]; exact (k3 (f - 1) (by omega)).2.2, fun q => ?_⟩⟩, fun q => rf_su (fun i => rf_ct m (m 65) D (cb (f + i) 0) q) (M - f) + rf_ct m (m 65) D la q, ⟨fun i k => a1 _ _, a2, fun i hi => a3 _ (by omega), Or.inr ⟨k1, by omega, fun i hi => k3 _ (by omega), k4, fun q => rfl⟩⟩, fun q => ?_⟩
    · rw [if_neg n13, if_neg n13]
      obtain ⟨j, rfl⟩ : ∃ j, f = j + 1 := ⟨f - 1, by omega⟩
      rw [Nat.add_sub_cancel]
      rfl
    · rw [k5]
      have := rf_su_sp (fun i => rf_ct m (m 65) D (cb i 0) q) f (M - f)
      rw [show f + (M - f) = M by omega] at this
      rw [this]
      dsimp only
      omega
/-- the key of a cell -/
def rf_kyv (kd ln : Nat) (cb : Nat → Nat) : Nat := if kd = 13 then (match rf_rd cb 0 ln with
  | none => 0
  | some q => match rf_rd cb q.2 ln with
    | none => 0
    | some p => p.1) else (match rf_rd cb 1 ln with
  | none => 0
  | some p => p.1)
theorem rf_hand_key {i : Nat} (h : rf_hand m kd M la D ln cb C) (hi : i < M) : ∃ z, rf_kyv kd (ln i) (cb i) < 2097152 ∧ ((kd = 5 ∧ rf_rd (cb i) 1 (ln i) = some (rf_kyv kd (ln i) (cb i), z)) ∨ (kd = 13 ∧ ∃ L y, rf_rd (cb i) 0 (ln i) = some (L, y) ∧ rf_rd (cb i) y (ln i) = some (rf_kyv kd (ln i) (cb i), z))) := by
  obtain ⟨a1, a2, a3, a4⟩ := h
  rcases a4 with ⟨k1, k2, k3, k4⟩ | ⟨k1, k2, k3, k4, k5⟩
  · obtain ⟨y, k, z, h1, h2, _⟩ := k3 i hi
    have e : rf_kyv kd (ln i) (cb i) = k := by
      unfold rf_kyv
      rw [if_pos k1, h1]
      show (match rf_rd (cb i) y (ln i) with
        | none => 0
        | some p => p.1) = k
      rw [h2]
    rw [e]
    exact ⟨z, (rf_rd_lt (a1 i) h2).1, Or.inr ⟨k1, _, y, h1, h2⟩⟩
  · obtain ⟨k, z, h1, h2⟩ := (k3 i hi).1
    have e : rf_kyv kd (ln i) (cb i) = k := by
      unfold rf_kyv
      rw [if_neg (show ¬ kd = 13 by omega), h1]
    rw [e]
    exact ⟨z, (rf_rd_lt (a1 i) h1).1, Or.inl ⟨k1, h1⟩⟩
end RFHA
