section RFVV
theorem rf_vl1 : ∀ b, b < 256 → ((if 127 < b then (-1 : Int64) else 0) <<< ((8 : Int32).toInt64 &&& 63)) ||| (nI b).toInt64 = (rf_sx b).toInt64 := by decide +kernel
theorem rf_valueSize {v : Nat} (h : v < 2 ^ 28) : (rf_vc v → f_RF_valueSize (nI v) = some (nI (rf_sz v))) ∧ (¬ rf_vc v → f_RF_valueSize (nI v) = some (-1)) := by
  have e1 : (12 ≤ v ∧ v ≤ 212 ∧ v % 2 = 0) → f_RF_valueSize (nI v) = some (nI (rf_sz v)) := by
    intro q
    have := rf_vsize (z := (v - 12) / 2) (by omega)
    rw [show 12 + 2 * ((v - 12) / 2) = v by omega] at this
    rw [this]
    unfold rf_sz
    rw [if_pos (by omega)]
  by_cases c1 : v = 1
  · subst c1; exact ⟨fun _ => by simp (disch := omega) only [f_RF_valueSize, rf_lit, nI_add, pk_mul, pk_sub, nI_ltI, nI_leI, nI_eq, rf_in, nI_clamp, pu_br_t, pu_br_f, pu_ck_t, pu_brT, pu_brF, pu_ckT, pu_nm, pu_b0_s, pu_b1_s, pu_b2_s, pu_b3_s, pu_b4_s, pu_b5_s, pu_b6_s, pu_b7_s, pu_b8_s, pu_b9_s, pu_b10_s, pu_b11_s, pu_b12_s, pu_b13_s, pu_b14_s, pu_b15_s, pu_b16_s, pu_b17_s, pu_b18_s, pu_b19_s, pu_b20_s, pu_b21_s, pu_b22_s, pu_b23_s, pu_b24_s, pu_b25_s]; rfl, fun q => absurd (Or.inl rfl) q⟩
  by_cases c2 : v = 2
  · subst c2; exact ⟨fun _ => by simp (disch := omega) only [f_RF_valueSize, rf_lit, nI_add, pk_mul, pk_sub, nI_ltI, nI_leI, nI_eq, rf_in, nI_clamp, pu_br_t, pu_br_f, pu_ck_t, pu_brT, pu_brF, pu_ckT, pu_nm, pu_b0_s, pu_b1_s, pu_b2_s, pu_b3_s, pu_b4_s, pu_b5_s, pu_b6_s, pu_b7_s, pu_b8_s, pu_b9_s, pu_b10_s, pu_b11_s, pu_b12_s, pu_b13_s, pu_b14_s, pu_b15_s, pu_b16_s, pu_b17_s, pu_b18_s, pu_b19_s, pu_b20_s, pu_b21_s, pu_b22_s, pu_b23_s, pu_b24_s, pu_b25_s]; rfl, fun q => absurd (Or.inr (Or.inl rfl)) q⟩
  by_cases c4 : v = 4
  · subst c4; exact ⟨fun _ => by simp (disch := omega) only [f_RF_valueSize, rf_lit, nI_add, pk_mul, pk_sub, nI_ltI, nI_leI, nI_eq, rf_in, nI_clamp, pu_br_t, pu_br_f, pu_ck_t, pu_brT, pu_brF, pu_ckT, pu_nm, pu_b0_s, pu_b1_s, pu_b2_s, pu_b3_s, pu_b4_s, pu_b5_s, pu_b6_s, pu_b7_s, pu_b8_s, pu_b9_s, pu_b10_s, pu_b11_s, pu_b12_s, pu_b13_s, pu_b14_s, pu_b15_s, pu_b16_s, pu_b17_s, pu_b18_s, pu_b19_s, pu_b20_s, pu_b21_s, pu_b22_s, pu_b23_s, pu_b24_s, pu_b25_s]; rfl, fun q => absurd (Or.inr (Or.inr (Or.inl rfl))) q⟩
  by_cases c6 : v = 6
  · subst c6; exact ⟨fun _ => by simp (disch := omega) only [f_RF_valueSize, rf_lit, nI_add, pk_mul, pk_sub, nI_ltI, nI_leI, nI_eq, rf_in, nI_clamp, pu_br_t, pu_br_f, pu_ck_t, pu_brT, pu_brF, pu_ckT, pu_nm, pu_b0_s, pu_b1_s, pu_b2_s, pu_b3_s, pu_b4_s, pu_b5_s, pu_b6_s, pu_b7_s, pu_b8_s, pu_b9_s, pu_b10_s, pu_b11_s, pu_b12_s, pu_b13_s, pu_b14_s, pu_b15_s, pu_b16_s, pu_b17_s, pu_b18_s, pu_b19_s, pu_b20_s, pu_b21_s, pu_b22_s, pu_b23_s, pu_b24_s, pu_b25_s]; rfl, fun q => absurd (Or.inr (Or.inr (Or.inr (Or.inl rfl)))) q⟩
  by_cases c8 : v = 8
  · subst c8; exact ⟨fun _ => by simp (disch := omega) only [f_RF_valueSize, rf_lit, nI_add, pk_mul, pk_sub, nI_ltI, nI_leI, nI_eq, rf_in, nI_clamp, pu_br_t, pu_br_f, pu_ck_t, pu_brT, pu_brF, pu_ckT, pu_nm, pu_b0_s, pu_b1_s, pu_b2_s, pu_b3_s, pu_b4_s, pu_b5_s, pu_b6_s, pu_b7_s, pu_b8_s, pu_b9_s, pu_b10_s, pu_b11_s, pu_b12_s, pu_b13_s, pu_b14_s, pu_b15_s, pu_b16_s, pu_b17_s, pu_b18_s, pu_b19_s, pu_b20_s, pu_b21_s, pu_b22_s, pu_b23_s, pu_b24_s, pu_b25_s]; rfl, fun q => absurd (Or.inr (Or.inr (Or.inr (Or.inr (Or.inl rfl))))) q⟩
  by_cases c9 : v = 9
  · subst c9; exact ⟨fun _ => by simp (disch := omega) only [f_RF_valueSize, rf_lit, nI_add, pk_mul, pk_sub, nI_ltI, nI_leI, nI_eq, rf_in, nI_clamp, pu_br_t, pu_br_f, pu_ck_t, pu_brT, pu_brF, pu_ckT, pu_nm, pu_b0_s, pu_b1_s, pu_b2_s, pu_b3_s, pu_b4_s, pu_b5_s, pu_b6_s, pu_b7_s, pu_b8_s, pu_b9_s, pu_b10_s, pu_b11_s, pu_b12_s, pu_b13_s, pu_b14_s, pu_b15_s, pu_b16_s, pu_b17_s, pu_b18_s, pu_b19_s, pu_b20_s, pu_b21_s, pu_b22_s, pu_b23_s, pu_b24_s, pu_b25_s]; rfl, fun q => absurd (Or.inr (Or.inr (Or.inr (Or.inr (Or.inr (Or.inl rfl)))))) q⟩
  by_cases cb : 12 ≤ v ∧ v ≤ 212 ∧ v % 2 = 0
  · exact ⟨fun _ => e1 cb, fun q => absurd (Or.inr (Or.inr (Or.inr (Or.inr (Or.inr (Or.inr cb)))))) q⟩
  refine ⟨fun q => ?_, fun _ => ?_⟩
  · rcases q with q | q | q | q | q | q | q
    · exact absurd q c1
    · exact absurd q c2
    · exact absurd q c4
    · exact absurd q c6
    · exact absurd q c8
    · exact absurd q c9
    · exact absurd q cb
  · have e82 : q_RF_valueSize_82 (nI v) = some (-1) := by rw [q_RF_valueSize_82, q_RF_valueSize_83, pu_br_t rfl]
    have tail : pu_br (nI v < (12 : Int32)) (q_RF_valueSize_82 (nI v)) (pu_br ((212 : Int32) < nI v) (q_RF_valueSize_82 (nI v)) (pu_br ((nI v - nI v / (2 : Int32) * (2 : Int32)) = 0) (q_RF_valueSize_83 (nI v) 1) (q_RF_valueSize_82 (nI v)))) = some (-1) := by
      by_cases d1 : v < 12
      · rw [pu_br_t (show nI v < (12 : Int32) from nI_lt (b := 12) d1 (by decide)), e82]
      rw [pu_br_f (show ¬ nI v < (12 : Int32) from nI_nlt (b := 12) (by omega) (by omega))]
      by_cases d2 : 212 < v
      · rw [pu_br_t (show (212 : Int32) < nI v from nI_lt (a := 212) d2 (by omega)), e82]
      rw [pu_br_f (show ¬ (212 : Int32) < nI v from nI_nlt (a := 212) (by omega) (by omega)), show nI v - nI v / (2 : Int32) * (2 : Int32) = nI (v % 2) from pk_rem (d := 2) (by omega) (by omega) (by omega), pu_br_f (show ¬ nI (v % 2) = (0 : Int32) from nI_ne0 (by omega) (by omega)), e82]
    have ne : ∀ k : Nat, v ≠ k → k < 2 ^ 31 → ¬ nI v = nI k := fun k hk h31 q => hk ((nI_eq (by omega) h31).mp q)
    rw [f_RF_valueSize, pu_br_f (show ¬ nI v = (1 : Int32) from ne 1 c1 (by omega)), pu_br_f (show ¬ nI v = (2 : Int32) from ne 2 c2 (by omega)), tail]
    by_cases c3 : nI v = (3 : Int32)
    · rw [pu_br_t c3]
    rw [pu_br_f c3, pu_br_f (show ¬ nI v = (4 : Int32) from ne 4 c4 (by omega))]
    by_cases c5 : nI v = (5 : Int32)
    · rw [pu_br_t c5]
    rw [pu_br_f c5, pu_br_f (show ¬ nI v = (6 : Int32) from ne 6 c6 (by omega))]
    by_cases c7 : nI v = (7 : Int32)
    · rw [pu_br_t c7]
    rw [pu_br_f c7, pu_br_f (show ¬ nI v = (8 : Int32) from ne 8 c8 (by omega)), pu_br_f (show ¬ nI v = (9 : Int32) from ne 9 c9 (by omega))]
theorem rf_valueSize_m : f_RF_valueSize (-1) = some (-1) := by
  have e82 : q_RF_valueSize_82 (-1) = some (-1) := by rw [q_RF_valueSize_82, q_RF_valueSize_83, pu_br_t rfl]
  rw [f_RF_valueSize, pu_br_f (by decide), pu_br_f (by decide), pu_br_f (by decide), pu_br_f (by decide), pu_br_f (by decide), pu_br_f (by decide), pu_br_f (by decide), pu_br_f (by decide), pu_br_f (by decide), pu_br_t (by decide), e82]
theorem rf_bytesOf {v : Nat} (h : v < 2 ^ 30) : f_MD_bytesOf (nI v) = some (nI (rf_sz v)) := by
  unfold rf_sz
  by_cases c1 : 11 < v
  · rw [if_pos c1, f_MD_bytesOf, pu_br_f (show ¬ nI v ≤ (11 : Int32) from nI_ge (a := 11) c1 (by omega)), show nI v - (12 : Int32) = nI (v - 12) from pk_sub (b := 12) (by omega), show nI (v - 12) / (2 : Int32) = nI ((v - 12) / 2) from pk_div (d := 2) (by omega) (by omega) (by omega)]
  rw [if_neg c1, f_MD_bytesOf, pu_br_t (show nI v ≤ (11 : Int32) from nI_le (b := 11) (by omega) (by omega))]
  by_cases c2 : 7 < v
  · rw [if_pos c2, pu_br_f (show ¬ nI v ≤ (7 : Int32) from nI_ge (a := 7) c2 (by omega))]; rfl
  rw [if_neg c2, pu_br_t (show nI v ≤ (7 : Int32) from nI_le (b := 7) (by omega) (by omega))]
  by_cases c3 : v = 6
  · rw [if_pos c3, pu_br_t (show nI v = (6 : Int32) by rw [c3]; rfl)]; rfl
  · rw [if_neg c3, pu_br_f (show ¬ nI v = (6 : Int32) from fun q => c3 ((nI_eq (b := 6) (by omega) (by omega)).mp q))]
theorem rf_vc_lt {v : Nat} (h : rf_vc v) : v ≤ 212 ∧ rf_sz v ≤ 100 := by
  refine ⟨?_, ?_⟩
  · unfold rf_vc at h; omega
  · unfold rf_sz
    unfold rf_vc at h
    repeat' split
    all_goals omega
/-- the value of a column, class side -/
theorem rf_integer {b codes starts : Nat → Int32} {r : Nat → Nat} {L i cd s : Nat} (hr : ∀ k, r k < 256) (hb : ∀ k, k < L → b k = rf_sx (r k)) (hL : L ≤ 307) (hi : i < 3) (hcd : codes i = nI cd) (hst : starts i = nI s) (hv : rf_vc cd) (hs : s + rf_sz cd ≤ L) :
    f_Rec_integer b codes starts (nI i) = some (if rf_sz cd = 0 then (if cd = 9 then 1 else 0) else rf_vl r s (rf_sz cd)) := by
  have hvl := rf_vc_lt hv
  have i3 : vp_in (nI i) 3 := vp_in_nI hi (by decide)
  have e28 : q_Rec_integer_28 b codes starts (nI i) = some (if cd = 9 then 1 else 0) := by
    rw [q_Rec_integer_28, pu_ck_t i3, nI_clamp (by omega), hcd]
    by_cases e : cd = 9
    · rw [if_pos e, pu_br_t (show nI cd = (9 : Int32) by rw [e]; rfl)]
    · rw [if_neg e, pu_br_f (show ¬ nI cd = (9 : Int32) from fun q => e ((nI_eq (b := 9) (by omega) (by omega)).mp q))]
  rw [f_Rec_integer, pu_ck_t i3, nI_clamp (by omega), hcd, (rf_valueSize (by omega)).1 hv, pu_b1_s]
  by_cases z : rf_sz cd = 0
  · rw [if_pos z, z, pu_br_t (show nI 0 ≤ (0 : Int32) by decide), e28]
  rw [if_neg z, pu_br_f (nI_nle (by omega) (by omega)), pu_ck_t i3, hst, nI_add, pu_br_t (show nI (s + rf_sz cd) ≤ (307 : Int32) from nI_le (b := 307) (by omega) (by omega)), pu_ck_t i3, pu_ck_t (vp_in_nI (by omega) (by decide)), nI_clamp (by omega), hb _ (by omega), pu_nm]
  refine rf_loop (fun f x k => q_Rec_integer_61 b codes starts (nI i) (nI (rf_sz cd)) f x (nI k)) (fun k x => x = rf_vl r s k) (fun q => q = some (rf_vl r s (rf_sz cd))) (rf_sz cd) ?_ ?_ (rf_sz cd - 1) pu_fu (rf_sx (r s)).toInt64 1 (by omega) (by rw [rf_fu]; omega) ?_
  · intro f x h
    show q_Rec_integer_61 b codes starts (nI i) (nI (rf_sz cd)) (f + 1) x (nI (rf_sz cd)) = _
    rw [q_Rec_integer_61, pu_br_t (nI_le (Nat.le_refl _) (by omega)), h]
  · intro f x k hk h
    refine Or.inl ⟨rf_vl r s (k + 1), rfl, ?_⟩
    show q_Rec_integer_61 b codes starts (nI i) (nI (rf_sz cd)) (f + 1) x (nI k) = q_Rec_integer_61 b codes starts (nI i) (nI (rf_sz cd)) f (rf_vl r s (k + 1)) (nI (k + 1))
    rw [q_Rec_integer_61, pu_br_f (nI_ge hk (by omega)), pu_ck_t i3, nI_clamp (n := i) (by omega), hst, nI_add, pu_ck_t (vp_in_nI (by omega) (by decide)), nI_clamp (by omega), hb _ (by omega), rf_sx_and (hr _), h, pu_nm, nI_1, pu_nm, rf_vl]
  · show (rf_sx (r s)).toInt64 = rf_vl r s 1
    rw [rf_vl, rf_vl, Nat.add_zero]
    exact (rf_vl1 (r s) (hr s)).symm
/-- the value of a column, reference side -/
theorem rf_valueAt {rec : Nat → Int32} {r : Nat → Nat} {L s k : Nat} (hr : ∀ k, r k < 256) (hb : ∀ k, k < L → rec k = nI (r k)) (hL : L ≤ 700) (hs : s + k ≤ L) :
    f_MD_valueAt rec (nI s) (nI k) = some (if k = 0 then 0 else rf_vl r s k) := by
  have loop : ∀ x0 : Int64, (k = 0 → x0 = 0) → (k ≠ 0 → x0 = rf_vl r s 0) → q_MD_valueAt_22 rec (nI s) (nI k) x0 = some (if k = 0 then 0 else rf_vl r s k) := by
    intro x0 hx0 hx1
    rw [q_MD_valueAt_22]
    refine rf_loop (fun f x j => q_MD_valueAt_26 rec (nI s) (nI k) f x (nI j)) (fun j x => (k = 0 → x = 0) ∧ (k ≠ 0 → x = rf_vl r s j)) (fun q => q = some (if k = 0 then 0 else rf_vl r s k)) k ?_ ?_ k pu_fu x0 0 (by omega) (by rw [rf_fu]; omega) ⟨hx0, hx1⟩
    · intro f x h
      show q_MD_valueAt_26 rec (nI s) (nI k) (f + 1) x (nI k) = _
      rw [q_MD_valueAt_26, pu_br_t (nI_le (Nat.le_refl _) (by omega))]
      by_cases e : k = 0
      · rw [if_pos e, h.1 e]
      · rw [if_neg e, h.2 e]
    · intro f x j hj h
      refine Or.inl ⟨rf_vl r s (j + 1), ⟨fun e => by omega, fun _ => rfl⟩, ?_⟩
      show q_MD_valueAt_26 rec (nI s) (nI k) (f + 1) x (nI j) = q_MD_valueAt_26 rec (nI s) (nI k) f (rf_vl r s (j + 1)) (nI (j + 1))
      rw [q_MD_valueAt_26, pu_br_f (nI_ge hj (by omega)), nI_add, pu_ck_t (vp_in_nI (by omega) (by decide)), nI_clamp (by omega), hb _ (by omega), h.2 (by omega), pu_nm, nI_1, pu_nm, rf_vl]
  rw [f_MD_valueAt]
  by_cases e : k = 0
  · rw [pu_br_t (show nI k ≤ (0 : Int32) by rw [e]; decide), q_MD_valueAt_21]
    exact loop 0 (fun _ => rfl) (fun q => absurd e q)
  · rw [pu_br_f (nI_nle (by omega) (by omega)), pu_ck_t (vp_in_nI (by omega) (by decide)), nI_clamp (by omega), hb _ (by omega)]
    have hrs := hr s
    by_cases e2 : 127 < r s
    · rw [pu_br_f (show ¬ nI (r s) ≤ (127 : Int32) from nI_ge (a := 127) e2 (by omega))]
      exact loop (-1) (fun q => absurd q e) (fun _ => by rw [rf_vl, if_pos e2])
    · rw [pu_br_t (show nI (r s) ≤ (127 : Int32) from nI_le (b := 127) (by omega) (by omega)), q_MD_valueAt_21]
      exact loop 0 (fun _ => rfl) (fun _ => by rw [rf_vl, if_neg e2])
/-- a beginning of codes, and how it is the only one -/
def rf_pf (r : Nat → Nat) (h : Nat) (cd z : Nat → Nat) (m : Nat) : Prop := ∀ j, j < m → rf_rd r (1 + rf_su z j) h = some (cd j, z j) ∧ rf_vc (cd j)
theorem rf_pf_uniq {r : Nat → Nat} {h : Nat} {cd z cd' z' : Nat → Nat} {m m' : Nat} (h1 : rf_pf r h cd z m) (h2 : rf_pf r h cd' z' m') : ∀ j, j ≤ m → j ≤ m' → rf_su z j = rf_su z' j ∧ ∀ i, i < j → cd i = cd' i ∧ z i = z' i
  | 0, _, _ => ⟨rfl, fun i hi => by omega⟩
  | j + 1, hj, hj' => by
    obtain ⟨a1, a2⟩ := rf_pf_uniq h1 h2 j (by omega) (by omega)
    have e1 := (h1 j (by omega)).1
    have e2 := (h2 j (by omega)).1
    rw [a1, e2] at e1
    have e3 : (cd' j, z' j) = (cd j, z j) := Option.some.inj e1
    have e4 : cd' j = cd j := congrArg Prod.fst e3
    have e5 : z' j = z j := congrArg Prod.snd e3
    refine ⟨by rw [rf_su, rf_su, a1, e5], fun i hi => ?_⟩
    by_cases e : i = j
    · subst e; exact ⟨e4.symm, e5.symm⟩
    · exact a2 i (by omega)
/-- the values -/
def rf_vf (r : Nat → Nat) (h L : Nat) (cd : Nat → Nat) (j : Nat) : Prop := h + rf_su (fun i => rf_sz (cd i)) (j + 1) ≤ L ∧ (rf_sz (cd j) ≠ 0 → cd j < 12 → rf_cd (rf_vl r (h + rf_su (fun i => rf_sz (cd i)) j) (rf_sz (cd j))) = cd j)
theorem rf_wq_iff {r : Nat → Nat} {L m : Nat} {cd z : Nat → Nat} : rf_wq r L m cd z ↔ 1 ≤ m ∧ m ≤ 3 ∧ rf_pf r (r 0) cd z m ∧ (∀ j, j < m → rf_vf r (r 0) L cd j) ∧ 1 + rf_su z m = r 0 ∧ r 0 + rf_su (fun i => rf_sz (cd i)) m = L := by
  constructor
  · rintro ⟨h1, h2, h3, h4, h5⟩
    refine ⟨h1, h2, fun j hj => ⟨(h3 j hj).1, (h3 j hj).2.1⟩, fun j hj => ⟨?_, (h3 j hj).2.2⟩, h4, h5⟩
    have := rf_su_le_of (f := fun i => rf_sz (cd i)) (m := j + 1) (m' := m) (by omega)
    omega
  · rintro ⟨h1, h2, h3, h4, h5, h6⟩
    exact ⟨h1, h2, fun j hj => ⟨(h3 j hj).1, (h3 j hj).2, (h4 j hj).2⟩, h5, h6⟩
/-- a record that is as it must be has no other codes than these -/
theorem rf_wq_uniq {r : Nat → Nat} (hr : ∀ k, r k < 256) {L m m' : Nat} {cd z cd' z' : Nat → Nat} (h : rf_wq r L m cd z) (h2 : rf_pf r (r 0) cd' z' m') : m' ≤ m ∧ rf_su z' m' = rf_su z m' ∧ ∀ i, i < m' → cd' i = cd i ∧ z' i = z i := by
  obtain ⟨w1, w2, w3, w4, w5, w6⟩ := rf_wq_iff.mp h
  have hle : m' ≤ m := by
    by_cases e : m' ≤ m
    · exact e
    · have u := rf_pf_uniq w3 h2 m (Nat.le_refl _) (by omega)
      have e1 := (h2 m (by omega)).1
      have := rf_rd_lt hr e1
      rw [← u.1] at this
      omega
  have u := rf_pf_uniq h2 w3 m' (Nat.le_refl _) hle
  exact ⟨hle, u.1, u.2⟩
end RFVV
