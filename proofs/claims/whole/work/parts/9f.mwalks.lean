section RFMW
variable {n R : Nat → Nat} {c p : Nat} {arr : Nat → Int32}
theorem rf_mzeros {mn : Nat → Int32} (hn : rf_bt n) (hmn : rf_md mn n) (h2 : p ≤ 24) (kx : Option (Int32 × (Nat → Int32))) (x1 : Int32) (od : Int32) (used : Nat → Int32) : (rf_zr n p 1 → q_MD_wellFree_26 kx od mn used x1 (nI p) pu_fu 1 = kx) ∧ (¬ rf_zr n p 1 → q_MD_wellFree_26 kx od mn used x1 (nI p) pu_fu 1 = some (0, used)) := by
  have e0 : (64 : Int32) * nI p = nI (64 * p) := pk_mul 64 p
  have key : ∀ m i fu, i + m = 64 → m < fu → 1 ≤ i → (∀ a, 1 ≤ a → a < i → n (64 * p + a) = 0) → (rf_zr n p 1 → q_MD_wellFree_26 kx od mn used x1 (nI p) fu (nI i) = kx) ∧ (¬ rf_zr n p 1 → q_MD_wellFree_26 kx od mn used x1 (nI p) fu (nI i) = some (0, used)) := by
    intro m
    induction m with
    | zero =>
      intro i fu hi hf hs h
      obtain ⟨fu, rfl⟩ : ∃ f, fu = f + 1 := ⟨fu - 1, by omega⟩
      have z : rf_zr n p 1 := fun a h1 h2 => h a h1 (by omega)
      refine ⟨fun _ => ?_, fun q => absurd z q⟩
      rw [q_MD_wellFree_26, pu_br_t (show (64 : Int32) ≤ nI i from nI_le (a := 64) (by omega) (by omega))]
    | succ m ih =>
      intro i fu hi hf hs h
      obtain ⟨fu, rfl⟩ : ∃ f, fu = f + 1 := ⟨fu - 1, by omega⟩
      rw [q_MD_wellFree_26, pu_br_f (show ¬ (64 : Int32) ≤ nI i from nI_ge (b := 64) (by omega) (by omega)), e0, nI_add, pu_ck_t (vp_in_nI (by omega) (by decide)), nI_clamp (by omega), hmn _ (by omega)]
      by_cases e : n (64 * p + i) = 0
      · rw [e, pu_br_t (show nI 0 = (0 : Int32) from rfl), nI_1, pu_nm]
        exact ih (i + 1) fu (by omega) (by omega) (by omega) (fun a a1 a2 => by
          by_cases e2 : a = i
          · rw [e2]; exact e
          · exact h a a1 (by omega))
      · have := hn (64 * p + i)
        rw [pu_br_f (nI_ne0 (by omega) (by omega))]
        exact ⟨fun q => absurd (q i hs (by omega)) e, fun _ => rfl⟩
  exact key 63 1 pu_fu (by omega) (by rw [rf_fu]; omega) (Nat.le_refl _) (fun a a1 a2 => by omega)
theorem rf_su_ad (h24 : p ≤ 24) : rf_su (rf_ad R p) 25 = rf_su R 25 + 1 := by
  have : rf_su (rf_ad R p) 25 = rf_su (fun q => R q + (if p = q then 1 else 0)) 25 := rfl
  rw [this, rf_su_add, rf_su_one, if_pos (by omega)]
theorem rf_se_23 (h : rf_se arr R) : rf_su R 25 ≤ 23 := rf_su25 h.1 (fun q hq => (h.2.1 q hq).1)
/-- the reference walks the free list -/
theorem rf_wfree_go {mn : Nat → Int32} (hn : rf_bt n) (hmn : rf_md mn n) (hc : c ≤ 24) : ∀ μ fu (p cnt : Nat) (R : Nat → Nat) (arr : Nat → Int32), rf_su R 25 + μ = 24 → μ < fu → p < 256 → cnt + μ ≤ 100 → rf_se arr R →
    ∃ arr', q_MD_wellFree_10 (fun v_used x_1 => q_MD_wellFree_70 (nI c) mn v_used x_1) (nI c) mn fu arr (nI cnt) (nI p) = some (nI (rf_dv (∃ j, cnt + j = n 67 ∧ rf_wk n c (fun _ => 1) j cnt p R)), arr') ∧ ∀ j, cnt + j = n 67 → rf_wk n c (fun _ => 1) j cnt p R → rf_se arr' (rf_wks n j p R) := by
  intro μ
  induction μ with
  | zero => intro fu p cnt R arr h _ _ _ hs; have := rf_se_23 hs; omega
  | succ μ ih =>
    intro fu p cnt R arr hμ hf hp hcnt hs
    obtain ⟨fu, rfl⟩ : ∃ f, fu = f + 1 := ⟨fu - 1, by omega⟩
    have b7 := hn 67
    by_cases e0 : p = 0
    · refine ⟨arr, ?_, fun j hj hw => ?_⟩
      · have c67 : (67 : Int32).toNatClampNeg = 67 := by decide
        have i67 : vp_in (67 : Int32) 1600 := vp_in_nI (n := 67) (by omega) (by decide)
        rw [q_MD_wellFree_10, e0, pu_br_t (show nI 0 = (0 : Int32) from rfl), q_MD_wellFree_70, pu_ck_t i67, c67, hmn 67 (by omega)]
        by_cases e : cnt = n 67
        · rw [pu_br_t (by rw [e]), rf_dv_t ⟨0, by omega, rfl⟩]; rfl
        · rw [pu_br_f (fun q => e ((nI_eq (by omega) (by omega)).mp q)), rf_dv_f]
          · rfl
          · rintro ⟨j, j1, j2⟩
            cases j with
            | zero => omega
            | succ j => have := j2.1; omega
      · cases j with
        | zero => exact hs
        | succ j => have := hw.1; omega
    · rw [q_MD_wellFree_10, pu_br_f (nI_ne0 (by omega) (by omega))]
      by_cases e : 2 ≤ p ∧ p ≤ c ∧ R p = 0
      · rw [(rf_meet hs hc (by omega)).1 e, pu_b2_s, pu_br_f (by decide)]
        have z := rf_mzeros hn hmn (show p ≤ 24 by omega) (q_MD_wellFree_54 (q_MD_wellFree_10 (fun v_used x_1 => q_MD_wellFree_70 (nI c) mn v_used x_1) (nI c) mn fu) (fun v_used x_1 => q_MD_wellFree_70 (nI c) mn v_used x_1) (nI c) mn (upd arr p 1) (nI cnt) (nI p)) (nI cnt) (nI c) (upd arr p 1)
        by_cases ez : rf_zr n p 1
        · obtain ⟨arr', q1, q2⟩ := ih fu (n (64 * p)) (cnt + 1) (rf_ad R p) (upd arr p 1) (by rw [rf_su_ad (by omega)]; omega) (by omega) (hn _) (by omega) (rf_se_ad hs e.2.2 e.1 (by omega))
          have st : ∀ j, rf_wk n c (fun _ => 1) (j + 1) cnt p R ↔ rf_wk n c (fun _ => 1) j (cnt + 1) (n (64 * p)) (rf_ad R p) := fun j => ⟨fun h => h.2.2.2.2, fun h => ⟨e.1, e.2.1, e.2.2, ez, h⟩⟩
          have iff : (∃ j, cnt + j = n 67 ∧ rf_wk n c (fun _ => 1) j cnt p R) ↔ ∃ j, cnt + 1 + j = n 67 ∧ rf_wk n c (fun _ => 1) j (cnt + 1) (n (64 * p)) (rf_ad R p) := by
            constructor
            · rintro ⟨j, j1, j2⟩
              cases j with
              | zero => exact absurd j2 e0
              | succ j => exact ⟨j, by omega, (st j).mp j2⟩
            · rintro ⟨j, j1, j2⟩
              exact ⟨j + 1, by omega, (st j).mpr j2⟩
          refine ⟨arr', ?_, fun j hj hw => ?_⟩
          · rw [z.1 ez, q_MD_wellFree_54, nI_1, pu_nm, show (64 : Int32) * nI p = nI (64 * p) from pk_mul 64 p, pu_ck_t (vp_in_nI (by omega) (by decide)), nI_clamp (by omega), hmn _ (by omega), pu_nm, q1, rf_dv_congr iff]
          · cases j with
            | zero => exact absurd hw e0
            | succ j => exact q2 j (by omega) ((st j).mp hw)
        · refine ⟨upd arr p 1, ?_, fun j hj hw => ?_⟩
          · rw [z.2 ez, rf_dv_f]
            · rfl
            · rintro ⟨j, j1, j2⟩
              cases j with
              | zero => exact e0 j2
              | succ j => exact ez j2.2.2.2.1
          · cases j with
            | zero => exact absurd hw e0
            | succ j => exact absurd hw.2.2.2.1 ez
      · refine ⟨arr, ?_, fun j hj hw => ?_⟩
        · rw [(rf_meet hs hc (by omega)).2 e, pu_b2_s, pu_br_t rfl, rf_dv_f]
          · rfl
          · rintro ⟨j, j1, j2⟩
            cases j with
            | zero => exact e0 j2
            | succ j => exact e ⟨j2.1, j2.2.1, j2.2.2.1⟩
        · cases j with
          | zero => exact absurd hw e0
          | succ j => exact absurd ⟨hw.1, hw.2.1, hw.2.2.1⟩ e
theorem rf_wellFree {mn : Nat → Int32} (hn : rf_bt n) (hmn : rf_md mn n) (hc : c ≤ 24) (hs : rf_se arr R) : ∃ arr', f_MD_wellFree (nI c) mn arr = some (nI (rf_dv (rf_wk n c (fun _ => 1) (n 67) 0 (n 66) R)), arr') ∧ (rf_wk n c (fun _ => 1) (n 67) 0 (n 66) R → rf_se arr' (rf_wks n (n 67) (n 66) R)) := by
  have h23 := rf_se_23 hs
  obtain ⟨arr', q1, q2⟩ := rf_wfree_go hn hmn hc (24 - rf_su R 25) pu_fu (n 66) 0 R arr (by omega) (by rw [rf_fu]; omega) (hn _) (by omega) hs
  have iff : (∃ j, 0 + j = n 67 ∧ rf_wk n c (fun _ => 1) j 0 (n 66) R) ↔ rf_wk n c (fun _ => 1) (n 67) 0 (n 66) R := by
    constructor
    · rintro ⟨j, j1, j2⟩
      rw [Nat.zero_add] at j1
      rw [← j1]; exact j2
    · intro h; exact ⟨n 67, by omega, h⟩
  refine ⟨arr', ?_, fun h => q2 (n 67) (by omega) h⟩
  have c66 : (66 : Int32).toNatClampNeg = 66 := by decide
  have i66 : vp_in (66 : Int32) 1600 := vp_in_nI (n := 66) (by omega) (by decide)
  rw [f_MD_wellFree, pu_ck_t i66, c66, hmn 66 (by omega), pu_nm, ← rf_dv_congr iff, ← q1]
  rfl
/-- the first page -/
def rf_F1 (n : Nat → Nat) (c : Nat) : Prop := n 64 = 83 ∧ n 65 = c ∧ rf_zr n 1 7
theorem rf_firstPage {b : Nat → Int32} (hn : rf_bt n) (hb : rf_pg b n) (h1 : 1 ≤ c) (hc : c ≤ 24) : f_Check_firstPageHolds (nI c) b = some (nI (rf_dv (rf_F1 n c))) := by
  have g0 := rf_get hn hb (c := c) (p := 1) (a := 0) hc (by omega) (by omega)
  have g1 := rf_get hn hb (c := c) (p := 1) (a := 1) hc (by omega) (by omega)
  rw [rf_gb_at (by omega) h1 (by omega)] at g0 g1
  have z := rf_zeros hn hb hc (Nat.le_refl 1) h1 (s := 7) (by omega)
  have b4 := hn 64
  have b5 := hn 65
  rw [f_Check_firstPageHolds, show (1 : Int32) = nI 1 from rfl, show (0 : Int32) = nI 0 from rfl, g0, pu_b1_s]
  by_cases e0 : n 64 = 83
  · rw [pu_br_t (show nI (n (64 * 1 + 0)) = (83 : Int32) by rw [show 64 * 1 + 0 = 64 from rfl, e0]; rfl), g1, pu_b1_s]
    by_cases e1 : n 65 = c
    · rw [pu_br_t (show nI (n (64 * 1 + 1)) = nI c by rw [show 64 * 1 + 1 = 65 from rfl, e1]), show (7 : Int32) = nI 7 from rfl, z, pu_b1_s]
      by_cases e2 : rf_zr n 1 7
      · rw [rf_dv_t e2, pu_br_f (by decide), rf_dv_t ⟨e0, e1, e2⟩]
      · rw [rf_dv_f e2, pu_br_t rfl, rf_dv_f (fun h => e2 h.2.2)]
    · rw [pu_br_f (fun q => e1 ((nI_eq (a := n (64 * 1 + 1)) (show n 65 < 2 ^ 31 by omega) (by omega)).mp q)), rf_dv_f (fun h => e1 h.2.1)]
  · rw [pu_br_f (show ¬ nI (n (64 * 1 + 0)) = (83 : Int32) from fun q => e0 ((nI_eq (a := n 64) (b := 83) (by omega) (by omega)).mp q)), rf_dv_f (fun h => e0 h.1)]
theorem rf_wellFirst {mn : Nat → Int32} (hn : rf_bt n) (hmn : rf_md mn n) (hc : c ≤ 24) : f_MD_wellFirst (nI c) mn = some (nI (rf_dv (rf_F1 n c))) := by
  have b4 := hn 64
  have b5 := hn 65
  -- once no, always no
  have no : ∀ m i fu, i + m = 64 → m < fu → q_MD_wellFirst_35 (nI c) mn fu 0 (nI i) = some 0 := by
    intro m
    induction m with
    | zero =>
      intro i fu hi hf
      obtain ⟨fu, rfl⟩ : ∃ f, fu = f + 1 := ⟨fu - 1, by omega⟩
      rw [q_MD_wellFirst_35, pu_br_t (show (64 : Int32) ≤ nI i from nI_le (a := 64) (by omega) (by omega)), pu_ck_t pu_bz0]
    | succ m ih =>
      intro i fu hi hf
      obtain ⟨fu, rfl⟩ : ∃ f, fu = f + 1 := ⟨fu - 1, by omega⟩
      rw [q_MD_wellFirst_35, pu_br_f (show ¬ (64 : Int32) ≤ nI i from nI_ge (b := 64) (by omega) (by omega)), pu_br_t rfl, q_MD_wellFirst_61, q_MD_wellFirst_62, nI_1, pu_nm]
      exact ih (i + 1) fu (by omega) (by omega)
  have yes : ∀ m i fu, i + m = 64 → m < fu → 7 ≤ i → (∀ a, 7 ≤ a → a < i → n (64 * 1 + a) = 0) → q_MD_wellFirst_35 (nI c) mn fu 1 (nI i) = some (nI (rf_dv (rf_zr n 1 7))) := by
    intro m
    induction m with
    | zero =>
      intro i fu hi hf h7 h
      obtain ⟨fu, rfl⟩ : ∃ f, fu = f + 1 := ⟨fu - 1, by omega⟩
      rw [q_MD_wellFirst_35, pu_br_t (show (64 : Int32) ≤ nI i from nI_le (a := 64) (by omega) (by omega)), pu_ck_t pu_bz1, rf_dv_t (show rf_zr n 1 7 from fun a a1 a2 => h a a1 (by omega))]
      rfl
    | succ m ih =>
      intro i fu hi hf h7 h
      obtain ⟨fu, rfl⟩ : ∃ f, fu = f + 1 := ⟨fu - 1, by omega⟩
      rw [q_MD_wellFirst_35, pu_br_f (show ¬ (64 : Int32) ≤ nI i from nI_ge (b := 64) (by omega) (by omega)), pu_br_f (by decide), show (64 : Int32) + nI i = nI (64 + i) from nI_add 64 _, pu_ck_t (vp_in_nI (by omega) (by decide)), nI_clamp (by omega), hmn _ (by omega)]
      by_cases e : n (64 + i) = 0
      · rw [e, pu_br_t (show nI 0 = (0 : Int32) from rfl), q_MD_wellFirst_62, nI_1, pu_nm]
        exact ih (i + 1) fu (by omega) (by omega) (by omega) (fun a a1 a2 => by
          by_cases e2 : a = i
          · rw [e2]; exact e
          · exact h a a1 (by omega))
      · have := hn (64 + i)
        rw [pu_br_f (nI_ne0 (by omega) (by omega)), q_MD_wellFirst_61, q_MD_wellFirst_62, nI_1, pu_nm, no m (i + 1) fu (by omega) (by omega), rf_dv_f (fun q => e (q i h7 (by omega)))]
        rfl
  have no0 := no 57 7 pu_fu (by omega) (by rw [rf_fu]; omega)
  have yes0 := yes 57 7 pu_fu (by omega) (by rw [rf_fu]; omega) (Nat.le_refl _) (fun a a1 a2 => by omega)
  rw [show nI 7 = (7 : Int32) from rfl] at no0 yes0
  have c64 : (64 : Int32).toNatClampNeg = 64 := by decide
  have c65 : (65 : Int32).toNatClampNeg = 65 := by decide
  have i64 : vp_in (64 : Int32) 1600 := vp_in_nI (n := 64) (by omega) (by decide)
  have i65 : vp_in (65 : Int32) 1600 := vp_in_nI (n := 65) (by omega) (by decide)
  rw [f_MD_wellFirst, pu_ck_t i64, c64, hmn 64 (by omega)]
  by_cases e0 : n 64 = 83
  · rw [pu_br_t (show nI (n 64) = (83 : Int32) by rw [e0]; rfl), pu_ck_t i65, c65, hmn 65 (by omega)]
    by_cases e1 : n 65 = c
    · rw [pu_br_t (by rw [e1]), q_MD_wellFirst_31, yes0]
      exact congrArg some (congrArg nI (rf_dv_congr ⟨fun h => ⟨e0, e1, h⟩, fun h => h.2.2⟩))
    · rw [pu_br_f (fun q => e1 ((nI_eq (by omega) (by omega)).mp q)), q_MD_wellFirst_30, q_MD_wellFirst_31, no0, rf_dv_f (fun h => e1 h.2.1)]
      rfl
  · rw [pu_br_f (show ¬ nI (n 64) = (83 : Int32) from fun q => e0 ((nI_eq (a := n 64) (b := 83) (by omega) (by omega)).mp q)), q_MD_wellFirst_30, q_MD_wellFirst_31, no0, rf_dv_f (fun h => e0 h.1)]
    rfl
/-- every page met -/
theorem rf_allReached (hs : rf_se arr R) (hc : c ≤ 24) : f_Check_allReached (nI c) arr = some (nI (rf_dv (∀ q, 2 ≤ q → q ≤ c → R q = 1))) := by
  have key : ∀ m i fu, i + m = 25 → m < fu → 2 ≤ i → (∀ q, 2 ≤ q → q < i → q ≤ c → R q = 1) → q_Check_allReached_2 (nI c) arr fu (nI i) = some (nI (rf_dv (∀ q, 2 ≤ q → q ≤ c → R q = 1))) := by
    intro m
    induction m with
    | zero =>
      intro i fu hi hf h2 h
      obtain ⟨fu, rfl⟩ : ∃ f, fu = f + 1 := ⟨fu - 1, by omega⟩
      rw [q_Check_allReached_2, pu_br_t (show (24 : Int32) < nI i from nI_lt (a := 24) (by omega) (by omega)), rf_dv_t (fun q q1 q2 => h q q1 (by omega) q2)]
      rfl
    | succ m ih =>
      intro i fu hi hf h2 h
      obtain ⟨fu, rfl⟩ : ∃ f, fu = f + 1 := ⟨fu - 1, by omega⟩
      rw [q_Check_allReached_2, pu_br_f (show ¬ (24 : Int32) < nI i from nI_nlt (a := 24) (by omega) (by omega))]
      by_cases e : c < i
      · rw [pu_br_t (nI_lt e (by omega)), q_Check_allReached_30, nI_1, pu_nm]
        exact ih (i + 1) fu (by omega) (by omega) (by omega) (fun q q1 q2 q3 => h q q1 (by omega) q3)
      · rw [pu_br_f (nI_nlt (by omega) (by omega)), pu_ck_t (vp_in_nI (by omega) (by decide)), nI_clamp (by omega), hs.2.2 i (by omega)]
        have r1 := hs.1 i
        by_cases e2 : R i = 0
        · rw [e2, pu_br_t (show nI 0 = (0 : Int32) from rfl), rf_dv_f (fun q => by have := q i h2 (by omega); omega)]
          rfl
        · rw [pu_br_f (nI_ne0 (by omega) (by omega)), q_Check_allReached_30, nI_1, pu_nm]
          exact ih (i + 1) fu (by omega) (by omega) (by omega) (fun q q1 q2 q3 => by
            by_cases e3 : q = i
            · subst e3; omega
            · exact h q q1 (by omega) q3)
  exact key 23 2 pu_fu (by omega) (by rw [rf_fu]; omega) (Nat.le_refl _) (fun q q1 q2 => by omega)
theorem rf_mall (hs : rf_se arr R) (hc : c ≤ 24) (kx : Option (Int32 × Int32 × Int32 × Int32 × Int32 × Int32 × Int32 × Int32 × (Nat → Int32) × (Nat → Int32) × (Nat → Int32) × (Nat → Int32) × (Nat → Int32) × (Nat → Int32))) (hp rs : Int32) (rp rb : Nat → Int32) (hd up len deep at' bad : Int32) (now disk rec way turn : Nat → Int32) (x1 : Int32) :
    ((∀ q, 2 ≤ q → q ≤ c → R q = 1) → q_MD_open_143 kx hp rs rp rb (nI c) hd up len deep at' bad now disk rec way turn arr x1 pu_fu 2 = kx) ∧ (¬ (∀ q, 2 ≤ q → q ≤ c → R q = 1) → q_MD_open_143 kx hp rs rp rb (nI c) hd up len deep at' bad now disk rec way turn arr x1 pu_fu 2 = some (-1, nI c, hd, up, len, deep, at', bad, now, disk, rec, way, turn, arr)) := by
  have key : ∀ m i fu, i + m = 26 → m < fu → 2 ≤ i → i ≤ c + 1 → (∀ q, 2 ≤ q → q < i → R q = 1) → ((∀ q, 2 ≤ q → q ≤ c → R q = 1) → q_MD_open_143 kx hp rs rp rb (nI c) hd up len deep at' bad now disk rec way turn arr x1 fu (nI i) = kx) ∧ (¬ (∀ q, 2 ≤ q → q ≤ c → R q = 1) → q_MD_open_143 kx hp rs rp rb (nI c) hd up len deep at' bad now disk rec way turn arr x1 fu (nI i) = some (-1, nI c, hd, up, len, deep, at', bad, now, disk, rec, way, turn, arr)) := by
    intro m
    induction m with
    | zero => intro i fu hi hf h2 hc1 h; omega
    | succ m ih =>
      intro i fu hi hf h2 hc1 h
      obtain ⟨fu, rfl⟩ : ∃ f, fu = f + 1 := ⟨fu - 1, by omega⟩
      rw [q_MD_open_143]
      by_cases e : c < i
      · rw [pu_br_t (nI_lt e (by omega))]
        exact ⟨fun _ => rfl, fun q => absurd (fun q' q1 q2 => h q' q1 (by omega)) q⟩
      · rw [pu_br_f (nI_nlt (by omega) (by omega)), pu_ck_t (vp_in_nI (by omega) (by decide)), nI_clamp (by omega), hs.2.2 i (by omega)]
        have r1 := hs.1 i
        by_cases e2 : R i = 0
        · rw [e2, pu_br_t (show nI 0 = (0 : Int32) from rfl)]
          exact ⟨fun q => by have := q i h2 (by omega); omega, fun _ => rfl⟩
        · rw [pu_br_f (nI_ne0 (by omega) (by omega)), nI_1, pu_nm]
          exact ih (i + 1) fu (by omega) (by omega) (by omega) (by omega) (fun q q1 q2 => by
            by_cases e3 : q = i
            · subst e3; omega
            · exact h q q1 (by omega))
  by_cases c2 : 1 ≤ c
  · exact key 24 2 pu_fu (by omega) (by rw [rf_fu]; omega) (Nat.le_refl _) (by omega) (fun q q1 q2 => by omega)
  · have : q_MD_open_143 kx hp rs rp rb (nI c) hd up len deep at' bad now disk rec way turn arr x1 pu_fu 2 = kx := by
      rw [show pu_fu = 1999 + 1 from rfl, q_MD_open_143, pu_br_t (show nI c < (2 : Int32) from nI_lt (b := 2) (by omega) (by omega))]
    exact ⟨fun _ => this, fun q => absurd (fun q' q1 q2 => by omega) q⟩
theorem rf_st_le2 {g : Nat → Nat} {M : Nat} : ∀ i, (∀ j, j < i → rf_c1 g M j) → rf_st g i ≤ 64
  | 0, _ => Nat.le_refl _
  | i + 1, h => by
    have := rf_st_le2 i (fun j hj => h j (by omega))
    have := (h i (by omega)).1
    omega
/-- a page of the tree, laid as it must be -/
def rf_ne (n : Nat → Nat) (c p : Nat) : Prop := rf_gb n c p 1 = 0 → rf_gb n c p 0 = 13 ∧ p = n 70
theorem rf_wellLaid {mn : Nat → Int32} (hn : rf_bt n) (hmn : rf_md mn n) (h1 : 1 ≤ p) (h2 : p ≤ c) (hc : c ≤ 24) : f_MD_wellLaid mn (nI p) = some (nI (rf_dv (rf_lay (rf_gb n c p) ∧ rf_ne n c p))) := by
  have e0 : (64 : Int32) * nI p = nI (64 * p) := pk_mul 64 p
  have hat : ∀ a, a < 64 → mn (64 * p + a) = nI (rf_gb n c p a) := fun a ha => by rw [rf_gb_at h1 h2 ha]; exact hmn _ (by omega)
  have hat0 : mn (64 * p) = nI (rf_gb n c p 0) := hat 0 (by omega)
  have hgl : ∀ a, rf_gb n c p a < 256 := rf_gb_lt hn c p
  unfold rf_ne
  have rt : f_MD_root mn = some (nI (n 70)) := rf_mroot hmn
  have b70 := hn 70
  generalize rf_gb n c p = g at *
  -- behind the cells
  have tail : ∀ e, e ≤ 64 → ∀ m i fu, i + m = 64 → m < fu → 4 + g 1 ≤ i → (∀ a, 4 + g 1 ≤ a → a < i → a < e → g a = 0) → ∃ r, q_MD_wellLaid_136 (q_MD_wellLaid_166 mn (nI p) (nI (g 0)) (nI (g 1))) mn (nI p) (nI (g 0)) (nI (g 1)) (nI e) fu (nI i) = r ∧ ((∀ a, 4 + g 1 ≤ a → a < e → g a = 0) → r = q_MD_wellLaid_166 mn (nI p) (nI (g 0)) (nI (g 1))) ∧ (¬ (∀ a, 4 + g 1 ≤ a → a < e → g a = 0) → r = some 0) := by
    intro e he m
    induction m with
    | zero =>
      intro i fu hi hf h4 h
      obtain ⟨fu, rfl⟩ : ∃ f, fu = f + 1 := ⟨fu - 1, by omega⟩
      refine ⟨_, rfl, fun _ => ?_, fun q => absurd (fun a a1 a2 => h a a1 (by omega) a2) q⟩
      rw [q_MD_wellLaid_136, pu_br_t (nI_le (by omega) (by omega))]
    | succ m ih =>
      intro i fu hi hf h4 h
      obtain ⟨fu, rfl⟩ : ∃ f, fu = f + 1 := ⟨fu - 1, by omega⟩
      by_cases c1 : e ≤ i
      · refine ⟨_, rfl, fun _ => ?_, fun q => absurd (fun a a1 a2 => h a a1 (by omega) a2) q⟩
        rw [q_MD_wellLaid_136, pu_br_t (nI_le c1 (by omega))]
      · have gi := hgl i
        by_cases c2 : g i = 0
        · obtain ⟨r, r1, r2, r3⟩ := ih (i + 1) fu (by omega) (by omega) (by omega) (fun a a1 a2 a3 => by
            by_cases e2 : a = i
            · rw [e2]; exact c2
            · exact h a a1 (by omega) a3)
          refine ⟨r, ?_, r2, r3⟩
          rw [q_MD_wellLaid_136, pu_br_f (nI_ge (by omega) (by omega)), e0, nI_add, pu_ck_t (vp_in_nI (by omega) (by decide)), nI_clamp (by omega), hat i (by omega), c2, pu_br_t (show nI 0 = (0 : Int32) from rfl), nI_1, pu_nm, r1]
        · refine ⟨_, rfl, fun q => absurd (q i h4 (by omega)) c2, fun _ => ?_⟩
          rw [q_MD_wellLaid_136, pu_br_f (nI_ge (by omega) (by omega)), e0, nI_add, pu_ck_t (vp_in_nI (by omega) (by decide)), nI_clamp (by omega), hat i (by omega), pu_br_f (nI_ne0 (by omega) (by omega))]
  have last : q_MD_wellLaid_166 mn (nI p) (nI (g 0)) (nI (g 1)) = some (nI (rf_dv (g 1 = 0 → g 0 = 13 ∧ p = n 70))) := by
    have g0 := hgl 0
    have g1 := hgl 1
    rw [q_MD_wellLaid_166]
    by_cases c1 : g 1 = 0
    · rw [c1, pu_br_f (by decide)]
      by_cases c2 : g 0 = 13
      · rw [c2, pu_br_t (show nI 13 = (13 : Int32) from rfl), rt, pu_b1_s]
        by_cases c3 : p = n 70
        · rw [pu_br_t (by rw [c3]), rf_dv_t (fun _ => ⟨rfl, c3⟩)]; rfl
        · rw [pu_br_f (fun q => c3 ((nI_eq (by omega) (by omega)).mp q)), rf_dv_f (fun q => c3 (q rfl).2)]; rfl
      · rw [pu_br_f (show ¬ nI (g 0) = (13 : Int32) from fun q => c2 ((nI_eq (b := 13) (by omega) (by omega)).mp q)), rf_dv_f (fun q => c2 (q rfl).1)]; rfl
    · rw [pu_br_t (show (0 : Int32) < nI (g 1) from nI_lt (a := 0) (by omega) (by omega)), rf_dv_t (fun q => absurd q c1)]; rfl
  -- the cells' places
  have places : g 1 ≤ 30 → ∀ m i fu, i + m = g 1 → m < fu → (∀ j, j < i → rf_c1 g (g 1) j) → ∃ r, q_MD_wellLaid_82 (fun x_4 => q_MD_wellLaid_131 mn (nI p) (nI (g 0)) (nI (g 1)) x_4) mn (nI p) (nI (g 0)) (nI (g 1)) fu (nI (rf_st g i)) (nI i) = r ∧ (rf_lc g (g 1) → r = some (nI (rf_dv (g 1 = 0 → g 0 = 13 ∧ p = n 70)))) ∧ (¬ rf_lc g (g 1) → r = some 0) := by
    intro h30 m
    induction m with
    | zero =>
      intro i fu hi hf h
      obtain ⟨fu, rfl⟩ : ∃ f, fu = f + 1 := ⟨fu - 1, by omega⟩
      have ei : i = g 1 := by omega
      subst ei
      have hst : rf_st g (g 1) ≤ 64 := rf_st_le h _ (Nat.le_refl _)
      obtain ⟨r, r1, r2, r3⟩ := tail (rf_st g (g 1)) hst (64 - (4 + g 1)) (4 + g 1) pu_fu (by omega) (by rw [rf_fu]; omega) (Nat.le_refl _) (fun a a1 a2 => by omega)
      refine ⟨r, ?_, fun q => ?_, fun q => r3 (fun z => q ⟨h, z⟩)⟩
      · rw [q_MD_wellLaid_82, pu_br_t (nI_le (Nat.le_refl _) (by omega)), q_MD_wellLaid_131, show (4 : Int32) + nI (g 1) = nI (4 + g 1) from nI_add 4 _, r1]
      · rw [r2 q.2, last]
    | succ m ih =>
      intro i fu hi hf h
      obtain ⟨fu, rfl⟩ : ∃ f, fu = f + 1 := ⟨fu - 1, by omega⟩
      have hst : rf_st g i ≤ 64 := rf_st_le2 i h
      have gi := hgl (4 + i)
      have s1 := rf_st1 g i
      have e4 : nI (64 * p) + (4 : Int32) = nI (64 * p + 4) := nI_add _ 4
      have head : ∀ q, pu_br (nI (rf_st g i) ≤ nI (g (4 + i))) (some 0) (pu_br (nI (4 + g 1) ≤ nI (g (4 + i))) (pu_nm (nI (i + 1)) (fun t6 => q_MD_wellLaid_82 (fun x_4 => q_MD_wellLaid_131 mn (nI p) (nI (g 0)) (nI (g 1)) x_4) mn (nI p) (nI (g 0)) (nI (g 1)) fu (nI (g (4 + i))) t6)) (some 0)) = q → q_MD_wellLaid_82 (fun x_4 => q_MD_wellLaid_131 mn (nI p) (nI (g 0)) (nI (g 1)) x_4) mn (nI p) (nI (g 0)) (nI (g 1)) (fu + 1) (nI (rf_st g i)) (nI i) = q := by
        intro q hq
        rw [q_MD_wellLaid_82, pu_br_f (nI_ge (by omega) (by omega)), e0, e4, nI_add, pu_ck_t (vp_in_nI (by omega) (by decide)), nI_clamp (by omega), Nat.add_assoc (64 * p), hat (4 + i) (by omega), pu_nm, show (4 : Int32) + nI (g 1) = nI (4 + g 1) from nI_add 4 _, nI_1]
        exact hq
      by_cases c1 : rf_st g i ≤ g (4 + i)
      · refine ⟨some 0, head _ ?_, fun q => ?_, fun _ => rfl⟩
        · rw [pu_br_t (nI_le c1 (by omega))]
        · have := (q.1 i (by omega)).1; omega
      · by_cases c2 : 4 + g 1 ≤ g (4 + i)
        · obtain ⟨r, r1, r2, r3⟩ := ih (i + 1) fu (by omega) (by omega) (fun j hj => by
            by_cases e : j = i
            · subst e; exact ⟨by omega, by omega⟩
            · exact h j (by omega))
          refine ⟨r, head _ ?_, r2, r3⟩
          rw [pu_br_f (nI_ge (by omega) (by omega)), pu_br_t (nI_le c2 (by omega)), pu_nm, ← s1, r1]
        · refine ⟨some 0, head _ ?_, fun q => ?_, fun _ => rfl⟩
          · rw [pu_br_f (nI_ge (by omega) (by omega)), pu_br_f (nI_ge (by omega) (by omega))]
          · have := (q.1 i (by omega)).2; omega
  have g0 := hgl 0
  have g1 := hgl 1
  have g2 := hgl 2
  have g3 := hgl 3
  have mid : (g 0 = 13 ∨ g 0 = 5) → q_MD_wellLaid_33 mn (nI p) (nI (g 0)) (nI (g 1)) = some (nI (rf_dv (rf_lay g ∧ (g 1 = 0 → g 0 = 13 ∧ p = n 70)))) := by
    intro hk
    rw [q_MD_wellLaid_33]
    by_cases c1 : g 1 ≤ 30
    · rw [pu_br_f (show ¬ (30 : Int32) < nI (g 1) from nI_nlt (a := 30) c1 (by omega)), e0, show nI (64 * p) + (3 : Int32) = nI (64 * p + 3) from nI_add _ 3, pu_ck_t (vp_in_nI (by omega) (by decide)), nI_clamp (by omega), hat 3 (by omega)]
      by_cases c3 : g 3 = 0
      · rw [c3, pu_br_t (show nI 0 = (0 : Int32) from rfl)]
        obtain ⟨r, r1, r2, r3⟩ := places c1 (g 1) 0 pu_fu (by omega) (by rw [rf_fu]; omega) (fun j hj => by omega)
        have r75 : q_MD_wellLaid_75 mn (nI p) (nI (g 0)) (nI (g 1)) = r := by rw [q_MD_wellLaid_75, ← r1]; rfl
        have fin : (g 0 = 13 → g 2 = 0) → r = some (nI (rf_dv (rf_lay g ∧ (g 1 = 0 → g 0 = 13 ∧ p = n 70)))) := by
          intro h2
          by_cases cl : rf_lc g (g 1)
          · rw [r2 cl, rf_dv_congr (Q := rf_lay g ∧ (g 1 = 0 → g 0 = 13 ∧ p = n 70)) ⟨fun z => ⟨⟨hk, h2, c3, c1, cl⟩, z⟩, fun z => z.2⟩]
          · rw [r3 cl, rf_dv_f (fun z => cl z.1.2.2.2.2)]; rfl
        by_cases c4 : g 0 = 13
        · rw [pu_br_t (show nI (g 0) = (13 : Int32) by rw [c4]; rfl), show nI (64 * p) + (2 : Int32) = nI (64 * p + 2) from nI_add _ 2, pu_ck_t (vp_in_nI (by omega) (by decide)), nI_clamp (by omega), hat 2 (by omega)]
          by_cases c5 : g 2 = 0
          · rw [c5, pu_br_t (show nI 0 = (0 : Int32) from rfl), r75]; exact fin (fun _ => c5)
          · rw [pu_br_f (nI_ne0 (by omega) (by omega)), rf_dv_f (fun z => c5 (z.1.2.1 c4))]; rfl
        · rw [pu_br_f (show ¬ nI (g 0) = (13 : Int32) from fun q => c4 ((nI_eq (b := 13) (by omega) (by omega)).mp q)), r75]; exact fin (fun z => absurd z c4)
      · rw [pu_br_f (nI_ne0 (by omega) (by omega)), rf_dv_f (fun z => c3 z.1.2.2.1)]; rfl
    · rw [pu_br_t (show (30 : Int32) < nI (g 1) from nI_lt (a := 30) (by omega) (by omega)), rf_dv_f (fun z => c1 z.1.2.2.2.1)]; rfl
  rw [f_MD_wellLaid, e0, pu_ck_t (vp_in_nI (by omega) (by decide)), nI_clamp (by omega), hat0, pu_nm, show nI (64 * p) + (1 : Int32) = nI (64 * p + 1) from nI_add _ 1, pu_ck_t (vp_in_nI (by omega) (by decide)), nI_clamp (by omega), hat 1 (by omega), pu_nm]
  by_cases c4 : g 0 = 13
  · rw [pu_br_t (show nI (g 0) = (13 : Int32) by rw [c4]; rfl)]; exact mid (Or.inl c4)
  · rw [pu_br_f (show ¬ nI (g 0) = (13 : Int32) from fun q => c4 ((nI_eq (b := 13) (by omega) (by omega)).mp q))]
    by_cases c5 : g 0 = 5
    · rw [pu_br_t (show nI (g 0) = (5 : Int32) by rw [c5]; rfl)]; exact mid (Or.inr c5)
    · rw [pu_br_f (show ¬ nI (g 0) = (5 : Int32) from fun q => c5 ((nI_eq (b := 5) (by omega) (by omega)).mp q)), rf_dv_f (fun z => by rcases z.1.1 with q | q; exact c4 q; exact c5 q)]; rfl
end RFMW
