section RFWR
variable {r : Nat → Nat} {h L : Nat}
/-- one column as it must be, its value from s on -/
def rf_cw (r : Nat → Nat) (L c s : Nat) : Prop := rf_vc c ∧ s + rf_sz c ≤ L ∧ (rf_sz c ≠ 0 → c < 12 → rf_cd (rf_vl r s (rf_sz c)) = c)
/-- the rest of a record, from a column's code on -/
def rf_wx (r : Nat → Nat) (h L : Nat) : Nat → Nat → Nat → Nat → Prop
  | 0, a, s, j => h ≤ a ∧ 1 ≤ j ∧ s = L
  | k + 1, a, s, j => (h ≤ a ∧ 1 ≤ j ∧ s = L) ∨ (a < h ∧ ∃ c z, rf_rd r a h = some (c, z) ∧ rf_cw r L c s ∧ rf_wx r h L k (a + z) (s + rf_sz c) (j + 1))
theorem rf_vc_sz {c : Nat} (hc : rf_vc c) (h : c < 12) : rf_sz c = 0 ∨ c = 1 ∨ c = 2 ∨ c = 4 ∨ c = 6 := by
  unfold rf_vc at hc
  rcases hc with e | e | e | e | e | e | e
  · exact Or.inr (Or.inl e)
  · exact Or.inr (Or.inr (Or.inl e))
  · exact Or.inr (Or.inr (Or.inr (Or.inl e)))
  · exact Or.inr (Or.inr (Or.inr (Or.inr e)))
  · exact Or.inl (by rw [e]; rfl)
  · exact Or.inl (by rw [e]; rfl)
  · omega
theorem rf_wellValue {rec : Nat → Int32} (hr : ∀ k, r k < 256) (hb : ∀ k, k < L → rec k = nI (r k)) (hL : L ≤ 700) {c s : Nat} (hc : c < 2 ^ 28) (hs : s < 2 ^ 29) : f_MD_wellValue (nI L) rec (nI c) (nI s) = some (nI (rf_dv (rf_cw r L c s))) := by
  have b28 : rf_sz c < 2 ^ 28 := by
    unfold rf_sz
    split
    · omega
    · split
      · omega
      · split <;> omega
  rw [f_MD_wellValue, rf_bytesOf (by omega), pu_b1_s, nI_add]
  by_cases e : s + rf_sz c ≤ L
  · rw [pu_br_t (nI_le e (by omega))]
    have v73 : (c = 1 ∨ c = 2 ∨ c = 4 ∨ c = 6) → q_MD_wellValue_73 (nI L) rec (nI c) (nI s) = some (nI (rf_dv (rf_cw r L c s))) := by
      intro hcc
      have vc : rf_vc c := by unfold rf_vc; omega
      have nz : rf_sz c ≠ 0 := by rcases hcc with e | e | e | e <;> rw [e] <;> decide
      have cl : rf_cd (rf_vl r s (rf_sz c)) < 12 := rf_cd_lt _
      rw [q_MD_wellValue_73, rf_bytesOf (by omega), pu_b1_s, rf_valueAt hr hb hL e, pu_b1_s, if_neg nz, rf_mcodeOf, pu_b1_s]
      by_cases e2 : rf_cd (rf_vl r s (rf_sz c)) = c
      · rw [pu_br_t (by rw [e2]), rf_dv_t ⟨vc, e, fun _ _ => e2⟩]; rfl
      · rw [pu_br_f (fun q => e2 ((nI_eq (by omega) (by omega)).mp q)), rf_dv_f (fun q => e2 (q.2.2 nz (by omega)))]; rfl
    have v52 : c < 12 → c ≠ 8 → c ≠ 9 → q_MD_wellValue_52 (nI L) rec (nI c) (nI s) = some (nI (rf_dv (rf_cw r L c s))) := by
      intro h12 h8 h9
      have ne : ∀ k, k < 2 ^ 31 → c ≠ k → ¬ nI c = nI k := fun k hk q z => q ((nI_eq (by omega) hk).mp z)
      rw [q_MD_wellValue_52]
      by_cases c1 : c = 1
      · rw [pu_br_t (show nI c = (1 : Int32) by rw [c1]; rfl)]; exact v73 (by omega)
      rw [pu_br_f (show ¬ nI c = (1 : Int32) from ne 1 (by omega) c1)]
      by_cases c2 : c = 2
      · rw [pu_br_t (show nI c = (2 : Int32) by rw [c2]; rfl)]; exact v73 (by omega)
      rw [pu_br_f (show ¬ nI c = (2 : Int32) from ne 2 (by omega) c2)]
      by_cases c4 : c = 4
      · rw [pu_br_t (show nI c = (4 : Int32) by rw [c4]; rfl)]; exact v73 (by omega)
      rw [pu_br_f (show ¬ nI c = (4 : Int32) from ne 4 (by omega) c4)]
      by_cases c6 : c = 6
      · rw [pu_br_t (show nI c = (6 : Int32) by rw [c6]; rfl)]; exact v73 (by omega)
      rw [pu_br_f (show ¬ nI c = (6 : Int32) from ne 6 (by omega) c6), rf_dv_f]
      · rfl
      · intro q
        have := q.1
        unfold rf_vc at this
        omega
    by_cases c11 : c ≤ 11
    · rw [pu_br_t (show nI c ≤ (11 : Int32) from nI_le (b := 11) c11 (by omega))]
      by_cases c7 : c ≤ 7
      · rw [pu_br_t (show nI c ≤ (7 : Int32) from nI_le (b := 7) c7 (by omega))]
        exact v52 (by omega) (by omega) (by omega)
      · rw [pu_br_f (show ¬ nI c ≤ (7 : Int32) from nI_ge (a := 7) (by omega) (by omega))]
        by_cases c10 : c < 10
        · rw [pu_br_t (show nI c < (10 : Int32) from nI_lt (b := 10) c10 (by omega)), rf_dv_t]
          · rfl
          · have z0 : rf_sz c = 0 := by unfold rf_sz; rw [if_neg (by omega), if_pos (by omega)]
            exact ⟨by unfold rf_vc; omega, e, fun q => absurd z0 q⟩
        · rw [pu_br_f (show ¬ nI c < (10 : Int32) from nI_nlt (b := 10) (by omega) (by omega))]
          exact v52 (by omega) (by omega) (by omega)
    · have ev : (nI c - nI c / 2 * 2) = nI (c % 2) := by
        rw [show nI c / (2 : Int32) = nI (c / 2) from pk_div (d := 2) (by omega) (by omega) (by omega), show nI (c / 2) * (2 : Int32) = nI (c / 2 * 2) from pk_mul _ 2, pk_sub (by omega)]
        congr 1; omega
      rw [pu_br_f (show ¬ nI c ≤ (11 : Int32) from nI_ge (a := 11) (by omega) (by omega)), ev]
      by_cases c2 : c % 2 = 0
      · rw [c2, pu_br_t (show nI 0 = (0 : Int32) from rfl)]
        by_cases c3 : c ≤ 212
        · rw [pu_br_f (show ¬ (212 : Int32) < nI c from nI_nlt (a := 212) c3 (by omega)), rf_dv_t]
          · rfl
          · exact ⟨by unfold rf_vc; omega, e, fun _ q => by omega⟩
        · rw [pu_br_t (show (212 : Int32) < nI c from nI_lt (a := 212) (by omega) (by omega)), rf_dv_f]
          · rfl
          · intro q; have := q.1; unfold rf_vc at this; omega
      · rw [pu_br_f (nI_ne0 (by omega) (by omega)), rf_dv_f]
        · rfl
        · intro q; have := q.1; unfold rf_vc at this; omega
  · rw [pu_br_f (nI_ge (by omega) (by omega)), rf_dv_f (fun q => e q.2.1)]; rfl
theorem rf_wrec_go {rec : Nat → Int32} (hr : ∀ k, r k < 256) (hb : ∀ k, k < L → rec k = nI (r k)) (hL : L ≤ 700) (hh : h ≤ L) : ∀ k j fu (a s : Nat), j + k = 3 → k + 2 ≤ fu → a < 2 ^ 20 → s ≤ L + 0 →
    ∃ a' b', q_MD_wellRecord_44 (fun v_at v_bad x_2 x_3 => q_MD_wellRecord_126 (nI L) rec v_at v_bad x_2 x_3) (nI L) rec (nI h) fu (nI a) 0 (nI s) (nI j) = some (nI (rf_dv (rf_wx r h L k a s j)), a', b') := by
  -- once bad, no
  have badx : ∀ fu (a : Int32) (s j : Int32), 1 ≤ fu → ∃ a' b', q_MD_wellRecord_44 (fun v_at v_bad x_2 x_3 => q_MD_wellRecord_126 (nI L) rec v_at v_bad x_2 x_3) (nI L) rec (nI h) fu a 1 s j = some (0, a', b') := by
    intro fu a s j hf
    obtain ⟨fu, rfl⟩ : ∃ f, fu = f + 1 := ⟨fu - 1, by omega⟩
    refine ⟨a, 1, ?_⟩
    rw [q_MD_wellRecord_44]
    by_cases e : nI h ≤ a
    · rw [pu_br_t e, q_MD_wellRecord_126, pu_br_f (by decide)]
    · rw [pu_br_f e, pu_br_f (by decide), q_MD_wellRecord_126, pu_br_f (by decide)]
  have endx : ∀ (a s j : Nat), s < 2 ^ 31 → j < 2 ^ 31 → q_MD_wellRecord_126 (nI L) rec (nI a) 0 (nI s) (nI j) = some (nI (rf_dv (1 ≤ j ∧ s = L)), nI a, 0) := by
    intro a s j hs hj
    rw [q_MD_wellRecord_126, pu_br_t rfl]
    by_cases e : j = 0
    · rw [e, pu_br_t (by decide), rf_dv_f (fun q => by omega)]; rfl
    · rw [pu_br_f (nI_nle (by omega) hj)]
      by_cases e2 : s = L
      · rw [pu_br_t (by rw [e2]), rf_dv_t ⟨by omega, e2⟩]; rfl
      · rw [pu_br_f (fun q => e2 ((nI_eq hs (by omega)).mp q)), rf_dv_f (fun q => e2 q.2)]; rfl
  have bad96 : ∀ fu (a : Int32) (b2 x1 x2 x3 x4 : Int32), 1 ≤ fu → ∃ a' b', q_MD_wellRecord_96 (q_MD_wellRecord_44 (fun v_at v_bad x_2 x_3 => q_MD_wellRecord_126 (nI L) rec v_at v_bad x_2 x_3) (nI L) rec (nI h) fu) (fun v_at v_bad x_2 x_3 => q_MD_wellRecord_126 (nI L) rec v_at v_bad x_2 x_3) (nI L) rec a b2 x1 x2 x3 x4 = some (0, a', b') := by
    intro fu a b2 x1 x2 x3 x4 hf
    rw [q_MD_wellRecord_96, q_MD_wellRecord_101, pu_ck_t pu_bz1, pu_br_f (by decide), q_MD_wellRecord_121, pu_nm]
    exact badx fu a _ _ hf
  intro k
  induction k with
  | zero =>
    intro j fu a s hj hf ha hs
    obtain ⟨fu, rfl⟩ : ∃ f, fu = f + 1 := ⟨fu - 1, by omega⟩
    by_cases e : h ≤ a
    · refine ⟨nI a, 0, ?_⟩
      rw [q_MD_wellRecord_44, pu_br_t (nI_le e (by omega)), endx a s j (by omega) (by omega)]
      exact congrArg (fun z => some (nI z, nI a, (0 : Int32))) (rf_dv_congr ⟨fun q => ⟨e, q.1, q.2⟩, fun q => ⟨q.2.1, q.2.2⟩⟩)
    · rw [q_MD_wellRecord_44, pu_br_f (nI_ge (by omega) (by omega)), pu_br_t rfl, rf_dv_f (fun q : rf_wx r h L 0 a s j => e q.1)]
      have h4 : ¬ nI j + 1 ≤ (3 : Int32) := by rw [show nI j + (1 : Int32) = nI (j + 1) from nI_add _ 1]; exact nI_ge (a := 3) (by omega) (by omega)
      have g3 : (3 : Int32) < nI j + 1 := by rw [show nI j + (1 : Int32) = nI (j + 1) from nI_add _ 1]; exact nI_lt (a := 3) (by omega) (by omega)
      rcases rf_mread (N := 700) (b := rec) (g := r) (s := a) (e := h) hr (fun k hk => hb k (by omega)) (by omega) (by omega) ha with ⟨v, z, q1, q2⟩ | ⟨q1, ⟨s', q2⟩ | ⟨v, s', _, _, q2⟩⟩
      · rw [q2, pu_b3_s, pu_nm, pu_br_t rfl, pu_br_t g3]
        exact bad96 fu _ _ _ _ _ _ (by omega)
      · rw [q2, pu_b3_s, pu_nm, pu_br_f (by decide)]
        exact bad96 fu _ _ _ _ _ _ (by omega)
      · rw [q2, pu_b3_s, pu_nm, pu_br_t rfl, pu_br_t g3]
        exact bad96 fu _ _ _ _ _ _ (by omega)
  | succ k ih =>
    intro j fu a s hj hf ha hs
    obtain ⟨fu, rfl⟩ : ∃ f, fu = f + 1 := ⟨fu - 1, by omega⟩
    by_cases e : h ≤ a
    · refine ⟨nI a, 0, ?_⟩
      rw [q_MD_wellRecord_44, pu_br_t (nI_le e (by omega)), endx a s j (by omega) (by omega)]
      refine congrArg (fun z => some (nI z, nI a, (0 : Int32))) (rf_dv_congr ⟨fun q => Or.inl ⟨e, q.1, q.2⟩, fun q => ?_⟩)
      rcases q with q | q
      · exact ⟨q.2.1, q.2.2⟩
      · omega
    · have n3 : ¬ (3 : Int32) < nI j + 1 := by rw [show nI j + (1 : Int32) = nI (j + 1) from nI_add _ 1]; exact nI_nlt (a := 3) (by omega) (by omega)
      rw [q_MD_wellRecord_44, pu_br_f (nI_ge (by omega) (by omega)), pu_br_t rfl]
      rcases rf_mread (N := 700) (b := rec) (g := r) (s := a) (e := h) hr (fun k hk => hb k (by omega)) (by omega) (by omega) ha with ⟨v, z, q1, q2⟩ | ⟨q1, ⟨s', q2⟩ | ⟨v, s', v1, v2, q2⟩⟩
      · have lt := rf_rd_lt hr q1
        have wv := rf_wellValue hr hb hL (c := v) (s := s) (by omega) (by omega)
        rw [q2, pu_b3_s, pu_nm, pu_br_t rfl, pu_br_f n3, wv, pu_b1_s]
        by_cases ev : rf_cw r L v s
        · rw [rf_dv_t ev, pu_br_f (by decide), q_MD_wellRecord_101, pu_ck_t pu_bz0, pu_br_t rfl, rf_bytesOf (by omega), pu_b1_s, q_MD_wellRecord_121, nI_add, pu_nm, show nI j + (1 : Int32) = nI (j + 1) from nI_add _ 1]
          obtain ⟨a', b', q3⟩ := ih (j + 1) fu (a + z) (s + rf_sz v) (by omega) (by omega) (by omega) (by have := ev.2.1; omega)
          have iff : rf_wx r h L (k + 1) a s j ↔ rf_wx r h L k (a + z) (s + rf_sz v) (j + 1) := by
            constructor
            · rintro (q | ⟨_, c', z', w1, w2, w3⟩)
              · omega
              · rw [q1] at w1
                cases w1
                exact w3
            · intro q; exact Or.inr ⟨by omega, v, z, q1, ev, q⟩
          exact ⟨a', b', by rw [rf_dv_congr iff]; exact q3⟩
        · rw [rf_dv_f ev, pu_br_t (show nI 0 = (0 : Int32) from rfl), rf_dv_f]
          · exact bad96 fu _ _ _ _ _ _ (by omega)
          · rintro (q | ⟨_, c', z', w1, w2, w3⟩)
            · omega
            · rw [q1] at w1
              cases w1
              exact ev w2
      · rw [q2, pu_b3_s, pu_nm, pu_br_f (by decide), rf_dv_f]
        · exact bad96 fu _ _ _ _ _ _ (by omega)
        · rintro (q | ⟨_, c', z', w1, w2, w3⟩)
          · omega
          · rw [q1] at w1; cases w1
      · have wv := rf_wellValue hr hb hL (c := v) (s := s) v2 (by omega)
        have ev : ¬ rf_cw r L v s := by
          intro q
          have := q.1
          unfold rf_vc at this
          omega
        rw [q2, pu_b3_s, pu_nm, pu_br_t rfl, pu_br_f n3, wv, pu_b1_s, rf_dv_f ev, pu_br_t (show nI 0 = (0 : Int32) from rfl), rf_dv_f]
        · exact bad96 fu _ _ _ _ _ _ (by omega)
        · rintro (q | ⟨_, c', z', w1, w2, w3⟩)
          · omega
          · rw [q1] at w1; cases w1
/-- from the columns one by one to the record -/
theorem rf_su_sh (f : Nat → Nat) (x : Nat) : ∀ i, rf_su (fun j => if j = 0 then x else f (j - 1)) (i + 1) = x + rf_su f i
  | 0 => by show 0 + (if (0 : Nat) = 0 then x else f (0 - 1)) = x + 0; rw [if_pos rfl]; omega
  | i + 1 => by
    rw [rf_su, rf_su_sh f x i, if_neg (by omega), Nat.add_sub_cancel, rf_su]; omega
theorem rf_wx_ex (hr : ∀ k, r k < 256) : ∀ k a s j, rf_wx r h L k a s j → ∃ (m : Nat) (cd z : Nat → Nat), m ≤ k ∧ 1 ≤ j + m ∧ (∀ i, i < m → rf_rd r (a + rf_su z i) h = some (cd i, z i) ∧ rf_cw r L (cd i) (s + rf_su (fun t => rf_sz (cd t)) i)) ∧ h ≤ a + rf_su z m ∧ s + rf_su (fun t => rf_sz (cd t)) m = L := by
  intro k
  induction k with
  | zero => intro a s j q; exact ⟨0, fun _ => 0, fun _ => 0, Nat.le_refl _, by have := q.2.1; omega, fun i hi => by omega, q.1, q.2.2⟩
  | succ k ih =>
    intro a s j q
    rcases q with q | ⟨q0, c, z, q1, q2, q3⟩
    · exact ⟨0, fun _ => 0, fun _ => 0, by omega, by have := q.2.1; omega, fun i hi => by omega, q.1, q.2.2⟩
    · obtain ⟨m, cd, zz, w1, w2, w3, w4, w5⟩ := ih _ _ _ q3
      have es : (fun t => rf_sz (if t = 0 then c else cd (t - 1))) = fun t => if t = 0 then rf_sz c else (fun t => rf_sz (cd t)) (t - 1) := by
        funext t; by_cases e : t = 0
        · rw [if_pos e, if_pos e]
        · rw [if_neg e, if_neg e]
      refine ⟨m + 1, fun i => if i = 0 then c else cd (i - 1), fun i => if i = 0 then z else zz (i - 1), by omega, by omega, fun i hi => ?_, ?_, ?_⟩
      · dsimp only
        by_cases e : i = 0
        · subst e
          rw [if_pos rfl, if_pos rfl]
          exact ⟨q1, q2⟩
        · obtain ⟨i', rfl⟩ : ∃ i', i = i' + 1 := ⟨i - 1, by omega⟩
          rw [if_neg (by omega), if_neg (by omega), rf_su_sh, es, rf_su_sh (fun t => rf_sz (cd t)) (rf_sz c), Nat.add_sub_cancel, ← Nat.add_assoc, ← Nat.add_assoc]
          exact w3 i' (by omega)
      · rw [rf_su_sh, ← Nat.add_assoc]; exact w4
      · rw [es, rf_su_sh (fun t => rf_sz (cd t)) (rf_sz c), ← Nat.add_assoc]; exact w5
theorem rf_wx_wr (hr : ∀ k, r k < 256) : rf_wx r (r 0) L 3 1 (r 0) 0 ↔ rf_wr r L := by
  constructor
  · intro q
    obtain ⟨m, cd, z, w1, w2, w3, w4, w5⟩ := rf_wx_ex hr _ _ _ _ q
    refine ⟨m, cd, z, rf_wq_iff.mpr ⟨by omega, w1, fun j hj => ⟨(w3 j hj).1, (w3 j hj).2.1⟩, fun j hj => ⟨?_, (w3 j hj).2.2.2⟩, ?_, w5⟩⟩
    · have := (w3 j hj).2.2.1
      rw [rf_su]; omega
    · have := rf_rd_lt hr (w3 (m - 1) (by omega)).1
      have e : rf_su z m = rf_su z (m - 1) + z (m - 1) := by
        obtain ⟨m', rfl⟩ : ∃ m', m = m' + 1 := ⟨m - 1, by omega⟩
        rfl
      omega
  · rintro ⟨m, cd, z, q⟩
    obtain ⟨w1, w2, w3, w4, w5, w6⟩ := rf_wq_iff.mp q
    have key : ∀ d, d ≤ m → rf_wx r (r 0) L (3 - (m - d)) (1 + rf_su z (m - d)) (r 0 + rf_su (fun i => rf_sz (cd i)) (m - d)) (m - d) := by
      intro d
      induction d with
      | zero =>
        intro _
        rw [Nat.sub_zero]
        have f : r 0 ≤ 1 + rf_su z m ∧ 1 ≤ m ∧ r 0 + rf_su (fun i => rf_sz (cd i)) m = L := ⟨by omega, w1, w6⟩
        cases hk : 3 - m with
        | zero => exact f
        | succ t => exact Or.inl f
      | succ d ih =>
        intro hd
        have ih' := ih (by omega)
        have lt : m - (d + 1) < m := by omega
        have e1 : m - d = m - (d + 1) + 1 := by omega
        rw [e1] at ih'
        have z1 := rf_rd_lt hr (w3 _ lt).1
        rw [show 3 - (m - (d + 1)) = (3 - (m - (d + 1) + 1)) + 1 by omega]
        refine Or.inr ⟨by omega, cd (m - (d + 1)), z (m - (d + 1)), (w3 _ lt).1, ⟨(w3 _ lt).2, ?_, (w4 _ lt).2⟩, ?_⟩
        · have := (w4 _ lt).1
          rw [rf_su] at this; omega
        · rw [rf_su, rf_su, ← Nat.add_assoc, ← Nat.add_assoc] at ih'
          exact ih'
    have := key m (Nat.le_refl m)
    rw [Nat.sub_self] at this
    exact this
theorem rf_wr_307 (hr : ∀ k, r k < 256) (q : rf_wr r L) : L ≤ 307 ∧ r 0 ≤ 7 ∧ 1 ≤ L := by
  obtain ⟨m, cd, z, q⟩ := q
  have p := rf_wq_pos q
  obtain ⟨w1, w2, w3, w4, w5, w6⟩ := rf_wq_iff.mp q
  have key : ∀ i, i ≤ m → rf_su z i ≤ 2 * i ∧ rf_su (fun i => rf_sz (cd i)) i ≤ 100 * i := by
    intro i
    induction i with
    | zero => intro _; exact ⟨Nat.le_refl _, Nat.le_refl _⟩
    | succ i ih =>
      intro hi
      have a := ih (by omega)
      have v := rf_vc_le (w3 i (by omega)).2
      have s := rf_rd_size hr (w3 i (by omega)).1
      have : z i ≤ 2 := by
        rw [s]
        by_cases c1 : cd i < 128
        · rw [if_pos c1]; omega
        · rw [if_neg c1, if_pos (by omega)]; omega
      rw [rf_su, rf_su]; omega
  have := key m (Nat.le_refl m)
  omega
/-- the reference holds a record against what it must be -/
theorem rf_wellRecord {rec : Nat → Int32} (hr : ∀ k, r k < 256) (hb : ∀ k, k < L → rec k = nI (r k)) (hL : L ≤ 700) (at' bad : Int32) : ∃ a' b', f_MD_wellRecord (nI L) rec at' bad = some (nI (rf_dv (rf_wr r L)), a', b') := by
  rw [f_MD_wellRecord, show (0 : Int32) = nI 0 from rfl]
  rcases rf_mread (N := 700) (b := rec) (g := r) (s := 0) (e := L) hr (fun k hk => hb k hk) (by omega) (by omega) (by omega) with ⟨v, z, q1, q2⟩ | ⟨q1, ⟨s', q2⟩ | ⟨v, s', v1, v2, q2⟩⟩
  · have lt := rf_rd_lt hr q1
    have sz := rf_rd_size hr q1
    rw [show nI 0 = (0 : Int32) from rfl] at q2 ⊢
    rw [q2, pu_b3_s, pu_br_t rfl, Nat.zero_add]
    by_cases e : v ≤ L
    · rw [pu_br_t (nI_le e (by omega))]
      obtain ⟨a', b', q3⟩ := rf_wrec_go hr hb hL e 3 0 pu_fu z v (by omega) (by rw [rf_fu]; omega) (by omega) (by omega)
      refine ⟨a', b', ?_⟩
      rw [show (0 : Int32) = nI 0 from rfl, show q_MD_wellRecord_44 (fun v_at v_bad x_2 x_3 => q_MD_wellRecord_126 (nI L) rec v_at v_bad x_2 x_3) (nI L) rec (nI v) pu_fu (nI z) (nI 0) (nI v) (nI 0) = _ from q3]
      by_cases v7 : v < 128
      · rw [if_pos v7] at sz
        have r0 : r 0 = v := by
          unfold rf_rd at q1
          rw [if_neg (by omega)] at q1
          by_cases c1 : r 0 = 128
          · rw [if_pos c1] at q1; cases q1
          rw [if_neg c1] at q1
          by_cases c2 : r 0 < 128
          · rw [if_pos c2] at q1; cases q1; rfl
          · rw [if_neg c2] at q1
            exfalso
            repeat' split at q1
            all_goals first | (cases q1; done) | (cases q1; omega)
        rw [sz, ← r0, rf_dv_congr (rf_wx_wr hr)]
      · rw [rf_dv_f, rf_dv_f]
        · intro q
          have := (rf_wr_307 hr q).2.1
          unfold rf_rd at q1
          rw [if_neg (by omega), if_neg (by omega), if_pos (by omega)] at q1
          cases q1
          omega
        · intro q
          obtain ⟨m, cd, zz, w1, w2, w3, w4, w5⟩ := rf_wx_ex hr _ _ _ _ q
          have key : ∀ i, i ≤ m → rf_su zz i ≤ 3 * i := by
            intro i
            induction i with
            | zero => intro _; exact Nat.le_refl _
            | succ i ih =>
              intro hi
              have a := ih (by omega)
              have s := rf_rd_lt hr (w3 i (by omega)).1
              rw [rf_su]; omega
          have := key m (Nat.le_refl m)
          omega
    · rw [pu_br_f (nI_ge (by omega) (by omega)), rf_dv_f]
      · exact ⟨_, _, rfl⟩
      · intro q
        have w := rf_wr_307 hr q
        obtain ⟨m, cd, zz, q⟩ := q
        have p := rf_wq_pos q
        unfold rf_rd at q1
        rw [if_neg (by omega), if_neg (by omega), if_pos (by omega)] at q1
        cases q1
        omega
  · rw [show nI 0 = (0 : Int32) from rfl] at q2 ⊢
    rw [q2, pu_b3_s, pu_br_f (by decide), rf_dv_f]
    · exact ⟨_, _, rfl⟩
    · intro q
      have w := rf_wr_307 hr q
      unfold rf_rd at q1
      rw [if_neg (by omega), if_neg (by omega), if_pos (by omega)] at q1
      cases q1
  · rw [show nI 0 = (0 : Int32) from rfl] at q2 ⊢
    rw [q2, pu_b3_s, pu_br_t rfl, pu_br_f (nI_ge (by omega) (by omega)), rf_dv_f]
    · exact ⟨_, _, rfl⟩
    · intro q
      have w := rf_wr_307 hr q
      unfold rf_rd at q1
      rw [if_neg (by omega), if_neg (by omega), if_pos (by omega)] at q1
      cases q1
end RFWR
