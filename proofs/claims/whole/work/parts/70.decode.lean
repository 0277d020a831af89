section RFDC
theorem rf_su_ext {z : Nat → Nat} {y j : Nat} : rf_su (fun i => if i = j then y else z i) j = rf_su z j := rf_su_congr j (fun i hi => by rw [if_neg (by omega)])
theorem rf_su_ext' {z : Nat → Nat} {y j k : Nat} (h : k ≤ j) : rf_su (fun i => if i = j then y else z i) k = rf_su z k := rf_su_congr k (fun i hi => by rw [if_neg (by omega)])
theorem rf_pf_ext {r : Nat → Nat} {h j v y : Nat} {cd z : Nat → Nat} (hp : rf_pf r h cd z j) (h1 : rf_rd r (1 + rf_su z j) h = some (v, y)) (h2 : rf_vc v) : rf_pf r h (fun i => if i = j then v else cd i) (fun i => if i = j then y else z i) (j + 1) := by
  intro i hi
  rw [rf_su_ext' (by omega)]
  dsimp only
  by_cases e : i = j
  · subst e; rw [if_pos rfl, if_pos rfl]; exact ⟨h1, h2⟩
  · rw [if_neg e, if_neg e]; exact hp i (by omega)
theorem rf_pf_le {r : Nat → Nat} (hr : ∀ k, r k < 256) {h : Nat} {cd z : Nat → Nat} : ∀ {m}, rf_pf r h cd z m → rf_su z m ≤ 3 * m ∧ (m = 0 ∨ 1 + rf_su z m ≤ h)
  | 0, _ => ⟨Nat.le_refl _, Or.inl rfl⟩
  | m + 1, hp => by
    have := rf_pf_le hr (m := m) (fun j hj => hp j (by omega))
    have := rf_rd_lt hr (hp m (by omega)).1
    rw [rf_su]
    exact ⟨by omega, Or.inr (by omega)⟩
theorem rf_pf_le2 {r : Nat → Nat} (hr : ∀ k, r k < 256) {h : Nat} {cd z : Nat → Nat} : ∀ {m}, rf_pf r h cd z m → rf_su z m ≤ 2 * m
  | 0, _ => Nat.le_refl _
  | m + 1, hp => by
    have h1 := rf_pf_le2 hr (m := m) (fun j hj => hp j (by omega))
    have h2 := rf_rd_size hr (hp m (by omega)).1
    have h3 := (rf_vc_lt (hp m (by omega)).2).1
    rw [rf_su]
    have : z m ≤ 2 := by
      rw [h2]; split
      · omega
      · split <;> omega
    omega
theorem rf_decodeCodes {b codes : Nat → Int32} {r : Nat → Nat} {L h : Nat} (hr : ∀ k, r k < 256) (hb : ∀ k, k < L → b k = rf_sx (r k)) (hL : L ≤ 307) (hh : h ≤ L) (cnt : Int32) :
    ∃ (x : Int32) (m : Nat) (codes' : Nat → Int32) (cd z : Nat → Nat), f_Rec_decodeCodes b cnt codes (nI h) = some (x, nI m, codes') ∧ rf_pf r h cd z m ∧ m ≤ 3 ∧ (∀ j, j < m → codes' j = nI (cd j)) ∧ ((x = nI (1 + rf_su z m) ∧ (m = 3 ∨ h ≤ 1 + rf_su z m)) ∨ (x = -1 ∧ m < 3 ∧ 1 + rf_su z m < h ∧ ∀ v y, rf_rd r (1 + rf_su z m) h = some (v, y) → ¬ rf_vc v)) := by
  unfold f_Rec_decodeCodes
  refine rf_loop (fun f (st : Int32 × (Nat → Int32) × Int32) j => q_Rec_decodeCodes_9 b (nI h) f st.1 st.2.1 st.2.2 (nI j)) (fun j st => st.1 = nI j ∧ ∃ cd z, rf_pf r h cd z j ∧ st.2.2 = nI (1 + rf_su z j) ∧ ∀ i, i < j → st.2.1 i = nI (cd i))
    (fun q => ∃ (x : Int32) (m : Nat) (codes' : Nat → Int32) (cd z : Nat → Nat), q = some (x, nI m, codes') ∧ rf_pf r h cd z m ∧ m ≤ 3 ∧ (∀ j, j < m → codes' j = nI (cd j)) ∧ ((x = nI (1 + rf_su z m) ∧ (m = 3 ∨ h ≤ 1 + rf_su z m)) ∨ (x = -1 ∧ m < 3 ∧ 1 + rf_su z m < h ∧ ∀ v y, rf_rd r (1 + rf_su z m) h = some (v, y) → ¬ rf_vc v))) 3 ?_ ?_ 3 pu_fu (0, codes, 1) 0 rfl (by decide) ⟨rfl, fun _ => 0, fun _ => 0, fun j hj => by omega, rfl, fun i hi => by omega⟩
  · rintro f st ⟨h1, cd, z, h2, h3, h4⟩
    refine ⟨nI (1 + rf_su z 3), 3, st.2.1, cd, z, ?_, h2, Nat.le_refl _, h4, Or.inl ⟨rfl, Or.inl rfl⟩⟩
    show q_Rec_decodeCodes_9 b (nI h) (f + 1) st.1 st.2.1 st.2.2 (nI 3) = _
    rw [q_Rec_decodeCodes_9, pu_br_t (by decide), h1, h3]
  · rintro f st j hj ⟨h1, cd, z, h2, h3, h4⟩
    have hle := rf_pf_le hr h2
    have hhead : ∀ q, pu_br (nI h ≤ nI (1 + rf_su z j)) (some (nI (1 + rf_su z j), nI j, st.2.1)) (pu_b1 (f_RF_readVarint 307 b (nI (1 + rf_su z j)) (nI h)) (fun r1 => pu_b1 (f_RF_valueSize r1) (fun r2 => pu_br ((0 : Int32) ≤ r2) (pu_ck (vp_in (nI j) 3) (pu_nm (upd st.2.1 (nI j).toNatClampNeg r1) (fun a3 => pu_nm (nI j + (1 : Int32)) (fun t4 => pu_b1 (f_RF_varintSize r1) (fun r5 => pu_nm (nI (1 + rf_su z j) + r5) (fun t6 => pu_nm (nI j + (1 : Int32)) (fun t7 => q_Rec_decodeCodes_9 b (nI h) f t4 a3 t6 t7))))))) (some ((-1 : Int32), nI j, st.2.1))))) = q → q_Rec_decodeCodes_9 b (nI h) (f + 1) st.1 st.2.1 st.2.2 (nI j) = q := by
      intro q hq
      rw [q_Rec_decodeCodes_9, pu_br_f (show ¬ (3 : Int32) ≤ nI j from nI_ge (b := 3) hj (by decide)), h1, h3]
      exact hq
    by_cases e : h ≤ 1 + rf_su z j
    · refine Or.inr ⟨nI (1 + rf_su z j), j, st.2.1, cd, z, hhead _ ?_, h2, by omega, h4, Or.inl ⟨rfl, Or.inr e⟩⟩
      rw [pu_br_t (nI_le e (by omega))]
    · have hrv := rf_readVarint (N := 307) (b := b) (g := r) (s := 1 + rf_su z j) (e := h) hr (fun k hk => by rw [hb k (by omega)]; exact rf_sx_and (hr k)) (by omega) (by omega) (by omega)
      cases hrd : rf_rd r (1 + rf_su z j) h with
      | none =>
        rw [hrd] at hrv
        refine Or.inr ⟨-1, j, st.2.1, cd, z, hhead _ ?_, h2, by omega, h4, Or.inr ⟨rfl, hj, by omega, fun v y q => by rw [hrd] at q; cases q⟩⟩
        rw [pu_br_f (nI_ge (by omega) (by omega)), hrv, pu_b1_s, show rf_rv none = (-1 : Int32) from rfl, rf_valueSize_m, pu_b1_s, pu_br_f (by decide)]
      | some vy =>
        obtain ⟨v, y⟩ := vy
        have hlt := rf_rd_lt hr hrd
        have hsz := rf_rd_size hr hrd
        rw [hrd, show rf_rv (some (v, y)) = nI v from rfl] at hrv
        by_cases hv : rf_vc v
        · have hvl := rf_vc_lt hv
          refine Or.inl ⟨(nI (j + 1), upd st.2.1 j (nI v), nI (1 + rf_su z j + y)), ⟨rfl, fun i => if i = j then v else cd i, fun i => if i = j then y else z i, rf_pf_ext h2 hrd hv, ?_, fun i hi => ?_⟩, hhead _ ?_⟩
          · show nI (1 + rf_su z j + y) = _
            rw [rf_su, rf_su_ext, if_pos rfl, Nat.add_assoc]
          · show upd st.2.1 j (nI v) i = nI (if i = j then v else cd i)
            by_cases e2 : i = j
            · subst e2; rw [if_pos rfl]; exact pk_us
            · rw [if_neg e2, pk_un e2]; exact h4 i (by omega)
          · rw [pu_br_f (nI_ge (by omega) (by omega)), hrv, pu_b1_s, (rf_valueSize (by omega)).1 hv, pu_b1_s, pu_br_t (nI_pos' (by omega)), pu_ck_t (vp_in_nI hj (by decide)), nI_clamp (by omega), pu_nm, pu_nm, rf_vsz (by omega), pu_b1_s, pu_nm, pu_nm, nI_1, ← hsz, nI_add]
        · refine Or.inr ⟨-1, j, st.2.1, cd, z, hhead _ ?_, h2, by omega, h4, Or.inr ⟨rfl, hj, by omega, fun v' y' q => ?_⟩⟩
          · rw [pu_br_f (nI_ge (by omega) (by omega)), hrv, pu_b1_s, (rf_valueSize (by omega)).2 hv, pu_b1_s, pu_br_f (by decide)]
          · rw [hrd] at q; cases q; exact hv
theorem rf_cd0 : rf_cd 0 = 8 := by decide
theorem rf_cd1 : rf_cd 1 = 9 := by decide
/-- what a column of no bytes says -/
theorem rf_cd_sz0 {cd : Nat} (hv : rf_vc cd) (h12 : cd < 12) (z : rf_sz cd = 0) : rf_cd (if cd = 9 then 1 else 0) = cd := by
  have : cd = 8 ∨ cd = 9 := by
    unfold rf_vc at hv
    unfold rf_sz at z
    rw [if_neg (by omega)] at z
    by_cases e : 7 < cd
    · omega
    · rw [if_neg e] at z
      by_cases e6 : cd = 6
      · rw [if_pos e6] at z; omega
      · rw [if_neg e6] at z; omega
  rcases this with e | e
  · rw [if_neg (by omega), rf_cd0, e]
  · rw [if_pos e, rf_cd1, e]
theorem rf_cd_le (v : Int64) : rf_cd v < 10 := by unfold rf_cd; (repeat' split) <;> omega
theorem rf_decode54 {b codes : Nat → Int32} {r : Nat → Nat} {L h m : Nat} {cd : Nat → Nat} (hr : ∀ k, r k < 256) (hb : ∀ k, k < L → b k = rf_sx (r k)) (hL : L ≤ 307) (hm : m ≤ 3) (hh : h ≤ L) (hv : ∀ j, j < m → rf_vc (cd j)) (hcd : ∀ j, j < m → codes j = nI (cd j)) (starts : Nat → Int32) :
    ∃ (x : Int32) (st' : Nat → Int32), q_Rec_decode_54 (fun v_starts x_2 => q_Rec_decode_127 (nI L) b (nI m) codes v_starts x_2) (nI L) b (nI m) codes pu_fu starts (nI h) 0 = some (x, nI m, codes, st') ∧ ((x = 1 ∧ (∀ j, j < m → rf_vf r h L cd j) ∧ h + rf_su (fun i => rf_sz (cd i)) m = L ∧ ∀ j, j < m → st' j = nI (h + rf_su (fun i => rf_sz (cd i)) j)) ∨ (x = 0 ∧ ¬ ((∀ j, j < m → rf_vf r h L cd j) ∧ h + rf_su (fun i => rf_sz (cd i)) m = L))) := by
  refine rf_loop (fun f (st : (Nat → Int32) × Int32) j => q_Rec_decode_54 (fun v_starts x_2 => q_Rec_decode_127 (nI L) b (nI m) codes v_starts x_2) (nI L) b (nI m) codes f st.1 st.2 (nI j)) (fun j st => st.2 = nI (h + rf_su (fun i => rf_sz (cd i)) j) ∧ h + rf_su (fun i => rf_sz (cd i)) j ≤ L ∧ ∀ i, i < j → rf_vf r h L cd i ∧ st.1 i = nI (h + rf_su (fun i => rf_sz (cd i)) i))
    (fun q => ∃ (x : Int32) (st' : Nat → Int32), q = some (x, nI m, codes, st') ∧ ((x = 1 ∧ (∀ j, j < m → rf_vf r h L cd j) ∧ h + rf_su (fun i => rf_sz (cd i)) m = L ∧ ∀ j, j < m → st' j = nI (h + rf_su (fun i => rf_sz (cd i)) j)) ∨ (x = 0 ∧ ¬ ((∀ j, j < m → rf_vf r h L cd j) ∧ h + rf_su (fun i => rf_sz (cd i)) m = L)))) m ?_ ?_ m pu_fu (starts, nI h) 0 (by omega) (by rw [rf_fu]; omega) ⟨rfl, hh, fun i hi => by omega⟩
  · rintro f st ⟨h1, h2, h3⟩
    have hgo : ∀ q, q_Rec_decode_127 (nI L) b (nI m) codes st.1 st.2 = q → q_Rec_decode_54 (fun v_starts x_2 => q_Rec_decode_127 (nI L) b (nI m) codes v_starts x_2) (nI L) b (nI m) codes (f + 1) st.1 st.2 (nI m) = q := by
      intro q hq
      rw [q_Rec_decode_54, pu_br_t (nI_le (Nat.le_refl _) (by omega))]
      exact hq
    by_cases e : h + rf_su (fun i => rf_sz (cd i)) m = L
    · refine ⟨1, st.1, hgo _ ?_, Or.inl ⟨rfl, fun j hj => (h3 j hj).1, e, fun j hj => (h3 j hj).2⟩⟩
      rw [q_Rec_decode_127, h1, pu_br_t (by rw [e])]
    · refine ⟨0, st.1, hgo _ ?_, Or.inr ⟨rfl, fun q => e q.2⟩⟩
      rw [q_Rec_decode_127, h1, pu_br_f (fun q => e ((nI_eq (by omega) (by omega)).mp q))]
  · rintro f st j hj ⟨h1, h2, h3⟩
    have hvl := rf_vc_lt (hv j hj)
    have es : h + rf_su (fun i => rf_sz (cd i)) (j + 1) = h + rf_su (fun i => rf_sz (cd i)) j + rf_sz (cd j) := by rw [rf_su, Nat.add_assoc]
    have i3 : vp_in (nI j) 3 := vp_in_nI (by omega) (by decide)
    have hhead : ∀ q, pu_br (nI (h + rf_su (fun i => rf_sz (cd i)) (j + 1)) ≤ nI L) (pu_ck (vp_in (nI j) 3) (pu_br ((12 : Int32) ≤ nI (cd j)) (q_Rec_decode_54 (fun v_starts x_2 => q_Rec_decode_127 (nI L) b (nI m) codes v_starts x_2) (nI L) b (nI m) codes f (upd st.1 j (nI (h + rf_su (fun i => rf_sz (cd i)) j))) (nI (h + rf_su (fun i => rf_sz (cd i)) (j + 1))) (nI (j + 1))) (pu_b1 (f_Rec_integer b codes (upd st.1 j (nI (h + rf_su (fun i => rf_sz (cd i)) j))) (nI j)) (fun r8 => pu_b1 (f_RF_codeOf r8) (fun r9 => pu_ck (vp_in (nI j) 3) (pu_br (r9 = nI (cd j)) (q_Rec_decode_54 (fun v_starts x_2 => q_Rec_decode_127 (nI L) b (nI m) codes v_starts x_2) (nI L) b (nI m) codes f (upd st.1 j (nI (h + rf_su (fun i => rf_sz (cd i)) j))) (nI (h + rf_su (fun i => rf_sz (cd i)) (j + 1))) (nI (j + 1))) (some ((0 : Int32), nI m, codes, upd st.1 j (nI (h + rf_su (fun i => rf_sz (cd i)) j)))))))))) (some ((0 : Int32), nI m, codes, upd st.1 j (nI (h + rf_su (fun i => rf_sz (cd i)) j)))) = q → q_Rec_decode_54 (fun v_starts x_2 => q_Rec_decode_127 (nI L) b (nI m) codes v_starts x_2) (nI L) b (nI m) codes (f + 1) st.1 st.2 (nI j) = q := by
      intro q hq
      rw [q_Rec_decode_54, pu_br_f (nI_ge hj (by omega)), pu_ck_t i3, nI_clamp (by omega), h1, pu_nm, pu_ck_t i3, hcd j hj, (rf_valueSize (by omega)).1 (hv j hj), pu_b1_s, nI_add, pu_nm, q_Rec_decode_121, pu_nm, nI_1, ← es]
      exact hq
    have hup : ∀ i, i < j + 1 → upd st.1 j (nI (h + rf_su (fun i => rf_sz (cd i)) j)) i = nI (h + rf_su (fun i => rf_sz (cd i)) i) := by
      intro i hi
      by_cases e : i = j
      · subst e; exact pk_us
      · rw [pk_un e]; exact (h3 i (by omega)).2
    by_cases e1 : h + rf_su (fun i => rf_sz (cd i)) (j + 1) ≤ L
    · have e1' : h + rf_su (fun i => rf_sz (cd i)) j + rf_sz (cd j) ≤ L := by rw [rf_su] at e1; omega
      have hint := rf_integer (r := r) (L := L) (i := j) (cd := cd j) (s := h + rf_su (fun i => rf_sz (cd i)) j) hr hb hL (by omega) (hcd j hj) (hup j (by omega)) (hv j hj) e1'
      have hok : rf_vf r h L cd j → ∃ st' : (Nat → Int32) × Int32, (st'.2 = nI (h + rf_su (fun i => rf_sz (cd i)) (j + 1)) ∧ h + rf_su (fun i => rf_sz (cd i)) (j + 1) ≤ L ∧ ∀ i, i < j + 1 → rf_vf r h L cd i ∧ st'.1 i = nI (h + rf_su (fun i => rf_sz (cd i)) i)) ∧ q_Rec_decode_54 (fun v_starts x_2 => q_Rec_decode_127 (nI L) b (nI m) codes v_starts x_2) (nI L) b (nI m) codes f (upd st.1 j (nI (h + rf_su (fun i => rf_sz (cd i)) j))) (nI (h + rf_su (fun i => rf_sz (cd i)) (j + 1))) (nI (j + 1)) = q_Rec_decode_54 (fun v_starts x_2 => q_Rec_decode_127 (nI L) b (nI m) codes v_starts x_2) (nI L) b (nI m) codes f st'.1 st'.2 (nI (j + 1)) := fun hq =>
        ⟨(upd st.1 j (nI (h + rf_su (fun i => rf_sz (cd i)) j)), nI (h + rf_su (fun i => rf_sz (cd i)) (j + 1))), ⟨rfl, e1, fun i hi => ⟨by
          by_cases e : i = j
          · subst e; exact hq
          · exact (h3 i (by omega)).1, hup i hi⟩⟩, rfl⟩
      by_cases e2 : 12 ≤ cd j
      · obtain ⟨st', q1, q2⟩ := hok ⟨e1, fun _ q => by omega⟩
        refine Or.inl ⟨st', q1, hhead _ ?_⟩
        rw [pu_br_t (nI_le e1 (by omega)), pu_ck_t i3, pu_br_t (show (12 : Int32) ≤ nI (cd j) from nI_le (a := 12) e2 (by omega))]
        exact q2
      · have hcdl := rf_cd_le (if rf_sz (cd j) = 0 then (if cd j = 9 then 1 else 0) else rf_vl r (h + rf_su (fun i => rf_sz (cd i)) j) (rf_sz (cd j)))
        by_cases e3 : rf_cd (if rf_sz (cd j) = 0 then (if cd j = 9 then 1 else 0) else rf_vl r (h + rf_su (fun i => rf_sz (cd i)) j) (rf_sz (cd j))) = cd j
        · obtain ⟨st', q1, q2⟩ := hok ⟨e1, fun q0 _ => by rw [if_neg q0] at e3; exact e3⟩
          refine Or.inl ⟨st', q1, hhead _ ?_⟩
          rw [pu_br_t (nI_le e1 (by omega)), pu_ck_t i3, pu_br_f (show ¬ (12 : Int32) ≤ nI (cd j) from nI_ge (b := 12) (by omega) (by omega)), hint, pu_b1_s, rf_codeOf, pu_b1_s, pu_ck_t i3, pu_br_t (by rw [e3])]
          exact q2
        · refine Or.inr ⟨0, upd st.1 j (nI (h + rf_su (fun i => rf_sz (cd i)) j)), hhead _ ?_, Or.inr ⟨rfl, fun q => ?_⟩⟩
          · rw [pu_br_t (nI_le e1 (by omega)), pu_ck_t i3, pu_br_f (show ¬ (12 : Int32) ≤ nI (cd j) from nI_ge (b := 12) (by omega) (by omega)), hint, pu_b1_s, rf_codeOf, pu_b1_s, pu_ck_t i3, pu_br_f (fun q => e3 ((nI_eq (by omega) (by omega)).mp q))]
          · by_cases z : rf_sz (cd j) = 0
            · rw [if_pos z] at e3; exact e3 (rf_cd_sz0 (hv j hj) (by omega) z)
            · rw [if_neg z] at e3; exact e3 ((q.1 j hj).2 z (by omega))
    · refine Or.inr ⟨0, upd st.1 j (nI (h + rf_su (fun i => rf_sz (cd i)) j)), hhead _ ?_, Or.inr ⟨rfl, fun q => e1 (q.1 j hj).1⟩⟩
      rw [pu_br_f (nI_ge (by omega) (by rw [rf_su]; omega))]
/-- decode: whether the record is as it must be -/
theorem rf_decode {b : Nat → Int32} {r : Nat → Nat} {L : Nat} (hr : ∀ k, r k < 256) (hb : ∀ k, k < L → b k = rf_sx (r k)) (hL : L ≤ 307) (cnt : Int32) (codes starts : Nat → Int32) :
    ∃ (x cnt' : Int32) (codes' starts' : Nat → Int32), f_Rec_decode (nI L) b cnt codes starts = some (x, cnt', codes', starts') ∧ ((x = 1 ∧ ∃ m cd z, rf_wq r L m cd z ∧ cnt' = nI m ∧ ∀ j, j < m → codes' j = nI (cd j) ∧ starts' j = nI (r 0 + rf_su (fun i => rf_sz (cd i)) j)) ∨ (x = 0 ∧ ¬ rf_wr r L)) := by
  have c0 : (0 : Int32).toNatClampNeg = 0 := by decide
  by_cases e0 : L = 0
  · subst e0
    obtain ⟨x, m, codes', cd, z, k1, k2, k3, k4, k5⟩ := rf_decodeCodes (b := b) (codes := codes) (r := r) (L := 0) (h := 0) hr hb hL (Nat.le_refl _) cnt
    have hm : m = 0 ∨ x = -1 := by
      rcases k5 with ⟨q1, q2⟩ | ⟨q1, _⟩
      · rcases (rf_pf_le hr k2).2 with q | q
        · exact Or.inl q
        · omega
      · exact Or.inr q1
    have hne : ¬ x = (0 : Int32) := by
      rcases k5 with ⟨q1, q2⟩ | ⟨q1, q2, q3, q4⟩
      · rw [q1]; have := rf_pf_le hr k2; exact nI_ne0 (by omega) (by omega)
      · omega
    refine ⟨0, nI m, codes', starts, ?_, Or.inr ⟨rfl, fun ⟨m, cd, z, q⟩ => by have := rf_wq_pos q; omega⟩⟩
    rw [f_Rec_decode, pu_br_t (show nI 0 ≤ (0 : Int32) by decide), q_Rec_decode_21, pu_br_t (show (0 : Int32) ≤ nI 0 by decide), show f_Rec_decodeCodes b cnt codes 0 = _ from k1, pu_b3_s, pu_br_f hne]
  · have h21 : f_Rec_decode (nI L) b cnt codes starts = q_Rec_decode_21 (nI L) b cnt codes starts (nI (r 0)) := by
      rw [f_Rec_decode, pu_br_f (nI_nle (by omega) (by omega)), pu_ck_t (by unfold vp_in; decide), c0, hb 0 (by omega), rf_sx_and (hr 0)]
    have hr0 := hr 0
    rw [h21, q_Rec_decode_21]
    by_cases e1 : r 0 ≤ L
    · obtain ⟨x, m, codes', cd, z, k1, k2, k3, k4, k5⟩ := rf_decodeCodes (b := b) (codes := codes) (r := r) (L := L) (h := r 0) hr hb hL e1 cnt
      rw [pu_br_t (nI_le e1 (by omega)), k1, pu_b3_s]
      have hle := rf_pf_le hr k2
      rcases k5 with ⟨q1, q2⟩ | ⟨q1, q2, q3, q4⟩
      · by_cases e2 : 1 + rf_su z m = r 0
        · rw [pu_br_t (by rw [q1, e2])]
          by_cases e3 : m = 0
          · subst e3
            refine ⟨0, nI 0, codes', starts, by rw [pu_br_t (show nI 0 = (0 : Int32) from rfl)], Or.inr ⟨rfl, fun ⟨m', cd', z', q⟩ => ?_⟩⟩
            obtain ⟨w1, w2, w3, w4, w5, w6⟩ := rf_wq_iff.mp q
            have hrd := rf_rd_lt hr (w3 0 (by omega)).1
            have e0 : rf_su z' 0 = 0 := rfl
            have e0' : rf_su z 0 = 0 := rfl
            omega
          · obtain ⟨x2, st', p1, p2⟩ := rf_decode54 (b := b) (codes := codes') (r := r) (L := L) (h := r 0) (m := m) (cd := cd) hr hb hL k3 e1 (fun j hj => (k2 j hj).2) k4 starts
            refine ⟨x2, nI m, codes', st', ?_, ?_⟩
            · rw [pu_br_f (nI_ne0 (by omega) (by omega)), q1, e2]; exact p1
            · rcases p2 with ⟨s1, s2, s3, s4⟩ | ⟨s1, s2⟩
              · exact Or.inl ⟨s1, m, cd, z, rf_wq_iff.mpr ⟨by omega, k3, k2, s2, e2, s3⟩, rfl, fun j hj => ⟨k4 j hj, s4 j hj⟩⟩
              · refine Or.inr ⟨s1, fun ⟨m', cd', z', q⟩ => ?_⟩
                obtain ⟨u1, u2, u3⟩ := rf_wq_uniq hr q k2
                obtain ⟨w1, w2, w3, w4, w5, w6⟩ := rf_wq_iff.mp q
                have hmm : m = m' := by
                  by_cases e : m = m'
                  · exact e
                  · have := rf_rd_lt hr (w3 m (by omega)).1
                    rw [← u2] at this
                    omega
                subst hmm
                refine s2 ⟨fun j hj => ?_, ?_⟩
                · have := w4 j hj
                  unfold rf_vf at this ⊢
                  rw [rf_su_congr (j + 1) (fun i hi => by rw [(u3 i (by omega)).1]), rf_su_congr j (fun i hi => by rw [(u3 i (by omega)).1]), (u3 j hj).1]
                  exact this
                · rw [rf_su_congr m (fun i hi => by rw [(u3 i hi).1])]; exact w6
        · refine ⟨0, nI m, codes', starts, by rw [pu_br_f (by rw [q1]; exact fun q => e2 ((nI_eq (by omega) (by omega)).mp q))], Or.inr ⟨rfl, fun ⟨m', cd', z', q⟩ => ?_⟩⟩
          obtain ⟨u1, u2, u3⟩ := rf_wq_uniq hr q k2
          obtain ⟨w1, w2, w3, w4, w5, w6⟩ := rf_wq_iff.mp q
          by_cases e : m = m'
          · subst e; omega
          · have := rf_rd_lt hr (w3 m (by omega)).1
            rw [← u2] at this
            omega
      · refine ⟨0, nI m, codes', starts, by rw [pu_br_f (by rw [q1]; exact fun q => by have := congrArg Int32.toInt q; rw [nI_toInt (by omega), show (-1 : Int32).toInt = -1 by decide] at this; omega)], Or.inr ⟨rfl, fun ⟨m', cd', z', q⟩ => ?_⟩⟩
        obtain ⟨u1, u2, u3⟩ := rf_wq_uniq hr q k2
        obtain ⟨w1, w2, w3, w4, w5, w6⟩ := rf_wq_iff.mp q
        by_cases e : m = m'
        · subst e; omega
        · have := w3 m (by omega)
          rw [← u2] at this
          exact q4 _ _ this.1 this.2
    · refine ⟨0, cnt, codes, starts, by rw [pu_br_f (nI_ge (by omega) (by omega))], Or.inr ⟨rfl, fun ⟨m, cd, z, q⟩ => by have := rf_wq_pos q; omega⟩⟩
end RFDC
