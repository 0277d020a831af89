section RFEN
/-- pieces, one behind another -/
def rf_cat (z : Nat → Nat) (x : Nat → Nat → Nat) : Nat → Nat → Nat
  | 0, _ => 0
  | m + 1, a => if rf_su z m ≤ a ∧ a < rf_su z (m + 1) then x m (a - rf_su z m) else rf_cat z x m a
theorem rf_cat_at {z : Nat → Nat} {x : Nat → Nat → Nat} : ∀ {m j t}, j < m → t < z j → rf_cat z x m (rf_su z j + t) = x j t
  | 0, _, _, h, _ => by omega
  | m + 1, j, t, hj, ht => by
    have hm : rf_su z (m + 1) = rf_su z m + z m := rfl
    rw [rf_cat]
    by_cases e : j = m
    · subst e
      rw [if_pos (by omega), Nat.add_sub_cancel_left]
    · have h2 : rf_su z (j + 1) ≤ rf_su z m := rf_su_le_of (by omega)
      rw [rf_su] at h2
      rw [if_neg (by omega)]
      exact rf_cat_at (by omega) ht
theorem rf_cat_lt {z : Nat → Nat} {x : Nat → Nat → Nat} (hx : ∀ j k, x j k < 256) : ∀ m a, rf_cat z x m a < 256
  | 0, _ => by rw [rf_cat]; omega
  | m + 1, a => by
    rw [rf_cat]
    split
    · exact hx _ _
    · exact rf_cat_lt hx m a
/-- one column, with its code and its bytes -/
def rf_cq (j cd : Nat) (vv : Nat → Nat) (codes : Nat → Int32) (numbers : Nat → Int64) (blobs isBlob : Nat → Int32) (integer : Nat → Int64) (size mblobs : Nat → Int32) : Prop :=
  codes j = nI cd ∧ rf_vc cd ∧ (∀ i, vv i < 256) ∧ ((isBlob j = 0 ∧ cd < 12 ∧ ∃ T, T < 2 ^ 64 ∧ integer j = lN T ∧ numbers j = lN T ∧ cd = rf_cd (lN T) ∧ ∀ i, i < rf_sz cd → vv i = rf_vb T (rf_sz cd - 1 - i)) ∨
    (isBlob j = 1 ∧ size j = nI (rf_sz cd) ∧ 12 ≤ cd ∧ cd = 12 + 2 * rf_sz cd ∧ rf_sz cd ≤ 100 ∧ ∀ i, i < rf_sz cd → mblobs (100 * j + i) = nI (vv i) ∧ blobs (100 * j + i) = rf_sx (vv i)))
theorem rf_col_cq {j : Nat} {codes : Nat → Int32} {numbers : Nat → Int64} {blobs isBlob : Nat → Int32} {integer : Nat → Int64} {size mblobs : Nat → Int32} (h : rf_col j codes numbers blobs isBlob integer size mblobs) : ∃ cd vv, rf_cq j cd vv codes numbers blobs isBlob integer size mblobs := by
  rcases h with ⟨h1, h2, h3⟩ | ⟨h1, z, h2, h3, h4, h5⟩
  · obtain ⟨T, hT, eT⟩ := wb_of (integer j)
    refine ⟨rf_cd (integer j), fun i => rf_vb T (rf_sz (rf_cd (integer j)) - 1 - i), h2, rf_cd_vc _, fun i => rf_vb_lt _ _, Or.inl ⟨h1, rf_cd_lt _, T, hT, eT, by rw [h3]; exact eT, by rw [eT], fun i _ => rfl⟩⟩
  · have hs : rf_sz (12 + 2 * z) = z := by unfold rf_sz; rw [if_pos (by omega)]; omega
    obtain ⟨vv, hv⟩ := Classical.skolem.mp (fun i => show ∃ b, b < 256 ∧ (i < z → mblobs (100 * j + i) = nI b ∧ blobs (100 * j + i) = rf_sx b) from by
      by_cases e : i < z
      · obtain ⟨b, b1, b2, b3⟩ := h5 i e
        exact ⟨b, b1, fun _ => ⟨b2, b3⟩⟩
      · exact ⟨0, by omega, fun q => absurd q e⟩)
    refine ⟨12 + 2 * z, vv, h4, ?_, fun i => (hv i).1, Or.inr ⟨h1, by rw [hs]; exact h3, by omega, by rw [hs], by rw [hs]; exact h2, fun i hi => (hv i).2 (by rw [hs] at hi; exact hi)⟩⟩
    unfold rf_vc
    omega
/-- the record of a draft -/
def rf_hh (K : Nat) (cd : Nat → Nat) : Nat := 1 + rf_su (fun j => rf_vz (cd j)) K
def rf_er (K : Nat) (cd : Nat → Nat) (vv : Nat → Nat → Nat) : Nat → Nat := fun a => if a = 0 then rf_hh K cd else if a < rf_hh K cd then rf_cat (fun j => rf_vz (cd j)) (fun j => rf_ve (cd j)) K (a - 1) else rf_cat (fun j => rf_sz (cd j)) vv K (a - rf_hh K cd)
variable {K : Nat} {cd : Nat → Nat} {vv : Nat → Nat → Nat} {codes : Nat → Int32} {numbers : Nat → Int64} {blobs isBlob : Nat → Int32} {integer : Nat → Int64} {size mblobs : Nat → Int32}
theorem rf_er_c {j t : Nat} (hj : j < K) (ht : t < rf_vz (cd j)) : rf_er K cd vv (1 + rf_su (fun j => rf_vz (cd j)) j + t) = rf_ve (cd j) t := by
  have h2 : rf_su (fun j => rf_vz (cd j)) (j + 1) ≤ rf_su (fun j => rf_vz (cd j)) K := rf_su_le_of (by omega)
  rw [rf_su] at h2
  unfold rf_er
  rw [if_neg (by omega), if_pos (by unfold rf_hh; omega), show 1 + rf_su (fun j => rf_vz (cd j)) j + t - 1 = rf_su (fun j => rf_vz (cd j)) j + t by omega]
  exact rf_cat_at (x := fun j => rf_ve (cd j)) hj ht
theorem rf_er_v {j t : Nat} (hj : j < K) (ht : t < rf_sz (cd j)) : rf_er K cd vv (rf_hh K cd + rf_su (fun j => rf_sz (cd j)) j + t) = vv j t := by
  have : 1 ≤ rf_hh K cd := by unfold rf_hh; omega
  unfold rf_er
  rw [if_neg (by omega), if_neg (by omega), show rf_hh K cd + rf_su (fun j => rf_sz (cd j)) j + t - rf_hh K cd = rf_su (fun j => rf_sz (cd j)) j + t by omega]
  exact rf_cat_at hj ht
theorem rf_vc_le {v : Nat} (h : rf_vc v) : v ≤ 212 ∧ rf_sz v ≤ 100 := by
  unfold rf_vc at h
  unfold rf_sz
  rcases h with h | h | h | h | h | h | h
  all_goals first | (subst h; decide) | (rw [if_pos (by omega)]; omega)
theorem rf_enc_sz (hc : ∀ j, j < K → rf_vc (cd j)) : ∀ m, m ≤ K → rf_su (fun j => rf_vz (cd j)) m ≤ 2 * m ∧ rf_su (fun j => rf_sz (cd j)) m ≤ 100 * m
  | 0, _ => ⟨Nat.le_refl _, Nat.le_refl _⟩
  | m + 1, h => by
    obtain ⟨a, b⟩ := rf_enc_sz hc m (by omega)
    have v := rf_vc_le (hc m (by omega))
    have z : rf_vz (cd m) ≤ 2 := by
      unfold rf_vz
      by_cases c1 : cd m < 128
      · rw [if_pos c1]; omega
      · rw [if_neg c1, if_pos (by omega)]; omega
    rw [rf_su, rf_su]
    omega
theorem rf_er_lt (hK : K ≤ 3) (hq : ∀ j, j < K → rf_vc (cd j)) (hv : ∀ j k, vv j k < 256) (a : Nat) : rf_er K cd vv a < 256 := by
  have := (rf_enc_sz hq K (Nat.le_refl _)).1
  unfold rf_er rf_hh
  split
  · omega
  · split
    · exact rf_cat_lt (fun j k => rf_ve_lt _ _) _ _
    · exact rf_cat_lt hv _ _
/-- the record is as it must be -/
theorem rf_er_wq (h1 : 1 ≤ K) (hK : K ≤ 3) (hq : ∀ j, j < K → rf_cq j (cd j) (vv j) codes numbers blobs isBlob integer size mblobs) : rf_wq (rf_er K cd vv) (rf_hh K cd + rf_su (fun j => rf_sz (cd j)) K) K cd (fun j => rf_vz (cd j)) := by
  have e0 : rf_er K cd vv 0 = rf_hh K cd := rfl
  refine ⟨h1, hK, fun j hj => ?_, by rw [e0]; rfl, by rw [e0]⟩
  obtain ⟨q1, q2, q3, q4⟩ := hq j hj
  have v := rf_vc_le q2
  have h2 : rf_su (fun j => rf_vz (cd j)) (j + 1) ≤ rf_su (fun j => rf_vz (cd j)) K := rf_su_le_of (by omega)
  rw [rf_su] at h2
  refine ⟨?_, q2, fun hz h12 => ?_⟩
  · rw [e0]
    exact rf_rd_ve (by omega) (by unfold rf_hh; omega) (fun t ht => rf_er_c hj ht)
  · rcases q4 with ⟨_, _, T, t1, t2, t3, t4, t5⟩ | ⟨_, _, t, _⟩
    · rw [e0]
      rw [t4] at hz t5
      have := rf_vl_cd (r := rf_er K cd vv) (base := rf_hh K cd + rf_su (fun i => rf_sz (cd i)) j) t1 hz (fun i hi => by
        rw [← t4] at hi
        rw [rf_er_v hj hi, t5 i (by rw [← t4]; exact hi)])
      rw [← t4] at this
      exact this
    · omega
theorem rf_er_f (hq : ∀ j, j < K → rf_vc (cd j)) (hK : K ≤ 3) : rf_hh K cd ≤ 7 ∧ rf_hh K cd + rf_su (fun j => rf_sz (cd j)) K ≤ 307 := by
  have := rf_enc_sz hq K (Nat.le_refl _)
  unfold rf_hh
  omega
/-- the class makes the record -/
theorem rf_encode (h1 : 1 ≤ K) (hK : K ≤ 3) (hq : ∀ j, j < K → rf_cq j (cd j) (vv j) codes numbers blobs isBlob integer size mblobs) (len : Int32) (bytes : Nat → Int32) :
    ∃ w, f_Rec_encode (nI K) codes numbers blobs len bytes = some (nI (rf_hh K cd + rf_su (fun j => rf_sz (cd j)) K), w) ∧ ∀ a, a < rf_hh K cd + rf_su (fun j => rf_sz (cd j)) K → w a = rf_sx (rf_er K cd vv a) := by
  have hvc : ∀ j, j < K → rf_vc (cd j) := fun j hj => (hq j hj).2.1
  obtain ⟨f1, f2⟩ := rf_er_f hvc hK
  have fz : ∀ m, m ≤ K → _ := fun m hm => rf_enc_sz hvc m hm
  -- the values
  have vals : ∀ st, (∀ a, a < rf_hh K cd → st a = rf_sx (rf_er K cd vv a)) → ∃ w, q_Rec_encode_80 (nI K) codes numbers blobs (nI (rf_hh K cd)) st = some (nI (rf_hh K cd + rf_su (fun j => rf_sz (cd j)) K), w) ∧ ∀ a, a < rf_hh K cd + rf_su (fun j => rf_sz (cd j)) K → w a = rf_sx (rf_er K cd vv a) := by
    intro st hst
    rw [q_Rec_encode_80]
    refine rf_loop (fun f x j => q_Rec_encode_82 (nI K) codes numbers blobs f (nI (rf_hh K cd + rf_su (fun j => rf_sz (cd j)) j)) x (nI j)) (fun j x => ∀ a, a < rf_hh K cd + rf_su (fun j => rf_sz (cd j)) j → x a = rf_sx (rf_er K cd vv a)) (fun r => ∃ w, r = some (nI (rf_hh K cd + rf_su (fun j => rf_sz (cd j)) K), w) ∧ ∀ a, a < rf_hh K cd + rf_su (fun j => rf_sz (cd j)) K → w a = rf_sx (rf_er K cd vv a)) K ?_ ?_ K pu_fu st 0 (by omega) (by rw [rf_fu]; omega) hst
    · intro f x hx
      refine ⟨x, ?_, hx⟩
      show q_Rec_encode_82 (nI K) codes numbers blobs (f + 1) (nI (rf_hh K cd + rf_su (fun j => rf_sz (cd j)) K)) x (nI K) = _
      rw [q_Rec_encode_82, pu_br_t (nI_le (Nat.le_refl _) (by omega))]
    · intro f x j hj hx
      obtain ⟨q1, q2, q3, q4⟩ := hq j hj
      have v := rf_vc_le q2
      have h2 : rf_su (fun j => rf_sz (cd j)) (j + 1) ≤ rf_su (fun j => rf_sz (cd j)) K := rf_su_le_of (by omega)
      have h3 : rf_su (fun j => rf_sz (cd j)) (j + 1) = rf_su (fun j => rf_sz (cd j)) j + rf_sz (cd j) := rfl
      have i3 : vp_in (nI j) 3 := vp_in_nI (by omega) (by decide)
      have val : ∃ y, f_Rec_encodeValue codes numbers blobs (nI (rf_hh K cd + rf_su (fun j => rf_sz (cd j)) j)) x (nI j) = some (nI (rf_hh K cd + rf_su (fun j => rf_sz (cd j)) (j + 1)), y) ∧ ∀ a, a < rf_hh K cd + rf_su (fun j => rf_sz (cd j)) (j + 1) → y a = rf_sx (rf_er K cd vv a) := by
        rw [f_Rec_encodeValue, pu_ck_t i3, nI_clamp (by omega), q1, (rf_valueSize (by omega)).1 q2, pu_b1_s, pu_br_f (nI_pos (by omega)), nI_add, pu_br_t (show nI (rf_hh K cd + rf_su (fun j => rf_sz (cd j)) j + rf_sz (cd j)) ≤ (307 : Int32) from nI_le (b := 307) (by omega) (by omega)), pu_ck_t i3]
        rcases q4 with ⟨_, t0, T, t1, t2, t3, t4, t5⟩ | ⟨_, t0, t1, t2, t3, t4⟩
        · rw [pu_br_t (show nI (cd j) < (12 : Int32) from nI_lt (b := 12) t0 (by omega))]
          have s8 : rf_sz (cd j) ≤ 8 := by
            by_cases e : rf_sz (cd j) = 0
            · omega
            · rw [t4] at e ⊢; exact (rf_cd_rg t1 e).2.1
          have lp : ∃ y, q_Rec_encodeValue_64 (fun v_bytes => q_Rec_encodeValue_106 codes numbers blobs (nI (rf_hh K cd + rf_su (fun j => rf_sz (cd j)) j)) v_bytes (nI (rf_sz (cd j)))) codes numbers blobs (nI (rf_hh K cd + rf_su (fun j => rf_sz (cd j)) j)) (nI j) (nI (rf_sz (cd j))) pu_fu x 0 = q_Rec_encodeValue_106 codes numbers blobs (nI (rf_hh K cd + rf_su (fun j => rf_sz (cd j)) j)) y (nI (rf_sz (cd j))) ∧ ∀ a, a < rf_hh K cd + rf_su (fun j => rf_sz (cd j)) (j + 1) → y a = rf_sx (rf_er K cd vv a) := by
            refine rf_loop (fun f x t => q_Rec_encodeValue_64 (fun v_bytes => q_Rec_encodeValue_106 codes numbers blobs (nI (rf_hh K cd + rf_su (fun j => rf_sz (cd j)) j)) v_bytes (nI (rf_sz (cd j)))) codes numbers blobs (nI (rf_hh K cd + rf_su (fun j => rf_sz (cd j)) j)) (nI j) (nI (rf_sz (cd j))) f x (nI t)) (fun t x => ∀ a, a < rf_hh K cd + rf_su (fun j => rf_sz (cd j)) j + t → x a = rf_sx (rf_er K cd vv a)) (fun r => ∃ y, r = q_Rec_encodeValue_106 codes numbers blobs (nI (rf_hh K cd + rf_su (fun j => rf_sz (cd j)) j)) y (nI (rf_sz (cd j))) ∧ ∀ a, a < rf_hh K cd + rf_su (fun j => rf_sz (cd j)) (j + 1) → y a = rf_sx (rf_er K cd vv a)) (rf_sz (cd j)) ?_ ?_ (rf_sz (cd j)) pu_fu x 0 (by omega) (by rw [rf_fu]; omega) hx
            · intro f y hy
              refine ⟨y, ?_, fun a ha => hy a (by omega)⟩
              show q_Rec_encodeValue_64 (fun v_bytes => q_Rec_encodeValue_106 codes numbers blobs (nI (rf_hh K cd + rf_su (fun j => rf_sz (cd j)) j)) v_bytes (nI (rf_sz (cd j)))) codes numbers blobs (nI (rf_hh K cd + rf_su (fun j => rf_sz (cd j)) j)) (nI j) (nI (rf_sz (cd j))) (f + 1) y (nI (rf_sz (cd j))) = _
              rw [q_Rec_encodeValue_64, pu_br_t (nI_le (Nat.le_refl _) (by omega))]
            · intro f y t ht hy
              refine Or.inl ⟨upd y (rf_hh K cd + rf_su (fun j => rf_sz (cd j)) j + t) (rf_sx (rf_er K cd vv (rf_hh K cd + rf_su (fun j => rf_sz (cd j)) j + t))), fun a ha => ?_, ?_⟩
              · by_cases e : a = rf_hh K cd + rf_su (fun j => rf_sz (cd j)) j + t
                · subst e; rw [pk_us]
                · rw [pk_un e]; exact hy a (by omega)
              · show q_Rec_encodeValue_64 (fun v_bytes => q_Rec_encodeValue_106 codes numbers blobs (nI (rf_hh K cd + rf_su (fun j => rf_sz (cd j)) j)) v_bytes (nI (rf_sz (cd j)))) codes numbers blobs (nI (rf_hh K cd + rf_su (fun j => rf_sz (cd j)) j)) (nI j) (nI (rf_sz (cd j))) (f + 1) y (nI t) = q_Rec_encodeValue_64 (fun v_bytes => q_Rec_encodeValue_106 codes numbers blobs (nI (rf_hh K cd + rf_su (fun j => rf_sz (cd j)) j)) v_bytes (nI (rf_sz (cd j)))) codes numbers blobs (nI (rf_hh K cd + rf_su (fun j => rf_sz (cd j)) j)) (nI j) (nI (rf_sz (cd j))) f (upd y (rf_hh K cd + rf_su (fun j => rf_sz (cd j)) j + t) (rf_sx (rf_er K cd vv (rf_hh K cd + rf_su (fun j => rf_sz (cd j)) j + t)))) (nI (t + 1))
                have es : (8 : Int32) * ((nI (rf_sz (cd j)) - 1) - nI t) = nI (8 * (rf_sz (cd j) - 1 - t)) := by
                  rw [show nI (rf_sz (cd j)) - (1 : Int32) = nI (rf_sz (cd j) - 1) from pk_sub (b := 1) (by omega), pk_sub (by omega)]
                  exact pk_mul 8 _
                rw [q_Rec_encodeValue_64, pu_br_f (nI_ge ht (by omega)), pu_ck_t i3, nI_add, pu_ck_t (vp_in_nI (by omega) (by decide)), nI_clamp (by omega), nI_clamp (n := j) (by omega), t3, es, rf_nar, rf_cbyte T _ t1 (by omega), ← t5 t ht, ← rf_er_v (vv := vv) hj ht, pu_nm, nI_1, pu_nm]
          obtain ⟨y, y1, y2⟩ := lp
          refine ⟨y, ?_, y2⟩
          rw [y1, q_Rec_encodeValue_106, nI_add, pu_nm, h3, Nat.add_assoc]
        · rw [pu_br_f (show ¬ nI (cd j) < (12 : Int32) from nI_nlt (b := 12) (by omega) (by omega)), show nI j * (100 : Int32) = nI (j * 100) from pk_mul j 100, pu_ck_t (rf_cpyok (by omega) (by omega) (by decide) (by decide) (fun i hi => ⟨vv j i, by rw [Nat.mul_comm j 100]; exact (t4 i hi).2⟩)), nI_clamp (by omega), nI_clamp (by omega), nI_clamp (by omega), pu_nm, q_Rec_encodeValue_106, nI_add, pu_nm]
          refine ⟨_, by rw [h3, Nat.add_assoc], fun a ha => ?_⟩
          by_cases e : a < rf_hh K cd + rf_su (fun j => rf_sz (cd j)) j
          · rw [pk_cpy_out (Or.inl e)]; exact hx a e
          · obtain ⟨t, rfl⟩ : ∃ t, a = rf_hh K cd + rf_su (fun j => rf_sz (cd j)) j + t := ⟨a - (rf_hh K cd + rf_su (fun j => rf_sz (cd j)) j), by omega⟩
            rw [pk_cpy_in (by omega) (by omega), Nat.add_sub_cancel_left, Nat.mul_comm j 100, (t4 t (by omega)).2, rf_er_v hj (by omega)]
      obtain ⟨y, y1, y2⟩ := val
      refine Or.inl ⟨y, y2, ?_⟩
      show q_Rec_encode_82 (nI K) codes numbers blobs (f + 1) (nI (rf_hh K cd + rf_su (fun j => rf_sz (cd j)) j)) x (nI j) = q_Rec_encode_82 (nI K) codes numbers blobs f (nI (rf_hh K cd + rf_su (fun j => rf_sz (cd j)) (j + 1))) y (nI (j + 1))
      rw [q_Rec_encode_82, pu_br_f (nI_ge hj (by omega)), y1, pu_b2_s, nI_1, pu_nm]
  -- the codes
  have cods : ∀ st, st 0 = rf_sx (rf_er K cd vv 0) → ∃ w, q_Rec_encode_45 (fun v_length v_bytes => q_Rec_encode_80 (nI K) codes numbers blobs v_length v_bytes) (nI K) codes numbers blobs pu_fu (nI 1) st 0 = q_Rec_encode_80 (nI K) codes numbers blobs (nI (rf_hh K cd)) w ∧ ∀ a, a < rf_hh K cd → w a = rf_sx (rf_er K cd vv a) := by
    intro st hst
    refine rf_loop (fun f x j => q_Rec_encode_45 (fun v_length v_bytes => q_Rec_encode_80 (nI K) codes numbers blobs v_length v_bytes) (nI K) codes numbers blobs f (nI (1 + rf_su (fun j => rf_vz (cd j)) j)) x (nI j)) (fun j x => ∀ a, a < 1 + rf_su (fun j => rf_vz (cd j)) j → x a = rf_sx (rf_er K cd vv a)) (fun r => ∃ w, r = q_Rec_encode_80 (nI K) codes numbers blobs (nI (rf_hh K cd)) w ∧ ∀ a, a < rf_hh K cd → w a = rf_sx (rf_er K cd vv a)) K ?_ ?_ K pu_fu st 0 (by omega) (by rw [rf_fu]; omega) (fun a ha => by rw [show a = 0 by have : rf_su (fun j => rf_vz (cd j)) 0 = 0 := rfl; omega]; exact hst)
    · intro f x hx
      refine ⟨x, ?_, hx⟩
      show q_Rec_encode_45 (fun v_length v_bytes => q_Rec_encode_80 (nI K) codes numbers blobs v_length v_bytes) (nI K) codes numbers blobs (f + 1) (nI (1 + rf_su (fun j => rf_vz (cd j)) K)) x (nI K) = _
      rw [q_Rec_encode_45, pu_br_t (nI_le (Nat.le_refl _) (by omega))]
      rfl
    · intro f x j hj hx
      obtain ⟨q1, q2, q3, q4⟩ := hq j hj
      have v := rf_vc_le q2
      have h2 : rf_su (fun j => rf_vz (cd j)) (j + 1) ≤ rf_su (fun j => rf_vz (cd j)) K := rf_su_le_of (by omega)
      have h3 : rf_su (fun j => rf_vz (cd j)) (j + 1) = rf_su (fun j => rf_vz (cd j)) j + rf_vz (cd j) := rfl
      have hhd : rf_hh K cd = 1 + rf_su (fun j => rf_vz (cd j)) K := rfl
      obtain ⟨y, y1, y2, y3⟩ := rf_writeVarint (N := 307) (b := x) (s := 1 + rf_su (fun j => rf_vz (cd j)) j) (v := cd j) (by omega) (by omega) (by omega)
      refine Or.inl ⟨y, fun a ha => ?_, ?_⟩
      · by_cases e : a < 1 + rf_su (fun j => rf_vz (cd j)) j
        · rw [y3 a (Or.inl e)]; exact hx a e
        · obtain ⟨t, rfl⟩ : ∃ t, a = 1 + rf_su (fun j => rf_vz (cd j)) j + t := ⟨a - (1 + rf_su (fun j => rf_vz (cd j)) j), by omega⟩
          rw [y2 t (by omega), rf_er_c hj (by omega)]
      · show q_Rec_encode_45 (fun v_length v_bytes => q_Rec_encode_80 (nI K) codes numbers blobs v_length v_bytes) (nI K) codes numbers blobs (f + 1) (nI (1 + rf_su (fun j => rf_vz (cd j)) j)) x (nI j) = q_Rec_encode_45 (fun v_length v_bytes => q_Rec_encode_80 (nI K) codes numbers blobs v_length v_bytes) (nI K) codes numbers blobs f (nI (1 + rf_su (fun j => rf_vz (cd j)) (j + 1))) y (nI (j + 1))
        rw [q_Rec_encode_45, pu_br_f (nI_ge hj (by omega)), pu_ck_t (vp_in_nI (by omega) (by decide)), nI_clamp (by omega), q1, y1, pu_b2_s, nI_1, pu_nm, h3, Nat.add_assoc 1]
  -- the head
  have head : q_Rec_encode_4 (fun x_2 => q_Rec_encode_30 (nI K) codes numbers blobs len bytes x_2) (nI K) codes numbers blobs len bytes pu_fu 1 0 = q_Rec_encode_30 (nI K) codes numbers blobs len bytes (nI (rf_hh K cd)) := by
    refine rf_loop (fun f x j => q_Rec_encode_4 (fun x_2 => q_Rec_encode_30 (nI K) codes numbers blobs len bytes x_2) (nI K) codes numbers blobs len bytes f x (nI j)) (fun j x => x = nI (1 + rf_su (fun j => rf_vz (cd j)) j)) (fun r => r = q_Rec_encode_30 (nI K) codes numbers blobs len bytes (nI (rf_hh K cd))) K ?_ ?_ K pu_fu 1 0 (by omega) (by rw [rf_fu]; omega) rfl
    · intro f x hx
      show q_Rec_encode_4 (fun x_2 => q_Rec_encode_30 (nI K) codes numbers blobs len bytes x_2) (nI K) codes numbers blobs len bytes (f + 1) x (nI K) = _
      rw [q_Rec_encode_4, pu_br_t (nI_le (Nat.le_refl _) (by omega)), hx]
      rfl
    · intro f x j hj hx
      obtain ⟨q1, q2, q3, q4⟩ := hq j hj
      have v := rf_vc_le q2
      refine Or.inl ⟨nI (1 + rf_su (fun j => rf_vz (cd j)) (j + 1)), rfl, ?_⟩
      show q_Rec_encode_4 (fun x_2 => q_Rec_encode_30 (nI K) codes numbers blobs len bytes x_2) (nI K) codes numbers blobs len bytes (f + 1) x (nI j) = q_Rec_encode_4 (fun x_2 => q_Rec_encode_30 (nI K) codes numbers blobs len bytes x_2) (nI K) codes numbers blobs len bytes f (nI (1 + rf_su (fun j => rf_vz (cd j)) (j + 1))) (nI (j + 1))
      rw [q_Rec_encode_4, pu_br_f (nI_ge hj (by omega)), pu_ck_t (vp_in_nI (by omega) (by decide)), nI_clamp (by omega), q1, rf_varintSize (by omega), pu_b1_s, hx, nI_add, pu_nm, nI_1, pu_nm, Nat.add_assoc 1]
      rfl
  have hvz : rf_vz (rf_hh K cd) = 1 := by unfold rf_vz; rw [if_pos (by omega)]
  obtain ⟨w0, a1, a2, a3⟩ := rf_writeVarint (N := 307) (b := bytes) (s := 0) (v := rf_hh K cd) (by omega) (by omega) (by omega)
  have a20 := a2 0 (by omega)
  have ve0 : rf_ve (rf_hh K cd) 0 = rf_hh K cd := by
    unfold rf_ve
    rw [hvz, if_neg (by omega)]
    show rf_hh K cd / 1 % 128 + 0 = _
    omega
  rw [ve0, Nat.add_zero] at a20
  obtain ⟨w1, b1, b2⟩ := cods w0 a20
  obtain ⟨w2, c1, c2⟩ := vals w1 b2
  refine ⟨w2, ?_, c2⟩
  rw [f_Rec_encode, head, q_Rec_encode_30, show (0 : Int32) = nI 0 from rfl, a1, pu_b2_s, hvz, Nat.zero_add, show nI 0 = (0 : Int32) from rfl, b1, c1]
end RFEN
