section RFME
variable {K : Nat} {cd : Nat → Nat} {vv : Nat → Nat → Nat} {codes : Nat → Int32} {numbers : Nat → Int64} {blobs isBlob : Nat → Int32} {integer : Nat → Int64} {size mblobs : Nat → Int32}
/-- the reference makes the record -/
theorem rf_mencode (h1 : 1 ≤ K) (hK : K ≤ 3) (hq : ∀ j, j < K → rf_cq j (cd j) (vv j) codes numbers blobs isBlob integer size mblobs) (len : Int32) (rec : Nat → Int32) :
    ∃ w, f_MD_encode (nI K) isBlob integer size mblobs len rec = some (nI (rf_hh K cd + rf_su (fun j => rf_sz (cd j)) K), w) ∧ ∀ a, a < rf_hh K cd + rf_su (fun j => rf_sz (cd j)) K → w a = nI (rf_er K cd vv a) := by
  have hvc : ∀ j, j < K → rf_vc (cd j) := fun j hj => (hq j hj).2.1
  obtain ⟨f1, f2⟩ := rf_er_f hvc hK
  -- the values
  have vals : ∀ st, (∀ a, a < rf_hh K cd → st a = nI (rf_er K cd vv a)) → ∃ w, q_MD_encode_80 (nI K) isBlob integer size mblobs pu_fu (nI (rf_hh K cd)) st 0 = some (nI (rf_hh K cd + rf_su (fun j => rf_sz (cd j)) K), w) ∧ ∀ a, a < rf_hh K cd + rf_su (fun j => rf_sz (cd j)) K → w a = nI (rf_er K cd vv a) := by
    intro st hst
    refine rf_loop (fun f x j => q_MD_encode_80 (nI K) isBlob integer size mblobs f (nI (rf_hh K cd + rf_su (fun j => rf_sz (cd j)) j)) x (nI j)) (fun j x => ∀ a, a < rf_hh K cd + rf_su (fun j => rf_sz (cd j)) j → x a = nI (rf_er K cd vv a)) (fun r => ∃ w, r = some (nI (rf_hh K cd + rf_su (fun j => rf_sz (cd j)) K), w) ∧ ∀ a, a < rf_hh K cd + rf_su (fun j => rf_sz (cd j)) K → w a = nI (rf_er K cd vv a)) K ?_ ?_ K pu_fu st 0 (by omega) (by rw [rf_fu]; omega) hst
    · intro f x hx
      refine ⟨x, ?_, hx⟩
      show q_MD_encode_80 (nI K) isBlob integer size mblobs (f + 1) (nI (rf_hh K cd + rf_su (fun j => rf_sz (cd j)) K)) x (nI K) = _
      rw [q_MD_encode_80, pu_br_t (nI_le (Nat.le_refl _) (by omega))]
    · intro f x j hj hx
      obtain ⟨q1, q2, q3, q4⟩ := hq j hj
      have v := rf_vc_le q2
      have h2 : rf_su (fun j => rf_sz (cd j)) (j + 1) ≤ rf_su (fun j => rf_sz (cd j)) K := rf_su_le_of (by omega)
      have h3 : rf_su (fun j => rf_sz (cd j)) (j + 1) = rf_su (fun j => rf_sz (cd j)) j + rf_sz (cd j) := rfl
      have i3 : vp_in (nI j) 3 := vp_in_nI (by omega) (by decide)
      -- the bytes of one column
      have val : ∃ y, q_MD_encode_118 (q_MD_encode_80 (nI K) isBlob integer size mblobs f) (nI K) isBlob integer size mblobs (nI (rf_hh K cd + rf_su (fun j => rf_sz (cd j)) j)) x (nI j) (nI (rf_sz (cd j))) = q_MD_encode_80 (nI K) isBlob integer size mblobs f (nI (rf_hh K cd + rf_su (fun j => rf_sz (cd j)) (j + 1))) y (nI (j + 1)) ∧ ∀ a, a < rf_hh K cd + rf_su (fun j => rf_sz (cd j)) (j + 1) → y a = nI (rf_er K cd vv a) := by
        rw [q_MD_encode_118]
        refine rf_loop (fun f' x t => q_MD_encode_121 (fun v_record => q_MD_encode_186 (q_MD_encode_80 (nI K) isBlob integer size mblobs f) (nI K) isBlob integer size mblobs (nI (rf_hh K cd + rf_su (fun j => rf_sz (cd j)) j)) v_record (nI j) (nI (rf_sz (cd j)))) (nI K) isBlob integer size mblobs (nI (rf_hh K cd + rf_su (fun j => rf_sz (cd j)) j)) (nI j) (nI (rf_sz (cd j))) f' x (nI t)) (fun t x => ∀ a, a < rf_hh K cd + rf_su (fun j => rf_sz (cd j)) j + t → x a = nI (rf_er K cd vv a)) (fun r => ∃ y, r = q_MD_encode_80 (nI K) isBlob integer size mblobs f (nI (rf_hh K cd + rf_su (fun j => rf_sz (cd j)) (j + 1))) y (nI (j + 1)) ∧ ∀ a, a < rf_hh K cd + rf_su (fun j => rf_sz (cd j)) (j + 1) → y a = nI (rf_er K cd vv a)) (rf_sz (cd j)) ?_ ?_ (rf_sz (cd j)) pu_fu x 0 (by omega) (by rw [rf_fu]; omega) hx
        · intro f' y hy
          refine ⟨y, ?_, fun a ha => hy a (by omega)⟩
          show q_MD_encode_121 (fun v_record => q_MD_encode_186 (q_MD_encode_80 (nI K) isBlob integer size mblobs f) (nI K) isBlob integer size mblobs (nI (rf_hh K cd + rf_su (fun j => rf_sz (cd j)) j)) v_record (nI j) (nI (rf_sz (cd j)))) (nI K) isBlob integer size mblobs (nI (rf_hh K cd + rf_su (fun j => rf_sz (cd j)) j)) (nI j) (nI (rf_sz (cd j))) (f' + 1) y (nI (rf_sz (cd j))) = _
          rw [q_MD_encode_121, pu_br_t (nI_le (Nat.le_refl _) (by omega)), q_MD_encode_186, nI_add, pu_nm, nI_1, pu_nm, h3, Nat.add_assoc]
        · intro f' y t ht hy
          refine Or.inl ⟨upd y (rf_hh K cd + rf_su (fun j => rf_sz (cd j)) j + t) (nI (rf_er K cd vv (rf_hh K cd + rf_su (fun j => rf_sz (cd j)) j + t))), fun a ha => ?_, ?_⟩
          · by_cases e : a = rf_hh K cd + rf_su (fun j => rf_sz (cd j)) j + t
            · subst e; rw [pk_us]
            · rw [pk_un e]; exact hy a (by omega)
          · show q_MD_encode_121 (fun v_record => q_MD_encode_186 (q_MD_encode_80 (nI K) isBlob integer size mblobs f) (nI K) isBlob integer size mblobs (nI (rf_hh K cd + rf_su (fun j => rf_sz (cd j)) j)) v_record (nI j) (nI (rf_sz (cd j)))) (nI K) isBlob integer size mblobs (nI (rf_hh K cd + rf_su (fun j => rf_sz (cd j)) j)) (nI j) (nI (rf_sz (cd j))) (f' + 1) y (nI t) = q_MD_encode_121 (fun v_record => q_MD_encode_186 (q_MD_encode_80 (nI K) isBlob integer size mblobs f) (nI K) isBlob integer size mblobs (nI (rf_hh K cd + rf_su (fun j => rf_sz (cd j)) j)) v_record (nI j) (nI (rf_sz (cd j)))) (nI K) isBlob integer size mblobs (nI (rf_hh K cd + rf_su (fun j => rf_sz (cd j)) j)) (nI j) (nI (rf_sz (cd j))) f' (upd y (rf_hh K cd + rf_su (fun j => rf_sz (cd j)) j + t) (nI (rf_er K cd vv (rf_hh K cd + rf_su (fun j => rf_sz (cd j)) j + t)))) (nI (t + 1))
            rw [q_MD_encode_121, pu_br_f (nI_ge ht (by omega)), pu_ck_t i3, nI_clamp (by omega), rf_er_v hj ht]
            rcases q4 with ⟨t0, _, T, t1, t2, t3, t4, t5⟩ | ⟨t0, _, _, _, _, t4⟩
            · have s8 : rf_sz (cd j) ≤ 8 := by
                have e : ¬ rf_sz (cd j) = 0 := by omega
                rw [t4] at e ⊢; exact (rf_cd_rg t1 e).2.1
              have es : (8 : Int32) * ((nI (rf_sz (cd j)) - 1) - nI t) = nI (8 * (rf_sz (cd j) - 1 - t)) := by
                rw [show nI (rf_sz (cd j)) - (1 : Int32) = nI (rf_sz (cd j) - 1) from pk_sub (b := 1) (by omega), pk_sub (by omega)]
                exact pk_mul 8 _
              rw [pu_br_t t0, pu_ck_t i3, t2, es, rf_mbyte T _ t1 (by omega), ← t5 t ht, q_MD_encode_179, nI_add, pu_ck_t (vp_in_nI (by omega) (by decide)), nI_clamp (by omega), pu_nm, nI_1, pu_nm]
            · rw [pu_br_f (by rw [t0]; decide), show (100 : Int32) * nI j = nI (100 * j) from pk_mul 100 j, nI_add, pu_ck_t (vp_in_nI (by omega) (by decide)), nI_clamp (by omega), (t4 t ht).1, q_MD_encode_179, nI_add, pu_ck_t (vp_in_nI (by omega) (by decide)), nI_clamp (by omega), pu_nm, nI_1, pu_nm]
      obtain ⟨y, y1, y2⟩ := val
      refine Or.inl ⟨y, y2, ?_⟩
      show q_MD_encode_80 (nI K) isBlob integer size mblobs (f + 1) (nI (rf_hh K cd + rf_su (fun j => rf_sz (cd j)) j)) x (nI j) = q_MD_encode_80 (nI K) isBlob integer size mblobs f (nI (rf_hh K cd + rf_su (fun j => rf_sz (cd j)) (j + 1))) y (nI (j + 1))
      rw [q_MD_encode_80, pu_br_f (nI_ge hj (by omega)), pu_ck_t i3, nI_clamp (by omega)]
      rcases q4 with ⟨t0, _, T, t1, t2, t3, t4, t5⟩ | ⟨t0, t1, _, _, _, t4⟩
      · rw [pu_br_t t0, pu_ck_t i3, t2, rf_mcodeOf, pu_b1_s, ← t4, rf_bytesOf (by omega), pu_b1_s, y1]
      · rw [pu_br_f (by rw [t0]; decide), pu_ck_t i3, t1, y1]
  -- the codes
  have cods : ∃ w, q_MD_encode_7 (fun v_length v_record => q_MD_encode_68 (nI K) isBlob integer size mblobs v_length v_record) (nI K) isBlob integer size mblobs pu_fu 1 rec 0 = q_MD_encode_68 (nI K) isBlob integer size mblobs (nI (rf_hh K cd)) w ∧ ∀ a, 1 ≤ a → a < rf_hh K cd → w a = nI (rf_er K cd vv a) := by
    refine rf_loop (fun f x j => q_MD_encode_7 (fun v_length v_record => q_MD_encode_68 (nI K) isBlob integer size mblobs v_length v_record) (nI K) isBlob integer size mblobs f (nI (1 + rf_su (fun j => rf_vz (cd j)) j)) x (nI j)) (fun j x => ∀ a, 1 ≤ a → a < 1 + rf_su (fun j => rf_vz (cd j)) j → x a = nI (rf_er K cd vv a)) (fun r => ∃ w, r = q_MD_encode_68 (nI K) isBlob integer size mblobs (nI (rf_hh K cd)) w ∧ ∀ a, 1 ≤ a → a < rf_hh K cd → w a = nI (rf_er K cd vv a)) K ?_ ?_ K pu_fu rec 0 (by omega) (by rw [rf_fu]; omega) (fun a h1 ha => by have : rf_su (fun j => rf_vz (cd j)) 0 = 0 := rfl; omega)
    · intro f x hx
      refine ⟨x, ?_, hx⟩
      show q_MD_encode_7 (fun v_length v_record => q_MD_encode_68 (nI K) isBlob integer size mblobs v_length v_record) (nI K) isBlob integer size mblobs (f + 1) (nI (1 + rf_su (fun j => rf_vz (cd j)) K)) x (nI K) = _
      rw [q_MD_encode_7, pu_br_t (nI_le (Nat.le_refl _) (by omega))]
      rfl
    · intro f x j hj hx
      obtain ⟨q1, q2, q3, q4⟩ := hq j hj
      have v := rf_vc_le q2
      have h2 : rf_su (fun j => rf_vz (cd j)) (j + 1) ≤ rf_su (fun j => rf_vz (cd j)) K := rf_su_le_of (by omega)
      have h3 : rf_su (fun j => rf_vz (cd j)) (j + 1) = rf_su (fun j => rf_vz (cd j)) j + rf_vz (cd j) := rfl
      have hhd : rf_hh K cd = 1 + rf_su (fun j => rf_vz (cd j)) K := rfl
      obtain ⟨y, y1, y2, y3⟩ := rf_mvarint (N := 700) (b := x) (s := 1 + rf_su (fun j => rf_vz (cd j)) j) (v := cd j) (by omega) (by omega) (by omega)
      have i3 : vp_in (nI j) 3 := vp_in_nI (by omega) (by decide)
      refine Or.inl ⟨y, fun a h1 ha => ?_, ?_⟩
      · by_cases e : a < 1 + rf_su (fun j => rf_vz (cd j)) j
        · rw [y3 a (Or.inl e)]; exact hx a h1 e
        · obtain ⟨t, rfl⟩ : ∃ t, a = 1 + rf_su (fun j => rf_vz (cd j)) j + t := ⟨a - (1 + rf_su (fun j => rf_vz (cd j)) j), by omega⟩
          rw [y2 t (by omega), rf_er_c hj (by omega)]
      · show q_MD_encode_7 (fun v_length v_record => q_MD_encode_68 (nI K) isBlob integer size mblobs v_length v_record) (nI K) isBlob integer size mblobs (f + 1) (nI (1 + rf_su (fun j => rf_vz (cd j)) j)) x (nI j) = q_MD_encode_7 (fun v_length v_record => q_MD_encode_68 (nI K) isBlob integer size mblobs v_length v_record) (nI K) isBlob integer size mblobs f (nI (1 + rf_su (fun j => rf_vz (cd j)) (j + 1))) y (nI (j + 1))
        rw [q_MD_encode_7, pu_br_f (nI_ge hj (by omega)), pu_ck_t i3, nI_clamp (by omega)]
        rcases q4 with ⟨t0, _, T, t1, t2, t3, t4, t5⟩ | ⟨t0, t1, _, t3, _, t4⟩
        · rw [pu_br_t t0, pu_ck_t i3, t2, rf_mcodeOf, pu_b1_s, ← t4, q_MD_encode_56, y1, pu_b2_s, nI_1, pu_nm, h3, Nat.add_assoc 1]
        · rw [pu_br_f (by rw [t0]; decide), pu_ck_t i3, t1, show (2 : Int32) * nI (rf_sz (cd j)) = nI (2 * rf_sz (cd j)) from pk_mul 2 _, show (12 : Int32) + nI (2 * rf_sz (cd j)) = nI (12 + 2 * rf_sz (cd j)) from nI_add 12 _, ← t3, q_MD_encode_56, y1, pu_b2_s, nI_1, pu_nm, h3, Nat.add_assoc 1]
  obtain ⟨w1, b1, b2⟩ := cods
  obtain ⟨w2, c1, c2⟩ := vals (upd w1 0 (nI (rf_hh K cd))) (fun a ha => by
    by_cases e : a = 0
    · subst e; rw [pk_us]; rfl
    · rw [pk_un e]; exact b2 a (by omega) ha)
  refine ⟨w2, ?_, c2⟩
  have c0 : (0 : Int32).toNatClampNeg = 0 := by decide
  rw [f_MD_encode, b1, q_MD_encode_68, pu_ck_t (by unfold vp_in; decide), c0, pu_nm, c1]
end RFME
