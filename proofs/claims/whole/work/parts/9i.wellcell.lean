section RFWC
variable {n R : Nat → Nat} {c p : Nat} {arr : Nat → Int32}
theorem rf_mhead {mn : Nat → Int32} (hmn : rf_md mn n) {A x5 : Nat} (h : A + x5 ≤ 1600) (hx : x5 ≤ 24) (kx : (Nat → Int32) → Option (Int32 × Int32 × Int32 × Int32 × (Nat → Int32) × (Nat → Int32))) (od len bad x4 : Int32) (used rec : Nat → Int32) : ∃ rec', q_MD_wellCell_135 kx od mn len (nI A) bad used x4 (nI x5) pu_fu rec 0 = kx rec' ∧ ∀ k, k < x5 → rec' k = nI (n (A + k)) := by
  refine rf_loop (fun f x t => q_MD_wellCell_135 kx od mn len (nI A) bad used x4 (nI x5) f x (nI t)) (fun t x => ∀ k, k < t → x k = nI (n (A + k))) (fun q => ∃ rec', q = kx rec' ∧ ∀ k, k < x5 → rec' k = nI (n (A + k))) x5 ?_ ?_ x5 pu_fu rec 0 (by omega) (by rw [rf_fu]; omega) (fun k hk => by omega)
  · intro f x hx
    refine ⟨x, ?_, hx⟩
    show q_MD_wellCell_135 kx od mn len (nI A) bad used x4 (nI x5) (f + 1) x (nI x5) = _
    rw [q_MD_wellCell_135, pu_br_t (nI_le (Nat.le_refl _) (by omega))]
  · intro f x t ht hx
    refine Or.inl ⟨upd x t (nI (n (A + t))), fun k hk => ?_, ?_⟩
    · by_cases e : k = t
      · rw [e, pk_us]
      · rw [pk_un e]; exact hx k (by omega)
    · show q_MD_wellCell_135 kx od mn len (nI A) bad used x4 (nI x5) (f + 1) x (nI t) = q_MD_wellCell_135 kx od mn len (nI A) bad used x4 (nI x5) f (upd x t (nI (n (A + t)))) (nI (t + 1))
      rw [q_MD_wellCell_135, pu_br_f (nI_ge ht (by omega)), nI_add, pu_ck_t (vp_in_nI (by omega) (by decide)), pu_ck_t (vp_in_nI (by omega) (by decide)), nI_clamp (by omega), nI_clamp (by omega), hmn _ (by omega), pu_nm, nI_1, pu_nm]
/-- the reference holds a leaf's cell against what it must be -/
theorem rf_wellCell {mn : Nat → Int32} (hn : rf_bt n) (hmn : rf_md mn n) (h1 : 1 ≤ p) (h2 : p ≤ c) (hc : c ≤ 24) (hl : rf_lay (rf_gb n c p)) (g13 : rf_gb n c p 0 = 13) {i : Nat} (hi : i < rf_gb n c p 1) (hs : rf_se arr R) (len at' bad : Int32) (rec : Nat → Int32) :
    ∃ k' len' a' b' rec' arr', f_MD_wellCell (nI c) mn len at' bad rec arr (nI p) (nI i) = some (k', len', a', b', rec', arr') ∧ (rf_lw n c (rf_gb n c p) i R ∧ rf_kv (rf_gb n c p) i ≤ 1000000 → k' = nI (rf_kv (rf_gb n c p) i) ∧ rf_se arr' (rf_wks n (rf_cp (rf_cL (rf_gb n c p) i)) (rf_cf (rf_gb n c p) i) R)) ∧ (¬ (rf_lw n c (rf_gb n c p) i R ∧ rf_kv (rf_gb n c p) i ≤ 1000000) → k' = -2) := by
  have e0 : (64 : Int32) * nI p = nI (64 * p) := pk_mul 64 p
  have h30 := hl.2.2.2.1
  have hst := rf_nd_st hl hi
  have bg1 := rf_beginp hmn h1 h2 hc (i := i) (by omega)
  have bg2 := rf_begin hmn h1 h2 hc (i := i) (by omega)
  have gl : ∀ a, rf_gb n c p a < 256 := rf_gb_lt hn c p
  have rdp : ∀ a e, e ≤ 64 → rf_rd n (64 * p + a) (64 * p + e) = rf_rd (rf_gb n c p) a e := fun a e he => rf_gb_rd h1 h2 he
  have hat : ∀ a, a < 64 → rf_gb n c p a = n (64 * p + a) := fun a ha => rf_gb_at h1 h2 ha
  have rcl : ∀ k, rf_rc n (rf_gb n c p) i k < 256 := rf_rc_lt hn gl i
  generalize rf_gb n c p = g at *
  have hd : ∀ q, pu_b3 (f_MD_read 1600 mn (nI (64 * p + rf_st g (i + 1))) 0 (nI (64 * p + rf_st g i))) (fun r5 w6 w7 => pu_b3 (f_MD_read 1600 mn w6 w7 (nI (64 * p + rf_st g i))) (fun r8 w9 w10 => pu_br (w10 = 0) (pu_br (1000000 < r8) (some (-2, r5, w9, w10, rec, arr)) (pu_br (400 < r5) (some (-2, r5, w9, w10, rec, arr)) (pu_br (r5 ≤ 24) (q_MD_wellCell_106 (nI c) mn r5 w9 w10 rec arr r8 (nI (64 * p + rf_st g i) - w9) r5) (q_MD_wellCell_106 (nI c) mn r5 w9 w10 rec arr r8 (nI (64 * p + rf_st g i) - w9) 17)))) (some (-2, r5, w9, w10, rec, arr)))) = q → f_MD_wellCell (nI c) mn len at' bad rec arr (nI p) (nI i) = q := by
    intro q hq
    rw [f_MD_wellCell, bg1, pu_b1_s, e0, nI_add, pu_nm, bg2, pu_b1_s, nI_add, pu_nm]
    exact hq
  -- when it is not as it must be
  have no : ¬ (rf_lw n c g i R ∧ rf_kv g i ≤ 1000000) → (∃ len' a' b' rec' arr', f_MD_wellCell (nI c) mn len at' bad rec arr (nI p) (nI i) = some (-2, len', a', b', rec', arr')) → ∃ k' len' a' b' rec' arr', f_MD_wellCell (nI c) mn len at' bad rec arr (nI p) (nI i) = some (k', len', a', b', rec', arr') ∧ (rf_lw n c g i R ∧ rf_kv g i ≤ 1000000 → k' = nI (rf_kv g i) ∧ rf_se arr' (rf_wks n (rf_cp (rf_cL g i)) (rf_cf g i) R)) ∧ (¬ (rf_lw n c g i R ∧ rf_kv g i ≤ 1000000) → k' = -2) := by
    rintro hno ⟨len', a', b', rec', arr', h⟩
    exact ⟨-2, len', a', b', rec', arr', h, fun q => absurd q hno, fun _ => rfl⟩
  have rd1 := rf_mread4 (N := 1600) (b := mn) (g := n) (s := 64 * p + rf_st g (i + 1)) (e := 64 * p + rf_st g i) hn (fun k hk => hmn k (by omega)) (by omega) (by omega) (by omega)
  rw [rdp _ _ hst.2.1] at rd1
  have eln : rf_ln g i = rf_rd g (rf_st g (i + 1)) (rf_st g i) := rfl
  rcases rd1 with ⟨v, y, q1, q2⟩ | ⟨q1, ⟨s', q2⟩ | ⟨v, v1, v2, v3, q2⟩⟩
  · have lt1 := rf_rd_lt gl q1
    have ecL : rf_cL g i = v := by unfold rf_cL; rw [eln, q1]
    have rd2 := rf_mread4 (N := 1600) (b := mn) (g := n) (s := 64 * p + (rf_st g (i + 1) + y)) (e := 64 * p + rf_st g i) hn (fun k hk => hmn k (by omega)) (by omega) (by omega) (by omega)
    rw [rdp _ _ hst.2.1] at rd2
    rw [Nat.add_assoc] at q2
    rcases rd2 with ⟨k, z, q3, q4⟩ | ⟨q3, ⟨s', q4⟩ | ⟨k, k1, k2, k3, q4⟩⟩
    · have lt2 := rf_rd_lt gl q3
      have eky : rf_ky g i = some (k, z) := by unfold rf_ky; rw [if_pos g13, eln, q1]; exact q3
      have ekv : rf_kv g i = k := by unfold rf_kv; rw [eky]
      rw [ekv] at no ⊢
      by_cases ck : k ≤ 1000000
      case neg =>
        refine no (fun q => ck q.2) ⟨nI v, nI (64 * p + (rf_st g (i + 1) + y) + z), 0, rec, arr, hd _ ?_⟩
        rw [q2, pu_b3_s, q4, pu_b3_s, pu_br_t rfl, pu_br_t (show (1000000 : Int32) < nI k from nI_lt (a := 1000000) (by omega) (by omega))]
      by_cases cL : v ≤ 400
      case neg =>
        refine no (fun q => ?_) ⟨nI v, nI (64 * p + (rf_st g (i + 1) + y) + z), 0, rec, arr, hd _ ?_⟩
        · have := (rf_wr_307 rcl q.1.2.2).1
          omega
        · rw [q2, pu_b3_s, q4, pu_b3_s, pu_br_t rfl, pu_br_f (show ¬ (1000000 : Int32) < nI k from nI_nlt (a := 1000000) ck (by omega)), pu_br_t (show (400 : Int32) < nI v from nI_lt (a := 400) (by omega) (by omega))]
      have esub : nI (64 * p + rf_st g i) - nI (64 * p + (rf_st g (i + 1) + y) + z) = nI (rf_st g i - (rf_st g (i + 1) + y + z)) := by
        rw [pk_sub (by omega)]; congr 1; omega
      have hd2 : ∀ q, (if v ≤ 24 then q_MD_wellCell_106 (nI c) mn (nI v) (nI (64 * p + (rf_st g (i + 1) + y) + z)) 0 rec arr (nI k) (nI (rf_st g i - (rf_st g (i + 1) + y + z))) (nI v) else q_MD_wellCell_106 (nI c) mn (nI v) (nI (64 * p + (rf_st g (i + 1) + y) + z)) 0 rec arr (nI k) (nI (rf_st g i - (rf_st g (i + 1) + y + z))) 17) = q → f_MD_wellCell (nI c) mn len at' bad rec arr (nI p) (nI i) = q := by
        intro q hq
        refine hd q ?_
        rw [q2, pu_b3_s, q4, pu_b3_s, pu_br_t rfl, pu_br_f (show ¬ (1000000 : Int32) < nI k from nI_nlt (a := 1000000) ck (by omega)), pu_br_f (show ¬ (400 : Int32) < nI v from nI_nlt (a := 400) cL (by omega)), esub]
        by_cases e : v ≤ 24
        · rw [if_pos e] at hq
          rw [pu_br_t (show nI v ≤ (24 : Int32) from nI_le (b := 24) e (by omega)), hq]
        · rw [if_neg e] at hq
          rw [pu_br_f (show ¬ nI v ≤ (24 : Int32) from nI_ge (a := 24) (by omega) (by omega)), hq]
      by_cases cf : rf_st g (i + 1) + y + z + (if v ≤ 24 then v else 17) = rf_st g i
      case neg =>
        refine no (fun q => ?_) ⟨nI v, nI (64 * p + (rf_st g (i + 1) + y) + z), 0, rec, arr, hd2 _ ?_⟩
        · obtain ⟨y', k', z', w1, w2, w3⟩ := q.1.1
          rw [eln, q1] at w1
          cases w1
          rw [q3] at w2
          cases w2
          rw [ecL] at w3
          exact cf w3
        · by_cases e : v ≤ 24
          · rw [if_pos e] at cf ⊢
            rw [q_MD_wellCell_106, pu_br_f (fun q => cf (by have := (nI_eq (by omega) (by omega)).mp q; omega))]
          · rw [if_neg e] at cf ⊢
            rw [q_MD_wellCell_106, pu_br_f (show ¬ nI (rf_st g i - (rf_st g (i + 1) + y + z)) = (17 : Int32) from fun q => cf (by have := (nI_eq (b := 17) (by omega) (by omega)).mp q; omega))]
      have cf0 : rf_cf0 g i := ⟨y, k, z, by rw [eln, ecL]; exact q1, q3, by rw [ecL]; exact cf⟩
      have ecb : rf_cb g i = rf_st g (i + 1) + y + z := by unfold rf_cb; rw [ecL]; omega
      -- the end, both ways
      have fin : ∀ rec' arr', (∀ j, j < v → rec' j = nI (rf_rc n g i j)) → rf_wk n c (rf_zf v) (rf_cp v) 0 (rf_cf g i) R → rf_se arr' (rf_wks n (rf_cp v) (rf_cf g i) R) → f_MD_wellCell (nI c) mn len at' bad rec arr (nI p) (nI i) = q_MD_wellCell_316 (nI c) mn (nI v) (nI (64 * p + (rf_st g (i + 1) + y) + z)) 0 rec' arr' (nI k) (nI 0) → ∃ k' len' a' b' rec' arr', f_MD_wellCell (nI c) mn len at' bad rec arr (nI p) (nI i) = some (k', len', a', b', rec', arr') ∧ (rf_lw n c g i R ∧ k ≤ 1000000 → k' = nI k ∧ rf_se arr' (rf_wks n (rf_cp (rf_cL g i)) (rf_cf g i) R)) ∧ (¬ (rf_lw n c g i R ∧ k ≤ 1000000) → k' = -2) := by
        intro rec' arr' hrec hwk hse heq
        obtain ⟨a3, b3, q5⟩ := rf_wellRecord (r := rf_rc n g i) (L := v) rcl hrec (by omega) (nI (64 * p + (rf_st g (i + 1) + y) + z)) 0
        by_cases cw : rf_wr (rf_rc n g i) v
        · rw [rf_dv_t cw] at q5
          refine ⟨nI k, nI v, a3, b3, rec', arr', ?_, fun _ => ⟨rfl, by rw [ecL]; exact hse⟩, fun q => ?_⟩
          · rw [heq, q_MD_wellCell_316, pu_br_t (show nI 0 = (0 : Int32) from rfl), q5, pu_b3_s, pu_br_f (by decide)]
          · exact absurd ⟨⟨cf0, by rw [ecL]; exact hwk, by rw [ecL]; exact cw⟩, ck⟩ q
        · rw [rf_dv_f cw] at q5
          refine ⟨-2, nI v, a3, b3, rec', arr', ?_, fun q => ?_, fun _ => rfl⟩
          · rw [heq, q_MD_wellCell_316, pu_br_t (show nI 0 = (0 : Int32) from rfl), q5, pu_b3_s, pu_br_t (show nI 0 = (0 : Int32) from rfl)]
          · have := q.1.2.2
            rw [ecL] at this
            exact absurd this cw
      by_cases e : v ≤ 24
      · -- no chain
        rw [if_pos e] at cf hd2
        have cp0 : rf_cp v = 0 := by unfold rf_cp; rw [if_pos e]
        have cfz : rf_cf g i = 0 := by unfold rf_cf; rw [ecL, if_pos e]
        obtain ⟨rec', m1, m2⟩ := rf_mhead hmn (A := 64 * p + (rf_st g (i + 1) + y) + z) (x5 := v) (by omega) e (fun v_record => q_MD_wellCell_167 (nI c) mn (nI v) (nI (64 * p + (rf_st g (i + 1) + y) + z)) 0 v_record arr (nI k) (nI v)) (nI c) (nI v) 0 (nI k) arr rec
        refine fin rec' arr (fun j hj => ?_) (by rw [cp0, cfz]; rfl) (by rw [cp0]; exact hs) (hd2 _ ?_)
        · rw [m2 j hj]
          unfold rf_rc
          rw [ecL, if_pos (Or.inl e), ecb, hat _ (by omega)]
          congr 2; omega
        · rw [q_MD_wellCell_106, pu_br_t (by congr 1; omega), pu_br_t (show nI v ≤ (24 : Int32) from nI_le (b := 24) e (by omega)), q_MD_wellCell_130, m1, q_MD_wellCell_167, pu_br_t (show nI v ≤ (24 : Int32) from nI_le (b := 24) e (by omega)), q_MD_wellCell_192, show pu_fu = 1999 + 1 from rfl, q_MD_wellCell_194, pu_br_t (nI_le (Nat.le_refl _) (by omega))]
          rfl
      · rw [if_neg e] at cf hd2
        have cfz : rf_cf g i = g (rf_st g i - 1) := by unfold rf_cf; rw [ecL, if_neg e]
        obtain ⟨rec1, m1, m2⟩ := rf_mhead hmn (A := 64 * p + (rf_st g (i + 1) + y) + z) (x5 := 16) (by omega) (by omega) (fun v_record => q_MD_wellCell_167 (nI c) mn (nI v) (nI (64 * p + (rf_st g (i + 1) + y) + z)) 0 v_record arr (nI k) (nI 16)) (nI c) (nI v) 0 (nI k) arr rec
        have pg : mn (64 * p + (rf_st g (i + 1) + y) + z + 16) = nI (rf_cf g i) := by
          rw [hmn _ (by omega), cfz, hat _ (by omega)]
          congr 2; omega
        have heq : f_MD_wellCell (nI c) mn len at' bad rec arr (nI p) (nI i) = q_MD_wellCell_194 (fun v_record v_used x_6 => q_MD_wellCell_316 (nI c) mn (nI v) (nI (64 * p + (rf_st g (i + 1) + y) + z)) 0 v_record v_used (nI k) x_6) (nI c) mn (nI v) (nI (64 * p + (rf_st g (i + 1) + y) + z)) 0 (nI k) pu_fu rec1 arr (nI 16) (nI (rf_cf g i)) := by
          refine hd2 _ ?_
          rw [q_MD_wellCell_106, pu_br_t (show nI (rf_st g i - (rf_st g (i + 1) + y + z)) = (17 : Int32) by rw [show rf_st g i - (rf_st g (i + 1) + y + z) = 17 by omega]; rfl), pu_br_f (show ¬ nI v ≤ (24 : Int32) from nI_ge (a := 24) (by omega) (by omega)), q_MD_wellCell_130, show (16 : Int32) = nI 16 from rfl, m1, q_MD_wellCell_167, pu_br_f (show ¬ nI v ≤ (24 : Int32) from nI_ge (a := 24) (by omega) (by omega)), show (16 : Int32) = nI 16 from rfl, nI_add, pu_ck_t (vp_in_nI (by omega) (by decide)), nI_clamp (by omega), pg, q_MD_wellCell_192]
        obtain ⟨c1, c2⟩ := rf_mchain2 hn hmn hc (L := v) (f := rf_cf g i) (by omega) cL (nI (64 * p + (rf_st g (i + 1) + y) + z)) 0 (nI k) (rf_cp v) 0 pu_fu (rf_cf g i) R arr rec1 (by omega) (by rw [rf_fu]; unfold rf_cp; split <;> omega) (by rw [cfz]; exact gl _) rfl hs (fun k _ _ h => by omega)
        rw [Nat.mul_zero, Nat.add_zero, if_pos (by omega)] at c1 c2
        by_cases cw : rf_wk n c (rf_zf v) (rf_cp v) 0 (rf_cf g i) R
        · obtain ⟨rec', arr', d1, d2, d3, d4⟩ := c1 cw
          refine fin rec' arr' (fun j hj => ?_) cw d2 (by rw [heq]; exact d1)
          unfold rf_rc
          rw [ecL]
          by_cases j16 : j < 16
          · rw [if_pos (Or.inr j16), d3 j j16, m2 j j16, ecb, hat _ (by omega)]
            congr 2; omega
          · rw [if_neg (by omega), d4 j (by omega) hj]
        · obtain ⟨a3, b3, rec', arr', d1⟩ := c2 cw
          refine no (fun q => cw ?_) ⟨nI v, a3, b3, rec', arr', by rw [heq]; exact d1⟩
          have := q.1.2.1
          rw [ecL] at this
          exact this
    · refine no (fun q => ?_) ⟨nI v, s', 1, rec, arr, hd _ ?_⟩
      · obtain ⟨y', k', z', w1, w2, w3⟩ := q.1.1
        rw [eln, q1] at w1
        cases w1
        rw [q3] at w2
        cases w2
      · rw [q2, pu_b3_s, q4, pu_b3_s, pu_br_f (by decide)]
    · refine no (fun q => ?_) ⟨nI v, nI (64 * p + (rf_st g (i + 1) + y) + 4), 0, rec, arr, hd _ ?_⟩
      · obtain ⟨y', k', z', w1, w2, w3⟩ := q.1.1
        rw [eln, q1] at w1
        cases w1
        rw [q3] at w2
        cases w2
      · rw [q2, pu_b3_s, q4, pu_b3_s, pu_br_t rfl, pu_br_t (show (1000000 : Int32) < nI k from nI_lt (a := 1000000) (by omega) (by omega))]
  · refine no (fun q => ?_) ⟨0, s', 1, rec, arr, hd _ ?_⟩
    · obtain ⟨y', k', z', w1, w2, w3⟩ := q.1.1
      rw [eln, q1] at w1
      cases w1
    · rw [q2, pu_b3_s, rf_mread_bad, pu_b3_s, pu_br_f (by decide)]
  · have nf : ¬ (rf_lw n c g i R ∧ rf_kv g i ≤ 1000000) := fun q => by
      obtain ⟨y', k', z', w1, w2, w3⟩ := q.1.1
      rw [eln, q1] at w1
      cases w1
    rcases rf_mread4 (N := 1600) (b := mn) (g := n) (s := 64 * p + rf_st g (i + 1) + 4) (e := 64 * p + rf_st g i) hn (fun k hk => hmn k (by omega)) (by omega) (by omega) (by omega) with ⟨k, z, q3, q4⟩ | ⟨q3, ⟨s', q4⟩ | ⟨k, k1, k2, k3, q4⟩⟩
    · have lt2 := rf_rd_lt hn q3
      refine no nf ⟨nI v, nI (64 * p + rf_st g (i + 1) + 4 + z), 0, rec, arr, hd _ ?_⟩
      rw [q2, pu_b3_s, q4, pu_b3_s, pu_br_t rfl]
      by_cases ck : 1000000 < k
      · rw [pu_br_t (show (1000000 : Int32) < nI k from nI_lt (a := 1000000) ck (by omega))]
      · rw [pu_br_f (show ¬ (1000000 : Int32) < nI k from nI_nlt (a := 1000000) (by omega) (by omega)), pu_br_t (show (400 : Int32) < nI v from nI_lt (a := 400) (by omega) (by omega))]
    · refine no nf ⟨nI v, s', 1, rec, arr, hd _ ?_⟩
      rw [q2, pu_b3_s, q4, pu_b3_s, pu_br_f (by decide)]
    · refine no nf ⟨nI v, nI (64 * p + rf_st g (i + 1) + 4 + 4), 0, rec, arr, hd _ ?_⟩
      rw [q2, pu_b3_s, q4, pu_b3_s, pu_br_t rfl, pu_br_t (show (1000000 : Int32) < nI k from nI_lt (a := 1000000) (by omega) (by omega))]
end RFWC
