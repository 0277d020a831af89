section RFDF
variable {n : Nat → Nat} {c p : Nat}
/-- what a leaf still holds from a turn on -/
def rf_xL (n : Nat → Nat) (c p u low : Nat) : Prop := ∀ j, u ≤ j → j < rf_gb n c p 1 → rf_cl n c (rf_gb n c p) j ∧ rf_zt n (rf_gb n c p) j ∧ (if j = u then low else rf_kv (rf_gb n c p) (j - 1) + 1) ≤ rf_kv (rf_gb n c p) j ∧ rf_kv (rf_gb n c p) j ≤ 1000000
/-- what an inner page still holds from a turn on -/
def rf_xI (n : Nat → Nat) (c D p u low : Nat) : Prop := (1 ≤ u → u ≤ rf_gb n c p 1 → rf_ci (rf_gb n c p) (u - 1) ∧ low ≤ rf_kv (rf_gb n c p) (u - 1) + 1 ∧ rf_kv (rf_gb n c p) (u - 1) ≤ 1000000) ∧
  ∀ j, u ≤ j → j < rf_gb n c p 1 + 1 → rf_tr n c D (rf_kid (rf_gb n c p) j) ∧ rf_ke n c D (rf_kid (rf_gb n c p) j) (rf_lo (rf_gb n c p) low j) ∧ (j < rf_gb n c p 1 → rf_ci (rf_gb n c p) j ∧ rf_mE n c D (rf_kid (rf_gb n c p) j) (rf_lo (rf_gb n c p) low j) ≤ rf_kv (rf_gb n c p) j + 1 ∧ rf_kv (rf_gb n c p) j ≤ 1000000)
/-- the reference's walk goes on above -/
def rf_dgo (c : Nat) (mn : Nat → Int32) (fu : Nat) (len : Int32) (d : Nat) (at' bad : Int32) (rec way turn arr : Nat → Int32) (rows low : Nat) (R R' : Nat → Nat) (rows' low' lose : Nat) : Prop :=
  ∃ (fu' : Nat) (len' a' b' : Int32) (rec' way' turn' arr' : Nat → Int32), q_MD_wellTree_54 (nI c) mn fu len (nI d) at' bad rec way turn arr (nI rows) (rf_lz low) = q_MD_wellTree_54 (nI c) mn fu' len' (rf_lz d) a' b' rec' way' turn' arr' (nI rows') (rf_lz low') ∧ rf_se arr' R' ∧ (∀ j, j < d → way' j = way j ∧ turn' j = turn j) ∧ fu + 33 * rf_su R 25 ≤ fu' + 33 * rf_su R' 25 + lose
/-- the reference's walk refuses -/
def rf_dno (c : Nat) (mn : Nat → Int32) (fu : Nat) (len : Int32) (d : Nat) (at' bad : Int32) (rec way turn arr : Nat → Int32) (rows low : Nat) : Prop :=
  ∃ (len' d' a' b' : Int32) (rec' way' turn' arr' : Nat → Int32), q_MD_wellTree_54 (nI c) mn fu len (nI d) at' bad rec way turn arr (nI rows) (rf_lz low) = some (-1, len', d', a', b', rec', way', turn', arr')
theorem rf_dstep {mn : Nat → Int32} (hn : rf_bt n) (hmn : rf_md mn n) (hc : c ≤ 24) (h2 : 2 ≤ p) (hp : p ≤ c) {u d fu : Nat} {way turn : Nat → Int32} (hd : d < 40) (hw : way d = nI p) (ht : turn d = nI u) (len at' bad : Int32) (rec arr : Nat → Int32) (x1 x2 : Int32) :
    q_MD_wellTree_54 (nI c) mn (fu + 1) len (nI d) at' bad rec way turn arr x1 x2 = q_MD_wellTree_113 (q_MD_wellTree_54 (nI c) mn fu) (nI c) mn len (nI d) at' bad rec way turn arr x1 x2 (nI p) (nI u) (nI (rf_gb n c p 1)) (if rf_gb n c p 0 = 5 then 1 else 0) := by
  have e0 : (64 : Int32) * nI p = nI (64 * p) := pk_mul 64 p
  have hat : ∀ a, a < 64 → mn (64 * p + a) = nI (rf_gb n c p a) := fun a ha => by rw [rf_gb_at (by omega) hp ha]; exact hmn _ (by omega)
  have hat0 : mn (64 * p) = nI (rf_gb n c p 0) := hat 0 (by omega)
  have b0 : rf_gb n c p 0 < 256 := by rw [rf_gb_at (by omega) hp (by omega)]; exact hn _
  rw [q_MD_wellTree_54, pu_br_f (show ¬ nI d < (0 : Int32) from nI_nlt (b := 0) (by omega) (by omega)), pu_ck_t (vp_in_nI hd (by omega)), nI_clamp (by omega), hw, pu_nm, pu_ck_t (vp_in_nI hd (by omega)), ht, pu_nm, e0, nI_1, pu_ck_t (vp_in_nI (by omega) (by omega)), nI_clamp (by omega), hat 1 (by omega), pu_nm, pu_ck_t (vp_in_nI (by omega) (by omega)), nI_clamp (by omega), hat0]
  by_cases k : rf_gb n c p 0 = 5
  · rw [if_pos k, k, pu_br_t (show nI 5 = (5 : Int32) from rfl)]
  · rw [if_neg k, pu_br_f (show ¬ nI (rf_gb n c p 0) = (5 : Int32) from fun q => k ((nI_eq (b := 5) (by omega) (by omega)).mp q))]
theorem rf_dleaf {mn : Nat → Int32} (hn : rf_bt n) (hmn : rf_md mn n) (hc : c ≤ 24) (h2 : 2 ≤ p) (hp : p ≤ c) (hl : rf_lay (rf_gb n c p)) (g13 : rf_gb n c p 0 = 13) : ∀ m u fu d rows low (R : Nat → Nat) (len at' bad : Int32) (rec way turn arr : Nat → Int32), u + m = rf_gb n c p 1 → m < fu → d < 40 → low ≤ 1000001 → rf_se arr R → way d = nI p → turn d = nI u →
    (rf_xL n c p u low ∧ (∀ q, R q + rf_su (fun j => rf_lq n (rf_gb n c p) q (u + j)) (rf_gb n c p 1 - u) ≤ 1) ∧ rf_dgo c mn fu len d at' bad rec way turn arr rows low R (fun q => R q + rf_su (fun j => rf_lq n (rf_gb n c p) q (u + j)) (rf_gb n c p 1 - u)) (rows + (rf_gb n c p 1 - u)) (if u < rf_gb n c p 1 then rf_kv (rf_gb n c p) (rf_gb n c p 1 - 1) + 1 else low) (rf_gb n c p 1 + 1 - u)) ∨
    (¬ (rf_xL n c p u low ∧ ∀ q, R q + rf_su (fun j => rf_lq n (rf_gb n c p) q (u + j)) (rf_gb n c p 1 - u) ≤ 1) ∧ rf_dno c mn fu len d at' bad rec way turn arr rows low) := by
  have h30 := hl.2.2.2.1
  have b1 : rf_gb n c p 1 < 256 := by rw [rf_gb_at (by omega) hp (by omega)]; exact hn _
  have n5 : ¬ rf_gb n c p 0 = 5 := by omega
  intro m
  induction m with
  | zero =>
    intro u fu d rows low R len at' bad rec way turn arr hu hf hd hlow hs hw ht
    obtain ⟨fu, rfl⟩ : ∃ f, fu = f + 1 := ⟨fu - 1, by omega⟩
    refine Or.inl ⟨fun j h1 h2 => by omega, fun q => ?_, fu, len, at', bad, rec, way, upd turn d (nI (u + 1)), arr, ?_, ?_, fun j hj => ⟨rfl, pk_un (by omega)⟩, ?_⟩
    · rw [show rf_gb n c p 1 - u = 0 by omega]; exact hs.1 q
    · rw [rf_dstep hn hmn hc h2 hp hd hw ht, if_neg n5, q_MD_wellTree_113, pu_ck_t (vp_in_nI hd (by omega)), pu_ck_t (vp_in_nI hd (by omega)), nI_clamp (by omega), ht, nI_1, pu_nm, pu_br_t (show (0 : Int32) = 0 from rfl), q_MD_wellTree_167, pu_br_f (nI_nlt (by omega) (by omega)), pu_br_t (show (0 : Int32) = 0 from rfl), pu_br_t (show nI u = nI (rf_gb n c p 1) by rw [show u = rf_gb n c p 1 by omega]), q_MD_wellTree_186, pu_nm, q_MD_wellTree_290, if_neg (by omega), show rf_gb n c p 1 - u = 0 by omega, Nat.add_zero]
      rfl
    · rw [show rf_gb n c p 1 - u = 0 by omega]; exact hs
    · rw [show rf_gb n c p 1 - u = 0 by omega]
      show fu + 1 + 33 * rf_su R 25 ≤ fu + 33 * rf_su R 25 + (rf_gb n c p 1 + 1 - u)
      omega
  | succ m ih =>
    intro u fu d rows low R len at' bad rec way turn arr hu hf hd hlow hs hw ht
    obtain ⟨fu, rfl⟩ : ∃ f, fu = f + 1 := ⟨fu - 1, by omega⟩
    have hul : u < rf_gb n c p 1 := by omega
    obtain ⟨k', len', a', b', rec', arr', w1, w2, w3⟩ := rf_wellCell hn hmn (by omega) hp hc hl g13 hul hs len at' bad rec
    have hg : ∀ k, rf_gb n c p k < 256 := fun k => rf_gb_lt hn _ _ _
    have lwi := rf_lw_iff (n := n) (c := c) (R := R) (g := rf_gb n c p) (i := u) hn hg hs.1
    have start : q_MD_wellTree_54 (nI c) mn (fu + 1) len (nI d) at' bad rec way turn arr (nI rows) (rf_lz low) = pu_br (rf_lz low < k') (q_MD_wellTree_54 (nI c) mn fu len' (nI d) a' b' rec' way (upd turn d (nI (u + 1))) arr' (nI (rows + 1)) k') (some (-1, len', nI d, a', b', rec', way, upd turn d (nI (u + 1)), arr')) := by
      rw [rf_dstep hn hmn hc h2 hp hd hw ht, if_neg n5, q_MD_wellTree_113, pu_ck_t (vp_in_nI hd (by omega)), pu_ck_t (vp_in_nI hd (by omega)), nI_clamp (by omega), ht, nI_1, pu_nm, pu_br_t (show (0 : Int32) = 0 from rfl), q_MD_wellTree_167, pu_br_f (nI_nlt (by omega) (by omega)), pu_br_t (show (0 : Int32) = 0 from rfl), pu_br_f (show ¬ nI u = nI (rf_gb n c p 1) from fun q => by have := (nI_eq (by omega) (by omega)).mp q; omega), q_MD_wellTree_199, pu_br_t (show (0 : Int32) = 0 from rfl), w1, pu_b6_s, nI_1, pu_nm, q_MD_wellTree_290]
    by_cases ok : rf_lw n c (rf_gb n c p) u R ∧ rf_kv (rf_gb n c p) u ≤ 1000000
    case neg =>
      refine Or.inr ⟨fun q => ok ?_, len', nI d, a', b', rec', way, upd turn d (nI (u + 1)), arr', ?_⟩
      · obtain ⟨q1, q2⟩ := q
        obtain ⟨y1, y2, _, y4⟩ := q1 u (Nat.le_refl _) hul
        refine ⟨lwi.mpr ⟨y1, fun q => ?_, y2⟩, y4⟩
        have := q2 q
        rw [rf_su_from (f := fun j => rf_lq n (rf_gb n c p) q j) hul] at this
        omega
      · rw [start, w3 ok, pu_br_f]
        rw [Int32.lt_iff_toInt_lt, rf_lz, show (-2 : Int32).toInt = -2 by decide]
        have := pk_sub_toInt (a := low) (b := 1) (by omega) (by omega)
        rw [show (nI low - 1 : Int32).toInt = (low : Int) - 1 from this]
        omega
    obtain ⟨e1, e2⟩ := w2 ok
    have lt : rf_lz low < k' ↔ low ≤ rf_kv (rf_gb n c p) u := by
      rw [e1, Int32.lt_iff_toInt_lt, rf_lz, show (nI low - 1 : Int32).toInt = (low : Int) - 1 from pk_sub_toInt (a := low) (b := 1) (by omega) (by omega), nI_toInt (by omega)]
      omega
    obtain ⟨o1, o2, o3⟩ := lwi.mp ok.1
    by_cases ol : low ≤ rf_kv (rf_gb n c p) u
    case neg =>
      refine Or.inr ⟨fun q => ol ?_, len', nI d, a', b', rec', way, upd turn d (nI (u + 1)), arr', ?_⟩
      · have := (q.1 u (Nat.le_refl _) hul).2.2.1
        rw [if_pos rfl] at this
        exact this
      · rw [start, pu_br_f (fun q => ol (lt.mp q))]
    have eR : rf_wks n (rf_cp (rf_cL (rf_gb n c p) u)) (rf_cf (rf_gb n c p) u) R = fun q => R q + rf_lq n (rf_gb n c p) q u := by
      funext q
      rw [rf_wks_hc]
      rfl
    rw [eR] at e2
    have X : rf_xL n c p u low ↔ rf_xL n c p (u + 1) (rf_kv (rf_gb n c p) u + 1) := by
      constructor
      · intro h j j1 j2
        obtain ⟨y1, y2, y3, y4⟩ := h j (by omega) j2
        refine ⟨y1, y2, ?_, y4⟩
        rw [if_neg (by omega)] at y3
        by_cases e : j = u + 1
        · rw [if_pos e]; rw [e, Nat.add_sub_cancel] at y3; rw [e]; exact y3
        · rw [if_neg e]; exact y3
      · intro h j j1 j2
        by_cases e : j = u
        · rw [if_pos e, e]; exact ⟨o1, o3, ol, ok.2⟩
        · obtain ⟨y1, y2, y3, y4⟩ := h j (by omega) j2
          refine ⟨y1, y2, ?_, y4⟩
          rw [if_neg e]
          by_cases e2 : j = u + 1
          · rw [if_pos e2] at y3; rw [e2, Nat.add_sub_cancel]; rw [e2] at y3; exact y3
          · rw [if_neg e2] at y3; exact y3
    have S : ∀ q, R q + rf_lq n (rf_gb n c p) q u + rf_su (fun j => rf_lq n (rf_gb n c p) q (u + 1 + j)) (rf_gb n c p 1 - (u + 1)) = R q + rf_su (fun j => rf_lq n (rf_gb n c p) q (u + j)) (rf_gb n c p 1 - u) := fun q => by
      rw [rf_su_from (f := fun j => rf_lq n (rf_gb n c p) q j) hul]; omega
    have eqn : q_MD_wellTree_54 (nI c) mn (fu + 1) len (nI d) at' bad rec way turn arr (nI rows) (rf_lz low) = q_MD_wellTree_54 (nI c) mn fu len' (nI d) a' b' rec' way (upd turn d (nI (u + 1))) arr' (nI (rows + 1)) (rf_lz (rf_kv (rf_gb n c p) u + 1)) := by
      rw [start, pu_br_t (lt.mpr ol), e1, rf_lz_s]
    rcases ih (u + 1) fu d (rows + 1) (rf_kv (rf_gb n c p) u + 1) (fun q => R q + rf_lq n (rf_gb n c p) q u) len' a' b' rec' way (upd turn d (nI (u + 1))) arr' (by omega) (by omega) hd (by omega) e2 hw (pk_us) with ⟨r1, r2, r3⟩ | ⟨r1, r2⟩
    · obtain ⟨fu', l2, a2, b2, rec2, way2, turn2, arr2, s1, s2, s3, s4⟩ := r3
      refine Or.inl ⟨X.mpr r1, fun q => by rw [← S q]; exact r2 q, fu', l2, a2, b2, rec2, way2, turn2, arr2, ?_, ?_, fun j hj => ?_, ?_⟩
      · rw [eqn, s1, if_pos hul, show rows + 1 + (rf_gb n c p 1 - (u + 1)) = rows + (rf_gb n c p 1 - u) by omega]
        by_cases e : u + 1 < rf_gb n c p 1
        · rw [if_pos e]
        · rw [if_neg e, show u = rf_gb n c p 1 - 1 by omega]
      · rw [show (fun q => R q + rf_su (fun j => rf_lq n (rf_gb n c p) q (u + j)) (rf_gb n c p 1 - u)) = _ from (funext S).symm]
        exact s2
      · obtain ⟨t1, t2⟩ := s3 j hj
        exact ⟨t1, t2.trans (pk_un (by omega))⟩
      · rw [show (fun q => R q + rf_su (fun j => rf_lq n (rf_gb n c p) q (u + j)) (rf_gb n c p 1 - u)) = _ from (funext S).symm]
        have := rf_su_le25 (R := R) (R' := fun q => R q + rf_lq n (rf_gb n c p) q u) (fun q => Nat.le_add_right _ _)
        omega
    · refine Or.inr ⟨fun q => r1 ⟨X.mp q.1, fun x => by rw [S x]; exact q.2 x⟩, ?_⟩
      obtain ⟨l2, d2, a2, b2, rec2, way2, turn2, arr2, s1⟩ := r2
      exact ⟨l2, d2, a2, b2, rec2, way2, turn2, arr2, by rw [eqn, s1]⟩
end RFDF
