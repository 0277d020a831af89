section RFDH
variable {n : Nat → Nat} {c p : Nat}
/-- an inner page's step, up to the kid -/
theorem rf_dkey {mn : Nat → Int32} (hn : rf_bt n) (hmn : rf_md mn n) (hc : c ≤ 24) (h2 : 2 ≤ p) (hp : p ≤ c) (hl : rf_lay (rf_gb n c p)) (g5 : rf_gb n c p 0 = 5) {u fu d rows low : Nat} (hu : u < rf_gb n c p 1 + 1) (hd : d < 40) (hlow : low ≤ 1000001) {len at' bad : Int32} {rec way turn arr : Nat → Int32} (hw : way d = nI p) (ht : turn d = nI u) :
    (rf_xu n c p u low → ∃ a' b', q_MD_wellTree_54 (nI c) mn (fu + 1) len (nI d) at' bad rec way turn arr (nI rows) (rf_lz low) = q_MD_wellTree_199 (q_MD_wellTree_54 (nI c) mn fu) (nI c) mn len (nI d) a' b' rec way (upd turn d (nI (u + 1))) arr (nI rows) (rf_lz (rf_lo (rf_gb n c p) low u)) (nI p) (nI u) 1) ∧ (¬ rf_xu n c p u low → rf_dno c mn (fu + 1) len d at' bad rec way turn arr rows low) := by
  have h30 := hl.2.2.2.1
  have hd0 : q_MD_wellTree_54 (nI c) mn (fu + 1) len (nI d) at' bad rec way turn arr (nI rows) (rf_lz low) = _ := rf_dstep hn hmn hc h2 hp hd hw ht len at' bad rec arr (nI rows) (rf_lz low)
  rw [if_pos g5, q_MD_wellTree_113, pu_ck_t (vp_in_nI hd (by omega)), pu_ck_t (vp_in_nI hd (by omega)), nI_clamp (by omega), ht, nI_1, pu_nm, pu_br_f (show ¬ (1 : Int32) = 0 by decide)] at hd0
  have go : ∀ a' b' x2, q_MD_wellTree_167 (q_MD_wellTree_54 (nI c) mn fu) (nI c) mn len (nI d) a' b' rec way (upd turn d (nI (u + 1))) arr (nI rows) x2 (nI p) (nI u) (nI (rf_gb n c p 1)) 1 = q_MD_wellTree_199 (q_MD_wellTree_54 (nI c) mn fu) (nI c) mn len (nI d) a' b' rec way (upd turn d (nI (u + 1))) arr (nI rows) x2 (nI p) (nI u) 1 := by
    intro a' b' x2
    rw [q_MD_wellTree_167, pu_br_f (nI_nlt (by omega) (by omega)), pu_br_f (show ¬ (1 : Int32) = 0 by decide)]
  by_cases u0 : u = 0
  · refine ⟨fun _ => ⟨at', bad, ?_⟩, fun q => absurd (fun k => by omega) q⟩
    rw [hd0, pu_br_t (show nI u ≤ (0 : Int32) from nI_le (b := 0) (by omega) (by omega)), go]
    unfold rf_lo
    rw [if_pos u0]
  · obtain ⟨k', a', b', w1, w2, w3⟩ := rf_innerKey hn hmn (by omega) hp hc hl g5 (show u - 1 < rf_gb n c p 1 by omega) at' bad
    have e1 : nI u - 1 = nI (u - 1) := pk_sub (a := u) (b := 1) (by omega)
    rw [pu_br_f (show ¬ nI u ≤ (0 : Int32) from nI_ge (a := 0) (by omega) (by omega)), pu_br_f (nI_nlt (by omega) (by omega)), e1, w1, pu_b3_s] at hd0
    by_cases ok : rf_ci (rf_gb n c p) (u - 1) ∧ rf_kv (rf_gb n c p) (u - 1) ≤ 1000000
    case neg =>
      refine ⟨fun q => absurd ⟨(q (by omega)).1, (q (by omega)).2.2⟩ ok, fun _ => ⟨len, nI d, a', b', rec, way, upd turn d (nI (u + 1)), arr, ?_⟩⟩
      rw [hd0, w3 ok, pu_br_f]
      rw [Int32.le_iff_toInt_le, rf_lz, show (-2 : Int32).toInt = -2 by decide, show (nI low - 1 : Int32).toInt = (low : Int) - 1 from pk_sub_toInt (a := low) (b := 1) (by omega) (by omega)]
      omega
    have e2 := w2 ok
    have le : rf_lz low ≤ k' ↔ low ≤ rf_kv (rf_gb n c p) (u - 1) + 1 := by
      rw [e2, Int32.le_iff_toInt_le, rf_lz, show (nI low - 1 : Int32).toInt = (low : Int) - 1 from pk_sub_toInt (a := low) (b := 1) (by omega) (by omega), nI_toInt (by omega)]
      omega
    by_cases ol : low ≤ rf_kv (rf_gb n c p) (u - 1) + 1
    · refine ⟨fun _ => ⟨a', b', ?_⟩, fun q => absurd (fun _ => ⟨ok.1, ol, ok.2⟩) q⟩
      rw [hd0, pu_br_t (le.mpr ol), go]
      unfold rf_lo
      rw [if_neg u0, rf_lz_s, e2]
    · refine ⟨fun q => absurd (q (by omega)).2.1 ol, fun _ => ⟨len, nI d, a', b', rec, way, upd turn d (nI (u + 1)), arr, ?_⟩⟩
      rw [hd0, pu_br_f (fun q => ol (le.mp q))]
theorem rf_lo_le {u low : Nat} (hx : rf_xu n c p u low) (hlow : low ≤ 1000001) : rf_lo (rf_gb n c p) low u ≤ 1000001 := by
  unfold rf_lo
  by_cases e : u = 0
  · rw [if_pos e]; exact hlow
  · rw [if_neg e]
    have := (hx (by omega)).2.2
    omega
theorem rf_dinner {mn : Nat → Int32} (hn : rf_bt n) (hmn : rf_md mn n) (hc : c ≤ 24) : ∀ M p u fu d rows low (R : Nat → Nat) (len at' bad : Int32) (rec way turn arr : Nat → Int32), 2 ≤ p → p ≤ c → rf_lay (rf_gb n c p) → rf_gb n c p 0 = 5 → u ≤ rf_gb n c p 1 + 1 → 792 + (rf_gb n c p 1 + 2 - u) ≤ M + 33 * rf_su R 25 → 792 + (rf_gb n c p 1 + 2 - u) ≤ fu + 33 * rf_su R 25 → d + 1 ≤ rf_su R 25 → low ≤ 1000001 → rf_se arr R → way d = nI p → turn d = nI u →
    rf_ires n c p u mn fu len d at' bad rec way turn arr rows low R := by
  intro M
  induction M using Nat.strongRecOn with
  | ind M ih =>
  intro p u fu d rows low R len at' bad rec way turn arr h2 hp hl g5 hu hM hf hdR hlow hs hw ht
  have h30 := hl.2.2.2.1
  have s23 := rf_se_23 hs
  obtain ⟨fu, rfl⟩ : ∃ f, fu = f + 1 := ⟨fu - 1, by omega⟩
  by_cases ul : u < rf_gb n c p 1 + 1
  case neg =>
    have ey : ∀ q, rf_yc n c 0 p u q = 0 := fun q => by unfold rf_yc; rw [show rf_gb n c p 1 + 1 - u = 0 by omega]; rfl
    have eR : (fun q => R q + rf_yc n c 0 p u q) = R := funext (fun q => by rw [ey]; rfl)
    have el : rf_yl n c 0 p u low = low := by unfold rf_yl; rw [if_neg ul]
    refine Or.inl ⟨0, ⟨fun _ k => by omega, fun j j1 j2 => by omega⟩, fun q => by rw [ey]; exact hs.1 q, by rw [el]; exact hlow, ?_⟩
    rw [eR, el, show rf_yr n c 0 p u = 0 by unfold rf_yr; rw [show rf_gb n c p 1 + 1 - u = 0 by omega]; rfl]
    refine ⟨fu, len, at', bad, rec, way, upd turn d (nI (u + 1)), arr, ?_, hs, fun j hj => ⟨rfl, pk_un (by omega)⟩, by omega⟩
    rw [rf_dstep hn hmn hc h2 hp (by omega) hw ht, if_pos g5, q_MD_wellTree_113, pu_ck_t (vp_in_nI (by omega) (by omega)), pu_ck_t (vp_in_nI (by omega) (by omega)), nI_clamp (by omega), ht, nI_1, pu_nm, pu_br_f (show ¬ (1 : Int32) = 0 by decide), pu_br_f (show ¬ nI u ≤ (0 : Int32) from nI_ge (a := 0) (by omega) (by omega)), pu_br_t (nI_lt (by omega) (by omega)), q_MD_wellTree_167, pu_br_t (nI_lt (by omega) (by omega)), q_MD_wellTree_186, pu_nm, q_MD_wellTree_290]
    rfl
  obtain ⟨key1, key2⟩ := rf_dkey (mn := mn) hn hmn hc h2 hp hl g5 (fu := fu) (rows := rows) (len := len) (at' := at') (bad := bad) (rec := rec) (arr := arr) ul (show d < 40 by omega) hlow hw ht
  by_cases xu : rf_xu n c p u low
  case neg => exact Or.inr ⟨fun q => by obtain ⟨D, x, _⟩ := q; exact xu ((rf_xI_s ul).mp x).1, key2 xu⟩
  obtain ⟨a1, b1, start⟩ := key1 xu
  have hll := rf_lo_le xu hlow
  generalize elo : rf_lo (rf_gb n c p) low u = lo at *
  have hch : f_MD_child mn (nI p) (nI u) = some (nI (rf_kid (rf_gb n c p) u)) := rf_mchild hmn (by omega) hp hc hn hl (by omega)
  have hk : rf_kid (rf_gb n c p) u < 256 := by
    unfold rf_kid
    split <;> exact rf_gb_lt hn _ _ _
  generalize ek : rf_kid (rf_gb n c p) u = k at *
  obtain ⟨m1, m2⟩ := rf_meet (p := k) hs hc (by omega)
  rw [q_MD_wellTree_199, pu_br_f (show ¬ (1 : Int32) = 0 by decide), hch, pu_b1_s] at start
  -- what goes wrong below
  have bad2 : ¬ (∃ D, rf_tr n c D k ∧ rf_ke n c D k lo ∧ ∀ q, R q + rf_ct n c D k q ≤ 1) → ¬ (∃ D, rf_xI n c D p u low ∧ ∀ q, R q + rf_yc n c D p u q ≤ 1) := by
    rintro h ⟨D, x, y⟩
    obtain ⟨_, x2, x3, _⟩ := (rf_xI_s ul).mp x
    rw [ek] at x2 x3
    rw [elo] at x3
    refine h ⟨D, x2, x3, fun q => ?_⟩
    have := y q
    rw [rf_yc_s ul, ek] at this
    omega
  by_cases mt : 2 ≤ k ∧ k ≤ c ∧ R k = 0
  case neg =>
    rw [m2 mt, pu_b2_s, pu_br_t rfl] at start
    refine Or.inr ⟨bad2 ?_, _, _, _, _, _, _, _, _, start⟩
    rintro ⟨D, t, _, z⟩
    have zz := z k
    cases D with
    | zero => exact absurd t (fun q => q)
    | succ D =>
      rw [rf_ct, if_pos rfl] at zz
      exact mt ⟨t.1, t.2.1, by omega⟩
  rw [m1 mt, pu_b2_s, pu_br_f (show ¬ (1 : Int32) = 0 by decide), rf_wellLaid hn hmn (by omega) mt.2.1 hc, pu_b1_s] at start
  by_cases la : rf_lay (rf_gb n c k) ∧ rf_ne n c k
  case neg =>
    rw [rf_dv_f la, pu_br_t (show nI 0 = (0 : Int32) from rfl)] at start
    refine Or.inr ⟨bad2 ?_, _, _, _, _, _, _, _, _, start⟩
    rintro ⟨D, t, e, _⟩
    cases D with
    | zero => exact absurd t (fun q => q)
    | succ D => exact la ⟨t.2.2.1, e.1⟩
  have hs1 := rf_se_ad hs mt.2.2 mt.1 (by omega)
  have su1 : rf_su (rf_ad R k) 25 = rf_su R 25 + 1 := rf_su_ad (by omega)
  have s23' := rf_se_23 hs1
  have k30 := la.1.2.2.2.1
  rw [rf_dv_t la, pu_br_f (show ¬ nI 1 = (0 : Int32) by decide), nI_1, pu_nm, pu_ck_t (vp_in_nI (by omega) (by omega)), nI_clamp (by omega), pu_nm, pu_ck_t (vp_in_nI (by omega) (by omega)), pu_nm, q_MD_wellTree_290] at start
  have hw1 : upd way (d + 1) (nI k) (d + 1) = nI k := pk_us
  have ht1 : upd (upd turn d (nI (u + 1))) (d + 1) 0 (d + 1) = nI 0 := pk_us
  have kid : rf_dres n c k mn fu len (d + 1) a1 b1 rec (upd way (d + 1) (nI k)) (upd (upd turn d (nI (u + 1))) (d + 1) 0) (upd arr k 1) rows lo R := by
    by_cases k13 : rf_gb n c k 0 = 13
    · exact rf_dL hn hmn hc mt.1 mt.2.1 la.1 la.2 k13 (by omega) (by omega) hll hs1 hw1 ht1
    · have k5 := la.1.1.resolve_left k13
      exact rf_dI mt.1 mt.2.1 la.1 la.2 k5 (ih (M - 1) (by omega) k 0 fu (d + 1) rows lo (rf_ad R k) len a1 b1 rec _ _ (upd arr k 1) mt.1 mt.2.1 la.1 k5 (by omega) (by omega) (by omega) (by omega) hll hs1 hw1 ht1)
  rcases kid with ⟨D1, t1, e1, c1, o1, g1⟩ | ⟨g1, g2⟩
  case inr =>
    obtain ⟨l2, d2, a2, b2, rec2, way2, turn2, arr2, s1⟩ := g2
    exact Or.inr ⟨bad2 g1, l2, d2, a2, b2, rec2, way2, turn2, arr2, start.trans s1⟩
  obtain ⟨fu', l2, a2, b2, rec2, way2, turn2, arr2, s1, s2, s3, s4⟩ := g1
  rw [su1] at s4
  rw [rf_lz_s] at s1
  have R1 : rf_su R 25 + 1 ≤ rf_su (fun q => R q + rf_ct n c D1 k q) 25 := by
    rw [← su1]
    refine rf_su_le25 (fun q => ?_)
    unfold rf_ad
    cases D1 with
    | zero => exact absurd t1 (fun q => q)
    | succ D => rw [rf_ct]; omega
  have s23'' := rf_se_23 s2
  have hw2 : way2 d = nI p := by rw [(s3 d (by omega)).1, pk_un (by omega)]; exact hw
  have ht2 : turn2 d = nI (u + 1) := by rw [(s3 d (by omega)).2, pk_un (by omega)]; exact pk_us
  have rest := ih (M - 1) (by omega) p (u + 1) fu' d (rows + rf_rs n c (rf_lv n c D1 k)) (rf_mE n c D1 k lo) (fun q => R q + rf_ct n c D1 k q) l2 a2 b2 rec2 way2 turn2 arr2 h2 hp hl g5 (by omega) (by omega) (by omega) (by omega) o1 s2 hw2 ht2
  rcases rest with ⟨D2, x1, x2, x3, x4⟩ | ⟨x1, x2⟩
  · obtain ⟨E, E1, E2⟩ : ∃ E, D1 ≤ E ∧ D2 ≤ E := ⟨D1 + D2, by omega, by omega⟩
    obtain ⟨v1, v2, v3, v4⟩ := rf_xI_mono x1 E2
    obtain ⟨t2, c2, _, l3⟩ := rf_mono t1 E1
    obtain ⟨e2, e3⟩ := rf_ke_mono (lo := lo) t1 E1
    have eR : ∀ q, R q + rf_ct n c D1 k q + rf_yc n c D2 p (u + 1) q = R q + rf_yc n c E p u q := fun q => by
      rw [rf_yc_s ul, ek, c2, v2]; omega
    have el : rf_yl n c E p u low = rf_yl n c D2 p (u + 1) (rf_mE n c D1 k lo) := by rw [rf_yl_s ul, ek, elo, e2, v4]
    refine Or.inl ⟨E, (rf_xI_s ul).mpr ⟨xu, by rw [ek]; exact t2, by rw [ek, elo]; exact e3 e1, by rw [ek, elo, e2]; exact v1⟩, fun q => by rw [← eR]; exact x2 q, by rw [el]; exact x3, ?_⟩
    rw [el, rf_yr_s ul, ek, l3, v3, ← Nat.add_assoc, show (fun q => R q + rf_yc n c E p u q) = _ from (funext eR).symm]
    obtain ⟨fu3, l3', a3, b3, rec3, way3, turn3, arr3, y1, y2, y3, y4⟩ := x4
    refine ⟨fu3, l3', a3, b3, rec3, way3, turn3, arr3, start.trans (s1.trans y1), y2, fun j hj => ?_, ?_⟩
    · obtain ⟨z1, z2⟩ := y3 j hj
      obtain ⟨z3, z4⟩ := s3 j (by omega)
      exact ⟨by rw [z1, z3, pk_un (by omega)], by rw [z2, z4, pk_un (by omega), pk_un (by omega)]⟩
    · dsimp only at y4 s4 ⊢
      omega
  · obtain ⟨l3, d3, a3, b3, rec3, way3, turn3, arr3, y1⟩ := x2
    refine Or.inr ⟨?_, l3, d3, a3, b3, rec3, way3, turn3, arr3, start.trans (s1.trans y1)⟩
    rintro ⟨D, x, y⟩
    obtain ⟨_, z2, z3, z4⟩ := (rf_xI_s ul).mp x
    rw [ek] at z2 z3 z4
    rw [elo] at z4
    obtain ⟨E, E1, E2⟩ : ∃ E, D1 ≤ E ∧ D ≤ E := ⟨D1 + D, by omega, by omega⟩
    have em : rf_mE n c D k lo = rf_mE n c D1 k lo := by rw [← (rf_ke_mono (lo := lo) z2 E2).1, (rf_ke_mono (lo := lo) t1 E1).1]
    rw [em] at z4
    refine x1 ⟨D, z4, fun q => ?_⟩
    have := y q
    rw [rf_yc_s ul, ek, rf_ct_any t1 z2] at this
    show R q + rf_ct n c D1 k q + _ ≤ 1
    omega
end RFDH
