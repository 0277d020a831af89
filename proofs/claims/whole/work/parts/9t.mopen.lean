section RFMO
variable {n : Nat → Nat} {c : Nat}
theorem rf_mTree {mn arr : Nat → Int32} (hn : rf_bt n) (hmn : rf_md mn n) (hc : c ≤ 24) (hs : rf_se arr (fun _ => 0)) (len deep at' bad : Int32) (rec way turn : Nat → Int32) :
    (∃ D, rf_tr n c D (n 70) ∧ rf_ke n c D (n 70) 0 ∧ (∀ q, rf_ct n c D (n 70) q ≤ 1) ∧ rf_mE n c D (n 70) 0 ≤ 1000001 ∧ ∃ (len' d' a' b' : Int32) (rec' way' turn' arr' : Nat → Int32), f_MD_wellTree (nI c) mn len deep at' bad rec way turn arr = some (nI (rf_rs n c (rf_lv n c D (n 70))), len', d', a', b', rec', way', turn', arr') ∧ rf_se arr' (rf_ct n c D (n 70))) ∨
    (¬ (∃ D, rf_tr n c D (n 70) ∧ rf_ke n c D (n 70) 0 ∧ ∀ q, rf_ct n c D (n 70) q ≤ 1) ∧ ∃ (len' d' a' b' : Int32) (rec' way' turn' arr' : Nat → Int32), f_MD_wellTree (nI c) mn len deep at' bad rec way turn arr = some (-1, len', d', a', b', rec', way', turn', arr')) := by
  have e0 : (0 : Int32).toNatClampNeg = 0 := by decide
  have i0 : vp_in (0 : Int32) 40 := by unfold vp_in; decide
  have b70 := hn 70
  obtain ⟨m1, m2⟩ := rf_meet (p := n 70) hs hc (by omega)
  obtain ⟨X, start⟩ : ∃ X, X = f_MD_wellTree (nI c) mn len deep at' bad rec way turn arr := ⟨_, rfl⟩
  rw [← start]
  rw [f_MD_wellTree, rf_mroot hmn, pu_b1_s, pu_ck_t i0, e0, pu_nm, pu_ck_t i0, pu_nm, pu_ck_t i0, show upd way 0 (nI (n 70)) 0 = nI (n 70) from pk_us] at start
  by_cases mt : 2 ≤ n 70 ∧ n 70 ≤ c ∧ (0 : Nat) = 0
  case neg =>
    rw [m2 mt, pu_b2_s, pu_br_t rfl] at start
    refine Or.inr ⟨?_, _, _, _, _, _, _, _, _, start⟩
    rintro ⟨D, t, _, _⟩
    cases D with
    | zero => exact absurd t (fun q => q)
    | succ D => exact mt ⟨t.1, t.2.1, rfl⟩
  rw [m1 mt, pu_b2_s, pu_br_f (show ¬ (1 : Int32) = 0 by decide), pu_ck_t i0, rf_wellLaid hn hmn (by omega) mt.2.1 hc, pu_b1_s] at start
  by_cases la : rf_lay (rf_gb n c (n 70)) ∧ rf_ne n c (n 70)
  case neg =>
    rw [rf_dv_f la, pu_br_t (show nI 0 = (0 : Int32) from rfl)] at start
    refine Or.inr ⟨?_, _, _, _, _, _, _, _, _, start⟩
    rintro ⟨D, t, e, _⟩
    cases D with
    | zero => exact absurd t (fun q => q)
    | succ D => exact la ⟨t.2.2.1, e.1⟩
  have hs1 := rf_se_ad hs mt.2.2 mt.1 (by omega)
  have su0 : rf_su (fun _ => 0) 25 = 0 := by decide
  have su1 : rf_su (rf_ad (fun _ => 0) (n 70)) 25 = 1 := by rw [rf_su_ad (by omega), su0]
  have k30 := la.1.2.2.2.1
  rw [rf_dv_t la, pu_br_f (show ¬ nI 1 = (0 : Int32) by decide)] at start
  have hw1 : upd way 0 (nI (n 70)) 0 = nI (n 70) := pk_us
  have ht1 : upd turn 0 0 0 = nI 0 := pk_us
  have start : X = q_MD_wellTree_54 (nI c) mn pu_fu len (nI 0) at' bad rec (upd way 0 (nI (n 70))) (upd turn 0 0) (upd arr (n 70) 1) (nI 0) (rf_lz 0) := start
  have kid : rf_dres n c (n 70) mn pu_fu len 0 at' bad rec (upd way 0 (nI (n 70))) (upd turn 0 0) (upd arr (n 70) 1) 0 0 (fun _ => 0) := by
    by_cases k13 : rf_gb n c (n 70) 0 = 13
    · exact rf_dL hn hmn hc mt.1 mt.2.1 la.1 la.2 k13 (by rw [rf_fu]; omega) (by omega) (by omega) hs1 hw1 ht1
    · have k5 := la.1.1.resolve_left k13
      exact rf_dI mt.1 mt.2.1 la.1 la.2 k5 (rf_dinner hn hmn hc 2000 (n 70) 0 pu_fu 0 0 0 (rf_ad (fun _ => 0) (n 70)) len at' bad rec _ _ (upd arr (n 70) 1) mt.1 mt.2.1 la.1 k5 (by omega) (by omega) (by rw [rf_fu]; omega) (by omega) (by omega) hs1 hw1 ht1)
  have ez : ∀ D, (fun q => (fun _ => 0 : Nat → Nat) q + rf_ct n c D (n 70) q) = rf_ct n c D (n 70) := fun D => funext (fun q => Nat.zero_add _)
  rcases kid with ⟨D, t1, e1, c1, o1, g1⟩ | ⟨g1, g2⟩
  · have c1 : ∀ q, rf_ct n c D (n 70) q ≤ 1 := fun q => by have := c1 q; rw [show (fun _ => 0 : Nat → Nat) q = 0 from rfl, Nat.zero_add] at this; exact this
    rw [ez] at g1
    obtain ⟨fu', l2, a2, b2, rec2, way2, turn2, arr2, s1, s2, s3, s4⟩ := g1
    refine Or.inl ⟨D, t1, e1, c1, o1, l2, rf_lz 0, a2, b2, rec2, way2, turn2, arr2, ?_, s2⟩
    have s23 := rf_se_23 s2
    rw [su1, rf_fu] at s4
    obtain ⟨f, rfl⟩ : ∃ f, fu' = f + 1 := ⟨fu' - 1, by omega⟩
    rw [start, s1, q_MD_wellTree_54, pu_br_t (show rf_lz 0 < (0 : Int32) by decide), Nat.zero_add]
  · obtain ⟨l2, d2, a2, b2, rec2, way2, turn2, arr2, s1⟩ := g2
    refine Or.inr ⟨?_, l2, d2, a2, b2, rec2, way2, turn2, arr2, start.trans s1⟩
    rintro ⟨D, t, e, z⟩
    refine g1 ⟨D, t, e, fun q => ?_⟩
    show 0 + rf_ct n c D (n 70) q ≤ 1
    rw [Nat.zero_add]; exact z q
theorem rf_ls_len {f : Nat → List Nat} : ∀ k t, (rf_ls f k t).length = rf_su (fun j => (f (t + j)).length) k
  | 0, _ => rfl
  | k + 1, t => by
    rw [rf_ls, List.length_append, rf_ls_len k (t + 1), rf_su_fst]
    congr 1
    exact rf_su_congr _ (fun j _ => by rw [Nat.add_assoc, Nat.add_comm 1 j])
theorem rf_lv_len : ∀ {D p}, (rf_lv n c D p).length ≤ rf_np n c D p
  | 0, _ => Nat.le_refl _
  | D + 1, p => by
    rw [rf_lv, rf_np]
    by_cases k : rf_gb n c p 0 = 13
    · rw [if_pos k, if_pos k]; exact Nat.le_refl _
    · rw [if_neg k, if_neg k, rf_ls_len]
      have := rf_su_mono (f := fun j => (rf_lv n c D (rf_kid (rf_gb n c p) (0 + j))).length) (g := fun i => rf_np n c D (rf_kid (rf_gb n c p) i)) (rf_gb n c p 1 + 1) (fun j _ => by
        rw [Nat.zero_add]; exact rf_lv_len)
      omega
/-- the reference's open, behind the rolling back -/
theorem rf_mopen {md mn : Nat → Int32} (hn : rf_bt n) (hmd : rf_md md n) (hc : c ≤ 24) (hp rs : Int32) (rp rb : Nat → Int32) (hd up len deep at' bad : Int32) (rec way turn used : Nat → Int32) :
    (rf_P n c → ∃ (D : Nat) (len' d' a' b' : Int32) (mn' rec' way' turn' used' : Nat → Int32), rf_tr n c D (n 70) ∧ (∀ q, rf_ct n c D (n 70) q ≤ 1) ∧ rf_md mn' n ∧ q_MD_open_87 hp rs rp rb (nI c) hd up len deep at' bad mn md rec way turn used = some (nI (rf_rs n c (rf_lv n c 23 (n 70))), nI c, hd, 1, len', d', a', b', mn', md, rec', way', turn', used')) ∧
    (¬ rf_P n c → ∃ (len' d' a' b' : Int32) (mn' rec' way' turn' used' : Nat → Int32), q_MD_open_87 hp rs rp rb (nI c) hd up len deep at' bad mn md rec way turn used = some (-1, nI c, hd, up, len', d', a', b', mn', md, rec', way', turn', used')) := by
  obtain ⟨mn', f1, f2⟩ := rf_fetch md mn
  have hmn : rf_md mn' n := fun k hk => by rw [f2 k hk]; exact hmd k hk
  have clr : ∃ arr0, q_MD_open_87 hp rs rp rb (nI c) hd up len deep at' bad mn md rec way turn used = q_MD_open_112 hp rs rp rb (nI c) hd up len deep at' bad mn' md rec way turn arr0 ∧ rf_se arr0 (fun _ => 0) := by
    rw [q_MD_open_87, f1, pu_b1_s]
    refine rf_loop (fun f x i => q_MD_open_93 (fun v_used => q_MD_open_112 hp rs rp rb (nI c) hd up len deep at' bad mn' md rec way turn v_used) hp rs rp rb (nI c) hd up len deep at' bad mn' md rec way turn f x (nI i)) (fun i x => ∀ q, q < i → x q = nI 0) (fun r => ∃ arr0, r = q_MD_open_112 hp rs rp rb (nI c) hd up len deep at' bad mn' md rec way turn arr0 ∧ rf_se arr0 (fun _ => 0)) 25 ?_ ?_ 25 pu_fu used 0 (by omega) (by rw [rf_fu]; omega) (fun q hq => by omega)
    · intro f x hx
      refine ⟨x, ?_, fun q => by show (0 : Nat) ≤ 1; omega, fun q hq => absurd hq (by show ¬ (1 : Nat) ≤ 0; omega), fun q hq => hx q (by omega)⟩
      show q_MD_open_93 (fun v_used => q_MD_open_112 hp rs rp rb (nI c) hd up len deep at' bad mn' md rec way turn v_used) hp rs rp rb (nI c) hd up len deep at' bad mn' md rec way turn (f + 1) x (nI 25) = _
      rw [q_MD_open_93, pu_br_t (by decide)]
    · intro f x i hi hx
      refine Or.inl ⟨upd x i 0, fun q hq => ?_, ?_⟩
      · by_cases e : q = i
        · rw [e, pk_us]; rfl
        · rw [pk_un e]; exact hx q (by omega)
      · show q_MD_open_93 (fun v_used => q_MD_open_112 hp rs rp rb (nI c) hd up len deep at' bad mn' md rec way turn v_used) hp rs rp rb (nI c) hd up len deep at' bad mn' md rec way turn (f + 1) x (nI i) = q_MD_open_93 (fun v_used => q_MD_open_112 hp rs rp rb (nI c) hd up len deep at' bad mn' md rec way turn v_used) hp rs rp rb (nI c) hd up len deep at' bad mn' md rec way turn f (upd x i 0) (nI (i + 1))
        rw [q_MD_open_93, pu_br_f (show ¬ (25 : Int32) ≤ nI i from nI_ge (b := 25) (by omega) (by omega)), pu_ck_t (vp_in_nI (by omega) (by decide)), nI_clamp (by omega), rf_nz0, pu_nm, nI_1, pu_nm]
  obtain ⟨arr0, k1, k2⟩ := clr
  have wf := rf_wellFirst (c := c) hn hmn hc
  by_cases F : rf_F1 n c
  case neg =>
    refine ⟨fun q => absurd q.1 F, fun _ => ⟨len, deep, at', bad, mn', rec, way, turn, arr0, ?_⟩⟩
    rw [k1, q_MD_open_112, wf, rf_dv_f F, pu_b1_s, pu_br_t (show nI 0 = (0 : Int32) from rfl), q_MD_open_127, pu_br_t (show (-1 : Int32) < 0 by decide)]
  rcases rf_mTree hn hmn hc k2 len deep at' bad rec way turn with ⟨D, t1, e1, c1, o1, l2, d2, a2, b2, rec2, way2, turn2, arr2, s1, s2⟩ | ⟨no, l2, d2, a2, b2, rec2, way2, turn2, arr2, s1⟩
  case inr =>
    refine ⟨fun q => absurd (rf_P_tree q) no, fun _ => ⟨l2, d2, a2, b2, mn', rec2, way2, turn2, arr2, ?_⟩⟩
    rw [k1, q_MD_open_112, wf, rf_dv_t F, pu_b1_s, pu_br_f (show ¬ nI 1 = (0 : Int32) by decide), s1, pu_b9_s, q_MD_open_127, pu_br_t (show (-1 : Int32) < 0 by decide)]
  have iff := rf_P_of F t1 e1 c1 o1
  obtain ⟨t23, _, np⟩ := rf_tr23 hc t1 c1
  have elv : rf_lv n c D (n 70) = rf_lv n c 23 (n 70) := by
    by_cases e : D ≤ 23
    · exact (rf_mono t1 e).2.2.2.symm
    · exact (rf_mono t23 (by omega)).2.2.2
  have hrs := rf_rs_le (n := n) (c := c) (L := rf_lv n c D (n 70)) (fun p hp => (rf_lv_mem t1 hp).1)
  have hlen : (rf_lv n c 23 (n 70)).length ≤ rf_np n c 23 (n 70) := rf_lv_len
  rw [elv] at hrs
  obtain ⟨arr3, u1, u2⟩ := rf_wellFree (c := c) hn hmn hc s2
  obtain ⟨X, go⟩ : ∃ X, X = q_MD_open_87 hp rs rp rb (nI c) hd up len deep at' bad mn md rec way turn used := ⟨_, rfl⟩
  rw [← go]
  rw [k1, q_MD_open_112, wf, rf_dv_t F, pu_b1_s, pu_br_f (show ¬ nI 1 = (0 : Int32) by decide), s1, pu_b9_s, q_MD_open_127, elv, pu_br_f (show ¬ nI (rf_rs n c (rf_lv n c 23 (n 70))) < (0 : Int32) from nI_nlt (b := 0) (by omega) (by omega)), u1, pu_b2_s] at go
  by_cases wk : rf_wk n c (fun _ => 1) (n 67) 0 (n 66) (rf_ct n c D (n 70))
  case neg =>
    rw [rf_dv_f wk, pu_br_t (show nI 0 = (0 : Int32) from rfl)] at go
    exact ⟨fun q => absurd (iff.mp q).1 wk, fun _ => ⟨_, _, _, _, _, _, _, _, _, go⟩⟩
  rw [rf_dv_t wk, pu_br_f (show ¬ nI 1 = (0 : Int32) by decide)] at go
  obtain ⟨v1, v2⟩ := rf_mall (u2 wk) hc (q_MD_open_168 hp rs rp rb (nI c) hd up l2 d2 a2 b2 mn' md rec2 way2 turn2 arr3 (nI (rf_rs n c (rf_lv n c 23 (n 70))))) hp rs rp rb hd up l2 d2 a2 b2 mn' md rec2 way2 turn2 (nI (rf_rs n c (rf_lv n c 23 (n 70))))
  by_cases al : ∀ q, 2 ≤ q → q ≤ c → rf_wks n (n 67) (n 66) (rf_ct n c D (n 70)) q = 1
  · refine ⟨fun _ => ⟨D, l2, d2, a2, b2, mn', rec2, way2, turn2, arr3, t1, c1, hmn, ?_⟩, fun q => absurd (iff.mpr ⟨wk, al⟩) q⟩
    rw [go, v1 al, q_MD_open_168]
  · exact ⟨fun q => absurd (iff.mp q).2 al, fun _ => ⟨_, _, _, _, _, _, _, _, _, go.trans (v2 al)⟩⟩
end RFMO
