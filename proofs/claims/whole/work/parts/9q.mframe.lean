section RFDG
variable {n : Nat → Nat} {c p : Nat}
def rf_yc (n : Nat → Nat) (c D p u q : Nat) : Nat := rf_su (fun j => rf_ct n c D (rf_kid (rf_gb n c p) (u + j)) q) (rf_gb n c p 1 + 1 - u)
def rf_yr (n : Nat → Nat) (c D p u : Nat) : Nat := rf_su (fun j => rf_rs n c (rf_lv n c D (rf_kid (rf_gb n c p) (u + j)))) (rf_gb n c p 1 + 1 - u)
def rf_yl (n : Nat → Nat) (c D p u low : Nat) : Nat := if u < rf_gb n c p 1 + 1 then rf_mE n c D (rf_kid (rf_gb n c p) (rf_gb n c p 1)) (rf_lo (rf_gb n c p) low (rf_gb n c p 1)) else low
theorem rf_yc_s {D u q : Nat} (h : u < rf_gb n c p 1 + 1) : rf_yc n c D p u q = rf_ct n c D (rf_kid (rf_gb n c p) u) q + rf_yc n c D p (u + 1) q := by
  unfold rf_yc
  rw [rf_su_from (f := fun j => rf_ct n c D (rf_kid (rf_gb n c p) j) q) h]
theorem rf_yr_s {D u : Nat} (h : u < rf_gb n c p 1 + 1) : rf_yr n c D p u = rf_rs n c (rf_lv n c D (rf_kid (rf_gb n c p) u)) + rf_yr n c D p (u + 1) := by
  unfold rf_yr
  rw [rf_su_from (f := fun j => rf_rs n c (rf_lv n c D (rf_kid (rf_gb n c p) j))) h]
theorem rf_lo_s {g : Nat → Nat} {l l' j : Nat} (h : 1 ≤ j) : rf_lo g l j = rf_lo g l' j := by
  unfold rf_lo
  rw [if_neg (by omega), if_neg (by omega)]
theorem rf_yl_s {D u low : Nat} (h : u < rf_gb n c p 1 + 1) : rf_yl n c D p u low = rf_yl n c D p (u + 1) (rf_mE n c D (rf_kid (rf_gb n c p) u) (rf_lo (rf_gb n c p) low u)) := by
  unfold rf_yl
  rw [if_pos h]
  by_cases e : u + 1 < rf_gb n c p 1 + 1
  · rw [if_pos e, rf_lo_s (l' := low) (show 1 ≤ rf_gb n c p 1 by omega)]
    exact congrArg _ (rf_lo_s (by omega))
  · rw [if_neg e, show u = rf_gb n c p 1 by omega]
def rf_xu (n : Nat → Nat) (c p u low : Nat) : Prop := 1 ≤ u → rf_ci (rf_gb n c p) (u - 1) ∧ low ≤ rf_kv (rf_gb n c p) (u - 1) + 1 ∧ rf_kv (rf_gb n c p) (u - 1) ≤ 1000000
theorem rf_xI_s {D u low : Nat} (h : u < rf_gb n c p 1 + 1) : rf_xI n c D p u low ↔ rf_xu n c p u low ∧ rf_tr n c D (rf_kid (rf_gb n c p) u) ∧ rf_ke n c D (rf_kid (rf_gb n c p) u) (rf_lo (rf_gb n c p) low u) ∧ rf_xI n c D p (u + 1) (rf_mE n c D (rf_kid (rf_gb n c p) u) (rf_lo (rf_gb n c p) low u)) := by
  constructor
  · rintro ⟨a, b⟩
    obtain ⟨b1, b2, b3⟩ := b u (Nat.le_refl _) h
    refine ⟨fun k => a k (by omega), b1, b2, fun _ k => ?_, fun j j1 j2 => ?_⟩
    · rw [Nat.add_sub_cancel]; exact b3 (by omega)
    · rw [rf_lo_s (l' := low) (show 1 ≤ j by omega)]; exact b j (by omega) j2
  · rintro ⟨a, b1, b2, b3, b4⟩
    refine ⟨fun k _ => a k, fun j j1 j2 => ?_⟩
    by_cases e : j = u
    · subst e
      refine ⟨b1, b2, fun k => ?_⟩
      have := b3 (by omega) (by omega)
      rw [Nat.add_sub_cancel] at this
      exact this
    · have := b4 j (by omega) j2
      rw [rf_lo_s (l' := low) (show 1 ≤ j by omega)] at this
      exact this
theorem rf_xI_mono {D D' u low : Nat} (h : rf_xI n c D p u low) (hD : D ≤ D') : rf_xI n c D' p u low ∧ (∀ q, rf_yc n c D' p u q = rf_yc n c D p u q) ∧ rf_yr n c D' p u = rf_yr n c D p u ∧ rf_yl n c D' p u low = rf_yl n c D p u low := by
  have T : ∀ j, u ≤ j → j < rf_gb n c p 1 + 1 → rf_tr n c D (rf_kid (rf_gb n c p) j) := fun j j1 j2 => (h.2 j j1 j2).1
  refine ⟨⟨h.1, fun j j1 j2 => ?_⟩, fun q => ?_, ?_, ?_⟩
  · obtain ⟨a, b, d⟩ := h.2 j j1 j2
    have m := rf_ke_mono (lo := rf_lo (rf_gb n c p) low j) a hD
    exact ⟨(rf_mono a hD).1, m.2 b, fun k => by rw [m.1]; exact d k⟩
  · exact rf_su_congr _ (fun j hj => (rf_mono (T (u + j) (by omega) (by omega)) hD).2.1 q)
  · exact rf_su_congr _ (fun j hj => by rw [(rf_mono (T (u + j) (by omega) (by omega)) hD).2.2.2])
  · unfold rf_yl
    by_cases e : u < rf_gb n c p 1 + 1
    · rw [if_pos e, if_pos e]; exact (rf_ke_mono (T _ (by omega) (by omega)) hD).1
    · rw [if_neg e, if_neg e]
theorem rf_ws_ls {f : Nat → Nat} {g : Nat → List Nat} : ∀ k t, rf_ws f (rf_ls g k t) = rf_su (fun j => rf_ws f (g (t + j))) k
  | 0, _ => rfl
  | k + 1, t => by
    rw [rf_ls, rf_ws_app, rf_ws_ls k (t + 1), rf_su_fst]
    congr 1
    exact rf_su_congr _ (fun j _ => by rw [Nat.add_assoc, Nat.add_comm 1 j])
/-- a page of the reference's walk, from its start to its end -/
def rf_dres (n : Nat → Nat) (c p : Nat) (mn : Nat → Int32) (fu : Nat) (len : Int32) (d : Nat) (at' bad : Int32) (rec way turn arr : Nat → Int32) (rows low : Nat) (R : Nat → Nat) : Prop :=
  (∃ D, rf_tr n c D p ∧ rf_ke n c D p low ∧ (∀ q, R q + rf_ct n c D p q ≤ 1) ∧ rf_mE n c D p low ≤ 1000001 ∧ rf_dgo c mn fu len d at' bad rec way turn arr rows low (rf_ad R p) (fun q => R q + rf_ct n c D p q) (rows + rf_rs n c (rf_lv n c D p)) (rf_mE n c D p low) 32) ∨
  (¬ (∃ D, rf_tr n c D p ∧ rf_ke n c D p low ∧ ∀ q, R q + rf_ct n c D p q ≤ 1) ∧ rf_dno c mn fu len d at' bad rec way turn arr rows low)
def rf_ires (n : Nat → Nat) (c p u : Nat) (mn : Nat → Int32) (fu : Nat) (len : Int32) (d : Nat) (at' bad : Int32) (rec way turn arr : Nat → Int32) (rows low : Nat) (R : Nat → Nat) : Prop :=
  (∃ D, rf_xI n c D p u low ∧ (∀ q, R q + rf_yc n c D p u q ≤ 1) ∧ rf_yl n c D p u low ≤ 1000001 ∧ rf_dgo c mn fu len d at' bad rec way turn arr rows low R (fun q => R q + rf_yc n c D p u q) (rows + rf_yr n c D p u) (rf_yl n c D p u low) (rf_gb n c p 1 + 2 - u)) ∨
  (¬ (∃ D, rf_xI n c D p u low ∧ ∀ q, R q + rf_yc n c D p u q ≤ 1) ∧ rf_dno c mn fu len d at' bad rec way turn arr rows low)
theorem rf_dgo_le {mn : Nat → Int32} {fu d rows low rows' low' l l' : Nat} {len at' bad : Int32} {rec way turn arr : Nat → Int32} {R R' : Nat → Nat} (h : rf_dgo c mn fu len d at' bad rec way turn arr rows low R R' rows' low' l) (hl : l ≤ l') : rf_dgo c mn fu len d at' bad rec way turn arr rows low R R' rows' low' l' := by
  obtain ⟨a1, a2, a3, a4, a5, a6, a7, a8, b1, b2, b3, b4⟩ := h
  exact ⟨a1, a2, a3, a4, a5, a6, a7, a8, b1, b2, b3, by omega⟩
theorem rf_dL {mn : Nat → Int32} (hn : rf_bt n) (hmn : rf_md mn n) (hc : c ≤ 24) (h2 : 2 ≤ p) (hp : p ≤ c) (hl : rf_lay (rf_gb n c p)) (hne : rf_ne n c p) (g13 : rf_gb n c p 0 = 13) {fu d rows low : Nat} {R : Nat → Nat} {len at' bad : Int32} {rec way turn arr : Nat → Int32} (hf : 31 ≤ fu) (hd : d < 40) (hlow : low ≤ 1000001) (hs : rf_se arr (rf_ad R p)) (hw : way d = nI p) (ht : turn d = nI 0) : rf_dres n c p mn fu len d at' bad rec way turn arr rows low R := by
  have h30 := hl.2.2.2.1
  have n5 : ¬ rf_gb n c p 0 = 5 := by omega
  have ec : ∀ D q, rf_ct n c (D + 1) p q = (if p = q then 1 else 0) + rf_su (fun j => rf_lq n (rf_gb n c p) q (0 + j)) (rf_gb n c p 1 - 0) := fun D q => by
    rw [rf_ct, if_pos g13, Nat.sub_zero]
    congr 1
    exact rf_su_congr _ (fun j _ => by rw [Nat.zero_add])
  have eR : ∀ D q, rf_ad R p q + rf_su (fun j => rf_lq n (rf_gb n c p) q (0 + j)) (rf_gb n c p 1 - 0) = R q + rf_ct n c (D + 1) p q := fun D q => by rw [ec]; unfold rf_ad; omega
  have lo0 : ∀ j, rf_lo (rf_gb n c p) low j = if j = 0 then low else rf_kv (rf_gb n c p) (j - 1) + 1 := fun j => rfl
  rcases rf_dleaf hn hmn hc h2 hp hl g13 (rf_gb n c p 1) 0 fu d rows low (rf_ad R p) len at' bad rec way turn arr (by omega) (by omega) hd hlow hs hw ht with ⟨a, b, e⟩ | ⟨a, b⟩
  · have em : rf_mE n c 1 p low = if 0 < rf_gb n c p 1 then rf_kv (rf_gb n c p) (rf_gb n c p 1 - 1) + 1 else low := by
      rw [rf_mE_s 0 p low, if_pos g13]
      by_cases z : rf_gb n c p 1 = 0
      · rw [if_pos z, if_neg (by omega)]
      · rw [if_neg z, if_pos (by omega)]
    refine Or.inl ⟨1, ⟨h2, hp, hl, fun _ i hi => (a i (by omega) hi).1, fun k => absurd k n5⟩, ⟨hne, fun _ i hi => ⟨(a i (by omega) hi).2.1, (a i (by omega) hi).2.2⟩, fun k => absurd k n5⟩, fun q => by rw [← eR 0]; exact b q, ?_, ?_⟩
    · rw [em]
      by_cases z : 0 < rf_gb n c p 1
      · rw [if_pos z]
        have := (a (rf_gb n c p 1 - 1) (by omega) (by omega)).2.2.2
        omega
      · rw [if_neg z]; exact hlow
    · have er : rf_rs n c (rf_lv n c 1 p) = rf_gb n c p 1 - 0 := by
        rw [rf_lv, if_pos g13]
        show rf_gb n c p 1 + 0 = _
        omega
      rw [em, er, show (fun q => R q + rf_ct n c 1 p q) = _ from (funext (eR 0)).symm]
      exact rf_dgo_le e (by omega)
  · refine Or.inr ⟨fun q => a ?_, b⟩
    obtain ⟨D, t, k, z⟩ := q
    cases D with
    | zero => exact absurd t (fun q => q)
    | succ D =>
      exact ⟨fun j j1 j2 => ⟨t.2.2.2.1 g13 j j2, k.2.1 g13 j j2⟩, fun q => by rw [eR D]; exact z q⟩
theorem rf_dI {mn : Nat → Int32} (h2 : 2 ≤ p) (hp : p ≤ c) (hl : rf_lay (rf_gb n c p)) (hne : rf_ne n c p) (g5 : rf_gb n c p 0 = 5) {fu d rows low : Nat} {R : Nat → Nat} {len at' bad : Int32} {rec way turn arr : Nat → Int32} (H : rf_ires n c p 0 mn fu len d at' bad rec way turn arr rows low (rf_ad R p)) : rf_dres n c p mn fu len d at' bad rec way turn arr rows low R := by
  have h30 := hl.2.2.2.1
  have n13 : ¬ rf_gb n c p 0 = 13 := by omega
  have eR : ∀ D q, rf_ad R p q + rf_yc n c D p 0 q = R q + rf_ct n c (D + 1) p q := fun D q => by
    have : rf_yc n c D p 0 q = rf_su (fun i => rf_ct n c D (rf_kid (rf_gb n c p) i) q) (rf_gb n c p 1 + 1) := rf_su_congr _ (fun j _ => by rw [Nat.zero_add])
    rw [rf_ct5 g5, this]; unfold rf_ad; omega
  rcases H with ⟨D, a, b, m, e⟩ | ⟨a, b⟩
  · have em : rf_mE n c (D + 1) p low = rf_yl n c D p 0 low := by
      unfold rf_yl
      rw [rf_mE_s D p low, if_neg n13, if_pos (by omega)]
    refine Or.inl ⟨D + 1, ⟨h2, hp, hl, fun k => absurd k n13, fun _ => ⟨?_, fun i hi => ((a.2 i (by omega) (by omega)).2.2 hi).1, fun i hi => (a.2 i (by omega) hi).1⟩⟩, ⟨hne, fun k => absurd k n13, fun _ => ⟨fun i hi => (a.2 i (by omega) hi).2.1, fun i hi => ((a.2 i (by omega) (by omega)).2.2 hi).2⟩⟩, fun q => by rw [← eR D]; exact b q, by rw [em]; exact m, ?_⟩
    · by_cases z : rf_gb n c p 1 = 0
      · have := (hne z).1; omega
      · omega
    · have er : rf_rs n c (rf_lv n c (D + 1) p) = rf_yr n c D p 0 := by
        unfold rf_rs
        rw [rf_lv, if_neg n13, rf_ws_ls]
        rfl
      rw [em, er, show (fun q => R q + rf_ct n c (D + 1) p q) = _ from (funext (eR D)).symm]
      exact rf_dgo_le e (by omega)
  · refine Or.inr ⟨fun q => a ?_, b⟩
    obtain ⟨D, t, k, z⟩ := q
    cases D with
    | zero => exact absurd t (fun q => q)
    | succ D =>
      obtain ⟨t1, t2, t3⟩ := t.2.2.2.2 g5
      obtain ⟨k1, k2⟩ := k.2.2 g5
      exact ⟨D, ⟨fun q => absurd q (by omega), fun j _ j2 => ⟨t3 j j2, k1 j j2, fun j3 => ⟨t2 j j3, k2 j j3⟩⟩⟩, fun q => by rw [eR D]; exact z q⟩
end RFDG
