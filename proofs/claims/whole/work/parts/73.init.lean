section RFI
theorem rf_wf_c : ∀ n n' : Nat → Nat, (∀ k, 64 ≤ k → k < 64 * (n 65 + 1) → k ≠ 68 → k ≠ 69 → n' k = n k) → rf_wf n → rf_wf n' := by
  rintro n n' h ⟨D, h1, h2, h3⟩
  have hc2 : 2 ≤ n 70 ∧ n 70 ≤ n 65 := by
    cases D with
    | zero => exact absurd h1 (fun q => q)
    | succ D => exact ⟨h1.1, h1.2.1⟩
  have e5 : n' 65 = n 65 := h 65 (by omega) (by omega) (by omega) (by omega)
  have e6 : n' 66 = n 66 := h 66 (by omega) (by omega) (by omega) (by omega)
  have e7 : n' 67 = n 67 := h 67 (by omega) (by omega) (by omega) (by omega)
  have e0 : n' 70 = n 70 := h 70 (by omega) (by omega) (by omega) (by omega)
  have hpe : ∀ q, 2 ≤ q → q ≤ n 65 → rf_pe n n' q := fun q q1 q2 a ha => h _ (by omega) (by omega) (by omega) (by omega)
  obtain ⟨t1, t2⟩ := rf_tr_frame (Nat.le_refl _) h1 (fun q hq => hpe q (rf_ct_in h1 hq).1 (rf_ct_in h1 hq).2)
  obtain ⟨f1, f2, f3⟩ := rf_hn_frame (n' := n') (Nat.le_refl _) h2 (fun q hq => hpe q (rf_hc_in h2 hq).1 (rf_hc_in h2 hq).2)
  refine ⟨D, ?_, ?_, fun q => ?_⟩
  · rw [e5, e0]; exact t1
  · rw [e5, e6, e7]; exact f1
  · rw [e5, e0, e6, e7, t2, f2]; exact h3 q
/-- a new file -/
def rf_n0 : Nat → Nat := fun k => if k = 64 then 83 else if k = 65 then 2 else if k = 70 then 2 else if k = 128 then 13 else 0
theorem rf_n0_bt : rf_bt rf_n0 := by intro k; unfold rf_n0; (repeat' split) <;> omega
theorem rf_n0_wf : rf_wf rf_n0 := by
  have g : ∀ a, rf_gb rf_n0 2 2 a = if a = 0 then 13 else 0 := by
    intro a
    unfold rf_gb rf_n0
    by_cases h : a < 64
    · rw [if_pos ⟨by omega, by omega, h⟩, if_neg (by omega), if_neg (by omega), if_neg (by omega)]
      by_cases e : a = 0
      · rw [if_pos (by omega), if_pos e]
      · rw [if_neg (by omega), if_neg e]
    · rw [if_neg (fun q => h q.2.2), if_neg (by omega)]
  have g0 : rf_gb rf_n0 2 2 0 = 13 := by rw [g]; rfl
  have g1 : rf_gb rf_n0 2 2 1 = 0 := by rw [g]; rfl
  have hl : rf_lay (rf_gb rf_n0 2 2) := by
    refine ⟨Or.inl g0, fun _ => by rw [g]; rfl, by rw [g]; rfl, by rw [g1]; omega, ?_⟩
    rw [g1]
    exact ⟨fun i hi => by omega, fun a h1 h2 => by rw [g, if_neg (by omega)]⟩
  have e5 : rf_n0 65 = 2 := rfl
  have e6 : rf_n0 66 = 0 := rfl
  have e7 : rf_n0 67 = 0 := rfl
  have e0 : rf_n0 70 = 2 := rfl
  refine ⟨1, ?_, ?_, fun q => ?_⟩
  · rw [e5, e0]
    exact ⟨by omega, by omega, hl, fun _ i hi => by rw [g1] at hi; omega, fun q => by rw [g0] at q; omega⟩
  · rw [e5, e6, e7]; rfl
  · rw [e5, e0, e6, e7, rf_ct, if_pos g0, g1]
    show (if 2 = q then 1 else 0) + 0 + 0 ≤ 1
    split <;> omega
theorem opp_init {WF : (Nat → Nat) → Prop} (hW : WF rf_n0) : op_init (in_v WF) := by
  have p0 : rf_pg (fun _ => 0) (fun _ => 0) := fun k _ => rf_sx0.symm
  obtain ⟨w1, a1, b1⟩ := rf_put (p := 1) (a := 0) (v := 83) (c := 2) p0 (by omega) (by omega) (by omega) (x := 83) rfl
  obtain ⟨w2, a2, b2⟩ := rf_put (p := 1) (a := 1) (v := 2) (c := 2) b1 (by omega) (by omega) (by omega) (x := 2) rfl
  obtain ⟨w3, a3, b3⟩ := rf_put (p := 1) (a := 6) (v := 2) (c := 2) b2 (by omega) (by omega) (by omega) (x := 2) rfl
  obtain ⟨w4, a4, b4⟩ := rf_put (p := 2) (a := 0) (v := 13) (c := 2) b3 (by omega) (by omega) (by omega) (x := 13) rfl
  have b5 : rf_pg w4 rf_n0 := by
    intro k hk
    rw [b4 k hk]
    congr 1
    unfold rf_pt rf_n0
    by_cases e1 : k + 64 = 64
    · rw [if_pos e1, if_neg (by omega), if_neg (by omega), if_neg (by omega), if_pos ⟨by omega, by omega, by omega, by omega⟩]
    by_cases e2 : k + 64 = 65
    · rw [if_neg e1, if_pos e2, if_neg (by omega), if_neg (by omega), if_pos ⟨by omega, by omega, by omega, by omega⟩]
    by_cases e3 : k + 64 = 70
    · rw [if_neg e1, if_neg e2, if_pos e3, if_neg (by omega), if_pos ⟨by omega, by omega, by omega, by omega⟩]
    by_cases e4 : k + 64 = 128
    · rw [if_neg e1, if_neg e2, if_neg e3, if_pos e4, if_pos ⟨by omega, by omega, by omega, by omega⟩]
    · rw [if_neg e1, if_neg e2, if_neg e3, if_neg e4, if_neg (by omega), if_neg (by omega), if_neg (by omega), if_neg (by omega)]
  have md : rf_md (upd (upd (upd (upd (fun _ => 0) 64 (83 : Int32)) 65 (2 : Int32)) 70 (2 : Int32)) 128 (13 : Int32)) rf_n0 := by
    intro k hk
    unfold rf_n0
    by_cases e4 : k = 128
    · subst e4; rw [pk_us]; rfl
    rw [pk_un e4]
    by_cases e3 : k = 70
    · subst e3; rw [pk_us]; rfl
    rw [pk_un e3]
    by_cases e2 : k = 65
    · subst e2; rw [pk_us]; rfl
    rw [pk_un e2]
    by_cases e1 : k = 64
    · subst e1; rw [pk_us]; rfl
    · rw [pk_un e1, if_neg e1, if_neg e2, if_neg e3, if_neg e4]; rfl
  obtain ⟨w5, a5, b6⟩ := rf_copyAll (c1 := 2) (c2 := 0) (b2 := fun _ => 0) b5
  obtain ⟨w6, a6, b7⟩ := rf_fetch (upd (upd (upd (upd (fun _ => 0) 64 (83 : Int32)) 65 (2 : Int32)) 70 (2 : Int32)) 128 (13 : Int32)) (fun _ => 0)
  have md6 : rf_md w6 rf_n0 := fun k hk => by rw [b7 k hk]; exact md k hk
  refine ⟨2, w4, 2, w5, w6, ?_, a5, a6, ⟨0, by omega, rfl, rfl, fun j hj => by omega⟩, ⟨rfl, Or.inr rfl, rfl, 0, by omega, by decide⟩, 2, rf_n0, ⟨rf_n0_bt, rfl, by omega, by omega, b6, md⟩, rfl, rfl, Or.inl rfl, fun q => absurd q (by decide), fun _ => ⟨rfl, rfl, hW, rf_n0, ⟨rf_n0_bt, rfl, by decide, by decide, b5, md6⟩, by decide, hW⟩⟩
  rw [f_Pages_makeEmptyFile]
  rw [show f_Pages_put 2 (fun _ => 0) 1 0 83 = some w1 from a1, pu_b1_s, show f_Pages_put 2 w1 1 1 2 = some w2 from a2, pu_b1_s, show f_Pages_put 2 w2 1 6 2 = some w3 from a3, pu_b1_s, show f_Pages_put 2 w3 2 0 13 = some w4 from a4, pu_b1_s]
end RFI
