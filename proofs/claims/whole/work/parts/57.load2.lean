section RFL2
/-- what load leaves: the page's bytes, its kind, LAST, and its cells where they stand as they must -/
def rf_ld (g : Nat → Nat) (r cnt last leaf : Int32) (b starts sizes : Nat → Int32) : Prop :=
  (∀ a, a < 64 → b a = rf_sx (g a)) ∧ last = nI (g 2) ∧ leaf = nI (rf_dv (g 0 = 13)) ∧ ((rf_lay g ∧ r = 1 ∧ cnt = nI (g 1) ∧ ∀ i, i < g 1 → starts i = nI (rf_st g (i + 1)) ∧ sizes i = nI (rf_st g i - rf_st g (i + 1))) ∨ (¬ rf_lay g ∧ r = 0 ∧ cnt = 0))
theorem rf_load27 {pc cnt last leaf : Int32} {pb b starts sizes : Nat → Int32} {g : Nat → Nat} (hg : ∀ k, g k < 256) (hb : ∀ k, k < 64 → b k = rf_sx (g k)) :
    ∃ r cn la le st sz, q_Node_load_27 pc pb cnt last leaf b starts sizes = some (r, cn, la, le, b, st, sz) ∧ rf_ld g r cn la le b st sz := by
  have h0 := hg 0
  have h1 := hg 1
  have h2 := hg 2
  have h3 := hg 3
  have c0 : (0 : Int32).toNatClampNeg = 0 := by decide
  have c1 : (1 : Int32).toNatClampNeg = 1 := by decide
  have c2 : (2 : Int32).toNatClampNeg = 2 := by decide
  have c3 : (3 : Int32).toNatClampNeg = 3 := by decide
  have i0 : vp_in (0 : Int32) 96 := by unfold vp_in; decide
  have i1 : vp_in (1 : Int32) 96 := by unfold vp_in; decide
  have i2 : vp_in (2 : Int32) 96 := by unfold vp_in; decide
  have i3 : vp_in (3 : Int32) 96 := by unfold vp_in; decide
  -- the last step, for a kind that is right
  have e108 : ∀ le : Int32, le = nI (rf_dv (g 0 = 13)) → (g 0 = 13 ∨ g 0 = 5) → (g 0 = 13 → g 2 = 0) → ∃ r cn la le' st sz, q_Node_load_108 pc pb 0 (nI (g 2)) le b starts sizes (nI (g 1)) = some (r, cn, la, le', b, st, sz) ∧ rf_ld g r cn la le' b st sz := by
    intro le hle hk hl
    by_cases g3 : g 3 = 0
    · by_cases g1 : g 1 ≤ 30
      · obtain ⟨r, cn, st, sz, k1, k2⟩ := rf_findCells (cnt := 0) (starts := starts) (sizes := sizes) hg hb g1
        have hbz : pu_bz r := by
          rcases k2 with ⟨_, rfl, _⟩ | ⟨_, rfl, _⟩
          · exact pu_bz1
          · exact pu_bz0
        refine ⟨r, cn, nI (g 2), le, st, sz, ?_, hb, rfl, hle, ?_⟩
        · rw [q_Node_load_108, pu_ck_t i3, c3, hb 3 (by omega), pu_br_t ((rf_sx_eq0 h3).mpr g3), pu_br_t (show nI (g 1) ≤ (30 : Int32) from nI_le (a := g 1) (b := 30) g1 (by decide)), k1, pu_b4_s, pu_ck_t hbz]
        · rcases k2 with ⟨q1, q2, q3, q4⟩ | ⟨q1, q2, q3⟩
          · exact Or.inl ⟨⟨hk, hl, g3, g1, q1⟩, q2, q3, q4⟩
          · exact Or.inr ⟨fun q => q1 q.2.2.2.2, q2, q3⟩
      · refine ⟨0, 0, nI (g 2), le, starts, sizes, ?_, hb, rfl, hle, Or.inr ⟨fun q => g1 q.2.2.2.1, rfl, rfl⟩⟩
        rw [q_Node_load_108, pu_ck_t i3, c3, hb 3 (by omega), pu_br_t ((rf_sx_eq0 h3).mpr g3), pu_br_f (show ¬ nI (g 1) ≤ (30 : Int32) from nI_ge (a := 30) (b := g 1) (by omega) (by omega))]
    · refine ⟨0, 0, nI (g 2), le, starts, sizes, ?_, hb, rfl, hle, Or.inr ⟨fun q => g3 q.2.2.1, rfl, rfl⟩⟩
      rw [q_Node_load_108, pu_ck_t i3, c3, hb 3 (by omega), pu_br_f (fun q => g3 ((rf_sx_eq0 h3).mp q))]
  have e44 : ∀ s1 : Int32, pu_bz s1 → q_Node_load_44 pc pb cnt last leaf b starts sizes s1 = pu_br (s1 = 0) (pu_br (rf_sx (g 0) = (5 : Int32)) (q_Node_load_94 pc pb 0 (nI (g 2)) s1 b starts sizes (nI (g 1))) (some ((0 : Int32), (0 : Int32), nI (g 2), s1, b, starts, sizes))) (q_Node_load_94 pc pb 0 (nI (g 2)) s1 b starts sizes (nI (g 1))) := by
    intro s1 hz
    rw [q_Node_load_44, pu_ck_t hz, pu_ck_t i2, c2, hb 2 (by omega), rf_sx_and h2, pu_nm, pu_ck_t i1, c1, hb 1 (by omega), rf_sx_and h1, pu_nm, pu_ck_t i0, c0, hb 0 (by omega)]
  rw [q_Node_load_27, pu_ck_t i0, c0, hb 0 (by omega)]
  by_cases k13 : g 0 = 13
  · rw [pu_br_t ((rf_sx_eq13 h0).mpr k13), e44 1 pu_bz1, pu_br_f (by decide), q_Node_load_94, pu_br_f (by decide)]
    have hle : (1 : Int32) = nI (rf_dv (g 0 = 13)) := by rw [rf_dv_t k13]; rfl
    by_cases l0 : g 2 = 0
    · rw [pu_br_t (show nI (g 2) = (0 : Int32) by rw [l0]; rfl)]
      exact e108 1 hle (Or.inl k13) (fun _ => l0)
    · rw [pu_br_f (show ¬ nI (g 2) = (0 : Int32) from nI_ne0 (by omega) (by omega))]
      exact ⟨0, 0, nI (g 2), 1, starts, sizes, rfl, hb, rfl, hle, Or.inr ⟨fun q => l0 (q.2.1 k13), rfl, rfl⟩⟩
  · have hle : (0 : Int32) = nI (rf_dv (g 0 = 13)) := by rw [rf_dv_f k13]; rfl
    rw [pu_br_f (fun q => k13 ((rf_sx_eq13 h0).mp q)), e44 0 pu_bz0, pu_br_t rfl]
    by_cases k5 : g 0 = 5
    · rw [pu_br_t ((rf_sx_eq5 h0).mpr k5), q_Node_load_94, pu_br_t rfl]
      exact e108 0 hle (Or.inr k5) (fun q => absurd q k13)
    · rw [pu_br_f (fun q => k5 ((rf_sx_eq5 h0).mp q))]
      exact ⟨0, 0, nI (g 2), 0, starts, sizes, rfl, hb, rfl, hle, Or.inr ⟨fun q => by rcases q.1 with q | q; exact k13 q; exact k5 q, rfl, rfl⟩⟩
theorem rf_load {pb : Nat → Int32} {d : Nat → Nat} (hd : rf_bt d) (hpb : rf_pg pb d) {c p : Nat} (hc : c ≤ 24) (hp : p < 2 ^ 20) (cnt last leaf : Int32) (b starts sizes : Nat → Int32) :
    ∃ r cn la le b' st sz, f_Node_load (nI c) pb cnt last leaf b starts sizes (nI p) = some (r, cn, la, le, b', st, sz) ∧ rf_ld (rf_gb d c p) r cn la le b' st sz ∧ ∀ k, 64 ≤ k → b' k = b k := by
  unfold f_Node_load
  refine rf_loop (fun f st i => q_Node_load_2 (fun v_bytes => q_Node_load_27 (nI c) pb cnt last leaf v_bytes starts sizes) (nI c) pb cnt last leaf starts sizes (nI p) f st (nI i)) (fun i st => (∀ a, a < i → st a = rf_sx (rf_gb d c p a)) ∧ ∀ k, 64 ≤ k → st k = b k) (fun q => ∃ r cn la le b' st sz, q = some (r, cn, la, le, b', st, sz) ∧ rf_ld (rf_gb d c p) r cn la le b' st sz ∧ ∀ k, 64 ≤ k → b' k = b k) 64 ?_ ?_ 64 pu_fu b 0 rfl (by decide) ⟨fun a h => by omega, fun _ _ => rfl⟩
  · intro f st h
    obtain ⟨r, cn, la, le, st', sz, k1, k2⟩ := rf_load27 (pc := nI c) (pb := pb) (cnt := cnt) (last := last) (leaf := leaf) (starts := starts) (sizes := sizes) (rf_gb_lt hd c p) h.1
    refine ⟨r, cn, la, le, st, st', sz, ?_, k2, h.2⟩
    show q_Node_load_2 (fun v_bytes => q_Node_load_27 (nI c) pb cnt last leaf v_bytes starts sizes) (nI c) pb cnt last leaf starts sizes (nI p) (f + 1) st (nI 64) = _
    rw [q_Node_load_2, pu_br_t (by decide)]
    exact k1
  · intro f st i hi h
    refine Or.inl ⟨upd st i (rf_sx (rf_gb d c p i)), ⟨fun a ha => ?_, fun k hk => ?_⟩, ?_⟩
    · by_cases e : a = i
      · subst e; exact pk_us
      · rw [pk_un e]; exact h.1 a (by omega)
    · rw [pk_un (by omega)]; exact h.2 k hk
    · show q_Node_load_2 (fun v_bytes => q_Node_load_27 (nI c) pb cnt last leaf v_bytes starts sizes) (nI c) pb cnt last leaf starts sizes (nI p) (f + 1) st (nI i) = q_Node_load_2 _ (nI c) pb cnt last leaf starts sizes (nI p) f _ (nI (i + 1))
      rw [q_Node_load_2, pu_br_f (show ¬ (64 : Int32) ≤ nI i from nI_ge (a := i) (b := 64) hi (by decide)), rf_get hd hpb hc (by omega) (by omega), pu_b1_s, pu_ck_t (vp_in_nI (by omega) (by decide)), nI_clamp (by omega), rf_nar_sx, pu_nm, pu_nm, nI_1]
end RFL2
