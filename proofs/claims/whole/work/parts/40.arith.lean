-- bytes, numbers, loops
def rf_sx (c : Nat) : Int32 := (nI c).toInt8.toInt32
theorem rf_sx_and {c : Nat} (h : c < 256) : rf_sx c &&& 255 = nI c := sc_k8 c h
theorem rf_sx_fits (c : Nat) : fits .byte (.int (rf_sx c)) = true := pk_fb _
theorem rf_nar (x : Int32) : vp_nar .byte x.toInt8.toInt32 = x.toInt8.toInt32 := pk_vb x
theorem rf_nar_sx (c : Nat) : vp_nar .byte (nI c).toInt8.toInt32 = rf_sx c := pk_vb _
theorem rf_sx0 : rf_sx 0 = 0 := by decide
theorem rf_nz0 : vp_nar .boolean 0 = 0 := rfl
theorem rf_nz1 : vp_nar .boolean 1 = 1 := rfl
/-- a loop whose counter goes up, with any end -/
theorem rf_loop {σ o : Type} (q : Nat → σ → Nat → Option o) (I : Nat → σ → Prop) (R : Option o → Prop) (hi : Nat)
    (hx : ∀ n st, I hi st → R (q (n + 1) st hi)) (hs : ∀ n st i, i < hi → I i st → (∃ st', I (i + 1) st' ∧ q (n + 1) st i = q n st' (i + 1)) ∨ R (q (n + 1) st i)) :
    ∀ m n st i, i + m = hi → m < n → I i st → R (q n st i)
  | 0, n, st, i, h1, h2, h3 => by
    obtain ⟨n, rfl⟩ : ∃ k, n = k + 1 := ⟨n - 1, by omega⟩
    have : i = hi := by omega
    subst this
    exact hx n st h3
  | m + 1, n, st, i, h1, h2, h3 => by
    obtain ⟨n, rfl⟩ : ∃ k, n = k + 1 := ⟨n - 1, by omega⟩
    rcases hs n st i (by omega) h3 with ⟨st', h4, h5⟩ | h4
    · rw [h5]
      exact rf_loop q I R hi hx hs m n st' (i + 1) (by omega) (by omega) h4
    · exact h4
theorem rf_int {x : Int32} (h : ¬ x < 0) : ∃ j : Nat, j < 2 ^ 31 ∧ x = nI j := nI_of h
theorem rf_lt0 (n : Nat) (h : n < 2 ^ 31) : ¬ nI n < 0 := nI_pos h
theorem rf_fetch (d w : Nat → Int32) : ∃ w', f_MD_fetch d w = some w' ∧ ∀ k, k < 1600 → w' k = d k := by
  unfold f_MD_fetch
  refine rf_loop (fun n st i => q_MD_fetch_2 d n st (nI i)) (fun i st => ∀ k, k < i → st k = d k) (fun r => ∃ w', r = some w' ∧ ∀ k, k < 1600 → w' k = d k) 1600 ?_ ?_ 1600 pu_fu w 0 rfl (by decide) (fun k h => by omega)
  · intro n st h
    refine ⟨st, ?_, h⟩
    show q_MD_fetch_2 d (n + 1) st (nI 1600) = some st
    rw [q_MD_fetch_2, pu_br_t (by decide)]
  · intro n st i hi h
    refine Or.inl ⟨upd st i (d i), fun k hk => ?_, ?_⟩
    · by_cases e : k = i
      · subst e; exact pk_us
      · rw [pk_un e]; exact h k (by omega)
    · show q_MD_fetch_2 d (n + 1) st (nI i) = q_MD_fetch_2 d n (upd st i (d i)) (nI (i + 1))
      have h1 : vp_in (nI i) 1600 := vp_in_nI hi (by decide)
      have h2 : ¬ (1600 : Int32) ≤ nI i := nI_ge (a := i) (b := 1600) hi (by decide)
      rw [q_MD_fetch_2, pu_br_f h2, pu_ck_t h1, pu_ck_t h1]
      show q_MD_fetch_2 d n (upd st (nI i).toNatClampNeg (d (nI i).toNatClampNeg)) (nI i + 1) = _
      rw [nI_clamp (by omega), nI_1]
