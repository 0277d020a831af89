section RFD
noncomputable def rf_dv (P : Prop) : Nat := @ite Nat P (Classical.propDecidable P) 1 0
theorem rf_dv_t {P : Prop} (h : P) : rf_dv P = 1 := by unfold rf_dv; rw [if_pos h]
theorem rf_dv_f {P : Prop} (h : ¬ P) : rf_dv P = 0 := by unfold rf_dv; rw [if_neg h]
theorem rf_dv_le (P : Prop) : rf_dv P ≤ 1 := by
  by_cases h : P
  · rw [rf_dv_t h]; omega
  · rw [rf_dv_f h]; omega
theorem rf_dv_bz (P : Prop) : pu_bz (nI (rf_dv P)) := by
  by_cases h : P
  · rw [rf_dv_t h]; exact pu_bz1
  · rw [rf_dv_f h]; exact pu_bz0
theorem rf_dv_congr {P Q : Prop} (h : P ↔ Q) : rf_dv P = rf_dv Q := by rw [propext h]
theorem rf_fu : pu_fu = 2000 := rfl
/-- a page is the same in two files -/
def rf_sm (n d : Nat → Nat) (p : Nat) : Prop := ∀ a, a < 64 → n (64 * p + a) = d (64 * p + a)
theorem rf_same {nb fb : Nat → Int32} {n d : Nat → Nat} {nc c p : Nat} (hn : rf_bt n) (hd : rf_bt d) (hnb : rf_pg nb n) (hfb : rf_pg fb d) (h1 : 1 ≤ p) (h2 : p ≤ c) (h3 : c ≤ nc) (h4 : nc ≤ 24) : f_Pages_samePage (nI nc) nb (nI c) fb (nI p) = some (nI (rf_dv (rf_sm n d p))) := by
  unfold f_Pages_samePage
  have hg : ∀ a, a < 64 → f_Pages_get (nI nc) nb (nI p) (nI a) = some (nI (n (64 * p + a))) ∧ f_Pages_get (nI c) fb (nI p) (nI a) = some (nI (d (64 * p + a))) := by
    intro a ha
    rw [rf_get hn hnb (by omega) (by omega) (by omega), rf_get hd hfb (by omega) (by omega) (by omega)]
    unfold rf_gb
    rw [if_pos ⟨h1, by omega, ha⟩, if_pos ⟨h1, h2, ha⟩]
    exact ⟨rfl, rfl⟩
  refine rf_loop (σ := Unit) (fun f _ i => q_Pages_samePage_2 (nI nc) nb (nI c) fb (nI p) f (nI i)) (fun i _ => ∀ a, a < i → n (64 * p + a) = d (64 * p + a)) (fun r => r = some (nI (rf_dv (rf_sm n d p)))) 64 ?_ ?_ 64 pu_fu () 0 rfl (by decide) (fun a h => by omega)
  · intro f _ h
    show q_Pages_samePage_2 (nI nc) nb (nI c) fb (nI p) (f + 1) (nI 64) = _
    rw [q_Pages_samePage_2, pu_br_t (by decide), rf_dv_t (P := rf_sm n d p) h]
    rfl
  · intro f _ i hi h
    obtain ⟨g1, g2⟩ := hg i hi
    have h64 : ¬ (64 : Int32) ≤ nI i := nI_ge (a := i) (b := 64) hi (by decide)
    by_cases e : n (64 * p + i) = d (64 * p + i)
    · refine Or.inl ⟨(), fun a ha => ?_, ?_⟩
      · by_cases e2 : a = i
        · rw [e2]; exact e
        · exact h a (by omega)
      · show q_Pages_samePage_2 (nI nc) nb (nI c) fb (nI p) (f + 1) (nI i) = q_Pages_samePage_2 (nI nc) nb (nI c) fb (nI p) f (nI (i + 1))
        rw [q_Pages_samePage_2, pu_br_f h64, g1, pu_b1_s, g2, pu_b1_s, pu_br_t (show nI (n (64 * p + i)) = nI (d (64 * p + i)) from by rw [e]), pu_nm, nI_1]
    · refine Or.inr ?_
      show q_Pages_samePage_2 (nI nc) nb (nI c) fb (nI p) (f + 1) (nI i) = _
      rw [q_Pages_samePage_2, pu_br_f h64, g1, pu_b1_s, g2, pu_b1_s, pu_br_f (fun h => e ((nI_eq (by have := hn (64 * p + i); omega) (by have := hd (64 * p + i); omega)).mp h)), rf_dv_f (fun h => e (h i hi))]
      rfl
theorem rf_differs {mn md : Nat → Int32} {n d : Nat → Nat} {c p : Nat} (hn : rf_bt n) (hd : rf_bt d) (hmn : rf_md mn n) (hmd : rf_md md d) (hc : c ≤ 24) (hp : p ≤ 24) : f_MD_differs (nI c) mn md (nI p) = some (nI (rf_dv (c < p ∨ ¬ rf_sm n d p))) := by
  have key : ∀ s0 : Prop, q_MD_differs_13 (nI c) mn md (nI p) (nI (rf_dv s0)) = some (nI (rf_dv (s0 ∨ ¬ rf_sm n d p))) := by
    intro s0
    unfold q_MD_differs_13
    have e64 : (64 : Int32) * nI p = nI (64 * p) := pk_mul 64 p
    rw [e64]
    refine rf_loop (fun f st i => q_MD_differs_19 (nI c) mn md (nI p) f st (nI i)) (fun i st => 64 * p ≤ i ∧ st = nI (rf_dv (s0 ∨ ¬ ∀ a, a < i - 64 * p → n (64 * p + a) = d (64 * p + a)))) (fun r => r = some (nI (rf_dv (s0 ∨ ¬ rf_sm n d p)))) (64 * p + 64) ?_ ?_ 64 pu_fu _ (64 * p) rfl (by decide) ⟨Nat.le_refl _, ?_⟩
    · intro f st h
      show q_MD_differs_19 (nI c) mn md (nI p) (f + 1) st (nI (64 * p + 64)) = _
      have e : ((64 : Int32) * nI p) + 64 = nI (64 * p + 64) := by rw [e64]; exact nI_add _ 64
      rw [q_MD_differs_19, e, pu_br_t (nI_le (Nat.le_refl _) (by omega)), h.2, pu_ck_t (rf_dv_bz _)]
      rw [show 64 * p + 64 - 64 * p = 64 by omega]
      rfl
    · intro f st i hi h
      have e : ((64 : Int32) * nI p) + 64 = nI (64 * p + 64) := by rw [e64]; exact nI_add _ 64
      have hin : vp_in (nI i) 1600 := vp_in_nI (by omega) (by decide)
      have hi2 : 64 * p + (i - 64 * p) = i := by omega
      have hni := hn i
      have hdi := hd i
      refine Or.inl ⟨nI (rf_dv (s0 ∨ ¬ ∀ a, a < i + 1 - 64 * p → n (64 * p + a) = d (64 * p + a))), ⟨by omega, rfl⟩, ?_⟩
      show q_MD_differs_19 (nI c) mn md (nI p) (f + 1) st (nI i) = q_MD_differs_19 (nI c) mn md (nI p) f _ (nI (i + 1))
      rw [q_MD_differs_19, e, pu_br_f (nI_ge hi (by omega)), h.2]
      by_cases hP : s0 ∨ ¬ ∀ a, a < i - 64 * p → n (64 * p + a) = d (64 * p + a)
      · rw [rf_dv_t hP, pu_br_f (by decide), q_MD_differs_49, q_MD_differs_54, pu_nm, nI_1, rf_dv_t]
        · rfl
        · rcases hP with g | g
          · exact Or.inl g
          · exact Or.inr (fun g2 => g (fun a ha => g2 a (by omega)))
      · rw [rf_dv_f hP, pu_br_t (show nI 0 = 0 from rfl), pu_ck_t hin, pu_ck_t hin, nI_clamp (by omega), hmn i (by omega), hmd i (by omega)]
        have hP1 : ¬ s0 := fun g => hP (Or.inl g)
        have hP2 : ∀ a, a < i - 64 * p → n (64 * p + a) = d (64 * p + a) := Classical.not_not.mp (fun g => hP (Or.inr g))
        by_cases ee : n i = d i
        · rw [pu_br_t (show nI (n i) = nI (d i) from by rw [ee]), q_MD_differs_54, pu_nm, nI_1, rf_dv_f]
          · rfl
          · intro g
            rcases g with g | g
            · exact hP1 g
            · refine g (fun a ha => ?_)
              by_cases e2 : a = i - 64 * p
              · rw [e2, hi2]; exact ee
              · exact hP2 a (by omega)
        · rw [pu_br_f (fun g => ee ((nI_eq (by omega) (by omega)).mp g)), q_MD_differs_49, q_MD_differs_54, pu_nm, nI_1, rf_dv_t]
          · rfl
          · refine Or.inr (fun g => ee ?_)
            have := g (i - 64 * p) (by omega)
            rw [hi2] at this
            exact this
    · congr 1
      refine rf_dv_congr ⟨fun g => Or.inl g, fun g => ?_⟩
      rcases g with g | g
      · exact g
      · exact absurd (fun a ha => by omega) g
  unfold f_MD_differs
  by_cases h : p ≤ c
  · rw [pu_br_t (nI_le h (by omega)), show (0 : Int32) = nI (rf_dv (c < p)) by rw [rf_dv_f (by omega)]; rfl, key]
  · rw [pu_br_f (nI_ge (by omega) (by omega)), show (1 : Int32) = nI (rf_dv (c < p)) by rw [rf_dv_t (by omega)]; rfl, key]
end RFD
