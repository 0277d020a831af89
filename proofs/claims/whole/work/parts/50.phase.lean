section RFH
theorem rf_ctail {fb diff : Nat → Int32} {c : Nat} (hc : c ≤ 24) (hdf : ∀ p, 1 ≤ p → p ≤ 24 → ∃ P : Prop, diff p = nI (rf_dv P)) (ar hr : Int32) (rb rec : Nat → Int32) : ∀ m f i, i + m = 25 → m < f → c < i → q_RF_writeRecords_9 (nI c) fb diff (nI c) f ar hr rb rec (nI i) = some (1, ar, hr, nI c, rb, rec)
  | 0, f, i, h1, h2, h3 => by
    obtain ⟨f, rfl⟩ : ∃ k, f = k + 1 := ⟨f - 1, by omega⟩
    have : i = 25 := by omega
    subst this
    rw [q_RF_writeRecords_9, pu_br_t (by decide)]
  | m + 1, f, i, h1, h2, h3 => by
    obtain ⟨f, rfl⟩ : ∃ k, f = k + 1 := ⟨f - 1, by omega⟩
    have h24 : ¬ (24 : Int32) < nI i := nI_nlt (a := 24) (b := i) (by omega) (by decide)
    have ih := rf_ctail (fb := fb) hc hdf ar hr rb rec m f (i + 1) (by omega) (by omega) (by omega)
    have e58 : q_RF_writeRecords_58 (q_RF_writeRecords_9 (nI c) fb diff (nI c) f) (nI c) fb diff ar hr (nI c) rb rec (nI i) = some (1, ar, hr, nI c, rb, rec) := by
      rw [q_RF_writeRecords_58, pu_nm, nI_1]; exact ih
    rw [q_RF_writeRecords_9, pu_br_f h24, pu_ck_t (vp_in_nI (by omega) (by decide)), nI_clamp (by omega)]
    by_cases e : diff i = 0
    · rw [pu_br_t e, e58]
    · rw [pu_br_f e, pu_br_t (nI_lt h3 (by omega)), e58]
theorem rf_phase1 {fb diff rb rec mn mdisk rp mrb : Nat → Int32} {n d : Nat → Nat} {c nc : Nat} {ar hr rc hd hp rs up : Int32}
    {kx32 : Int32 → (Nat → Int32) → (Nat → Int32) → Option (Int32 × Int32 × Int32 × Int32 × Int32 × Int32 × Int32 × (Nat → Int32) × (Nat → Int32) × (Nat → Int32))}
    {kx93 : Int32 → (Nat → Int32) → (Nat → Int32) → Int32 → Option (Int32 × Int32 × Int32 × Int32 × Int32 × Int32 × Int32 × (Nat → Int32) × (Nat → Int32) × (Nat → Int32))}
    (hn : rf_bt n) (hd' : rf_bt d) (hfb : rf_pg fb d) (hmn : rf_md mn n) (hmd : rf_md mdisk d) (hc : c ≤ nc) (hnc : nc ≤ 24) (hdf : ∀ p, 1 ≤ p → p ≤ 24 → diff p = nI (rf_dv (rf_df n d c nc p))) (har : rf_ar ar) :
    (∃ (ar' hr' : Int32) (rb' rec' rp' mrb' : Nat → Int32), f_RF_writeRecords (nI c) fb diff ar hr rc rb rec = some (0, ar', hr', nI c, rb', rec') ∧ q_MD_write_9 kx32 kx93 mn (nI c) hd hp rs up mdisk (nI c) pu_fu ar rp mrb 0 1 = kx32 ar' rp' mrb') ∨
    ∃ (st : Int32 × Int32 × (Nat → Int32) × (Nat → Int32)) (st' : Int32 × (Nat → Int32) × (Nat → Int32) × Int32), rf_J d (c + 1) st st' ∧ f_RF_writeRecords (nI c) fb diff ar hr rc rb rec = some (1, st.1, st.2.1, nI c, st.2.2.1, st.2.2.2) ∧ q_MD_write_9 kx32 kx93 mn (nI c) hd hp rs up mdisk (nI c) pu_fu ar rp mrb 0 1 = kx93 st'.1 st'.2.1 st'.2.2.1 st'.2.2.2 := by
  obtain ⟨w0, z1, z2⟩ := rf_startJ (c := c) (hr := hr) (rc := rc) (rec := rec)
  have e0 : f_RF_writeRecords (nI c) fb diff ar hr rc rb rec = q_RF_writeRecords_9 (nI c) fb diff (nI c) pu_fu ar 0 rb w0 1 := by
    rw [f_RF_writeRecords, z1, pu_b3_s]
  rw [e0]
  have key := rf_lp2 (fun f (st : Int32 × Int32 × (Nat → Int32) × (Nat → Int32)) i => q_RF_writeRecords_9 (nI c) fb diff (nI c) f st.1 st.2.1 st.2.2.1 st.2.2.2 (nI i)) (fun f (st : Int32 × (Nat → Int32) × (Nat → Int32) × Int32) i => q_MD_write_9 kx32 kx93 mn (nI c) hd hp rs up mdisk (nI c) f st.1 st.2.1 st.2.2.1 st.2.2.2 (nI i)) (rf_J d)
    (fun r r' => ∃ (ar' hr' : Int32) (rb' rec' rp' mrb' : Nat → Int32), r = some (0, ar', hr', nI c, rb', rec') ∧ r' = kx32 ar' rp' mrb') (c + 1) ?_ c pu_fu pu_fu (ar, 0, rb, w0) (ar, rp, mrb, 0) 1 (by omega) (by rw [rf_fu]; omega) (by rw [rf_fu]; omega) ?_
  · rcases key with ⟨k, k', st, st', g1, g2, g3, g4, g5⟩ | g
    · refine Or.inr ⟨st, st', g1, ?_, ?_⟩
      · refine Eq.trans g2 (rf_ctail (by omega) (fun p p1 p2 => ⟨_, hdf p p1 p2⟩) _ _ _ _ (24 - c) (k + 1) (c + 1) (by omega) (by rw [rf_fu] at g4; omega) (by omega))
      · refine Eq.trans g3 ?_
        show q_MD_write_9 kx32 kx93 mn (nI c) hd hp rs up mdisk (nI c) (k' + 1) st'.1 st'.2.1 st'.2.2.1 st'.2.2.2 (nI (c + 1)) = _
        rw [q_MD_write_9, pu_br_t (nI_lt (by omega) (by omega))]
    · obtain ⟨ar', hr', rb', rec', rp', mrb', q1, q2⟩ := g
      exact Or.inl ⟨ar', hr', rb', rec', rp', mrb', q1, q2⟩
  · intro f f' st st' i hi hJ
    obtain ⟨sa, sh, sb, sr⟩ := st
    obtain ⟨ta, tp, tb, tx⟩ := st'
    have hJ0 := hJ
    obtain ⟨h1, h2, h3, nr, pg, k1, k2, k3, k4, k5, k6, k7, k8⟩ := hJ
    dsimp only at h1 h2 k2 k3 k4 k6 k7 k8
    subst h1; subst k2; subst k3
    have h24 : ¬ (24 : Int32) < nI i := nI_nlt (a := 24) (b := i) (by omega) (by decide)
    have hin : vp_in (nI i) 25 := vp_in_nI (by omega) (by decide)
    have hcl : (nI i).toNatClampNeg = i := nI_clamp (by omega)
    have hdi := hdf i h3 (by omega)
    have hdm := rf_differs hn hd' hmn hmd (c := c) (p := i) (by omega) (by omega)
    have hdd : rf_dv (rf_df n d c nc i) = rf_dv (c < i ∨ ¬ rf_sm n d i) := rf_dv_congr ⟨fun q => q.2, fun q => ⟨by omega, q⟩⟩
    rw [hdd] at hdi
    have mbr : ¬ nI c < nI i := nI_nlt (by omega) (by omega)
    by_cases P : c < i ∨ ¬ rf_sm n d i
    · rw [rf_dv_t P] at hdi hdm
      rcases rf_cut h2 with ⟨c1, c2⟩ | ⟨ar2, c1, c2, c3⟩
      · refine Or.inr ⟨sa, nI nr, sb, sr, tp, tb, ?_, ?_⟩
        · show q_RF_writeRecords_9 (nI c) fb diff (nI c) (f + 1) sa (nI nr) sb sr (nI i) = _
          rw [q_RF_writeRecords_9, pu_br_f h24, pu_ck_t hin, hcl, hdi, pu_br_f (by decide), pu_br_f mbr, c1, pu_b2_s, pu_br_f (by decide)]
        · show q_MD_write_9 kx32 kx93 mn (nI c) hd hp rs up mdisk (nI c) (f' + 1) sa tp tb (nI nr) (nI i) = _
          rw [q_MD_write_9, pu_br_f mbr, hdm, pu_b1_s, pu_br_f (by decide), c2, pu_b2_s, pu_br_f (by decide)]
      · obtain ⟨w, w1, w2, w3⟩ := rf_wrec hfb (rb := sb) (rec := sr) (c := c) (p := i) (nr := nr) (by omega) h3 (by omega)
        obtain ⟨v, v1, v2, v3⟩ := rf_rec47 (kx := fun v_recordBytes => q_MD_write_84 (q_MD_write_9 kx32 kx93 mn (nI c) hd hp rs up mdisk (nI c) f') kx32 kx93 mn (nI c) hd hp rs up ar2 mdisk (upd tp nr (nI i)) v_recordBytes (nI c) (nI nr) (nI i)) (now := mn) (od := nI c) (hd := hd) (hp := hp) (rs := rs) (up := up) (ar := ar2) (disk := mdisk) (rp := upd tp nr (nI i)) (rb := tb) (x1 := nI c) (r := nr) (p := i) (by omega) (by omega)
        refine Or.inl ⟨(ar2, nI (nr + 1), w, upd sr i 1), (ar2, upd tp nr (nI i), v, nI (nr + 1)), rf_J_yes (ar := sa) c3 h3 k1 k4 k5 k6 k7 k8 w2 w3 (fun a ha => by rw [v2 a ha]; exact hmd _ (by omega)) v3, ?_, ?_⟩
        · show q_RF_writeRecords_9 (nI c) fb diff (nI c) (f + 1) sa (nI nr) sb sr (nI i) = q_RF_writeRecords_9 (nI c) fb diff (nI c) f ar2 (nI (nr + 1)) w (upd sr i 1) (nI (i + 1))
          rw [q_RF_writeRecords_9, pu_br_f h24, pu_ck_t hin, hcl, hdi, pu_br_f (by decide), pu_br_f mbr, c1, pu_b2_s, pu_br_t rfl, w1, pu_b3_s, q_RF_writeRecords_58, pu_nm, nI_1]
        · show q_MD_write_9 kx32 kx93 mn (nI c) hd hp rs up mdisk (nI c) (f' + 1) sa tp tb (nI nr) (nI i) = q_MD_write_9 kx32 kx93 mn (nI c) hd hp rs up mdisk (nI c) f' ar2 (upd tp nr (nI i)) v (nI (nr + 1)) (nI (i + 1))
          rw [q_MD_write_9, pu_br_f mbr, hdm, pu_b1_s, pu_br_f (by decide), c2, pu_b2_s, pu_br_t rfl, pu_ck_t (vp_in_nI (by omega) (by decide)), pu_nm, nI_clamp (by omega), v1, q_MD_write_84, pu_nm, nI_1, q_MD_write_87, pu_nm, nI_1]
    · rw [rf_dv_f P] at hdi hdm
      refine Or.inl ⟨(sa, nI nr, sb, sr), (sa, tp, tb, nI nr), rf_J_no hJ0 (by omega), ?_, ?_⟩
      · show q_RF_writeRecords_9 (nI c) fb diff (nI c) (f + 1) sa (nI nr) sb sr (nI i) = q_RF_writeRecords_9 (nI c) fb diff (nI c) f sa (nI nr) sb sr (nI (i + 1))
        rw [q_RF_writeRecords_9, pu_br_f h24, pu_ck_t hin, hcl, hdi, pu_br_t (show nI 0 = 0 from rfl), q_RF_writeRecords_58, pu_nm, nI_1]
      · show q_MD_write_9 kx32 kx93 mn (nI c) hd hp rs up mdisk (nI c) (f' + 1) sa tp tb (nI nr) (nI i) = q_MD_write_9 kx32 kx93 mn (nI c) hd hp rs up mdisk (nI c) f' sa tp tb (nI nr) (nI (i + 1))
        rw [q_MD_write_9, pu_br_f mbr, hdm, pu_b1_s, pu_br_t (show nI 0 = 0 from rfl), q_MD_write_87, pu_nm, nI_1]
  · exact ⟨rfl, har, by omega, 0, fun _ => 0, by omega, rfl, rfl, fun r hr => by omega, fun r r' hr => by omega, fun r a hr => by omega, fun p p1 p2 => by omega, fun p p1 p2 => z2 p p2⟩
end RFH
