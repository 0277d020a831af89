section RFQ
theorem rf_phase2 {nb diff fb mn mdisk rp rb : Nat → Int32} {n d : Nat → Nat} {c nc : Nat} {ar hd hp rs up : Int32}
    {kx157 kx217 kx248 : Int32 → Int32 → (Nat → Int32) → Option (Int32 × Int32 × Int32 × Int32 × Int32 × Int32 × Int32 × (Nat → Int32) × (Nat → Int32) × (Nat → Int32))}
    (hn : rf_bt n) (hd' : rf_bt d) (hnb : rf_pg nb n) (hfb : rf_pg fb d) (hmn : rf_md mn n) (hmd : rf_md mdisk d) (h65 : n 65 = nc) (hc2 : 2 ≤ c) (hc : c ≤ nc) (hnc : nc ≤ 24) (hdf : ∀ p, 1 ≤ p → p ≤ 24 → diff p = nI (rf_dv (rf_df n d c nc p))) (har : rf_ar ar) :
    (∃ (ar' : Int32) (c' : Nat) (w mdisk' : Nat → Int32) (e : Nat → Nat), c ≤ c' ∧ c' ≤ nc ∧ rf_bt e ∧ rf_pg w e ∧ rf_md mdisk' e ∧ f_RF_writePages (nI nc) nb diff ar (nI c) fb = some (0, ar', nI c', w) ∧ (q_MD_write_122 kx157 kx217 kx248 mn hd hp rs up rp rb (nI c) pu_fu (nI c) ar mdisk 1 = kx157 (nI c') ar' mdisk' ∨ q_MD_write_122 kx157 kx217 kx248 mn hd hp rs up rp rb (nI c) pu_fu (nI c) ar mdisk 1 = kx217 (nI c') ar' mdisk')) ∨
    ∃ (ar' : Int32) (w mdisk' : Nat → Int32), rf_ar ar' ∧ rf_pg w (rf_mix n d (nc + 1)) ∧ rf_md mdisk' (rf_mix n d (nc + 1)) ∧ f_RF_writePages (nI nc) nb diff ar (nI c) fb = some (1, ar', nI nc, w) ∧ q_MD_write_122 kx157 kx217 kx248 mn hd hp rs up rp rb (nI c) pu_fu (nI c) ar mdisk 1 = kx248 (nI nc) ar' mdisk' := by
  have key := rf_lp2 (fun f (st : Int32 × Int32 × (Nat → Int32)) i => q_RF_writePages_2 (fun v_armed v_disk_file_count v_disk_file_bytes x_1 => q_RF_writePages_27 (nI nc) nb diff v_armed v_disk_file_count v_disk_file_bytes x_1) (nI nc) nb diff f st.1 st.2.1 st.2.2 (nI i)) (fun f (st : Int32 × Int32 × (Nat → Int32)) i => q_MD_write_122 kx157 kx217 kx248 mn hd hp rs up rp rb (nI c) f st.1 st.2.1 st.2.2 (nI i)) (rf_K n d c)
    (fun r r' => ∃ (ar' : Int32) (c' : Nat) (w mdisk' : Nat → Int32) (e : Nat → Nat), c ≤ c' ∧ c' ≤ nc ∧ rf_bt e ∧ rf_pg w e ∧ rf_md mdisk' e ∧ r = some (0, ar', nI c', w) ∧ (r' = kx157 (nI c') ar' mdisk' ∨ r' = kx217 (nI c') ar' mdisk')) (nc + 1) ?_ nc pu_fu pu_fu (ar, nI c, fb) (nI c, ar, mdisk) 1 (by omega) (by rw [rf_fu]; omega) (by rw [rf_fu]; omega) ?_
  · rcases key with ⟨k, k', st, st', g1, g2, g3, g4, g5⟩ | g
    · obtain ⟨sa, sc, sb⟩ := st
      obtain ⟨tc, ta, tb⟩ := st'
      obtain ⟨h1, h2, h3, h4, h5, h6, h7⟩ := g1
      dsimp only at h1 h2 h4 h5 h6 h7
      have ec : (if nc + 1 - 1 ≤ c then c else nc + 1 - 1) = nc := by split <;> omega
      rw [ec] at h4 h5
      subst h1; subst h4; subst h5
      refine Or.inr ⟨sa, sb, tb, h2, h6, h7, ?_, ?_⟩
      · exact Eq.trans g2 (rf_wtail (fun p p1 p2 => by rw [hdf p (by omega) p2, rf_dv_f (fun q => by have := q.1; omega)]; rfl) (24 - nc) (k + 1) (nc + 1) (by omega) (by rw [rf_fu] at g4; omega) (by omega))
      · refine Eq.trans g3 ?_
        show q_MD_write_122 kx157 kx217 kx248 mn hd hp rs up rp rb (nI c) (k' + 1) (nI nc) sa tb (nI (nc + 1)) = _
        rw [q_MD_write_122, rf_mpages hmn, pu_b1_s, h65, pu_br_t (nI_lt (by omega) (by omega))]
    · exact Or.inl g
  · intro f f' st st' i hi hK
    obtain ⟨sa, sc, sb⟩ := st
    obtain ⟨tc, ta, tb⟩ := st'
    obtain ⟨h1, h2, h3, h4, h5, h6, h7⟩ := hK
    dsimp only at h1 h2 h4 h5 h6 h7
    obtain ⟨c', hc'⟩ : ∃ c', c' = if i - 1 ≤ c then c else i - 1 := ⟨_, rfl⟩
    rw [← hc'] at h4 h5
    have hcle : c ≤ c' ∧ c' ≤ nc ∧ (i ≤ c' ↔ i ≤ c) ∧ (¬ i ≤ c → c' = i - 1 ∨ c' = c) := by rw [hc']; split <;> omega
    subst h1; subst h4; subst h5
    have h24 : ¬ (24 : Int32) < nI i := nI_nlt (a := 24) (b := i) (by omega) (by decide)
    have hin : vp_in (nI i) 25 := vp_in_nI (by omega) (by decide)
    have hcl : (nI i).toNatClampNeg = i := nI_clamp (by omega)
    have hdi := hdf i h3 (by omega)
    have hsm : rf_sm n (rf_mix n d i) i ↔ rf_sm n d i := by
      constructor
      · intro q a ha; have := q a ha; rw [rf_mix_at (by omega)] at this; exact this
      · intro q a ha; rw [rf_mix_at (by omega)]; exact q a ha
    have hdm := rf_differs hn (rf_mix_bt hn hd' i) hmn h7 (c := c') (p := i) (by omega) (by omega)
    have hdd : rf_dv (c' < i ∨ ¬ rf_sm n (rf_mix n d i) i) = rf_dv (c < i ∨ ¬ rf_sm n d i) := rf_dv_congr (by rw [hsm]; constructor <;> (intro q; rcases q with q | q; exact Or.inl (by omega); exact Or.inr q))
    have hde : rf_dv (rf_df n d c nc i) = rf_dv (c < i ∨ ¬ rf_sm n d i) := rf_dv_congr ⟨fun q => q.2, fun q => ⟨by omega, q⟩⟩
    rw [hde] at hdi
    rw [hdd] at hdm
    have mbr : ¬ nI nc < nI i := nI_nlt (by omega) (by omega)
    have e1 : ∀ z, q_MD_write_122 kx157 kx217 kx248 mn hd hp rs up rp rb (nI c) (f' + 1) (nI c') sa tb (nI i) = z ↔ pu_b1 (f_MD_differs (nI c') mn tb (nI i)) (fun r18 => pu_br (r18 = 0) (q_MD_write_242 (q_MD_write_122 kx157 kx217 kx248 mn hd hp rs up rp rb (nI c) f') kx157 kx217 kx248 mn (nI c') hd hp rs up sa tb rp rb (nI c) (nI i)) (pu_b2 (f_MD_cut sa) (fun r19 w20 => pu_br (r19 = 0) (q_MD_write_162 (q_MD_write_122 kx157 kx217 kx248 mn hd hp rs up rp rb (nI c) f') kx157 kx217 kx248 mn (nI c') hd hp rs up w20 tb rp rb (nI c) (nI i) r19) (pu_br (nI i ≤ nI c) (q_MD_write_162 (q_MD_write_122 kx157 kx217 kx248 mn hd hp rs up rp rb (nI c) f') kx157 kx217 kx248 mn (nI c') hd hp rs up w20 tb rp rb (nI c) (nI i) r19) (kx157 (nI c') w20 tb))))) = z := by
      intro z
      rw [q_MD_write_122, rf_mpages hmn, pu_b1_s, h65, pu_br_f mbr]
    by_cases P : c < i ∨ ¬ rf_sm n d i
    · rw [rf_dv_t P] at hdi hdm
      rcases rf_cut h2 with ⟨c1, c2⟩ | ⟨ar2, c1, c2, c3⟩
      · -- torn
        obtain ⟨w, w1, w2⟩ := rf_tear hnb h6 (nc := nc) (c' := c') (i := i) h3 (by omega) hnc (by omega)
        have hcls : q_RF_writePages_2 (fun v_armed v_disk_file_count v_disk_file_bytes x_1 => q_RF_writePages_27 (nI nc) nb diff v_armed v_disk_file_count v_disk_file_bytes x_1) (nI nc) nb diff (f + 1) sa (nI c') sb (nI i) = some (0, sa, nI c', w) := by
          rw [q_RF_writePages_2, pu_br_f h24, pu_ck_t hin, hcl, hdi, pu_br_f (by decide), c1, pu_b2_s, pu_br_f (by decide), q_RF_writePages_27, w1, pu_b1_s]
        have hbt : rf_bt (rf_torn n (rf_mix n d i) c' i) := by
          intro k; unfold rf_torn; split
          · exact hn k
          · exact rf_mix_bt hn hd' i k
        by_cases g : i ≤ c
        · obtain ⟨v, v1, v2, v3⟩ := rf_w165 (kx := fun v_disk => q_MD_write_212 (q_MD_write_122 kx157 kx217 kx248 mn hd hp rs up rp rb (nI c) f') kx157 kx217 kx248 mn (nI c') hd hp rs up sa v_disk rp rb (nI c) (nI i) 1) (now := mn) (od := nI c') (hd := hd) (hp := hp) (rs := rs) (up := up) (ar := sa) (disk := tb) (rp := rp) (rb := rb) (x1 := nI c) (x4 := 1) (p := i) (lim := 32) (by omega) (Or.inr ⟨by decide, rfl⟩)
          refine Or.inr ⟨sa, c', w, v, rf_torn n (rf_mix n d i) c' i, hcle.1, hcle.2.1, hbt, w2, fun k hk => ?_, hcls, Or.inr ?_⟩
          · unfold rf_torn
            by_cases e2 : 64 * i ≤ k ∧ k < 64 * i + 32
            · have := v2 (k - 64 * i) (by omega)
              rw [show 64 * i + (k - 64 * i) = k by omega] at this
              rw [this, hmn k hk, if_pos ⟨by omega, e2.1, e2.2⟩]
            · rw [v3 k (by omega), h7 k hk, if_neg (by omega)]
          · refine (e1 _).mpr ?_
            rw [hdm, pu_b1_s, pu_br_f (by decide), c2, pu_b2_s, pu_br_f (by decide), pu_br_t (nI_le g (by omega)), q_MD_write_162, v1, q_MD_write_212, pu_br_f (by decide)]
        · refine Or.inr ⟨sa, c', w, tb, rf_torn n (rf_mix n d i) c' i, hcle.1, hcle.2.1, hbt, w2, fun k hk => ?_, hcls, Or.inl ?_⟩
          · unfold rf_torn
            rw [if_neg (fun q => g (hcle.2.2.1.mp q.1))]
            exact h7 k hk
          · refine (e1 _).mpr ?_
            rw [hdm, pu_b1_s, pu_br_f (by decide), c2, pu_b2_s, pu_br_f (by decide), pu_br_f (nI_ge (by omega) (by omega))]
      · obtain ⟨w, w1, w2⟩ := rf_wpage hnb h6 (nc := nc) (c' := c') (i := i) h3 (by omega) hnc (by omega)
        obtain ⟨v, v1, v2, v3⟩ := rf_w165 (kx := fun v_disk => q_MD_write_212 (q_MD_write_122 kx157 kx217 kx248 mn hd hp rs up rp rb (nI c) f') kx157 kx217 kx248 mn (nI c') hd hp rs up ar2 v_disk rp rb (nI c) (nI i) 0) (now := mn) (od := nI c') (hd := hd) (hp := hp) (rs := rs) (up := up) (ar := ar2) (disk := tb) (rp := rp) (rb := rb) (x1 := nI c) (x4 := 0) (p := i) (lim := 64) (by omega) (Or.inl ⟨rfl, rfl⟩)
        have ecc : (if i ≤ c' then c' else i) = (if i + 1 - 1 ≤ c then c else i + 1 - 1) := by rw [hc']; (repeat' split) <;> omega
        refine Or.inl ⟨(ar2, nI (if i ≤ c' then c' else i), w), (nI (if i ≤ c' then c' else i), ar2, v), ⟨rfl, c3, by omega, by rw [ecc], by rw [ecc], w2, fun k hk => ?_⟩, ?_, ?_⟩
        · show v k = _
          unfold rf_mix
          by_cases e2 : 64 * i ≤ k ∧ k < 64 * i + 64
          · have := v2 (k - 64 * i) (by omega)
            rw [show 64 * i + (k - 64 * i) = k by omega] at this
            rw [this, hmn k hk, if_pos ⟨by omega, by omega⟩]
          · rw [v3 k (by omega), h7 k hk]
            unfold rf_mix
            by_cases e3 : 64 ≤ k ∧ k < 64 * i
            · rw [if_pos e3, if_pos ⟨e3.1, by omega⟩]
            · rw [if_neg e3, if_neg (by omega)]
        · show q_RF_writePages_2 (fun v_armed v_disk_file_count v_disk_file_bytes x_1 => q_RF_writePages_27 (nI nc) nb diff v_armed v_disk_file_count v_disk_file_bytes x_1) (nI nc) nb diff (f + 1) sa (nI c') sb (nI i) = q_RF_writePages_2 (fun v_armed v_disk_file_count v_disk_file_bytes x_1 => q_RF_writePages_27 (nI nc) nb diff v_armed v_disk_file_count v_disk_file_bytes x_1) (nI nc) nb diff f ar2 (nI (if i ≤ c' then c' else i)) w (nI (i + 1))
          rw [q_RF_writePages_2, pu_br_f h24, pu_ck_t hin, hcl, hdi, pu_br_f (by decide), c1, pu_b2_s, pu_br_t rfl, w1, pu_b2_s, q_RF_writePages_53, pu_nm, nI_1]
        · refine (e1 _).mpr ?_
          rw [hdm, pu_b1_s, pu_br_f (by decide), c2, pu_b2_s, pu_br_t rfl, q_MD_write_162, v1, q_MD_write_212, pu_br_t rfl]
          by_cases g : i ≤ c'
          · rw [pu_br_t (nI_le g (by omega)), q_MD_write_239, q_MD_write_242, pu_nm, nI_1, if_pos g]
          · rw [pu_br_f (nI_ge (by omega) (by omega)), q_MD_write_239, q_MD_write_242, pu_nm, nI_1, if_neg g]
    · rw [rf_dv_f P] at hdi hdm
      have hic : i ≤ c := Nat.not_lt.mp (fun q => P (Or.inl q))
      have hs : rf_sm n d i := Classical.not_not.mp (fun q => P (Or.inr q))
      have ecc : c' = (if i + 1 - 1 ≤ c then c else i + 1 - 1) := by rw [hc']; (repeat' split) <;> omega
      refine Or.inl ⟨(sa, nI c', sb), (nI c', sa, tb), ⟨rfl, h2, by omega, by rw [← ecc], by rw [← ecc], by rw [rf_mix_same h3 hs]; exact h6, by rw [rf_mix_same h3 hs]; exact h7⟩, ?_, ?_⟩
      · show q_RF_writePages_2 (fun v_armed v_disk_file_count v_disk_file_bytes x_1 => q_RF_writePages_27 (nI nc) nb diff v_armed v_disk_file_count v_disk_file_bytes x_1) (nI nc) nb diff (f + 1) sa (nI c') sb (nI i) = q_RF_writePages_2 (fun v_armed v_disk_file_count v_disk_file_bytes x_1 => q_RF_writePages_27 (nI nc) nb diff v_armed v_disk_file_count v_disk_file_bytes x_1) (nI nc) nb diff f sa (nI c') sb (nI (i + 1))
        rw [q_RF_writePages_2, pu_br_f h24, pu_ck_t hin, hcl, hdi, pu_br_t (show nI 0 = 0 from rfl), q_RF_writePages_53, pu_nm, nI_1]
      · refine (e1 _).mpr ?_
        rw [hdm, pu_b1_s, pu_br_t (show nI 0 = 0 from rfl), q_MD_write_242, pu_nm, nI_1]
  · refine ⟨rfl, har, by omega, ?_, ?_, ?_, ?_⟩
    · show nI c = _
      rw [if_pos (by omega)]
    · show nI c = _
      rw [if_pos (by omega)]
    · intro k hk
      show fb k = _
      rw [hfb k hk]
      unfold rf_mix
      rw [if_neg (by omega)]
    · intro k hk
      show mdisk k = _
      rw [hmd k hk]
      unfold rf_mix
      rw [if_neg (by omega)]
end RFQ
