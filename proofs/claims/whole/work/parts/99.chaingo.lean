section RFCG
variable {r : Nat → Nat} {L : Nat} {m U : Nat → Nat}
def rf_cpt (r : Nat → Nat) (s t : Nat) : Nat → Nat := fun a => if 1 ≤ a ∧ a < 1 + t then r (s + (a - 1)) else 0
theorem rf_cpt_s {s t a : Nat} : rf_cpt r s (t + 1) a = rf_p1 (rf_cpt r s t) (1 + t) (r (s + t)) a := by
  unfold rf_cpt rf_p1
  dsimp only
  by_cases e : a = 1 + t
  · rw [if_pos e, if_pos (by omega)]; congr 1; omega
  · rw [if_neg e]
    by_cases e2 : 1 ≤ a ∧ a < 1 + t
    · rw [if_pos e2, if_pos (by omega)]
    · rw [if_neg e2, if_neg (by omega)]
theorem rf_cpt_e {s T a : Nat} (hT : (T = 63 ∧ s + 63 ≤ L) ∨ (T < 63 ∧ s + T = L)) (ha : a < 64) : rf_cpg r L s 0 a = rf_cpt r s T a := by
  unfold rf_cpg rf_cpt
  by_cases e : a = 0
  · rw [if_pos e, if_neg (by omega)]
  · rw [if_neg e]
    by_cases e2 : s + (a - 1) < L
    · rw [if_pos e2, if_pos (by omega)]
    · rw [if_neg e2, if_neg (by omega)]
/-- the class fills a page of a chain -/
theorem rf_fill {b rb : Nat → Int32} {c p s T : Nat} (hrb : ∀ a, a < L → rb a = rf_sx (r a)) (hL : L ≤ 307) (hb : rf_pg b (rf_wp m p (fun _ => 0))) (hc : c ≤ 24) (h1 : 1 ≤ p) (h2 : p ≤ c) (hT : (T = 63 ∧ s + 63 ≤ L) ∨ (T < 63 ∧ s + T = L)) (kx : (Nat → Int32) → Int32 → Option (Int32 × Int32 × (Nat → Int32))) (x1 x4 : Int32) :
    ∃ w, q_Tree_writeChain_65 kx (nI L) rb (nI c) x1 x4 (nI p) pu_fu b (nI s) 1 = kx w (nI (s + T)) ∧ rf_pg w (rf_wp m p (rf_cpg r L s 0)) := by
  refine rf_loop (fun f x t => q_Tree_writeChain_65 kx (nI L) rb (nI c) x1 x4 (nI p) f x (nI (s + t)) (nI (1 + t))) (fun t x => rf_pg x (rf_wp m p (rf_cpt r s t))) (fun q => ∃ w, q = kx w (nI (s + T)) ∧ rf_pg w (rf_wp m p (rf_cpg r L s 0))) T ?_ ?_ T pu_fu b 0 (by omega) (by rw [rf_fu]; omega) ?_
  · intro f x hx
    refine ⟨x, ?_, by rw [rf_wp_congr (fun a ha => rf_cpt_e hT ha)]; exact hx⟩
    show q_Tree_writeChain_65 kx (nI L) rb (nI c) x1 x4 (nI p) (f + 1) x (nI (s + T)) (nI (1 + T)) = _
    rcases hT with ⟨e1, e2⟩ | ⟨e1, e2⟩
    · rw [q_Tree_writeChain_65, pu_br_t (show (63 : Int32) < nI (1 + T) from nI_lt (a := 63) (by omega) (by omega))]
    · rw [q_Tree_writeChain_65, pu_br_f (show ¬ (63 : Int32) < nI (1 + T) from nI_nlt (a := 63) (by omega) (by omega)), pu_br_t (nI_le (by omega) (by omega))]
  · intro f x t ht hx
    obtain ⟨w, q1, q2⟩ := rf_putw hx (a := 1 + t) (v := r (s + t)) (x := rb (s + t)) hc h1 h2 (by omega) (by rw [hrb _ (by omega)]; exact rf_sx_id _)
    refine Or.inl ⟨w, by rw [rf_wp_congr (fun a _ => rf_cpt_s)]; exact q2, ?_⟩
    show q_Tree_writeChain_65 kx (nI L) rb (nI c) x1 x4 (nI p) (f + 1) x (nI (s + t)) (nI (1 + t)) = q_Tree_writeChain_65 kx (nI L) rb (nI c) x1 x4 (nI p) f w (nI (s + (t + 1))) (nI (1 + (t + 1)))
    rw [q_Tree_writeChain_65, pu_br_f (show ¬ (63 : Int32) < nI (1 + t) from nI_nlt (a := 63) (by omega) (by omega)), pu_br_f (nI_ge (by omega) (by omega)), pu_br_f (show ¬ (307 : Int32) ≤ nI (s + t) from nI_ge (b := 307) (by omega) (by omega)), pu_ck_t (vp_in_nI (by omega) (by decide)), nI_clamp (by omega), q1, pu_b1_s, nI_1, pu_nm, nI_1, pu_nm]
    rfl
  · rw [rf_wp_congr (h' := fun _ => 0) (fun a _ => by unfold rf_cpt; rw [if_neg (by omega)])]
    exact hb
/-- the reference fills a page of a chain -/
theorem rf_mfill {b rec : Nat → Int32} {p s T : Nat} (hrb : ∀ a, a < L → rec a = nI (r a)) (hL : L ≤ 307) (hb : rf_md b (rf_wp m p (fun _ => 0))) (h2 : p ≤ 24) (hT : (T = 63 ∧ s + 63 ≤ L) ∨ (T < 63 ∧ s + T = L)) (kx : (Nat → Int32) → Option (Int32 × (Nat → Int32))) (x1 : Int32) :
    ∃ w, q_MD_makeChain_66 kx (nI L) rec x1 (nI s) (nI p) pu_fu b 0 = kx w ∧ rf_md w (rf_wp m p (rf_cpg r L s 0)) := by
  refine rf_loop (fun f x t => q_MD_makeChain_66 kx (nI L) rec x1 (nI s) (nI p) f x (nI t)) (fun t x => rf_md x (rf_wp m p (rf_cpt r s t))) (fun q => ∃ w, q = kx w ∧ rf_md w (rf_wp m p (rf_cpg r L s 0))) T ?_ ?_ T pu_fu b 0 (by omega) (by rw [rf_fu]; omega) ?_
  · intro f x hx
    refine ⟨x, ?_, by rw [rf_wp_congr (fun a ha => rf_cpt_e hT ha)]; exact hx⟩
    show q_MD_makeChain_66 kx (nI L) rec x1 (nI s) (nI p) (f + 1) x (nI T) = _
    rcases hT with ⟨e1, e2⟩ | ⟨e1, e2⟩
    · rw [q_MD_makeChain_66, pu_br_t (show (63 : Int32) ≤ nI T from nI_le (a := 63) (by omega) (by omega))]
    · rw [q_MD_makeChain_66, pu_br_f (show ¬ (63 : Int32) ≤ nI T from nI_ge (b := 63) (by omega) (by omega)), nI_add, pu_br_t (nI_le (by omega) (by omega))]
  · intro f x t ht hx
    have q2 := rf_mputw hx (a := 1 + t) (v := r (s + t)) (by omega)
    refine Or.inl ⟨upd x (64 * p + (1 + t)) (nI (r (s + t))), by rw [rf_wp_congr (fun a _ => rf_cpt_s)]; exact q2, ?_⟩
    show q_MD_makeChain_66 kx (nI L) rec x1 (nI s) (nI p) (f + 1) x (nI t) = q_MD_makeChain_66 kx (nI L) rec x1 (nI s) (nI p) f (upd x (64 * p + (1 + t)) (nI (r (s + t)))) (nI (t + 1))
    rw [q_MD_makeChain_66, pu_br_f (show ¬ (63 : Int32) ≤ nI t from nI_ge (b := 63) (by omega) (by omega)), nI_add, pu_br_f (nI_ge (by omega) (by omega)), pu_ck_t (vp_in_nI (by omega) (by decide)), show (64 : Int32) * nI p = nI (64 * p) from pk_mul 64 p, nI_1, nI_add, pu_ck_t (vp_in_nI (by omega) (by decide)), nI_clamp (by omega), nI_clamp (by omega), hrb _ (by omega), pu_nm, nI_1, pu_nm, Nat.add_assoc (64 * p)]
  · rw [rf_wp_congr (h' := fun _ => 0) (fun a _ => by unfold rf_cpt; rw [if_neg (by omega)])]
    exact hb
/-- both chains, to the end -/
def rf_chfin (r : Nat → Nat) (L : Nat) (m0 U : Nat → Nat) (x : Option (Int32 × Int32 × (Nat → Int32))) (y : Option (Int32 × (Nat → Int32))) : Prop :=
  (∃ pc pb w, x = some (0, pc, pb) ∧ y = some (-1, w)) ∨
  (∃ m' ps pb w, x = some (nI (ps 0), nI (m' 65), pb) ∧ y = some (nI (ps 0), w) ∧ rf_pg pb m' ∧ rf_md w m' ∧ rf_ok m' (fun q => U q + rf_cps ps (rf_cp L) q) ∧ rf_chv r L m' (rf_cp L) ps ∧ m0 65 ≤ m' 65 ∧ m' 70 = m0 70 ∧ ∀ q, 1 ≤ U q → rf_pe m0 m' q)
theorem rf_chain_go (hr : ∀ k, r k < 256) (h24 : 24 < L) (hL : L ≤ 307) {rb rec : Nat → Int32} (hrb : ∀ a, a < L → rb a = rf_sx (r a)) (hrec : ∀ a, a < L → rec a = nI (r a)) {m0 : Nat → Nat} :
    ∀ rem i, i + rem = rf_cp L → ∀ {m ps b mn}, rf_ok m (fun q => U q + rf_cps ps i q) → rf_chv r L m i ps → rf_pg b m → rf_md mn m → m0 65 ≤ m 65 → m 70 = m0 70 → (∀ q, 1 ≤ U q → rf_pe m0 m q) → ∀ fx fm, rem ≤ fx → rem ≤ fm →
      rf_chfin r L m0 U (q_Tree_writeChain_10 (nI L) rb (fx + 1) (nI (m 65)) b (nI (if i = 0 then 0 else ps 0)) (nI (if i = 0 then 0 else ps (i - 1))) (nI (if 16 + 63 * i ≤ L then 16 + 63 * i else L)) (nI i)) (q_MD_makeChain_7 (nI L) rec (fm + 1) mn (nI (if i = 0 then 0 else ps 0)) (nI (if i = 0 then 0 else ps (i - 1))) (nI (16 + 63 * i))) := by
  have hcp : rf_cp L = (L - 16 + 62) / 63 := by unfold rf_cp; rw [if_neg (by omega)]
  intro rem
  induction rem with
  | zero =>
    intro i hi m ps b mn H h hb hmn h65 h70 hpe fx fm _ _
    have hi1 : 1 ≤ i := by omega
    rw [if_neg (by omega), q_Tree_writeChain_10, rf_chainPages (by omega), pu_b1_s, pu_br_t (nI_le (by omega) (by omega)), q_MD_makeChain_7, pu_br_f (show ¬ nI L ≤ (24 : Int32) from nI_ge (a := 24) h24 (by omega)), pu_br_t (nI_le (by omega) (by omega))]
    have : i = rf_cp L := by omega
    subst this
    exact Or.inr ⟨m, ps, b, mn, rfl, rfl, hb, hmn, H, h, h65, h70, hpe⟩
  | succ rem ih =>
    intro i hi m ps b mn H h hb hmn h65 h70 hpe fx fm hfx hfm
    obtain ⟨fx, rfl⟩ : ∃ f, fx = f + 1 := ⟨fx - 1, by omega⟩
    obtain ⟨fm, rfl⟩ : ∃ f, fm = f + 1 := ⟨fm - 1, by omega⟩
    have hs : 16 + 63 * i < L := by omega
    rw [if_pos (show 16 + 63 * i ≤ L by omega), q_Tree_writeChain_10, rf_chainPages (by omega), pu_b1_s, pu_br_f (nI_ge (by omega) (by omega)), q_MD_makeChain_7, pu_br_f (show ¬ nI L ≤ (24 : Int32) from nI_ge (a := 24) h24 (by omega)), pu_br_f (nI_ge hs (by omega))]
    by_cases tk : rf_tk m = 0
    · rw [rf_takePage0 H hb tk, pu_b3_s, pu_br_t rfl, rf_mtakePage0 hmn (by have := H.1 66; omega) tk, pu_b2_s, pu_br_t rfl]
      exact Or.inl ⟨_, _, _, rfl, rfl⟩
    · obtain ⟨t1, t2, t3, t4, t5, t6, t7, t8⟩ := rf_tk_ok H tk
      have c24 := t5.2.2.1
      obtain ⟨w1, q1, s1⟩ := rf_takePage H hb tk
      obtain ⟨v1, u1, s2⟩ := rf_mtakePage H hmn tk
      obtain ⟨a1, a2, a3, a4, a5, a6⟩ := rf_c1p_all (U := U) hr H h tk rfl
      obtain ⟨T, hT⟩ : ∃ T, (T = 63 ∧ 16 + 63 * i + 63 ≤ L) ∨ (T < 63 ∧ 16 + 63 * i + T = L) := by
        by_cases e : 16 + 63 * i + 63 ≤ L
        · exact ⟨63, Or.inl ⟨rfl, e⟩⟩
        · exact ⟨L - (16 + 63 * i), Or.inr ⟨by omega, by omega⟩⟩
      have eat : 16 + 63 * i + T = (if 16 + 63 * (i + 1) ≤ L then 16 + 63 * (i + 1) else L) := by
        rcases hT with ⟨e1, e2⟩ | ⟨e1, e2⟩
        · rw [if_pos (by omega)]; omega
        · rw [if_neg (by omega)]; exact e2
      rw [q1, pu_b3_s, pu_br_f (nI_ne0 (n := rf_tk m) (by omega) (by omega)), u1, pu_b2_s, pu_br_f (nI_ne0 (n := rf_tk m) (by omega) (by omega))]
      -- the link
      obtain ⟨ml, hml⟩ : ∃ ml, ml = (if i = 0 then rf_tn m else rf_wp (rf_tn m) (ps (i - 1)) (rf_cpg r L (16 + 63 * (i - 1)) (rf_tk m))) := ⟨_, rfl⟩
      have ec : rf_c1p r L m i ps = rf_wp ml (rf_tk m) (rf_cpg r L (16 + 63 * i) 0) := by rw [hml]; rfl
      have zl : rf_wp ml (rf_tk m) (fun _ => 0) = ml := by
        have : rf_wp ml (rf_tk m) (fun a => ml (64 * rf_tk m + a)) = ml := rf_wp_self
        rw [← this]
        rw [rf_wp_wp]
        refine rf_wp_congr (fun a ha => ?_)
        rw [hml]
        by_cases e : i = 0
        · rw [if_pos e]; exact (t7 a ha).symm
        · rw [if_neg e, rf_wp_pe (fun q => ?_) a ha]
          · exact (t7 a ha).symm
          · have := rf_su_le (f := fun t => if ps t = rf_tk m then 1 else 0) (show i - 1 < i by omega)
            rw [if_pos q.symm] at this
            have : rf_cps ps i (rf_tk m) = rf_su (fun t => if ps t = rf_tk m then 1 else 0) i := rfl
            have t4 : U (rf_tk m) + rf_cps ps i (rf_tk m) = 0 := t4
            omega
      have p0 : (fun j => if j = i then rf_tk m else ps j) 0 = if i = 0 then rf_tk m else ps 0 := by
        dsimp only
        by_cases e : i = 0
        · rw [if_pos e.symm, if_pos e]
        · rw [if_neg (by omega), if_neg e]
      -- the rest, for any first page
      have fin : ∀ w2 v2, rf_pg w2 ml → rf_md v2 ml →
          rf_chfin r L m0 U (q_Tree_writeChain_62 (q_Tree_writeChain_10 (nI L) rb (fx + 1)) (nI L) rb (nI (rf_tn m 65)) w2 (nI (if i = 0 then rf_tk m else ps 0)) (nI (16 + 63 * i)) (nI i) (nI (rf_tk m))) (q_MD_makeChain_63 (q_MD_makeChain_7 (nI L) rec (fm + 1)) (nI L) rec v2 (nI (if i = 0 then rf_tk m else ps 0)) (nI (16 + 63 * i)) (nI (rf_tk m))) := by
        intro w2 v2 hw2 hv2
        rw [← zl] at hw2 hv2
        obtain ⟨w3, q3, s3⟩ := rf_fill hrb hL hw2 (c := rf_tn m 65) c24 (by omega) t2 hT (fun v_pages_bytes x_3 => q_Tree_writeChain_119 (q_Tree_writeChain_10 (nI L) rb (fx + 1)) (nI L) rb (nI (rf_tn m 65)) v_pages_bytes (nI (if i = 0 then rf_tk m else ps 0)) x_3 (nI i) (nI (rf_tk m))) (nI (if i = 0 then rf_tk m else ps 0)) (nI i)
        obtain ⟨v3, u3, s4⟩ := rf_mfill hrec hL hv2 (by omega) hT (fun v_now => q_MD_makeChain_114 (q_MD_makeChain_7 (nI L) rec (fm + 1)) (nI L) rec v_now (nI (if i = 0 then rf_tk m else ps 0)) (nI (16 + 63 * i)) (nI (rf_tk m))) (nI (if i = 0 then rf_tk m else ps 0))
        rw [← ec] at s3 s4
        rw [q_Tree_writeChain_62, q3, q_Tree_writeChain_119, nI_1, pu_nm, q_MD_makeChain_63, u3, q_MD_makeChain_114, show nI (16 + 63 * i) + (63 : Int32) = nI (16 + 63 * i + 63) from nI_add _ 63, pu_nm]
        have := ih (i + 1) (by omega) a1 a2 s3 s4 (by omega) (by rw [a5]; exact h70) (fun q hq a ha => by rw [a6 q hq a ha]; exact hpe q hq a ha) fx fm (by omega) (by omega)
        have z1 : (if i + 1 = 0 then 0 else if 0 = i then rf_tk m else ps 0) = if i = 0 then rf_tk m else ps 0 := by
          rw [if_neg (show ¬ i + 1 = 0 by omega)]; exact p0
        have z2 : (if i + 1 = 0 then 0 else if i + 1 - 1 = i then rf_tk m else ps (i + 1 - 1)) = rf_tk m := by
          rw [if_neg (show ¬ i + 1 = 0 by omega), if_pos (show i + 1 - 1 = i by omega)]
        rw [z1, z2, a3, ← eat] at this
        exact this
      by_cases e : i = 0
      · rw [if_pos e, if_pos e] 
        have f0 := fin w1 v1 (by rw [hml, if_pos e]; exact s1) (by rw [hml, if_pos e]; exact s2)
        rw [if_pos e] at f0
        rw [show nI 0 = (0 : Int32) from rfl, pu_br_t rfl, pu_br_t rfl, q_MD_makeChain_47, pu_br_t (by decide)]
        exact f0
      · rw [if_neg e, if_neg e]
        obtain ⟨b1, b2, b3⟩ := h (i - 1) (by omega)
        rw [if_neg (by omega)] at b3
        have pst : ps (i - 1) ≠ rf_tk m := fun q => by
          have := rf_su_le (f := fun t => if ps t = rf_tk m then 1 else 0) (show i - 1 < i by omega)
          rw [if_pos q] at this
          have : rf_cps ps i (rf_tk m) = rf_su (fun t => if ps t = rf_tk m then 1 else 0) i := rfl
          have t4 : U (rf_tk m) + rf_cps ps i (rf_tk m) = 0 := t4
          omega
        have self : rf_wp (rf_tn m) (ps (i - 1)) (rf_cpg r L (16 + 63 * (i - 1)) 0) = rf_tn m := by
          have s := rf_wp_self (n := rf_tn m) (p := ps (i - 1))
          rw [rf_wp_congr (h' := rf_cpg r L (16 + 63 * (i - 1)) 0) (fun a ha => by rw [t6 _ b1 pst a ha]; exact b3 a ha)] at s
          exact s
        have p1e : ∀ a, a < 64 → rf_cpg r L (16 + 63 * (i - 1)) (rf_tk m) a = rf_p1 (rf_cpg r L (16 + 63 * (i - 1)) 0) 0 (rf_tk m) a := fun a _ => by
          unfold rf_cpg rf_p1
          dsimp only
          by_cases e0 : a = 0
          · rw [if_pos e0, if_pos e0]
          · rw [if_neg e0, if_neg e0, if_neg e0]
        obtain ⟨w2, q2, s3⟩ := rf_putw (n := rf_tn m) (p := ps (i - 1)) (h := rf_cpg r L (16 + 63 * (i - 1)) 0) (by rw [self]; exact s1) (c := rf_tn m 65) (a := 0) (v := rf_tk m) (x := nI (rf_tk m)) c24 (by omega) (by omega) (by omega) rfl
        have s4 := rf_mputw (n := rf_tn m) (p := ps (i - 1)) (h := rf_cpg r L (16 + 63 * (i - 1)) 0) (b := v1) (by rw [self]; exact s2) (a := 0) (v := rf_tk m) (by omega)
        rw [← rf_wp_congr p1e] at s3 s4
        have f0 := fin w2 _ (by rw [hml, if_neg e]; exact s3) (by rw [hml, if_neg e]; exact s4)
        rw [if_neg e] at f0
        obtain ⟨c1, c2, _⟩ := h 0 (by omega)
        rw [pu_br_f (nI_ne0 (n := ps (i - 1)) (by omega) (by omega)), show f_Pages_put (nI (rf_tn m 65)) w1 (nI (ps (i - 1))) 0 (nI (rf_tk m)) = some w2 from q2, pu_b1_s, pu_br_f (nI_ne0 (n := ps 0) (by omega) (by omega)), q_MD_makeChain_47, pu_br_f (nI_nle (by omega) (by omega)), show (64 : Int32) * nI (ps (i - 1)) = nI (64 * ps (i - 1)) from pk_mul 64 _, pu_ck_t (vp_in_nI (by omega) (by decide)), nI_clamp (by omega), pu_nm]
        exact f0
end RFCG
