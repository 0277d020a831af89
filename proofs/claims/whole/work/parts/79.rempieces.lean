section RFRM
variable {n n' : Nat → Nat} {c c' p D : Nat}
theorem rf_z0 {α : Type} (f : Nat → α) : (fun i => f (0 + i)) = f := by funext i; rw [Nat.zero_add]
theorem rf_storeAll {m kd la : Nat} {ln : Nat → Nat} {cb : Nat → Nat → Nat} {cnt leaf last : Int32} {nb st sz b : Nat → Int32} (hx : rf_nx m ln cb cnt nb st sz) (hkd : (leaf = 0 ∧ kd = 5) ∨ (leaf = 1 ∧ kd = 13)) (hb : rf_pg b n) (hc : c ≤ 24) (h1 : 1 ≤ p) (h2 : p ≤ c) (hr : 4 + m + rf_su ln m ≤ 64) (hla : la < 256) (hlast : last = nI la) :
    ∃ w, f_Node_storeAll cnt last leaf nb st sz (nI c) b (nI p) = some w ∧ rf_pg w (rf_wp n p (rf_mk kd m la ln cb)) := by
  obtain ⟨w, k1, k2⟩ := rf_store (n := n) (c := c) (p := p) (kd := kd) (m := m) (la := la) (f0 := 0) hx (by omega) hkd hb hc h1 h2 (by rw [rf_z0]; exact hr) hla
  rw [rf_z0, rf_z0] at k2
  refine ⟨w, ?_, k2⟩
  rw [f_Node_storeAll, hlast, hx.2.1]
  rw [hx.2.1, Nat.zero_add] at k1
  rw [show (0 : Int32) = nI 0 from rfl, k1, pu_b1_s]
theorem rf_mput0 {m kd la : Nat} {ln : Nat → Nat} {cb : Nat → Nat → Nat} {cl row b : Nat → Int32} (hx : rf_ry m ln cb cl row) (hb : rf_md b n) (h2 : p ≤ 24) (hr : 4 + m + rf_su ln m ≤ 64) :
    ∃ w, f_MD_put (nI kd) cl row b (nI p) 0 (nI m) (nI la) = some w ∧ rf_md w (rf_wp n p (rf_mk kd m la ln cb)) := by
  obtain ⟨w, k1, k2⟩ := rf_mput (n := n) (p := p) (kd := kd) (m := m) (la := la) (f0 := 0) hx (by omega) (by omega) (by omega) hb h2 (by rw [rf_z0]; exact hr)
  rw [rf_z0, rf_z0] at k2
  exact ⟨w, k1, k2⟩
/-- the class frees a chain -/
theorem rf_freeChain (hc : c ≤ 24) {L M : Nat} (hL : L < 2 ^ 20) (hM : rf_cp L = M) (dep slot cnt last leaf : Int32) (path slots nb st sz : Nat → Int32) (kx : (Nat → Int32) → Option ((Nat → Int32) × Int32 × Int32 × Int32 × (Nat → Int32) × (Nat → Int32) × (Nat → Int32))) :
    ∀ {m n f b i}, rf_bt n → rf_pg b n → rf_hn n c m f → rf_hn n c (n 67) (n 66) → (∀ q, rf_hc n m f q + rf_hc n (n 67) (n 66) q ≤ 1) → i + m = M → m ≤ 23 → ∀ fu, m < fu →
      ∃ w, q_Tree_takeOut_58 kx dep slot (nI c) path slots cnt last leaf nb st sz (nI L) fu b (nI f) (nI i) = kx w ∧ rf_pg w (rf_fc m n f)
  | 0, n, f, b, i, hn, hb, h1, h2, h3, hi, h23, fu, hfu => by
    obtain ⟨fu, rfl⟩ : ∃ k, fu = k + 1 := ⟨fu - 1, by omega⟩
    have hcp : M < 2 ^ 20 := by rw [← hM]; unfold rf_cp; split <;> omega
    refine ⟨b, ?_, hb⟩
    rw [q_Tree_takeOut_58, rf_chainPages hL, pu_b1_s, hM, pu_br_t (nI_le (by omega) (by omega))]
  | m + 1, n, f, b, i, hn, hb, h1, h2, h3, hi, h23, fu, hfu => by
    obtain ⟨fu, rfl⟩ : ∃ k, fu = k + 1 := ⟨fu - 1, by omega⟩
    have hcp : M < 2 ^ 20 := by rw [← hM]; unfold rf_cp; split <;> omega
    obtain ⟨f1, f2, f3⟩ := h1
    have ff := h3 f
    rw [rf_hc, if_pos rfl] at ff
    have h67 : n 67 ≤ 23 := rf_hn_23 hc h2 (fun q => by have := h3 q; omega)
    obtain ⟨a1, a2⟩ := rf_fr_hn f1 f2 h2 (by omega)
    obtain ⟨k1, k2, _⟩ := rf_hn_frame (n' := rf_fr n f) (Nat.le_refl c) f3 (fun q hq => rf_fr_pe (fun e => by subst e; omega) (rf_hc_in f3 hq).1)
    obtain ⟨w1, q1, r1⟩ := rf_freePage hn hb hc f1 f2
    have g0 := rf_get hn hb (c := c) (p := f) (a := 0) hc (by omega) (by omega)
    rw [rf_gb_at (by omega) f2 (by omega), Nat.add_zero] at g0
    obtain ⟨w, q2, r2⟩ := rf_freeChain hc hL hM dep slot cnt last leaf path slots nb st sz kx (i := i + 1) (rf_fr_bt hn (by omega) (by omega)) r1 k1 a1 (fun q => by
      rw [k2, a2]
      have := h3 q
      rw [rf_hc] at this
      omega) (by omega) (by omega) fu (by omega)
    refine ⟨w, ?_, r2⟩
    rw [q_Tree_takeOut_58, rf_chainPages hL, pu_b1_s, hM, pu_br_f (nI_ge (by omega) (by omega)), show (0 : Int32) = nI 0 from rfl, g0, pu_b1_s, q1, pu_b1_s, nI_1, pu_nm, q2]
/-- the reference frees a chain -/
theorem rf_mfreeChain (hc : c ≤ 24) (up len kind cells last deep at' bad : Int32) (rec cl row way turn : Nat → Int32) (x2 x3 : Int32) (kx : (Nat → Int32) → Option (Int32 × Int32 × Int32 × Int32 × Int32 × Int32 × Int32 × Int32 × (Nat → Int32) × (Nat → Int32) × (Nat → Int32) × (Nat → Int32) × (Nat → Int32) × (Nat → Int32))) :
    ∀ {m n f b}, rf_bt n → rf_md b n → rf_hn n c m f → rf_hn n c (n 67) (n 66) → (∀ q, rf_hc n m f q + rf_hc n (n 67) (n 66) q ≤ 1) → ∀ fu, m < fu →
      ∃ w, q_MD_remove_44 kx up len kind cells last deep at' bad rec cl row way turn x2 x3 fu b (nI f) = kx w ∧ rf_md w (rf_fc m n f)
  | 0, n, f, b, hn, hb, h1, h2, h3, fu, hfu => by
    obtain ⟨fu, rfl⟩ : ∃ k, fu = k + 1 := ⟨fu - 1, by omega⟩
    refine ⟨b, ?_, hb⟩
    have h1 : f = 0 := h1
    rw [q_MD_remove_44, h1, pu_br_t (by decide)]
  | m + 1, n, f, b, hn, hb, h1, h2, h3, fu, hfu => by
    obtain ⟨fu, rfl⟩ : ∃ k, fu = k + 1 := ⟨fu - 1, by omega⟩
    obtain ⟨f1, f2, f3⟩ := h1
    have ff := h3 f
    rw [rf_hc, if_pos rfl] at ff
    have h67 : n 67 ≤ 23 := rf_hn_23 hc h2 (fun q => by have := h3 q; omega)
    obtain ⟨a1, a2⟩ := rf_fr_hn f1 f2 h2 (by omega)
    obtain ⟨k1, k2, _⟩ := rf_hn_frame (n' := rf_fr n f) (Nat.le_refl c) f3 (fun q hq => rf_fr_pe (fun e => by subst e; omega) (rf_hc_in f3 hq).1)
    obtain ⟨w1, q1, r1⟩ := rf_mfree hb f1 (by omega)
    obtain ⟨w, q2, r2⟩ := rf_mfreeChain hc up len kind cells last deep at' bad rec cl row way turn x2 x3 kx (rf_fr_bt hn (by omega) (by omega)) r1 k1 a1 (fun q => by
      rw [k2, a2]
      have := h3 q
      rw [rf_hc] at this
      omega) fu (by omega)
    refine ⟨w, ?_, r2⟩
    rw [q_MD_remove_44, pu_br_f (nI_nle (by omega) (by omega)), show (64 : Int32) * nI f = nI (64 * f) from pk_mul 64 f, pu_ck_t (vp_in_nI (by omega) (by decide)), nI_clamp (by omega), hb _ (by omega), pu_nm, q1, pu_b1_s, q2]
/-- a child changed -/
def rf_kc (g : Nat → Nat) (t O : Nat) : Nat → Nat := rf_p1 g (if t < g 1 then rf_st g (t + 1) else 2) O
theorem rf_kc_out {g : Nat → Nat} (hl : rf_lay g) {t O a : Nat} (ha : a ≠ 2) (ha2 : a < 4 + g 1) : rf_kc g t O a = g a := by
  unfold rf_kc rf_p1
  by_cases e : t < g 1
  · have := (hl.2.2.2.2.1 t e).2
    rw [if_pos e, if_neg (by omega)]
  · rw [if_neg e, if_neg ha]
theorem rf_kc_2 {g : Nat → Nat} (hl : rf_lay g) {t O : Nat} : rf_kc g t O 2 = if t < g 1 then g 2 else O := by
  unfold rf_kc rf_p1
  by_cases e : t < g 1
  · have := (rf_nd_st hl e).2.2
    rw [if_pos e, if_neg (by omega), if_pos e]
  · rw [if_neg e, if_pos rfl, if_neg e]
theorem rf_kc_st {g : Nat → Nat} (hl : rf_lay g) {t O i : Nat} (hi : i ≤ g 1) : rf_st (rf_kc g t O) i = rf_st g i := by
  cases i with
  | zero => rfl
  | succ i => rw [rf_st1, rf_st1]; exact rf_kc_out hl (by omega) (by omega)
theorem rf_st_mono {g : Nat → Nat} (hl : rf_lay g) {i j : Nat} (h : i ≤ j) (hj : j ≤ g 1) : rf_st g j ≤ rf_st g i := by
  have a := rf_lay_su hl (i := i) (by omega)
  have b := rf_lay_su hl hj
  have := rf_su_le_of (f := rf_cln g) h
  omega
theorem rf_kc_lay {g : Nat → Nat} (hl : rf_lay g) (h5 : g 0 = 5) {t O : Nat} : rf_lay (rf_kc g t O) := by
  have e0 : rf_kc g t O 0 = g 0 := rf_kc_out hl (by omega) (by omega)
  have e1 : rf_kc g t O 1 = g 1 := rf_kc_out hl (by omega) (by omega)
  have e3 : rf_kc g t O 3 = g 3 := rf_kc_out hl (by omega) (by omega)
  refine ⟨by rw [e0]; exact hl.1, by rw [e0]; intro q; omega, by rw [e3]; exact hl.2.2.1, by rw [e1]; exact hl.2.2.2.1, ?_⟩
  rw [e1]
  refine ⟨fun i hi => ?_, fun a h1 h2 => ?_⟩
  · unfold rf_c1
    rw [rf_kc_st hl (by omega), rf_kc_st hl (by omega)]
    exact hl.2.2.2.2.1 i hi
  · rw [rf_kc_st hl (Nat.le_refl _)] at h2
    unfold rf_kc rf_p1
    by_cases e : t < g 1
    · have := rf_st_mono hl (i := t + 1) (j := g 1) (by omega) (Nat.le_refl _)
      rw [if_pos e, if_neg (by omega)]
      exact hl.2.2.2.2.2 a h1 h2
    · rw [if_neg e, if_neg (by omega)]
      exact hl.2.2.2.2.2 a h1 h2
theorem rf_kc_cln {g : Nat → Nat} (hl : rf_lay g) {t O i : Nat} (hi : i < g 1) : rf_cln (rf_kc g t O) i = rf_cln g i := by
  unfold rf_cln
  rw [rf_kc_st hl (by omega), rf_kc_st hl (by omega)]
theorem rf_kc_ccb {g : Nat → Nat} (hl : rf_lay g) {t O i k : Nat} (hi : i < g 1) (hk : k < rf_cln g i) : rf_ccb (rf_kc g t O) i k = if i = t ∧ k = 0 then O else rf_ccb g i k := by
  have hs := rf_nd_st hl hi
  unfold rf_cln at hk
  unfold rf_ccb
  rw [rf_kc_st hl (by omega)]
  unfold rf_kc rf_p1
  by_cases e : t < g 1
  · rw [if_pos e]
    by_cases e2 : i = t
    · subst e2
      by_cases e3 : k = 0
      · rw [if_pos (by omega), if_pos ⟨rfl, e3⟩]
      · rw [if_neg (by omega), if_neg (fun q => e3 q.2)]
    · have ht := rf_nd_st hl e
      rw [if_neg (show ¬ (i = t ∧ k = 0) from fun q => e2 q.1), if_neg]
      by_cases e4 : i < t
      · have := rf_st_mono hl (i := i + 1) (j := t) (by omega) (by omega)
        omega
      · have := rf_st_mono hl (i := t + 1) (j := i) (by omega) (by omega)
        omega
  · rw [if_neg e, if_neg (by omega), if_neg (by omega)]
theorem rf_setChild {g : Nat → Nat} {cnt leaf last : Int32} {b st sz : Nat → Int32} (h : rf_nd g cnt leaf b st sz) (hla : last = nI (g 2)) {t O : Nat} (ht : t ≤ g 1) : ∃ la b', f_Node_setChild cnt st last b (nI t) (nI O) = some (la, b') ∧ la = nI (rf_kc g t O 2) ∧ rf_nx (g 1) (rf_cln (rf_kc g t O)) (rf_ccb (rf_kc g t O)) cnt b' st sz := by
  have hx := rf_nd_nx h
  obtain ⟨hl, hg, hb, hle, hcn, hc⟩ := h
  have h30 := hl.2.2.2.1
  subst hcn
  rw [f_Node_setChild, rf_hasCell (by omega) (by omega), rf_kc_2 hl]
  by_cases e : t < g 1
  · have hs := rf_nd_st hl e
    refine ⟨last, upd b (rf_st g (t + 1)) (rf_sx O), ?_, by rw [if_pos e]; exact hla, by omega, rfl, fun i hi => ?_⟩
    · rw [if_pos e, pu_b1_s, pu_br_f (by decide), pu_ck_t (vp_in_nI (by omega) (by decide)), nI_clamp (by omega), (hc t e).1, pu_ck_t (vp_in_nI (by omega) (by decide)), nI_clamp (by omega), rf_nar_sx, pu_nm]
    · have hsi := rf_nd_st hl hi
      have hln : rf_cln g i = rf_st g i - rf_st g (i + 1) := rfl
      rw [rf_kc_cln hl hi]
      refine ⟨rf_st g (i + 1), (hc i hi).1, (hc i hi).2, by omega, fun k hk => ?_⟩
      rw [rf_kc_ccb hl hi hk]
      by_cases e2 : i = t ∧ k = 0
      · rw [if_pos e2, e2.1, e2.2]; exact pk_us
      · rw [if_neg e2, pk_un, hb _ (by omega)]
        · rfl
        · by_cases e3 : i = t
          · subst e3; omega
          by_cases e4 : i < t
          · have := rf_st_mono hl (i := i + 1) (j := t) (by omega) (by omega)
            omega
          · have := rf_st_mono hl (i := t + 1) (j := i) (by omega) (by omega)
            omega
  · refine ⟨nI O, b, ?_, by rw [if_neg e], by omega, rfl, fun i hi => ?_⟩
    · rw [if_neg e, pu_b1_s, pu_br_t (show nI 0 = (0 : Int32) from rfl)]
    · obtain ⟨s, k1, k2, k3, k4⟩ := hx.2.2 i hi
      rw [rf_kc_cln hl hi]
      refine ⟨s, k1, k2, k3, fun k hk => ?_⟩
      rw [rf_kc_ccb hl hi hk, if_neg (by omega)]
      exact k4 k hk
theorem rf_copyAl {b : Nat → Int32} (hb : rf_pg b n) (hc : c ≤ 24) {A O : Nat} (hA : 1 ≤ A) (hA2 : A ≤ c) (hO : 1 ≤ O) (hO2 : O ≤ c) : ∃ w, f_Pages_copyPage_al (nI c) b (nI A) (nI O) 64 = some w ∧ rf_pg w (rf_wp n A (fun a => n (64 * O + a))) := by
  have e1 : (64 : Int32) - 1 = nI 63 := rfl
  have e2 : (nI O - 1) * (64 : Int32) = nI ((O - 1) * 64) := by rw [show nI O - (1 : Int32) = nI (O - 1) from pk_sub (a := O) (b := 1) hO]; exact pk_mul (O - 1) 64
  have e3 : (nI A - 1) * (64 : Int32) = nI ((A - 1) * 64) := by rw [show nI A - (1 : Int32) = nI (A - 1) from pk_sub (a := A) (b := 1) hA]; exact pk_mul (A - 1) 64
  refine ⟨va_cpy b b ((O - 1) * 64) ((A - 1) * 64) 64, ?_, fun k hk => ?_⟩
  · rw [f_Pages_copyPage_al, e1, rf_has_in hc hA hA2 (by omega), pu_b1_s, pu_br_f (by decide), rf_has_in hc hO hO2 (by omega), pu_b1_s, pu_br_f (by decide), e2, e3, show (64 : Int32) = nI 64 from rfl, pu_ck_t (rf_cpyok (by omega) (by omega) (by decide) (by decide) (fun i hi => ⟨_, hb _ (by omega)⟩)), nI_clamp (by omega), nI_clamp (by omega), nI_clamp (by omega), pu_nm]
  · unfold rf_wp
    by_cases e : 64 * A ≤ k + 64 ∧ k + 64 < 64 * A + 64
    · rw [if_pos e, pk_cpy_in (by omega) (by omega), hb _ (by omega)]
      congr 2; omega
    · rw [if_neg e, pk_cpy_out (by omega), hb k hk]
theorem rf_mcopy {b : Nat → Int32} (hb : rf_md b n) {A O : Nat} (hA2 : A ≤ 24) (hO2 : O ≤ 24) (hAO : A ≠ O) (deep : Int32) (way turn : Nat → Int32) (kx : (Nat → Int32) → Option (Nat → Int32)) : ∃ w, q_MD_lift_10 kx (nI O) deep way turn (nI A) pu_fu b 0 = kx w ∧ rf_md w (rf_wp n A (fun a => n (64 * O + a))) := by
  have eO : (64 : Int32) * nI O = nI (64 * O) := pk_mul 64 O
  have eA : (64 : Int32) * nI A = nI (64 * A) := pk_mul 64 A
  refine rf_loop (fun f x j => q_MD_lift_10 kx (nI O) deep way turn (nI A) f x (nI j)) (fun j x => rf_md x (rf_wp n A (fun a => if a < j then n (64 * O + a) else n (64 * A + a)))) (fun r => ∃ w, r = kx w ∧ rf_md w (rf_wp n A (fun a => n (64 * O + a)))) 64 ?_ ?_ 64 pu_fu b 0 (by omega) (by rw [rf_fu]; omega) ?_
  · intro f x hx
    refine ⟨x, ?_, ?_⟩
    · show q_MD_lift_10 kx (nI O) deep way turn (nI A) (f + 1) x (nI 64) = _
      rw [q_MD_lift_10, pu_br_t (show (64 : Int32) ≤ nI 64 by decide)]
    · rw [rf_wp_congr (h' := fun a => if a < 64 then n (64 * O + a) else n (64 * A + a)) (fun a ha => by rw [if_pos ha])]
      exact hx
  · intro f x j hj hx
    have hsrc : x (64 * O + j) = nI (n (64 * O + j)) := by
      rw [hx _ (by omega)]
      unfold rf_wp
      rw [if_neg (by omega)]
    refine Or.inl ⟨upd x (64 * A + j) (nI (n (64 * O + j))), ?_, ?_⟩
    · rw [rf_wp_congr (h' := rf_p1 (fun a => if a < j then n (64 * O + a) else n (64 * A + a)) j (n (64 * O + j))) (fun a ha => ?_)]
      · exact rf_mputw hx hj
      · unfold rf_p1
        dsimp only
        by_cases e : a = j
        · rw [if_pos e, if_pos (by omega), e]
        · rw [if_neg e]
          by_cases e2 : a < j
          · rw [if_pos e2, if_pos (by omega)]
          · rw [if_neg e2, if_neg (by omega)]
    · show q_MD_lift_10 kx (nI O) deep way turn (nI A) (f + 1) x (nI j) = q_MD_lift_10 kx (nI O) deep way turn (nI A) f (upd x (64 * A + j) (nI (n (64 * O + j)))) (nI (j + 1))
      rw [q_MD_lift_10, pu_br_f (show ¬ (64 : Int32) ≤ nI j from nI_ge (b := 64) hj (by omega)), eO, eA, nI_add, nI_add, pu_ck_t (vp_in_nI (by omega) (by decide)), pu_ck_t (vp_in_nI (by omega) (by decide)), nI_clamp (by omega), nI_clamp (by omega), hsrc, pu_nm, nI_1, pu_nm]
  · rw [rf_wp_congr (h' := fun a => n (64 * A + a)) (fun a ha => by rw [if_neg (by omega)]), rf_wp_self]
    exact hb
end RFRM
