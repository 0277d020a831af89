section RFWK
/-- the pages met, in an array -/
def rf_se (arr : Nat → Int32) (R : Nat → Nat) : Prop := (∀ q, R q ≤ 1) ∧ (∀ q, 1 ≤ R q → 2 ≤ q ∧ q ≤ 24) ∧ ∀ q, q ≤ 24 → arr q = nI (R q)
def rf_ad (R : Nat → Nat) (p : Nat) : Nat → Nat := fun q => R q + (if p = q then 1 else 0)
variable {n R : Nat → Nat} {c p : Nat} {arr : Nat → Int32}
theorem rf_se_ad (h : rf_se arr R) (h0 : R p = 0) (h2 : 2 ≤ p) (h24 : p ≤ 24) : rf_se (upd arr p 1) (rf_ad R p) := by
  refine ⟨fun q => ?_, fun q hq => ?_, fun q hq => ?_⟩
  · unfold rf_ad
    have := h.1 q
    by_cases e : p = q
    · subst e; rw [if_pos rfl]; omega
    · rw [if_neg e]; omega
  · unfold rf_ad at hq
    by_cases e : p = q
    · omega
    · rw [if_neg e] at hq; exact h.2.1 q (by omega)
  · unfold rf_ad
    by_cases e : q = p
    · subst e; rw [pk_us, if_pos rfl, h0]; rfl
    · rw [pk_un e, if_neg (fun z => e z.symm), Nat.add_zero]; exact h.2.2 q hq
theorem rf_reach (h : rf_se arr R) (hc : c ≤ 24) (hp : p < 2 ^ 20) : (2 ≤ p ∧ p ≤ c ∧ R p = 0 → f_Check_reach (nI c) arr (nI p) = some (1, upd arr p 1)) ∧ (¬ (2 ≤ p ∧ p ≤ c ∧ R p = 0) → f_Check_reach (nI c) arr (nI p) = some (0, arr)) := by
  rw [f_Check_reach]
  constructor
  · rintro ⟨h1, h2, h3⟩
    rw [pu_br_f (show ¬ nI p < (2 : Int32) from nI_nlt (b := 2) h1 (by omega)), pu_br_f (show ¬ (24 : Int32) < nI p from nI_nlt (a := 24) (by omega) (by omega)), pu_br_f (nI_nlt h2 (by omega)), pu_ck_t (vp_in_nI (by omega) (by decide)), nI_clamp (by omega), h.2.2 p (by omega), h3, pu_br_t (show nI 0 = (0 : Int32) from rfl), pu_ck_t (vp_in_nI (by omega) (by decide)), rf_nz1, pu_nm]
  · intro hn
    by_cases c1 : p < 2
    · rw [pu_br_t (show nI p < (2 : Int32) from nI_lt (b := 2) c1 (by omega))]
    rw [pu_br_f (show ¬ nI p < (2 : Int32) from nI_nlt (b := 2) (by omega) (by omega))]
    by_cases c2 : 24 < p
    · rw [pu_br_t (show (24 : Int32) < nI p from nI_lt (a := 24) c2 (by omega))]
    rw [pu_br_f (show ¬ (24 : Int32) < nI p from nI_nlt (a := 24) (by omega) (by omega))]
    by_cases c3 : c < p
    · rw [pu_br_t (nI_lt c3 (by omega))]
    have hr := h.1 p
    rw [pu_br_f (nI_nlt (by omega) (by omega)), pu_ck_t (vp_in_nI (by omega) (by decide)), nI_clamp (by omega), h.2.2 p (by omega), pu_br_f (nI_ne0 (by omega) (by omega))]
theorem rf_meet (h : rf_se arr R) (hc : c ≤ 24) (hp : p < 2 ^ 20) : (2 ≤ p ∧ p ≤ c ∧ R p = 0 → f_MD_meet (nI c) arr (nI p) = some (1, upd arr p 1)) ∧ (¬ (2 ≤ p ∧ p ≤ c ∧ R p = 0) → f_MD_meet (nI c) arr (nI p) = some (0, arr)) := by
  rw [f_MD_meet]
  constructor
  · rintro ⟨h1, h2, h3⟩
    rw [pu_br_f (show ¬ nI p < (2 : Int32) from nI_nlt (b := 2) h1 (by omega)), pu_br_f (nI_nlt h2 (by omega)), pu_ck_t (vp_in_nI (by omega) (by decide)), nI_clamp (by omega), h.2.2 p (by omega), h3, pu_br_t (show nI 0 = (0 : Int32) from rfl), pu_ck_t (vp_in_nI (by omega) (by decide)), rf_nz1, pu_nm]
  · intro hn
    by_cases c1 : p < 2
    · rw [pu_br_t (show nI p < (2 : Int32) from nI_lt (b := 2) c1 (by omega))]
    rw [pu_br_f (show ¬ nI p < (2 : Int32) from nI_nlt (b := 2) (by omega) (by omega))]
    by_cases c3 : c < p
    · rw [pu_br_t (nI_lt c3 (by omega))]
    have hr := h.1 p
    rw [pu_br_f (nI_nlt (by omega) (by omega)), pu_ck_t (vp_in_nI (by omega) (by decide)), nI_clamp (by omega), h.2.2 p (by omega), pu_br_f (nI_ne0 (by omega) (by omega))]
/-- zeros to the end of a page -/
def rf_zr (n : Nat → Nat) (p s : Nat) : Prop := ∀ a, s ≤ a → a < 64 → n (64 * p + a) = 0
theorem rf_zeros {b : Nat → Int32} (hn : rf_bt n) (hb : rf_pg b n) (hc : c ≤ 24) (h1 : 1 ≤ p) (h2 : p ≤ c) {s : Nat} (hs : s ≤ 64) : f_Pages_zerosFrom (nI c) b (nI p) (nI s) = some (nI (rf_dv (rf_zr n p s))) := by
  rw [f_Pages_zerosFrom]
  have key : ∀ m i fu, i + m = 64 → m < fu → s ≤ i → (∀ a, s ≤ a → a < i → n (64 * p + a) = 0) → q_Pages_zerosFrom_2 (nI c) b (nI p) fu (nI i) = some (nI (rf_dv (rf_zr n p s))) := by
    intro m
    induction m with
    | zero =>
      intro i fu hi hf hs h
      obtain ⟨fu, rfl⟩ : ∃ f, fu = f + 1 := ⟨fu - 1, by omega⟩
      rw [q_Pages_zerosFrom_2, pu_br_t (show (64 : Int32) ≤ nI i from nI_le (a := 64) (by omega) (by omega)), rf_dv_t (show rf_zr n p s from fun a h1 h2 => h a h1 (by omega))]
      rfl
    | succ m ih =>
      intro i fu hi hf hs h
      obtain ⟨fu, rfl⟩ : ∃ f, fu = f + 1 := ⟨fu - 1, by omega⟩
      have g := rf_get hn hb (c := c) (p := p) (a := i) hc (by omega) (by omega)
      rw [rf_gb_at h1 h2 (by omega)] at g
      rw [q_Pages_zerosFrom_2, pu_br_f (show ¬ (64 : Int32) ≤ nI i from nI_ge (b := 64) (by omega) (by omega)), g, pu_b1_s]
      by_cases e : n (64 * p + i) = 0
      · rw [e, pu_br_t (show nI 0 = (0 : Int32) from rfl), nI_1, pu_nm]
        exact ih (i + 1) fu (by omega) (by omega) (by omega) (fun a a1 a2 => by
          by_cases e2 : a = i
          · rw [e2]; exact e
          · exact h a a1 (by omega))
      · have := hn (64 * p + i)
        rw [pu_br_f (nI_ne0 (by omega) (by omega)), rf_dv_f (fun q => e (q i hs (by omega)))]
        rfl
  exact key (64 - s) s pu_fu (by omega) (by rw [rf_fu]; omega) (Nat.le_refl _) (fun a a1 a2 => by omega)
/-- a walk along pages: m of them, none met before, with zeros behind, and 0 at the end -/
def rf_wk (n : Nat → Nat) (c : Nat) (zf : Nat → Nat) : Nat → Nat → Nat → (Nat → Nat) → Prop
  | 0, _, p, _ => p = 0
  | m + 1, i, p, R => 2 ≤ p ∧ p ≤ c ∧ R p = 0 ∧ rf_zr n p (zf i) ∧ rf_wk n c zf m (i + 1) (n (64 * p)) (rf_ad R p)
def rf_wks (n : Nat → Nat) : Nat → Nat → (Nat → Nat) → (Nat → Nat)
  | 0, _, R => R
  | m + 1, p, R => rf_wks n m (n (64 * p)) (rf_ad R p)
theorem rf_wks_hc : ∀ m p R q, rf_wks n m p R q = R q + rf_hc n m p q
  | 0, _, _, _ => rfl
  | m + 1, p, R, q => by
    rw [rf_wks, rf_wks_hc m, rf_hc]
    unfold rf_ad
    omega
/-- the class walks the free list -/
theorem rf_flist_go {b : Nat → Int32} (hn : rf_bt n) (hb : rf_pg b n) (hc : c ≤ 24) {F : Nat} (hF : F < 256) : ∀ m i fu (p : Nat) (R : Nat → Nat) (arr : Nat → Int32), i + m = F → m < fu → p < 256 → rf_se arr R →
    ∃ arr', q_Check_listHolds_22 (fun v_reached x_1 => q_Check_listHolds_65 (nI c) b v_reached x_1) (nI c) b (nI F) fu arr (nI p) (nI i) = some (nI (rf_dv (rf_wk n c (fun _ => 1) m i p R)), arr') ∧ (rf_wk n c (fun _ => 1) m i p R → rf_se arr' (rf_wks n m p R)) := by
  intro m
  induction m with
  | zero =>
    intro i fu p R arr hi hf hp hs
    obtain ⟨fu, rfl⟩ : ∃ f, fu = f + 1 := ⟨fu - 1, by omega⟩
    refine ⟨arr, ?_, fun _ => hs⟩
    rw [q_Check_listHolds_22, pu_br_t (nI_le (by omega) (by omega)), q_Check_listHolds_65]
    by_cases e : p = 0
    · rw [e, pu_br_t (show nI 0 = (0 : Int32) from rfl), rf_dv_t (show rf_wk n c (fun _ => 1) 0 i 0 R from rfl)]; rfl
    · rw [pu_br_f (nI_ne0 (by omega) (by omega)), rf_dv_f (show ¬ rf_wk n c (fun _ => 1) 0 i p R from e)]; rfl
  | succ m ih =>
    intro i fu p R arr hi hf hp hs
    obtain ⟨fu, rfl⟩ : ∃ f, fu = f + 1 := ⟨fu - 1, by omega⟩
    rw [q_Check_listHolds_22, pu_br_f (nI_ge (by omega) (by omega))]
    by_cases e : 2 ≤ p ∧ p ≤ c ∧ R p = 0
    · have z := rf_zeros hn hb hc (show 1 ≤ p by omega) e.2.1 (s := 1) (by omega)
      have g := rf_get hn hb (c := c) (p := p) (a := 0) hc (by omega) (by omega)
      rw [rf_gb_at (by omega) e.2.1 (by omega), Nat.add_zero] at g
      rw [(rf_reach hs hc (by omega)).1 e, pu_b2_s, pu_br_f (by decide), show (1 : Int32) = nI 1 from rfl, z, pu_b1_s]
      by_cases ez : rf_zr n p 1
      · rw [rf_dv_t ez, pu_br_f (by decide), show (0 : Int32) = nI 0 from rfl, g, pu_b1_s, nI_add, pu_nm]
        obtain ⟨arr', q1, q2⟩ := ih (i + 1) fu (n (64 * p)) (rf_ad R p) (upd arr p 1) (by omega) (by omega) (hn _) (rf_se_ad hs e.2.2 e.1 (by omega))
        have iff : rf_wk n c (fun _ => 1) (m + 1) i p R ↔ rf_wk n c (fun _ => 1) m (i + 1) (n (64 * p)) (rf_ad R p) := ⟨fun h => h.2.2.2.2, fun h => ⟨e.1, e.2.1, e.2.2, ez, h⟩⟩
        exact ⟨arr', by rw [rf_dv_congr iff]; exact q1, fun h => q2 (iff.mp h)⟩
      · rw [rf_dv_f ez, pu_br_t (show nI 0 = (0 : Int32) from rfl), rf_dv_f (fun h : rf_wk n c (fun _ => 1) (m + 1) i p R => ez h.2.2.2.1)]
        exact ⟨upd arr p (nI 1), rfl, fun h => absurd h.2.2.2.1 ez⟩
    · rw [(rf_reach hs hc (by omega)).2 e, pu_b2_s, pu_br_t rfl, rf_dv_f (fun h : rf_wk n c (fun _ => 1) (m + 1) i p R => e ⟨h.1, h.2.1, h.2.2.1⟩)]
      exact ⟨arr, rfl, fun h => absurd ⟨h.1, h.2.1, h.2.2.1⟩ e⟩
theorem rf_listHolds {b : Nat → Int32} (hn : rf_bt n) (hb : rf_pg b n) (h1 : 1 ≤ c) (hc : c ≤ 24) (hs : rf_se arr R) : ∃ arr', f_Check_listHolds (nI c) b arr = some (nI (rf_dv (rf_wk n c (fun _ => 1) (n 67) 0 (n 66) R)), arr') ∧ (rf_wk n c (fun _ => 1) (n 67) 0 (n 66) R → rf_se arr' (rf_wks n (n 67) (n 66) R)) := by
  have g2 := rf_get hn hb (c := c) (p := 1) (a := 2) hc (by omega) (by omega)
  have g3 := rf_get hn hb (c := c) (p := 1) (a := 3) hc (by omega) (by omega)
  rw [rf_gb_at (by omega) h1 (by omega)] at g2 g3
  have b7 := hn 67
  have b6 := hn 66
  obtain ⟨arr', q1, q2⟩ := rf_flist_go hn hb hc (F := n 67) b7 (n 67) 0 pu_fu (n 66) R arr (by omega) (by rw [rf_fu]; omega) b6 hs
  refine ⟨arr', ?_, q2⟩
  rw [f_Check_listHolds, show (1 : Int32) = nI 1 from rfl, show (2 : Int32) = nI 2 from rfl, g2, pu_b1_s, show (3 : Int32) = nI 3 from rfl, g3, pu_b1_s, ← q1]
  rfl
/-- where the zeros begin in a chain's page -/
def rf_zf (L i : Nat) : Nat := 1 + (if L - 16 - 63 * i < 63 then L - 16 - 63 * i else 63)
theorem rf_chain_go2 {b : Nat → Int32} (hn : rf_bt n) (hb : rf_pg b n) (hc : c ≤ 24) {L : Nat} (hL : L ≤ 2000) : ∀ m i fu (p : Nat) (R : Nat → Nat) (arr : Nat → Int32) (x4 : Int32), i + m = rf_cp L → m < fu → p < 256 → rf_se arr R → (1 ≤ m → x4 = nI (L - 16 - 63 * i)) →
    ∃ arr', q_Check_chainHolds_13 (fun v_reached x_3 => q_Check_chainHolds_71 (nI c) b v_reached x_3) (nI c) b (nI L) fu arr (nI p) x4 (nI i) = some (nI (rf_dv (rf_wk n c (rf_zf L) m i p R)), arr') ∧ (rf_wk n c (rf_zf L) m i p R → rf_se arr' (rf_wks n m p R)) := by
  have cp : rf_cp L ≤ 100 := by unfold rf_cp; split <;> omega
  intro m
  induction m with
  | zero =>
    intro i fu p R arr x4 hi hf hp hs _
    obtain ⟨fu, rfl⟩ : ∃ f, fu = f + 1 := ⟨fu - 1, by omega⟩
    refine ⟨arr, ?_, fun _ => hs⟩
    rw [q_Check_chainHolds_13, rf_chainPages (by omega), pu_b1_s, pu_br_t (nI_le (by omega) (by omega)), q_Check_chainHolds_71]
    by_cases e : p = 0
    · rw [e, pu_br_t (show nI 0 = (0 : Int32) from rfl), rf_dv_t (show rf_wk n c (rf_zf L) 0 i 0 R from rfl)]; rfl
    · rw [pu_br_f (nI_ne0 (by omega) (by omega)), rf_dv_f (show ¬ rf_wk n c (rf_zf L) 0 i p R from e)]; rfl
  | succ m ih =>
    intro i fu p R arr x4 hi hf hp hs hx
    have hx := hx (by omega)
    subst hx
    obtain ⟨fu, rfl⟩ : ∃ f, fu = f + 1 := ⟨fu - 1, by omega⟩
    rw [q_Check_chainHolds_13, rf_chainPages (by omega), pu_b1_s, pu_br_f (nI_ge (by omega) (by omega))]
    by_cases e : 2 ≤ p ∧ p ≤ c ∧ R p = 0
    · have zl : rf_zf L i ≤ 64 := by unfold rf_zf; split <;> omega
      have z := rf_zeros hn hb hc (show 1 ≤ p by omega) e.2.1 zl
      have g := rf_get hn hb (c := c) (p := p) (a := 0) hc (by omega) (by omega)
      rw [rf_gb_at (by omega) e.2.1 (by omega), Nat.add_zero] at g
      have mn : (1 : Int32) + (if nI (L - 16 - 63 * i) < 63 then nI (L - 16 - 63 * i) else 63) = nI (rf_zf L i) := by
        unfold rf_zf
        by_cases e2 : L - 16 - 63 * i < 63
        · rw [if_pos (show nI (L - 16 - 63 * i) < (63 : Int32) from nI_lt (b := 63) e2 (by omega)), if_pos e2]
          exact nI_add 1 _
        · rw [if_neg (show ¬ nI (L - 16 - 63 * i) < (63 : Int32) from nI_nlt (b := 63) (by omega) (by omega)), if_neg e2]; rfl
      rw [(rf_reach hs hc (by omega)).1 e, pu_b2_s, pu_br_f (by decide), pu_nm, mn, z, pu_b1_s]
      by_cases ez : rf_zr n p (rf_zf L i)
      · rw [rf_dv_t ez, pu_br_f (by decide), pu_nm, show (0 : Int32) = nI 0 from rfl, g, pu_b1_s, nI_1, pu_nm]
        obtain ⟨arr', q1, q2⟩ := ih (i + 1) fu (n (64 * p)) (rf_ad R p) (upd arr p 1) (nI (L - 16 - 63 * i) + -63) (by omega) (by omega) (hn _) (rf_se_ad hs e.2.2 e.1 (by omega)) (fun hm => by
          have hcp : rf_cp L = (L - 16 + 62) / 63 := by
            by_cases l24 : L ≤ 24
            · have : rf_cp L = 0 := by unfold rf_cp; rw [if_pos l24]
              omega
            · unfold rf_cp; rw [if_neg l24]
          rw [show (-63 : Int32) = -(63 : Int32) by decide, ← Int32.sub_eq_add_neg, show nI (L - 16 - 63 * i) - (63 : Int32) = nI (L - 16 - 63 * i - 63) from pk_sub (b := 63) (by omega)]
          congr 1)
        have iff : rf_wk n c (rf_zf L) (m + 1) i p R ↔ rf_wk n c (rf_zf L) m (i + 1) (n (64 * p)) (rf_ad R p) := ⟨fun h => h.2.2.2.2, fun h => ⟨e.1, e.2.1, e.2.2, ez, h⟩⟩
        exact ⟨arr', by rw [rf_dv_congr iff]; exact q1, fun h => q2 (iff.mp h)⟩
      · rw [rf_dv_f ez, pu_br_t (show nI 0 = (0 : Int32) from rfl), rf_dv_f (fun h : rf_wk n c (rf_zf L) (m + 1) i p R => ez h.2.2.2.1)]
        exact ⟨upd arr p 1, rfl, fun h => absurd h.2.2.2.1 ez⟩
    · rw [(rf_reach hs hc (by omega)).2 e, pu_b2_s, pu_br_t rfl, rf_dv_f (fun h : rf_wk n c (rf_zf L) (m + 1) i p R => e ⟨h.1, h.2.1, h.2.2.1⟩)]
      exact ⟨arr, rfl, fun h => absurd ⟨h.1, h.2.1, h.2.2.1⟩ e⟩
theorem rf_chainHolds {b : Nat → Int32} (hn : rf_bt n) (hb : rf_pg b n) (hc : c ≤ 24) {L : Nat} (hL : L ≤ 2000) (hp : p < 256) (hs : rf_se arr R) : ∃ arr', f_Check_chainHolds (nI c) b arr (nI p) (nI L) = some (nI (rf_dv (rf_wk n c (rf_zf L) (rf_cp L) 0 p R)), arr') ∧ (rf_wk n c (rf_zf L) (rf_cp L) 0 p R → rf_se arr' (rf_wks n (rf_cp L) p R)) := by
  have cp : rf_cp L ≤ 100 := by unfold rf_cp; split <;> omega
  have sl : rf_sil L ≤ L := by unfold rf_sil; split <;> omega
  obtain ⟨arr', q1, q2⟩ := rf_chain_go2 hn hb hc hL (rf_cp L) 0 pu_fu p R arr (nI (L - rf_sil L)) (by omega) (by rw [rf_fu]; omega) hp hs (fun h => by
    have : ¬ L ≤ 24 := fun e => by unfold rf_cp at h; rw [if_pos e] at h; omega
    unfold rf_sil
    rw [if_neg this]
    rfl)
  refine ⟨arr', ?_, q2⟩
  rw [f_Check_chainHolds, rf_sizeInLeaf (by omega), pu_b1_s, pk_sub sl, pu_nm, ← q1]
  rfl
end RFWK
