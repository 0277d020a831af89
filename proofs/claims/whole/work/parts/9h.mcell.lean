section RFMC
theorem rf_mread4 {N : Nat} {b : Nat → Int32} {g : Nat → Nat} {s e : Nat} (hg : ∀ k, g k < 256) (hb : ∀ k, k < e → b k = nI (g k)) (he : e ≤ N) (hN : N < 2 ^ 20) (hs : s < 2 ^ 20) :
    (∃ v z, rf_rd g s e = some (v, z) ∧ f_MD_read N b (nI s) 0 (nI e) = some (nI v, nI (s + z), 0)) ∨ (rf_rd g s e = none ∧ ((∃ s' : Int32, f_MD_read N b (nI s) 0 (nI e) = some (0, s', 1)) ∨ ∃ (v : Nat), 2097152 ≤ v ∧ v < 2 ^ 28 ∧ s + 4 ≤ e ∧ f_MD_read N b (nI s) 0 (nI e) = some (nI v, nI (s + 4), 0))) := by
  have hF : f_MD_read N b (nI s) 0 (nI e) = q_MD_read_8 N b (nI e) (1994 + 1 + 1 + 1 + 1 + 1 + 1) (nI (s + 0)) 0 (nI 0) (nI 0) (nI 1) := rfl
  have h0 := hg s
  have h1 := hg (s + 1)
  have h2 := hg (s + 2)
  have h3 := hg (s + 3)
  have z1 : ¬ nI 1 = (0 : Int32) := by decide
  have fin : ∀ f a v i, q_MD_read_8 N b (nI e) (f + 1) a 0 v i (nI 0) = some (v, a, 0) := by
    intro f a v i
    rw [q_MD_read_8, pu_br_t (show nI 0 = (0 : Int32) from rfl)]
  have stp : ∀ kb a v i, q_MD_read_52 kb N b a 0 (nI e) v i = some (0, a, 1) := by
    intro kb a v i
    rw [q_MD_read_52, q_MD_read_57, pu_ck_t pu_bz1, pu_br_f (by decide)]
  have stop : ∀ f v i, e ≤ s + i → i < 5 → q_MD_read_8 N b (nI e) (f + 1) (nI (s + i)) 0 v (nI i) (nI 1) = some (0, nI (s + i), 1) := by
    intro f v i h hi
    rw [q_MD_read_8, pu_br_f z1, pu_br_t rfl, pu_br_t (nI_le h (by omega)), stp]
  have stop4 : ∀ f v, ¬ e ≤ s + 4 → q_MD_read_8 N b (nI e) (f + 1) (nI (s + 4)) 0 v (nI 4) (nI 1) = some (0, nI (s + 4), 1) := by
    intro f v h
    rw [q_MD_read_8, pu_br_f z1, pu_br_t rfl, pu_br_f (nI_ge (by omega) (by omega)), pu_br_t (show nI 4 = (4 : Int32) from rfl), stp]
  have e56 : ∀ f v i, v < 2 ^ 22 → ¬ e ≤ s + i → i < 4 → q_MD_read_56 (q_MD_read_8 N b (nI e) f) N b (nI (s + i)) 0 (nI e) (nI v) (nI i) = q_MD_read_8 N b (nI e) f (nI (s + (i + 1))) 0 (nI (v * 128 + g (s + i) % 128)) (nI (i + 1)) (nI (if g (s + i) < 128 then 0 else 1)) := by
    intro f v i hv h hi
    have hgi := hg (s + i)
    rw [q_MD_read_56, q_MD_read_57, pu_ck_t pu_bz0, pu_br_t rfl, pu_ck_t (vp_in_nI (by omega) (by omega)), nI_clamp (by omega), hb _ (by omega), rf_or7 hv hgi, pu_nm, pu_ck_t (vp_in_nI (by omega) (by omega))]
    by_cases q : g (s + i) < 128
    · rw [pu_br_t (show nI (g (s + i)) ≤ (127 : Int32) from nI_le (a := g (s + i)) (b := 127) (by omega) (by decide)), q_MD_read_100, pu_nm, pu_nm, nI_1, nI_1, if_pos q]
      rfl
    · rw [pu_br_f (show ¬ nI (g (s + i)) ≤ (127 : Int32) from nI_ge (a := 127) (b := g (s + i)) (by omega) (by omega)), q_MD_read_100, pu_nm, pu_nm, nI_1, nI_1, if_neg q]
      rfl
  have go : ∀ f v i, v < 2 ^ 22 → ¬ e ≤ s + i → 1 ≤ i → i < 4 → q_MD_read_8 N b (nI e) (f + 1) (nI (s + i)) 0 (nI v) (nI i) (nI 1) = q_MD_read_8 N b (nI e) f (nI (s + (i + 1))) 0 (nI (v * 128 + g (s + i) % 128)) (nI (i + 1)) (nI (if g (s + i) < 128 then 0 else 1)) := by
    intro f v i hv h hi1 hi
    rw [q_MD_read_8, pu_br_f z1, pu_br_t rfl, pu_br_f (nI_ge (by omega) (by omega)), pu_br_f (show ¬ nI i = (4 : Int32) from fun q => by have := (nI_eq (a := i) (b := 4) (by omega) (by decide)).mp q; omega), pu_br_f (show ¬ nI i = (0 : Int32) from nI_ne0 (by omega) (by omega)), e56 _ _ _ hv h hi]
  have go0 : ∀ f, ¬ e ≤ s + 0 → ¬ g s = 128 → q_MD_read_8 N b (nI e) (f + 1) (nI (s + 0)) 0 (nI 0) (nI 0) (nI 1) = q_MD_read_8 N b (nI e) f (nI (s + (0 + 1))) 0 (nI (0 * 128 + g (s + 0) % 128)) (nI (0 + 1)) (nI (if g (s + 0) < 128 then 0 else 1)) := by
    intro f h hq
    rw [q_MD_read_8, pu_br_f z1, pu_br_t rfl, pu_br_f (nI_ge (by omega) (by omega)), pu_br_f (show ¬ nI 0 = (4 : Int32) by decide), pu_br_t (show nI 0 = (0 : Int32) from rfl), pu_ck_t (vp_in_nI (by omega) (by omega)), nI_clamp (by omega), hb _ (by omega), pu_br_f (show ¬ nI (g (s + 0)) = (128 : Int32) from fun q => hq ((nI_eq (by omega) (by decide)).mp (show nI (g s) = nI 128 from q))), e56 _ _ _ (by omega) h (by omega)]
  have m0 : 0 * 128 + g (s + 0) % 128 = g s % 128 := by rw [Nat.zero_mul, Nat.zero_add, Nat.add_zero]
  rw [hF]
  unfold rf_rd
  by_cases g0 : e ≤ s
  · rw [if_pos g0, stop _ _ 0 (by omega) (by omega)]
    exact Or.inr ⟨rfl, Or.inl ⟨_, rfl⟩⟩
  rw [if_neg g0]
  by_cases g1 : g s = 128
  · rw [if_pos g1]
    refine Or.inr ⟨rfl, Or.inl ⟨nI (s + 0), ?_⟩⟩
    rw [q_MD_read_8, pu_br_f z1, pu_br_t rfl, pu_br_f (nI_ge (by omega) (by omega)), pu_br_f (show ¬ nI 0 = (4 : Int32) by decide), pu_br_t (show nI 0 = (0 : Int32) from rfl), pu_ck_t (vp_in_nI (by omega) (by omega)), nI_clamp (by omega), hb _ (by omega), pu_br_t (show nI (g (s + 0)) = (128 : Int32) by rw [Nat.add_zero, g1]; rfl), stp]
  rw [if_neg g1, go0 _ (by omega) g1, m0]
  by_cases g2 : g s < 128
  · rw [if_pos g2, if_pos (show g (s + 0) < 128 from g2), fin, Nat.mod_eq_of_lt g2]
    exact Or.inl ⟨_, _, rfl, rfl⟩
  rw [if_neg g2, if_neg (show ¬ g (s + 0) < 128 from g2)]
  have m1 : g s % 128 = g s - 128 := by omega
  by_cases g3 : e ≤ s + 1
  · rw [if_pos g3, stop _ _ 1 (by omega) (by omega)]
    exact Or.inr ⟨rfl, Or.inl ⟨_, rfl⟩⟩
  rw [if_neg g3, go _ _ 1 (by omega) (by omega) (by omega) (by omega), m1]
  by_cases g4 : g (s + 1) < 128
  · rw [if_pos g4, if_pos g4, fin, Nat.mod_eq_of_lt g4]
    exact Or.inl ⟨_, _, rfl, rfl⟩
  rw [if_neg g4, if_neg g4]
  have m2 : g (s + 1) % 128 = g (s + 1) - 128 := by omega
  by_cases g5 : e ≤ s + 2
  · rw [if_pos g5, stop _ _ 2 (by omega) (by omega)]
    exact Or.inr ⟨rfl, Or.inl ⟨_, rfl⟩⟩
  rw [if_neg g5, go _ _ 2 (by omega) (by omega) (by omega) (by omega), m2]
  by_cases g6 : g (s + 2) < 128
  · rw [if_pos g6, if_pos g6, fin, Nat.mod_eq_of_lt g6]
    exact Or.inl ⟨_, _, rfl, rfl⟩
  rw [if_neg g6, if_neg g6]
  refine Or.inr ⟨rfl, ?_⟩
  have m3 : g (s + 2) % 128 = g (s + 2) - 128 := by omega
  by_cases g7 : e ≤ s + 3
  · rw [stop _ _ 3 (by omega) (by omega)]
    exact Or.inl ⟨_, rfl⟩
  rw [go _ _ 3 (by omega) (by omega) (by omega) (by omega), m3]
  by_cases g8 : g (s + 3) < 128
  · rw [if_pos g8, fin, Nat.mod_eq_of_lt g8]
    exact Or.inr ⟨_, by omega, by omega, by omega, rfl⟩
  rw [if_neg g8]
  by_cases g9 : e ≤ s + 4
  · rw [stop _ _ 4 (by omega) (by omega)]
    exact Or.inl ⟨_, rfl⟩
  · rw [stop4 _ _ g9]
    exact Or.inl ⟨_, rfl⟩
variable {n R : Nat → Nat} {c p : Nat} {arr : Nat → Int32}
/-- a number of a page, by the file's bytes -/
theorem rf_gb_rd (h1 : 1 ≤ p) (h2 : p ≤ c) {a e : Nat} (he : e ≤ 64) : rf_rd n (64 * p + a) (64 * p + e) = rf_rd (rf_gb n c p) a e := by
  rw [rf_rd_sh, rf_rd_congr (g := rf_gb n c p) (fun k hk => (rf_gb_at h1 h2 (by omega)).symm)]
/-- the parts of a leaf's cell fill it -/
def rf_cf0 (g : Nat → Nat) (i : Nat) : Prop := ∃ y k z, rf_ln g i = some (rf_cL g i, y) ∧ rf_rd g (rf_st g (i + 1) + y) (rf_st g i) = some (k, z) ∧ rf_st g (i + 1) + y + z + (if rf_cL g i ≤ 24 then rf_cL g i else 17) = rf_st g i
def rf_kv (g : Nat → Nat) (i : Nat) : Nat := match rf_ky g i with
  | none => 0
  | some q => q.1
/-- a leaf's cell as it must be, its chain not met before -/
def rf_lw (n : Nat → Nat) (c : Nat) (g : Nat → Nat) (i : Nat) (R : Nat → Nat) : Prop := rf_cf0 g i ∧ rf_wk n c (rf_zf (rf_cL g i)) (rf_cp (rf_cL g i)) 0 (rf_cf g i) R ∧ rf_wr (rf_rc n g i) (rf_cL g i)
/-- the reference reads a page of a chain into its record -/
theorem rf_mcell_fill {mn : Nat → Int32} (hn : rf_bt n) (hmn : rf_md mn n) (h24 : p ≤ 24) {L i : Nat} (hL : L ≤ 400) (hi : 16 + 63 * i < L) (kx : (Nat → Int32) → Int32 → Option (Int32 × Int32 × Int32 × Int32 × (Nat → Int32) × (Nat → Int32))) (od at' bad x4 : Int32) (used rec : Nat → Int32) :
    (rf_zr n p (rf_zf L i) → ∃ rec', q_MD_wellCell_218 kx od mn (nI L) at' bad used x4 (nI p) pu_fu rec (nI (16 + 63 * i)) 1 = kx rec' (nI (if 16 + 63 * (i + 1) ≤ L then 16 + 63 * (i + 1) else L)) ∧ (∀ k, k < 16 + 63 * i → rec' k = rec k) ∧ ∀ t, t < 63 → 16 + 63 * i + t < L → rec' (16 + 63 * i + t) = nI (n (64 * p + 1 + t))) ∧
    (¬ rf_zr n p (rf_zf L i) → ∃ rec', q_MD_wellCell_218 kx od mn (nI L) at' bad used x4 (nI p) pu_fu rec (nI (16 + 63 * i)) 1 = some (-2, nI L, at', bad, rec', used)) := by
  have e0 : (64 : Int32) * nI p = nI (64 * p) := pk_mul 64 p
  have key : ∀ m t fu rec1, t + m = 63 → m < fu → (∀ k, k < 16 + 63 * i → rec1 k = rec k) → (∀ t', t' < t → 16 + 63 * i + t' < L → rec1 (16 + 63 * i + t') = nI (n (64 * p + 1 + t'))) → (∀ t', t' < t → L ≤ 16 + 63 * i + t' → n (64 * p + 1 + t') = 0) →
      (rf_zr n p (rf_zf L i) → ∃ rec', q_MD_wellCell_218 kx od mn (nI L) at' bad used x4 (nI p) fu rec1 (nI (if 16 + 63 * i + t ≤ L then 16 + 63 * i + t else L)) (nI (1 + t)) = kx rec' (nI (if 16 + 63 * (i + 1) ≤ L then 16 + 63 * (i + 1) else L)) ∧ (∀ k, k < 16 + 63 * i → rec' k = rec k) ∧ ∀ t, t < 63 → 16 + 63 * i + t < L → rec' (16 + 63 * i + t) = nI (n (64 * p + 1 + t))) ∧
      (¬ rf_zr n p (rf_zf L i) → ∃ rec', q_MD_wellCell_218 kx od mn (nI L) at' bad used x4 (nI p) fu rec1 (nI (if 16 + 63 * i + t ≤ L then 16 + 63 * i + t else L)) (nI (1 + t)) = some (-2, nI L, at', bad, rec', used)) := by
    intro m
    induction m with
    | zero =>
      intro t fu rec1 ht hf r1 r2 r3
      obtain ⟨fu, rfl⟩ : ∃ f, fu = f + 1 := ⟨fu - 1, by omega⟩
      have t63 : t = 63 := by omega
      subst t63
      have z : rf_zr n p (rf_zf L i) := by
        intro a a1 a2
        unfold rf_zf at a1
        by_cases e : L - 16 - 63 * i < 63
        · rw [if_pos e] at a1
          have := r3 (a - 1) (by omega) (by omega)
          rw [show 64 * p + 1 + (a - 1) = 64 * p + a by omega] at this
          exact this
        · rw [if_neg e] at a1; omega
      refine ⟨fun _ => ⟨rec1, ?_, r1, r2⟩, fun q => absurd z q⟩
      rw [q_MD_wellCell_218, pu_br_t (show (64 : Int32) ≤ nI (1 + 63) by decide), show 16 + 63 * (i + 1) = 16 + 63 * i + 63 by omega]
    | succ m ih =>
      intro t fu rec1 ht hf r1 r2 r3
      obtain ⟨fu, rfl⟩ : ∃ f, fu = f + 1 := ⟨fu - 1, by omega⟩
      have n64 : ¬ (64 : Int32) ≤ nI (1 + t) := nI_ge (b := 64) (by omega) (by omega)
      by_cases e : 16 + 63 * i + t < L
      · obtain ⟨u1, u2⟩ := ih (t + 1) fu (upd rec1 (16 + 63 * i + t) (nI (n (64 * p + 1 + t)))) (by omega) (by omega) (fun k hk => by rw [pk_un (by omega)]; exact r1 k hk) (fun t' h1 h2 => by
          by_cases e2 : t' = t
          · rw [e2, pk_us]
          · rw [pk_un (by omega)]; exact r2 t' (by omega) h2) (fun t' h1 h2 => r3 t' (by omega) h2)
        have step : q_MD_wellCell_218 kx od mn (nI L) at' bad used x4 (nI p) (fu + 1) rec1 (nI (if 16 + 63 * i + t ≤ L then 16 + 63 * i + t else L)) (nI (1 + t)) = q_MD_wellCell_218 kx od mn (nI L) at' bad used x4 (nI p) fu (upd rec1 (16 + 63 * i + t) (nI (n (64 * p + 1 + t)))) (nI (if 16 + 63 * i + (t + 1) ≤ L then 16 + 63 * i + (t + 1) else L)) (nI (1 + (t + 1))) := by
          rw [if_pos (show 16 + 63 * i + t ≤ L by omega), if_pos (show 16 + 63 * i + (t + 1) ≤ L by omega), q_MD_wellCell_218, pu_br_f n64, pu_br_f (nI_ge e (by omega)), e0, nI_add, pu_ck_t (vp_in_nI (by omega) (by decide)), pu_ck_t (vp_in_nI (by omega) (by decide)), nI_clamp (by omega), nI_clamp (by omega), hmn _ (by omega), pu_nm, q_MD_wellCell_276, pu_br_f (nI_ge e (by omega)), q_MD_wellCell_292, nI_1, pu_nm, nI_1, pu_nm, ← Nat.add_assoc (64 * p)]
          rfl
        rw [step]
        exact ⟨u1, u2⟩
      · have ep : (if 16 + 63 * i + t ≤ L then 16 + 63 * i + t else L) = L := by
          by_cases e2 : 16 + 63 * i + t ≤ L
          · rw [if_pos e2]; omega
          · rw [if_neg e2]
        have ep2 : (if 16 + 63 * i + (t + 1) ≤ L then 16 + 63 * i + (t + 1) else L) = L := by rw [if_neg (by omega)]
        have bb := hn (64 * p + (1 + t))
        by_cases ez : n (64 * p + 1 + t) = 0
        · obtain ⟨u1, u2⟩ := ih (t + 1) fu rec1 (by omega) (by omega) r1 (fun t' h1 h2 => r2 t' (by omega) h2) (fun t' h1 h2 => by
            by_cases e2 : t' = t
            · rw [e2]; exact ez
            · exact r3 t' (by omega) h2)
          have step : q_MD_wellCell_218 kx od mn (nI L) at' bad used x4 (nI p) (fu + 1) rec1 (nI (if 16 + 63 * i + t ≤ L then 16 + 63 * i + t else L)) (nI (1 + t)) = q_MD_wellCell_218 kx od mn (nI L) at' bad used x4 (nI p) fu rec1 (nI (if 16 + 63 * i + (t + 1) ≤ L then 16 + 63 * i + (t + 1) else L)) (nI (1 + (t + 1))) := by
            rw [ep, ep2, q_MD_wellCell_218, pu_br_f n64, pu_br_t (nI_le (Nat.le_refl _) (by omega)), e0, nI_add, pu_ck_t (vp_in_nI (by omega) (by decide)), nI_clamp (by omega), hmn _ (by omega), ← Nat.add_assoc (64 * p), ez, pu_br_t (show nI 0 = (0 : Int32) from rfl), q_MD_wellCell_276, pu_br_t (nI_le (Nat.le_refl _) (by omega)), q_MD_wellCell_292, show nI L + (0 : Int32) = nI L from nI_add L 0, pu_nm, nI_1, pu_nm]
            rfl
          rw [step]
          exact ⟨u1, u2⟩
        · refine ⟨fun q => ?_, fun _ => ⟨rec1, ?_⟩⟩
          · exfalso
            refine ez ?_
            have := q (1 + t) (by unfold rf_zf; split <;> omega) (by omega)
            rw [← Nat.add_assoc] at this
            exact this
          · rw [ep, q_MD_wellCell_218, pu_br_f n64, pu_br_t (nI_le (Nat.le_refl _) (by omega)), e0, nI_add, pu_ck_t (vp_in_nI (by omega) (by decide)), nI_clamp (by omega), hmn _ (by omega), pu_br_f (nI_ne0 (by rw [← Nat.add_assoc]; omega) (by omega))]
  have := key 63 0 pu_fu rec (by omega) (by rw [rf_fu]; omega) (fun _ _ => rfl) (fun t h => by omega) (fun t h => by omega)
  rw [Nat.add_zero, if_pos (by omega)] at this
  exact this
theorem rf_mchain2 {mn : Nat → Int32} (hn : rf_bt n) (hmn : rf_md mn n) (hc : c ≤ 24) {L f : Nat} (h24 : 24 < L) (hL : L ≤ 400) (at' bad x4 : Int32) : ∀ m i fu (p : Nat) (R : Nat → Nat) (arr rec : Nat → Int32), i + m = rf_cp L → m < fu → p < 256 → p = rf_lk n i f → rf_se arr R → (∀ k, 16 ≤ k → k < L → k < 16 + 63 * i → rec k = nI (n (64 * rf_lk n ((k - 16) / 63) f + 1 + (k - 16) % 63))) →
    (rf_wk n c (rf_zf L) m i p R → ∃ rec' arr', q_MD_wellCell_194 (fun v_record v_used x_6 => q_MD_wellCell_316 (nI c) mn (nI L) at' bad v_record v_used x4 x_6) (nI c) mn (nI L) at' bad x4 fu rec arr (nI (if 16 + 63 * i ≤ L then 16 + 63 * i else L)) (nI p) = q_MD_wellCell_316 (nI c) mn (nI L) at' bad rec' arr' x4 (nI 0) ∧ rf_se arr' (rf_wks n m p R) ∧ (∀ k, k < 16 → rec' k = rec k) ∧ ∀ k, 16 ≤ k → k < L → rec' k = nI (n (64 * rf_lk n ((k - 16) / 63) f + 1 + (k - 16) % 63))) ∧
    (¬ rf_wk n c (rf_zf L) m i p R → ∃ a' b' rec' arr', q_MD_wellCell_194 (fun v_record v_used x_6 => q_MD_wellCell_316 (nI c) mn (nI L) at' bad v_record v_used x4 x_6) (nI c) mn (nI L) at' bad x4 fu rec arr (nI (if 16 + 63 * i ≤ L then 16 + 63 * i else L)) (nI p) = some (-2, nI L, a', b', rec', arr')) := by
  have hcp : rf_cp L = (L - 16 + 62) / 63 := by unfold rf_cp; rw [if_neg (by omega)]
  intro m
  induction m with
  | zero =>
    intro i fu p R arr rec hi hf hp hpl hs hr
    obtain ⟨fu, rfl⟩ : ∃ f, fu = f + 1 := ⟨fu - 1, by omega⟩
    have ep : (if 16 + 63 * i ≤ L then 16 + 63 * i else L) = L := by
      by_cases e2 : 16 + 63 * i ≤ L
      · rw [if_pos e2]; omega
      · rw [if_neg e2]
    rw [ep, q_MD_wellCell_194, pu_br_t (nI_le (Nat.le_refl _) (by omega))]
    refine ⟨fun q => ?_, fun q => ?_⟩
    · have q : p = 0 := q
      exact ⟨rec, arr, by rw [q], hs, fun _ _ => rfl, fun k k1 k2 => hr k k1 k2 (by omega)⟩
    · have q : ¬ p = 0 := q
      refine ⟨at', bad, rec, arr, ?_⟩
      rw [q_MD_wellCell_316, pu_br_f (nI_ne0 (by omega) (by omega))]
  | succ m ih =>
    intro i fu p R arr rec hi hf hp hpl hs hr
    obtain ⟨fu, rfl⟩ : ∃ f, fu = f + 1 := ⟨fu - 1, by omega⟩
    have hlt : 16 + 63 * i < L := by omega
    rw [if_pos (show 16 + 63 * i ≤ L by omega), q_MD_wellCell_194, pu_br_f (nI_ge hlt (by omega))]
    by_cases e : 2 ≤ p ∧ p ≤ c ∧ R p = 0
    · rw [(rf_meet hs hc (by omega)).1 e, pu_b2_s, pu_br_f (by decide)]
      obtain ⟨f1, f2⟩ := rf_mcell_fill hn hmn (show p ≤ 24 by omega) hL hlt (fun v_record x_5 => q_MD_wellCell_301 (q_MD_wellCell_194 (fun v_record v_used x_6 => q_MD_wellCell_316 (nI c) mn (nI L) at' bad v_record v_used x4 x_6) (nI c) mn (nI L) at' bad x4 fu) (fun v_record v_used x_6 => q_MD_wellCell_316 (nI c) mn (nI L) at' bad v_record v_used x4 x_6) (nI c) mn (nI L) at' bad v_record (upd arr p 1) x4 x_5 (nI p)) (nI c) at' bad x4 (upd arr p 1) rec
      by_cases ez : rf_zr n p (rf_zf L i)
      · obtain ⟨rec1, g1, g2, g3⟩ := f1 ez
        have lk1 : n (64 * p) = rf_lk n (i + 1) f := by rw [hpl]; exact rf_lk1 n i f
        obtain ⟨i1, i2⟩ := ih (i + 1) fu (n (64 * p)) (rf_ad R p) (upd arr p 1) rec1 (by omega) (by omega) (hn _) lk1 (rf_se_ad hs e.2.2 e.1 (by omega)) (fun k k1 k2 k3 => by
          by_cases e2 : k < 16 + 63 * i
          · rw [g2 k e2]; exact hr k k1 k2 e2
          · have := g3 (k - (16 + 63 * i)) (by omega) (by omega)
            rw [show 16 + 63 * i + (k - (16 + 63 * i)) = k by omega] at this
            rw [this, show (k - 16) / 63 = i by omega, show (k - 16) % 63 = k - (16 + 63 * i) by omega, ← hpl])
        have iff : rf_wk n c (rf_zf L) (m + 1) i p R ↔ rf_wk n c (rf_zf L) m (i + 1) (n (64 * p)) (rf_ad R p) := ⟨fun h => h.2.2.2.2, fun h => ⟨e.1, e.2.1, e.2.2, ez, h⟩⟩
        rw [g1, q_MD_wellCell_301, show (64 : Int32) * nI p = nI (64 * p) from pk_mul 64 p, pu_ck_t (vp_in_nI (by omega) (by decide)), nI_clamp (by omega), hmn _ (by omega), pu_nm]
        refine ⟨fun q => ?_, fun q => i2 (fun z => q (iff.mpr z))⟩
        obtain ⟨rec', arr', j1, j2, j3, j4⟩ := i1 (iff.mp q)
        exact ⟨rec', arr', j1, j2, fun k hk => by rw [j3 k hk]; exact g2 k (by omega), j4⟩
      · obtain ⟨rec1, g1⟩ := f2 ez
        rw [g1]
        exact ⟨fun q => absurd q.2.2.2.1 ez, fun _ => ⟨_, _, _, _, rfl⟩⟩
    · rw [(rf_meet hs hc (by omega)).2 e, pu_b2_s, pu_br_t rfl]
      exact ⟨fun q => absurd ⟨q.1, q.2.1, q.2.2.1⟩ e, fun _ => ⟨_, _, _, _, rfl⟩⟩
end RFMC
