section RFU
theorem rf_mread_bad {N : Nat} {b : Nat → Int32} {at' e : Int32} : f_MD_read N b at' 1 e = some (0, at', 1) := by
  rw [f_MD_read, show pu_fu = 1999 + 1 from rfl, q_MD_read_8, pu_br_f (by decide), pu_br_f (by decide)]
theorem rf_mread {N : Nat} {b : Nat → Int32} {g : Nat → Nat} {s e : Nat} (hg : ∀ k, g k < 256) (hb : ∀ k, k < e → b k = nI (g k)) (he : e ≤ N) (hN : N < 2 ^ 20) (hs : s < 2 ^ 20) :
    (∃ v z, rf_rd g s e = some (v, z) ∧ f_MD_read N b (nI s) 0 (nI e) = some (nI v, nI (s + z), 0)) ∨ (rf_rd g s e = none ∧ ((∃ s' : Int32, f_MD_read N b (nI s) 0 (nI e) = some (0, s', 1)) ∨ ∃ (v : Nat) (s' : Int32), 2097152 ≤ v ∧ v < 2 ^ 28 ∧ f_MD_read N b (nI s) 0 (nI e) = some (nI v, s', 0))) := by
  have hF : f_MD_read N b (nI s) 0 (nI e) = q_MD_read_8 N b (nI e) (1994 + 1 + 1 + 1 + 1 + 1 + 1) (nI (s + 0)) 0 (nI 0) (nI 0) (nI 1) := rfl
  have h0 := hg s
  have h1 := hg (s + 1)
  have h2 := hg (s + 2)
  have h3 := hg (s + 3)
  have z1 : ¬ nI 1 = (0 : Int32) := by decide
  have fin : ∀ f a v i, q_MD_read_8 N b (nI e) (f + 1) a 0 v i (nI 0) = some (v, a, 0) := by
    intro f a v i
    rw [q_MD_read_8, pu_br_t (show nI 0 = (0 : Int32) from rfl)]
  have stp : ∀ kb a v i, q_MD_read_52 kb N b a 0 (nI e) v i = some (0, a, 1) := by
    intro kb a v i
    rw [q_MD_read_52, q_MD_read_57, pu_ck_t pu_bz1, pu_br_f (by decide)]
  have stop : ∀ f v i, e ≤ s + i → i < 5 → q_MD_read_8 N b (nI e) (f + 1) (nI (s + i)) 0 v (nI i) (nI 1) = some (0, nI (s + i), 1) := by
    intro f v i h hi
    rw [q_MD_read_8, pu_br_f z1, pu_br_t rfl, pu_br_t (nI_le h (by omega)), stp]
  have stop4 : ∀ f v, ¬ e ≤ s + 4 → q_MD_read_8 N b (nI e) (f + 1) (nI (s + 4)) 0 v (nI 4) (nI 1) = some (0, nI (s + 4), 1) := by
    intro f v h
    rw [q_MD_read_8, pu_br_f z1, pu_br_t rfl, pu_br_f (nI_ge (by omega) (by omega)), pu_br_t (show nI 4 = (4 : Int32) from rfl), stp]
  have e56 : ∀ f v i, v < 2 ^ 22 → ¬ e ≤ s + i → i < 4 → q_MD_read_56 (q_MD_read_8 N b (nI e) f) N b (nI (s + i)) 0 (nI e) (nI v) (nI i) = q_MD_read_8 N b (nI e) f (nI (s + (i + 1))) 0 (nI (v * 128 + g (s + i) % 128)) (nI (i + 1)) (nI (if g (s + i) < 128 then 0 else 1)) := by
    intro f v i hv h hi
    have hgi := hg (s + i)
    rw [q_MD_read_56, q_MD_read_57, pu_ck_t pu_bz0, pu_br_t rfl, pu_ck_t (vp_in_nI (by omega) (by omega)), nI_clamp (by omega), hb _ (by omega), rf_or7 hv hgi, pu_nm, pu_ck_t (vp_in_nI (by omega) (by omega))]
    by_cases q : g (s + i) < 128
    · rw [pu_br_t (show nI (g (s + i)) ≤ (127 : Int32) from nI_le (a := g (s + i)) (b := 127) (by omega) (by decide)), q_MD_read_100, pu_nm, pu_nm, nI_1, nI_1, if_pos q]
      rfl
    · rw [pu_br_f (show ¬ nI (g (s + i)) ≤ (127 : Int32) from nI_ge (a := 127) (b := g (s + i)) (by omega) (by omega)), q_MD_read_100, pu_nm, pu_nm, nI_1, nI_1, if_neg q]
      rfl
  have go : ∀ f v i, v < 2 ^ 22 → ¬ e ≤ s + i → 1 ≤ i → i < 4 → q_MD_read_8 N b (nI e) (f + 1) (nI (s + i)) 0 (nI v) (nI i) (nI 1) = q_MD_read_8 N b (nI e) f (nI (s + (i + 1))) 0 (nI (v * 128 + g (s + i) % 128)) (nI (i + 1)) (nI (if g (s + i) < 128 then 0 else 1)) := by
    intro f v i hv h hi1 hi
    rw [q_MD_read_8, pu_br_f z1, pu_br_t rfl, pu_br_f (nI_ge (by omega) (by omega)), pu_br_f (show ¬ nI i = (4 : Int32) from fun q => by have := (nI_eq (a := i) (b := 4) (by omega) (by decide)).mp q; omega), pu_br_f (show ¬ nI i = (0 : Int32) from nI_ne0 (by omega) (by omega)), e56 _ _ _ hv h hi]
  have go0 : ∀ f, ¬ e ≤ s + 0 → ¬ g s = 128 → q_MD_read_8 N b (nI e) (f + 1) (nI (s + 0)) 0 (nI 0) (nI 0) (nI 1) = q_MD_read_8 N b (nI e) f (nI (s + (0 + 1))) 0 (nI (0 * 128 + g (s + 0) % 128)) (nI (0 + 1)) (nI (if g (s + 0) < 128 then 0 else 1)) := by
    intro f h hq
    rw [q_MD_read_8, pu_br_f z1, pu_br_t rfl, pu_br_f (nI_ge (by omega) (by omega)), pu_br_f (show ¬ nI 0 = (4 : Int32) by decide), pu_br_t (show nI 0 = (0 : Int32) from rfl), pu_ck_t (vp_in_nI (by omega) (by omega)), nI_clamp (by omega), hb _ (by omega), pu_br_f (show ¬ nI (g (s + 0)) = (128 : Int32) from fun q => hq ((nI_eq (by omega) (by decide)).mp (show nI (g s) = nI 128 from q))), e56 _ _ _ (by omega) h (by omega)]
  have m0 : 0 * 128 + g (s + 0) % 128 = g s % 128 := by rw [Nat.zero_mul, Nat.zero_add, Nat.add_zero]
  rw [hF]
  unfold rf_rd
  by_cases g0 : e ≤ s
  · rw [if_pos g0, stop _ _ 0 (by omega) (by omega)]
    exact Or.inr ⟨rfl, Or.inl ⟨_, rfl⟩⟩
  rw [if_neg g0]
  by_cases g1 : g s = 128
  · rw [if_pos g1]
    refine Or.inr ⟨rfl, Or.inl ⟨nI (s + 0), ?_⟩⟩
    rw [q_MD_read_8, pu_br_f z1, pu_br_t rfl, pu_br_f (nI_ge (by omega) (by omega)), pu_br_f (show ¬ nI 0 = (4 : Int32) by decide), pu_br_t (show nI 0 = (0 : Int32) from rfl), pu_ck_t (vp_in_nI (by omega) (by omega)), nI_clamp (by omega), hb _ (by omega), pu_br_t (show nI (g (s + 0)) = (128 : Int32) by rw [Nat.add_zero, g1]; rfl), stp]
  rw [if_neg g1, go0 _ (by omega) g1, m0]
  by_cases g2 : g s < 128
  · rw [if_pos g2, if_pos (show g (s + 0) < 128 from g2), fin, Nat.mod_eq_of_lt g2]
    exact Or.inl ⟨_, _, rfl, rfl⟩
  rw [if_neg g2, if_neg (show ¬ g (s + 0) < 128 from g2)]
  have m1 : g s % 128 = g s - 128 := by omega
  by_cases g3 : e ≤ s + 1
  · rw [if_pos g3, stop _ _ 1 (by omega) (by omega)]
    exact Or.inr ⟨rfl, Or.inl ⟨_, rfl⟩⟩
  rw [if_neg g3, go _ _ 1 (by omega) (by omega) (by omega) (by omega), m1]
  by_cases g4 : g (s + 1) < 128
  · rw [if_pos g4, if_pos g4, fin, Nat.mod_eq_of_lt g4]
    exact Or.inl ⟨_, _, rfl, rfl⟩
  rw [if_neg g4, if_neg g4]
  have m2 : g (s + 1) % 128 = g (s + 1) - 128 := by omega
  by_cases g5 : e ≤ s + 2
  · rw [if_pos g5, stop _ _ 2 (by omega) (by omega)]
    exact Or.inr ⟨rfl, Or.inl ⟨_, rfl⟩⟩
  rw [if_neg g5, go _ _ 2 (by omega) (by omega) (by omega) (by omega), m2]
  by_cases g6 : g (s + 2) < 128
  · rw [if_pos g6, if_pos g6, fin, Nat.mod_eq_of_lt g6]
    exact Or.inl ⟨_, _, rfl, rfl⟩
  rw [if_neg g6, if_neg g6]
  refine Or.inr ⟨rfl, ?_⟩
  have m3 : g (s + 2) % 128 = g (s + 2) - 128 := by omega
  by_cases g7 : e ≤ s + 3
  · rw [stop _ _ 3 (by omega) (by omega)]
    exact Or.inl ⟨_, rfl⟩
  rw [go _ _ 3 (by omega) (by omega) (by omega) (by omega), m3]
  by_cases g8 : g (s + 3) < 128
  · rw [if_pos g8, fin, Nat.mod_eq_of_lt g8]
    exact Or.inr ⟨_, _, by omega, by omega, rfl⟩
  rw [if_neg g8]
  by_cases g9 : e ≤ s + 4
  · rw [stop _ _ 4 (by omega) (by omega)]
    exact Or.inl ⟨_, rfl⟩
  · rw [stop4 _ _ g9]
    exact Or.inl ⟨_, rfl⟩
end RFU
