section RFW
theorem rf_sx_mod (v : Nat) : rf_sx v = rf_sx (v % 256) := by
  apply Int32.toInt_inj.mp
  unfold rf_sx
  rw [Int8.toInt_toInt32, Int8.toInt_toInt32, Int32.toInt_toInt8, Int32.toInt_toInt8]
  have e : ∀ w : Nat, (nI w).toInt = (w : Int).bmod (2 ^ 32) := by
    intro w
    show (BitVec.ofNat 32 w).toInt = _
    rw [BitVec.toInt_eq_toNat_bmod, BitVec.toNat_ofNat]
    simp only [Int.bmod]
    omega
  rw [e, e]
  simp only [Int.bmod]
  split <;> split <;> split <;> split <;> omega
/-- copyPage: the bytes -/
theorem rf_copyPage {b1 b2 : Nat → Int32} {d2 : Nat → Nat} (h : rf_pg b2 d2) {c1 c2 p q sz : Nat} (hc1 : c1 ≤ 24) (hc2 : c2 ≤ 24) (hp : 1 ≤ p) (hp2 : p ≤ c1) (hq : 1 ≤ q) (hq2 : q ≤ c2) (hs : 1 ≤ sz) (hs2 : sz ≤ 64) :
    ∃ w, f_Pages_copyPage (nI c1) (nI c2) b2 b1 (nI p) (nI q) (nI sz) = some w ∧ (∀ a, a < sz → w (64 * (p - 1) + a) = rf_sx (d2 (64 * q + a))) ∧ ∀ k, k < 64 * (p - 1) ∨ 64 * (p - 1) + sz ≤ k → w k = b1 k := by
  have e1 : nI sz - 1 = nI (sz - 1) := pk_sub (a := sz) (b := 1) hs
  have e2 : (nI q - 1) * 64 = nI ((q - 1) * 64) := by rw [show nI q - (1 : Int32) = nI (q - 1) from pk_sub (a := q) (b := 1) hq]; exact pk_mul (q - 1) 64
  have e3 : (nI p - 1) * 64 = nI ((p - 1) * 64) := by rw [show nI p - (1 : Int32) = nI (p - 1) from pk_sub (a := p) (b := 1) hp]; exact pk_mul (p - 1) 64
  have hsrc : ∀ a, a < sz → b2 ((q - 1) * 64 + a) = rf_sx (d2 (64 * q + a)) := fun a ha => by
    rw [h _ (by omega), show (q - 1) * 64 + a + 64 = 64 * q + a by omega]
  have hcp : pu_cp .byte b2 (nI ((q - 1) * 64)) (nI ((p - 1) * 64)) (nI sz) 1536 1536 := by
    refine ⟨nI_pos (by omega), nI_pos (by omega), nI_pos (by omega), ?_, ?_, fun i hi => ?_⟩
    · rw [nI_clamp (by omega), nI_clamp (by omega)]; omega
    · rw [nI_clamp (by omega), nI_clamp (by omega)]; omega
    · rw [nI_clamp (by omega)] at hi
      rw [nI_clamp (by omega), hsrc i hi]
      exact rf_sx_fits _
  refine ⟨va_cpy b2 b1 ((q - 1) * 64) ((p - 1) * 64) sz, ?_, fun a ha => ?_, fun k hk => ?_⟩
  · rw [f_Pages_copyPage, e1, rf_has_in hc1 hp hp2 (by omega), pu_b1_s, pu_br_f (by decide), rf_has_in hc2 hq hq2 (by omega), pu_b1_s, pu_br_f (by decide), e2, e3, pu_ck_t hcp, pu_nm, nI_clamp (by omega), nI_clamp (by omega), nI_clamp (by omega)]
  · rw [pk_cpy_in (by omega) (by omega), show (q - 1) * 64 + (64 * (p - 1) + a - (p - 1) * 64) = (q - 1) * 64 + a by omega]
    exact hsrc a ha
  · exact pk_cpy_out (by omega)
theorem rf_copyPage0 {b1 b2 : Nat → Int32} {c1 c2 p q sz : Nat} (hc1 : c1 ≤ 24) (hp : c1 < p) (hp2 : p ≤ 100) (hs : 1 ≤ sz) (hs2 : sz ≤ 64) : f_Pages_copyPage (nI c1) (nI c2) b2 b1 (nI p) (nI q) (nI sz) = some b1 := by
  have e1 : nI sz - 1 = nI (sz - 1) := pk_sub (a := sz) (b := 1) hs
  rw [f_Pages_copyPage, e1, rf_has_out hc1 (by omega) (by omega) (by omega), pu_b1_s, pu_br_t rfl]
/-- the count of changes, one more -/
def rf_ch (n : Nat → Nat) : Nat := (n 68 * 256 + n 69 + 1) % 65536
def rf_cc (n : Nat → Nat) : Nat → Nat := fun k => if k = 68 then rf_ch n / 256 else if k = 69 then rf_ch n % 256 else n k
theorem rf_cc_bt {n : Nat → Nat} (h : rf_bt n) : rf_bt (rf_cc n) := by
  intro k
  have h2 : rf_ch n < 65536 := Nat.mod_lt _ (by decide)
  unfold rf_cc
  split
  · omega
  · split
    · omega
    · exact h k
theorem rf_or8 {a b : Nat} (ha : a < 256) (hb : b < 256) : (nI a <<< ((8 : Int32) &&& 31)) ||| nI b = nI (a * 256 + b) := by
  rw [pk_shlN _ 8 (by decide) (by omega)]
  have e : ∀ x y : Nat, nI x ||| nI y = nI (x ||| y) := by
    intro x y
    apply Int32.toBitVec_inj.mp
    show BitVec.ofNat 32 x ||| BitVec.ofNat 32 y = BitVec.ofNat 32 (x ||| y)
    exact BitVec.ofNat_or.symm
  rw [e]
  congr 1
  have := Nat.shiftLeft_add_eq_or_of_lt (i := 8) (b := b) hb a
  rw [Nat.shiftLeft_eq] at this
  exact this.symm
theorem rf_countChange {nb : Nat → Int32} {n : Nat → Nat} {nc : Nat} (hn : rf_bt n) (hnb : rf_pg nb n) (h1 : 1 ≤ nc) (h2 : nc ≤ 24) : ∃ w, f_Pages_countChange (nI nc) nb = some w ∧ rf_pg w (rf_cc n) := by
  have g1 : f_Pages_get (nI nc) nb 1 4 = some (nI (n 68)) := by
    have := rf_get hn hnb (c := nc) (p := 1) (a := 4) h2 (by omega) (by omega)
    rw [rf_gb, if_pos ⟨by omega, h1, by omega⟩] at this
    exact this
  have g2 : f_Pages_get (nI nc) nb 1 5 = some (nI (n 69)) := by
    have := rf_get hn hnb (c := nc) (p := 1) (a := 5) h2 (by omega) (by omega)
    rw [rf_gb, if_pos ⟨by omega, h1, by omega⟩] at this
    exact this
  have b1 := hn 68
  have b2 := hn 69
  have hch : rf_ch n = (n 68 * 256 + n 69 + 1) % 65536 := rfl
  have e1 : (nI (n 68 * 256 + n 69 + 1) >>> ((8 : Int32) &&& 31)).toInt8.toInt32 = rf_sx (rf_ch n / 256) := by
    rw [pk_shrN (by omega) _ 8 (by decide)]
    show rf_sx _ = _
    rw [rf_sx_mod ((n 68 * 256 + n 69 + 1) / 2 ^ 8)]
    congr 1
    omega
  have e2 : (nI (n 68 * 256 + n 69 + 1)).toInt8.toInt32 = rf_sx (rf_ch n % 256) := by
    show rf_sx _ = _
    rw [rf_sx_mod]
    congr 1
    omega
  obtain ⟨w, w1, w2⟩ := rf_put hnb (c := nc) (p := 1) (a := 4) h2 (by omega) (by omega) e1
  obtain ⟨w', w1', w2'⟩ := rf_put w2 (c := nc) (p := 1) (a := 5) h2 (by omega) (by omega) e2
  refine ⟨w', ?_, fun k hk => ?_⟩
  · rw [f_Pages_countChange, g1, pu_b1_s, g2, pu_b1_s, pu_nm, rf_or8 b1 b2, nI_1]
    have w1 : f_Pages_put (nI nc) nb 1 4 (nI (n 68 * 256 + n 69 + 1) >>> ((8 : Int32) &&& 31)) = some w := w1
    have w1' : f_Pages_put (nI nc) w 1 5 (nI (n 68 * 256 + n 69 + 1)) = some w' := w1'
    rw [w1, pu_b1_s, w1', pu_b1_s]
  · rw [w2' k hk]
    congr 1
    unfold rf_pt rf_cc
    by_cases e5 : k + 64 = 69
    · rw [if_pos ⟨by omega, h1, by omega, by omega⟩, if_neg (by omega), if_pos e5]
    · rw [if_neg (fun q => e5 (by omega))]
      by_cases e4 : k + 64 = 68
      · rw [if_pos ⟨by omega, h1, by omega, by omega⟩, if_pos e4]
      · rw [if_neg (fun q => e4 (by omega)), if_neg e4, if_neg e5]
/-- one write: it fails, or goes on, on both sides -/
def rf_ar (ar : Int32) : Prop := ∃ z : Nat, z ≤ 61 ∧ ar + 1 = nI z
theorem rf_cut {ar : Int32} (h : rf_ar ar) : (f_RF_writeFails ar = some (1, ar) ∧ f_MD_cut ar = some (1, ar)) ∨ ∃ ar', f_RF_writeFails ar = some (0, ar') ∧ f_MD_cut ar = some (0, ar') ∧ rf_ar ar' := by
  obtain ⟨z, hz, e⟩ := h
  have e2 : ar = nI z - 1 := by rw [← e]; simp [Int32.add_sub_cancel]
  by_cases h1 : z = 1
  · subst h1
    have : ar = 0 := by rw [e2]; decide
    subst this
    exact Or.inl ⟨by rw [f_RF_writeFails, pu_br_t rfl], by rw [f_MD_cut, pu_br_t rfl]⟩
  by_cases h0 : z = 0
  · subst h0
    have : ar = -1 := by rw [e2]; decide
    subst this
    refine Or.inr ⟨-1, by rw [f_RF_writeFails, pu_br_f (by decide), pu_br_t (by decide)], ?_, 0, by omega, by decide⟩
    rw [f_MD_cut, pu_br_f (by decide), pu_br_t (by decide), q_MD_cut_26]
    rfl
  · obtain ⟨y, rfl⟩ : ∃ y, z = y + 2 := ⟨z - 2, by omega⟩
    have e3 : ar = nI (y + 1) := by rw [e2]; exact nI_pred (y + 1)
    subst e3
    have n0 : ¬ nI (y + 1) = 0 := nI_ne0 (by omega) (by omega)
    have n1 : ¬ nI (y + 1) ≤ 0 := nI_nle (by omega) (by omega)
    have e4 : nI (y + 1) - 1 = nI y := nI_pred y
    refine Or.inr ⟨nI y, by rw [f_RF_writeFails, pu_br_f n0, pu_br_f n1, pu_nm, e4], by rw [f_MD_cut, pu_br_f n0, pu_br_f n1, q_MD_cut_26, pu_nm, e4], y + 1, by omega, nI_1 y⟩
theorem rf_loop2 {σ τ o u : Type} (q : Nat → σ → Nat → Option o) (q' : Nat → τ → Nat → Option u) (I : Nat → σ → τ → Prop) (R : Option o → Option u → Prop) (hi : Nat)
    (hx : ∀ n n' st st', I hi st st' → R (q (n + 1) st hi) (q' (n' + 1) st' hi)) (hs : ∀ n n' st st' i, i < hi → I i st st' → (∃ a b, I (i + 1) a b ∧ q (n + 1) st i = q n a (i + 1) ∧ q' (n' + 1) st' i = q' n' b (i + 1)) ∨ R (q (n + 1) st i) (q' (n' + 1) st' i)) :
    ∀ m n n' st st' i, i + m = hi → m < n → m < n' → I i st st' → (∃ k k' a b, hi - i - m + 0 ≤ k + hi ∧ I hi a b ∧ q n st i = q (k + 1) a hi ∧ q' n' st' i = q' (k' + 1) b hi ∧ n = k + 1 + m ∧ n' = k' + 1 + m) ∨ R (q n st i) (q' n' st' i)
  | 0, n, n', st, st', i, h1, h2, h2', h3 => by
    obtain ⟨n, rfl⟩ : ∃ k, n = k + 1 := ⟨n - 1, by omega⟩
    obtain ⟨n', rfl⟩ : ∃ k, n' = k + 1 := ⟨n' - 1, by omega⟩
    have : i = hi := by omega
    subst this
    exact Or.inr (hx n n' st st' h3)
  | m + 1, n, n', st, st', i, h1, h2, h2', h3 => by
    obtain ⟨n, rfl⟩ : ∃ k, n = k + 1 := ⟨n - 1, by omega⟩
    obtain ⟨n', rfl⟩ : ∃ k, n' = k + 1 := ⟨n' - 1, by omega⟩
    rcases hs n n' st st' i (by omega) h3 with ⟨a, b, h4, h5, h6⟩ | h4
    · rw [h5, h6]
      rcases rf_loop2 q q' I R hi hx hs m n n' a b (i + 1) (by omega) (by omega) (by omega) h4 with ⟨k, k', a', b', g0, g1, g2, g3, g4, g5⟩ | g
      · exact Or.inl ⟨k, k', a', b', by omega, g1, g2, g3, by omega, by omega⟩
      · exact Or.inr g
    · exact Or.inr h4
end RFW
