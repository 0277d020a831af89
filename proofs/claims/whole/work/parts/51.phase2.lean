section RFG
/-- the disk while the pages are written: those ahead of i are as they are now -/
def rf_mix (n d : Nat → Nat) (i : Nat) : Nat → Nat := fun k => if 64 ≤ k ∧ k < 64 * i then n k else d k
theorem rf_mix_bt {n d : Nat → Nat} (hn : rf_bt n) (hd : rf_bt d) (i : Nat) : rf_bt (rf_mix n d i) := by
  intro k
  unfold rf_mix
  split
  · exact hn k
  · exact hd k
theorem rf_mix_at {n d : Nat → Nat} {i k : Nat} (h : 64 * i ≤ k) : rf_mix n d i k = d k := by unfold rf_mix; rw [if_neg (by omega)]
theorem rf_mix_same {n d : Nat → Nat} {i : Nat} (h1 : 1 ≤ i) (h : rf_sm n d i) : rf_mix n d (i + 1) = rf_mix n d i := by
  funext k
  unfold rf_mix
  by_cases e : 64 * i ≤ k ∧ k < 64 * (i + 1)
  · rw [if_pos ⟨by omega, by omega⟩, if_neg (by omega)]
    have := h (k - 64 * i) (by omega)
    rw [show 64 * i + (k - 64 * i) = k by omega] at this
    exact this
  · by_cases e2 : 64 ≤ k ∧ k < 64 * i
    · rw [if_pos e2, if_pos ⟨e2.1, by omega⟩]
    · rw [if_neg e2, if_neg (by omega)]
/-- the reference's copy of a page to the disk: all of it, or the torn half -/
theorem rf_w165 {kx : (Nat → Int32) → Option (Int32 × Int32 × Int32 × Int32 × Int32 × Int32 × Int32 × (Nat → Int32) × (Nat → Int32) × (Nat → Int32))} {now : Nat → Int32} {od hd hp rs up ar : Int32} {disk rp rb : Nat → Int32} {x1 x4 : Int32} {p lim : Nat} (hp24 : p ≤ 24) (hl : (x4 = 0 ∧ lim = 64) ∨ (¬ x4 = 0 ∧ lim = 32)) :
    ∃ disk', q_MD_write_165 kx now od hd hp rs up ar rp rb x1 (nI p) x4 pu_fu disk 0 = kx disk' ∧ (∀ a, a < lim → disk' (64 * p + a) = now (64 * p + a)) ∧ ∀ k, k < 64 * p ∨ 64 * p + lim ≤ k → disk' k = disk k := by
  have hlim : lim ≤ 64 := by rcases hl with h | h <;> omega
  have step : ∀ f st i, q_MD_write_165 kx now od hd hp rs up ar rp rb x1 (nI p) x4 (f + 1) st (nI i) = q_MD_write_179 (q_MD_write_165 kx now od hd hp rs up ar rp rb x1 (nI p) x4 f) kx now od hd hp rs up ar st rp rb x1 (nI p) x4 (nI i) (nI i) (nI lim) := by
    intro f st i
    rw [q_MD_write_165]
    rcases hl with ⟨h, rfl⟩ | ⟨h, rfl⟩
    · rw [pu_br_t h]; rfl
    · rw [pu_br_f h]; rfl
  refine rf_loop (fun f st i => q_MD_write_165 kx now od hd hp rs up ar rp rb x1 (nI p) x4 f st (nI i)) (fun i st => (∀ a, a < i → st (64 * p + a) = now (64 * p + a)) ∧ ∀ k, k < 64 * p ∨ 64 * p + i ≤ k → st k = disk k) (fun q => ∃ disk', q = kx disk' ∧ (∀ a, a < lim → disk' (64 * p + a) = now (64 * p + a)) ∧ ∀ k, k < 64 * p ∨ 64 * p + lim ≤ k → disk' k = disk k) lim ?_ ?_ lim pu_fu disk 0 (by omega) (by rw [rf_fu]; omega) ⟨fun a h => by omega, fun _ _ => rfl⟩
  · intro f st h
    refine ⟨st, ?_, h.1, h.2⟩
    show q_MD_write_165 kx now od hd hp rs up ar rp rb x1 (nI p) x4 (f + 1) st (nI lim) = _
    rw [step, q_MD_write_179, pu_br_t (nI_le (Nat.le_refl _) (by omega))]
  · intro f st i hi h
    refine Or.inl ⟨upd st (64 * p + i) (now (64 * p + i)), ⟨fun a ha => ?_, fun k hk => ?_⟩, ?_⟩
    · by_cases e : a = i
      · subst e; exact pk_us
      · rw [pk_un (by omega)]; exact h.1 a (by omega)
    · rw [pk_un (by omega)]; exact h.2 k (by omega)
    · show q_MD_write_165 kx now od hd hp rs up ar rp rb x1 (nI p) x4 (f + 1) st (nI i) = q_MD_write_165 kx now od hd hp rs up ar rp rb x1 (nI p) x4 f _ (nI (i + 1))
      rw [step, q_MD_write_179, pu_br_f (nI_ge hi (by omega)), rf_mx, pu_ck_t (vp_in_nI (by omega) (by decide)), pu_ck_t (vp_in_nI (by omega) (by decide)), pu_nm, pu_nm, nI_clamp (by omega), nI_1]
theorem rf_wtail {nb diff fb : Nat → Int32} {nc fc : Nat} {ar : Int32} {kx : Int32 → Int32 → (Nat → Int32) → Int32 → Option (Int32 × Int32 × Int32 × (Nat → Int32))} (hdf : ∀ p, nc < p → p ≤ 24 → diff p = 0) : ∀ m f i, i + m = 25 → m < f → nc < i → q_RF_writePages_2 kx (nI nc) nb diff f ar (nI fc) fb (nI i) = some (1, ar, nI fc, fb)
  | 0, f, i, h1, h2, h3 => by
    obtain ⟨f, rfl⟩ : ∃ k, f = k + 1 := ⟨f - 1, by omega⟩
    have : i = 25 := by omega
    subst this
    rw [q_RF_writePages_2, pu_br_t (by decide)]
  | m + 1, f, i, h1, h2, h3 => by
    obtain ⟨f, rfl⟩ : ∃ k, f = k + 1 := ⟨f - 1, by omega⟩
    have h24 : ¬ (24 : Int32) < nI i := nI_nlt (a := 24) (b := i) (by omega) (by decide)
    have ih := rf_wtail (nb := nb) (fb := fb) (fc := fc) (ar := ar) (kx := kx) hdf m f (i + 1) (by omega) (by omega) (by omega)
    rw [q_RF_writePages_2, pu_br_f h24, pu_ck_t (vp_in_nI (by omega) (by decide)), nI_clamp (by omega), pu_br_t (hdf i h3 (by omega)), q_RF_writePages_53, pu_nm, nI_1]
    exact ih
/-- the state while the pages are written -/
def rf_K (n d : Nat → Nat) (c i : Nat) (st : Int32 × Int32 × (Nat → Int32)) (st' : Int32 × Int32 × (Nat → Int32)) : Prop :=
  st.1 = st'.2.1 ∧ rf_ar st.1 ∧ 1 ≤ i ∧ st.2.1 = nI (if i - 1 ≤ c then c else i - 1) ∧ st'.1 = nI (if i - 1 ≤ c then c else i - 1) ∧ rf_pg st.2.2 (rf_mix n d i) ∧ rf_md st'.2.2 (rf_mix n d i)
theorem rf_wpage {nb fb : Nat → Int32} {n d : Nat → Nat} {nc c' i : Nat} (hnb : rf_pg nb n) (hfb : rf_pg fb (rf_mix n d i)) (hi : 1 ≤ i) (hnc : i ≤ nc) (hnc2 : nc ≤ 24) (hc : c' ≤ 24) : ∃ w, f_Disk_writePage (nI nc) nb (nI c') fb (nI i) = some (nI (if i ≤ c' then c' else i), w) ∧ rf_pg w (rf_mix n d (i + 1)) := by
  have e1 : (if (24 : Int32) < nI i then (24 : Int32) else nI i) = nI i := if_neg (nI_nlt (a := 24) (b := i) (by omega) (by decide))
  have e2 : (if nI c' < nI i then nI i else nI c') = nI (if i ≤ c' then c' else i) := by
    by_cases g : i ≤ c'
    · rw [if_neg (nI_nlt g (by omega)), if_pos g]
    · rw [if_pos (nI_lt (by omega) (by omega)), if_neg g]
  obtain ⟨w, w1, w2, w3⟩ := rf_copyPage (b1 := fb) hnb (c1 := if i ≤ c' then c' else i) (c2 := nc) (p := i) (q := i) (sz := 64) (by split <;> omega) hnc2 hi (by split <;> omega) hi hnc (by omega) (by omega)
  have w1 : f_Pages_copyPage (nI (if i ≤ c' then c' else i)) (nI nc) nb fb (nI i) (nI i) 64 = some w := w1
  refine ⟨w, ?_, fun k hk => ?_⟩
  · rw [f_Disk_writePage, e1, pu_nm, e2, pu_nm, w1, pu_b1_s]
  · unfold rf_mix
    by_cases e : 64 * (i - 1) ≤ k ∧ k < 64 * (i - 1) + 64
    · have := w2 (k - 64 * (i - 1)) (by omega)
      rw [show 64 * (i - 1) + (k - 64 * (i - 1)) = k by omega] at this
      rw [this, if_pos ⟨by omega, by omega⟩, show 64 * i + (k - 64 * (i - 1)) = k + 64 by omega]
    · rw [w3 k (by omega), hfb k hk]
      unfold rf_mix
      by_cases e2 : k + 64 < 64 * i
      · rw [if_pos ⟨by omega, e2⟩, if_pos ⟨by omega, by omega⟩]
      · rw [if_neg (by omega), if_neg (by omega)]
/-- a torn page -/
def rf_torn (n e : Nat → Nat) (c i : Nat) : Nat → Nat := fun k => if i ≤ c ∧ 64 * i ≤ k ∧ k < 64 * i + 32 then n k else e k
theorem rf_tear {nb fb : Nat → Int32} {n e : Nat → Nat} {nc c' i : Nat} (hnb : rf_pg nb n) (hfb : rf_pg fb e) (hi : 1 ≤ i) (hnc : i ≤ nc) (hnc2 : nc ≤ 24) (hc : c' ≤ 24) : ∃ w, f_Disk_tearPage (nI c') (nI nc) nb fb (nI i) = some w ∧ rf_pg w (rf_torn n e c' i) := by
  by_cases g : i ≤ c'
  · obtain ⟨w, w1, w2, w3⟩ := rf_copyPage (b1 := fb) hnb (c1 := c') (c2 := nc) (p := i) (q := i) (sz := 32) hc hnc2 hi g hi hnc (by omega) (by omega)
    have w1 : f_Pages_copyPage (nI c') (nI nc) nb fb (nI i) (nI i) 32 = some w := w1
    refine ⟨w, by rw [f_Disk_tearPage, w1, pu_b1_s], fun k hk => ?_⟩
    unfold rf_torn
    by_cases e2 : 64 * (i - 1) ≤ k ∧ k < 64 * (i - 1) + 32
    · have := w2 (k - 64 * (i - 1)) (by omega)
      rw [show 64 * (i - 1) + (k - 64 * (i - 1)) = k by omega] at this
      rw [this, if_pos ⟨g, by omega, by omega⟩, show 64 * i + (k - 64 * (i - 1)) = k + 64 by omega]
    · rw [w3 k (by omega), hfb k hk, if_neg (by omega)]
  · refine ⟨fb, ?_, fun k hk => ?_⟩
    · have w1 : f_Pages_copyPage (nI c') (nI nc) nb fb (nI i) (nI i) 32 = some fb := rf_copyPage0 (sz := 32) hc (by omega) (by omega) (by omega) (by omega)
      rw [f_Disk_tearPage, w1, pu_b1_s]
    · unfold rf_torn
      rw [if_neg (fun q => g q.1)]
      exact hfb k hk
end RFG
