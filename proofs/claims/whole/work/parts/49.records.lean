section RFJ
theorem rf_lp2 {σ τ o u : Type} (q : Nat → σ → Nat → Option o) (q' : Nat → τ → Nat → Option u) (I : Nat → σ → τ → Prop) (R : Option o → Option u → Prop) (hi : Nat)
    (hs : ∀ n n' st st' i, i < hi → I i st st' → (∃ a b, I (i + 1) a b ∧ q (n + 1) st i = q n a (i + 1) ∧ q' (n' + 1) st' i = q' n' b (i + 1)) ∨ R (q (n + 1) st i) (q' (n' + 1) st' i)) :
    ∀ m n n' st st' i, i + m = hi → m < n → m < n' → I i st st' → (∃ k k' a b, I hi a b ∧ q n st i = q (k + 1) a hi ∧ q' n' st' i = q' (k' + 1) b hi ∧ n = k + 1 + m ∧ n' = k' + 1 + m) ∨ R (q n st i) (q' n' st' i)
  | 0, n, n', st, st', i, h1, h2, h2', h3 => by
    obtain ⟨n, rfl⟩ : ∃ k, n = k + 1 := ⟨n - 1, by omega⟩
    obtain ⟨n', rfl⟩ : ∃ k, n' = k + 1 := ⟨n' - 1, by omega⟩
    have : i = hi := by omega
    subst this
    exact Or.inl ⟨n, n', st, st', h3, rfl, rfl, by omega, by omega⟩
  | m + 1, n, n', st, st', i, h1, h2, h2', h3 => by
    obtain ⟨n, rfl⟩ : ∃ k, n = k + 1 := ⟨n - 1, by omega⟩
    obtain ⟨n', rfl⟩ : ∃ k, n' = k + 1 := ⟨n' - 1, by omega⟩
    rcases hs n n' st st' i (by omega) h3 with ⟨a, b, h4, h5, h6⟩ | h4
    · rw [h5, h6]
      rcases rf_lp2 q q' I R hi hs m n n' a b (i + 1) (by omega) (by omega) (by omega) h4 with ⟨k, k', a', b', g1, g2, g3, g4, g5⟩ | g
      · exact Or.inl ⟨k, k', a', b', g1, g2, g3, by omega, by omega⟩
      · exact Or.inr g
    · exact Or.inr h4
theorem rf_startJ {c : Nat} {hr rc : Int32} {rec : Nat → Int32} : ∃ w, f_Disk_startJournal (nI c) hr rc rec = some (0, nI c, w) ∧ ∀ p, p ≤ 24 → w p = 0 := by
  unfold f_Disk_startJournal
  refine rf_loop (fun f st i => q_Disk_startJournal_21 (nI c) 0 (nI c) f st (nI i)) (fun i st => ∀ p, p < i → st p = 0) (fun r => ∃ w, r = some (0, nI c, w) ∧ ∀ p, p ≤ 24 → w p = 0) 25 ?_ ?_ 25 pu_fu rec 0 rfl (by decide) (fun p h => by omega)
  · intro f st h
    refine ⟨st, ?_, fun p hp => h p (by omega)⟩
    show q_Disk_startJournal_21 (nI c) 0 (nI c) (f + 1) st (nI 25) = _
    rw [q_Disk_startJournal_21, pu_br_t (by decide)]
  · intro f st i hi h
    have h24 : ¬ (24 : Int32) < nI i := nI_nlt (a := 24) (b := i) (by omega) (by decide)
    refine Or.inl ⟨upd st i 0, fun p hp => ?_, ?_⟩
    · by_cases e : p = i
      · subst e; exact pk_us
      · rw [pk_un e]; exact h p (by omega)
    · show q_Disk_startJournal_21 (nI c) 0 (nI c) (f + 1) st (nI i) = q_Disk_startJournal_21 (nI c) 0 (nI c) f (upd st i 0) (nI (i + 1))
      rw [q_Disk_startJournal_21, pu_br_f h24, pu_ck_t (vp_in_nI hi (by decide)), pu_nm, pu_nm, nI_clamp (by omega), nI_1, rf_nz0]
/-- the reference's copy of a page into a record -/
theorem rf_rec47 {kx : (Nat → Int32) → Option (Int32 × Int32 × Int32 × Int32 × Int32 × Int32 × Int32 × (Nat → Int32) × (Nat → Int32) × (Nat → Int32))} {now : Nat → Int32} {od hd hp rs up ar : Int32} {disk rp rb : Nat → Int32} {x1 : Int32} {r p : Nat} (hr : r < 25) (hp24 : p ≤ 24) :
    ∃ rb', q_MD_write_47 kx now od hd hp rs up ar disk rp x1 (nI r) (nI p) pu_fu rb 0 = kx rb' ∧ (∀ a, a < 64 → rb' (64 * r + a) = disk (64 * p + a)) ∧ ∀ k, k < 64 * r ∨ 64 * r + 64 ≤ k → rb' k = rb k := by
  refine rf_loop (fun f st i => q_MD_write_47 kx now od hd hp rs up ar disk rp x1 (nI r) (nI p) f st (nI i)) (fun i st => (∀ a, a < i → st (64 * r + a) = disk (64 * p + a)) ∧ ∀ k, k < 64 * r ∨ 64 * r + i ≤ k → st k = rb k) (fun q => ∃ rb', q = kx rb' ∧ (∀ a, a < 64 → rb' (64 * r + a) = disk (64 * p + a)) ∧ ∀ k, k < 64 * r ∨ 64 * r + 64 ≤ k → rb' k = rb k) 64 ?_ ?_ 64 pu_fu rb 0 rfl (by decide) ⟨fun a h => by omega, fun _ _ => rfl⟩
  · intro f st h
    refine ⟨st, ?_, h.1, h.2⟩
    show q_MD_write_47 kx now od hd hp rs up ar disk rp x1 (nI r) (nI p) (f + 1) st (nI 64) = _
    rw [q_MD_write_47, pu_br_t (by decide)]
  · intro f st i hi h
    have h64 : ¬ (64 : Int32) ≤ nI i := nI_ge (a := i) (b := 64) hi (by decide)
    refine Or.inl ⟨upd st (64 * r + i) (disk (64 * p + i)), ⟨fun a ha => ?_, fun k hk => ?_⟩, ?_⟩
    · by_cases e : a = i
      · subst e; exact pk_us
      · rw [pk_un (by omega)]; exact h.1 a (by omega)
    · rw [pk_un (by omega)]; exact h.2 k (by omega)
    · show q_MD_write_47 kx now od hd hp rs up ar disk rp x1 (nI r) (nI p) (f + 1) st (nI i) = q_MD_write_47 kx now od hd hp rs up ar disk rp x1 (nI r) (nI p) f _ (nI (i + 1))
      rw [q_MD_write_47, pu_br_f h64, rf_mx, rf_mx, pu_ck_t (vp_in_nI (by omega) (by decide)), pu_ck_t (vp_in_nI (by omega) (by decide)), pu_nm, pu_nm, nI_clamp (by omega), nI_clamp (by omega), nI_1]
/-- the records so far, pages ahead of i -/
def rf_J (d : Nat → Nat) (i : Nat) (st : Int32 × Int32 × (Nat → Int32) × (Nat → Int32)) (st' : Int32 × (Nat → Int32) × (Nat → Int32) × Int32) : Prop :=
  st.1 = st'.1 ∧ rf_ar st.1 ∧ 1 ≤ i ∧ ∃ (nr : Nat) (pg : Nat → Nat), nr < i ∧ st.2.1 = nI nr ∧ st'.2.2.2 = nI nr ∧ (∀ r, r < nr → 1 ≤ pg r ∧ pg r < i ∧ st'.2.1 r = nI (pg r)) ∧ (∀ r r', r < nr → r' < nr → pg r = pg r' → r = r') ∧
    (∀ r a, r < nr → a < 64 → st'.2.2.1 (64 * r + a) = nI (d (64 * pg r + a)) ∧ st.2.2.1 (64 * (pg r - 1) + a) = rf_sx (d (64 * pg r + a))) ∧ (∀ p, 1 ≤ p → p < i → (st.2.2.2 p = 1 ∧ ∃ r, r < nr ∧ pg r = p) ∨ (st.2.2.2 p = 0 ∧ ∀ r, r < nr → pg r ≠ p)) ∧ ∀ p, i ≤ p → p ≤ 24 → st.2.2.2 p = 0
theorem rf_wrec {fb rb rec : Nat → Int32} {d : Nat → Nat} (hfb : rf_pg fb d) {c p nr : Nat} (hc : c ≤ 24) (hp : 1 ≤ p) (hp2 : p ≤ c) : ∃ w, f_Disk_writeRecord (nI c) fb (nI c) (nI nr) rb rec (nI p) = some (nI (nr + 1), w, upd rec p 1) ∧ (∀ a, a < 64 → w (64 * (p - 1) + a) = rf_sx (d (64 * p + a))) ∧ ∀ k, k < 64 * (p - 1) ∨ 64 * (p - 1) + 64 ≤ k → w k = rb k := by
  obtain ⟨w, w1, w2, w3⟩ := rf_copyPage (b1 := rb) hfb (c1 := c) (c2 := c) (p := p) (q := p) (sz := 64) hc hc hp hp2 hp hp2 (by omega) (by omega)
  refine ⟨w, ?_, w2, w3⟩
  have h1 : f_Pages_has (nI c) (nI p) 0 = some 1 := rf_has_in (a := 0) hc hp hp2 (by omega)
  have w1 : f_Pages_copyPage (nI c) (nI c) fb rb (nI p) (nI p) 64 = some w := w1
  rw [f_Disk_writeRecord, h1, pu_b1_s, pu_br_f (by decide), w1, pu_b1_s, pu_ck_t (vp_in_nI (by omega) (by decide)), pu_nm, pu_nm, nI_clamp (by omega), nI_1, rf_nz1]
theorem rf_J_no {d : Nat → Nat} {i : Nat} {st : Int32 × Int32 × (Nat → Int32) × (Nat → Int32)} {st' : Int32 × (Nat → Int32) × (Nat → Int32) × Int32} (h : rf_J d i st st') (hi : i ≤ 24) : rf_J d (i + 1) st st' := by
  obtain ⟨h1, h2, h3, nr, pg, k1, k2, k3, k4, k5, k6, k7, k8⟩ := h
  refine ⟨h1, h2, by omega, nr, pg, by omega, k2, k3, fun r hr => ?_, k5, k6, fun p p1 p2 => ?_, fun p p1 p2 => k8 p (by omega) p2⟩
  · have := k4 r hr
    exact ⟨this.1, by omega, this.2.2⟩
  · by_cases e : p = i
    · subst e
      exact Or.inr ⟨k8 p (Nat.le_refl _) hi, fun r hr q => by have := (k4 r hr).2.1; omega⟩
    · exact k7 p p1 (by omega)
theorem rf_J_yes {d : Nat → Nat} {i nr : Nat} {pg : Nat → Nat} {ar ar' : Int32} {rb rec rp mrb rb2 mrb2 : Nat → Int32} (h2 : rf_ar ar') (h3 : 1 ≤ i) (k1 : nr < i) (k4 : ∀ r, r < nr → 1 ≤ pg r ∧ pg r < i ∧ rp r = nI (pg r)) (k5 : ∀ r r', r < nr → r' < nr → pg r = pg r' → r = r')
    (k6 : ∀ r a, r < nr → a < 64 → mrb (64 * r + a) = nI (d (64 * pg r + a)) ∧ rb (64 * (pg r - 1) + a) = rf_sx (d (64 * pg r + a))) (k7 : ∀ p, 1 ≤ p → p < i → (rec p = 1 ∧ ∃ r, r < nr ∧ pg r = p) ∨ (rec p = 0 ∧ ∀ r, r < nr → pg r ≠ p)) (k8 : ∀ p, i ≤ p → p ≤ 24 → rec p = 0)
    (w2 : ∀ a, a < 64 → rb2 (64 * (i - 1) + a) = rf_sx (d (64 * i + a))) (w3 : ∀ k, k < 64 * (i - 1) ∨ 64 * (i - 1) + 64 ≤ k → rb2 k = rb k) (v2 : ∀ a, a < 64 → mrb2 (64 * nr + a) = nI (d (64 * i + a))) (v3 : ∀ k, k < 64 * nr ∨ 64 * nr + 64 ≤ k → mrb2 k = mrb k) :
    rf_J d (i + 1) (ar', nI (nr + 1), rb2, upd rec i 1) (ar', upd rp nr (nI i), mrb2, nI (nr + 1)) := by
  refine ⟨rfl, h2, by omega, nr + 1, fun r => if r = nr then i else pg r, by omega, rfl, rfl, fun r hr => ?_, fun r r' hr hr' e => ?_, fun r a hr ha => ?_, fun p p1 p2 => ?_, fun p p1 p2 => ?_⟩
  · by_cases e : r = nr
    · subst e
      simp only [if_true]
      exact ⟨h3, by omega, pk_us⟩
    · simp only [if_neg e]
      have := k4 r (by omega)
      exact ⟨this.1, by omega, by show upd rp nr (nI i) r = _; rw [pk_un e]; exact this.2.2⟩
  · by_cases e1 : r = nr <;> by_cases e2 : r' = nr
    · omega
    · simp only [if_pos e1, if_neg e2] at e
      have := (k4 r' (by omega)).2.1
      omega
    · simp only [if_neg e1, if_pos e2] at e
      have := (k4 r (by omega)).2.1
      omega
    · simp only [if_neg e1, if_neg e2] at e
      exact k5 r r' (by omega) (by omega) e
  · by_cases e : r = nr
    · subst e
      simp only [if_true]
      exact ⟨v2 a ha, w2 a ha⟩
    · simp only [if_neg e]
      have h4 := k4 r (by omega)
      have := k6 r a (by omega) ha
      exact ⟨by show mrb2 _ = _; rw [v3 _ (by omega)]; exact this.1, by show rb2 _ = _; rw [w3 _ (by omega)]; exact this.2⟩
  · by_cases e : p = i
    · subst e
      exact Or.inl ⟨pk_us, nr, by omega, by simp⟩
    · rcases k7 p p1 (by omega) with ⟨g1, r, g2, g3⟩ | ⟨g1, g2⟩
      · refine Or.inl ⟨by show upd rec i 1 p = 1; rw [pk_un e]; exact g1, r, by omega, ?_⟩
        simp only [if_neg (show ¬ r = nr by omega)]
        exact g3
      · refine Or.inr ⟨by show upd rec i 1 p = 0; rw [pk_un e]; exact g1, fun r hr => ?_⟩
        by_cases e2 : r = nr
        · simp only [if_pos e2]; omega
        · simp only [if_neg e2]; exact g2 r (by omega)
  · show upd rec i 1 p = 0
    rw [pk_un (by omega)]
    exact k8 p (by omega) p2
end RFJ
