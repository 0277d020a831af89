section RFF
/-- the child that a slot leads to -/
def rf_kid (g : Nat → Nat) (i : Nat) : Nat := if i < g 1 then g (rf_st g (i + 1)) else g 2
/-- from this page every way ends in a leaf within D steps -/
def rf_gd (n : Nat → Nat) (c : Nat) : Nat → Nat → Prop
  | 0, _ => False
  | D + 1, p => 2 ≤ p ∧ p ≤ c ∧ rf_lay (rf_gb n c p) ∧ rf_kk (rf_gb n c p) ∧ (rf_gb n c p 0 = 5 → ∀ i, i ≤ rf_gb n c p 1 → rf_gd n c D (rf_kid (rf_gb n c p) i))
/-- the way of a key from a page -/
def rf_sl (n : Nat → Nat) (c : Nat) (key : Int32) (p : Nat) : Nat := rf_slot (rf_gb n c p) key (rf_gb n c p 1)
def rf_way (n : Nat → Nat) (c : Nat) (key : Int32) (p : Nat) : Nat → Nat
  | 0 => p
  | j + 1 => rf_kid (rf_gb n c (rf_way n c key p j)) (rf_sl n c key (rf_way n c key p j))
variable {n : Nat → Nat} {c : Nat}
theorem rf_find_go {pb : Nat → Int32} (hn : rf_bt n) (hpb : rf_pg pb n) (hc : c ≤ 24) (key : Int32) (root : Nat) {kx80 kx108 : Int32 → Int32 → Int32 → Int32 → Int32 → (Nat → Int32) → (Nat → Int32) → (Nat → Int32) → (Nat → Int32) → (Nat → Int32) → Option (Int32 × Int32 × Int32 × Int32 × Int32 × Int32 × (Nat → Int32) × (Nat → Int32) × (Nat → Int32) × (Nat → Int32) × (Nat → Int32))} :
    ∀ (D f j : Nat) (slot cnt last leaf : Int32) (b st sz path slots : Nat → Int32), rf_gd n c D (rf_way n c key root j) → j + D ≤ 24 → D < f → (∀ i, i < j → path i = nI (rf_way n c key root i) ∧ slots i = nI (rf_sl n c key (rf_way n c key root i))) →
      ∃ (k : Nat) (cnt' last' leaf' : Int32) (b' st' sz' path' slots' : Nat → Int32), j ≤ k ∧ k < j + D ∧ (∀ i, j ≤ i → i < k → rf_gb n c (rf_way n c key root i) 0 = 5) ∧ rf_gb n c (rf_way n c key root k) 0 = 13 ∧ rf_gd n c 1 (rf_way n c key root k) ∧
        q_Tree_find_13 kx80 kx108 (nI c) pb key f (nI j) slot cnt last leaf b st sz path slots (nI (rf_way n c key root j)) = kx80 (nI k) (nI (rf_sl n c key (rf_way n c key root k))) cnt' last' leaf' b' st' sz' path' slots' ∧ rf_nd (rf_gb n c (rf_way n c key root k)) cnt' leaf' b' st' sz' ∧ last' = nI (rf_gb n c (rf_way n c key root k) 2) ∧ ∀ i, i ≤ k → path' i = nI (rf_way n c key root i) ∧ slots' i = nI (rf_sl n c key (rf_way n c key root i))
  | 0, f, j, slot, cnt, last, leaf, b, st, sz, path, slots, hg, h1, h2, h3 => absurd hg (fun q => q)
  | D + 1, f, j, slot, cnt, last, leaf, b, st, sz, path, slots, hg, h1, h2, h3 => by
    obtain ⟨f, rfl⟩ : ∃ k, f = k + 1 := ⟨f - 1, by omega⟩
    obtain ⟨g1, g2, g3, g4, g5⟩ := hg
    obtain ⟨r, cn, la, le, b', st', sz', k1, k2, k3⟩ := rf_load hn hpb (c := c) (p := rf_way n c key root j) hc (by omega) cnt last leaf b st sz
    obtain ⟨hr, hnd⟩ := rf_nd_of (rf_gb_lt hn c _) k2 g3
    have hla := k2.2.1
    have hle := k2.2.2.1
    have h24 : ¬ (24 : Int32) ≤ nI j := nI_ge (a := j) (b := 24) (by omega) (by decide)
    have i25 : vp_in (nI j) 25 := vp_in_nI (by omega) (by decide)
    have hcl : (nI j).toNatClampNeg = j := nI_clamp (by omega)
    have hup : ∀ i, i ≤ j → upd path j (nI (rf_way n c key root j)) i = nI (rf_way n c key root i) ∧ upd slots j (nI (rf_sl n c key (rf_way n c key root j))) i = nI (rf_sl n c key (rf_way n c key root i)) := by
      intro i hi
      by_cases e : i = j
      · subst e; exact ⟨pk_us, pk_us⟩
      · rw [pk_un e, pk_un e]; exact h3 i (by omega)
    have hslot := rf_slotOf hnd key
    have step : q_Tree_find_13 kx80 kx108 (nI c) pb key (f + 1) (nI j) slot cnt last leaf b st sz path slots (nI (rf_way n c key root j)) = pu_br (le = 0) (pu_b1 (f_Node_child cn la b' st' (nI (rf_sl n c key (rf_way n c key root j)))) (fun r13 => q_Tree_find_13 kx80 kx108 (nI c) pb key f (nI (j + 1)) (nI (rf_sl n c key (rf_way n c key root j))) cn la le b' st' sz' (upd path j (nI (rf_way n c key root j))) (upd slots j (nI (rf_sl n c key (rf_way n c key root j)))) r13)) (kx80 (nI j) (nI (rf_sl n c key (rf_way n c key root j))) cn la le b' st' sz' (upd path j (nI (rf_way n c key root j))) (upd slots j (nI (rf_sl n c key (rf_way n c key root j))))) := by
      rw [q_Tree_find_13, pu_br_f h24, k1, pu_b7_s, pu_ck_t i25, pu_nm, hcl, hslot, pu_b1_s, pu_ck_t i25, pu_nm]
      simp only [pu_nm, nI_1]
      rfl
    rw [step]
    by_cases k13 : rf_gb n c (rf_way n c key root j) 0 = 13
    · refine ⟨j, cn, la, le, b', st', sz', upd path j (nI (rf_way n c key root j)), upd slots j (nI (rf_sl n c key (rf_way n c key root j))), Nat.le_refl _, by omega, fun i q1 q2 => by omega, k13, ⟨g1, g2, g3, g4, fun q => by rw [k13] at q; omega⟩, ?_, hnd, hla, hup⟩
      rw [pu_br_f (by rw [hle, rf_dv_t k13]; decide)]
    · have k5 : rf_gb n c (rf_way n c key root j) 0 = 5 := g3.1.resolve_left k13
      have hsle := rf_slot_le (rf_gb n c (rf_way n c key root j)) key (rf_gb n c (rf_way n c key root j) 1)
      have h30 := g3.2.2.2.1
      have hch := rf_child (i := rf_sl n c key (rf_way n c key root j)) hnd hla (by show rf_slot _ _ _ < _; omega)
      have hgd := g5 k5 (rf_sl n c key (rf_way n c key root j)) hsle
      obtain ⟨k, cnt', last', leaf', b2, st2, sz2, path', slots', q1, q2, q3, q4, q5, q6, q7, q8, q9⟩ := rf_find_go hn hpb hc key root D f (j + 1) (nI (rf_sl n c key (rf_way n c key root j))) cn la le b' st' sz' (upd path j (nI (rf_way n c key root j))) (upd slots j (nI (rf_sl n c key (rf_way n c key root j)))) hgd (by omega) (by omega) (fun i hi => hup i (by omega))
      refine ⟨k, cnt', last', leaf', b2, st2, sz2, path', slots', by omega, by omega, fun i r1 r2 => ?_, q4, q5, ?_, q7, q8, q9⟩
      · by_cases e : i = j
        · rw [e]; exact k5
        · exact q3 i (by omega) r2
      · rw [pu_br_t (by rw [hle, rf_dv_f k13]; rfl), hch, pu_b1_s]
        exact q6
theorem rf_goto_go {mn : Nat → Int32} (hn : rf_bt n) (hmn : rf_md mn n) (hc : c ≤ 24) (key : Int32) (root : Nat) {kx : Int32 → Int32 → Int32 → (Nat → Int32) → (Nat → Int32) → Option (Int32 × Int32 × Int32 × Int32 × (Nat → Int32) × (Nat → Int32))} :
    ∀ (D f j : Nat) (at' bad : Int32) (way turn : Nat → Int32), rf_gd n c D (rf_way n c key root j) → j + D ≤ 24 → D < f → (∀ i, i ≤ j → way i = nI (rf_way n c key root i)) → (∀ i, i < j → turn i = nI (rf_sl n c key (rf_way n c key root i))) →
      ∃ (k : Nat) (a' b' : Int32) (way' turn' : Nat → Int32), j ≤ k ∧ k < j + D ∧ (∀ i, j ≤ i → i < k → rf_gb n c (rf_way n c key root i) 0 = 5) ∧ rf_gb n c (rf_way n c key root k) 0 = 13 ∧ rf_gd n c 1 (rf_way n c key root k) ∧ q_MD_goTo_15 kx mn key f (nI j) at' bad way turn = kx (nI k) a' b' way' turn' ∧ (∀ i, i ≤ k → way' i = nI (rf_way n c key root i)) ∧ ∀ i, i < k → turn' i = nI (rf_sl n c key (rf_way n c key root i))
  | 0, f, j, at', bad, way, turn, hg, h1, h2, h3, h4 => absurd hg (fun q => q)
  | D + 1, f, j, at', bad, way, turn, hg, h1, h2, h3, h4 => by
    obtain ⟨f, rfl⟩ : ∃ k, f = k + 1 := ⟨f - 1, by omega⟩
    obtain ⟨g1, g2, g3, g4, g5⟩ := hg
    have hg0 : rf_gb n c (rf_way n c key root j) 0 = n (64 * rf_way n c key root j) := rf_gb_at (by omega) g2 (by omega)
    have hcl : (nI j).toNatClampNeg = j := nI_clamp (by omega)
    have i40 : vp_in (nI j) 40 := vp_in_nI (by omega) (by decide)
    have e0 : (64 : Int32) * nI (rf_way n c key root j) = nI (64 * rf_way n c key root j) := pk_mul 64 _
    have hhead : ∀ z, pu_br (nI (rf_gb n c (rf_way n c key root j) 0) = (5 : Int32)) (pu_ck (vp_in (nI j) 40) (pu_b3 (f_MD_seek mn at' bad (nI (rf_way n c key root j)) key) (fun r6 w7 w8 => pu_ck (vp_in (nI j) 40) (pu_nm (upd turn j r6) (fun a9 => pu_ck (vp_in (nI j) 40) (pu_ck (vp_in (nI j) 40) (pu_b1 (f_MD_child mn (nI (rf_way n c key root j)) (a9 j)) (fun r10 => pu_ck (vp_in (nI j + (1 : Int32)) 40) (pu_nm (upd way (nI j + (1 : Int32)).toNatClampNeg r10) (fun a11 => pu_nm (nI j + (1 : Int32)) (fun t12 => q_MD_goTo_15 kx mn key f t12 w7 w8 a11 a9))))))))))) (kx (nI j) at' bad way turn) = z → q_MD_goTo_15 kx mn key (f + 1) (nI j) at' bad way turn = z := by
      intro z hz
      rw [q_MD_goTo_15, pu_ck_t i40, hcl, h3 j (Nat.le_refl _), e0, pu_ck_t (vp_in_nI (by omega) (by decide)), nI_clamp (by omega), hmn _ (by omega), ← hg0]
      exact hz
    by_cases k13 : rf_gb n c (rf_way n c key root j) 0 = 13
    · refine ⟨j, at', bad, way, turn, Nat.le_refl _, by omega, fun i q1 q2 => by omega, k13, ⟨g1, g2, g3, g4, fun q => by rw [k13] at q; omega⟩, hhead _ ?_, h3, h4⟩
      rw [k13, pu_br_f (by decide)]
    · have k5 : rf_gb n c (rf_way n c key root j) 0 = 5 := g3.1.resolve_left k13
      have hsle := rf_slot_le (rf_gb n c (rf_way n c key root j)) key (rf_gb n c (rf_way n c key root j) 1)
      obtain ⟨a', b', hseek⟩ := rf_seek hn hmn (p := rf_way n c key root j) (c := c) (by omega) g2 hc g3 g4 key at' bad
      have hch := rf_mchild hmn (p := rf_way n c key root j) (c := c) (by omega) g2 hc hn g3 (i := rf_sl n c key (rf_way n c key root j)) hsle
      have hgd := g5 k5 (rf_sl n c key (rf_way n c key root j)) hsle
      obtain ⟨k, a2, b2, way', turn', q1, q2, q3, q4, q5, q6, q7, q8⟩ := rf_goto_go hn hmn hc key root (kx := kx) D f (j + 1) a' b' (upd way (j + 1) (nI (rf_way n c key root (j + 1)))) (upd turn j (nI (rf_sl n c key (rf_way n c key root j)))) hgd (by omega) (by omega) (fun i hi => by
        by_cases e : i = j + 1
        · subst e; exact pk_us
        · rw [pk_un e]; exact h3 i (by omega)) (fun i hi => by
        by_cases e : i = j
        · subst e; exact pk_us
        · rw [pk_un e]; exact h4 i (by omega))
      refine ⟨k, a2, b2, way', turn', by omega, by omega, fun i r1 r2 => ?_, q4, q5, hhead _ ?_, q7, q8⟩
      · by_cases e : i = j
        · rw [e]; exact k5
        · exact q3 i (by omega) r2
      · have hseek' : f_MD_seek mn at' bad (nI (rf_way n c key root j)) key = some (nI (rf_sl n c key (rf_way n c key root j)), a', b') := hseek
        have hch' : f_MD_child mn (nI (rf_way n c key root j)) (nI (rf_sl n c key (rf_way n c key root j))) = some (nI (rf_way n c key root (j + 1))) := hch
        rw [k5, pu_br_t (by decide), pu_ck_t i40, hseek', pu_b3_s, pu_ck_t i40, pu_nm, pu_ck_t i40, pu_ck_t i40, pk_us, hch', pu_b1_s, nI_1, pu_ck_t (vp_in_nI (by omega) (by decide)), nI_clamp (by omega), pu_nm, pu_nm]
        exact q6
end RFF
