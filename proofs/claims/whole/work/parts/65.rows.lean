section RFRW
variable {n : Nat → Nat} {c : Nat}
theorem rf_ls_mem {f : Nat → List Nat} {x : Nat} : ∀ {k t}, x ∈ rf_ls f k t → ∃ i, t ≤ i ∧ i < t + k ∧ x ∈ f i
  | 0, _, h => by cases h
  | k + 1, t, h => by
    rcases List.mem_append.mp h with h | h
    · exact ⟨t, by omega, by omega, h⟩
    · obtain ⟨i, h1, h2, h3⟩ := rf_ls_mem h
      exact ⟨i, by omega, by omega, h3⟩
theorem rf_lv_mem : ∀ {D r p}, rf_tr n c D r → p ∈ rf_lv n c D r → rf_gd n c 1 p ∧ rf_gb n c p 0 = 13
  | 0, _, _, h, _ => absurd h (fun q => q)
  | D + 1, r, p, h, hp => by
    rw [rf_lv] at hp
    by_cases k : rf_gb n c r 0 = 13
    · rw [if_pos k] at hp
      rw [List.mem_singleton.mp hp]
      exact ⟨⟨h.1, h.2.1, h.2.2.1, rf_tr_kk h, fun q => by omega⟩, k⟩
    · rw [if_neg k] at hp
      obtain ⟨i, i1, i2, i3⟩ := rf_ls_mem hp
      exact rf_lv_mem ((h.2.2.2.2 (h.2.2.1.1.resolve_left k)).2.2 i (by omega)) i3
theorem rf_getp {pb : Nat → Int32} (hn : rf_bt n) (hpb : rf_pg pb n) (hc : c ≤ 24) {p a : Nat} (hp : p < 2 ^ 20) (ha : a < 64) : f_Pages_get (nI c) pb (nI p) (nI a) = some (nI (rf_gb n c p a)) := rf_get hn hpb hc (by omega) (by omega)
/-- the rows of leaves -/
def rf_rs (n : Nat → Nat) (c : Nat) (L : List Nat) : Nat := rf_ws (fun p => rf_gb n c p 1) L
theorem rf_countRows {pb : Nat → Int32} (hn : rf_bt n) (hpb : rf_pg pb n) (hc : c ≤ 24) {L : List Nat} (hL : ∀ p ∈ L, rf_gd n c 1 p) (h23 : L.length ≤ 23) {lv : Nat → Int32} (hol : rf_ol L lv) (cnt last leaf : Int32) (b st sz w : Nat → Int32) :
    q_Tree_countRows_9 (nI c) pb cnt last leaf b st sz w lv (nI L.length) pu_fu 0 0 = some (nI (rf_rs n c L), cnt, last, leaf, b, st, sz, w, lv) := by
  refine rf_loop (fun f x i => q_Tree_countRows_9 (nI c) pb cnt last leaf b st sz w lv (nI L.length) f x (nI i)) (fun i x => x = nI (rf_rs n c (L.take i))) (fun r => r = some (nI (rf_rs n c L), cnt, last, leaf, b, st, sz, w, lv)) L.length ?_ ?_ L.length pu_fu 0 0 (by omega) (by rw [rf_fu]; omega) rfl
  · intro f x h
    show q_Tree_countRows_9 (nI c) pb cnt last leaf b st sz w lv (nI L.length) (f + 1) x (nI L.length) = _
    rw [q_Tree_countRows_9, pu_br_t (nI_le (Nat.le_refl _) (by omega)), h, List.take_length]
  · intro f x i hi h
    have hx : L[i]? = some L[i] := List.getElem?_eq_getElem hi
    have hg := hL L[i] (List.getElem_mem hi)
    refine Or.inl ⟨nI (rf_rs n c (L.take (i + 1))), rfl, ?_⟩
    show q_Tree_countRows_9 (nI c) pb cnt last leaf b st sz w lv (nI L.length) (f + 1) x (nI i) = q_Tree_countRows_9 (nI c) pb cnt last leaf b st sz w lv (nI L.length) f _ (nI (i + 1))
    rw [q_Tree_countRows_9, pu_br_f (nI_ge hi (by omega)), pu_ck_t (vp_in_nI (by omega) (by decide)), nI_clamp (by omega), hol i _ hx, show f_Pages_get (nI c) pb (nI L[i]) 1 = some (nI (rf_gb n c L[i] 1)) from rf_getp (a := 1) hn hpb hc (by have := hg.2.1; omega) (by omega), pu_b1_s, pu_nm, pu_nm, nI_1, h, nI_add, List.take_succ, hx]
    congr 2
    unfold rf_rs
    rw [rf_ws_app]
    rfl
/-- the key of a row -/
def rf_ka (n : Nat → Nat) (c : Nat) : List Nat → Nat → Int32
  | [], _ => -1
  | p :: L, i => if i < rf_gb n c p 1 then rf_rv (rf_ky (rf_gb n c p) i) else rf_ka n c L (i - rf_gb n c p 1)
theorem rf_keyOf {pb : Nat → Int32} (hn : rf_bt n) (hpb : rf_pg pb n) (hc : c ≤ 24) {L : List Nat} (hL : ∀ p ∈ L, rf_gd n c 1 p) (h23 : L.length ≤ 23) {lv : Nat → Int32} (hol : rf_ol L lv) (cnt last leaf : Int32) (b st sz w : Nat → Int32) :
    ∀ (M : List Nat) (k i f : Nat), k + M.length = L.length → (∀ j, M[j]? = L[k + j]?) → M.length < f → i < 2 ^ 31 → ∃ cnt' last' leaf' b' st' sz', q_Tree_keyOfRow_10 (fun x_2 x_4 => q_Tree_keyOfRow_43 (nI c) pb cnt last leaf b st sz w lv x_2 x_4) (nI c) pb cnt last leaf b st sz w lv (nI L.length) f (nI i) (nI k) = some (rf_ka n c M i, cnt', last', leaf', b', st', sz', w, lv)
  | [], k, i, f, hk, hM, hf, hi => by
    obtain ⟨f, rfl⟩ : ∃ k, f = k + 1 := ⟨f - 1, by omega⟩
    refine ⟨cnt, last, leaf, b, st, sz, ?_⟩
    have : k = L.length := hk
    rw [q_Tree_keyOfRow_10, pu_br_t (nI_le (by omega) (by omega))]
    rfl
  | p :: M, k, i, f, hk, hM, hf, hi => by
    rw [List.length_cons] at hk hf
    obtain ⟨f, rfl⟩ : ∃ k, f = k + 1 := ⟨f - 1, by omega⟩
    have hx : L[k]? = some p := (hM 0).symm
    have hmem : p ∈ L := List.mem_of_getElem? hx
    have hg := hL p hmem
    have hp24 := hg.2.1
    have hstep : ∀ z, pu_br (nI (rf_gb n c p 1) ≤ nI i) (pu_nm (nI i - nI (rf_gb n c p 1)) (fun t19 => pu_nm (nI k + (1 : Int32)) (fun t20 => q_Tree_keyOfRow_10 (fun x_2 x_4 => q_Tree_keyOfRow_43 (nI c) pb cnt last leaf b st sz w lv x_2 x_4) (nI c) pb cnt last leaf b st sz w lv (nI L.length) f t19 t20))) (q_Tree_keyOfRow_43 (nI c) pb cnt last leaf b st sz w lv (nI i) (nI k)) = z → q_Tree_keyOfRow_10 (fun x_2 x_4 => q_Tree_keyOfRow_43 (nI c) pb cnt last leaf b st sz w lv x_2 x_4) (nI c) pb cnt last leaf b st sz w lv (nI L.length) (f + 1) (nI i) (nI k) = z := by
      intro z hz
      rw [q_Tree_keyOfRow_10, pu_br_f (nI_ge (by omega) (by omega)), pu_br_f (nI_pos hi), pu_ck_t (vp_in_nI (by omega) (by decide)), nI_clamp (by omega), hol k _ hx, show f_Pages_get (nI c) pb (nI p) 1 = some (nI (rf_gb n c p 1)) from rf_getp (a := 1) hn hpb hc (by omega) (by omega), pu_b1_s]
      exact hz
    have hb := rf_gb_lt hn c p 1
    by_cases e : i < rf_gb n c p 1
    · obtain ⟨r, cn, la, le, b', st', sz', k1, k2, k3⟩ := rf_load hn hpb (c := c) (p := p) hc (by omega) cnt last leaf b st sz
      obtain ⟨hr, hnd⟩ := rf_nd_of (rf_gb_lt hn c p) k2 hg.2.2.1
      refine ⟨cn, la, le, b', st', sz', hstep _ ?_⟩
      rw [pu_br_f (nI_ge e (by omega)), q_Tree_keyOfRow_43, pu_ck_t (vp_in_nI (by omega) (by decide)), nI_clamp (by omega), hol k _ hx, k1, pu_b7_s, rf_cellKey hnd e, pu_b1_s, rf_ka, if_pos e]
    · obtain ⟨cnt', last', leaf', b', st', sz', q⟩ := rf_keyOf hn hpb hc hL h23 hol cnt last leaf b st sz w M (k + 1) (i - rf_gb n c p 1) f (by omega) (fun j => by have := hM (j + 1); rw [List.getElem?_cons_succ] at this; rw [this]; congr 1; omega) (by omega) (by omega)
      refine ⟨cnt', last', leaf', b', st', sz', hstep _ ?_⟩
      rw [pu_br_t (nI_le (by omega) hi), pk_sub (by omega), pu_nm, nI_1, pu_nm, rf_ka, if_neg e]
      exact q
/-- the reference's way, as a stack of pages and turns -/
def rf_s2 : List (Nat × Nat) → (Nat → Int32) → (Nat → Int32) → Prop
  | [], _, _ => True
  | x :: S, a, b => a S.length = nI x.1 ∧ b S.length = nI x.2 ∧ rf_s2 S a b
theorem rf_s2_upd {v w : Int32} : ∀ {S : List (Nat × Nat)} {a b : Nat → Int32} {k : Nat}, rf_s2 S a b → S.length ≤ k → rf_s2 S (upd a k v) (upd b k w)
  | [], _, _, _, _, _ => trivial
  | x :: S, a, b, k, h, hk => by
    have hk' : S.length + 1 ≤ k := hk
    exact ⟨by rw [pk_un (by omega)]; exact h.1, by rw [pk_un (by omega)]; exact h.2.1, rf_s2_upd h.2.2 (by omega)⟩
theorem rf_s2_updb {w : Int32} : ∀ {S : List (Nat × Nat)} {a b : Nat → Int32} {k : Nat}, rf_s2 S a b → S.length ≤ k → rf_s2 S a (upd b k w)
  | [], _, _, _, _, _ => trivial
  | x :: S, a, b, k, h, hk => by
    have hk' : S.length + 1 ≤ k := hk
    exact ⟨h.1, by rw [pk_un (by omega)]; exact h.2.1, rf_s2_updb h.2.2 (by omega)⟩
def rf_lev (n : Nat → Nat) (c : Nat) (x : Nat × Nat) : List Nat := if rf_gb n c x.1 0 = 13 then [x.1] else rf_ls (fun i => rf_lv n c 23 (rf_kid (rf_gb n c x.1) i)) (rf_gb n c x.1 1 + 1 - x.2) x.2
def rf_mu (n : Nat → Nat) (c : Nat) : List (Nat × Nat) → Nat
  | [] => 0
  | x :: S => (if rf_gb n c x.1 0 = 13 then 1 else 1 + 2 * rf_ws (rf_np n c 23) (rf_kd (rf_kid (rf_gb n c x.1)) (rf_gb n c x.1 1 + 1 - x.2) x.2)) + rf_mu n c S
def rf_dp (n : Nat → Nat) (c : Nat) : List (Nat × Nat) → Prop
  | [] => True
  | x :: S => rf_tr n c (23 - S.length) x.1 ∧ x.2 ≤ rf_gb n c x.1 1 + 1 ∧ rf_dp n c S
theorem rf_walk_go {mn : Nat → Int32} (hn : rf_bt n) (hmn : rf_md mn n) (hc : c ≤ 24) {kx105 : Int32 → (Nat → Int32) → (Nat → Int32) → Int32 → Int32 → Option (Int32 × Int32 × Int32 × Int32 × (Nat → Int32) × (Nat → Int32))} {kx191 : Int32 → (Nat → Int32) → (Nat → Int32) → Int32 → Option (Int32 × Int32 × Int32 × Int32 × (Nat → Int32) × (Nat → Int32))} {at' bad x1 : Int32} :
    ∀ (M f r : Nat) (S : List (Nat × Nat)) (way turn : Nat → Int32), rf_mu n c S = M → M < f → rf_dp n c S → rf_s2 S way turn → r + rf_rs n c (S.flatMap (rf_lev n c)) ≤ 100000 → (x1 = -1 ∨ ∃ i, i < 2 ^ 31 ∧ x1 = nI i ∧ r ≤ i) →
      (∃ d' w' t', q_MD_walk_24 kx105 kx191 mn at' bad x1 f (nI S.length + -1) way turn (nI r) = kx191 d' w' t' (nI (r + rf_rs n c (S.flatMap (rf_lev n c)))) ∧ ∀ i, i < 2 ^ 31 → x1 = nI i → rf_ka n c (S.flatMap (rf_lev n c)) (i - r) = -1) ∨
      (∃ i d' w' t' r' p, i < 2 ^ 31 ∧ x1 = nI i ∧ r' ≤ i ∧ i - r' < rf_gb n c p 1 ∧ rf_gd n c 1 p ∧ rf_ka n c (S.flatMap (rf_lev n c)) (i - r) = rf_rv (rf_ky (rf_gb n c p) (i - r')) ∧ q_MD_walk_24 kx105 kx191 mn at' bad x1 f (nI S.length + -1) way turn (nI r) = kx105 d' w' t' (nI r') (nI p)) := by
  intro M
  induction M with
  | zero =>
    intro f r S way turn hM hf hd hs hr hx
    obtain ⟨f, rfl⟩ : ∃ k, f = k + 1 := ⟨f - 1, by omega⟩
    cases S with
    | cons x S =>
      rw [rf_mu] at hM
      by_cases e : rf_gb n c x.1 0 = 13
      · rw [if_pos e] at hM; omega
      · rw [if_neg e] at hM; omega
    | nil =>
      refine Or.inl ⟨nI 0 + -1, way, turn, ?_, fun i _ _ => rfl⟩
      rw [q_MD_walk_24, pu_br_t (by decide)]
      rfl
  | succ M ih =>
    intro f r S way turn hM hf hd hs hr hx
    obtain ⟨f, rfl⟩ : ∃ k, f = k + 1 := ⟨f - 1, by omega⟩
    cases S with
    | nil => cases hM
    | cons x S =>
      obtain ⟨p, t⟩ := x
      obtain ⟨d1, d2, d3⟩ := hd
      obtain ⟨s1, s2, s3⟩ := hs
      dsimp only at d1 d2 s1 s2
      have hlen : S.length < 23 := by
        by_cases e : S.length < 23
        · exact e
        · rw [show 23 - S.length = 0 by omega] at d1; exact absurd d1 (fun q => q)
      obtain ⟨D, hD⟩ : ∃ D, 23 - S.length = D + 1 := ⟨22 - S.length, by omega⟩
      rw [hD] at d1
      have d1' := d1
      obtain ⟨g1, g2, g3, g4, g5⟩ := d1'
      have h30 := g3.2.2.2.1
      have hgb1 : mn (64 * p + 1) = nI (rf_gb n c p 1) := by rw [hmn _ (by omega), rf_gb_at (by omega) g2 (by omega)]
      have hgb0 : mn (64 * p) = nI (rf_gb n c p 0) := by rw [hmn _ (by omega), rf_gb_at (by omega) g2 (by omega)]; rfl
      have e0 : (64 : Int32) * nI p = nI (64 * p) := pk_mul 64 _
      have hcl : (nI S.length).toNatClampNeg = S.length := nI_clamp (by omega)
      have i40 : vp_in (nI S.length) 40 := vp_in_nI (by omega) (by decide)
      have hhead : ∀ z, pu_br (nI (rf_gb n c p 0) = (13 : Int32)) (pu_br (x1 < nI r) (q_MD_walk_114 (q_MD_walk_24 kx105 kx191 mn at' bad x1 f) kx105 kx191 mn (nI S.length) at' bad way (upd turn S.length (nI (t + 1))) x1 (nI r) (nI (rf_gb n c p 1))) (pu_br (nI (r + rf_gb n c p 1) ≤ x1) (q_MD_walk_114 (q_MD_walk_24 kx105 kx191 mn at' bad x1 f) kx105 kx191 mn (nI S.length) at' bad way (upd turn S.length (nI (t + 1))) x1 (nI r) (nI (rf_gb n c p 1))) (kx105 (nI S.length) way (upd turn S.length (nI (t + 1))) (nI r) (nI p)))) (pu_br (nI t ≤ nI (rf_gb n c p 1)) (pu_nm (nI S.length + (1 : Int32)) (fun t11 => pu_b1 (f_MD_child mn (nI p) (nI t)) (fun r12 => pu_ck (vp_in t11 40) (pu_nm (upd way t11.toNatClampNeg r12) (fun a13 => pu_ck (vp_in t11 40) (pu_nm (upd (upd turn S.length (nI (t + 1))) t11.toNatClampNeg (0 : Int32)) (fun a14 => q_MD_walk_188 (q_MD_walk_24 kx105 kx191 mn at' bad x1 f) kx105 kx191 mn t11 at' bad a13 a14 x1 (nI r)))))))) (pu_nm (nI S.length - (1 : Int32)) (fun t15 => q_MD_walk_188 (q_MD_walk_24 kx105 kx191 mn at' bad x1 f) kx105 kx191 mn t15 at' bad way (upd turn S.length (nI (t + 1))) x1 (nI r)))) = z → q_MD_walk_24 kx105 kx191 mn at' bad x1 (f + 1) (nI ((p, t) :: S).length + -1) way turn (nI r) = z := by
        intro z hz
        rw [List.length_cons, rf_m1, q_MD_walk_24, pu_br_f (nI_pos (by omega)), pu_ck_t i40, hcl, s1, pu_nm, pu_ck_t i40, s2, pu_nm, e0, nI_1, pu_ck_t (vp_in_nI (by omega) (by decide)), nI_clamp (by omega), hgb1, pu_nm, pu_ck_t i40, pu_ck_t i40, pu_nm, pu_ck_t (vp_in_nI (by omega) (by decide)), nI_clamp (by omega), hgb0, nI_1, nI_add]
        exact hz
      have hs3 : rf_s2 S way (upd turn S.length (nI (t + 1))) := rf_s2_updb s3 (Nat.le_refl _)
      by_cases k13 : rf_gb n c p 0 = 13
      · have hlev : rf_lev n c (p, t) = [p] := by unfold rf_lev; rw [if_pos k13]
        have hfm : ((p, t) :: S).flatMap (rf_lev n c) = p :: S.flatMap (rf_lev n c) := by rw [List.flatMap_cons, hlev]; rfl
        have hrs : rf_rs n c (((p, t) :: S).flatMap (rf_lev n c)) = rf_gb n c p 1 + rf_rs n c (S.flatMap (rf_lev n c)) := by rw [hfm]; rfl
        rw [rf_mu, if_pos k13] at hM
        rw [hrs] at hr
        have pop : ∀ z, q_MD_walk_24 kx105 kx191 mn at' bad x1 f (nI S.length + -1) way (upd turn S.length (nI (t + 1))) (nI (r + rf_gb n c p 1)) = z → q_MD_walk_114 (q_MD_walk_24 kx105 kx191 mn at' bad x1 f) kx105 kx191 mn (nI S.length) at' bad way (upd turn S.length (nI (t + 1))) x1 (nI r) (nI (rf_gb n c p 1)) = z := by
          intro z hz
          rw [q_MD_walk_114, pu_nm, pu_nm, q_MD_walk_188, nI_add, Int32.sub_eq_add_neg]
          exact hz
        by_cases hpop : x1 = -1 ∨ ∃ i, i < 2 ^ 31 ∧ x1 = nI i ∧ r + rf_gb n c p 1 ≤ i
        · have hrec := ih f (r + rf_gb n c p 1) S way (upd turn S.length (nI (t + 1))) (by omega) (by omega) d3 hs3 (by omega) hpop
          have hka : ∀ i, i < 2 ^ 31 → x1 = nI i → rf_ka n c (((p, t) :: S).flatMap (rf_lev n c)) (i - r) = rf_ka n c (S.flatMap (rf_lev n c)) (i - (r + rf_gb n c p 1)) := by
            intro i hi e
            rw [hfm, rf_ka]
            rcases hpop with h | ⟨i', h1, h2, h3⟩
            · exact absurd (h.symm.trans e) (fun q => by
                have := congrArg Int32.toInt q
                rw [nI_toInt hi, show (-1 : Int32).toInt = -1 by decide] at this
                omega)
            · have : i = i' := (nI_eq hi h1).mp (e.symm.trans h2)
              subst this
              rw [if_neg (by omega), Nat.sub_sub]
          have hbr : ∀ z, q_MD_walk_24 kx105 kx191 mn at' bad x1 f (nI S.length + -1) way (upd turn S.length (nI (t + 1))) (nI (r + rf_gb n c p 1)) = z → q_MD_walk_24 kx105 kx191 mn at' bad x1 (f + 1) (nI ((p, t) :: S).length + -1) way turn (nI r) = z := by
            intro z hz
            refine hhead _ ?_
            rw [k13, pu_br_t (show nI 13 = (13 : Int32) from rfl)]
            rcases hpop with h | ⟨i', h1, h2, h3⟩
            · rw [pu_br_t (by rw [h]; exact Int32.lt_iff_toInt_lt.mpr (by rw [nI_toInt (by omega), show (-1 : Int32).toInt = -1 by decide]; omega))]
              exact pop _ hz
            · rw [pu_br_f (by rw [h2]; exact fun q => by have := (nI_ltI h1 (by omega)).mp q; omega), pu_br_t (by rw [h2]; exact nI_le h3 h1)]
              exact pop _ hz
          rcases hrec with ⟨d', w', t', q1, q2⟩ | ⟨i, d', w', t', r', p', q1, q2, q3, q4, q5, q6, q7⟩
          · refine Or.inl ⟨d', w', t', hbr _ ?_, fun i hi e => by rw [hka i hi e]; exact q2 i hi e⟩
            rw [q1, hrs, Nat.add_assoc]
          · exact Or.inr ⟨i, d', w', t', r', p', q1, q2, q3, q4, q5, by rw [hka i q1 q2]; exact q6, hbr _ q7⟩
        · rcases hx with h | ⟨i, h1, h2, h3⟩
          · exact absurd (Or.inl h) hpop
          · have hlt : i < r + rf_gb n c p 1 := by
              by_cases e : i < r + rf_gb n c p 1
              · exact e
              · exact absurd (Or.inr ⟨i, h1, h2, by omega⟩) hpop
            refine Or.inr ⟨i, nI S.length, way, upd turn S.length (nI (t + 1)), r, p, h1, h2, h3, by omega, ⟨g1, g2, g3, rf_tr_kk d1, fun q => by omega⟩, by rw [hfm, rf_ka, if_pos (by omega)], hhead _ ?_⟩
            rw [k13, pu_br_t (show nI 13 = (13 : Int32) from rfl), pu_br_f (by rw [h2]; exact fun q => by have := (nI_ltI h1 (by omega)).mp q; omega), pu_br_f (by rw [h2]; exact nI_ge hlt (by omega))]
      · have k5 : rf_gb n c p 0 = 5 := g3.1.resolve_left k13
        obtain ⟨c1, c2, c3⟩ := g5 k5
        rw [rf_mu, if_neg k13] at hM
        dsimp only at hM
        by_cases ht : t ≤ rf_gb n c p 1
        · have hkid := c3 t (by omega)
          have hch := rf_mchild hmn (p := p) (c := c) (by omega) g2 hc hn g3 (i := t) ht
          have hch' : f_MD_child mn (nI p) (nI t) = some (nI (rf_kid (rf_gb n c p) t)) := hch
          have hkid23 := rf_mono hkid (show D ≤ 23 by omega)
          have e1 : rf_gb n c p 1 + 1 - t = (rf_gb n c p 1 + 1 - (t + 1)) + 1 := by omega
          have hlevS : rf_lev n c (p, t) = rf_lv n c 23 (rf_kid (rf_gb n c p) t) ++ rf_lev n c (p, t + 1) := by
            unfold rf_lev
            rw [if_neg k13, if_neg k13]
            dsimp only
            rw [e1, rf_ls]
          obtain ⟨D', rfl⟩ : ∃ k, D = k + 1 := by
            cases D with
            | zero => exact absurd hkid (fun q => q)
            | succ D => exact ⟨D, rfl⟩
          have hlevK : rf_lev n c (rf_kid (rf_gb n c p) t, 0) = rf_lv n c 23 (rf_kid (rf_gb n c p) t) := by
            unfold rf_lev
            dsimp only
            by_cases kk : rf_gb n c (rf_kid (rf_gb n c p) t) 0 = 13
            · rw [if_pos kk, rf_lv, if_pos kk]
            · rw [if_neg kk, rf_lv, if_neg kk, Nat.sub_zero]
              obtain ⟨_, _, b3⟩ := hkid.2.2.2.2 (hkid.2.2.1.1.resolve_left kk)
              exact rf_ls_congr _ _ (fun i _ hi => by
                rw [(rf_mono (b3 i (by omega)) (show D' ≤ 23 by omega)).2.2.2, (rf_mono (b3 i (by omega)) (show D' ≤ 22 by omega)).2.2.2])
          have hmuK : (if rf_gb n c (rf_kid (rf_gb n c p) t) 0 = 13 then 1 else 1 + 2 * rf_ws (rf_np n c 23) (rf_kd (rf_kid (rf_gb n c (rf_kid (rf_gb n c p) t))) (rf_gb n c (rf_kid (rf_gb n c p) t) 1 + 1 - 0) 0)) + 1 = 2 * rf_np n c 23 (rf_kid (rf_gb n c p) t) := by
            by_cases kk : rf_gb n c (rf_kid (rf_gb n c p) t) 0 = 13
            · rw [if_pos kk, rf_np, if_pos kk]
            · rw [if_neg kk, rf_np, if_neg kk, Nat.sub_zero, rf_ws_kd]
              obtain ⟨_, _, b3⟩ := hkid.2.2.2.2 (hkid.2.2.1.1.resolve_left kk)
              have : rf_su (fun i => rf_np n c 23 (rf_kid (rf_gb n c (rf_kid (rf_gb n c p) t)) (0 + i))) (rf_gb n c (rf_kid (rf_gb n c p) t) 1 + 1) = rf_su (fun i => rf_np n c 22 (rf_kid (rf_gb n c (rf_kid (rf_gb n c p) t)) i)) (rf_gb n c (rf_kid (rf_gb n c p) t) 1 + 1) := rf_su_congr _ (fun i hi => by
                rw [Nat.zero_add, (rf_mono (b3 i (by omega)) (show D' ≤ 23 by omega)).2.2.1, (rf_mono (b3 i (by omega)) (show D' ≤ 22 by omega)).2.2.1])
              rw [this]; omega
          have hfm : ((rf_kid (rf_gb n c p) t, 0) :: (p, t + 1) :: S).flatMap (rf_lev n c) = ((p, t) :: S).flatMap (rf_lev n c) := by
            rw [List.flatMap_cons, List.flatMap_cons, List.flatMap_cons, hlevK, hlevS, List.append_assoc]
          have hmu2 : rf_mu n c ((rf_kid (rf_gb n c p) t, 0) :: (p, t + 1) :: S) = M := by
            rw [rf_mu, rf_mu, if_neg k13]
            dsimp only
            rw [e1, rf_kd, rf_ws] at hM
            omega
          have hdp2 : rf_dp n c ((rf_kid (rf_gb n c p) t, 0) :: (p, t + 1) :: S) := by
            refine ⟨?_, Nat.zero_le _, ?_, ?_, d3⟩
            · rw [show 23 - ((p, t + 1) :: S).length = D' + 1 by rw [List.length_cons]; omega]; exact hkid
            · rw [hD]; exact d1
            · show t + 1 ≤ rf_gb n c p 1 + 1; omega
          have hs2' : rf_s2 ((rf_kid (rf_gb n c p) t, 0) :: (p, t + 1) :: S) (upd way (S.length + 1) (nI (rf_kid (rf_gb n c p) t))) (upd (upd turn S.length (nI (t + 1))) (S.length + 1) 0) := by
            refine ⟨pk_us, pk_us, ?_, ?_, rf_s2_upd hs3 (by omega)⟩
            · rw [pk_un (by omega)]; exact s1
            · rw [pk_un (by omega)]; exact pk_us
          have hrec := ih f r ((rf_kid (rf_gb n c p) t, 0) :: (p, t + 1) :: S) _ _ hmu2 (by omega) hdp2 hs2' (by rw [hfm]; exact hr) hx
          rw [hfm] at hrec
          have hbr : ∀ z, q_MD_walk_24 kx105 kx191 mn at' bad x1 f (nI ((rf_kid (rf_gb n c p) t, 0) :: (p, t + 1) :: S).length + -1) (upd way (S.length + 1) (nI (rf_kid (rf_gb n c p) t))) (upd (upd turn S.length (nI (t + 1))) (S.length + 1) 0) (nI r) = z → q_MD_walk_24 kx105 kx191 mn at' bad x1 (f + 1) (nI ((p, t) :: S).length + -1) way turn (nI r) = z := by
            intro z hz
            refine hhead _ ?_
            rw [List.length_cons, List.length_cons, rf_m1] at hz
            rw [k5, pu_br_f (show ¬ nI 5 = (13 : Int32) by decide), pu_br_t (nI_le ht (by omega)), nI_1, pu_nm, hch', pu_b1_s, pu_ck_t (vp_in_nI (by omega) (by decide)), nI_clamp (by omega), pu_nm, pu_ck_t (vp_in_nI (by omega) (by decide)), pu_nm, q_MD_walk_188]
            exact hz
          rcases hrec with ⟨d', w', t', q1, q2⟩ | ⟨i, d', w', t', r', p', q1, q2, q3, q4, q5, q6, q7⟩
          · exact Or.inl ⟨d', w', t', hbr _ q1, q2⟩
          · exact Or.inr ⟨i, d', w', t', r', p', q1, q2, q3, q4, q5, q6, hbr _ q7⟩
        · have e1 : rf_gb n c p 1 + 1 - t = 0 := by omega
          have hfm : ((p, t) :: S).flatMap (rf_lev n c) = S.flatMap (rf_lev n c) := by
            rw [List.flatMap_cons]
            unfold rf_lev
            rw [if_neg k13]
            dsimp only
            rw [e1]
            rfl
          rw [e1] at hM
          have hMS : rf_mu n c S = M := by
            have : rf_ws (rf_np n c 23) (rf_kd (rf_kid (rf_gb n c p)) 0 t) = 0 := rfl
            omega
          have hrec := ih f r S way (upd turn S.length (nI (t + 1))) hMS (by omega) d3 hs3 (by rw [hfm] at hr; exact hr) hx
          have hbr : ∀ z, q_MD_walk_24 kx105 kx191 mn at' bad x1 f (nI S.length + -1) way (upd turn S.length (nI (t + 1))) (nI r) = z → q_MD_walk_24 kx105 kx191 mn at' bad x1 (f + 1) (nI ((p, t) :: S).length + -1) way turn (nI r) = z := by
            intro z hz
            refine hhead _ ?_
            rw [k5, pu_br_f (show ¬ nI 5 = (13 : Int32) by decide), pu_br_f (nI_ge (by omega) (by omega)), pu_nm, q_MD_walk_188, Int32.sub_eq_add_neg]
            exact hz
          rw [hfm]
          rcases hrec with ⟨d', w', t', q1, q2⟩ | ⟨i, d', w', t', r', p', q1, q2, q3, q4, q5, q6, q7⟩
          · exact Or.inl ⟨d', w', t', hbr _ q1, q2⟩
          · exact Or.inr ⟨i, d', w', t', r', p', q1, q2, q3, q4, q5, q6, hbr _ q7⟩
end RFRW
