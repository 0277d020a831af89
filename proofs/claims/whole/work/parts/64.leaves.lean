section RFLV
def rf_sk : List Nat → (Nat → Int32) → Prop
  | [], _ => True
  | w :: W, a => a W.length = nI w ∧ rf_sk W a
theorem rf_sk_upd {v : Int32} : ∀ {W : List Nat} {a : Nat → Int32} {k : Nat}, rf_sk W a → W.length ≤ k → rf_sk W (upd a k v)
  | [], _, _, _, _ => trivial
  | w :: W, a, k, h, hk => by
    have hk' : W.length + 1 ≤ k := hk
    exact ⟨by rw [pk_un (by omega)]; exact h.1, rf_sk_upd h.2 (by omega)⟩
def rf_kd (f : Nat → Nat) : Nat → Nat → List Nat
  | 0, _ => []
  | k + 1, t => f t :: rf_kd f k (t + 1)
theorem rf_kd_len (f : Nat → Nat) : ∀ k t, (rf_kd f k t).length = k
  | 0, _ => rfl
  | k + 1, t => by rw [rf_kd, List.length_cons, rf_kd_len f k]
theorem rf_kd_mem {f : Nat → Nat} {w : Nat} : ∀ {k t}, w ∈ rf_kd f k t → ∃ i, t ≤ i ∧ i < t + k ∧ w = f i
  | 0, _, h => by cases h
  | k + 1, t, h => by
    rcases List.mem_cons.mp h with h | h
    · exact ⟨t, by omega, by omega, h⟩
    · obtain ⟨i, h1, h2, h3⟩ := rf_kd_mem h
      exact ⟨i, by omega, by omega, h3⟩
theorem rf_kd_fm {f : Nat → Nat} {l : Nat → List Nat} : ∀ k t, (rf_kd f k t).flatMap l = rf_ls (fun i => l (f i)) k t
  | 0, _ => rfl
  | k + 1, t => by rw [rf_kd, List.flatMap_cons, rf_kd_fm k, rf_ls]
def rf_ws (f : Nat → Nat) : List Nat → Nat
  | [] => 0
  | w :: W => f w + rf_ws f W
theorem rf_ws_app {f : Nat → Nat} : ∀ {V W}, rf_ws f (V ++ W) = rf_ws f V + rf_ws f W
  | [], W => by rw [List.nil_append]; show _ = 0 + _; omega
  | v :: V, W => by rw [List.cons_append, rf_ws, rf_ws, rf_ws_app]; omega
theorem rf_su_fst {f : Nat → Nat} : ∀ k, rf_su f (k + 1) = f 0 + rf_su (fun i => f (i + 1)) k
  | 0 => by show 0 + f 0 = f 0 + 0; omega
  | k + 1 => by rw [rf_su, rf_su_fst k, rf_su]; omega
theorem rf_ws_kd {f h : Nat → Nat} : ∀ k t, rf_ws h (rf_kd f k t) = rf_su (fun i => h (f (t + i))) k
  | 0, _ => rfl
  | k + 1, t => by
    rw [rf_kd, rf_ws, rf_ws_kd k, rf_su_fst]
    rw [rf_su_congr k (fun i _ => by rw [show t + 1 + i = t + (i + 1) by omega])]
    rfl
theorem rf_ws_len {f : Nat → Nat} : ∀ {W : List Nat}, (∀ w ∈ W, 1 ≤ f w) → W.length ≤ rf_ws f W
  | [], _ => Nat.le_refl _
  | w :: W, h => by
    have := rf_ws_len (f := f) (W := W) (fun v hv => h v (List.mem_cons_of_mem _ hv))
    have := h w List.mem_cons_self
    rw [List.length_cons, rf_ws]; omega
def rf_ol (out : List Nat) (a : Nat → Int32) : Prop := ∀ j x, out[j]? = some x → a j = nI x
theorem rf_ol_snoc {out : List Nat} {a : Nat → Int32} {p : Nat} (h : rf_ol out a) : rf_ol (out ++ [p]) (upd a out.length (nI p)) := by
  intro j x hx
  by_cases e : j < out.length
  · rw [List.getElem?_append_left e] at hx
    rw [pk_un (by omega)]; exact h j x hx
  · rw [List.getElem?_append_right (by omega)] at hx
    by_cases e2 : j = out.length
    · subst e2
      rw [Nat.sub_self] at hx
      cases hx
      exact pk_us
    · rw [List.getElem?_eq_none (by rw [List.length_singleton]; omega)] at hx; cases hx
theorem rf_m1 (j : Nat) : nI (j + 1) + (-1 : Int32) = nI j := by
  rw [← nI_1, Int32.add_assoc, show (1 : Int32) + -1 = 0 by decide, Int32.add_zero]
theorem rf_m1b (j : Nat) : nI (j + 1) - (1 : Int32) = nI j := by
  rw [Int32.sub_eq_add_neg]; exact rf_m1 j
variable {n : Nat → Nat} {c : Nat}
/-- the children come onto the stack -/
theorem rf_push {kx : (Nat → Int32) → Int32 → Option (Int32 × Int32 × Int32 × Int32 × (Nat → Int32) × (Nat → Int32) × (Nat → Int32) × (Nat → Int32) × (Nat → Int32))} {pc : Int32} {pb : Nat → Int32} {g : Nat → Nat} {cnt last leaf : Int32} {b st sz lv : Nat → Int32} {x1 x3 : Int32} (hnd : rf_nd g cnt leaf b st sz) (hla : last = nI (g 2)) (W : List Nat) (hW : g 1 + 1 + W.length ≤ 24) :
    ∀ (j f : Nat) (w : Nat → Int32) (x5 : Int32), j ≤ g 1 + 1 → j < f → x5 = nI j + -1 → rf_sk (rf_kd (rf_kid g) (g 1 + 1 - j) j ++ W) w → ∃ w', q_Tree_listLeaves_87 kx pc pb cnt last leaf b st sz lv x1 x3 f w (nI (g 1 + 1 - j + W.length)) x5 = kx w' (nI (g 1 + 1 + W.length)) ∧ rf_sk (rf_kd (rf_kid g) (g 1 + 1) 0 ++ W) w'
  | 0, f, w, x5, hj, hf, hx, hs => by
    obtain ⟨f, rfl⟩ : ∃ k, f = k + 1 := ⟨f - 1, by omega⟩
    subst hx
    exact ⟨w, by rw [q_Tree_listLeaves_87, pu_br_t (by decide)]; rfl, hs⟩
  | j + 1, f, w, x5, hj, hf, hx, hs => by
    obtain ⟨f, rfl⟩ : ∃ k, f = k + 1 := ⟨f - 1, by omega⟩
    have h30 := hnd.1.2.2.2.1
    rw [rf_m1] at hx
    subst hx
    have hch := rf_child (i := j) hnd hla (by omega)
    have e1 : g 1 + 1 - (j + 1) + W.length + 1 = g 1 + 1 - j + W.length := by omega
    have hlen : (rf_kd (rf_kid g) (g 1 + 1 - (j + 1)) (j + 1) ++ W).length = g 1 + 1 - (j + 1) + W.length := by rw [List.length_append, rf_kd_len]
    have hs' : rf_sk (rf_kd (rf_kid g) (g 1 + 1 - j) j ++ W) (upd w (g 1 + 1 - (j + 1) + W.length) (nI (rf_kid g j))) := by
      rw [show g 1 + 1 - j = (g 1 + 1 - (j + 1)) + 1 by omega, rf_kd, List.cons_append]
      exact ⟨by rw [hlen]; exact pk_us, rf_sk_upd hs (by rw [hlen]; omega)⟩
    obtain ⟨w', k1, k2⟩ := rf_push hnd hla W hW (kx := kx) (pc := pc) (pb := pb) (lv := lv) (x1 := x1) (x3 := x3) j f (upd w (g 1 + 1 - (j + 1) + W.length) (nI (rf_kid g j))) (nI j + -1) (by omega) (by omega) rfl hs'
    refine ⟨w', ?_, k2⟩
    have hch' : f_Node_child cnt last b st (nI j) = some (nI (rf_kid g j)) := hch
    rw [q_Tree_listLeaves_87, pu_br_f (nI_pos (by omega)), pu_br_f (show ¬ (24 : Int32) ≤ nI (g 1 + 1 - (j + 1) + W.length) from nI_ge (a := g 1 + 1 - (j + 1) + W.length) (b := 24) (by omega) (by decide)), hch', pu_b1_s, pu_ck_t (vp_in_nI (by omega) (by decide)), nI_clamp (by omega), pu_nm, pu_nm, pu_nm, nI_1, e1]
    exact k1
theorem rf_list_go {pb : Nat → Int32} (hn : rf_bt n) (hpb : rf_pg pb n) (hc : c ≤ 24) :
    ∀ (T f i : Nat) (W out : List Nat) (cnt last leaf : Int32) (b st sz w lv : Nat → Int32), rf_ws (rf_np n c 23) W = T → T < f → i + T ≤ 23 → out.length ≤ i → (∀ v ∈ W, rf_tr n c 23 v) → rf_sk W w → rf_ol out lv →
      ∃ (cnt' last' leaf' : Int32) (b' st' sz' w' lv' : Nat → Int32), q_Tree_listLeaves_19 (nI c) pb f cnt last leaf b st sz w lv (nI out.length) (nI W.length) (nI i) = some (nI (out ++ W.flatMap (rf_lv n c 23)).length, cnt', last', leaf', b', st', sz', w', lv') ∧ rf_ol (out ++ W.flatMap (rf_lv n c 23)) lv' ∧ (out ++ W.flatMap (rf_lv n c 23)).length ≤ 23 := by
  intro T
  induction T with
  | zero =>
    intro f i W out cnt last leaf b st sz w lv hT hf hi ho hW hs hol
    obtain ⟨f, rfl⟩ : ∃ k, f = k + 1 := ⟨f - 1, by omega⟩
    cases W with
    | cons v W => have := rf_np_pos (hW v List.mem_cons_self); rw [rf_ws] at hT; omega
    | nil =>
      rw [List.flatMap_nil, List.append_nil]
      refine ⟨cnt, last, leaf, b, st, sz, w, lv, ?_, hol, by omega⟩
      rw [q_Tree_listLeaves_19, pu_br_f (show ¬ (24 : Int32) ≤ nI i from nI_ge (a := i) (b := 24) (by omega) (by decide)), pu_br_t (by decide)]
  | succ T ih =>
    intro f i W out cnt last leaf b st sz w lv hT hf hi ho hW hs hol
    obtain ⟨f, rfl⟩ : ∃ k, f = k + 1 := ⟨f - 1, by omega⟩
    cases W with
    | nil => cases hT
    | cons v W =>
      have hv := hW v List.mem_cons_self
      have hv' := hv
      obtain ⟨h1, h2, h3, h4, h5⟩ := hv'
      have hWl : W.length ≤ rf_ws (rf_np n c 23) W := rf_ws_len (fun u hu => rf_np_pos (hW u (List.mem_cons_of_mem _ hu)))
      have hnp := rf_np_pos hv
      rw [rf_ws] at hT
      obtain ⟨r, cn, la, le, b', st', sz', k1, k2, k3⟩ := rf_load hn hpb (c := c) (p := v) hc (by omega) cnt last leaf b st sz
      obtain ⟨hr, hnd⟩ := rf_nd_of (rf_gb_lt hn c v) k2 h3
      have hla := k2.2.1
      have hle := k2.2.2.1
      have hhead : ∀ z, pu_br (le = 0) (q_Tree_listLeaves_87 (fun v_waiting x_2 => q_Tree_listLeaves_122 (q_Tree_listLeaves_19 (nI c) pb f) (nI c) pb cn la le b' st' sz' v_waiting lv (nI out.length) x_2 (nI i)) (nI c) pb cn la le b' st' sz' lv (nI out.length) (nI i) pu_fu w (nI W.length) cn) (pu_ck (vp_in (nI out.length) 24) (pu_nm (upd lv (nI out.length).toNatClampNeg (nI v)) (fun a17 => pu_nm (nI out.length + 1) (fun t18 => q_Tree_listLeaves_122 (q_Tree_listLeaves_19 (nI c) pb f) (nI c) pb cn la le b' st' sz' w a17 t18 (nI W.length) (nI i))))) = z → q_Tree_listLeaves_19 (nI c) pb (f + 1) cnt last leaf b st sz w lv (nI out.length) (nI (v :: W).length) (nI i) = z := by
        intro z hz
        rw [q_Tree_listLeaves_19, pu_br_f (show ¬ (24 : Int32) ≤ nI i from nI_ge (a := i) (b := 24) (by omega) (by decide)), List.length_cons, pu_br_f (show ¬ nI (W.length + 1) ≤ (0 : Int32) from nI_ge (a := 0) (b := W.length + 1) (by omega) (by omega)), rf_m1, pu_nm, pu_ck_t (vp_in_nI (by omega) (by decide)), nI_clamp (by omega), hs.1, pu_nm, k1, pu_b7_s]
        exact hz
      by_cases k13 : rf_gb n c v 0 = 13
      · have hlv : rf_lv n c 23 v = [v] := by rw [rf_lv, if_pos k13]
        have hnp1 : rf_np n c 23 v = 1 := by rw [rf_np, if_pos k13]
        obtain ⟨cnt', last', leaf', b2, st2, sz2, w2, lv2, q1, q2, q3⟩ := ih f (i + 1) W (out ++ [v]) cn la le b' st' sz' w (upd lv out.length (nI v)) (by omega) (by omega) (by omega) (by rw [List.length_append, List.length_singleton]; omega) (fun u hu => hW u (List.mem_cons_of_mem _ hu)) hs.2 (rf_ol_snoc hol)
        rw [List.append_assoc, show [v] ++ W.flatMap (rf_lv n c 23) = (v :: W).flatMap (rf_lv n c 23) by rw [List.flatMap_cons, hlv]] at q1 q2 q3
        refine ⟨cnt', last', leaf', b2, st2, sz2, w2, lv2, hhead _ ?_, q2, q3⟩
        rw [pu_br_f (by rw [hle, rf_dv_t k13]; decide), pu_ck_t (vp_in_nI (by omega) (by decide)), nI_clamp (by omega), pu_nm, pu_nm, q_Tree_listLeaves_122, pu_nm, nI_1, nI_1]
        rw [List.length_append, List.length_singleton] at q1
        exact q1
      · obtain ⟨g1, g2, g3⟩ := h5 (h3.1.resolve_left k13)
        have h30 := h3.2.2.2.1
        have hkt : ∀ j, j < rf_gb n c v 1 + 1 → rf_tr n c 23 (rf_kid (rf_gb n c v) j) ∧ rf_np n c 23 (rf_kid (rf_gb n c v) j) = rf_np n c 22 (rf_kid (rf_gb n c v) j) ∧ rf_lv n c 23 (rf_kid (rf_gb n c v) j) = rf_lv n c 22 (rf_kid (rf_gb n c v) j) := fun j hj => ⟨(rf_mono1 (g3 j hj)).1, (rf_mono1 (g3 j hj)).2.2.1, (rf_mono1 (g3 j hj)).2.2.2⟩
        have hws : rf_ws (rf_np n c 23) (rf_kd (rf_kid (rf_gb n c v)) (rf_gb n c v 1 + 1) 0 ++ W) = T := by
          rw [rf_ws_app, rf_ws_kd]
          have e : rf_su (fun i => rf_np n c 23 (rf_kid (rf_gb n c v) (0 + i))) (rf_gb n c v 1 + 1) = rf_su (fun i => rf_np n c 22 (rf_kid (rf_gb n c v) i)) (rf_gb n c v 1 + 1) := rf_su_congr _ (fun i hi => by rw [Nat.zero_add]; exact (hkt i hi).2.1)
          rw [e]
          rw [rf_np, if_neg k13] at hT
          omega
        have hmem : ∀ u ∈ rf_kd (rf_kid (rf_gb n c v)) (rf_gb n c v 1 + 1) 0 ++ W, rf_tr n c 23 u := by
          intro u hu
          rcases List.mem_append.mp hu with hu | hu
          · obtain ⟨j, j1, j2, rfl⟩ := rf_kd_mem hu
            exact (hkt j (by omega)).1
          · exact hW u (List.mem_cons_of_mem _ hu)
        have hlen2 := rf_ws_len (f := rf_np n c 23) (W := rf_kd (rf_kid (rf_gb n c v)) (rf_gb n c v 1 + 1) 0 ++ W) (fun u hu => rf_np_pos (hmem u hu))
        have hlen3 : (rf_kd (rf_kid (rf_gb n c v)) (rf_gb n c v 1 + 1) 0 ++ W).length = rf_gb n c v 1 + 1 + W.length := by rw [List.length_append, rf_kd_len]
        obtain ⟨w', p1, p2⟩ := rf_push (kx := fun v_waiting x_2 => q_Tree_listLeaves_122 (q_Tree_listLeaves_19 (nI c) pb f) (nI c) pb cn la le b' st' sz' v_waiting lv (nI out.length) x_2 (nI i)) (pc := nI c) (pb := pb) (lv := lv) (x1 := nI out.length) (x3 := nI i) hnd hla W (by omega) (rf_gb n c v 1 + 1) pu_fu w (nI (rf_gb n c v 1)) (Nat.le_refl _) (by rw [rf_fu]; omega) (rf_m1 _).symm (by rw [Nat.sub_self]; exact hs.2)
        obtain ⟨cnt', last', leaf', b2, st2, sz2, w2, lv2, q1, q2, q3⟩ := ih f (i + 1) (rf_kd (rf_kid (rf_gb n c v)) (rf_gb n c v 1 + 1) 0 ++ W) out cn la le b' st' sz' w' lv hws (by omega) (by omega) (by omega) hmem p2 hol
        have efm : (rf_kd (rf_kid (rf_gb n c v)) (rf_gb n c v 1 + 1) 0 ++ W).flatMap (rf_lv n c 23) = (v :: W).flatMap (rf_lv n c 23) := by
          rw [List.flatMap_append, rf_kd_fm, List.flatMap_cons]
          congr 1
          rw [show rf_lv n c 23 v = rf_ls (fun i => rf_lv n c 22 (rf_kid (rf_gb n c v) i)) (rf_gb n c v 1 + 1) 0 by rw [rf_lv, if_neg k13]]
          exact rf_ls_congr _ _ (fun i _ hi => (hkt i (by omega)).2.2)
        rw [efm] at q1 q2 q3
        refine ⟨cnt', last', leaf', b2, st2, sz2, w2, lv2, hhead _ ?_, q2, q3⟩
        have hcn : cn = nI (rf_gb n c v 1) := hnd.2.2.2.2.1
        rw [pu_br_t (by rw [hle, rf_dv_f k13]; rfl)]
        rw [Nat.sub_self, Nat.zero_add] at p1
        rw [hcn] at p1 ⊢
        rw [p1, q_Tree_listLeaves_122, pu_nm, nI_1]
        rw [hlen3, hcn] at q1
        exact q1
theorem rf_listLeaves {pb : Nat → Int32} (hn : rf_bt n) (hpb : rf_pg pb n) (h1 : 1 ≤ c) (hc : c ≤ 24) (ht : rf_tr n c 23 (n 70)) (hp : rf_np n c 23 (n 70) ≤ 23) (cnt last leaf : Int32) (b st sz w lv : Nat → Int32) :
    ∃ (cnt' last' leaf' : Int32) (b' st' sz' w' lv' : Nat → Int32), f_Tree_listLeaves (nI c) pb cnt last leaf b st sz w lv = some (nI (rf_lv n c 23 (n 70)).length, cnt', last', leaf', b', st', sz', w', lv') ∧ rf_ol (rf_lv n c 23 (n 70)) lv' ∧ (rf_lv n c 23 (n 70)).length ≤ 23 := by
  obtain ⟨cnt', last', leaf', b', st', sz', w', lv', q1, q2, q3⟩ := rf_list_go hn hpb hc (rf_np n c 23 (n 70)) pu_fu 0 [n 70] [] cnt last leaf b st sz (upd w 0 (nI (n 70))) lv (by show _ + 0 = _; omega) (by rw [rf_fu]; omega) (by omega) (Nat.le_refl _) (fun v hv => by rw [List.mem_singleton.mp hv]; exact ht) ⟨pk_us, trivial⟩ (fun j x hx => by cases hx)
  rw [List.nil_append, List.flatMap_singleton] at q1 q2 q3
  refine ⟨cnt', last', leaf', b', st', sz', w', lv', ?_, q2, q3⟩
  have e0 : (0 : Int32).toNatClampNeg = 0 := by decide
  rw [f_Tree_listLeaves, rf_root hn hpb h1 hc, pu_b1_s, pu_ck_t (by unfold vp_in; decide), e0, pu_nm]
  exact q1
end RFLV
