section RFRB
theorem rf_wp_bt2 {n : Nat → Nat} {p : Nat} {h : Nat → Nat} (hn : rf_bt n) (hh : ∀ a, a < 64 → h a < 256) : rf_bt (rf_wp n p h) := by
  intro k
  unfold rf_wp
  by_cases q : 64 * p ≤ k ∧ k < 64 * p + 64
  · rw [if_pos q]; exact hh _ (by omega)
  · rw [if_neg q]; exact hn _
/-- the pages of the journal back in their places -/
def rf_rl (d : Nat → Nat) (pg : Nat → Nat) (rb : Nat → Nat → Nat) : Nat → (Nat → Nat)
  | 0 => d
  | r + 1 => rf_wp (rf_rl d pg rb r) (pg r) (rb r)
variable {d : Nat → Nat} {pg : Nat → Nat} {rb : Nat → Nat → Nat}
theorem rf_rl_bt (hd : rf_bt d) {nr : Nat} (h : ∀ r a, r < nr → a < 64 → rb r a < 256) : ∀ m, m ≤ nr → rf_bt (rf_rl d pg rb m)
  | 0, _ => hd
  | m + 1, hm => rf_wp_bt2 (rf_rl_bt hd h m (by omega)) (fun a ha => h m a (by omega) ha)
theorem rf_rl_out {p a : Nat} (ha : a < 64) : ∀ m, (∀ r, r < m → pg r ≠ p) → rf_rl d pg rb m (64 * p + a) = d (64 * p + a)
  | 0, _ => rfl
  | m + 1, h => by
    rw [rf_rl, rf_wp_pe (fun e => h m (by omega) e.symm) a ha]
    exact rf_rl_out ha m (fun r hr => h r (by omega))
theorem rf_rl_in {r a : Nat} (ha : a < 64) : ∀ m, r < m → (∀ r', r' < m → pg r' = pg r → r' = r) → rf_rl d pg rb m (64 * pg r + a) = rb r a
  | 0, h, _ => by omega
  | m + 1, h, hi => by
    by_cases e : m = r
    · subst e; rw [rf_rl, rf_wp_at ha]
    · rw [rf_rl, rf_wp_pe (fun q => e (hi m (by omega) q.symm)) a ha]
      exact rf_rl_in ha m (by omega) (fun r' hr' => hi r' (by omega))
theorem rf_copyPageL {b1 b2 : Nat → Int32} {v : Nat → Nat} {c1 c2 p q : Nat} (h : ∀ a, a < 64 → b2 (64 * (q - 1) + a) = rf_sx (v a)) (hc1 : c1 ≤ 24) (hc2 : c2 ≤ 24) (hp : 1 ≤ p) (hp2 : p ≤ c1) (hq : 1 ≤ q) (hq2 : q ≤ c2) :
    ∃ w, f_Pages_copyPage (nI c1) (nI c2) b2 b1 (nI p) (nI q) 64 = some w ∧ (∀ a, a < 64 → w (64 * (p - 1) + a) = rf_sx (v a)) ∧ ∀ k, k < 64 * (p - 1) ∨ 64 * (p - 1) + 64 ≤ k → w k = b1 k := by
  have e1 : (64 : Int32) - 1 = nI 63 := rfl
  have e2 : (nI q - 1) * (64 : Int32) = nI (64 * (q - 1)) := by
    rw [show nI q - (1 : Int32) = nI (q - 1) from pk_sub (a := q) (b := 1) hq, Nat.mul_comm]; exact pk_mul (q - 1) 64
  have e3 : (nI p - 1) * (64 : Int32) = nI (64 * (p - 1)) := by
    rw [show nI p - (1 : Int32) = nI (p - 1) from pk_sub (a := p) (b := 1) hp, Nat.mul_comm]; exact pk_mul (p - 1) 64
  refine ⟨va_cpy b2 b1 (64 * (q - 1)) (64 * (p - 1)) 64, ?_, fun a ha => ?_, fun k hk => ?_⟩
  · rw [f_Pages_copyPage, e1, rf_has_in hc1 hp hp2 (by omega), pu_b1_s, pu_br_f (by decide), rf_has_in hc2 hq hq2 (by omega), pu_b1_s, pu_br_f (by decide), e2, e3, show (64 : Int32) = nI 64 from rfl, pu_ck_t (rf_cpyok (by omega) (by omega) (by decide) (by decide) (fun i hi => ⟨v i, h i hi⟩)), nI_clamp (by omega), nI_clamp (by omega), nI_clamp (by omega), pu_nm]
  · rw [pk_cpy_in (by omega) (by omega), Nat.add_sub_cancel_left]
    exact h a ha
  · exact pk_cpy_out (by omega)
/-- the class rolls back -/
theorem rf_rollBack {fb rbytes recorded : Nat → Int32} {hp nr : Nat} (hfb : rf_pg fb d) (h2 : hp ≤ 24) (hpg : ∀ r, r < nr → 1 ≤ pg r ∧ pg r ≤ hp) (hinj : ∀ r r', r < nr → r' < nr → pg r = pg r' → r = r') (hrb : ∀ r a, r < nr → a < 64 → rbytes (64 * (pg r - 1) + a) = rf_sx (rb r a)) (hrec : ∀ p, 1 ≤ p → p ≤ 24 → (recorded p = 1 ∧ ∃ r, r < nr ∧ pg r = p) ∨ (recorded p = 0 ∧ ∀ r, r < nr → pg r ≠ p)) {ht fc : Int32} (hht : ¬ ht = 0) :
    ∃ w, f_Disk_rollBack (nI hp) (nI hp) rbytes recorded ht fc fb = some (0, nI hp, w) ∧ rf_pg w (rf_rl d pg rb nr) := by
  rw [f_Disk_rollBack, pu_br_f hht]
  refine rf_loop (fun f x i => q_Disk_rollBack_21 (fun v_file_bytes => q_Disk_rollBack_57 (nI hp) (nI hp) rbytes recorded ht (nI hp) v_file_bytes) (nI hp) (nI hp) rbytes recorded ht (nI hp) f x (nI (i + 1))) (fun i x => (∀ k, k < 64 * i → k < 1536 → x k = rf_sx (rf_rl d pg rb nr (k + 64))) ∧ ∀ k, 64 * i ≤ k → k < 1536 → x k = rf_sx (d (k + 64))) (fun r => ∃ w, r = some (0, nI hp, w) ∧ rf_pg w (rf_rl d pg rb nr)) 24 ?_ ?_ 24 pu_fu fb 0 (by omega) (by rw [rf_fu]; omega) ⟨fun k hk => by omega, fun k _ hk => hfb k hk⟩
  · rintro f x ⟨hx, _⟩
    refine ⟨x, ?_, fun k hk => hx k (by omega) hk⟩
    show q_Disk_rollBack_21 (fun v_file_bytes => q_Disk_rollBack_57 (nI hp) (nI hp) rbytes recorded ht (nI hp) v_file_bytes) (nI hp) (nI hp) rbytes recorded ht (nI hp) (f + 1) x (nI 25) = _
    rw [q_Disk_rollBack_21, pu_br_t (by decide), q_Disk_rollBack_57]
  · rintro f x i hi ⟨hx, hx2⟩
    have step : ∀ q, pu_br (recorded (i + 1) = 0) (q_Disk_rollBack_51 (q_Disk_rollBack_21 (fun v_file_bytes => q_Disk_rollBack_57 (nI hp) (nI hp) rbytes recorded ht (nI hp) v_file_bytes) (nI hp) (nI hp) rbytes recorded ht (nI hp) f) (fun v_file_bytes => q_Disk_rollBack_57 (nI hp) (nI hp) rbytes recorded ht (nI hp) v_file_bytes) (nI hp) (nI hp) rbytes recorded ht (nI hp) x (nI (i + 1))) (pu_b1 (f_Pages_copyPage (nI hp) (nI hp) rbytes x (nI (i + 1)) (nI (i + 1)) 64) (fun w3 => q_Disk_rollBack_51 (q_Disk_rollBack_21 (fun v_file_bytes => q_Disk_rollBack_57 (nI hp) (nI hp) rbytes recorded ht (nI hp) v_file_bytes) (nI hp) (nI hp) rbytes recorded ht (nI hp) f) (fun v_file_bytes => q_Disk_rollBack_57 (nI hp) (nI hp) rbytes recorded ht (nI hp) v_file_bytes) (nI hp) (nI hp) rbytes recorded ht (nI hp) w3 (nI (i + 1)))) = q → q_Disk_rollBack_21 (fun v_file_bytes => q_Disk_rollBack_57 (nI hp) (nI hp) rbytes recorded ht (nI hp) v_file_bytes) (nI hp) (nI hp) rbytes recorded ht (nI hp) (f + 1) x (nI (i + 1)) = q := by
      intro q hq
      rw [q_Disk_rollBack_21, pu_br_f (show ¬ (24 : Int32) < nI (i + 1) from nI_nlt (a := 24) (by omega) (by omega)), pu_ck_t (vp_in_nI (by omega) (by decide)), nI_clamp (by omega)]
      exact hq
    rcases hrec (i + 1) (by omega) (by omega) with ⟨r1, r, r2, r3⟩ | ⟨r1, r2⟩
    · obtain ⟨p1, p2⟩ := hpg r r2
      obtain ⟨w, q1, q2, q3⟩ := rf_copyPageL (b1 := x) (b2 := rbytes) (v := rb r) (c1 := hp) (c2 := hp) (p := i + 1) (q := i + 1) (fun a ha => by rw [← r3]; exact hrb r a r2 ha) h2 h2 (by omega) (by omega) (by omega) (by omega)
      rw [Nat.add_sub_cancel] at q2 q3
      refine Or.inl ⟨w, ⟨fun k k1 k2 => ?_, fun k k1 k2 => ?_⟩, step _ ?_⟩
      · by_cases e : k < 64 * i
        · rw [q3 k (Or.inl e)]; exact hx k e k2
        · obtain ⟨a, rfl⟩ : ∃ a, k = 64 * i + a := ⟨k - 64 * i, by omega⟩
          have := rf_rl_in (d := d) (rb := rb) (pg := pg) (r := r) (a := a) (by omega) nr r2 (fun r' hr' e' => hinj r' r hr' r2 e')
          rw [q2 a (by omega), show 64 * i + a + 64 = 64 * pg r + a by omega, this]
      · rw [q3 k (Or.inr (by omega))]; exact hx2 k (by omega) k2
      · rw [pu_br_f (by rw [r1]; decide), q1, pu_b1_s, q_Disk_rollBack_51, nI_1, pu_nm]
    · refine Or.inl ⟨x, ⟨fun k k1 k2 => ?_, fun k k1 k2 => hx2 k (by omega) k2⟩, step _ ?_⟩
      · by_cases e : k < 64 * i
        · exact hx k e k2
        · obtain ⟨a, rfl⟩ : ∃ a, k = 64 * i + a := ⟨k - 64 * i, by omega⟩
          have := rf_rl_out (d := d) (rb := rb) (pg := pg) (p := i + 1) (a := a) (by omega) nr r2
          rw [hx2 _ (by omega) k2, show 64 * i + a + 64 = 64 * (i + 1) + a by omega, this]
      · rw [pu_br_t r1, q_Disk_rollBack_51, nI_1, pu_nm]
/-- the reference rolls back -/
theorem rf_mroll {md mpage mbytes : Nat → Int32} {hp nr : Nat} (hmd : rf_md md d) (h2 : hp ≤ 24) (hnr : nr ≤ 24) (hpg : ∀ r, r < nr → 1 ≤ pg r ∧ pg r ≤ hp ∧ mpage r = nI (pg r)) (hrb : ∀ r a, r < nr → a < 64 → mbytes (64 * r + a) = nI (rb r a)) (kx : (Nat → Int32) → Option (Int32 × Int32 × Int32 × Int32 × Int32 × Int32 × Int32 × Int32 × (Nat → Int32) × (Nat → Int32) × (Nat → Int32) × (Nat → Int32) × (Nat → Int32) × (Nat → Int32))) (hpI od hd up len deep at' bad : Int32) (now rec way turn used : Nat → Int32) :
    ∃ w, q_MD_open_19 kx hpI (nI nr) mpage mbytes od hd up len deep at' bad now rec way turn used pu_fu md 0 = kx w ∧ rf_md w (rf_rl d pg rb nr) := by
  refine rf_loop (fun f x r => q_MD_open_19 kx hpI (nI nr) mpage mbytes od hd up len deep at' bad now rec way turn used f x (nI r)) (fun r x => rf_md x (rf_rl d pg rb r)) (fun q => ∃ w, q = kx w ∧ rf_md w (rf_rl d pg rb nr)) nr ?_ ?_ nr pu_fu md 0 (by omega) (by rw [rf_fu]; omega) hmd
  · intro f x hx
    refine ⟨x, ?_, hx⟩
    show q_MD_open_19 kx hpI (nI nr) mpage mbytes od hd up len deep at' bad now rec way turn used (f + 1) x (nI nr) = _
    rw [q_MD_open_19, pu_br_t (nI_le (Nat.le_refl _) (by omega))]
  · intro f x r hr hx
    obtain ⟨p1, p2, p3⟩ := hpg r hr
    have inner : ∀ ky : (Nat → Int32) → Option (Int32 × Int32 × Int32 × Int32 × Int32 × Int32 × Int32 × Int32 × (Nat → Int32) × (Nat → Int32) × (Nat → Int32) × (Nat → Int32) × (Nat → Int32) × (Nat → Int32)), ∃ w, q_MD_open_29 ky hpI (nI nr) mpage mbytes od hd up len deep at' bad now rec way turn used (nI r) pu_fu x 0 = ky w ∧ rf_md w (rf_rl d pg rb (r + 1)) := by
      intro ky
      refine rf_loop (fun f y t => q_MD_open_29 ky hpI (nI nr) mpage mbytes od hd up len deep at' bad now rec way turn used (nI r) f y (nI t)) (fun t y => rf_md y (rf_wp (rf_rl d pg rb r) (pg r) (fun a => if a < t then rb r a else rf_rl d pg rb r (64 * pg r + a)))) (fun q => ∃ w, q = ky w ∧ rf_md w (rf_rl d pg rb (r + 1))) 64 ?_ ?_ 64 pu_fu x 0 (by omega) (by rw [rf_fu]; omega) ?_
      · intro f y hy
        refine ⟨y, ?_, ?_⟩
        · show q_MD_open_29 ky hpI (nI nr) mpage mbytes od hd up len deep at' bad now rec way turn used (nI r) (f + 1) y (nI 64) = _
          rw [q_MD_open_29, pu_br_t (show (64 : Int32) ≤ nI 64 by decide)]
        · rw [rf_rl, rf_wp_congr (h' := fun a => if a < 64 then rb r a else rf_rl d pg rb r (64 * pg r + a)) (fun a ha => by rw [if_pos ha])]
          exact hy
      · intro f y t ht hy
        refine Or.inl ⟨upd y (64 * pg r + t) (nI (rb r t)), ?_, ?_⟩
        · rw [rf_wp_congr (h' := rf_p1 (fun a => if a < t then rb r a else rf_rl d pg rb r (64 * pg r + a)) t (rb r t)) (fun a ha => ?_)]
          · exact rf_mputw hy ht
          · unfold rf_p1
            dsimp only
            by_cases e : a = t
            · rw [if_pos e, if_pos (by omega), e]
            · rw [if_neg e]
              by_cases e2 : a < t
              · rw [if_pos e2, if_pos (by omega)]
              · rw [if_neg e2, if_neg (by omega)]
        · show q_MD_open_29 ky hpI (nI nr) mpage mbytes od hd up len deep at' bad now rec way turn used (nI r) (f + 1) y (nI t) = q_MD_open_29 ky hpI (nI nr) mpage mbytes od hd up len deep at' bad now rec way turn used (nI r) f (upd y (64 * pg r + t) (nI (rb r t))) (nI (t + 1))
          rw [q_MD_open_29, pu_br_f (show ¬ (64 : Int32) ≤ nI t from nI_ge (b := 64) ht (by omega)), pu_ck_t (vp_in_nI (by omega) (by decide)), show (64 : Int32) * nI r = nI (64 * r) from pk_mul 64 r, nI_add, pu_ck_t (vp_in_nI (by omega) (by decide)), nI_clamp (n := r) (by omega), p3, show (64 : Int32) * nI (pg r) = nI (64 * pg r) from pk_mul 64 _, nI_add, pu_ck_t (vp_in_nI (by omega) (by decide)), nI_clamp (by omega), nI_clamp (by omega), hrb r t hr ht, pu_nm, nI_1, pu_nm]
      · rw [rf_wp_congr (h' := fun a => rf_rl d pg rb r (64 * pg r + a)) (fun a ha => by rw [if_neg (by omega)]), rf_wp_self]
        exact hx
    obtain ⟨w, q1, q2⟩ := inner (fun v_disk => q_MD_open_68 (q_MD_open_19 kx hpI (nI nr) mpage mbytes od hd up len deep at' bad now rec way turn used f) kx hpI (nI nr) mpage mbytes od hd up len deep at' bad now v_disk rec way turn used (nI r))
    refine Or.inl ⟨w, q2, ?_⟩
    show q_MD_open_19 kx hpI (nI nr) mpage mbytes od hd up len deep at' bad now rec way turn used (f + 1) x (nI r) = q_MD_open_19 kx hpI (nI nr) mpage mbytes od hd up len deep at' bad now rec way turn used f w (nI (r + 1))
    rw [q_MD_open_19, pu_br_f (nI_ge hr (by omega)), q1, q_MD_open_68, nI_1, pu_nm]
end RFRB
