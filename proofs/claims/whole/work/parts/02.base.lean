-- pure combinators: the functions that the walks follow
def pu_fu : Nat := 2000
noncomputable def pu_ck {α : Type} (p : Prop) (x : Option α) : Option α := @ite _ p (Classical.propDecidable p) x none
noncomputable def pu_br {α : Type} (p : Prop) (x y : Option α) : Option α := @ite _ p (Classical.propDecidable p) x y
def pu_nm {α β : Type} (a : α) (f : α → β) : β := f a
theorem pu_ck_some {α : Type} {p : Prop} {x : Option α} {o : α} (h : pu_ck p x = some o) : p ∧ x = some o := by
  by_cases hp : p
  · exact ⟨hp, by rw [pu_ck, if_pos hp] at h; exact h⟩
  · rw [pu_ck, if_neg hp] at h; cases h
theorem pu_ck_t {α : Type} {p : Prop} {x : Option α} (h : p) : pu_ck p x = x := by rw [pu_ck, if_pos h]
theorem pu_br_t {α : Type} {p : Prop} {x y : Option α} (h : p) : pu_br p x y = x := by rw [pu_br, if_pos h]
theorem pu_br_f {α : Type} {p : Prop} {x y : Option α} (h : ¬ p) : pu_br p x y = y := by rw [pu_br, if_neg h]
theorem pu_br_pos {α : Type} {p : Prop} {x y o : Option α} (h : pu_br p x y = o) (hp : p) : x = o := by rw [pu_br, if_pos hp] at h; exact h
theorem pu_br_neg {α : Type} {p : Prop} {x y o : Option α} (h : pu_br p x y = o) (hp : ¬ p) : y = o := by rw [pu_br, if_neg hp] at h; exact h
theorem pu_nm_some {α β : Type} {a : α} {f : α → Option β} {o : Option β} (h : pu_nm a f = o) : ∃ x, x = a ∧ f x = o := ⟨a, rfl, h⟩
def pu_bz (x : Int32) : Prop := narrow .boolean (.int x) = .int x
theorem pu_bz_01 {x : Int32} (h : pu_bz x) : x = 0 ∨ x = 1 := by
  have h1 : x &&& 1 = x := Value.int.inj h
  obtain ⟨j, hj, e⟩ := pk_andE x (m := 1) 1 (by decide)
  rw [h1] at e
  have hj2 : j = 0 ∨ j = 1 := by omega
  rcases hj2 with rfl | rfl
  · exact Or.inl e
  · exact Or.inr e
theorem pu_bz_fits {x : Int32} (h : pu_bz x) : fits .boolean (.int x) = true := by
  rcases pu_bz_01 h with rfl | rfl <;> decide
theorem pu_bz0 : pu_bz 0 := rfl
theorem pu_bz1 : pu_bz 1 := rfl
def pu_cp (ty : FieldType) (f : Nat → Int32) (sp dp n : Int32) (n0 n1 : Nat) : Prop := ¬ sp < 0 ∧ ¬ dp < 0 ∧ ¬ n < 0 ∧ sp.toNatClampNeg + n.toNatClampNeg ≤ n0 ∧ dp.toNatClampNeg + n.toNatClampNeg ≤ n1 ∧ ∀ i, i < n.toNatClampNeg → fits ty (.int (f (sp.toNatClampNeg + i))) = true
def pu_b0 {o : Type} (x : Option Unit) (f : Unit → Option o) : Option o := match x with | none => none | some _ => f ()
theorem pu_b0_some {o : Type} {x : Option Unit} {f : Unit → Option o} {r : o} (h : pu_b0 x f = some r) : x = some () ∧ f () = some r := by
  cases x with
  | none => cases h
  | some a => exact ⟨rfl, h⟩
def pu_b1 {o t0 : Type} (x : Option (t0)) (f : t0 → Option o) : Option o := match x with | none => none | some a0 => f a0
theorem pu_b1_some {o t0 : Type} {x : Option (t0)} {f : t0 → Option o} {r : o} (h : pu_b1 x f = some r) : ∃ a0, x = some a0 ∧ f a0 = some r := by
  cases x with
  | none => cases h
  | some a => exact ⟨a, rfl, h⟩
def pu_b2 {o t0 t1 : Type} (x : Option (t0 × t1)) (f : t0 → t1 → Option o) : Option o := match x with | none => none | some (a0, a1) => f a0 a1
theorem pu_b2_some {o t0 t1 : Type} {x : Option (t0 × t1)} {f : t0 → t1 → Option o} {r : o} (h : pu_b2 x f = some r) : ∃ a0 a1, x = some (a0, a1) ∧ f a0 a1 = some r := by
  cases x with
  | none => cases h
  | some a => exact ⟨a.1, a.2, rfl, h⟩
def pu_b3 {o t0 t1 t2 : Type} (x : Option (t0 × t1 × t2)) (f : t0 → t1 → t2 → Option o) : Option o := match x with | none => none | some (a0, a1, a2) => f a0 a1 a2
theorem pu_b3_some {o t0 t1 t2 : Type} {x : Option (t0 × t1 × t2)} {f : t0 → t1 → t2 → Option o} {r : o} (h : pu_b3 x f = some r) : ∃ a0 a1 a2, x = some (a0, a1, a2) ∧ f a0 a1 a2 = some r := by
  cases x with
  | none => cases h
  | some a => exact ⟨a.1, a.2.1, a.2.2, rfl, h⟩
def pu_b4 {o t0 t1 t2 t3 : Type} (x : Option (t0 × t1 × t2 × t3)) (f : t0 → t1 → t2 → t3 → Option o) : Option o := match x with | none => none | some (a0, a1, a2, a3) => f a0 a1 a2 a3
theorem pu_b4_some {o t0 t1 t2 t3 : Type} {x : Option (t0 × t1 × t2 × t3)} {f : t0 → t1 → t2 → t3 → Option o} {r : o} (h : pu_b4 x f = some r) : ∃ a0 a1 a2 a3, x = some (a0, a1, a2, a3) ∧ f a0 a1 a2 a3 = some r := by
  cases x with
  | none => cases h
  | some a => exact ⟨a.1, a.2.1, a.2.2.1, a.2.2.2, rfl, h⟩
def pu_b5 {o t0 t1 t2 t3 t4 : Type} (x : Option (t0 × t1 × t2 × t3 × t4)) (f : t0 → t1 → t2 → t3 → t4 → Option o) : Option o := match x with | none => none | some (a0, a1, a2, a3, a4) => f a0 a1 a2 a3 a4
theorem pu_b5_some {o t0 t1 t2 t3 t4 : Type} {x : Option (t0 × t1 × t2 × t3 × t4)} {f : t0 → t1 → t2 → t3 → t4 → Option o} {r : o} (h : pu_b5 x f = some r) : ∃ a0 a1 a2 a3 a4, x = some (a0, a1, a2, a3, a4) ∧ f a0 a1 a2 a3 a4 = some r := by
  cases x with
  | none => cases h
  | some a => exact ⟨a.1, a.2.1, a.2.2.1, a.2.2.2.1, a.2.2.2.2, rfl, h⟩
def pu_b6 {o t0 t1 t2 t3 t4 t5 : Type} (x : Option (t0 × t1 × t2 × t3 × t4 × t5)) (f : t0 → t1 → t2 → t3 → t4 → t5 → Option o) : Option o := match x with | none => none | some (a0, a1, a2, a3, a4, a5) => f a0 a1 a2 a3 a4 a5
theorem pu_b6_some {o t0 t1 t2 t3 t4 t5 : Type} {x : Option (t0 × t1 × t2 × t3 × t4 × t5)} {f : t0 → t1 → t2 → t3 → t4 → t5 → Option o} {r : o} (h : pu_b6 x f = some r) : ∃ a0 a1 a2 a3 a4 a5, x = some (a0, a1, a2, a3, a4, a5) ∧ f a0 a1 a2 a3 a4 a5 = some r := by
  cases x with
  | none => cases h
  | some a => exact ⟨a.1, a.2.1, a.2.2.1, a.2.2.2.1, a.2.2.2.2.1, a.2.2.2.2.2, rfl, h⟩
def pu_b7 {o t0 t1 t2 t3 t4 t5 t6 : Type} (x : Option (t0 × t1 × t2 × t3 × t4 × t5 × t6)) (f : t0 → t1 → t2 → t3 → t4 → t5 → t6 → Option o) : Option o := match x with | none => none | some (a0, a1, a2, a3, a4, a5, a6) => f a0 a1 a2 a3 a4 a5 a6
theorem pu_b7_some {o t0 t1 t2 t3 t4 t5 t6 : Type} {x : Option (t0 × t1 × t2 × t3 × t4 × t5 × t6)} {f : t0 → t1 → t2 → t3 → t4 → t5 → t6 → Option o} {r : o} (h : pu_b7 x f = some r) : ∃ a0 a1 a2 a3 a4 a5 a6, x = some (a0, a1, a2, a3, a4, a5, a6) ∧ f a0 a1 a2 a3 a4 a5 a6 = some r := by
  cases x with
  | none => cases h
  | some a => exact ⟨a.1, a.2.1, a.2.2.1, a.2.2.2.1, a.2.2.2.2.1, a.2.2.2.2.2.1, a.2.2.2.2.2.2, rfl, h⟩
def pu_b8 {o t0 t1 t2 t3 t4 t5 t6 t7 : Type} (x : Option (t0 × t1 × t2 × t3 × t4 × t5 × t6 × t7)) (f : t0 → t1 → t2 → t3 → t4 → t5 → t6 → t7 → Option o) : Option o := match x with | none => none | some (a0, a1, a2, a3, a4, a5, a6, a7) => f a0 a1 a2 a3 a4 a5 a6 a7
theorem pu_b8_some {o t0 t1 t2 t3 t4 t5 t6 t7 : Type} {x : Option (t0 × t1 × t2 × t3 × t4 × t5 × t6 × t7)} {f : t0 → t1 → t2 → t3 → t4 → t5 → t6 → t7 → Option o} {r : o} (h : pu_b8 x f = some r) : ∃ a0 a1 a2 a3 a4 a5 a6 a7, x = some (a0, a1, a2, a3, a4, a5, a6, a7) ∧ f a0 a1 a2 a3 a4 a5 a6 a7 = some r := by
  cases x with
  | none => cases h
  | some a => exact ⟨a.1, a.2.1, a.2.2.1, a.2.2.2.1, a.2.2.2.2.1, a.2.2.2.2.2.1, a.2.2.2.2.2.2.1, a.2.2.2.2.2.2.2, rfl, h⟩
def pu_b9 {o t0 t1 t2 t3 t4 t5 t6 t7 t8 : Type} (x : Option (t0 × t1 × t2 × t3 × t4 × t5 × t6 × t7 × t8)) (f : t0 → t1 → t2 → t3 → t4 → t5 → t6 → t7 → t8 → Option o) : Option o := match x with | none => none | some (a0, a1, a2, a3, a4, a5, a6, a7, a8) => f a0 a1 a2 a3 a4 a5 a6 a7 a8
theorem pu_b9_some {o t0 t1 t2 t3 t4 t5 t6 t7 t8 : Type} {x : Option (t0 × t1 × t2 × t3 × t4 × t5 × t6 × t7 × t8)} {f : t0 → t1 → t2 → t3 → t4 → t5 → t6 → t7 → t8 → Option o} {r : o} (h : pu_b9 x f = some r) : ∃ a0 a1 a2 a3 a4 a5 a6 a7 a8, x = some (a0, a1, a2, a3, a4, a5, a6, a7, a8) ∧ f a0 a1 a2 a3 a4 a5 a6 a7 a8 = some r := by
  cases x with
  | none => cases h
  | some a => exact ⟨a.1, a.2.1, a.2.2.1, a.2.2.2.1, a.2.2.2.2.1, a.2.2.2.2.2.1, a.2.2.2.2.2.2.1, a.2.2.2.2.2.2.2.1, a.2.2.2.2.2.2.2.2, rfl, h⟩
def pu_b10 {o t0 t1 t2 t3 t4 t5 t6 t7 t8 t9 : Type} (x : Option (t0 × t1 × t2 × t3 × t4 × t5 × t6 × t7 × t8 × t9)) (f : t0 → t1 → t2 → t3 → t4 → t5 → t6 → t7 → t8 → t9 → Option o) : Option o := match x with | none => none | some (a0, a1, a2, a3, a4, a5, a6, a7, a8, a9) => f a0 a1 a2 a3 a4 a5 a6 a7 a8 a9
theorem pu_b10_some {o t0 t1 t2 t3 t4 t5 t6 t7 t8 t9 : Type} {x : Option (t0 × t1 × t2 × t3 × t4 × t5 × t6 × t7 × t8 × t9)} {f : t0 → t1 → t2 → t3 → t4 → t5 → t6 → t7 → t8 → t9 → Option o} {r : o} (h : pu_b10 x f = some r) : ∃ a0 a1 a2 a3 a4 a5 a6 a7 a8 a9, x = some (a0, a1, a2, a3, a4, a5, a6, a7, a8, a9) ∧ f a0 a1 a2 a3 a4 a5 a6 a7 a8 a9 = some r := by
  cases x with
  | none => cases h
  | some a => exact ⟨a.1, a.2.1, a.2.2.1, a.2.2.2.1, a.2.2.2.2.1, a.2.2.2.2.2.1, a.2.2.2.2.2.2.1, a.2.2.2.2.2.2.2.1, a.2.2.2.2.2.2.2.2.1, a.2.2.2.2.2.2.2.2.2, rfl, h⟩
def pu_b11 {o t0 t1 t2 t3 t4 t5 t6 t7 t8 t9 t10 : Type} (x : Option (t0 × t1 × t2 × t3 × t4 × t5 × t6 × t7 × t8 × t9 × t10)) (f : t0 → t1 → t2 → t3 → t4 → t5 → t6 → t7 → t8 → t9 → t10 → Option o) : Option o := match x with | none => none | some (a0, a1, a2, a3, a4, a5, a6, a7, a8, a9, a10) => f a0 a1 a2 a3 a4 a5 a6 a7 a8 a9 a10
theorem pu_b11_some {o t0 t1 t2 t3 t4 t5 t6 t7 t8 t9 t10 : Type} {x : Option (t0 × t1 × t2 × t3 × t4 × t5 × t6 × t7 × t8 × t9 × t10)} {f : t0 → t1 → t2 → t3 → t4 → t5 → t6 → t7 → t8 → t9 → t10 → Option o} {r : o} (h : pu_b11 x f = some r) : ∃ a0 a1 a2 a3 a4 a5 a6 a7 a8 a9 a10, x = some (a0, a1, a2, a3, a4, a5, a6, a7, a8, a9, a10) ∧ f a0 a1 a2 a3 a4 a5 a6 a7 a8 a9 a10 = some r := by
  cases x with
  | none => cases h
  | some a => exact ⟨a.1, a.2.1, a.2.2.1, a.2.2.2.1, a.2.2.2.2.1, a.2.2.2.2.2.1, a.2.2.2.2.2.2.1, a.2.2.2.2.2.2.2.1, a.2.2.2.2.2.2.2.2.1, a.2.2.2.2.2.2.2.2.2.1, a.2.2.2.2.2.2.2.2.2.2, rfl, h⟩
def pu_b12 {o t0 t1 t2 t3 t4 t5 t6 t7 t8 t9 t10 t11 : Type} (x : Option (t0 × t1 × t2 × t3 × t4 × t5 × t6 × t7 × t8 × t9 × t10 × t11)) (f : t0 → t1 → t2 → t3 → t4 → t5 → t6 → t7 → t8 → t9 → t10 → t11 → Option o) : Option o := match x with | none => none | some (a0, a1, a2, a3, a4, a5, a6, a7, a8, a9, a10, a11) => f a0 a1 a2 a3 a4 a5 a6 a7 a8 a9 a10 a11
theorem pu_b12_some {o t0 t1 t2 t3 t4 t5 t6 t7 t8 t9 t10 t11 : Type} {x : Option (t0 × t1 × t2 × t3 × t4 × t5 × t6 × t7 × t8 × t9 × t10 × t11)} {f : t0 → t1 → t2 → t3 → t4 → t5 → t6 → t7 → t8 → t9 → t10 → t11 → Option o} {r : o} (h : pu_b12 x f = some r) : ∃ a0 a1 a2 a3 a4 a5 a6 a7 a8 a9 a10 a11, x = some (a0, a1, a2, a3, a4, a5, a6, a7, a8, a9, a10, a11) ∧ f a0 a1 a2 a3 a4 a5 a6 a7 a8 a9 a10 a11 = some r := by
  cases x with
  | none => cases h
  | some a => exact ⟨a.1, a.2.1, a.2.2.1, a.2.2.2.1, a.2.2.2.2.1, a.2.2.2.2.2.1, a.2.2.2.2.2.2.1, a.2.2.2.2.2.2.2.1, a.2.2.2.2.2.2.2.2.1, a.2.2.2.2.2.2.2.2.2.1, a.2.2.2.2.2.2.2.2.2.2.1, a.2.2.2.2.2.2.2.2.2.2.2, rfl, h⟩
def pu_b13 {o t0 t1 t2 t3 t4 t5 t6 t7 t8 t9 t10 t11 t12 : Type} (x : Option (t0 × t1 × t2 × t3 × t4 × t5 × t6 × t7 × t8 × t9 × t10 × t11 × t12)) (f : t0 → t1 → t2 → t3 → t4 → t5 → t6 → t7 → t8 → t9 → t10 → t11 → t12 → Option o) : Option o := match x with | none => none | some (a0, a1, a2, a3, a4, a5, a6, a7, a8, a9, a10, a11, a12) => f a0 a1 a2 a3 a4 a5 a6 a7 a8 a9 a10 a11 a12
theorem pu_b13_some {o t0 t1 t2 t3 t4 t5 t6 t7 t8 t9 t10 t11 t12 : Type} {x : Option (t0 × t1 × t2 × t3 × t4 × t5 × t6 × t7 × t8 × t9 × t10 × t11 × t12)} {f : t0 → t1 → t2 → t3 → t4 → t5 → t6 → t7 → t8 → t9 → t10 → t11 → t12 → Option o} {r : o} (h : pu_b13 x f = some r) : ∃ a0 a1 a2 a3 a4 a5 a6 a7 a8 a9 a10 a11 a12, x = some (a0, a1, a2, a3, a4, a5, a6, a7, a8, a9, a10, a11, a12) ∧ f a0 a1 a2 a3 a4 a5 a6 a7 a8 a9 a10 a11 a12 = some r := by
  cases x with
  | none => cases h
  | some a => exact ⟨a.1, a.2.1, a.2.2.1, a.2.2.2.1, a.2.2.2.2.1, a.2.2.2.2.2.1, a.2.2.2.2.2.2.1, a.2.2.2.2.2.2.2.1, a.2.2.2.2.2.2.2.2.1, a.2.2.2.2.2.2.2.2.2.1, a.2.2.2.2.2.2.2.2.2.2.1, a.2.2.2.2.2.2.2.2.2.2.2.1, a.2.2.2.2.2.2.2.2.2.2.2.2, rfl, h⟩
def pu_b14 {o t0 t1 t2 t3 t4 t5 t6 t7 t8 t9 t10 t11 t12 t13 : Type} (x : Option (t0 × t1 × t2 × t3 × t4 × t5 × t6 × t7 × t8 × t9 × t10 × t11 × t12 × t13)) (f : t0 → t1 → t2 → t3 → t4 → t5 → t6 → t7 → t8 → t9 → t10 → t11 → t12 → t13 → Option o) : Option o := match x with | none => none | some (a0, a1, a2, a3, a4, a5, a6, a7, a8, a9, a10, a11, a12, a13) => f a0 a1 a2 a3 a4 a5 a6 a7 a8 a9 a10 a11 a12 a13
theorem pu_b14_some {o t0 t1 t2 t3 t4 t5 t6 t7 t8 t9 t10 t11 t12 t13 : Type} {x : Option (t0 × t1 × t2 × t3 × t4 × t5 × t6 × t7 × t8 × t9 × t10 × t11 × t12 × t13)} {f : t0 → t1 → t2 → t3 → t4 → t5 → t6 → t7 → t8 → t9 → t10 → t11 → t12 → t13 → Option o} {r : o} (h : pu_b14 x f = some r) : ∃ a0 a1 a2 a3 a4 a5 a6 a7 a8 a9 a10 a11 a12 a13, x = some (a0, a1, a2, a3, a4, a5, a6, a7, a8, a9, a10, a11, a12, a13) ∧ f a0 a1 a2 a3 a4 a5 a6 a7 a8 a9 a10 a11 a12 a13 = some r := by
  cases x with
  | none => cases h
  | some a => exact ⟨a.1, a.2.1, a.2.2.1, a.2.2.2.1, a.2.2.2.2.1, a.2.2.2.2.2.1, a.2.2.2.2.2.2.1, a.2.2.2.2.2.2.2.1, a.2.2.2.2.2.2.2.2.1, a.2.2.2.2.2.2.2.2.2.1, a.2.2.2.2.2.2.2.2.2.2.1, a.2.2.2.2.2.2.2.2.2.2.2.1, a.2.2.2.2.2.2.2.2.2.2.2.2.1, a.2.2.2.2.2.2.2.2.2.2.2.2.2, rfl, h⟩
def pu_b15 {o t0 t1 t2 t3 t4 t5 t6 t7 t8 t9 t10 t11 t12 t13 t14 : Type} (x : Option (t0 × t1 × t2 × t3 × t4 × t5 × t6 × t7 × t8 × t9 × t10 × t11 × t12 × t13 × t14)) (f : t0 → t1 → t2 → t3 → t4 → t5 → t6 → t7 → t8 → t9 → t10 → t11 → t12 → t13 → t14 → Option o) : Option o := match x with | none => none | some (a0, a1, a2, a3, a4, a5, a6, a7, a8, a9, a10, a11, a12, a13, a14) => f a0 a1 a2 a3 a4 a5 a6 a7 a8 a9 a10 a11 a12 a13 a14
theorem pu_b15_some {o t0 t1 t2 t3 t4 t5 t6 t7 t8 t9 t10 t11 t12 t13 t14 : Type} {x : Option (t0 × t1 × t2 × t3 × t4 × t5 × t6 × t7 × t8 × t9 × t10 × t11 × t12 × t13 × t14)} {f : t0 → t1 → t2 → t3 → t4 → t5 → t6 → t7 → t8 → t9 → t10 → t11 → t12 → t13 → t14 → Option o} {r : o} (h : pu_b15 x f = some r) : ∃ a0 a1 a2 a3 a4 a5 a6 a7 a8 a9 a10 a11 a12 a13 a14, x = some (a0, a1, a2, a3, a4, a5, a6, a7, a8, a9, a10, a11, a12, a13, a14) ∧ f a0 a1 a2 a3 a4 a5 a6 a7 a8 a9 a10 a11 a12 a13 a14 = some r := by
  cases x with
  | none => cases h
  | some a => exact ⟨a.1, a.2.1, a.2.2.1, a.2.2.2.1, a.2.2.2.2.1, a.2.2.2.2.2.1, a.2.2.2.2.2.2.1, a.2.2.2.2.2.2.2.1, a.2.2.2.2.2.2.2.2.1, a.2.2.2.2.2.2.2.2.2.1, a.2.2.2.2.2.2.2.2.2.2.1, a.2.2.2.2.2.2.2.2.2.2.2.1, a.2.2.2.2.2.2.2.2.2.2.2.2.1, a.2.2.2.2.2.2.2.2.2.2.2.2.2.1, a.2.2.2.2.2.2.2.2.2.2.2.2.2.2, rfl, h⟩
def pu_b16 {o t0 t1 t2 t3 t4 t5 t6 t7 t8 t9 t10 t11 t12 t13 t14 t15 : Type} (x : Option (t0 × t1 × t2 × t3 × t4 × t5 × t6 × t7 × t8 × t9 × t10 × t11 × t12 × t13 × t14 × t15)) (f : t0 → t1 → t2 → t3 → t4 → t5 → t6 → t7 → t8 → t9 → t10 → t11 → t12 → t13 → t14 → t15 → Option o) : Option o := match x with | none => none | some (a0, a1, a2, a3, a4, a5, a6, a7, a8, a9, a10, a11, a12, a13, a14, a15) => f a0 a1 a2 a3 a4 a5 a6 a7 a8 a9 a10 a11 a12 a13 a14 a15
theorem pu_b16_some {o t0 t1 t2 t3 t4 t5 t6 t7 t8 t9 t10 t11 t12 t13 t14 t15 : Type} {x : Option (t0 × t1 × t2 × t3 × t4 × t5 × t6 × t7 × t8 × t9 × t10 × t11 × t12 × t13 × t14 × t15)} {f : t0 → t1 → t2 → t3 → t4 → t5 → t6 → t7 → t8 → t9 → t10 → t11 → t12 → t13 → t14 → t15 → Option o} {r : o} (h : pu_b16 x f = some r) : ∃ a0 a1 a2 a3 a4 a5 a6 a7 a8 a9 a10 a11 a12 a13 a14 a15, x = some (a0, a1, a2, a3, a4, a5, a6, a7, a8, a9, a10, a11, a12, a13, a14, a15) ∧ f a0 a1 a2 a3 a4 a5 a6 a7 a8 a9 a10 a11 a12 a13 a14 a15 = some r := by
  cases x with
  | none => cases h
  | some a => exact ⟨a.1, a.2.1, a.2.2.1, a.2.2.2.1, a.2.2.2.2.1, a.2.2.2.2.2.1, a.2.2.2.2.2.2.1, a.2.2.2.2.2.2.2.1, a.2.2.2.2.2.2.2.2.1, a.2.2.2.2.2.2.2.2.2.1, a.2.2.2.2.2.2.2.2.2.2.1, a.2.2.2.2.2.2.2.2.2.2.2.1, a.2.2.2.2.2.2.2.2.2.2.2.2.1, a.2.2.2.2.2.2.2.2.2.2.2.2.2.1, a.2.2.2.2.2.2.2.2.2.2.2.2.2.2.1, a.2.2.2.2.2.2.2.2.2.2.2.2.2.2.2, rfl, h⟩
def pu_b17 {o t0 t1 t2 t3 t4 t5 t6 t7 t8 t9 t10 t11 t12 t13 t14 t15 t16 : Type} (x : Option (t0 × t1 × t2 × t3 × t4 × t5 × t6 × t7 × t8 × t9 × t10 × t11 × t12 × t13 × t14 × t15 × t16)) (f : t0 → t1 → t2 → t3 → t4 → t5 → t6 → t7 → t8 → t9 → t10 → t11 → t12 → t13 → t14 → t15 → t16 → Option o) : Option o := match x with | none => none | some (a0, a1, a2, a3, a4, a5, a6, a7, a8, a9, a10, a11, a12, a13, a14, a15, a16) => f a0 a1 a2 a3 a4 a5 a6 a7 a8 a9 a10 a11 a12 a13 a14 a15 a16
theorem pu_b17_some {o t0 t1 t2 t3 t4 t5 t6 t7 t8 t9 t10 t11 t12 t13 t14 t15 t16 : Type} {x : Option (t0 × t1 × t2 × t3 × t4 × t5 × t6 × t7 × t8 × t9 × t10 × t11 × t12 × t13 × t14 × t15 × t16)} {f : t0 → t1 → t2 → t3 → t4 → t5 → t6 → t7 → t8 → t9 → t10 → t11 → t12 → t13 → t14 → t15 → t16 → Option o} {r : o} (h : pu_b17 x f = some r) : ∃ a0 a1 a2 a3 a4 a5 a6 a7 a8 a9 a10 a11 a12 a13 a14 a15 a16, x = some (a0, a1, a2, a3, a4, a5, a6, a7, a8, a9, a10, a11, a12, a13, a14, a15, a16) ∧ f a0 a1 a2 a3 a4 a5 a6 a7 a8 a9 a10 a11 a12 a13 a14 a15 a16 = some r := by
  cases x with
  | none => cases h
  | some a => exact ⟨a.1, a.2.1, a.2.2.1, a.2.2.2.1, a.2.2.2.2.1, a.2.2.2.2.2.1, a.2.2.2.2.2.2.1, a.2.2.2.2.2.2.2.1, a.2.2.2.2.2.2.2.2.1, a.2.2.2.2.2.2.2.2.2.1, a.2.2.2.2.2.2.2.2.2.2.1, a.2.2.2.2.2.2.2.2.2.2.2.1, a.2.2.2.2.2.2.2.2.2.2.2.2.1, a.2.2.2.2.2.2.2.2.2.2.2.2.2.1, a.2.2.2.2.2.2.2.2.2.2.2.2.2.2.1, a.2.2.2.2.2.2.2.2.2.2.2.2.2.2.2.1, a.2.2.2.2.2.2.2.2.2.2.2.2.2.2.2.2, rfl, h⟩
def pu_b18 {o t0 t1 t2 t3 t4 t5 t6 t7 t8 t9 t10 t11 t12 t13 t14 t15 t16 t17 : Type} (x : Option (t0 × t1 × t2 × t3 × t4 × t5 × t6 × t7 × t8 × t9 × t10 × t11 × t12 × t13 × t14 × t15 × t16 × t17)) (f : t0 → t1 → t2 → t3 → t4 → t5 → t6 → t7 → t8 → t9 → t10 → t11 → t12 → t13 → t14 → t15 → t16 → t17 → Option o) : Option o := match x with | none => none | some (a0, a1, a2, a3, a4, a5, a6, a7, a8, a9, a10, a11, a12, a13, a14, a15, a16, a17) => f a0 a1 a2 a3 a4 a5 a6 a7 a8 a9 a10 a11 a12 a13 a14 a15 a16 a17
theorem pu_b18_some {o t0 t1 t2 t3 t4 t5 t6 t7 t8 t9 t10 t11 t12 t13 t14 t15 t16 t17 : Type} {x : Option (t0 × t1 × t2 × t3 × t4 × t5 × t6 × t7 × t8 × t9 × t10 × t11 × t12 × t13 × t14 × t15 × t16 × t17)} {f : t0 → t1 → t2 → t3 → t4 → t5 → t6 → t7 → t8 → t9 → t10 → t11 → t12 → t13 → t14 → t15 → t16 → t17 → Option o} {r : o} (h : pu_b18 x f = some r) : ∃ a0 a1 a2 a3 a4 a5 a6 a7 a8 a9 a10 a11 a12 a13 a14 a15 a16 a17, x = some (a0, a1, a2, a3, a4, a5, a6, a7, a8, a9, a10, a11, a12, a13, a14, a15, a16, a17) ∧ f a0 a1 a2 a3 a4 a5 a6 a7 a8 a9 a10 a11 a12 a13 a14 a15 a16 a17 = some r := by
  cases x with
  | none => cases h
  | some a => exact ⟨a.1, a.2.1, a.2.2.1, a.2.2.2.1, a.2.2.2.2.1, a.2.2.2.2.2.1, a.2.2.2.2.2.2.1, a.2.2.2.2.2.2.2.1, a.2.2.2.2.2.2.2.2.1, a.2.2.2.2.2.2.2.2.2.1, a.2.2.2.2.2.2.2.2.2.2.1, a.2.2.2.2.2.2.2.2.2.2.2.1, a.2.2.2.2.2.2.2.2.2.2.2.2.1, a.2.2.2.2.2.2.2.2.2.2.2.2.2.1, a.2.2.2.2.2.2.2.2.2.2.2.2.2.2.1, a.2.2.2.2.2.2.2.2.2.2.2.2.2.2.2.1, a.2.2.2.2.2.2.2.2.2.2.2.2.2.2.2.2.1, a.2.2.2.2.2.2.2.2.2.2.2.2.2.2.2.2.2, rfl, h⟩
def pu_b19 {o t0 t1 t2 t3 t4 t5 t6 t7 t8 t9 t10 t11 t12 t13 t14 t15 t16 t17 t18 : Type} (x : Option (t0 × t1 × t2 × t3 × t4 × t5 × t6 × t7 × t8 × t9 × t10 × t11 × t12 × t13 × t14 × t15 × t16 × t17 × t18)) (f : t0 → t1 → t2 → t3 → t4 → t5 → t6 → t7 → t8 → t9 → t10 → t11 → t12 → t13 → t14 → t15 → t16 → t17 → t18 → Option o) : Option o := match x with | none => none | some (a0, a1, a2, a3, a4, a5, a6, a7, a8, a9, a10, a11, a12, a13, a14, a15, a16, a17, a18) => f a0 a1 a2 a3 a4 a5 a6 a7 a8 a9 a10 a11 a12 a13 a14 a15 a16 a17 a18
theorem pu_b19_some {o t0 t1 t2 t3 t4 t5 t6 t7 t8 t9 t10 t11 t12 t13 t14 t15 t16 t17 t18 : Type} {x : Option (t0 × t1 × t2 × t3 × t4 × t5 × t6 × t7 × t8 × t9 × t10 × t11 × t12 × t13 × t14 × t15 × t16 × t17 × t18)} {f : t0 → t1 → t2 → t3 → t4 → t5 → t6 → t7 → t8 → t9 → t10 → t11 → t12 → t13 → t14 → t15 → t16 → t17 → t18 → Option o} {r : o} (h : pu_b19 x f = some r) : ∃ a0 a1 a2 a3 a4 a5 a6 a7 a8 a9 a10 a11 a12 a13 a14 a15 a16 a17 a18, x = some (a0, a1, a2, a3, a4, a5, a6, a7, a8, a9, a10, a11, a12, a13, a14, a15, a16, a17, a18) ∧ f a0 a1 a2 a3 a4 a5 a6 a7 a8 a9 a10 a11 a12 a13 a14 a15 a16 a17 a18 = some r := by
  cases x with
  | none => cases h
  | some a => exact ⟨a.1, a.2.1, a.2.2.1, a.2.2.2.1, a.2.2.2.2.1, a.2.2.2.2.2.1, a.2.2.2.2.2.2.1, a.2.2.2.2.2.2.2.1, a.2.2.2.2.2.2.2.2.1, a.2.2.2.2.2.2.2.2.2.1, a.2.2.2.2.2.2.2.2.2.2.1, a.2.2.2.2.2.2.2.2.2.2.2.1, a.2.2.2.2.2.2.2.2.2.2.2.2.1, a.2.2.2.2.2.2.2.2.2.2.2.2.2.1, a.2.2.2.2.2.2.2.2.2.2.2.2.2.2.1, a.2.2.2.2.2.2.2.2.2.2.2.2.2.2.2.1, a.2.2.2.2.2.2.2.2.2.2.2.2.2.2.2.2.1, a.2.2.2.2.2.2.2.2.2.2.2.2.2.2.2.2.2.1, a.2.2.2.2.2.2.2.2.2.2.2.2.2.2.2.2.2.2, rfl, h⟩
def pu_b20 {o t0 t1 t2 t3 t4 t5 t6 t7 t8 t9 t10 t11 t12 t13 t14 t15 t16 t17 t18 t19 : Type} (x : Option (t0 × t1 × t2 × t3 × t4 × t5 × t6 × t7 × t8 × t9 × t10 × t11 × t12 × t13 × t14 × t15 × t16 × t17 × t18 × t19)) (f : t0 → t1 → t2 → t3 → t4 → t5 → t6 → t7 → t8 → t9 → t10 → t11 → t12 → t13 → t14 → t15 → t16 → t17 → t18 → t19 → Option o) : Option o := match x with | none => none | some (a0, a1, a2, a3, a4, a5, a6, a7, a8, a9, a10, a11, a12, a13, a14, a15, a16, a17, a18, a19) => f a0 a1 a2 a3 a4 a5 a6 a7 a8 a9 a10 a11 a12 a13 a14 a15 a16 a17 a18 a19
theorem pu_b20_some {o t0 t1 t2 t3 t4 t5 t6 t7 t8 t9 t10 t11 t12 t13 t14 t15 t16 t17 t18 t19 : Type} {x : Option (t0 × t1 × t2 × t3 × t4 × t5 × t6 × t7 × t8 × t9 × t10 × t11 × t12 × t13 × t14 × t15 × t16 × t17 × t18 × t19)} {f : t0 → t1 → t2 → t3 → t4 → t5 → t6 → t7 → t8 → t9 → t10 → t11 → t12 → t13 → t14 → t15 → t16 → t17 → t18 → t19 → Option o} {r : o} (h : pu_b20 x f = some r) : ∃ a0 a1 a2 a3 a4 a5 a6 a7 a8 a9 a10 a11 a12 a13 a14 a15 a16 a17 a18 a19, x = some (a0, a1, a2, a3, a4, a5, a6, a7, a8, a9, a10, a11, a12, a13, a14, a15, a16, a17, a18, a19) ∧ f a0 a1 a2 a3 a4 a5 a6 a7 a8 a9 a10 a11 a12 a13 a14 a15 a16 a17 a18 a19 = some r := by
  cases x with
  | none => cases h
  | some a => exact ⟨a.1, a.2.1, a.2.2.1, a.2.2.2.1, a.2.2.2.2.1, a.2.2.2.2.2.1, a.2.2.2.2.2.2.1, a.2.2.2.2.2.2.2.1, a.2.2.2.2.2.2.2.2.1, a.2.2.2.2.2.2.2.2.2.1, a.2.2.2.2.2.2.2.2.2.2.1, a.2.2.2.2.2.2.2.2.2.2.2.1, a.2.2.2.2.2.2.2.2.2.2.2.2.1, a.2.2.2.2.2.2.2.2.2.2.2.2.2.1, a.2.2.2.2.2.2.2.2.2.2.2.2.2.2.1, a.2.2.2.2.2.2.2.2.2.2.2.2.2.2.2.1, a.2.2.2.2.2.2.2.2.2.2.2.2.2.2.2.2.1, a.2.2.2.2.2.2.2.2.2.2.2.2.2.2.2.2.2.1, a.2.2.2.2.2.2.2.2.2.2.2.2.2.2.2.2.2.2.1, a.2.2.2.2.2.2.2.2.2.2.2.2.2.2.2.2.2.2.2, rfl, h⟩
def pu_b21 {o t0 t1 t2 t3 t4 t5 t6 t7 t8 t9 t10 t11 t12 t13 t14 t15 t16 t17 t18 t19 t20 : Type} (x : Option (t0 × t1 × t2 × t3 × t4 × t5 × t6 × t7 × t8 × t9 × t10 × t11 × t12 × t13 × t14 × t15 × t16 × t17 × t18 × t19 × t20)) (f : t0 → t1 → t2 → t3 → t4 → t5 → t6 → t7 → t8 → t9 → t10 → t11 → t12 → t13 → t14 → t15 → t16 → t17 → t18 → t19 → t20 → Option o) : Option o := match x with | none => none | some (a0, a1, a2, a3, a4, a5, a6, a7, a8, a9, a10, a11, a12, a13, a14, a15, a16, a17, a18, a19, a20) => f a0 a1 a2 a3 a4 a5 a6 a7 a8 a9 a10 a11 a12 a13 a14 a15 a16 a17 a18 a19 a20
theorem pu_b21_some {o t0 t1 t2 t3 t4 t5 t6 t7 t8 t9 t10 t11 t12 t13 t14 t15 t16 t17 t18 t19 t20 : Type} {x : Option (t0 × t1 × t2 × t3 × t4 × t5 × t6 × t7 × t8 × t9 × t10 × t11 × t12 × t13 × t14 × t15 × t16 × t17 × t18 × t19 × t20)} {f : t0 → t1 → t2 → t3 → t4 → t5 → t6 → t7 → t8 → t9 → t10 → t11 → t12 → t13 → t14 → t15 → t16 → t17 → t18 → t19 → t20 → Option o} {r : o} (h : pu_b21 x f = some r) : ∃ a0 a1 a2 a3 a4 a5 a6 a7 a8 a9 a10 a11 a12 a13 a14 a15 a16 a17 a18 a19 a20, x = some (a0, a1, a2, a3, a4, a5, a6, a7, a8, a9, a10, a11, a12, a13, a14, a15, a16, a17, a18, a19, a20) ∧ f a0 a1 a2 a3 a4 a5 a6 a7 a8 a9 a10 a11 a12 a13 a14 a15 a16 a17 a18 a19 a20 = some r := by
  cases x with
  | none => cases h
  | some a => exact ⟨a.1, a.2.1, a.2.2.1, a.2.2.2.1, a.2.2.2.2.1, a.2.2.2.2.2.1, a.2.2.2.2.2.2.1, a.2.2.2.2.2.2.2.1, a.2.2.2.2.2.2.2.2.1, a.2.2.2.2.2.2.2.2.2.1, a.2.2.2.2.2.2.2.2.2.2.1, a.2.2.2.2.2.2.2.2.2.2.2.1, a.2.2.2.2.2.2.2.2.2.2.2.2.1, a.2.2.2.2.2.2.2.2.2.2.2.2.2.1, a.2.2.2.2.2.2.2.2.2.2.2.2.2.2.1, a.2.2.2.2.2.2.2.2.2.2.2.2.2.2.2.1, a.2.2.2.2.2.2.2.2.2.2.2.2.2.2.2.2.1, a.2.2.2.2.2.2.2.2.2.2.2.2.2.2.2.2.2.1, a.2.2.2.2.2.2.2.2.2.2.2.2.2.2.2.2.2.2.1, a.2.2.2.2.2.2.2.2.2.2.2.2.2.2.2.2.2.2.2.1, a.2.2.2.2.2.2.2.2.2.2.2.2.2.2.2.2.2.2.2.2, rfl, h⟩
def pu_b22 {o t0 t1 t2 t3 t4 t5 t6 t7 t8 t9 t10 t11 t12 t13 t14 t15 t16 t17 t18 t19 t20 t21 : Type} (x : Option (t0 × t1 × t2 × t3 × t4 × t5 × t6 × t7 × t8 × t9 × t10 × t11 × t12 × t13 × t14 × t15 × t16 × t17 × t18 × t19 × t20 × t21)) (f : t0 → t1 → t2 → t3 → t4 → t5 → t6 → t7 → t8 → t9 → t10 → t11 → t12 → t13 → t14 → t15 → t16 → t17 → t18 → t19 → t20 → t21 → Option o) : Option o := match x with | none => none | some (a0, a1, a2, a3, a4, a5, a6, a7, a8, a9, a10, a11, a12, a13, a14, a15, a16, a17, a18, a19, a20, a21) => f a0 a1 a2 a3 a4 a5 a6 a7 a8 a9 a10 a11 a12 a13 a14 a15 a16 a17 a18 a19 a20 a21
theorem pu_b22_some {o t0 t1 t2 t3 t4 t5 t6 t7 t8 t9 t10 t11 t12 t13 t14 t15 t16 t17 t18 t19 t20 t21 : Type} {x : Option (t0 × t1 × t2 × t3 × t4 × t5 × t6 × t7 × t8 × t9 × t10 × t11 × t12 × t13 × t14 × t15 × t16 × t17 × t18 × t19 × t20 × t21)} {f : t0 → t1 → t2 → t3 → t4 → t5 → t6 → t7 → t8 → t9 → t10 → t11 → t12 → t13 → t14 → t15 → t16 → t17 → t18 → t19 → t20 → t21 → Option o} {r : o} (h : pu_b22 x f = some r) : ∃ a0 a1 a2 a3 a4 a5 a6 a7 a8 a9 a10 a11 a12 a13 a14 a15 a16 a17 a18 a19 a20 a21, x = some (a0, a1, a2, a3, a4, a5, a6, a7, a8, a9, a10, a11, a12, a13, a14, a15, a16, a17, a18, a19, a20, a21) ∧ f a0 a1 a2 a3 a4 a5 a6 a7 a8 a9 a10 a11 a12 a13 a14 a15 a16 a17 a18 a19 a20 a21 = some r := by
  cases x with
  | none => cases h
  | some a => exact ⟨a.1, a.2.1, a.2.2.1, a.2.2.2.1, a.2.2.2.2.1, a.2.2.2.2.2.1, a.2.2.2.2.2.2.1, a.2.2.2.2.2.2.2.1, a.2.2.2.2.2.2.2.2.1, a.2.2.2.2.2.2.2.2.2.1, a.2.2.2.2.2.2.2.2.2.2.1, a.2.2.2.2.2.2.2.2.2.2.2.1, a.2.2.2.2.2.2.2.2.2.2.2.2.1, a.2.2.2.2.2.2.2.2.2.2.2.2.2.1, a.2.2.2.2.2.2.2.2.2.2.2.2.2.2.1, a.2.2.2.2.2.2.2.2.2.2.2.2.2.2.2.1, a.2.2.2.2.2.2.2.2.2.2.2.2.2.2.2.2.1, a.2.2.2.2.2.2.2.2.2.2.2.2.2.2.2.2.2.1, a.2.2.2.2.2.2.2.2.2.2.2.2.2.2.2.2.2.2.1, a.2.2.2.2.2.2.2.2.2.2.2.2.2.2.2.2.2.2.2.1, a.2.2.2.2.2.2.2.2.2.2.2.2.2.2.2.2.2.2.2.2.1, a.2.2.2.2.2.2.2.2.2.2.2.2.2.2.2.2.2.2.2.2.2, rfl, h⟩
def pu_b23 {o t0 t1 t2 t3 t4 t5 t6 t7 t8 t9 t10 t11 t12 t13 t14 t15 t16 t17 t18 t19 t20 t21 t22 : Type} (x : Option (t0 × t1 × t2 × t3 × t4 × t5 × t6 × t7 × t8 × t9 × t10 × t11 × t12 × t13 × t14 × t15 × t16 × t17 × t18 × t19 × t20 × t21 × t22)) (f : t0 → t1 → t2 → t3 → t4 → t5 → t6 → t7 → t8 → t9 → t10 → t11 → t12 → t13 → t14 → t15 → t16 → t17 → t18 → t19 → t20 → t21 → t22 → Option o) : Option o := match x with | none => none | some (a0, a1, a2, a3, a4, a5, a6, a7, a8, a9, a10, a11, a12, a13, a14, a15, a16, a17, a18, a19, a20, a21, a22) => f a0 a1 a2 a3 a4 a5 a6 a7 a8 a9 a10 a11 a12 a13 a14 a15 a16 a17 a18 a19 a20 a21 a22
theorem pu_b23_some {o t0 t1 t2 t3 t4 t5 t6 t7 t8 t9 t10 t11 t12 t13 t14 t15 t16 t17 t18 t19 t20 t21 t22 : Type} {x : Option (t0 × t1 × t2 × t3 × t4 × t5 × t6 × t7 × t8 × t9 × t10 × t11 × t12 × t13 × t14 × t15 × t16 × t17 × t18 × t19 × t20 × t21 × t22)} {f : t0 → t1 → t2 → t3 → t4 → t5 → t6 → t7 → t8 → t9 → t10 → t11 → t12 → t13 → t14 → t15 → t16 → t17 → t18 → t19 → t20 → t21 → t22 → Option o} {r : o} (h : pu_b23 x f = some r) : ∃ a0 a1 a2 a3 a4 a5 a6 a7 a8 a9 a10 a11 a12 a13 a14 a15 a16 a17 a18 a19 a20 a21 a22, x = some (a0, a1, a2, a3, a4, a5, a6, a7, a8, a9, a10, a11, a12, a13, a14, a15, a16, a17, a18, a19, a20, a21, a22) ∧ f a0 a1 a2 a3 a4 a5 a6 a7 a8 a9 a10 a11 a12 a13 a14 a15 a16 a17 a18 a19 a20 a21 a22 = some r := by
  cases x with
  | none => cases h
  | some a => exact ⟨a.1, a.2.1, a.2.2.1, a.2.2.2.1, a.2.2.2.2.1, a.2.2.2.2.2.1, a.2.2.2.2.2.2.1, a.2.2.2.2.2.2.2.1, a.2.2.2.2.2.2.2.2.1, a.2.2.2.2.2.2.2.2.2.1, a.2.2.2.2.2.2.2.2.2.2.1, a.2.2.2.2.2.2.2.2.2.2.2.1, a.2.2.2.2.2.2.2.2.2.2.2.2.1, a.2.2.2.2.2.2.2.2.2.2.2.2.2.1, a.2.2.2.2.2.2.2.2.2.2.2.2.2.2.1, a.2.2.2.2.2.2.2.2.2.2.2.2.2.2.2.1, a.2.2.2.2.2.2.2.2.2.2.2.2.2.2.2.2.1, a.2.2.2.2.2.2.2.2.2.2.2.2.2.2.2.2.2.1, a.2.2.2.2.2.2.2.2.2.2.2.2.2.2.2.2.2.2.1, a.2.2.2.2.2.2.2.2.2.2.2.2.2.2.2.2.2.2.2.1, a.2.2.2.2.2.2.2.2.2.2.2.2.2.2.2.2.2.2.2.2.1, a.2.2.2.2.2.2.2.2.2.2.2.2.2.2.2.2.2.2.2.2.2.1, a.2.2.2.2.2.2.2.2.2.2.2.2.2.2.2.2.2.2.2.2.2.2, rfl, h⟩
def pu_b24 {o t0 t1 t2 t3 t4 t5 t6 t7 t8 t9 t10 t11 t12 t13 t14 t15 t16 t17 t18 t19 t20 t21 t22 t23 : Type} (x : Option (t0 × t1 × t2 × t3 × t4 × t5 × t6 × t7 × t8 × t9 × t10 × t11 × t12 × t13 × t14 × t15 × t16 × t17 × t18 × t19 × t20 × t21 × t22 × t23)) (f : t0 → t1 → t2 → t3 → t4 → t5 → t6 → t7 → t8 → t9 → t10 → t11 → t12 → t13 → t14 → t15 → t16 → t17 → t18 → t19 → t20 → t21 → t22 → t23 → Option o) : Option o := match x with | none => none | some (a0, a1, a2, a3, a4, a5, a6, a7, a8, a9, a10, a11, a12, a13, a14, a15, a16, a17, a18, a19, a20, a21, a22, a23) => f a0 a1 a2 a3 a4 a5 a6 a7 a8 a9 a10 a11 a12 a13 a14 a15 a16 a17 a18 a19 a20 a21 a22 a23
theorem pu_b24_some {o t0 t1 t2 t3 t4 t5 t6 t7 t8 t9 t10 t11 t12 t13 t14 t15 t16 t17 t18 t19 t20 t21 t22 t23 : Type} {x : Option (t0 × t1 × t2 × t3 × t4 × t5 × t6 × t7 × t8 × t9 × t10 × t11 × t12 × t13 × t14 × t15 × t16 × t17 × t18 × t19 × t20 × t21 × t22 × t23)} {f : t0 → t1 → t2 → t3 → t4 → t5 → t6 → t7 → t8 → t9 → t10 → t11 → t12 → t13 → t14 → t15 → t16 → t17 → t18 → t19 → t20 → t21 → t22 → t23 → Option o} {r : o} (h : pu_b24 x f = some r) : ∃ a0 a1 a2 a3 a4 a5 a6 a7 a8 a9 a10 a11 a12 a13 a14 a15 a16 a17 a18 a19 a20 a21 a22 a23, x = some (a0, a1, a2, a3, a4, a5, a6, a7, a8, a9, a10, a11, a12, a13, a14, a15, a16, a17, a18, a19, a20, a21, a22, a23) ∧ f a0 a1 a2 a3 a4 a5 a6 a7 a8 a9 a10 a11 a12 a13 a14 a15 a16 a17 a18 a19 a20 a21 a22 a23 = some r := by
  cases x with
  | none => cases h
  | some a => exact ⟨a.1, a.2.1, a.2.2.1, a.2.2.2.1, a.2.2.2.2.1, a.2.2.2.2.2.1, a.2.2.2.2.2.2.1, a.2.2.2.2.2.2.2.1, a.2.2.2.2.2.2.2.2.1, a.2.2.2.2.2.2.2.2.2.1, a.2.2.2.2.2.2.2.2.2.2.1, a.2.2.2.2.2.2.2.2.2.2.2.1, a.2.2.2.2.2.2.2.2.2.2.2.2.1, a.2.2.2.2.2.2.2.2.2.2.2.2.2.1, a.2.2.2.2.2.2.2.2.2.2.2.2.2.2.1, a.2.2.2.2.2.2.2.2.2.2.2.2.2.2.2.1, a.2.2.2.2.2.2.2.2.2.2.2.2.2.2.2.2.1, a.2.2.2.2.2.2.2.2.2.2.2.2.2.2.2.2.2.1, a.2.2.2.2.2.2.2.2.2.2.2.2.2.2.2.2.2.2.1, a.2.2.2.2.2.2.2.2.2.2.2.2.2.2.2.2.2.2.2.1, a.2.2.2.2.2.2.2.2.2.2.2.2.2.2.2.2.2.2.2.2.1, a.2.2.2.2.2.2.2.2.2.2.2.2.2.2.2.2.2.2.2.2.2.1, a.2.2.2.2.2.2.2.2.2.2.2.2.2.2.2.2.2.2.2.2.2.2.1, a.2.2.2.2.2.2.2.2.2.2.2.2.2.2.2.2.2.2.2.2.2.2.2, rfl, h⟩
def pu_b25 {o t0 t1 t2 t3 t4 t5 t6 t7 t8 t9 t10 t11 t12 t13 t14 t15 t16 t17 t18 t19 t20 t21 t22 t23 t24 : Type} (x : Option (t0 × t1 × t2 × t3 × t4 × t5 × t6 × t7 × t8 × t9 × t10 × t11 × t12 × t13 × t14 × t15 × t16 × t17 × t18 × t19 × t20 × t21 × t22 × t23 × t24)) (f : t0 → t1 → t2 → t3 → t4 → t5 → t6 → t7 → t8 → t9 → t10 → t11 → t12 → t13 → t14 → t15 → t16 → t17 → t18 → t19 → t20 → t21 → t22 → t23 → t24 → Option o) : Option o := match x with | none => none | some (a0, a1, a2, a3, a4, a5, a6, a7, a8, a9, a10, a11, a12, a13, a14, a15, a16, a17, a18, a19, a20, a21, a22, a23, a24) => f a0 a1 a2 a3 a4 a5 a6 a7 a8 a9 a10 a11 a12 a13 a14 a15 a16 a17 a18 a19 a20 a21 a22 a23 a24
theorem pu_b25_some {o t0 t1 t2 t3 t4 t5 t6 t7 t8 t9 t10 t11 t12 t13 t14 t15 t16 t17 t18 t19 t20 t21 t22 t23 t24 : Type} {x : Option (t0 × t1 × t2 × t3 × t4 × t5 × t6 × t7 × t8 × t9 × t10 × t11 × t12 × t13 × t14 × t15 × t16 × t17 × t18 × t19 × t20 × t21 × t22 × t23 × t24)} {f : t0 → t1 → t2 → t3 → t4 → t5 → t6 → t7 → t8 → t9 → t10 → t11 → t12 → t13 → t14 → t15 → t16 → t17 → t18 → t19 → t20 → t21 → t22 → t23 → t24 → Option o} {r : o} (h : pu_b25 x f = some r) : ∃ a0 a1 a2 a3 a4 a5 a6 a7 a8 a9 a10 a11 a12 a13 a14 a15 a16 a17 a18 a19 a20 a21 a22 a23 a24, x = some (a0, a1, a2, a3, a4, a5, a6, a7, a8, a9, a10, a11, a12, a13, a14, a15, a16, a17, a18, a19, a20, a21, a22, a23, a24) ∧ f a0 a1 a2 a3 a4 a5 a6 a7 a8 a9 a10 a11 a12 a13 a14 a15 a16 a17 a18 a19 a20 a21 a22 a23 a24 = some r := by
  cases x with
  | none => cases h
  | some a => exact ⟨a.1, a.2.1, a.2.2.1, a.2.2.2.1, a.2.2.2.2.1, a.2.2.2.2.2.1, a.2.2.2.2.2.2.1, a.2.2.2.2.2.2.2.1, a.2.2.2.2.2.2.2.2.1, a.2.2.2.2.2.2.2.2.2.1, a.2.2.2.2.2.2.2.2.2.2.1, a.2.2.2.2.2.2.2.2.2.2.2.1, a.2.2.2.2.2.2.2.2.2.2.2.2.1, a.2.2.2.2.2.2.2.2.2.2.2.2.2.1, a.2.2.2.2.2.2.2.2.2.2.2.2.2.2.1, a.2.2.2.2.2.2.2.2.2.2.2.2.2.2.2.1, a.2.2.2.2.2.2.2.2.2.2.2.2.2.2.2.2.1, a.2.2.2.2.2.2.2.2.2.2.2.2.2.2.2.2.2.1, a.2.2.2.2.2.2.2.2.2.2.2.2.2.2.2.2.2.2.1, a.2.2.2.2.2.2.2.2.2.2.2.2.2.2.2.2.2.2.2.1, a.2.2.2.2.2.2.2.2.2.2.2.2.2.2.2.2.2.2.2.2.1, a.2.2.2.2.2.2.2.2.2.2.2.2.2.2.2.2.2.2.2.2.2.1, a.2.2.2.2.2.2.2.2.2.2.2.2.2.2.2.2.2.2.2.2.2.2.1, a.2.2.2.2.2.2.2.2.2.2.2.2.2.2.2.2.2.2.2.2.2.2.2.1, a.2.2.2.2.2.2.2.2.2.2.2.2.2.2.2.2.2.2.2.2.2.2.2.2, rfl, h⟩
abbrev pu_ty (cI cJ cB cZ : ClassId) : List (ClassId × FieldType) := [(cI, .int), (cJ, .long), (cB, .byte), (cZ, .boolean)]
theorem pu_nest_warm {s U : State} (hW : s.WarmedH U.vm) (h : ∀ w ∈ pu_wN, va_Nw w s) : ∀ w ∈ pu_wN, va_Nw w U := by
  intro w hw
  have h1 := h w hw
  have h2 : pu_isN w = true := List.all_eq_true.mp pu_wN_ok w hw
  cases w <;> first | (simp [pu_isN] at h2; done) | exact va_Nw.warmF hW h1 | exact va_Nw.warmM hW h1
abbrev pu_pc (D : va_G) (cl : List vw_C) (tys : List (ClassId × FieldType)) (vs : List Value) (WS : va_W) (sz : Nat) : Array Value → State → Prop := va_Pc vs (fun U => U.heap.size = sz ∧ va_P D cl WS U.heap ∧ va_K D cl tys U ∧ va_D (fun _ => True) WS ∧ ∀ w ∈ pu_wN, va_Nw w U)
abbrev pu_qi (D : va_G) (cl : List vw_C) (tys : List (ClassId × FieldType)) (WS WS2 : va_W) (sz : Nat) (v : Int32) : Array Value → State → Outcome → State → Prop := va_Qi (fun r (_ : Unit) => r = v) (fun _ t => va_P D cl WS2 t.heap ∧ va_D (va_A WS sz) WS2) (va_A WS sz)
abbrev pu_ql (D : va_G) (cl : List vw_C) (tys : List (ClassId × FieldType)) (WS WS2 : va_W) (sz : Nat) (v : Int64) : Array Value → State → Outcome → State → Prop := va_Ql (fun r (_ : Unit) => r = v) (fun _ t => va_P D cl WS2 t.heap ∧ va_D (va_A WS sz) WS2) (va_A WS sz)
abbrev pu_qv (D : va_G) (cl : List vw_C) (tys : List (ClassId × FieldType)) (WS WS2 : va_W) (sz : Nat) : Array Value → State → Outcome → State → Prop := va_Qv (fun (_ : Unit) => True) (fun _ t => va_P D cl WS2 t.heap ∧ va_D (va_A WS sz) WS2) (va_A WS sz)
section PUM
variable {l : Launch} {D : va_G} {cl : List vw_C} {tys : List (ClassId × FieldType)} {y : MethodName} {wA : List Cond} {rm : Room} {cc : ByteArray} {maxL sz : Nat}
theorem pu_mti (vs : List Value) (WS WS2 : va_W) (v : Int32) (hy : plainName y.cls = true) (hn : (lg_sl vs).length ≤ maxL)
    (body : ∀ (p : Program) (e : Env) (s : State) (m : MethodId) (args : Array Value) (below : List Frame) (meth : Method) (c : Code) (A : Nat → Prop) (Q : State → Prop) (ls : Array Slot), p.tables.exec = Jvm.exec → c.code = cc → c.maxLocals = maxL → (∀ w ∈ wA, w.before args s = true) → (∀ w ∈ pu_wN, va_Nw w s) → s.vm.findClass y.cls = some m.cls → va_K D cl tys s → (∀ q : Nat, s.heap.size ≤ q → A q) → va_P D cl WS s.heap → va_D A WS → lv_has ls maxL (lv_args 0 vs) →
      (∀ (pc : Nat) (ls : Array Slot) (H : Heap) (locs : List Loc), decode cc pc = .ok (.ireturn, 1) → va_P D cl WS2 H → va_D A WS2 → va_S A s.heap H locs → W p l e rm s m args below meth c H locs 0 0 Q (F0 m pc ls [.int v])) → W p l e rm s m args below meth c s.heap [] 0 0 Q (F0 m 0 ls [])) :
    Met l y (.code y cc maxL (some .int) :: wA) rm (pu_pc D cl tys vs WS sz) (pu_qi D cl tys WS WS2 sz v) 0 0 (va_A WS sz) := by
  refine Met.ofW (cc := cc) (maxL := maxL) (ret := some .int) hy rfl ?_
  intro p e s m args below meth c s₁ B hml hv
  obtain ⟨rfl, hsz, hP, hK, hD0, hN⟩ := hv
  subst hsz
  have hD := hD0.self (sz := s.heap.size)
  have hts := atoms_spec (ws := .code y cc maxL (some .int) :: wA) B.pre
  have hl := lv_entry vs (n := maxL) hn
  rw [lg_entry_eq]
  have hlocks := B.notSynchronized
  refine body p e s m _ below meth c (va_A WS s.heap.size) _ _ B.exec B.bytes hml (fun w hw => hts w (List.mem_cons_of_mem _ hw)) hN (findClass_of_methodNamed B.named) hK (fun q h => Or.inr h) hP hD hl ?_
  intro pc ls H locs hd hP hD hS
  exact W.iret B.exec B.bytes B.returns (fun t ht hW => ⟨⟨v, (), rfl, rfl, by rw [ht]; exact hP, hD⟩, hS.F ht⟩) hS.2.2 hd
theorem pu_mtz (vs : List Value) (WS WS2 : va_W) (v : Int32) (hy : plainName y.cls = true) (hn : (lg_sl vs).length ≤ maxL)
    (body : ∀ (p : Program) (e : Env) (s : State) (m : MethodId) (args : Array Value) (below : List Frame) (meth : Method) (c : Code) (A : Nat → Prop) (Q : State → Prop) (ls : Array Slot), p.tables.exec = Jvm.exec → c.code = cc → c.maxLocals = maxL → (∀ w ∈ wA, w.before args s = true) → (∀ w ∈ pu_wN, va_Nw w s) → s.vm.findClass y.cls = some m.cls → va_K D cl tys s → (∀ q : Nat, s.heap.size ≤ q → A q) → va_P D cl WS s.heap → va_D A WS → lv_has ls maxL (lv_args 0 vs) →
      (∀ (pc : Nat) (ls : Array Slot) (H : Heap) (locs : List Loc), decode cc pc = .ok (.ireturn, 1) → pu_bz v → va_P D cl WS2 H → va_D A WS2 → va_S A s.heap H locs → W p l e rm s m args below meth c H locs 0 0 Q (F0 m pc ls [.int v])) → W p l e rm s m args below meth c s.heap [] 0 0 Q (F0 m 0 ls [])) :
    Met l y (.code y cc maxL (some .boolean) :: wA) rm (pu_pc D cl tys vs WS sz) (pu_qi D cl tys WS WS2 sz v) 0 0 (va_A WS sz) := by
  refine Met.ofW (cc := cc) (maxL := maxL) (ret := some .boolean) hy rfl ?_
  intro p e s m args below meth c s₁ B hml hv
  obtain ⟨rfl, hsz, hP, hK, hD0, hN⟩ := hv
  subst hsz
  have hD := hD0.self (sz := s.heap.size)
  have hts := atoms_spec (ws := .code y cc maxL (some .boolean) :: wA) B.pre
  have hl := lv_entry vs (n := maxL) hn
  rw [lg_entry_eq]
  have hlocks := B.notSynchronized
  refine body p e s m _ below meth c (va_A WS s.heap.size) _ _ B.exec B.bytes hml (fun w hw => hts w (List.mem_cons_of_mem _ hw)) hN (findClass_of_methodNamed B.named) hK (fun q h => Or.inr h) hP hD hl ?_
  intro pc ls H locs hd hz hP hD hS
  exact W.zret B.exec B.bytes B.returns hz (fun t ht hW => ⟨⟨v, (), rfl, rfl, by rw [ht]; exact hP, hD⟩, hS.F ht⟩) hS.2.2 hd
theorem pu_mtl (vs : List Value) (WS WS2 : va_W) (v : Int64) (hy : plainName y.cls = true) (hn : (lg_sl vs).length ≤ maxL)
    (body : ∀ (p : Program) (e : Env) (s : State) (m : MethodId) (args : Array Value) (below : List Frame) (meth : Method) (c : Code) (A : Nat → Prop) (Q : State → Prop) (ls : Array Slot), p.tables.exec = Jvm.exec → c.code = cc → c.maxLocals = maxL → (∀ w ∈ wA, w.before args s = true) → (∀ w ∈ pu_wN, va_Nw w s) → s.vm.findClass y.cls = some m.cls → va_K D cl tys s → (∀ q : Nat, s.heap.size ≤ q → A q) → va_P D cl WS s.heap → va_D A WS → lv_has ls maxL (lv_args 0 vs) →
      (∀ (pc : Nat) (ls : Array Slot) (H : Heap) (locs : List Loc), decode cc pc = .ok (.lreturn, 1) → va_P D cl WS2 H → va_D A WS2 → va_S A s.heap H locs → W p l e rm s m args below meth c H locs 0 0 Q (F0 m pc ls [.long v])) → W p l e rm s m args below meth c s.heap [] 0 0 Q (F0 m 0 ls [])) :
    Met l y (.code y cc maxL (some .long) :: wA) rm (pu_pc D cl tys vs WS sz) (pu_ql D cl tys WS WS2 sz v) 0 0 (va_A WS sz) := by
  refine Met.ofW (cc := cc) (maxL := maxL) (ret := some .long) hy rfl ?_
  intro p e s m args below meth c s₁ B hml hv
  obtain ⟨rfl, hsz, hP, hK, hD0, hN⟩ := hv
  subst hsz
  have hD := hD0.self (sz := s.heap.size)
  have hts := atoms_spec (ws := .code y cc maxL (some .long) :: wA) B.pre
  have hl := lv_entry vs (n := maxL) hn
  rw [lg_entry_eq]
  have hlocks := B.notSynchronized
  refine body p e s m _ below meth c (va_A WS s.heap.size) _ _ B.exec B.bytes hml (fun w hw => hts w (List.mem_cons_of_mem _ hw)) hN (findClass_of_methodNamed B.named) hK (fun q h => Or.inr h) hP hD hl ?_
  intro pc ls H locs hd hP hD hS
  exact W.lret B.exec B.bytes B.returns (fun t ht hW => ⟨⟨v, (), rfl, rfl, by rw [ht]; exact hP, hD⟩, hS.F ht⟩) hS.2.2 hd
theorem pu_mtv (vs : List Value) (WS WS2 : va_W) (hy : plainName y.cls = true) (hn : (lg_sl vs).length ≤ maxL)
    (body : ∀ (p : Program) (e : Env) (s : State) (m : MethodId) (args : Array Value) (below : List Frame) (meth : Method) (c : Code) (A : Nat → Prop) (Q : State → Prop) (ls : Array Slot), p.tables.exec = Jvm.exec → c.code = cc → c.maxLocals = maxL → (∀ w ∈ wA, w.before args s = true) → (∀ w ∈ pu_wN, va_Nw w s) → s.vm.findClass y.cls = some m.cls → va_K D cl tys s → (∀ q : Nat, s.heap.size ≤ q → A q) → va_P D cl WS s.heap → va_D A WS → lv_has ls maxL (lv_args 0 vs) →
      (∀ (pc : Nat) (ls : Array Slot) (H : Heap) (locs : List Loc), decode cc pc = .ok (.return_, 1) → va_P D cl WS2 H → va_D A WS2 → va_S A s.heap H locs → W p l e rm s m args below meth c H locs 0 0 Q (F0 m pc ls [])) → W p l e rm s m args below meth c s.heap [] 0 0 Q (F0 m 0 ls [])) :
    Met l y (.code y cc maxL none :: wA) rm (pu_pc D cl tys vs WS sz) (pu_qv D cl tys WS WS2 sz) 0 0 (va_A WS sz) := by
  refine Met.ofW (cc := cc) (maxL := maxL) (ret := none) hy rfl ?_
  intro p e s m args below meth c s₁ B hml hv
  obtain ⟨rfl, hsz, hP, hK, hD0, hN⟩ := hv
  subst hsz
  have hD := hD0.self (sz := s.heap.size)
  have hts := atoms_spec (ws := .code y cc maxL none :: wA) B.pre
  have hl := lv_entry vs (n := maxL) hn
  rw [lg_entry_eq]
  have hlocks := B.notSynchronized
  refine body p e s m _ below meth c (va_A WS s.heap.size) _ _ B.exec B.bytes hml (fun w hw => hts w (List.mem_cons_of_mem _ hw)) hN (findClass_of_methodNamed B.named) hK (fun q h => Or.inr h) hP hD hl ?_
  intro pc ls H locs hd hP hD hS
  exact W.vret B.exec B.bytes B.returns (fun t ht hW => ⟨⟨(), rfl, trivial, by rw [ht]; exact hP, hD⟩, hS.F ht⟩) hS.2.2 hd
end PUM
section PUC
variable {p : Program} {l : Launch} {e : Env} {R : Room} {s : State} {m : MethodId} {args : Array Value} {below : List Frame} {meth : Method} {c : Code} {H : Heap} {locs : List Loc} {Q : State → Prop} {pc : Nat} {ls : Array Slot} {rest st0 As : List Value} {A : Nat → Prop} {D : va_G} {cl : List vw_C} {tys : List (ClassId × FieldType)} {ws WC WC2 WR WS2 : va_W} {a : Array Value}
theorem pu_ti {x y : Int32} (h : y = x) (k : W p l e R s m args below meth c H locs 0 0 Q (F0 m pc ls (.int y :: rest))) : W p l e R s m args below meth c H locs 0 0 Q (F0 m pc ls (.int x :: rest)) := h ▸ k
theorem pu_tl {x y : Int64} (h : y = x) (k : W p l e R s m args below meth c H locs 0 0 Q (F0 m pc ls (.long y :: rest))) : W p l e R s m args below meth c H locs 0 0 Q (F0 m pc ls (.long x :: rest)) := h ▸ k
theorem pu_fm {α : Type} (f : Nat → Option α) : ∀ (is : List Nat) (w : List α), is.map f = w.map some → is.filterMap f = w
  | [], [], _ => rfl
  | [], _ :: _, h => by cases h
  | _ :: _, [], h => by cases h
  | i :: is, b :: w, h => by
    simp only [List.map_cons, List.cons.injEq] at h
    rw [List.filterMap_cons, h.1]
    simp only [pu_fm f is w h.2]
theorem pu_back {H1 : Heap} (hP : va_P D cl ws H) (hD : va_D A ws) (hF : ∀ q, va_A WC H.size q → A q) (isC isR pm : List Nat) (hC : isC.map (fun i => ws[i]?) = WC.map some) (hR : isR.map (fun i => ws[i]?) = WR.map some) (hn : va_nd isR = true) (hdis : ∀ i ∈ isR, i ∉ isC)
    (hp : pm.map (fun i => (WR ++ WC2)[i]?) = WS2.map some) (hpn : va_nd pm = true) (hk : ∀ q : Nat, q < H.size → ¬ va_A WC H.size q → H1[q]? = H[q]?) (hP1 : va_P D cl WC2 H1) (hD1 : va_D (va_A WC H.size) WC2) : va_P D cl WS2 H1 ∧ va_D A WS2 := by
  obtain ⟨h1, h2⟩ := va_join hP hD isC isR hC hR hn hdis hk hF hP1 hD1
  exact ⟨h1.sub pm (pu_fm _ pm WS2 hp), h2.sub pm hpn hp⟩
theorem cl_i {v : Int32} (hr : va_Run p l e R s m args below meth c H locs 0 0 0 0 (F0 m pc ls st0) rest (pu_qi D cl tys WC WC2 H.size v a) (va_A WC H.size)) (hP : va_P D cl ws H) (hD : va_D A ws) (hS : va_S A s.heap H locs) (hA : ∀ q : Nat, s.heap.size ≤ q → A q)
    (isC isR pm : List Nat) (hC : isC.map (fun i => ws[i]?) = WC.map some) (hR : isR.map (fun i => ws[i]?) = WR.map some) (hn : va_nd isR = true) (hdis : ∀ i ∈ isR, i ∉ isC) (hp : pm.map (fun i => (WR ++ WC2)[i]?) = WS2.map some) (hpn : va_nd pm = true)
    (kk : ∀ (H1 : Heap) (locs1 : List Loc), va_P D cl WS2 H1 → va_D A WS2 → va_S A s.heap H1 locs1 → W p l e R s m args below meth c H1 locs1 0 0 Q (F0 m (pc + 3) ls (.int v :: rest))) : W p l e R s m args below meth c H locs 0 0 Q (F0 m pc ls st0) := by
  have hFc := va_free (wc := WC) hD hS hA isC hC
  refine va_calli hr hS (fun q _ h => hFc q h) hFc (fun r u t H1 locs1 ht hvm hw hB hz1 hk1 hS1 => ?_)
  subst hw
  obtain ⟨hP1, hD1⟩ := hB
  rw [ht] at hP1
  obtain ⟨h1, h2⟩ := pu_back hP hD hFc isC isR pm hC hR hn hdis hp hpn hk1 hP1 hD1
  exact kk H1 locs1 h1 h2 hS1
theorem cl_l {v : Int64} (hr : va_Run p l e R s m args below meth c H locs 0 0 0 0 (F0 m pc ls st0) rest (pu_ql D cl tys WC WC2 H.size v a) (va_A WC H.size)) (hP : va_P D cl ws H) (hD : va_D A ws) (hS : va_S A s.heap H locs) (hA : ∀ q : Nat, s.heap.size ≤ q → A q)
    (isC isR pm : List Nat) (hC : isC.map (fun i => ws[i]?) = WC.map some) (hR : isR.map (fun i => ws[i]?) = WR.map some) (hn : va_nd isR = true) (hdis : ∀ i ∈ isR, i ∉ isC) (hp : pm.map (fun i => (WR ++ WC2)[i]?) = WS2.map some) (hpn : va_nd pm = true)
    (kk : ∀ (H1 : Heap) (locs1 : List Loc), va_P D cl WS2 H1 → va_D A WS2 → va_S A s.heap H1 locs1 → W p l e R s m args below meth c H1 locs1 0 0 Q (F0 m (pc + 3) ls (.long v :: rest))) : W p l e R s m args below meth c H locs 0 0 Q (F0 m pc ls st0) := by
  have hFc := va_free (wc := WC) hD hS hA isC hC
  refine va_calll hr hS (fun q _ h => hFc q h) hFc (fun r u t H1 locs1 ht hvm hw hB hz1 hk1 hS1 => ?_)
  subst hw
  obtain ⟨hP1, hD1⟩ := hB
  rw [ht] at hP1
  obtain ⟨h1, h2⟩ := pu_back hP hD hFc isC isR pm hC hR hn hdis hp hpn hk1 hP1 hD1
  exact kk H1 locs1 h1 h2 hS1
theorem cl_v (hr : va_Run p l e R s m args below meth c H locs 0 0 0 0 (F0 m pc ls st0) rest (pu_qv D cl tys WC WC2 H.size a) (va_A WC H.size)) (hP : va_P D cl ws H) (hD : va_D A ws) (hS : va_S A s.heap H locs) (hA : ∀ q : Nat, s.heap.size ≤ q → A q)
    (isC isR pm : List Nat) (hC : isC.map (fun i => ws[i]?) = WC.map some) (hR : isR.map (fun i => ws[i]?) = WR.map some) (hn : va_nd isR = true) (hdis : ∀ i ∈ isR, i ∉ isC) (hp : pm.map (fun i => (WR ++ WC2)[i]?) = WS2.map some) (hpn : va_nd pm = true)
    (kk : ∀ (H1 : Heap) (locs1 : List Loc), va_P D cl WS2 H1 → va_D A WS2 → va_S A s.heap H1 locs1 → W p l e R s m args below meth c H1 locs1 0 0 Q (F0 m (pc + 3) ls rest)) : W p l e R s m args below meth c H locs 0 0 Q (F0 m pc ls st0) := by
  have hFc := va_free (wc := WC) hD hS hA isC hC
  refine va_callv hr hS (fun q _ h => hFc q h) hFc (fun u t H1 locs1 ht hvm hw hB hz1 hk1 hS1 => ?_)
  obtain ⟨hP1, hD1⟩ := hB
  rw [ht] at hP1
  obtain ⟨h1, h2⟩ := pu_back hP hD hFc isC isR pm hC hR hn hdis hp hpn hk1 hP1 hD1
  exact kk H1 locs1 h1 h2 hS1
/-- what a callee finds -/
theorem pu_pre {vs : List Value} (hK : va_K D cl tys s) (hP : va_P D cl ws H) (hD : va_D A ws) (hN : ∀ w ∈ pu_wN, va_Nw w s) (isC : List Nat) (hC : isC.map (fun i => ws[i]?) = WC.map some) (hnd : va_nd isC = true) : PreS s H (pu_pc D cl tys vs WC H.size) vs := by
  refine ⟨fun a U g mk q => ?_, fun U hU hW => ⟨rfl, by rw [hU], by rw [hU]; exact hP.sub isC (pu_fm _ isC WC hC), va_K.moved hW.alike hK, (hD.sub isC hnd hC).weaken (fun _ _ _ _ => trivial), pu_nest_warm hW hN⟩⟩
  obtain ⟨q0, q1, qP, qK, qD, qN⟩ := q
  exact ⟨q0, q1, qP, va_K.moved (u := U) (U := U.calling g mk a) (Vm.Alike.refl U.vm) qK, qD, fun w hw => va_Nw.same (u := U) (pu_onT w hw) rfl (qN w hw)⟩
end PUC
section PUR
variable {p : Program} {l : Launch} {e : Env} {R : Room} {s : State} {m : MethodId} {args : Array Value} {below : List Frame} {meth : Method} {c : Code} {H : Heap} {locs : List Loc} {pc : Nat} {ls : Array Slot} {rest st0 As : List Value} {A : Nat → Prop} {D : va_G} {cl : List vw_C} {tys : List (ClassId × FieldType)} {ws WC : va_W}
variable {nL n index ci b : Nat} {own C host : String} {y : MethodName} {bytes cc : ByteArray} {maxL : Nat} {ret : Option FieldType} {rm : Room} {Qc : Array Value → State → Outcome → State → Prop} {free : Addr → Prop} {fs : List Value} {T : u_T} {N : Nat}
theorem pu_gi (h5 : Cond.code y bytes maxL ret ∈ pu_wA) : GoodIn pu_wA (.code y bytes maxL ret :: pu_wA) := by
  intro w hw
  rcases List.mem_cons.mp hw with h | h
  · rw [h]; exact ⟨h5, pu_good _ h5⟩
  · exact ⟨h, pu_good _ h⟩
theorem pu_rv (h1 : Cond.methodLink own index y ∈ pu_wA) (h2 : Cond.instanceMethod y ∈ pu_wA) (h3 : Cond.selects C y y ∈ pu_wA) (h4 : Cond.initialized y.cls ∈ pu_wA) (h5 : Cond.code y bytes maxL ret ∈ pu_wA) (hcl : cl[ci]? = some (C, T, N))
    (hd : y.cls ≠ "java/lang/invoke/MethodHandle" ∧ y.cls ≠ "java/lang/invoke/VarHandle" ∧ (parseMethodDescriptor y.desc).map (fun d => d.parameters.length) = some n) (hR : rm.frames + 1 ≤ R.frames ∧ 8 + (maxL + 11) + rm.locals ≤ R.locals) (h0 : rm.cells = 0 ∧ rm.slots = 0) (hn : As.length = n) (hst : st0 = As.reverse ++ .ref b :: rest) (hW : (rest.map fun v => v.category).sum ≤ 8) (he : WC[0]? = some (b, .inr (ci, fs)))
    (hx : p.tables.exec = Jvm.exec) (hb : c.code = cc) (hml : c.maxLocals = nL) (hown : s.vm.findClass own = some m.cls) (hts : ∀ w ∈ pu_wA, w.before args s = true) (hN : ∀ w ∈ pu_wN, va_Nw w s) (hK : va_K D cl tys s) (hP : va_P D cl ws H) (hD : va_D A ws)
    (hM : Met l y (.code y bytes maxL ret :: pu_wA) rm (pu_pc D cl tys (.ref b :: As) WC H.size) Qc 0 0 free) (isC : List Nat) (hC : isC.map (fun i => ws[i]?) = WC.map some) (hnd : va_nd isC = true) (hls : ls.size = nL) (hdg : decode cc pc = .ok (.invokevirtual index, 3)) :
    va_Run p l e R s m args below meth c H locs 0 0 0 0 (F0 m pc ls st0) rest (Qc (Value.ref b :: As).toArray) free := by
  have pr := pu_pre (vs := .ref b :: As) hK hP hD hN isC hC hnd
  have cw : CallW R s args own C index y bytes maxL ret (.code y bytes maxL ret :: pu_wA) rm 0 0 n := ⟨callB_of n hts (pu_gi h5) rfl h0.1 h0.2 (hts _ h4) (hts _ h1) hd hR, hts _ h2, hts _ h3⟩
  exact va_runV ⟨hx, hb, hml, hown, hts⟩ hM cw ⟨pr.1, va_recv hK (hP.sub isC (pu_fm _ isC WC hC)) hcl he, pr.2⟩ rfl hn hls hst (lv_room hW) hdg ⟨Nat.zero_le _, Nat.zero_le _⟩
theorem pu_rvn (h1 : Cond.methodLinkNest own index y host ∈ pu_wN) (h2 : Cond.instanceMethod y ∈ pu_wA) (h3 : Cond.selects C y y ∈ pu_wA) (h4 : Cond.initialized y.cls ∈ pu_wA) (h5 : Cond.code y bytes maxL ret ∈ pu_wA) (hcl : cl[ci]? = some (C, T, N))
    (hd : y.cls ≠ "java/lang/invoke/MethodHandle" ∧ y.cls ≠ "java/lang/invoke/VarHandle" ∧ (parseMethodDescriptor y.desc).map (fun d => d.parameters.length) = some n) (hR : rm.frames + 1 ≤ R.frames ∧ 8 + (maxL + 11) + rm.locals ≤ R.locals) (h0 : rm.cells = 0 ∧ rm.slots = 0) (hn : As.length = n) (hst : st0 = As.reverse ++ .ref b :: rest) (hW : (rest.map fun v => v.category).sum ≤ 8) (he : WC[0]? = some (b, .inr (ci, fs)))
    (hx : p.tables.exec = Jvm.exec) (hb : c.code = cc) (hml : c.maxLocals = nL) (hown : s.vm.findClass own = some m.cls) (hts : ∀ w ∈ pu_wA, w.before args s = true) (hN : ∀ w ∈ pu_wN, va_Nw w s) (hK : va_K D cl tys s) (hP : va_P D cl ws H) (hD : va_D A ws)
    (hM : Met l y (.code y bytes maxL ret :: pu_wA) rm (pu_pc D cl tys (.ref b :: As) WC H.size) Qc 0 0 free) (isC : List Nat) (hC : isC.map (fun i => ws[i]?) = WC.map some) (hnd : va_nd isC = true) (hls : ls.size = nL) (hdg : decode cc pc = .ok (.invokevirtual index, 3)) :
    va_Run p l e R s m args below meth c H locs 0 0 0 0 (F0 m pc ls st0) rest (Qc (Value.ref b :: As).toArray) free := by
  have pr := pu_pre (vs := .ref b :: As) hK hP hD hN isC hC hnd
  have cw := va_cnB (R := R) (args := args) (bytes := bytes) (maxL := maxL) (ret := ret) (rm := rm) n hts (pu_gi h5) rfl h0.1 h0.2 (hN _ h1) (hts _ h4) hd hR
  exact va_runVN ⟨hx, hb, hml, hown, hts⟩ hM ⟨cw, hts _ h2, hts _ h3⟩ ⟨pr.1, va_recv hK (hP.sub isC (pu_fm _ isC WC hC)) hcl he, pr.2⟩ rfl hn hls hst (lv_room hW) hdg ⟨Nat.zero_le _, Nat.zero_le _⟩
theorem pu_rs (h1 : Cond.methodLink own index y ∈ pu_wA) (h2 : Cond.static y ∈ pu_wA) (h4 : Cond.initialized y.cls ∈ pu_wA) (h5 : Cond.code y bytes maxL ret ∈ pu_wA)
    (hd : y.cls ≠ "java/lang/invoke/MethodHandle" ∧ y.cls ≠ "java/lang/invoke/VarHandle" ∧ (parseMethodDescriptor y.desc).map (fun d => d.parameters.length) = some n) (hR : rm.frames + 1 ≤ R.frames ∧ 8 + (maxL + 11) + rm.locals ≤ R.locals) (h0 : rm.cells = 0 ∧ rm.slots = 0) (hn : As.length = n) (hst : st0 = As.reverse ++ rest) (hW : (rest.map fun v => v.category).sum ≤ 8)
    (hx : p.tables.exec = Jvm.exec) (hb : c.code = cc) (hml : c.maxLocals = nL) (hown : s.vm.findClass own = some m.cls) (hts : ∀ w ∈ pu_wA, w.before args s = true) (hN : ∀ w ∈ pu_wN, va_Nw w s) (hK : va_K D cl tys s) (hP : va_P D cl ws H) (hD : va_D A ws)
    (hM : Met l y (.code y bytes maxL ret :: pu_wA) rm (pu_pc D cl tys As WC H.size) Qc 0 0 free) (isC : List Nat) (hC : isC.map (fun i => ws[i]?) = WC.map some) (hnd : va_nd isC = true) (hls : ls.size = nL) (hdg : decode cc pc = .ok (.invokestatic index, 3)) :
    va_Run p l e R s m args below meth c H locs 0 0 0 0 (F0 m pc ls st0) rest (Qc As.toArray) free := by
  have pr := pu_pre (vs := As) hK hP hD hN isC hC hnd
  exact va_runS ⟨hx, hb, hml, hown, hts⟩ hM ⟨callB_of n hts (pu_gi h5) rfl h0.1 h0.2 (hts _ h4) (hts _ h1) hd hR, hts _ h2⟩ pr rfl hn hls hst (lv_room hW) hdg ⟨Nat.zero_le _, Nat.zero_le _⟩
theorem pu_rsn (h1 : Cond.methodLinkNest own index y host ∈ pu_wN) (h2 : Cond.static y ∈ pu_wA) (h4 : Cond.initialized y.cls ∈ pu_wA) (h5 : Cond.code y bytes maxL ret ∈ pu_wA)
    (hd : y.cls ≠ "java/lang/invoke/MethodHandle" ∧ y.cls ≠ "java/lang/invoke/VarHandle" ∧ (parseMethodDescriptor y.desc).map (fun d => d.parameters.length) = some n) (hR : rm.frames + 1 ≤ R.frames ∧ 8 + (maxL + 11) + rm.locals ≤ R.locals) (h0 : rm.cells = 0 ∧ rm.slots = 0) (hn : As.length = n) (hst : st0 = As.reverse ++ rest) (hW : (rest.map fun v => v.category).sum ≤ 8)
    (hx : p.tables.exec = Jvm.exec) (hb : c.code = cc) (hml : c.maxLocals = nL) (hown : s.vm.findClass own = some m.cls) (hts : ∀ w ∈ pu_wA, w.before args s = true) (hN : ∀ w ∈ pu_wN, va_Nw w s) (hK : va_K D cl tys s) (hP : va_P D cl ws H) (hD : va_D A ws)
    (hM : Met l y (.code y bytes maxL ret :: pu_wA) rm (pu_pc D cl tys As WC H.size) Qc 0 0 free) (isC : List Nat) (hC : isC.map (fun i => ws[i]?) = WC.map some) (hnd : va_nd isC = true) (hls : ls.size = nL) (hdg : decode cc pc = .ok (.invokestatic index, 3)) :
    va_Run p l e R s m args below meth c H locs 0 0 0 0 (F0 m pc ls st0) rest (Qc As.toArray) free := by
  have pr := pu_pre (vs := As) hK hP hD hN isC hC hnd
  have cw := va_cnB (R := R) (args := args) (bytes := bytes) (maxL := maxL) (ret := ret) (rm := rm) n hts (pu_gi h5) rfl h0.1 h0.2 (hN _ h1) (hts _ h4) hd hR
  exact va_runSN ⟨hx, hb, hml, hown, hts⟩ hM ⟨cw, hts _ h2, trivial⟩ pr rfl hn hls hst (lv_room hW) hdg ⟨Nat.zero_le _, Nat.zero_le _⟩
end PUR
