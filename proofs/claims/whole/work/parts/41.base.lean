theorem bd1_s {α β : Type} {a : α} {f : α → Option β} : bd1 (some a) f = f a := rfl
theorem gin_nI {α : Type} {k n : Nat} {x : Option α} (h : k < n) (hn : n < 2 ^ 31) : gin (nI k) n x = x := gin_in (vp_in_nI h hn)
theorem gin_nIv {α : Type} {p : Int32} {k n : Nat} {x : Option α} (e : p = nI k) (h : k < n) (hn : n < 2 ^ 31) : gin p n x = x := by rw [e]; exact gin_nI h hn
theorem b01_0 {b : Bool} : b01 b = 0 ↔ b = false := by cases b <;> simp [b01]
theorem b01_1 {b : Bool} : b01 b = 1 ↔ b = true := by cases b <;> simp [b01]
theorem b01_t : b01 true = 1 := rfl
theorem b01_f : b01 false = 0 := rfl
theorem gbo_01 {α : Type} {b : Bool} {k : Option α} : gbo (b01 b) k = k := by cases b <;> exact if_pos (by decide)
theorem gbo_1 {α : Type} {k : Option α} : gbo 1 k = k := if_pos (by decide)
theorem gbo_0 {α : Type} {k : Option α} : gbo 0 k = k := if_pos (by decide)
theorem vnz1 : vp_nar .boolean 1 = 1 := by decide
theorem vnz0 : vp_nar .boolean 0 = 0 := by decide
theorem vnz (b : Bool) : vp_nar .boolean (b01 b) = b01 b := by cases b <;> decide
theorem i32_lt {a b : Int32} : a < b ↔ a.toInt < b.toInt := Int32.lt_iff_toInt_lt
theorem i32_le {a b : Int32} : a ≤ b ↔ a.toInt ≤ b.toInt := Int32.le_iff_toInt_le
/-- an int is below 0, or a number -/
theorem i32_cases (p : Int32) : p.toInt < 0 ∨ ∃ k : Nat, k < 2 ^ 31 ∧ p = nI k := by
  by_cases h : p < 0
  · left; have := i32_lt.mp h; simpa using this
  · right; exact nI_of h
theorem X9_in_eq (x y z : Int64) : X9_in x y z = some (b01 (decide (y.toInt ≤ x.toInt ∧ x.toInt ≤ z.toInt))) := by
  have e1 : (lg_cmp x y < 0) ↔ x.toInt < y.toInt := by
    unfold lg_cmp
    rw [← Int64.lt_iff_toInt_lt]
    by_cases h1 : y < x
    · rw [if_pos h1]
      constructor
      · intro h; exact absurd h (by decide)
      · intro h; exact absurd (Int64.lt_trans h h1) (Int64.lt_irrefl)
    · rw [if_neg h1]
      by_cases h2 : x = y
      · subst h2
        simp
      · have h3 : x < y := by
          rw [Int64.lt_iff_toInt_lt]
          rw [Int64.lt_iff_toInt_lt] at h1
          have h4 : x.toInt ≠ y.toInt := fun q => h2 (Int64.toInt_inj.mp q)
          omega
        simp [h2, h3]
  have e2 : (0 < lg_cmp x z) ↔ z.toInt < x.toInt := by
    unfold lg_cmp
    rw [← Int64.lt_iff_toInt_lt]
    by_cases h1 : z < x
    · simp [h1]
    · by_cases h2 : x = z <;> simp [h1, h2]
  unfold X9_in
  by_cases c1 : lg_cmp x y < 0
  · rw [if_pos c1]
    have := e1.mp c1
    rw [show decide (y.toInt ≤ x.toInt ∧ x.toInt ≤ z.toInt) = false from decide_eq_false (by omega)]; rfl
  · rw [if_neg c1]
    by_cases c2 : 0 < lg_cmp x z
    · rw [if_pos c2]
      have := e2.mp c2
      rw [show decide (y.toInt ≤ x.toInt ∧ x.toInt ≤ z.toInt) = false from decide_eq_false (by omega)]; rfl
    · rw [if_neg c2]
      have h1 := mt e1.mpr c1
      have h2 := mt e2.mpr c2
      rw [show decide (y.toInt ≤ x.toInt ∧ x.toInt ≤ z.toInt) = true from decide_eq_true (by omega)]; rfl
theorem X9_isSlot_eq (p : Int32) : X9_isSlot p = some (b01 (decide (0 ≤ p.toInt ∧ p.toInt ≤ 2))) := by
  unfold X9_isSlot
  rw [X9_in_eq, bd1_s, gbo_01, Int32.toInt_toInt64]
  rfl
theorem X9_base_eq {j : Nat} : X9_base (nI j) = some (nI (129 * j)) := congrArg some (pk_mul 129 j)
