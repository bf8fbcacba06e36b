/-- how many points -/
def pc (s : Nat) : Nat := cnt (fun i => s.testBit i) 7
def clr : Nat → Nat → Nat
  | 0, s => s
  | k + 1, s => clr k s &&& (clr k s - 1)
theorem pc_le (s : Nat) : pc s ≤ 7 := cnt_le _ 7
theorem clr_ok : ∀ s, s < 128 → ∀ k, k < 8 → (k < pc s → clr k s ≠ 0) ∧ clr k s < 128 ∧ (k = pc s → clr k s = 0) := by decide +kernel
theorem and_pred : ∀ x, x < 128 → x ≠ 0 → (nI x &&& (nI x - (1 : Int32))) = nI (x &&& (x - 1)) := by decide +kernel
theorem X9_bits_eq {s : Nat} (h : s < 128) : X9_bits (nI s) = some (nI (pc s)) := by
  unfold X9_bits
  refine lfp2_for (F := X9_bits_h4) (pc s) (fun k => nI k) (fun k => nI (clr k s)) (fun k hk r => ?_) (fun r => ?_)
  · have h1 := clr_ok s h k (by have := pc_le s; omega)
    have h2 := h1.1 hk
    have h3 := h1.2.1
    unfold X9_bits_h4
    rw [if_neg (show ¬ nI (clr k s) = 0 from nI_ne0 (by omega) (by omega)), and_pred _ h3 h2]
    exact congrArg (fun z => r z _) (nI_1 k)
  · have h1 := (clr_ok s h (pc s) (by have := pc_le s; omega)).2.2 rfl
    unfold X9_bits_h4
    simp only [h1]
    rfl
theorem J6_eq : ∀ s, s < 128 → J6_bitCount_0f7a4 (nI s) = some (nI (pc s)) := by decide +kernel
theorem X9_isIn_eq {mnow : Nat → Int32} {j s : Nat} {v : FV} (hj : j < 3) (hM : FamM mnow (129 * j) v) (hs : s < 128) : X9_isIn mnow (nI j) (nI s) = some (b01 (v.2 s)) := by
  unfold X9_isIn
  rw [X9_base_eq, bd1_s, nI_1, nI_add, gin_nI (by omega) (by decide), nI_clamp (by omega), hM.2 s hs]
  cases v.2 s <;> rfl
theorem X9_points_eq {mnow : Nat → Int32} {j : Nat} {v : FV} (hj : j < 3) (hM : FamM mnow (129 * j) v) : X9_points mnow (nI j) = some (nI v.1) := by
  unfold X9_points
  rw [X9_base_eq, bd1_s, gin_nI (by omega) (by decide), nI_clamp (by omega), hM.1]
theorem X9_hasOne_in {mnow : Nat → Int32} {j : Nat} {v : FV} (hj : j < 3) (hM : FamM mnow (129 * j) v) (hv : v.1 ≤ 7) : X9_hasOne mnow (nI j) = some (b01 (decide (0 < v.1))) := by
  unfold X9_hasOne
  rw [X9_isSlot_eq, bd1_s, nI_toInt (by omega), show decide ((0 : Int) ≤ (j : Int) ∧ (j : Int) ≤ 2) = true from decide_eq_true (by omega), if_neg (by decide), X9_base_eq, bd1_s, gin_nI (by omega) (by decide), nI_clamp (by omega), hM.1]
  by_cases h : 0 < v.1
  · rw [if_neg (show ¬ nI v.1 ≤ 0 from nI_nle h (by omega)), decide_eq_true h]; rfl
  · rw [if_pos (show nI v.1 ≤ 0 by rw [show v.1 = 0 by omega]; decide), decide_eq_false h]; rfl
theorem X9_hasOne_out {mnow : Nat → Int32} {p : Int32} (h : ¬ (0 ≤ p.toInt ∧ p.toInt ≤ 2)) : X9_hasOne mnow p = some 0 := by
  unfold X9_hasOne
  rw [X9_isSlot_eq, bd1_s, decide_eq_false h]
  rfl
theorem slot_cases (p : Int32) : (∃ j, j < 3 ∧ p = nI j) ∨ ¬ (0 ≤ p.toInt ∧ p.toInt ≤ 2) := by
  rcases i32_cases p with h | ⟨k, hk, rfl⟩
  · right; omega
  · by_cases h : k < 3
    · left; exact ⟨k, h, rfl⟩
    · right; rw [nI_toInt hk]; omega
theorem X8_isSlot_in {j : Nat} (hj : j < 3) : X8_isSlot (nI j) = some 1 := by
  have : ∀ j, j < 3 → X8_isSlot (nI j) = some 1 := by decide +kernel
  exact this j hj
theorem X8_isSlot_out {p : Int32} (h : ¬ (0 ≤ p.toInt ∧ p.toInt ≤ 2)) : X8_isSlot p = some 0 := by
  unfold X8_isSlot
  by_cases c : p < 0
  · rw [if_pos c]
  · rw [if_neg c]
    have h1 : ¬ p.toInt < 0 := fun q => c (i32_lt.mpr (by simpa using q))
    rw [if_pos (i32_le.mpr (by show (3 : Int) ≤ p.toInt; omega))]
theorem X9_isSlot_in {j : Nat} (hj : j < 3) : X9_isSlot (nI j) = some 1 := by
  rw [X9_isSlot_eq, nI_toInt (by omega), decide_eq_true (by omega)]; rfl
theorem X9_isSlot_out {p : Int32} (h : ¬ (0 ≤ p.toInt ∧ p.toInt ≤ 2)) : X9_isSlot p = some 0 := by
  rw [X9_isSlot_eq, decide_eq_false h]; rfl
theorem X8_familyAt_in {cP : Nat → Int32} {cLo cHi : Nat → Int64} {j : Nat} {v : FV} (hj : j < 3) (hC : FamC cP cLo cHi j v) : X8_familyAt cP (nI j) = some (if 0 < v.1 then some j else none) := by
  unfold X8_familyAt
  have hv := hC.1.1
  rw [X8_isSlot_in hj, bd1_s, if_neg (by decide), gin_nI hj (by decide), nI_clamp (by omega)]
  unfold X0_isThere
  rw [hC.2.1]
  by_cases h : 0 < v.1
  · rw [if_neg (show ¬ nI v.1 ≤ 0 from nI_nle h (by omega)), bd1_s, if_neg (by decide), if_pos h]
  · rw [if_pos (show nI v.1 ≤ 0 by rw [show v.1 = 0 by omega]; decide), bd1_s, if_pos rfl, if_neg h]
theorem X8_familyAt_out {cP : Nat → Int32} {p : Int32} (h : ¬ (0 ≤ p.toInt ∧ p.toInt ≤ 2)) : X8_familyAt cP p = some none := by
  unfold X8_familyAt
  rw [X8_isSlot_out h, bd1_s]; rfl
/-- a slot with a family, for both; or none, for both -/
theorem slot_two {cP : Nat → Int32} {cLo cHi : Nat → Int64} {mnow : Nat → Int32} {S : Nat → FV} (h : SlotR cP cLo cHi mnow S) (p : Int32) :
    (∃ j, j < 3 ∧ p = nI j ∧ 0 < (S j).1 ∧ FamC cP cLo cHi j (S j) ∧ FamM mnow (129 * j) (S j) ∧ X8_familyAt cP p = some (some j) ∧ X9_hasOne mnow p = some 1) ∨ (X8_familyAt cP p = some none ∧ X9_hasOne mnow p = some 0) := by
  rcases slot_cases p with ⟨j, hj, rfl⟩ | hp
  · obtain ⟨hC, hM⟩ := h j hj
    have e1 := X8_familyAt_in hj hC
    have e2 := X9_hasOne_in hj hM hC.1.1
    by_cases q : 0 < (S j).1
    · left
      rw [if_pos q] at e1
      rw [decide_eq_true q] at e2
      exact ⟨j, hj, rfl, q, hC, hM, e1, e2⟩
    · right
      rw [if_neg q] at e1
      rw [decide_eq_false q] at e2
      exact ⟨e1, e2⟩
  · right
    exact ⟨X8_familyAt_out hp, X9_hasOne_out hp⟩
theorem bdo_n {β : Type} {a : Option β} {f : Nat → Option β} : bdo (some none) a f = a := rfl
theorem bdo_s {β : Type} {a : Option β} {f : Nat → Option β} {i : Nat} : bdo (some (some i)) a f = f i := rfl
theorem nI_m1 {n : Nat} (h0 : 0 < n) : nI n - (1 : Int32) = nI (n - 1) := pk_sub (b := 1) h0
theorem shl1 : ∀ n, n < 31 → ((1 : Int32) <<< (nI n &&& 31)) = nI (2 ^ n) := by decide +kernel
theorem nI_t64 {n : Nat} (h : n < 2 ^ 31) : (nI n).toInt64.toInt = (n : Int) := by rw [Int32.toInt_toInt64, nI_toInt h]
theorem X9_isSet_eq {mnow : Nat → Int32} {j : Nat} {v : FV} {p : Int32} (hj : j < 3) (hM : FamM mnow (129 * j) v) (hv : v.1 ≤ 7) (h0 : 0 < v.1) : X9_isSet mnow (nI j) p = some (b01 (decide (0 ≤ p.toInt ∧ p.toInt < 2 ^ v.1))) := by
  unfold X9_isSet
  have hp : 0 < 2 ^ v.1 := Nat.two_pow_pos v.1
  have hq := pow_le7 hv
  have e : decide ((0 : Int) ≤ p.toInt ∧ p.toInt ≤ ((2 ^ v.1 - 1 : Nat) : Int)) = decide (0 ≤ p.toInt ∧ p.toInt < (2 : Int) ^ v.1) := by
    have h9 : ((2 ^ v.1 : Nat) : Int) = (2 : Int) ^ v.1 := by simp
    apply decide_eq_decide.mpr
    rw [← h9]; omega
  rw [X9_hasOne_in hj hM hv, bd1_s, decide_eq_true h0, if_neg (by decide), X9_points_eq hj hM, bd1_s, shl1 _ (by omega), nI_m1 hp, X9_in_eq, nI_t64 (by omega), Int32.toInt_toInt64, show (0 : Int64).toInt = 0 from rfl, e, bd1_s]
  cases decide (0 ≤ p.toInt ∧ p.toInt < (2 : Int) ^ v.1) <;> rfl
theorem X0_knows_eq {cP : Nat → Int32} {i n : Nat} {p : Int32} (h : cP i = nI n) (hn : n ≤ 7) : X0_knows cP i p = some (b01 (decide (0 ≤ p.toInt ∧ p.toInt < 2 ^ n))) := by
  unfold X0_knows
  have hq := pow_le7 hn
  have h9 : ((2 ^ n : Nat) : Int) = (2 : Int) ^ n := by simp
  rw [X0_span_eq h hn, bd1_s]
  by_cases c : p < 0
  · have h1 : p.toInt < 0 := by simpa using i32_lt.mp c
    rw [if_pos c, decide_eq_false (by omega)]; rfl
  · have h1 : ¬ p.toInt < 0 := fun q => c (i32_lt.mpr (by simpa using q))
    rw [if_neg c]
    by_cases c2 : nI (2 ^ n) ≤ p
    · have h2 := i32_le.mp c2
      rw [nI_toInt (by omega), h9] at h2
      rw [if_pos c2, decide_eq_false (by omega)]; rfl
    · have h2 : ¬ ((2 : Int) ^ n ≤ p.toInt) := fun q => c2 (i32_le.mpr (by rw [nI_toInt (by omega), h9]; exact q))
      rw [if_neg c2, decide_eq_true (by omega)]; rfl
/-- a set that is known, as a number -/
theorem set_of {p : Int32} {n : Nat} (hn : n ≤ 7) (h : 0 ≤ p.toInt ∧ p.toInt < (2 : Int) ^ n) : ∃ s, s < 2 ^ n ∧ s < 128 ∧ p = nI s := by
  rcases i32_cases p with q | ⟨k, hk, rfl⟩
  · omega
  · rw [nI_toInt hk] at h
    have h9 : ((2 ^ n : Nat) : Int) = (2 : Int) ^ n := by simp
    have hq := pow_le7 hn
    exact ⟨k, by omega, by omega, rfl⟩
theorem X9_isPoint_eq {mnow : Nat → Int32} {j : Nat} {v : FV} {p : Int32} (hj : j < 3) (hM : FamM mnow (129 * j) v) (hv : v.1 ≤ 7) (h0 : 0 < v.1) : X9_isPoint mnow (nI j) p = some (b01 (decide (0 ≤ p.toInt ∧ p.toInt < v.1))) := by
  unfold X9_isPoint
  have e : decide ((0 : Int) ≤ p.toInt ∧ p.toInt ≤ ((v.1 - 1 : Nat) : Int)) = decide (0 ≤ p.toInt ∧ p.toInt < v.1) := by
    apply decide_eq_decide.mpr; omega
  rw [X9_hasOne_in hj hM hv, bd1_s, decide_eq_true h0, if_neg (by decide), X9_points_eq hj hM, bd1_s, nI_m1 h0, X9_in_eq, nI_t64 (by omega), Int32.toInt_toInt64, show (0 : Int64).toInt = 0 from rfl, e, bd1_s]
  cases decide (0 ≤ p.toInt ∧ p.toInt < (v.1 : Int)) <;> rfl
theorem X0_knowsPoint_eq {cP : Nat → Int32} {i n : Nat} {p : Int32} (h : cP i = nI n) (hn : n ≤ 7) : X0_knowsPoint cP i p = some (b01 (decide (0 ≤ p.toInt ∧ p.toInt < n))) := by
  unfold X0_knowsPoint
  rw [h]
  by_cases c : p < 0
  · have h1 : p.toInt < 0 := by simpa using i32_lt.mp c
    rw [if_pos c, decide_eq_false (by omega)]; rfl
  · have h1 : ¬ p.toInt < 0 := fun q => c (i32_lt.mpr (by simpa using q))
    rw [if_neg c]
    by_cases c2 : nI n ≤ p
    · have h2 := i32_le.mp c2
      rw [nI_toInt (by omega)] at h2
      rw [if_pos c2, decide_eq_false (by omega)]; rfl
    · have h2 : ¬ ((n : Int) ≤ p.toInt) := fun q => c2 (i32_le.mpr (by rw [nI_toInt (by omega)]; exact q))
      rw [if_neg c2, decide_eq_true (by omega)]; rfl
theorem point_of {p : Int32} {n : Nat} (hn : n ≤ 7) (h : 0 ≤ p.toInt ∧ p.toInt < (n : Int)) : ∃ q, q < n ∧ p = nI q := by
  rcases i32_cases p with q | ⟨k, hk, rfl⟩
  · omega
  · rw [nI_toInt hk] at h
    exact ⟨k, by omega, rfl⟩
theorem X9_isPoint_out {mnow : Nat → Int32} {p q : Int32} (h : X9_hasOne mnow p = some 0) : X9_isPoint mnow p q = some 0 := by unfold X9_isPoint; rw [h]; rfl
theorem X9_isSet_out {mnow : Nat → Int32} {p q : Int32} (h : X9_hasOne mnow p = some 0) : X9_isSet mnow p q = some 0 := by unfold X9_isSet; rw [h]; rfl
/-- the first of its kind, or none below n -/
theorem first_or (P : Nat → Bool) (n : Nat) : (∃ s, s < n ∧ P s = true ∧ ∀ t, t < s → P t = false) ∨ ∀ t, t < n → P t = false := by
  induction n with
  | zero => right; intro t ht; omega
  | succ n ih =>
    rcases ih with ⟨s, h1, h2, h3⟩ | h
    · left; exact ⟨s, by omega, h2, h3⟩
    · cases hn : P n with
      | true => left; exact ⟨n, by omega, hn, h⟩
      | false =>
        right; intro t ht
        by_cases q : t = n
        · subst q; exact hn
        · exact h t (by omega)
/-- the k-th set (from 0) below n, or -1 -/
def kthI (c : Nat → Bool) (n k : Nat) : Int32 := match (List.range n).find? (fun s => c s && (cnt c s == k)) with
  | some s => nI s
  | none => -1
theorem kthI_at {c : Nat → Bool} {n k s : Nat} (hs : s < n) (h1 : c s = true) (h2 : cnt c s = k) (h3 : ∀ t, t < s → (c t && (cnt c t == k)) = false) : kthI c n k = nI s := by
  unfold kthI
  have e : (List.range n).find? (fun s => c s && (cnt c s == k)) = some s := by
    rw [List.find?_range_eq_some]
    exact ⟨by simp [h1, h2], List.mem_range.mpr hs, fun t ht => by simp only [h3 t ht]; rfl⟩
  rw [e]
theorem kthI_no {c : Nat → Bool} {n k : Nat} (h : ∀ t, t < n → (c t && (cnt c t == k)) = false) : kthI c n k = -1 := by
  unfold kthI
  have e : (List.range n).find? (fun s => c s && (cnt c s == k)) = none := by
    rw [List.find?_eq_none]
    intro x hx
    rw [List.mem_range] at hx
    simp [h x hx]
  rw [e]
