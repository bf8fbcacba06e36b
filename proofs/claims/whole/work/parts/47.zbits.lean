/-! sets of seven points, by their bits -/
theorem bit7 {a : Nat} (h : a < 128) {p : Nat} (hp : 7 ≤ p) : a.testBit p = false :=
  Nat.testBit_lt_two_pow (Nat.lt_of_lt_of_le (show a < 2 ^ 7 from h) (Nat.pow_le_pow_right (by decide) hp))
theorem eq7 {a b : Nat} (ha : a < 128) (hb : b < 128) (h : ∀ p, p < 7 → a.testBit p = b.testBit p) : a = b := by
  apply Nat.eq_of_testBit_eq
  intro i
  by_cases q : i < 7
  · exact h i q
  · rw [bit7 ha (by omega), bit7 hb (by omega)]
theorem lt7 {a n : Nat} (h : ∀ p, n ≤ p → a.testBit p = false) : a < 2 ^ n := Nat.lt_pow_two_of_testBit a h
theorem and_128l {a b : Nat} (ha : a < 128) : a &&& b < 128 := Nat.lt_of_le_of_lt Nat.and_le_left ha
theorem and_128r {a b : Nat} (hb : b < 128) : a &&& b < 128 := Nat.lt_of_le_of_lt Nat.and_le_right hb
theorem or_128 {a b : Nat} (ha : a < 128) (hb : b < 128) : a ||| b < 128 := Nat.or_lt_two_pow (n := 7) ha hb
theorem xor_128 {a b : Nat} (ha : a < 128) (hb : b < 128) : a ^^^ b < 128 := Nat.xor_lt_two_pow (n := 7) ha hb
theorem pow_128 {k : Nat} (hk : k < 7) : 2 ^ k < 128 := Nat.pow_lt_pow_right (a := 2) (n := 7) (by decide) hk
theorem x128 {s : Nat} (hs : s < 128) {k : Nat} (hk : k < 7) : s ^^^ 2 ^ k < 128 := xor_128 hs (pow_128 hk)
theorem flip_bit (s k p : Nat) : (s ^^^ 2 ^ k).testBit p = if p = k then !s.testBit k else s.testBit p := by
  rw [Nat.testBit_xor, Nat.testBit_two_pow]
  by_cases e : p = k
  · subst e; simp
  · simp [e, show ¬ k = p from fun q => e q.symm]
theorem flip_eq (s k : Nat) : (s ^^^ 2 ^ k).testBit k = !s.testBit k := by rw [flip_bit, if_pos rfl]
theorem flip_ne (s : Nat) {k p : Nat} (h : p ≠ k) : (s ^^^ 2 ^ k).testBit p = s.testBit p := by rw [flip_bit, if_neg h]
theorem sub7 {t s : Nat} : t &&& s = t ↔ ∀ p, t.testBit p = true → s.testBit p = true := by
  constructor
  · intro h p hp
    rw [← h, Nat.testBit_and, Bool.and_eq_true] at hp
    exact hp.2
  · intro h
    apply Nat.eq_of_testBit_eq
    intro p
    rw [Nat.testBit_and]
    cases ht : t.testBit p with
    | false => rfl
    | true => rw [h p ht]; rfl
theorem and0_7 {t s : Nat} : t &&& s = 0 ↔ ∀ p, t.testBit p = true → s.testBit p = false := by
  constructor
  · intro h p hp
    have := congrArg (fun z => z.testBit p) h
    simpa [hp] using this
  · intro h
    apply Nat.eq_of_testBit_eq
    intro p
    rw [Nat.testBit_and, Nat.zero_testBit]
    cases ht : t.testBit p with
    | false => rfl
    | true => rw [h p ht]; rfl
theorem xlt7 {s t k : Nat} : s ^^^ t < 2 ^ k ↔ ∀ p, k ≤ p → s.testBit p = t.testBit p := by
  constructor
  · intro h p hp
    have := Nat.testBit_lt_two_pow (Nat.lt_of_lt_of_le h (Nat.pow_le_pow_right (by decide : 2 > 0) hp))
    rw [Nat.testBit_xor] at this
    cases h1 : s.testBit p <;> cases h2 : t.testBit p <;> simp [h1, h2] at this ⊢
  · intro h
    refine lt7 fun p hp => ?_
    rw [Nat.testBit_xor, h p hp, Bool.xor_self]
theorem land_nI' (a b : Nat) : nI a &&& nI b = nI (a &&& b) := Int32.toBitVec_inj.mp (BitVec.ofNat_and (w := 32) (x := a) (y := b)).symm
theorem lor_nI' (a b : Nat) : nI a ||| nI b = nI (a ||| b) := Int32.toBitVec_inj.mp (BitVec.ofNat_or (w := 32) (x := a) (y := b)).symm
theorem xor_nI' (a b : Nat) : nI a ^^^ nI b = nI (a ^^^ b) := Int32.toBitVec_inj.mp (BitVec.ofNat_xor (w := 32) (x := a) (y := b)).symm
theorem up_fact {k s t : Nat} : (t &&& s = t ∧ s ^^^ t < 2 ^ (k + 1)) ↔ ((t &&& s = t ∧ s ^^^ t < 2 ^ k) ∨ (s.testBit k = true ∧ t &&& (s ^^^ 2 ^ k) = t ∧ (s ^^^ 2 ^ k) ^^^ t < 2 ^ k)) := by
  simp only [sub7, xlt7]
  constructor
  · rintro ⟨h1, h2⟩
    by_cases e : s.testBit k = t.testBit k
    · left
      refine ⟨h1, fun p hp => ?_⟩
      by_cases q : p = k
      · subst q; exact e
      · exact h2 p (by omega)
    · right
      have ht : t.testBit k = false := by
        cases h : t.testBit k with
        | false => rfl
        | true => rw [h1 k h, h] at e; exact absurd rfl e
      have hs : s.testBit k = true := by
        cases h : s.testBit k with
        | true => rfl
        | false => rw [h, ht] at e; exact absurd rfl e
      refine ⟨hs, fun p hp => ?_, fun p hp => ?_⟩
      · have : p ≠ k := by rintro rfl; rw [ht] at hp; cases hp
        rw [flip_ne s this]; exact h1 p hp
      · by_cases q : p = k
        · subst q; rw [flip_eq, hs, ht]; rfl
        · rw [flip_ne s q]; exact h2 p (by omega)
  · rintro (⟨h1, h2⟩ | ⟨hs, h1, h2⟩)
    · exact ⟨h1, fun p hp => h2 p (by omega)⟩
    · refine ⟨fun p hp => ?_, fun p hp => ?_⟩
      · by_cases q : p = k
        · subst q; exact hs
        · have := h1 p hp; rwa [flip_ne s q] at this
      · have := h2 p (by omega); rwa [flip_ne s (by omega)] at this
theorem dn_fact {k s t : Nat} : (s &&& t = s ∧ s ^^^ t < 2 ^ (k + 1)) ↔ ((s &&& t = s ∧ s ^^^ t < 2 ^ k) ∨ (s.testBit k = false ∧ (s ^^^ 2 ^ k) &&& t = s ^^^ 2 ^ k ∧ (s ^^^ 2 ^ k) ^^^ t < 2 ^ k)) := by
  simp only [sub7, xlt7]
  constructor
  · rintro ⟨h1, h2⟩
    by_cases e : s.testBit k = t.testBit k
    · left
      refine ⟨h1, fun p hp => ?_⟩
      by_cases q : p = k
      · subst q; exact e
      · exact h2 p (by omega)
    · right
      have hs : s.testBit k = false := by
        cases h : s.testBit k with
        | false => rfl
        | true => rw [h1 k h, h] at e; exact absurd rfl e
      have ht : t.testBit k = true := by
        cases h : t.testBit k with
        | true => rfl
        | false => rw [h, hs] at e; exact absurd rfl e
      refine ⟨hs, fun p hp => ?_, fun p hp => ?_⟩
      · by_cases q : p = k
        · subst q; exact ht
        · rw [flip_ne s q] at hp; exact h1 p hp
      · by_cases q : p = k
        · subst q; rw [flip_eq, hs, ht]; rfl
        · rw [flip_ne s q]; exact h2 p (by omega)
  · rintro (⟨h1, h2⟩ | ⟨hs, h1, h2⟩)
    · exact ⟨h1, fun p hp => h2 p (by omega)⟩
    · refine ⟨fun p hp => ?_, fun p hp => ?_⟩
      · have q : p ≠ k := by rintro rfl; rw [hs] at hp; cases hp
        exact h1 p (by rw [flip_ne s q]; exact hp)
      · have := h2 p (by omega); rwa [flip_ne s (by omega)] at this
def clrB (k a : Nat) : Nat := if a.testBit k then a ^^^ 2 ^ k else a
theorem clr_bit (k a p : Nat) : (clrB k a).testBit p = if p = k then false else a.testBit p := by
  unfold clrB
  by_cases e : p = k
  · subst e
    rw [if_pos rfl]
    cases h : a.testBit p with
    | true => rw [if_pos rfl, flip_eq, h]; rfl
    | false => rw [if_neg (by decide), h]
  · rw [if_neg e]
    cases h : a.testBit k with
    | true => rw [if_pos rfl, flip_ne a e]
    | false => rw [if_neg (by decide)]
theorem ct_fact1 {k m t : Nat} (hm : m.testBit k = true) : t &&& (m ^^^ 2 ^ k) = clrB k (t &&& m) := by
  apply Nat.eq_of_testBit_eq
  intro p
  rw [clr_bit, Nat.testBit_and, Nat.testBit_and]
  by_cases e : p = k
  · subst e; rw [flip_eq, hm]; simp
  · rw [flip_ne m e, if_neg e]
theorem ct_fact2 {k a s : Nat} : clrB k a = s ↔ (s.testBit k = false ∧ (a = s ∨ a = s ^^^ 2 ^ k)) := by
  unfold clrB
  cases h : a.testBit k with
  | true =>
    rw [if_pos rfl]
    constructor
    · rintro rfl
      refine ⟨by rw [flip_eq, h]; rfl, Or.inr ?_⟩
      rw [Nat.xor_assoc, Nat.xor_self, Nat.xor_zero]
    · rintro ⟨h1, rfl | rfl⟩
      · rw [h] at h1; cases h1
      · rw [Nat.xor_assoc, Nat.xor_self, Nat.xor_zero]
  | false =>
    rw [if_neg (by decide)]
    constructor
    · rintro rfl; exact ⟨h, Or.inl rfl⟩
    · rintro ⟨h1, rfl | rfl⟩
      · rfl
      · rw [flip_eq, h1] at h; cases h
theorem wn_fact2 {k a s : Nat} : a ||| 2 ^ k = s ↔ (s.testBit k = true ∧ (a = s ∨ a = s ^^^ 2 ^ k)) := by
  have hb : ∀ p, (a ||| 2 ^ k).testBit p = if p = k then true else a.testBit p := by
    intro p
    rw [Nat.testBit_or, Nat.testBit_two_pow]
    by_cases e : p = k
    · subst e; simp
    · simp [e, show ¬ k = p from fun q => e q.symm]
  constructor
  · rintro rfl
    refine ⟨by rw [hb, if_pos rfl], ?_⟩
    cases h : a.testBit k with
    | true =>
      left
      apply Nat.eq_of_testBit_eq
      intro p
      rw [hb]
      by_cases e : p = k
      · subst e; rw [if_pos rfl, h]
      · rw [if_neg e]
    | false =>
      right
      apply Nat.eq_of_testBit_eq
      intro p
      by_cases e : p = k
      · subst e; rw [flip_eq, hb, if_pos rfl, h]; rfl
      · rw [flip_ne _ e, hb, if_neg e]
  · rintro ⟨h1, rfl | rfl⟩
    · apply Nat.eq_of_testBit_eq
      intro p
      rw [hb]
      by_cases e : p = k
      · subst e; rw [if_pos rfl, h1]
      · rw [if_neg e]
    · apply Nat.eq_of_testBit_eq
      intro p
      rw [hb]
      by_cases e : p = k
      · subst e; rw [if_pos rfl, h1]
      · rw [if_neg e, flip_ne s e]
theorem to_fact {k s : Nat} : (s ^^^ 2 ^ k) ^^^ (2 ^ k - 1) = s ^^^ (2 ^ (k + 1) - 1) := by
  apply Nat.eq_of_testBit_eq
  intro p
  rw [Nat.testBit_xor (s ^^^ 2 ^ k), Nat.testBit_xor s (2 ^ (k + 1) - 1), Nat.testBit_two_pow_sub_one, Nat.testBit_two_pow_sub_one, flip_bit]
  by_cases e : p = k
  · subst e; rw [if_pos rfl]; simp
  · rw [if_neg e]
    by_cases q : p < k
    · simp [q, Nat.lt_succ_of_lt q]
    · simp [q, show ¬ p < k + 1 by omega]
def mkC (m k : Nat) : Nat := m ||| (127 ^^^ (2 ^ k - 1))
theorem mkC_bit {m k p : Nat} (hp : p < 7) : (mkC m k).testBit p = (m.testBit p || decide (k ≤ p)) := by
  unfold mkC
  rw [Nat.testBit_or, Nat.testBit_xor, Nat.testBit_two_pow_sub_one, show 127 = 2 ^ 7 - 1 from rfl, Nat.testBit_two_pow_sub_one]
  by_cases q : k ≤ p
  · simp [q, hp, show ¬ p < k by omega]
  · simp [q, hp, show p < k by omega]
theorem mkC_lt {m k : Nat} (hm : m < 128) (hk : k ≤ 7) : mkC m k < 128 := or_128 hm (xor_128 (by decide) (by have := Nat.pow_le_pow_right (n := 2) (by decide) hk; have : (2:Nat) ^ 7 = 128 := rfl; omega))
theorem ct_fact3 {k m : Nat} (hk : k < 7) (hm : m < 128) : mkC m k < 128 ∧ (mkC m k).testBit k = true ∧ mkC m (k + 1) = if m.testBit k then mkC m k else mkC m k ^^^ 2 ^ k := by
  refine ⟨mkC_lt hm (by omega), by rw [mkC_bit hk]; simp, ?_⟩
  cases h : m.testBit k with
  | true =>
    rw [if_pos rfl]
    refine eq7 (mkC_lt hm (by omega)) (mkC_lt hm (by omega)) fun p hp => ?_
    rw [mkC_bit hp, mkC_bit hp]
    by_cases e : p = k
    · subst e; rw [h]; simp
    · by_cases q : k ≤ p
      · simp [q, show k + 1 ≤ p by omega]
      · simp [q, show ¬ k + 1 ≤ p by omega]
  | false =>
    rw [if_neg (by decide)]
    refine eq7 (mkC_lt hm (by omega)) (x128 (mkC_lt hm (by omega)) hk) fun p hp => ?_
    by_cases e : p = k
    · subst e; rw [flip_eq, mkC_bit hp, mkC_bit hp, h]; simp
    · rw [flip_ne _ e, mkC_bit hp, mkC_bit hp]
      by_cases q : k ≤ p
      · simp [q, show k + 1 ≤ p by omega]
      · simp [q, show ¬ k + 1 ≤ p by omega]
theorem ct_end {n m t : Nat} (hn : n ≤ 7) (hm : m < 2 ^ n) (ht : t < 2 ^ n) : t &&& mkC m n = t &&& m := by
  have h7 : (2 : Nat) ^ n ≤ 128 := Nat.pow_le_pow_right (n := 2) (by decide) hn
  refine eq7 (and_128l (by omega)) (and_128l (by omega)) fun p hp => ?_
  rw [Nat.testBit_and, Nat.testBit_and, mkC_bit hp]
  by_cases q : n ≤ p
  · rw [Nat.testBit_lt_two_pow (Nat.lt_of_lt_of_le ht (Nat.pow_le_pow_right (by decide : 2 > 0) q))]; simp
  · simp [q]
theorem wn_fact3 {k m : Nat} : m &&& (2 ^ (k + 1) - 1) = if m.testBit k then (m &&& (2 ^ k - 1)) ||| 2 ^ k else m &&& (2 ^ k - 1) := by
  apply Nat.eq_of_testBit_eq
  intro p
  rw [Nat.testBit_and, Nat.testBit_two_pow_sub_one]
  cases h : m.testBit k with
  | true =>
    rw [if_pos rfl, Nat.testBit_or, Nat.testBit_and, Nat.testBit_two_pow_sub_one, Nat.testBit_two_pow]
    by_cases e : p = k
    · subst e; simp [h]
    · by_cases q : p < k
      · simp [q, show p < k + 1 by omega, show ¬ k = p by omega]
      · simp [q, show ¬ p < k + 1 by omega, show ¬ k = p by omega]
  | false =>
    rw [if_neg (by decide), Nat.testBit_and, Nat.testBit_two_pow_sub_one]
    by_cases e : p = k
    · subst e; simp [h]
    · by_cases q : p < k
      · simp [q, show p < k + 1 by omega]
      · simp [q, show ¬ p < k + 1 by omega]
theorem wn_end {n m : Nat} (hm : m < 2 ^ n) : m &&& (2 ^ n - 1) = m := Nat.and_two_pow_sub_one_of_lt_two_pow hm
