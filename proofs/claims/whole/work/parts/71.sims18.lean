/-! the cascade of a number -/
theorem ch_pown : ∀ n k, ch n k ≤ (n + 1) ^ k := by
  intro n
  induction n with
  | zero => intro k; cases k <;> simp [ch]
  | succ n ih => intro k; cases k with
    | zero => rw [ch_0, Nat.pow_zero]; exact Nat.le_refl 1
    | succ k =>
      rw [ch_s, Nat.pow_succ]
      have h1 := ih k
      have h2 := ih (k + 1)
      rw [Nat.pow_succ] at h2
      have h3 : (n + 1) ^ k ≤ (n + 1 + 1) ^ k := Nat.pow_le_pow_left (by omega) k
      have h4 : (n + 1) ^ k * (n + 1) ≤ (n + 1 + 1) ^ k * (n + 1) := Nat.mul_le_mul_right _ h3
      have h5 : (n + 1 + 1) ^ k * (n + 1 + 1) = (n + 1 + 1) ^ k * (n + 1) + (n + 1 + 1) ^ k := Nat.mul_succ _ _
      omega
theorem ch_mulB {n i B : Nat} (h : n ≤ B) : i * ch n i ≤ B ^ i := by
  cases i with
  | zero => simp
  | succ i =>
    cases n with
    | zero => show (i + 1) * 0 ≤ _; simp
    | succ n =>
      rw [ch_abs]
      calc (n + 1) * ch n i ≤ (n + 1) * (n + 1) ^ i := Nat.mul_le_mul_left _ (ch_pown n i)
        _ = (n + 1) ^ (i + 1) := by rw [Nat.pow_succ, Nat.mul_comm]
        _ ≤ B ^ (i + 1) := Nat.pow_le_pow_left h _
/-- the numbers that the cascade asks for -/
def cOk (n k : Nat) : Prop := (k ≤ 1 ∧ n ≤ 100001) ∨ (k ≤ 7 ∧ n ≤ 450)
theorem cOk_B {n k : Nat} (h : cOk n k) (m i : Nat) (hm : m ≤ n) (hi : i ≤ k) : i * ch m i < 2 ^ 63 := by
  rcases h with ⟨h1, h2⟩ | ⟨h1, h2⟩
  · have := ch_mulB (n := m) (i := i) (B := 100001) (by omega)
    have : (100001 : Nat) ^ i ≤ 100001 ^ 1 := Nat.pow_le_pow_right (by decide) (by omega)
    omega
  · have := ch_mulB (n := m) (i := i) (B := 450) (by omega)
    have : (450 : Nat) ^ i ≤ 450 ^ 7 := Nat.pow_le_pow_right (by decide) (by omega)
    have : (450 : Nat) ^ 7 < 2 ^ 63 := by decide
    omega
theorem cOk_n {n k : Nat} (h : cOk n k) : n ≤ 100001 ∧ k ≤ 7 := by
  rcases h with ⟨h1, h2⟩ | ⟨h1, h2⟩ <;> omega
theorem binomial_c {n k : Nat} (h : cOk n k) : X2_binomial (nI n) (nI k) = some (lN (ch n k)) := by
  have hn := cOk_n h
  by_cases q : k ≤ n
  · exact binomial_eq q (by omega) (fun i hi => cOk_B h _ i (by omega) hi)
  · unfold X2_binomial
    rw [if_neg (nI_pos (by omega)), if_neg (nI_ge (by omega) (by omega)), ch_zero n k (by omega)]; rfl
theorem chosen_c {n k : Nat} (h : cOk n k) : X9_chosen (nI n) (nI k) = some (lN (ch n k)) := by
  have hn := cOk_n h
  by_cases q : k ≤ n
  · exact chosen_eq q (by omega) (fun i hi => cOk_B h _ i (by omega) hi)
  · unfold X9_chosen
    rw [if_neg (nI_pos (by omega)), if_neg (nI_ge (by omega) (by omega)), ch_zero n k (by omega)]; rfl
theorem ch_1 (n : Nat) : ch n 1 = n := by
  cases n with
  | zero => rfl
  | succ n => have : 1 * ch (n + 1) 1 = (n + 1) * ch n 0 := ch_abs n 0
              rw [ch_0] at this; omega
theorem ch_big : ∀ i, 2 ≤ i → i ≤ 7 → ∃ a, i ≤ a ∧ a ≤ 449 ∧ 100000 < ch (a + 1) i := by
  intro i h1 h2
  have a2 : ∀ n m, m = n + 1 → 2 * ch m 2 = m * n := fun n m e => by subst e; rw [ch_abs n 1, ch_1]
  have a3 : ∀ n m, m = n + 1 → 3 * ch m 3 = m * ch n 2 := fun n m e => by subst e; exact ch_abs n 2
  have a4 : ∀ n m, m = n + 1 → 4 * ch m 4 = m * ch n 3 := fun n m e => by subst e; exact ch_abs n 3
  have a5 : ∀ n m, m = n + 1 → 5 * ch m 5 = m * ch n 4 := fun n m e => by subst e; exact ch_abs n 4
  have a6 : ∀ n m, m = n + 1 → 6 * ch m 6 = m * ch n 5 := fun n m e => by subst e; exact ch_abs n 5
  have a7 : ∀ n m, m = n + 1 → 7 * ch m 7 = m * ch n 6 := fun n m e => by subst e; exact ch_abs n 6
  rcases (show i = 2 ∨ i = 3 ∨ i = 4 ∨ i = 5 ∨ i = 6 ∨ i = 7 by omega) with rfl | rfl | rfl | rfl | rfl | rfl
  · refine ⟨448, by omega, by omega, ?_⟩
    show 100000 < ch 449 2
    have e2 : ch 449 2 = 100576 := by have := a2 448 449 rfl; omega
    rw [e2]; decide
  · refine ⟨99, by omega, by omega, ?_⟩
    show 100000 < ch 100 3
    have e2 : ch 99 2 = 4851 := by have := a2 98 99 rfl; omega
    have e3 : ch 100 3 = 161700 := by have := a3 99 100 rfl; rw [e2] at this; omega
    rw [e3]; decide
  · refine ⟨49, by omega, by omega, ?_⟩
    show 100000 < ch 50 4
    have e2 : ch 48 2 = 1128 := by have := a2 47 48 rfl; omega
    have e3 : ch 49 3 = 18424 := by have := a3 48 49 rfl; rw [e2] at this; omega
    have e4 : ch 50 4 = 230300 := by have := a4 49 50 rfl; rw [e3] at this; omega
    rw [e4]; decide
  · refine ⟨39, by omega, by omega, ?_⟩
    show 100000 < ch 40 5
    have e2 : ch 37 2 = 666 := by have := a2 36 37 rfl; omega
    have e3 : ch 38 3 = 8436 := by have := a3 37 38 rfl; rw [e2] at this; omega
    have e4 : ch 39 4 = 82251 := by have := a4 38 39 rfl; rw [e3] at this; omega
    have e5 : ch 40 5 = 658008 := by have := a5 39 40 rfl; rw [e4] at this; omega
    rw [e5]; decide
  · refine ⟨39, by omega, by omega, ?_⟩
    show 100000 < ch 40 6
    have e2 : ch 36 2 = 630 := by have := a2 35 36 rfl; omega
    have e3 : ch 37 3 = 7770 := by have := a3 36 37 rfl; rw [e2] at this; omega
    have e4 : ch 38 4 = 73815 := by have := a4 37 38 rfl; rw [e3] at this; omega
    have e5 : ch 39 5 = 575757 := by have := a5 38 39 rfl; rw [e4] at this; omega
    have e6 : ch 40 6 = 3838380 := by have := a6 39 40 rfl; rw [e5] at this; omega
    rw [e6]; decide
  · refine ⟨39, by omega, by omega, ?_⟩
    show 100000 < ch 40 7
    have e2 : ch 35 2 = 595 := by have := a2 34 35 rfl; omega
    have e3 : ch 36 3 = 7140 := by have := a3 35 36 rfl; rw [e2] at this; omega
    have e4 : ch 37 4 = 66045 := by have := a4 36 37 rfl; rw [e3] at this; omega
    have e5 : ch 38 5 = 501942 := by have := a5 37 38 rfl; rw [e4] at this; omega
    have e6 : ch 39 6 = 3262623 := by have := a6 38 39 rfl; rw [e5] at this; omega
    have e7 : ch 40 7 = 18643560 := by have := a7 39 40 rfl; rw [e6] at this; omega
    rw [e7]; decide
theorem ch_nn : ∀ n, ch n n = 1 := by
  intro n
  induction n with
  | zero => rfl
  | succ n ih => rw [ch_s, ih, ch_zero n (n + 1) (by omega)]
theorem ch_posn : ∀ n k, k ≤ n → 0 < ch n k := by
  intro n
  induction n with
  | zero => intro k h; obtain rfl : k = 0 := by omega
            exact Nat.one_pos
  | succ n ih => intro k h; cases k with
    | zero => rw [ch_0]; omega
    | succ k => rw [ch_s]; have := ih k (by omega); omega
theorem lg_gt {a b : Nat} (ha : a < 2 ^ 63) (hb : b < 2 ^ 63) : ((0 : Int32) < lg_cmp (lN a) (lN b)) ↔ b < a := by
  have := lg_le ha hb
  constructor
  · intro h
    refine Classical.byContradiction fun q => ?_
    have := this.mpr (by omega)
    exact absurd h (Int32.not_lt.mpr this)
  · intro h
    refine Classical.byContradiction fun q => ?_
    have := this.mp (Int32.not_lt.mp q)
    omega
/-- the top of a number at a size -/
def TopP (m i a : Nat) : Prop := i ≤ a ∧ 0 < ch a i ∧ ch a i ≤ m ∧ ((i = 1 ∧ a = m) ∨ (2 ≤ i ∧ a ≤ 449)) ∧ X2_top (nI m) (nI i) = some (nI a) ∧ X9_greatestFor (nI m) (nI i) = some (nI a)
theorem top_ex {m i : Nat} (hm : 0 < m) (hm2 : m ≤ 100000) (hi : 0 < i) (hi2 : i ≤ 7) : ∃ a, TopP m i a := by
  have hex : ∃ k, i ≤ k ∧ m < ch (k + 1) i := by
    by_cases q : i = 1
    · subst q; exact ⟨m, hm, by rw [ch_1]; omega⟩
    · obtain ⟨a, h1, h2, h3⟩ := ch_big i (by omega) hi2
      exact ⟨a, h1, by omega⟩
  obtain ⟨a, ⟨h1, h2⟩, h3⟩ := pk_least (fun k => i ≤ k ∧ m < ch (k + 1) i) hex
  have h4 : ∀ b, i ≤ b → b < a → ch (b + 1) i ≤ m := fun b q1 q2 => by
    have := h3 b q2
    exact Nat.le_of_not_lt fun w => this ⟨q1, w⟩
  have h5 : (i = 1 ∧ a = m) ∨ (2 ≤ i ∧ a ≤ 449) := by
    by_cases q : i = 1
    · subst q
      left
      refine ⟨rfl, ?_⟩
      rw [ch_1] at h2
      by_cases w : m < a
      · have := h4 m (by omega) w
        rw [ch_1] at this; omega
      · omega
    · right
      refine ⟨by omega, ?_⟩
      obtain ⟨b, q1, q2, q3⟩ := ch_big i (by omega) hi2
      by_cases w : b < a
      · have := h4 b q1 w; omega
      · omega
  have hok : ∀ b, b ≤ a → cOk (b + 1) i := fun b hb => by
    unfold cOk
    rcases h5 with ⟨q1, q2⟩ | ⟨q1, q2⟩ <;> omega
  have hlt : ∀ b, b ≤ a → ch (b + 1) i < 2 ^ 63 := fun b hb => by
    have := cOk_B (hok b hb) (b + 1) i (Nat.le_refl _) (Nat.le_refl _)
    have : 1 * ch (b + 1) i ≤ i * ch (b + 1) i := Nat.mul_le_mul_right _ hi
    omega
  refine ⟨a, h1, ch_posn a i h1, ?_, h5, ?_, ?_⟩
  · by_cases q : a = i
    · subst q; rw [ch_nn]; exact hm
    · have := h4 (a - 1) (by omega) (by omega)
      rwa [show a - 1 + 1 = a by omega] at this
  · unfold X2_top
    rcases h5 with ⟨rfl, rfl⟩ | ⟨q1, q2⟩
    · rw [if_neg (by decide)]
    · rw [if_pos (show (1 : Int32) < nI i from nI_lt (a := 1) (by omega) (by omega))]
      refine lfp1_stop i a h1 (fun k w1 w2 r => ?_) (fun r => ?_)
      · unfold X2_top_h9
        rw [if_neg (show ¬ (1000 : Int32) ≤ nI k from nI_ge (b := 1000) (by omega) (by decide)), nI_1, binomial_c (hok k (by omega)), bd1_s, nI_l (by omega), if_neg (fun w => by
          have := (lg_gt (hlt k (by omega)) (by omega)).mp w
          have := h4 k w1 w2
          omega)]
      · unfold X2_top_h9
        rw [if_neg (show ¬ (1000 : Int32) ≤ nI a from nI_ge (b := 1000) (by omega) (by decide)), nI_1, binomial_c (hok a (by omega)), bd1_s, nI_l (by omega), if_pos ((lg_gt (hlt a (by omega)) (by omega)).mpr h2)]
  · unfold X9_greatestFor
    refine lfp1_stop i a h1 (fun k w1 w2 r => ?_) (fun r => ?_)
    · unfold X9_greatestFor_h2
      rw [nI_1, chosen_c (hok k (by omega)), bd1_s, nI_l (by omega), if_neg (fun w => by
        have := (lg_gt (hlt k (by omega)) (by omega)).mp w
        have := h4 k w1 w2
        omega)]
    · unfold X9_greatestFor_h2
      rw [nI_1, chosen_c (hok a (by omega)), bd1_s, nI_l (by omega), if_pos ((lg_gt (hlt a (by omega)) (by omega)).mpr h2)]
/-- the cascade of m at i: its rows -/
def Cas (m i : Nat) : List Nat → Prop
  | [] => m = 0
  | a :: l => 0 < m ∧ 0 < i ∧ TopP m i a ∧ Cas (m - ch a i) (i - 1) l
theorem cas_ex : ∀ i m, m ≤ 100000 → i ≤ 7 → (i = 0 → m = 0) → ∃ l, Cas m i l ∧ l.length ≤ i := by
  intro i
  induction i with
  | zero => exact fun m _ _ h => ⟨[], h rfl, Nat.le_refl 0⟩
  | succ i ih =>
    intro m h1 h2 _
    by_cases q : m = 0
    · exact ⟨[], q, Nat.zero_le _⟩
    · obtain ⟨a, ha⟩ := top_ex (m := m) (i := i + 1) (by omega) h1 (by omega) h2
      obtain ⟨l, h3, h4⟩ := ih (m - ch a (i + 1)) (by omega) (by omega) (fun e => by
        subst e
        rcases ha.2.2.2.1 with ⟨_, q⟩ | ⟨q, _⟩
        · rw [ch_1, q]; omega
        · omega)
      exact ⟨a :: l, ⟨by omega, by omega, ha, h3⟩, by rw [List.length_cons]; omega⟩
theorem TopP_ok {m i a : Nat} (h : TopP m i a) (hm : m ≤ 100000) (hi : i ≤ 7) {i' : Nat} (hi' : i' ≤ i) : cOk a i' := by
  unfold cOk
  rcases h.2.2.2.1 with ⟨q1, q2⟩ | ⟨q1, q2⟩ <;> omega
theorem m1_add {i : Nat} (h : 0 < i) : nI i + (-1 : Int32) = nI (i - 1) := by
  obtain ⟨j, rfl⟩ : ∃ j, i = j + 1 := ⟨i - 1, by omega⟩
  rw [← nI_1, Int32.add_assoc, show (1 : Int32) + -1 = 0 from rfl, Int32.add_zero]; rfl
def fillL (cpl : Nat → Int32) : Nat → List Nat → Nat → Int32
  | _, [] => cpl
  | k, a :: l => fillL (upd cpl k (nI a)) (k + 1) l
def rowAt : List Nat → Nat → Int32
  | [], _ => -1
  | a :: _, 0 => nI a
  | _ :: l, j + 1 => rowAt l j
def sumL : Nat → List Nat → Nat
  | _, [] => 0
  | i, a :: l => ch a (i - 1) + sumL (i - 1) l
theorem fillL_lt : ∀ l (cpl : Nat → Int32) k t, t < k → fillL cpl k l t = cpl t
  | [], _, _, _, _ => rfl
  | a :: l, cpl, k, t, h => by
    show fillL (upd cpl k (nI a)) (k + 1) l t = _
    rw [fillL_lt l _ _ _ (by omega)]
    simp [upd, show t ≠ k by omega]
theorem fillL_at : ∀ l (cpl : Nat → Int32) k j, j < l.length → fillL cpl k l (k + j) = rowAt l j
  | [], _, _, _, h => by cases h
  | a :: l, cpl, k, 0, _ => by
    show fillL (upd cpl k (nI a)) (k + 1) l (k + 0) = nI a
    rw [fillL_lt l _ _ _ (by omega)]
    simp [upd]
  | a :: l, cpl, k, j + 1, h => by
    show fillL (upd cpl k (nI a)) (k + 1) l (k + (j + 1)) = rowAt l j
    rw [← fillL_at l (upd cpl k (nI a)) (k + 1) j (by rw [List.length_cons] at h; omega), show k + (j + 1) = k + 1 + j by omega]
theorem rowAt_out : ∀ l j, l.length ≤ j → rowAt l j = -1
  | [], _, _ => rfl
  | _ :: _, 0, h => by rw [List.length_cons] at h; omega
  | _ :: l, j + 1, h => rowAt_out l j (by rw [List.length_cons] at h; omega)
theorem tops_c {i0 : Nat} (hi0 : i0 ≤ 7) : ∀ l m k (cpl : Nat → Int32), m ≤ 100000 → Cas m (i0 - k) l → k + l.length ≤ i0 → lfp4 (X2_tops_h8 (nI i0)) (nI m) (nI k) (nI k) cpl = some (nI (k + l.length), fillL cpl k l) := by
  intro l
  induction l with
  | nil =>
    intro m k cpl hm hc hk
    have hz : m = 0 := hc
    subst hz
    refine lfp4_done fun r => ?_
    unfold X2_tops_h8
    rw [if_pos (show nI 0 ≤ (0 : Int32) by decide)]
    split <;> rfl
  | cons a l ih =>
    intro m k cpl hm hc hk
    obtain ⟨h1, h2, h3, h4⟩ := hc
    rw [List.length_cons] at hk
    have hcl : (nI k).toNatClampNeg = k := nI_clamp (by omega)
    have hle := h3.2.2.1
    refine (lfp4_step (fun r => ?_)).trans ((ih (m - ch a (i0 - k)) (k + 1) (upd cpl k (nI a)) (by omega) (by rw [show i0 - (k + 1) = i0 - k - 1 by omega]; exact h4) (by omega)).trans (by rw [List.length_cons, show k + 1 + l.length = k + (l.length + 1) by omega]; rfl))
    unfold X2_tops_h8
    rw [if_neg (nI_ge (by omega) (by omega)), if_neg (show ¬ nI m ≤ (0 : Int32) from nI_ge (a := 0) h1 (by omega)), if_neg (show ¬ (7 : Int32) ≤ nI k from nI_ge (b := 7) (by omega) (by decide)), pk_sub (by omega), h3.2.2.2.2.1, bd1_s, gin_nI (by omega) (by decide), gin_nI (by omega) (by decide), hcl, show upd cpl k (nI a) k = nI a by simp [upd], binomial_c (TopP_ok h3 hm (by omega) (Nat.le_refl _)), bd1_s, lN_i, pk_sub hle, nI_1]
theorem cascade_9 {P : Nat} (hP : P < 2 ^ 31) : ∀ l m i k, m ≤ 100000 → i ≤ 7 → Cas m i l → k ≤ P → lfp3 (X9_cascade_h40 (nI P)) (nI m) (nI i) (nI k) = some (rowAt l (P - k)) := by
  intro l
  induction l with
  | nil =>
    intro m i k hm hi hc hk
    have hz : m = 0 := hc
    subst hz
    refine lfp3_done fun r => ?_
    unfold X9_cascade_h40
    rw [if_pos (show nI 0 ≤ (0 : Int32) by decide)]; rfl
  | cons a l ih =>
    intro m i k hm hi hc hk
    obtain ⟨h1, h2, h3, h4⟩ := hc
    have hle := h3.2.2.1
    by_cases q : k = P
    · subst q
      refine lfp3_done fun r => ?_
      unfold X9_cascade_h40
      rw [if_neg (show ¬ nI m ≤ (0 : Int32) from nI_ge (a := 0) h1 (by omega)), h3.2.2.2.2.2, bd1_s, if_pos rfl, Nat.sub_self]; rfl
    · refine (lfp3_step (fun r => ?_)).trans ((ih (m - ch a i) (i - 1) (k + 1) (by omega) (by omega) h4 (by omega)).trans (by rw [show P - k = P - (k + 1) + 1 by omega]; rfl))
      unfold X9_cascade_h40
      rw [if_neg (show ¬ nI m ≤ (0 : Int32) from nI_ge (a := 0) h1 (by omega)), h3.2.2.2.2.2, bd1_s, if_neg (fun w => q ((nI_eq (by omega) hP).mp w)), chosen_c (TopP_ok h3 hm hi (Nat.le_refl _)), bd1_s, lN_i, pk_sub hle, m1_add h2, nI_1]
theorem least_9 : ∀ l m i S, m ≤ 100000 → i ≤ 7 → Cas m i l → lfp3 X9_least_h35 (nI m) (nI i) (nI S) = some (nI (S + sumL i l)) := by
  intro l
  induction l with
  | nil =>
    intro m i S hm hi hc
    have hz : m = 0 := hc
    subst hz
    refine lfp3_done fun r => ?_
    unfold X9_least_h35
    rw [if_pos (show nI 0 ≤ (0 : Int32) by decide)]; rfl
  | cons a l ih =>
    intro m i S hm hi hc
    obtain ⟨h1, h2, h3, h4⟩ := hc
    have hle := h3.2.2.1
    refine (lfp3_step (fun r => ?_)).trans ((ih (m - ch a i) (i - 1) (S + ch a (i - 1)) (by omega) (by omega) h4).trans (by rw [Nat.add_assoc]; rfl))
    unfold X9_least_h35
    rw [if_neg (show ¬ nI m ≤ (0 : Int32) from nI_ge (a := 0) h1 (by omega)), h3.2.2.2.2.2, bd1_s, nI_m1 h2, chosen_c (TopP_ok h3 hm hi (Nat.sub_le _ _)), bd1_s, chosen_c (TopP_ok h3 hm hi (Nat.le_refl _)), bd1_s, lN_i, lN_i, pk_sub hle, m1_add h2, nI_add]
theorem least_c {i0 K : Nat} (hi0 : i0 ≤ 7) {cpl : Nat → Int32} : ∀ l m k S, m ≤ 100000 → Cas m (i0 - k) l → k + l.length = K → K ≤ i0 → (∀ j, j < l.length → cpl (k + j) = rowAt l j) → lfp2 (X8_least_h27 (nI K) cpl (nI i0)) (lN S) (nI k) = some (nI (S + sumL (i0 - k) l), cpl) := by
  intro l
  induction l with
  | nil =>
    intro m k S hm hc hk hK hl
    rw [List.length_nil, Nat.add_zero] at hk
    subst hk
    refine lfp2_done fun r => ?_
    unfold X8_least_h27
    rw [if_pos (nI_le (Nat.le_refl _) (by omega)), lN_i]; rfl
  | cons a l ih =>
    intro m k S hm hc hk hK hl
    obtain ⟨h1, h2, h3, h4⟩ := hc
    rw [List.length_cons] at hk
    have hle := h3.2.2.1
    refine (lfp2_step (fun r => ?_)).trans ((ih (m - ch a (i0 - k)) (k + 1) (S + ch a (i0 - k - 1)) (by omega) (by rw [show i0 - (k + 1) = i0 - k - 1 by omega]; exact h4) (by omega) hK (fun j hj => by rw [show k + 1 + j = k + (j + 1) by omega]; exact hl (j + 1) (by rw [List.length_cons]; omega))).trans (by rw [Nat.add_assoc, show i0 - (k + 1) = i0 - k - 1 by omega]; rfl))
    have h0 := hl 0 (by rw [List.length_cons]; omega)
    unfold X8_least_h27
    rw [if_neg (nI_ge (by omega) (by omega)), gin_nI (by omega) (by decide), nI_clamp (by omega), show cpl k = nI a from h0, pk_sub (by omega), nI_m1 h2, binomial_c (TopP_ok h3 hm (by omega) (Nat.sub_le _ _)), bd1_s, lN_add, nI_1]
theorem rowSize_c {p q : Int32} : X8_isRowSize p q = some (b01 (decide (((0 : Nat) : Int) ≤ p.toInt ∧ p.toInt ≤ ((100000 : Nat) : Int)) && decide (((1 : Nat) : Int) ≤ q.toInt ∧ q.toInt ≤ ((7 : Nat) : Int)))) := by
  unfold X8_isRowSize
  rcases in_cases (p := p) 0 100000 (by decide) with ⟨k, _, hk, rfl⟩ | h
  · rw [if_neg (nI_pos (by omega)), if_neg (show ¬ (100000 : Int32) < nI k from nI_nlt (a := 100000) (by omega) (by omega)), nI_toInt (by omega), decide_eq_true (by omega), Bool.true_and]
    rcases in_cases (p := q) 1 7 (by decide) with ⟨i, hi1, hi, rfl⟩ | h
    · rw [if_neg (show ¬ nI i < (1 : Int32) from nI_nlt (b := 1) (by omega) (by omega)), if_neg (show ¬ (7 : Int32) < nI i from nI_nlt (a := 7) (by omega) (by omega)), nI_toInt (by omega), decide_eq_true (by omega)]; rfl
    · rw [decide_eq_false h]
      exact outB h rfl rfl
  · rw [decide_eq_false h, Bool.false_and]
    exact outB h rfl rfl
section SIM
variable {cP : Nat → Int32} {cLo : Nat → Int64} {cHi : Nat → Int64} {cpl : Nat → Int32} {ctb : Nat → Int32} {ctl : Int32} {ctf : Int32} {ctp : Int32} {ctk : Int32} {cts : Int32} {cth : Int32} {cob : Nat → Int32} {col : Int32} {cso : Nat → Int32} {cha : Int32} {chs : Int32} {cbe : Int32} {ctr : Int32} {cgl : Nat → Int64} {cgh : Nat → Int64} {cll : Nat → Int64} {clh : Nat → Int64} {cta : Nat → Int32} {cme : Nat → Int32} {cps : Int32} {cwh : Nat → Int32} {cal : Nat → Int64} {cah : Nat → Int64} {mthr : Int32} {mfrp : Int32} {mact : Int32} {mtpd : Int32} {msiz : Int32} {matx : Int32} {mfrm : Int32} {mtok : Int32} {mval : Int32} {mfk : Int32} {mfpl : Int32} {mbem : Int32} {mtrs : Int32} {mtrl : Int32} {mrom : Int32} {mtom : Int32} {mnow : Nat → Int32} {mfre : Nat → Int32} {mkep : Nat → Int32} {mtap : Nat → Int32} {mlef : Nat → Int32} {mtak : Nat → Int32} {mbes : Nat → Int32} {mrow : Nat → Int32} {mint : Nat → Int32} {mrnd : Nat → Int32} {mplo : Nat → Int32} {mhio : Nat → Int32} {mtox : Nat → Int32} {mtol : Nat → Int32}
theorem sim_cascade {p1 p2 p3 : Int32} (hr : Rel cP cLo cHi ctb ctl ctf ctp cob col cso cha chs mact mtpd mfk mfpl mtom mnow mkep mtap mtol) : ∃ (r : Int32) (ocpl : Nat → Int32), X8_cascade cpl p1 p2 p3 = some (r, ocpl) ∧ X9_cascade p1 p2 p3 = some r ∧ Rel cP cLo cHi ctb ctl ctf ctp cob col cso cha chs mact mtpd mfk mfpl mtom mnow mkep mtap mtol := by
  unfold X8_cascade X9_cascade
  rw [rowSize_c, bd1_s, X9_in_n (a := 0) (b := 100000) (by decide) (by decide) rfl rfl, bd1_s, X9_in_n (a := 1) (b := 7) (by decide) (by decide) rfl rfl]
  rcases in_cases (p := p1) 0 100000 (by decide) with ⟨m, _, hm, rfl⟩ | h
  · rw [nI_toInt (by omega), decide_eq_true (by omega), Bool.true_and, bt0, bd1_s]
    rcases in_cases (p := p2) 1 7 (by decide) with ⟨i, hi1, hi, rfl⟩ | h
    · rw [nI_toInt (by omega), decide_eq_true (by omega), bt0, bt0]
      by_cases q : (0 : Int32) ≤ p3
      · rw [if_pos q, if_pos q]
        obtain ⟨P, hP, rfl⟩ : ∃ P, P < 2 ^ 31 ∧ p3 = nI P := by
          rcases i32_cases p3 with w | w
          · exact absurd q (fun w2 => by have := i32_le.mp w2; rw [show (0 : Int32).toInt = 0 from rfl] at this; omega)
          · exact w
        obtain ⟨l, h1, h2⟩ := cas_ex i m hm hi (fun e => by omega)
        have e1 := tops_c hi l m 0 cpl hm h1 (by omega)
        have e2 := cascade_9 hP l m i 0 hm hi h1 (by omega)
        unfold X2_tops
        rw [show lfp4 (X2_tops_h8 (nI i)) (nI m) 0 0 cpl = _ from e1, bd2_s, show lfp3 (X9_cascade_h40 (nI P)) (nI m) (nI i) 0 = _ from e2, Nat.zero_add, Nat.sub_zero]
        by_cases w : l.length ≤ P
        · rw [if_pos (nI_le w (by omega)), rowAt_out l P w]
          exact ⟨_, _, rfl, rfl, hr⟩
        · have e3 := fillL_at l cpl 0 P (by omega)
          rw [Nat.zero_add] at e3
          rw [if_neg (nI_ge (by omega) (by omega)), gin_nI (by omega) (by decide), nI_clamp (by omega), e3]
          exact ⟨_, _, rfl, rfl, hr⟩
      · rw [if_neg q, if_neg q]
        exact ⟨_, _, rfl, rfl, hr⟩
    · rw [decide_eq_false h, bf0, bf0]
      exact ⟨_, _, rfl, rfl, hr⟩
  · rw [decide_eq_false h, Bool.false_and, bf0, bf0]
    exact ⟨_, _, rfl, rfl, hr⟩
theorem sim_least {p1 p2 : Int32} (hr : Rel cP cLo cHi ctb ctl ctf ctp cob col cso cha chs mact mtpd mfk mfpl mtom mnow mkep mtap mtol) : ∃ (r : Int32) (ocpl : Nat → Int32), X8_least cpl p1 p2 = some (r, ocpl) ∧ X9_least p1 p2 = some r ∧ Rel cP cLo cHi ctb ctl ctf ctp cob col cso cha chs mact mtpd mfk mfpl mtom mnow mkep mtap mtol := by
  unfold X8_least X9_least
  rw [rowSize_c, bd1_s, X9_in_n (a := 0) (b := 100000) (by decide) (by decide) rfl rfl, bd1_s, X9_in_n (a := 1) (b := 7) (by decide) (by decide) rfl rfl]
  rcases in_cases (p := p1) 0 100000 (by decide) with ⟨m, _, hm, rfl⟩ | h
  · rw [nI_toInt (by omega), decide_eq_true (by omega), Bool.true_and, bt0, bd1_s]
    rcases in_cases (p := p2) 1 7 (by decide) with ⟨i, hi1, hi, rfl⟩ | h
    · rw [nI_toInt (by omega), decide_eq_true (by omega), bt0, bt0]
      obtain ⟨l, h1, h2⟩ := cas_ex i m hm hi (fun e => by omega)
      have e1 := tops_c hi l m 0 cpl hm h1 (by omega)
      have e2 := least_9 l m i 0 hm hi h1
      have e3 := least_c (K := l.length) hi (cpl := fillL cpl 0 l) l m 0 0 hm h1 (by omega) h2 (fun j hj => fillL_at l cpl 0 j hj)
      unfold X2_tops
      rw [show lfp4 (X2_tops_h8 (nI i)) (nI m) 0 0 cpl = _ from e1, bd2_s, show lfp3 X9_least_h35 (nI m) (nI i) 0 = _ from e2, Nat.zero_add, show lfp2 (X8_least_h27 (nI l.length) (fillL cpl 0 l) (nI i)) (0 : Int64) 0 = _ from e3]
      exact ⟨_, _, rfl, by rw [Nat.zero_add, Nat.sub_zero, Nat.zero_add], hr⟩
    · rw [decide_eq_false h, bf0, bf0]
      exact ⟨_, _, rfl, rfl, hr⟩
  · rw [decide_eq_false h, Bool.false_and, bf0, bf0]
    exact ⟨_, _, rfl, rfl, hr⟩
end SIM
