/-! first ones, levels, points -/
theorem bt0 {α : Type} {x y : α} : (if b01 true = 0 then x else y) = y := rfl
theorem bf0 {α : Type} {x y : α} : (if b01 false = 0 then x else y) = x := rfl
theorem toV (cLo cHi : Nat → Int64) : ∃ V : Nat → Nat → Bool, cLo = LO V ∧ cHi = HI V ∧ ∀ i s, 128 ≤ s → V i s = false := ⟨vw cLo cHi, (LO_vw _ _).symm, (HI_vw _ _).symm, fun i s hs => mbs_big hs⟩
def fstI (c : Nat → Bool) (n : Nat) : Int32 := match (List.range n).find? c with
  | some s => nI s
  | none => -1
theorem fstI_at {c : Nat → Bool} {n s : Nat} (hs : s < n) (h1 : c s = true) (h3 : ∀ t, t < s → c t = false) : fstI c n = nI s := by
  unfold fstI
  have e : (List.range n).find? c = some s := by
    rw [List.find?_range_eq_some]
    exact ⟨h1, List.mem_range.mpr hs, fun t ht => by simp only [h3 t ht]; rfl⟩
  rw [e]
theorem fstI_no {c : Nat → Bool} {n : Nat} (h : ∀ t, t < n → c t = false) : fstI c n = -1 := by
  unfold fstI
  have e : (List.range n).find? c = none := by
    rw [List.find?_eq_none]
    intro x hx
    rw [List.mem_range] at hx
    simp [h x hx]
  rw [e]
theorem m1_ne {k : Nat} (h : k < 2 ^ 31) : ¬ ((-1 : Int32) = nI k) := by
  intro q
  have := congrArg Int32.toInt q
  rw [nI_toInt h] at this
  have e : (-1 : Int32).toInt = -1 := rfl
  omega
theorem ne_m1 {k : Nat} (h : k < 2 ^ 31) : ¬ (nI k = (-1 : Int32)) := fun q => m1_ne h q.symm
theorem lfp1_fst {β : Type} {F : (Int32 → Option β) → Int32 → Option β} (c : Nat → Bool) (N : Nat) (y : Int32 → Option β) (hs : ∀ k, k < N → c k = false → ∀ r, F r (nI k) = r (nI (k + 1))) (hk : ∀ k, k < N → c k = true → ∀ r, F r (nI k) = y (nI k)) (he : ∀ r, F r (nI N) = y (-1)) : lfp1 F 0 = y (fstI c N) := by
  rcases first_or c N with ⟨s, h1, h2, h3⟩ | h
  · rw [fstI_at h1 h2 h3]
    exact lfp1_stop 0 s (Nat.zero_le s) (fun k _ q r => hs k (by omega) (h3 k q) r) (fun r => hk s h1 h2 r)
  · rw [fstI_no h]
    exact lfp1_stop 0 N (Nat.zero_le N) (fun k _ q r => hs k q (h k q) r) he
theorem kthI_cut {c : Nat → Bool} {m n k : Nat} (hmn : m ≤ n) (h : ∀ s, c s = true → s < m) : kthI c n k = kthI c m k := by
  rcases first_or (fun s => c s && (cnt c s == k)) m with ⟨s, h1, h2, h3⟩ | hn
  · have h2' := h2
    rw [Bool.and_eq_true, beq_iff_eq] at h2
    rw [kthI_at h1 h2.1 h2.2 h3, kthI_at (by omega) h2.1 h2.2 h3]
  · rw [kthI_no hn, kthI_no (fun t ht => by
      by_cases q : t < m
      · exact hn t q
      · cases hc : c t with
        | false => rfl
        | true => exact absurd (h t hc) q)]
theorem kthI_congr {c d : Nat → Bool} {n k : Nat} (h : ∀ s, s < n → c s = d s) : kthI c n k = kthI d n k := by
  have hc : ∀ s, s ≤ n → cnt c s = cnt d s := fun s hs => cnt_congr (fun t ht => h t (by omega))
  rcases first_or (fun s => c s && (cnt c s == k)) n with ⟨s, h1, h2, h3⟩ | hn
  · rw [Bool.and_eq_true, beq_iff_eq] at h2
    rw [kthI_at h1 h2.1 h2.2 h3, kthI_at h1 (by rw [← h s h1]; exact h2.1) (by rw [← hc s (by omega)]; exact h2.2) (fun t ht => by rw [← h t (by omega), ← hc t (by omega)]; exact h3 t ht)]
  · rw [kthI_no hn, kthI_no (fun t ht => by rw [← h t ht, ← hc t (by omega)]; exact hn t ht)]
theorem fstI_congr {c d : Nat → Bool} {n : Nat} (h : ∀ s, s < n → c s = d s) : fstI c n = fstI d n := by
  rcases first_or c n with ⟨s, h1, h2, h3⟩ | hn
  · rw [fstI_at h1 h2 h3, fstI_at h1 (by rw [← h s h1]; exact h2) (fun t ht => by rw [← h t (by omega)]; exact h3 t ht)]
  · rw [fstI_no hn, fstI_no (fun t ht => by rw [← h t ht]; exact hn t ht)]
theorem fstI_ne {c : Nat → Bool} {n : Nat} (hn : n < 2 ^ 31) : (fstI c n = -1) ↔ ∀ t, t < n → c t = false := by
  constructor
  · intro h
    rcases first_or c n with ⟨s, h1, h2, h3⟩ | hn
    · rw [fstI_at h1 h2 h3] at h; exact absurd h (ne_m1 (by omega))
    · exact hn
  · exact fstI_no
theorem pow_pos' (n : Nat) : 0 < 2 ^ n := Nat.two_pow_pos n
theorem l128 {n k : Nat} (hn : n ≤ 7) (h : k < 2 ^ n) : k < 128 := Nat.lt_of_lt_of_le h (pow_le7 hn)
theorem X9_hasBit_eq {s p : Nat} (hs : s < 128) (hp : p < 7) : X9_hasBit (nI s) (nI p) = some (b01 (s.testBit p)) := by
  unfold X9_hasBit
  rw [sbit s hs p hp]
  cases s.testBit p <;> rfl
theorem land_nI (a : Nat) (_ : a < 128) (b : Nat) (_ : b < 128) : (nI a &&& nI b) = nI (a &&& b) := land_nI' a b
theorem lor_nI (a : Nat) (_ : a < 128) (b : Nat) (_ : b < 128) : (nI a ||| nI b) = nI (a ||| b) := lor_nI' a b
theorem xor_nI (a : Nat) (_ : a < 128) (b : Nat) (_ : b < 128) : (nI a ^^^ nI b) = nI (a ^^^ b) := xor_nI' a b
theorem pow7 : ∀ p, p < 7 → 2 ^ p < 128 := by decide
theorem inn128 {k : Nat} (h : k < 128) : ¬ (128 : Int32) ≤ nI k := nI_ge (b := 128) h (by decide)
theorem i128 : (128 : Int32) ≤ nI 128 := by decide
section CLASS
variable {cP : Nat → Int32} {V : Nat → Nat → Bool} {i n : Nat}
theorem pick_V (hP : cP i = nI n) (hn : n ≤ 7) {K : Nat} (hK : K < 2 ^ 31) : X0_pick cP (LO V) (HI V) i (nI K) = some (kthI (V i) (2 ^ n) K) := by
  unfold X0_pick
  have hq := pow_le7 hn
  refine lfp2_kth (F := X0_pick_h4 cP i (LO V) (HI V) (nI K)) (V i) (2 ^ n) K (fun z => some z) (fun k hk a ha hc r => ?_) (fun k hk hc ha r => ?_) (fun a r => ?_)
  · unfold X0_pick_h4
    rw [X0_span_eq hP hn, bd1_s, if_neg (nI_ge hk (by omega)), holds_V (by omega), bd1_s, ib0, nI_1, nI_1]
    cases hb : V i k with
    | false => rfl
    | true =>
      rw [if_pos rfl, if_neg]
      · rfl
      · rcases hc with hc | hc
        · rw [hb] at hc; cases hc
        · exact fun q => hc ((nI_eq (by omega) hK).mp q)
  · unfold X0_pick_h4
    rw [X0_span_eq hP hn, bd1_s, if_neg (nI_ge hk (by omega)), holds_V (by omega), bd1_s, ib0, hc, if_pos rfl, if_pos rfl]
  · unfold X0_pick_h4
    rw [X0_span_eq hP hn, bd1_s, if_pos (nI_le (Nat.le_refl _) (by omega))]
theorem sizeOfLevel_V (hP : cP i = nI n) (hn : n ≤ 7) {l : Nat} (hl : l < 2 ^ 31) : X0_sizeOfLevel cP (LO V) (HI V) i (nI l) = some (nI (cnt (fun s => (pc s == l) && V i s) (2 ^ n))) := by
  unfold X0_sizeOfLevel
  have hq := pow_le7 hn
  have := lfp2_cnt (F := X0_sizeOfLevel_h4 cP i (nI l) (LO V) (HI V)) (fun s => (pc s == l) && V i s) (2 ^ n) 0 (fun a => some (nI a)) (fun k hk a r => by
    have hpc := pc_le k
    unfold X0_sizeOfLevel_h4
    rw [X0_span_eq hP hn, bd1_s, if_neg (nI_ge hk (by omega)), J6_eq k (by omega), bd1_s, nI_1, nI_1]
    by_cases e : pc k = l
    · rw [if_pos (by rw [e]), holds_V (by omega), bd1_s, ib0]
      cases V i k <;> simp [e]
    · rw [if_neg (fun q => e ((nI_eq (by omega) hl).mp q))]; simp [e]) (fun a r => by
    unfold X0_sizeOfLevel_h4
    rw [X0_span_eq hP hn, bd1_s, if_pos (nI_le (Nat.le_refl _) (by omega))])
  rw [Nat.zero_add] at this
  exact this
theorem firstOfLevel_V (hP : cP i = nI n) (hn : n ≤ 7) {x : Int32} {c : Nat → Bool} (hc : ∀ s, s < 2 ^ n → ((nI (pc s) = x) ↔ c s = true)) : X0_firstOfLevel cP (LO V) (HI V) i x = some (fstI (fun s => c s && V i s) (2 ^ n)) := by
  unfold X0_firstOfLevel
  have hq := pow_le7 hn
  refine lfp1_fst (F := X0_firstOfLevel_h2 cP i x (LO V) (HI V)) (fun s => c s && V i s) (2 ^ n) (fun z => some z) (fun k hk h r => ?_) (fun k hk h r => ?_) (fun r => ?_)
  · unfold X0_firstOfLevel_h2
    rw [X0_span_eq hP hn, bd1_s, if_neg (nI_ge hk (by omega)), J6_eq k (by omega), bd1_s, nI_1]
    by_cases e : nI (pc k) = x
    · have := (hc k hk).mp e
      rw [this, Bool.true_and] at h
      rw [if_pos e, holds_V (by omega), bd1_s, h]; rfl
    · rw [if_neg e]
  · unfold X0_firstOfLevel_h2
    rw [Bool.and_eq_true] at h
    rw [X0_span_eq hP hn, bd1_s, if_neg (nI_ge hk (by omega)), J6_eq k (by omega), bd1_s, if_pos ((hc k hk).mpr h.1), holds_V (by omega), bd1_s, h.2]; rfl
  · unfold X0_firstOfLevel_h2
    rw [X0_span_eq hP hn, bd1_s, if_pos (nI_le (Nat.le_refl _) (by omega))]
theorem firstOfLevel_V' (hP : cP i = nI n) (hn : n ≤ 7) {l : Nat} (hl : l < 2 ^ 31) : X0_firstOfLevel cP (LO V) (HI V) i (nI l) = some (fstI (fun s => (pc s == l) && V i s) (2 ^ n)) :=
  firstOfLevel_V hP hn (fun s hs => by have := pc_le s; rw [nI_eq (by omega) hl, beq_iff_eq])
/-- some set of level l -/
def hasL (f : Nat → Bool) (n l : Nat) : Bool := !allB (fun s => !((pc s == l) && f s)) (2 ^ n)
theorem hasL_iff {f : Nat → Bool} {n l : Nat} : hasL f n l = true ↔ ∃ s, s < 2 ^ n ∧ pc s = l ∧ f s = true := by
  unfold hasL
  rw [Bool.not_eq_true', allB_ff]
  constructor
  · rintro ⟨s, h1, h2⟩
    rw [Bool.not_eq_false', Bool.and_eq_true, beq_iff_eq] at h2
    exact ⟨s, h1, h2.1, h2.2⟩
  · rintro ⟨s, h1, h2, h3⟩
    exact ⟨s, h1, by simp [h2, h3]⟩
theorem hasL_f {f : Nat → Bool} {n l : Nat} : hasL f n l = false ↔ ∀ s, s < 2 ^ n → ((pc s == l) && f s) = false := by
  unfold hasL
  rw [Bool.not_eq_false', allB_iff]
  constructor
  · intro h s hs
    have := h s hs
    rwa [Bool.not_eq_true'] at this
  · intro h s hs; rw [h s hs]; rfl
theorem leastLevel_V (hP : cP i = nI n) (hn : n ≤ 7) : X0_leastLevel cP (LO V) (HI V) i = some (fstI (hasL (V i) n) (n + 1)) := by
  unfold X0_leastLevel
  have hq := pow_le7 hn
  refine lfp1_fst (F := X0_leastLevel_h2 cP i (LO V) (HI V)) (hasL (V i) n) (n + 1) (fun z => some z) (fun k hk h r => ?_) (fun k hk h r => ?_) (fun r => ?_)
  · unfold X0_leastLevel_h2
    rw [hP, if_neg (nI_nlt (by omega) (by omega)), firstOfLevel_V' hP hn (by omega), bd1_s, nI_1, if_pos]
    rw [fstI_ne (by omega)]
    exact hasL_f.mp h
  · unfold X0_leastLevel_h2
    rw [hP, if_neg (nI_nlt (by omega) (by omega)), firstOfLevel_V' hP hn (by omega), bd1_s, if_neg]
    rw [fstI_ne (by omega)]
    intro q
    rw [hasL_f.mpr q] at h; cases h
  · unfold X0_leastLevel_h2
    rw [hP, if_pos (nI_lt (by omega) (by omega))]
/-- the last of its kind below n, or -1 -/
def lstI (c : Nat → Bool) : Nat → Int32
  | 0 => -1
  | n + 1 => if c n then nI n else lstI c n
theorem greatestLevel_V (hP : cP i = nI n) (hn : n ≤ 7) : X0_greatestLevel cP (LO V) (HI V) i = some (lstI (hasL (V i) n) (n + 1)) := by
  unfold X0_greatestLevel
  have hq := pow_le7 hn
  rw [hP]
  have key : ∀ k, k ≤ n + 1 → lfp1 (X0_greatestLevel_h5 cP (LO V) (HI V) i) (nI k - 1) = some (lstI (hasL (V i) n) k) := by
    intro k
    induction k with
    | zero =>
      intro _
      refine lfp1_done (fun r => ?_)
      unfold X0_greatestLevel_h5
      rw [if_pos (by decide)]; rfl
    | succ k ih =>
      intro hk
      rw [nI_pred]
      cases h : hasL (V i) n k with
      | true =>
        refine lfp1_done (fun r => ?_)
        unfold X0_greatestLevel_h5 lstI
        rw [if_neg (nI_pos (by omega)), firstOfLevel_V' hP hn (by omega), bd1_s, if_neg, h, if_pos rfl]
        rw [fstI_ne (by omega)]
        intro q
        rw [hasL_f.mpr q] at h; cases h
      | false =>
        rw [lfp1_step (b1 := nI k - 1)]
        · unfold lstI; rw [h, if_neg (by decide)]; exact ih (by omega)
        · intro r
          unfold X0_greatestLevel_h5
          rw [if_neg (nI_pos (by omega)), firstOfLevel_V' hP hn (by omega), bd1_s, if_pos]
          · exact congrArg r (Int32.sub_eq_add_neg (nI k) 1).symm
          · rw [fstI_ne (by omega)]
            exact hasL_f.mp h
  have := key (n + 1) (Nat.le_refl _)
  rw [nI_pred] at this
  exact this
theorem nb_or (g : Nat → Bool) {k : Nat} (hk : k < 7) : nI (nb g k) ||| nI (2 ^ k) = nI (2 ^ k * 1 + nb g k) := by
  have h1 := nb_lt g k
  have h2 := pow7 k hk
  have h3 : nb g k < 128 := by omega
  rw [lor_nI _ h3 _ h2]
  congr 1
  rw [Nat.mul_one, Nat.or_comm]
  have := Nat.two_pow_add_eq_or_of_lt h1 1
  rw [Nat.mul_one] at this
  exact this.symm
theorem bits_loop {F : (Int32 → Int32 → Option Int32) → Int32 → Int32 → Option Int32} (g : Nat → Bool) (N : Nat) (hN : N ≤ 7) (hs : ∀ k, k < N → ∀ x r, F r x (nI k) = r (if g k then x ||| nI (2 ^ k) else x) (nI (k + 1))) (he : ∀ x r, F r x (nI N) = some x) : lfp2 F 0 0 = some (nI (nb g N)) := by
  exact lfp2_for (F := F) (y := some (nI (nb g N))) N (fun k => nI (nb g k)) (fun k => nI k) (fun k hk r => by
    rw [hs k hk]
    congr 1
    show _ = nI (2 ^ k * (if g k then 1 else 0) + nb g k)
    cases g k with
    | true => rw [if_pos rfl, if_pos rfl]; exact nb_or g (by omega)
    | false => rw [if_neg (by decide), if_neg (by decide)]; congr 1; omega) (fun r => he _ r)
theorem pointsOfSome_V (hP : cP i = nI n) (hn : n ≤ 7) : X0_pointsOfSome cP (LO V) (HI V) i = some (nI (nb (fun p => decide (0 < cnt (fun s => V i s && s.testBit p) 128)) n)) := by
  unfold X0_pointsOfSome
  refine bits_loop _ n hn (fun k hk x r => ?_) (fun x r => ?_)
  · unfold X0_pointsOfSome_h4
    have hc := cnt_le (fun s => V i s && s.testBit k) 128
    rw [hP, if_neg (nI_ge hk (by omega)), degreeOf_V (by omega), bd1_s, nI_1, shl1 _ (by omega)]
    by_cases e : 0 < cnt (fun s => V i s && s.testBit k) 128
    · rw [if_neg (nI_nle e (by omega)), decide_eq_true e, if_pos rfl]
    · rw [if_pos (by rw [show cnt (fun s => V i s && s.testBit k) 128 = 0 by omega]; decide), decide_eq_false e, if_neg (by decide)]
  · unfold X0_pointsOfSome_h4
    rw [hP, if_pos (nI_le (Nat.le_refl _) (by omega))]
theorem pointsOfAll_V (hP : cP i = nI n) (hn : n ≤ 7) : X0_pointsOfAll cP (LO V) (HI V) i = some (nI (nb (fun p => decide (cnt (fun s => V i s && s.testBit p) 128 = cnt (V i) 128)) n)) := by
  unfold X0_pointsOfAll
  refine bits_loop _ n hn (fun k hk x r => ?_) (fun x r => ?_)
  · unfold X0_pointsOfAll_h4
    have hc := cnt_le (fun s => V i s && s.testBit k) 128
    have hc2 := cnt_le (V i) 128
    rw [hP, if_neg (nI_ge hk (by omega)), degreeOf_V (by omega), bd1_s, size_V, bd1_s, nI_1, shl1 _ (by omega)]
    by_cases e : cnt (fun s => V i s && s.testBit k) 128 = cnt (V i) 128
    · rw [if_pos (by rw [e]), decide_eq_true e, if_pos rfl]
    · rw [if_neg (fun q => e ((nI_eq (by omega) (by omega)).mp q)), decide_eq_false e, if_neg (by decide)]
  · unfold X0_pointsOfAll_h4
    rw [hP, if_pos (nI_le (Nat.le_refl _) (by omega))]
end CLASS
section REF
variable {mnow : Nat → Int32} {j : Nat} {v : FV}
theorem X9_degreeOf_eq (hj : j < 3) (hM : FamM mnow (129 * j) v) {p : Nat} (hp : p < 7) : X9_degreeOf mnow (nI j) (nI p) = some (nI (cnt (fun s => v.2 s && s.testBit p) 128)) := by
  unfold X9_degreeOf
  have := lfp2_cnt (F := X9_degreeOf_h5 mnow (nI j) (nI p)) (fun s => v.2 s && s.testBit p) 128 0 (fun a => some (nI a)) (fun k hk a r => by
    unfold X9_degreeOf_h5
    rw [if_neg (inn128 hk), X9_isIn_eq hj hM hk, bd1_s, X9_hasBit_eq hk hp, bd1_s, ib0, ib0, nI_1, nI_1, Int32.add_zero]
    cases v.2 k <;> cases k.testBit p <;> rfl) (fun a r => by
    unfold X9_degreeOf_h5
    rw [if_pos i128])
  rw [Nat.zero_add] at this
  exact this
theorem X9_kth_eq (hj : j < 3) (hM : FamM mnow (129 * j) v) {K : Nat} (hK : K < 2 ^ 31) : X9_kth mnow (nI j) (nI K) = some (kthI v.2 128 K) := by
  unfold X9_kth
  have hc0 : ∀ k, k ≤ 128 → (∀ t, t < k → (v.2 t && (cnt v.2 t == K)) = false) → cnt v.2 k ≤ K := by
    intro k
    induction k with
    | zero => intro _ _; exact Nat.zero_le K
    | succ k ih =>
      intro hk h
      have h1 := ih (by omega) (fun t ht => h t (by omega))
      have h2 := h k (by omega)
      rw [cnt_succ]
      cases hv : v.2 k with
      | false => simpa using h1
      | true =>
        rw [hv, Bool.true_and, beq_eq_false_iff_ne] at h2
        rw [if_pos rfl]; omega
  rcases first_or (fun s => v.2 s && (cnt v.2 s == K)) 128 with ⟨s, h1, h2, h3⟩ | h
  · have h2' := h2
    rw [Bool.and_eq_true, beq_iff_eq] at h2
    rw [kthI_at h1 h2.1 h2.2 h3]
    have := lfp2_for (F := X9_kth_h5 mnow (nI j)) (y := some (nI s)) s (fun k => nI (K - cnt v.2 k)) (fun k => nI k) (fun k q r => by
      have g1 := hc0 k (by omega) (fun t ht => h3 t (by omega))
      have g2 := h3 k q
      unfold X9_kth_h5
      rw [if_neg (inn128 (by omega)), X9_isIn_eq hj hM (by omega), bd1_s, ib0, nI_1, cnt_succ]
      cases hv : v.2 k with
      | false => rfl
      | true =>
        rw [hv, Bool.true_and, beq_eq_false_iff_ne] at g2
        rw [if_pos rfl, if_pos rfl, if_neg (nI_ne0 (by omega) (by omega))]
        obtain ⟨d, hd⟩ : ∃ d, K - cnt v.2 k = d + 1 := ⟨K - cnt v.2 k - 1, by omega⟩
        rw [hd, pk_m1, show K - (cnt v.2 k + 1) = d by omega]) (fun r => by
      unfold X9_kth_h5
      rw [if_neg (inn128 h1), X9_isIn_eq hj hM h1, bd1_s, h2.1, h2.2, Nat.sub_self]; rfl)
    exact this
  · rw [kthI_no h]
    have := lfp2_for (F := X9_kth_h5 mnow (nI j)) (y := some (-1)) 128 (fun k => nI (K - cnt v.2 k)) (fun k => nI k) (fun k q r => by
      have g1 := hc0 k (by omega) (fun t ht => h t (by omega))
      have g2 := h k q
      unfold X9_kth_h5
      rw [if_neg (inn128 q), X9_isIn_eq hj hM q, bd1_s, ib0, nI_1, cnt_succ]
      cases hv : v.2 k with
      | false => rfl
      | true =>
        rw [hv, Bool.true_and, beq_eq_false_iff_ne] at g2
        rw [if_pos rfl, if_pos rfl, if_neg (nI_ne0 (by omega) (by omega))]
        obtain ⟨d, hd⟩ : ∃ d, K - cnt v.2 k = d + 1 := ⟨K - cnt v.2 k - 1, by omega⟩
        rw [hd, pk_m1, show K - (cnt v.2 k + 1) = d by omega]) (fun r => by
      unfold X9_kth_h5
      rw [if_pos i128])
    exact this
end REF
