/-! flowers -/
theorem le_nohit {c : Nat → Bool} {B K : Nat} (hB : B < 2 ^ 31) (hK : K < 2 ^ 31) (h : ∀ x, x < B → hitB c (nI K) x = false) : cnt c B ≤ K := by
  apply Classical.byContradiction
  intro hn
  obtain ⟨s, h1, _, h2, h3⟩ := kthI_ex (c := c) (N := B) (K := K) (by omega)
  have := h s h1
  unfold hitB at this
  rw [h2, h3, decide_eq_true rfl] at this
  cases this
def flR (f : Nat → Bool) (a b c : Nat) : Bool := f c && (decide (b < c) && decide (c &&& (a ||| b) = a &&& b))
def flC (f : Nat → Bool) (x : Nat) : Bool := f (x / 16384) && (f (x / 128 % 128) && (decide (x / 16384 < x / 128 % 128) && flR f (x / 16384) (x / 128 % 128) (x % 128)))
def flD (x : Nat) : Int32 := nI (1000000 * (x / 16384) + 1000 * (x / 128 % 128) + x % 128)
theorem flC_row {f : Nat → Bool} {a b c : Nat} (hb : b < 128) (hc : c < 128) : flC f ((a * 128 + b) * 128 + c) = (f a && (f b && (decide (a < b) && flR f a b c))) := by
  unfold flC
  rw [show ((a * 128 + b) * 128 + c) / 16384 = a by omega, show ((a * 128 + b) * 128 + c) / 128 % 128 = b by omega, show ((a * 128 + b) * 128 + c) % 128 = c by omega]
theorem flD_row {a b c : Nat} (hb : b < 128) (hc : c < 128) : flD ((a * 128 + b) * 128 + c) = nI (1000000 * a + 1000 * b + c) := by
  unfold flD
  rw [show ((a * 128 + b) * 128 + c) / 16384 = a by omega, show ((a * 128 + b) * 128 + c) / 128 % 128 = b by omega, show ((a * 128 + b) * 128 + c) % 128 = c by omega]
theorem fl_next {f : Nat → Bool} {a b : Nat} (hb : b < 128) : cnt (flC f) ((a * 128 + (b + 1)) * 128) = cnt (flC f) ((a * 128 + b) * 128) + if (f a && (f b && decide (a < b))) = true then cnt (flR f a b) 128 else 0 := by
  rw [show (a * 128 + (b + 1)) * 128 = (a * 128 + b) * 128 + 128 by omega, cnt_add]
  congr 1
  cases hc : (f a && (f b && decide (a < b))) with
  | true =>
    rw [if_pos rfl]
    rw [Bool.and_eq_true, Bool.and_eq_true] at hc
    exact cnt_congr fun t ht => by rw [flC_row hb ht, hc.1, hc.2.1, hc.2.2]; rfl
  | false =>
    rw [if_neg (by decide)]
    refine cnt_false fun t ht => ?_
    rw [flC_row hb ht]
    cases h1 : f a with
    | false => rfl
    | true =>
      cases h2 : f b with
      | false => rfl
      | true =>
        rw [h1, h2, Bool.true_and, Bool.true_and] at hc
        rw [hc]; rfl
theorem fl_same {f : Nat → Bool} {a b d : Nat} (hd : b + d ≤ 128) (h : ∀ t, b ≤ t → t < b + d → (f a && (f t && decide (a < t))) = false) : cnt (flC f) ((a * 128 + (b + d)) * 128) = cnt (flC f) ((a * 128 + b) * 128) := by
  induction d with
  | zero => rfl
  | succ d ih =>
    rw [show b + (d + 1) = b + d + 1 from rfl, fl_next (by omega), h (b + d) (by omega) (by omega), if_neg (by decide), Nat.add_zero]
    exact ih (by omega) (fun t h1 h2 => h t h1 (by omega))
theorem fl_bit {a b c : Nat} : c &&& (a ||| b) = a &&& b ↔ a &&& b = a &&& c ∧ a &&& b = b &&& c := by
  constructor
  · intro h
    constructor <;> (apply Nat.eq_of_testBit_eq; intro p; have := congrArg (fun z => z.testBit p) h; simp only [Nat.testBit_and, Nat.testBit_or] at this ⊢; revert this; cases a.testBit p <;> cases b.testBit p <;> cases c.testBit p <;> simp)
  · rintro ⟨h1, h2⟩
    apply Nat.eq_of_testBit_eq
    intro p
    have u := congrArg (fun z => z.testBit p) h1
    have v := congrArg (fun z => z.testBit p) h2
    simp only [Nat.testBit_and, Nat.testBit_or] at u v ⊢
    revert u v
    cases a.testBit p <;> cases b.testBit p <;> cases c.testBit p <;> simp
section
variable {cP : Nat → Int32} {V : Nat → Nat → Bool} {j n : Nat}
/-- one row of the class -/
theorem flower_row (hj : j ≠ 3) (hP : cP j = nI n) (hn : n ≤ 7) (hi : inN n (V j)) {p : Int32} (hp : p = -1 ∨ ∃ K, K < 2 ^ 31 ∧ p = nI K) {a b : Nat} (ha : a < 2 ^ n) (hfa : V j a = true) (hb : b < 2 ^ n) (hab : a < b) (hno : ∀ x, x < (a * 128 + b) * 128 → hitB (flC (V j)) p x = false) (x : Int32) (g : Nat → Bool) :
    (∃ t x' g', t < 128 ∧ hitB (flC (V j)) p ((a * 128 + b) * 128 + t) = true ∧ ∀ r7 r, X8_findFlower_h32 j r7 (nI a) p r (nI (cnt (flC (V j)) ((a * 128 + b) * 128))) (nI b) (va_up cP 3 x) (LO (va_up V 3 g)) (HI (va_up V 3 g)) = some (flD ((a * 128 + b) * 128 + t), va_up cP 3 x', LO (va_up V 3 g'), HI (va_up V 3 g'))) ∨
    (∃ x' g', (∀ t, t < 128 → hitB (flC (V j)) p ((a * 128 + b) * 128 + t) = false) ∧ ∀ r7 r, X8_findFlower_h32 j r7 (nI a) p r (nI (cnt (flC (V j)) ((a * 128 + b) * 128))) (nI b) (va_up cP 3 x) (LO (va_up V 3 g)) (HI (va_up V 3 g)) = r (nI (cnt (flC (V j)) ((a * 128 + (b + 1)) * 128))) (nI (b + 1)) (va_up cP 3 x') (LO (va_up V 3 g')) (HI (va_up V 3 g'))) := by
  have hq := pow_le7 hn
  have hsp : X0_span (va_up cP 3 x) j = some (nI (2 ^ n)) := X0_span_eq (by rw [up_ne hj]; exact hP) hn
  have hcl := cnt_le (flC (V j)) ((a * 128 + b) * 128)
  cases hfb : V j b with
  | false =>
    right
    refine ⟨x, g, fun t ht => ?_, fun r7 r => ?_⟩
    · unfold hitB; rw [flC_row (by omega) ht, hfb, Bool.false_and, Bool.and_false, Bool.false_and]
    · unfold X8_findFlower_h32
      rw [hsp, bd1_s, if_neg (nI_ge hb (by omega)), holds_V (by omega), bd1_s, up_ne hj, hfb, bf0, nI_1, show cnt (flC (V j)) ((a * 128 + (b + 1)) * 128) = cnt (flC (V j)) ((a * 128 + b) * 128) from by rw [fl_next (by omega), hfb, Bool.false_and, Bool.and_false]; rfl]
  | true =>
    have hor : a ||| b < 128 := or_128 (by omega) (by omega)
    have han : a &&& b < 128 := and_128l (by omega)
    have hcell : ∀ s, s < 128 → (ksW (a ||| b) (a &&& b) (V j) 7 s && decide (b < s)) = flR (V j) a b s := fun s hs => by
      rw [ks_eq hs hor]
      have e : (a &&& b) &&& (a ||| b) = a &&& b := sub7.mpr fun p hp => by
        rw [Nat.testBit_and, Bool.and_eq_true] at hp
        rw [Nat.testBit_or, hp.1]; rfl
      rw [e]
      unfold flR
      cases V j s with
      | false => rfl
      | true => rw [Bool.true_and, Bool.true_and, Bool.and_comm]
    have hsz : cnt (fun s => ksW (a ||| b) (a &&& b) (V j) 7 s && decide (b < s)) 128 = cnt (flR (V j) a b) 128 := cnt_congr hcell
    have hcl2 := cnt_le (flR (V j) a b) 128
    have hnx : cnt (flC (V j)) ((a * 128 + (b + 1)) * 128) = cnt (flC (V j)) ((a * 128 + b) * 128) + cnt (flR (V j) a b) 128 := by
      rw [fl_next (by omega), hfa, hfb, decide_eq_true hab]; rfl
    have hrow : ∀ t, t < 128 → flC (V j) ((a * 128 + b) * 128 + t) = flR (V j) a b t := fun t ht => by rw [flC_row (by omega) ht, hfa, hfb, decide_eq_true hab]; rfl
    have body : ∀ r7 r, X8_findFlower_h32 j r7 (nI a) p r (nI (cnt (flC (V j)) ((a * 128 + b) * 128))) (nI b) (va_up cP 3 x) (LO (va_up V 3 g)) (HI (va_up V 3 g)) = (if p = (-1 : Int32) then r (nI (cnt (flC (V j)) ((a * 128 + b) * 128)) + nI (cnt (flR (V j) a b) 128)) (nI (b + 1)) (va_up cP 3 (nI n)) (LO (va_up V 3 (fun s => ksW (a ||| b) (a &&& b) (V j) 7 s && decide (b < s)))) (HI (va_up V 3 (fun s => ksW (a ||| b) (a &&& b) (V j) 7 s && decide (b < s)))) else (if nI (cnt (flR (V j) a b) 128) ≤ (p - nI (cnt (flC (V j)) ((a * 128 + b) * 128))) then r (nI (cnt (flC (V j)) ((a * 128 + b) * 128)) + nI (cnt (flR (V j) a b) 128)) (nI (b + 1)) (va_up cP 3 (nI n)) (LO (va_up V 3 (fun s => ksW (a ||| b) (a &&& b) (V j) 7 s && decide (b < s)))) (HI (va_up V 3 (fun s => ksW (a ||| b) (a &&& b) (V j) 7 s && decide (b < s)))) else bd1 (X0_pick (va_up cP 3 (nI n)) (LO (va_up V 3 (fun s => ksW (a ||| b) (a &&& b) (V j) 7 s && decide (b < s)))) (HI (va_up V 3 (fun s => ksW (a ||| b) (a &&& b) (V j) 7 s && decide (b < s)))) 3 (p - nI (cnt (flC (V j)) ((a * 128 + b) * 128)))) (fun q42 => some (((((1000000 : Int32) * nI a) + ((1000 : Int32) * nI b)) + q42), va_up cP 3 (nI n), LO (va_up V 3 (fun s => ksW (a ||| b) (a &&& b) (V j) 7 s && decide (b < s))), HI (va_up V 3 (fun s => ksW (a ||| b) (a &&& b) (V j) 7 s && decide (b < s))))))) := by
      intro r7 r
      unfold X8_findFlower_h32
      rw [hsp, bd1_s, if_neg (nI_ge hb (by omega)), holds_V (by omega), bd1_s, up_ne hj, hfb, bt0, become_V, bd3_s, lor_nI', land_nI', keepSharing_V hor han, bd2_s, keepBehind_V (by omega), bd2_s, size_V, bd1_s, nI_1]
      simp only [up_at, bx_uu, up_ne hj, hP, hsz]
    rcases hp with rfl | ⟨K, hK, rfl⟩
    · right
      exact ⟨_, _, fun t ht => noHit1 (by omega), fun r7 r => by rw [body, if_pos rfl, nI_add, hnx]⟩
    · have hle := le_nohit (by omega) hK hno
      have hsub : nI K - nI (cnt (flC (V j)) ((a * 128 + b) * 128)) = nI (K - cnt (flC (V j)) ((a * 128 + b) * 128)) := pk_sub hle
      by_cases q : cnt (flR (V j) a b) 128 ≤ K - cnt (flC (V j)) ((a * 128 + b) * 128)
      · right
        refine ⟨_, _, fun t ht => ?_, fun r7 r => by rw [body, if_neg (ne_m1 hK), hsub, if_pos (nI_le q (by omega)), nI_add, hnx]⟩
        exact noHit hK (M := (a * 128 + (b + 1)) * 128) (by omega) (by rw [hnx]; omega) _ (by omega)
      · left
        obtain ⟨t, h1, h2, h3, h4⟩ := kthI_ex (c := fun s => ksW (a ||| b) (a &&& b) (V j) 7 s && decide (b < s)) (N := 2 ^ n) (K := K - cnt (flC (V j)) ((a * 128 + b) * 128)) (by
          rw [← cnt_cut hq (fun s hs h => ?_), hsz]
          · omega
          · rw [hcell s hs] at h
            unfold flR at h
            rw [Bool.and_eq_true] at h
            exact hi s h.1)
        refine ⟨t, nI n, _, by omega, ?_, fun r7 r => by rw [body, if_neg (ne_m1 hK), hsub, if_neg (nI_ge (by omega) (by omega)), pick_V (n := n) up_at hn (by omega), bd1_s, up_at, h2, flD_row (by omega) (by omega), show (1000000 : Int32) * nI a = nI (1000000 * a) from pk_mul 1000000 a, show (1000 : Int32) * nI b = nI (1000 * b) from pk_mul 1000 b, nI_add, nI_add]⟩
        unfold hitB
        rw [hrow t (by omega), ← hcell t (by omega), h3, Bool.true_and, decide_eq_true_eq, cnt_add]
        congr 1
        rw [cnt_congr (c := fun u => flC (V j) ((a * 128 + b) * 128 + u)) (d := fun s => ksW (a ||| b) (a &&& b) (V j) 7 s && decide (b < s)) (n := t) (fun u hu => by rw [hrow u (by omega), hcell u (by omega)]), h4]
        omega
theorem findFlower_V (hj : j ≠ 3) (hP : cP j = nI n) (hn : n ≤ 7) (hi : inN n (V j)) {p : Int32} (hp : p = -1 ∨ ∃ K, K < 2 ^ 31 ∧ p = nI K) : ∃ v x g, X8_findFlower cP (LO V) (HI V) j p = some (v, va_up cP 3 x, LO (va_up V 3 g), HI (va_up V 3 g)) ∧ SpecI (flC (V j)) 2097152 p flD v := by
  have hq := pow_le7 hn
  unfold X8_findFlower
  refine lfp5_inv (F := X8_findFlower_h5 j p) (fun o => ∃ v x g, o = some (v, va_up cP 3 x, LO (va_up V 3 g), HI (va_up V 3 g)) ∧ SpecI (flC (V j)) 2097152 p flD v) (2 ^ n) (fun k s a c lo hi => s = nI (cnt (flC (V j)) (k * 128 * 128)) ∧ a = nI k ∧ (∃ x g, c = va_up cP 3 x ∧ lo = LO (va_up V 3 g) ∧ hi = HI (va_up V 3 g)) ∧ ∀ x, x < k * 128 * 128 → hitB (flC (V j)) p x = false) (fun k s a c lo hi' hk hI => ?_) (fun s a c lo hi' hI => ?_) ⟨rfl, rfl, ⟨cP 3, V 3, by rw [up_self], by rw [up_self], by rw [up_self]⟩, fun x hx => by omega⟩
  · obtain ⟨rfl, rfl, ⟨x, g, rfl, rfl, rfl⟩, hno⟩ := hI
    have hsp : X0_span (va_up cP 3 x) j = some (nI (2 ^ n)) := X0_span_eq (by rw [up_ne hj]; exact hP) hn
    cases hfa : V j k with
    | false =>
      right
      have hsame : cnt (flC (V j)) ((k + 1) * 128 * 128) = cnt (flC (V j)) (k * 128 * 128) := by
        have := fl_same (f := V j) (a := k) (b := 0) (d := 128) (by omega) (fun t _ _ => by rw [hfa, Bool.false_and])
        rwa [show (k * 128 + (0 + 128)) * 128 = (k + 1) * 128 * 128 by omega, show (k * 128 + 0) * 128 = k * 128 * 128 by omega] at this
      refine ⟨nI (cnt (flC (V j)) (k * 128 * 128)), nI (k + 1), _, _, _, fun r => by
        unfold X8_findFlower_h5
        rw [hsp, bd1_s, if_neg (nI_ge hk (by omega)), holds_V (by omega), bd1_s, up_ne hj, hfa, bf0, nI_1], by rw [hsame], rfl, ⟨x, g, rfl, rfl, rfl⟩, fun y hy => ?_⟩
      by_cases w : y < k * 128 * 128
      · exact hno y w
      · unfold hitB flC
        rw [show y / 16384 = k by omega, hfa, Bool.false_and, Bool.false_and]
    | true =>
      have hstart : cnt (flC (V j)) ((k * 128 + (k + 1)) * 128) = cnt (flC (V j)) (k * 128 * 128) := by
        have := fl_same (f := V j) (a := k) (b := 0) (d := k + 1) (by omega) (fun t _ ht => by rw [decide_eq_false (by omega), Bool.and_false, Bool.and_false])
        rwa [show (k * 128 + (0 + (k + 1))) * 128 = (k * 128 + (k + 1)) * 128 by omega, show (k * 128 + 0) * 128 = k * 128 * 128 by omega] at this
      have hno1 : ∀ y, y < (k * 128 + (k + 1)) * 128 → hitB (flC (V j)) p y = false := fun y hy => by
        by_cases w : y < k * 128 * 128
        · exact hno y w
        · unfold hitB flC
          rw [show y / 16384 = k by omega, decide_eq_false (show ¬ k < y / 128 % 128 by omega), Bool.false_and, Bool.and_false, Bool.and_false, Bool.false_and]
      have inner : ∀ d, k + 1 + d ≤ 2 ^ n → (∃ v x' g', SpecI (flC (V j)) 2097152 p flD v ∧ ∀ r7, lfp5 (X8_findFlower_h32 j r7 (nI k) p) (nI (cnt (flC (V j)) ((k * 128 + (k + 1)) * 128))) (nI (k + 1)) (va_up cP 3 x) (LO (va_up V 3 g)) (HI (va_up V 3 g)) = some (v, va_up cP 3 x', LO (va_up V 3 g'), HI (va_up V 3 g'))) ∨ (∃ x' g', (∀ y, y < (k * 128 + (k + 1 + d)) * 128 → hitB (flC (V j)) p y = false) ∧ ∀ r7, lfp5 (X8_findFlower_h32 j r7 (nI k) p) (nI (cnt (flC (V j)) ((k * 128 + (k + 1)) * 128))) (nI (k + 1)) (va_up cP 3 x) (LO (va_up V 3 g)) (HI (va_up V 3 g)) = lfp5 (X8_findFlower_h32 j r7 (nI k) p) (nI (cnt (flC (V j)) ((k * 128 + (k + 1 + d)) * 128))) (nI (k + 1 + d)) (va_up cP 3 x') (LO (va_up V 3 g')) (HI (va_up V 3 g'))) := by
        intro d
        induction d with
        | zero => intro _; exact Or.inr ⟨x, g, hno1, fun r7 => rfl⟩
        | succ d ih =>
          intro hd
          rcases ih (by omega) with h | ⟨x1, g1, h1, h2⟩
          · exact Or.inl h
          · rcases flower_row hj hP hn hi hp (a := k) (b := k + 1 + d) hk hfa (by omega) (by omega) h1 x1 g1 with ⟨t, x2, g2, q1, q2, q3⟩ | ⟨x2, g2, q1, q2⟩
            · left
              exact ⟨_, x2, g2, Or.inl ⟨(k * 128 + (k + 1 + d)) * 128 + t, by omega, q2, rfl⟩, fun r7 => (h2 r7).trans (lfp5_done fun r => q3 r7 r)⟩
            · right
              refine ⟨x2, g2, fun y hy => ?_, fun r7 => (h2 r7).trans (lfp5_step fun r => q2 r7 r)⟩
              by_cases w : y < (k * 128 + (k + 1 + d)) * 128
              · exact h1 y w
              · have := q1 (y - (k * 128 + (k + 1 + d)) * 128) (by omega)
                rwa [show (k * 128 + (k + 1 + d)) * 128 + (y - (k * 128 + (k + 1 + d)) * 128) = y by omega] at this
      have hentry : ∀ r, X8_findFlower_h5 j p r (nI (cnt (flC (V j)) (k * 128 * 128))) (nI k) (va_up cP 3 x) (LO (va_up V 3 g)) (HI (va_up V 3 g)) = lfp5 (X8_findFlower_h32 j r (nI k) p) (nI (cnt (flC (V j)) ((k * 128 + (k + 1)) * 128))) (nI (k + 1)) (va_up cP 3 x) (LO (va_up V 3 g)) (HI (va_up V 3 g)) := fun r => by
        unfold X8_findFlower_h5
        rw [hsp, bd1_s, if_neg (nI_ge hk (by omega)), holds_V (by omega), bd1_s, up_ne hj, hfa, bt0, nI_1, hstart]
      rcases inner (2 ^ n - (k + 1)) (by omega) with ⟨v, x', g', h1, h2⟩ | ⟨x', g', h1, h2⟩
      · left
        exact ⟨_, fun r => (hentry r).trans (h2 r), v, x', g', rfl, h1⟩
      · right
        rw [show k + 1 + (2 ^ n - (k + 1)) = 2 ^ n by omega] at h1 h2
        have hend : cnt (flC (V j)) ((k + 1) * 128 * 128) = cnt (flC (V j)) ((k * 128 + 2 ^ n) * 128) := by
          have := fl_same (f := V j) (a := k) (b := 2 ^ n) (d := 128 - 2 ^ n) (by omega) (fun t h1 h2 => by
            cases hft : V j t with
            | false => rw [Bool.false_and, Bool.and_false]
            | true => have := hi t hft; omega)
          rwa [show (k * 128 + (2 ^ n + (128 - 2 ^ n))) * 128 = (k + 1) * 128 * 128 by omega] at this
        refine ⟨nI (cnt (flC (V j)) ((k + 1) * 128 * 128)), nI (k + 1), _, _, _, fun r => (hentry r).trans ((h2 r).trans (lfp5_done fun r2 => by
          unfold X8_findFlower_h32
          rw [X0_span_eq (n := n) (by rw [up_ne hj]; exact hP) hn, bd1_s, if_pos (nI_le (Nat.le_refl _) (by omega)), nI_1, hend])), rfl, rfl, ⟨x', g', rfl, rfl, rfl⟩, fun y hy => ?_⟩
        by_cases w : y < (k * 128 + 2 ^ n) * 128
        · exact h1 y w
        · unfold hitB flC
          have hz : V j (y / 128 % 128) = false := by
            cases hft : V j (y / 128 % 128) with
            | false => rfl
            | true => have := hi _ hft; omega
          rw [hz, Bool.false_and, Bool.and_false, Bool.false_and]
  · obtain ⟨rfl, rfl, ⟨x, g, rfl, rfl, rfl⟩, hno⟩ := hI
    have hcut : cnt (flC (V j)) 2097152 = cnt (flC (V j)) (2 ^ n * 128 * 128) := cnt_cut (by omega) fun y _ h => by
      unfold flC at h
      rw [Bool.and_eq_true] at h
      have := hi _ h.1
      omega
    have hnoM : ∀ y, y < 2097152 → hitB (flC (V j)) p y = false := fun y hy => by
      by_cases w : y < 2 ^ n * 128 * 128
      · exact hno y w
      · unfold hitB flC
        have hz : V j (y / 16384) = false := by
          cases hft : V j (y / 16384) with
          | false => rfl
          | true => have := hi _ hft; omega
        rw [hz, Bool.false_and, Bool.false_and]
    refine ⟨if p = -1 then some (nI (cnt (flC (V j)) (2 ^ n * 128 * 128)), va_up cP 3 x, LO (va_up V 3 g), HI (va_up V 3 g)) else some (-1, va_up cP 3 x, LO (va_up V 3 g), HI (va_up V 3 g)), fun r => by
      unfold X8_findFlower_h5
      rw [X0_span_eq (n := n) (by rw [up_ne hj]; exact hP) hn, bd1_s, if_pos (nI_le (Nat.le_refl _) (by omega))], ?_⟩
    by_cases e : p = -1
    · rw [if_pos e]
      exact ⟨_, _, _, rfl, Or.inr ⟨hnoM, by rw [if_pos e, hcut]⟩⟩
    · rw [if_neg e]
      exact ⟨_, _, _, rfl, Or.inr ⟨hnoM, by rw [if_neg e]⟩⟩
end
theorem flower_9 {mnow : Nat → Int32} {j n : Nat} {f : Nat → Bool} (hj : j < 3) (hM : FamM mnow (129 * j) (n, f)) {p : Int32} : ∃ v, lfp2 (X9_flower_h21 p mnow (nI j)) 0 0 = some v ∧ SpecI (flC f) 2097152 p flD v := by
  -- a row that goes by
  have stepc : ∀ a, a < 128 → ∀ b, b < 128 → a < b → f a = true → f b = true → ∀ t, b + 1 ≤ t → t < 128 → hitB (flC f) p ((a * 128 + b) * 128 + t) = false → ∀ r14 r2, X9_flower_h59 r14 (nI b) mnow (nI j) (nI a) p r2 (nI (cnt (flC f) ((a * 128 + b) * 128 + t))) (nI t) = r2 (nI (cnt (flC f) ((a * 128 + b) * 128 + t + 1))) (nI (t + 1)) := by
    intro a ha b hb hab hfa hfb t h1 h2 hh r14 r2
    have e1 : a &&& b < 128 := and_128l ha
    have e2 : a &&& t < 128 := and_128l ha
    have e3 : b &&& t < 128 := and_128l hb
    unfold X9_flower_h59
    rw [if_neg (inn128 h2), isIn9 hj hM hb, bd1_s, hfb, bt0, isIn9 hj hM h2, bd1_s, ib0, land_nI', land_nI', land_nI', nI_1, nI_1, cnt_succ, flC_row hb h2, hfa, hfb, decide_eq_true hab, Bool.true_and, Bool.true_and, Bool.true_and]
    unfold flR
    rw [decide_eq_true (show b < t by omega), Bool.true_and]
    cases hft : f t with
    | false => rfl
    | true =>
      rw [if_pos rfl, Bool.true_and]
      by_cases c1 : a &&& b = a &&& t
      · rw [if_pos (show nI (a &&& b) = nI (a &&& t) by rw [c1])]
        by_cases c2 : a &&& b = b &&& t
        · rw [if_pos (show nI (a &&& b) = nI (b &&& t) by rw [c2]), decide_eq_true (fl_bit.mpr ⟨c1, c2⟩), if_pos rfl, if_neg]
          intro q
          unfold hitB at hh
          rw [flC_row hb h2, hfa, hfb, decide_eq_true hab] at hh
          unfold flR at hh
          rw [hft, decide_eq_true (show b < t by omega), decide_eq_true (fl_bit.mpr ⟨c1, c2⟩), decide_eq_true q] at hh
          cases hh
        · rw [if_neg (fun z => c2 ((nI_eq (by omega) (by omega)).mp z)), decide_eq_false (fun z => c2 (fl_bit.mp z).2)]; rfl
      · rw [if_neg (fun z => c1 ((nI_eq (by omega) (by omega)).mp z)), decide_eq_false (fun z => c1 (fl_bit.mp z).1)]; rfl
  have zrow : ∀ a b, b < 128 → cnt (flC f) ((a * 128 + b) * 128 + (b + 1)) = cnt (flC f) ((a * 128 + b) * 128) := fun a b hb => by
    have hz : cnt (fun t => flC f ((a * 128 + b) * 128 + t)) (b + 1) = 0 := cnt_false fun t ht => by
      rw [flC_row hb (by omega)]
      unfold flR
      rw [decide_eq_false (show ¬ b < t by omega), Bool.false_and, Bool.and_false, Bool.and_false, Bool.and_false, Bool.and_false]
    rw [cnt_add, hz]; rfl
  have rowgo : ∀ a, a < 128 → ∀ b, b < 128 → a < b → f a = true → (∀ t, t < 128 → hitB (flC f) p ((a * 128 + b) * 128 + t) = false) → ∀ r14, lfp2 (X9_flower_h59 r14 (nI b) mnow (nI j) (nI a) p) (nI (cnt (flC f) ((a * 128 + b) * 128))) (nI (b + 1)) = r14 (nI (cnt (flC f) ((a * 128 + (b + 1)) * 128))) (nI (b + 1)) := by
    intro a ha b hb hab hfa hno r14
    cases hfb : f b with
    | false =>
      refine lfp2_done fun r2 => ?_
      unfold X9_flower_h59
      rw [isIn9 hj hM hb, bd1_s, hfb, bf0, nI_1, fl_next hb, hfb, Bool.false_and, Bool.and_false, if_neg (show ¬ (false = true) by decide), Nat.add_zero]
      split <;> rfl
    | true =>
      rw [← zrow a b hb]
      refine scan_hit (c := flC f) (B := (a * 128 + b) * 128) (t := 128) (by omega) (fun u q1 q2 r2 => stepc a ha b hb hab hfa hfb u q1 q2 (hno u q2) r14 r2) (fun r2 => ?_)
      unfold X9_flower_h59
      rw [if_pos i128, nI_1, show (a * 128 + b) * 128 + 128 = (a * 128 + (b + 1)) * 128 by omega]
  have blockgo : ∀ a, a < 128 → f a = true → ∀ d, a + 1 + d ≤ 128 → (∀ y, (a * 128 + (a + 1)) * 128 ≤ y → y < (a * 128 + (a + 1 + d)) * 128 → hitB (flC f) p y = false) → ∀ r8, lfp2 (X9_flower_h35 r8 (nI a) mnow (nI j) p) (nI (cnt (flC f) ((a * 128 + (a + 1)) * 128))) (nI (a + 1)) = lfp2 (X9_flower_h35 r8 (nI a) mnow (nI j) p) (nI (cnt (flC f) ((a * 128 + (a + 1 + d)) * 128))) (nI (a + 1 + d)) := by
    intro a ha hfa d
    induction d with
    | zero => intro _ _ r8; rfl
    | succ d ih =>
      intro hd hno r8
      rw [ih (by omega) (fun y h1 h2 => hno y h1 (by omega)) r8]
      refine lfp2_step fun r14 => ?_
      unfold X9_flower_h35
      rw [if_neg (inn128 (by omega)), isIn9 hj hM ha, bd1_s, hfa, bt0, nI_1]
      exact rowgo a ha (a + 1 + d) (by omega) (by omega) hfa (fun t ht => hno _ (by omega) (by omega)) r14
  have zblock : ∀ a, a < 128 → cnt (flC f) ((a * 128 + (a + 1)) * 128) = cnt (flC f) (a * 128 * 128) := fun a ha => by
    have := fl_same (f := f) (a := a) (b := 0) (d := a + 1) (by omega) (fun t _ ht => by rw [decide_eq_false (by omega), Bool.and_false, Bool.and_false])
    rwa [show (a * 128 + (0 + (a + 1))) * 128 = (a * 128 + (a + 1)) * 128 by omega, show (a * 128 + 0) * 128 = a * 128 * 128 by omega] at this
  have outgo : ∀ a, a < 128 → (∀ y, a * 128 * 128 ≤ y → y < (a + 1) * 128 * 128 → hitB (flC f) p y = false) → ∀ r, X9_flower_h21 p mnow (nI j) r (nI (cnt (flC f) (a * 128 * 128))) (nI a) = r (nI (cnt (flC f) ((a + 1) * 128 * 128))) (nI (a + 1)) := by
    intro a ha hno r
    unfold X9_flower_h21
    rw [if_neg (inn128 ha), nI_1]
    cases hfa : f a with
    | false =>
      refine lfp2_done fun r2 => ?_
      unfold X9_flower_h35
      have hsame : cnt (flC f) ((a + 1) * 128 * 128) = cnt (flC f) (a * 128 * 128) := by
        have := fl_same (f := f) (a := a) (b := 0) (d := 128) (by omega) (fun t _ _ => by rw [hfa, Bool.false_and])
        rwa [show (a * 128 + (0 + 128)) * 128 = (a + 1) * 128 * 128 by omega, show (a * 128 + 0) * 128 = a * 128 * 128 by omega] at this
      rw [isIn9 hj hM ha, bd1_s, hfa, bf0, nI_1, hsame]
      split <;> rfl
    | true =>
      rw [← zblock a ha, blockgo a ha hfa (128 - (a + 1)) (by omega) (fun y h1 h2 => hno y (by omega) (by omega)) r, show a + 1 + (128 - (a + 1)) = 128 by omega]
      refine lfp2_done fun r2 => ?_
      unfold X9_flower_h35
      rw [if_pos i128, nI_1, show (a * 128 + 128) * 128 = (a + 1) * 128 * 128 by omega]
  rcases first_or (hitB (flC f) p) 2097152 with ⟨x, h1, h2, h3⟩ | hno
  · refine ⟨flD x, ?_, Or.inl ⟨x, h1, h2, rfl⟩⟩
    obtain ⟨a, b, c, hb, hc, rfl⟩ : ∃ a b c, b < 128 ∧ c < 128 ∧ x = (a * 128 + b) * 128 + c := ⟨x / 16384, x / 128 % 128, x % 128, by omega, by omega, by omega⟩
    have ha : a < 128 := by omega
    have hh := h2
    unfold hitB at hh
    rw [Bool.and_eq_true, decide_eq_true_eq, flC_row hb hc, Bool.and_eq_true, Bool.and_eq_true, Bool.and_eq_true, decide_eq_true_eq] at hh
    obtain ⟨⟨hfa, hfb, hab, hr⟩, hcnt⟩ := hh
    unfold flR at hr
    rw [Bool.and_eq_true, Bool.and_eq_true, decide_eq_true_eq, decide_eq_true_eq] at hr
    obtain ⟨hfc, hbc, hbits⟩ := hr
    have := lfp2_for (F := X9_flower_h21 p mnow (nI j)) (y := some (flD ((a * 128 + b) * 128 + c))) a (fun k => nI (cnt (flC f) (k * 128 * 128))) (fun k => nI k) (fun k hk r => outgo k (by omega) (fun y _ q2 => h3 y (by omega)) r) (fun r => by
      unfold X9_flower_h21
      rw [if_neg (inn128 ha), nI_1, ← zblock a ha, blockgo a ha hfa (b - (a + 1)) (by omega) (fun y q1 q2 => h3 y (by omega)) r, show a + 1 + (b - (a + 1)) = b by omega]
      refine lfp2_done fun r14 => ?_
      unfold X9_flower_h35
      rw [if_neg (inn128 hb), isIn9 hj hM ha, bd1_s, hfa, bt0, nI_1, ← zrow a b hb]
      refine scan_hit (c := flC f) (B := (a * 128 + b) * 128) (t := c) (by omega) (fun u q1 q2 r2 => stepc a ha b hb hab hfa hfb u q1 (by omega) (h3 _ (by omega)) r14 r2) (fun r2 => ?_)
      obtain ⟨g1, g2⟩ := fl_bit.mp hbits
      unfold X9_flower_h59
      rw [if_neg (inn128 hc), isIn9 hj hM hb, bd1_s, hfb, bt0, isIn9 hj hM hc, bd1_s, hfc, bt0, land_nI', land_nI', land_nI', if_pos (show nI (a &&& b) = nI (a &&& c) by rw [g1]), if_pos (show nI (a &&& b) = nI (b &&& c) by rw [g2]), if_pos hcnt, flD_row hb hc, show (1000000 : Int32) * nI a = nI (1000000 * a) from pk_mul 1000000 a, show (1000 : Int32) * nI b = nI (1000 * b) from pk_mul 1000 b, nI_add, nI_add])
    exact this
  · refine ⟨if p = -1 then nI (cnt (flC f) 2097152) else -1, ?_, Or.inr ⟨hno, rfl⟩⟩
    have := lfp2_for (F := X9_flower_h21 p mnow (nI j)) (y := some (if p = -1 then nI (cnt (flC f) 2097152) else -1)) 128 (fun k => nI (cnt (flC f) (k * 128 * 128))) (fun k => nI k) (fun k hk r => outgo k hk (fun y _ q2 => hno y (by omega)) r) (fun r => by
      unfold X9_flower_h21
      rw [if_pos i128]
      split <;> rfl)
    exact this
section SIM
variable {cP : Nat → Int32} {cLo : Nat → Int64} {cHi : Nat → Int64} {cpl : Nat → Int32} {ctb : Nat → Int32} {ctl : Int32} {ctf : Int32} {ctp : Int32} {ctk : Int32} {cts : Int32} {cth : Int32} {cob : Nat → Int32} {col : Int32} {cso : Nat → Int32} {cha : Int32} {chs : Int32} {cbe : Int32} {ctr : Int32} {cgl : Nat → Int64} {cgh : Nat → Int64} {cll : Nat → Int64} {clh : Nat → Int64} {cta : Nat → Int32} {cme : Nat → Int32} {cps : Int32} {cwh : Nat → Int32} {cal : Nat → Int64} {cah : Nat → Int64} {mthr : Int32} {mfrp : Int32} {mact : Int32} {mtpd : Int32} {msiz : Int32} {matx : Int32} {mfrm : Int32} {mtok : Int32} {mval : Int32} {mfk : Int32} {mfpl : Int32} {mbem : Int32} {mtrs : Int32} {mtrl : Int32} {mrom : Int32} {mtom : Int32} {mnow : Nat → Int32} {mfre : Nat → Int32} {mkep : Nat → Int32} {mtap : Nat → Int32} {mlef : Nat → Int32} {mtak : Nat → Int32} {mbes : Nat → Int32} {mrow : Nat → Int32} {mint : Nat → Int32} {mrnd : Nat → Int32} {mplo : Nat → Int32} {mhio : Nat → Int32} {mtox : Nat → Int32} {mtol : Nat → Int32}
theorem sim_flower {p1 p2 : Int32} (hr : Rel cP cLo cHi ctb ctl ctf ctp cob col cso cha chs mact mtpd mfk mfpl mtom mnow mkep mtap mtol) : ∃ (r : Int32) (ocP : Nat → Int32) (ocLo : Nat → Int64) (ocHi : Nat → Int64), X8_flower cP cLo cHi p1 p2 = some (r, ocP, ocLo, ocHi) ∧ X9_flower mnow p1 p2 = some r ∧ Rel ocP ocLo ocHi ctb ctl ctf ctp cob col cso cha chs mact mtpd mfk mfpl mtom mnow mkep mtap mtol := by
  obtain ⟨V, rfl, rfl, hV⟩ := toV cLo cHi
  unfold X8_flower X9_flower
  rcases famcase hV hr p1 with ⟨j, n, hj, rfl, h0, hn, hi, hP, hM, e1, e2⟩ | ⟨e1, e2⟩
  · rw [e1, bdo_s, e2, bd1_s, i10]
    by_cases hge : (-1 : Int32) ≤ p2
    · rw [if_pos hge, if_pos hge]
      obtain ⟨v, x, g, h1, h2⟩ := findFlower_V (cP := cP) (V := V) (by omega) hP hn hi (i32_m1 hge)
      obtain ⟨w, h3, h4⟩ := flower_9 (p := p2) hj hM
      rw [h1, bd4_s, h3, SpecI_uniq (by decide) h2 h4]
      exact ⟨_, _, _, _, rfl, rfl, keep3 hr _ _⟩
    · rw [if_neg hge, if_neg hge]
      exact ⟨_, _, _, _, rfl, rfl, hr⟩
  · rw [e1, bdo_n, e2, bd1_s, i00]
    exact ⟨_, _, _, _, rfl, rfl, hr⟩
end SIM
