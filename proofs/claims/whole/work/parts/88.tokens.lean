/-! the tape: bytes and tokens -/
theorem all8 {P : Int8 → Prop} (h : ∀ n, n < 256 → P (Int8.ofNat n)) (w : Int8) : P w := by
  have e : Int8.ofNat w.toBitVec.toNat = w := by
    apply Int8.toBitVec_inj.mp
    show BitVec.ofNat 8 w.toBitVec.toNat = w.toBitVec
    rw [BitVec.ofNat_toNat, BitVec.setWidth_eq]
  rw [← e]; exact h _ w.toBitVec.isLt
abbrev kdB (x : Int32) : Nat := if 97 ≤ x ∧ x ≤ 122 then 1 else if 48 ≤ x ∧ x ≤ 57 then 2 else 3
abbrev dgB (x : Int32) : Nat := x.toNatClampNeg - 48
abbrev BFact (x : Int32) : Prop := (¬ (x &&& 255) = -1) ∧ ((x &&& 255) = 32 ↔ x = 32) ∧ ((x &&& 255) = 10 ↔ x = 10) ∧ ((((97 : Nat) : Int) ≤ (x &&& 255).toInt ∧ (x &&& 255).toInt ≤ ((122 : Nat) : Int)) ↔ kdB x = 1) ∧ ((((48 : Nat) : Int) ≤ (x &&& 255).toInt ∧ (x &&& 255).toInt ≤ ((57 : Nat) : Int)) ↔ kdB x = 2) ∧ (kdB x = 2 → (x &&& 255) = x ∧ x = nI (48 + dgB x) ∧ dgB x < 10) ∧ ((x &&& 255) = 44 ↔ x = 44) ∧ ((x &&& 255) = 58 ↔ x = 58) ∧ ((x &&& 255) = 59 ↔ x = 59)
theorem bfact_n : ∀ n, n < 256 → BFact (Int8.ofNat n).toInt32 := by decide +kernel
theorem bfact {x : Int32} (h : ∃ w : Int8, x = w.toInt32) : BFact x := by
  obtain ⟨w, rfl⟩ := h
  exact all8 (P := fun w => BFact w.toInt32) bfact_n w
theorem kdB_cases (x : Int32) : kdB x = 1 ∨ kdB x = 2 ∨ kdB x = 3 := by
  unfold kdB
  by_cases a : 97 ≤ x ∧ x ≤ 122
  · rw [if_pos a]; exact Or.inl rfl
  · rw [if_neg a]
    by_cases b : 48 ≤ x ∧ x ≤ 57
    · rw [if_pos b]; exact Or.inr (Or.inl rfl)
    · rw [if_neg b]; exact Or.inr (Or.inr rfl)
/-- what kind of token stands at i -/
def kkB (B : Nat → Int32) (T i : Nat) : Nat := if i < T then kdB (B i) else 0
def numV (B : Nat → Int32) (s : Nat) : Nat → Nat
  | 0 => 0
  | k + 1 => numV B s k * 10 + dgB (B (s + k))
section
variable {ctb mtap : Nat → Int32} {T : Nat}
theorem kindAt_c (hT : T ≤ 800) {i : Nat} (hi : i ≤ T) : X6_kindAt ctb (nI T) (nI i) = some (nI (kkB ctb T i)) := by
  unfold X6_kindAt kkB
  by_cases q : i < T
  · have j34 : (¬ (97 ≤ ctb i ∧ ctb i ≤ 122)) → X6_kindAt_j34 (nI i) ctb = some (nI (kdB (ctb i))) := fun h => by
      unfold X6_kindAt_j34 kdB
      rw [gin_nI (by omega) (by decide), gin_nI (by omega) (by decide), nI_clamp (by omega), if_neg h]
      by_cases a : ctb i < 48
      · rw [if_pos a, if_neg (fun w => Int32.not_le.mpr a w.1)]; rfl
      · rw [if_neg a]
        by_cases b : 57 < ctb i
        · rw [if_pos b, if_neg (fun w => Int32.not_le.mpr b w.2)]; rfl
        · rw [if_neg b, if_pos ⟨Int32.not_lt.mp a, Int32.not_lt.mp b⟩]; rfl
    rw [if_pos (nI_lt q (by omega)), if_pos q, gin_nI (by omega) (by decide), gin_nI (by omega) (by decide), nI_clamp (by omega)]
    by_cases a : ctb i < 97
    · rw [if_pos a]; exact j34 (fun w => Int32.not_le.mpr a w.1)
    · rw [if_neg a]
      by_cases b : 122 < ctb i
      · rw [if_pos b]; exact j34 (fun w => Int32.not_le.mpr b w.2)
      · rw [if_neg b]
        show _ = some (nI (if 97 ≤ ctb i ∧ ctb i ≤ 122 then 1 else _))
        rw [if_pos ⟨Int32.not_lt.mp a, Int32.not_lt.mp b⟩]; rfl
  · rw [if_neg (nI_nlt (by omega) (by omega)), if_neg q]; rfl
theorem isBlank_c (x : Int32) : X6_isBlank x = some (b01 (decide (x = 32) || decide (x = 10))) := by
  unfold X6_isBlank
  by_cases a : x = 32
  · rw [if_pos a, decide_eq_true a]; rfl
  · rw [if_neg a, decide_eq_false a]
    by_cases b : x = 10
    · rw [if_pos b, decide_eq_true b]; rfl
    · rw [if_neg b, decide_eq_false b]; rfl
theorem see_9 (hT : T ≤ 800) {i : Nat} (hi : i ≤ T) : X9_see (nI T) mtap (nI i) = some (if i < T then (mtap i &&& 255) else -1) := by
  unfold X9_see
  by_cases q : i < T
  · rw [if_neg (nI_ge q (by omega)), if_pos q, gin_nI (by omega) (by decide), nI_clamp (by omega)]
  · rw [if_pos (nI_le (by omega) (by omega)), if_neg q]
/-- what a step to the next token leaves -/
def TKP (B : Nat → Int32) (T a k s e : Nat) : Prop := a ≤ s ∧ s ≤ e ∧ e ≤ T ∧ k < 4 ∧ (k ≠ 0 → s < e) ∧ (k = 2 → ∀ i, s ≤ i → i < e → kdB (B i) = 2)
theorem kkB_m1 : ¬ ((((97 : Nat) : Int) ≤ (-1 : Int32).toInt ∧ (-1 : Int32).toInt ≤ ((122 : Nat) : Int))) := by decide
theorem kkB_m2 : ¬ ((((48 : Nat) : Int) ≤ (-1 : Int32).toInt ∧ (-1 : Int32).toInt ≤ ((57 : Nat) : Int))) := by decide
theorem in97 (hB : ∀ i, i < T → ctb i = mtap i ∧ BFact (ctb i)) {i : Nat} : X9_in (if i < T then (mtap i &&& 255) else (-1 : Int32)).toInt64 (97 : Int64) (122 : Int64) = some (b01 (decide (kkB ctb T i = 1))) := by
  rw [X9_in_n (a := 97) (b := 122) (by decide) (by decide) rfl rfl]
  congr 2
  unfold kkB
  by_cases q : i < T
  · obtain ⟨e, f⟩ := hB i q
    rw [if_pos q, if_pos q, ← e]
    exact decide_eq_decide.mpr f.2.2.2.1
  · rw [if_neg q, if_neg q]; rfl
theorem in48 (hB : ∀ i, i < T → ctb i = mtap i ∧ BFact (ctb i)) {i : Nat} : X9_in (if i < T then (mtap i &&& 255) else (-1 : Int32)).toInt64 (48 : Int64) (57 : Int64) = some (b01 (decide (kkB ctb T i = 2))) := by
  rw [X9_in_n (a := 48) (b := 57) (by decide) (by decide) rfl rfl]
  congr 2
  unfold kkB
  by_cases q : i < T
  · obtain ⟨e, f⟩ := hB i q
    rw [if_pos q, if_pos q, ← e]
    exact decide_eq_decide.mpr f.2.2.2.2.1
  · rw [if_neg q, if_neg q]; rfl
theorem nxt_dig {m d : Nat} (_ : d < 10) : nI m * (10 : Int32) + nI (48 + d) - (48 : Int32) = nI (m * 10 + d) := by
  rw [show (10 : Int32) = nI 10 from rfl, pk_mul, nI_add, show (48 : Int32) = nI 48 from rfl, pk_sub (by omega), show m * 10 + (48 + d) - 48 = m * 10 + d by omega]
theorem nxt_dig' {m d : Nat} (_ : d < 10) : (10 : Int32) * nI m + nI (48 + d) - (48 : Int32) = nI (m * 10 + d) := by
  rw [show (10 : Int32) = nI 10 from rfl, pk_mul, nI_add, show (48 : Int32) = nI 48 from rfl, pk_sub (by omega), show 10 * m + (48 + d) - 48 = m * 10 + d by omega]
theorem kkB_kd {i k : Nat} (h : kkB ctb T i = k) (hk : k ≠ 0) : i < T ∧ kdB (ctb i) = k := by
  unfold kkB at h
  by_cases q : i < T
  · rw [if_pos q] at h; exact ⟨q, h⟩
  · rw [if_neg q] at h; omega
/-- what a token's value is -/
def vlB (B : Nat → Int32) (k s e : Nat) (m : Int32) : Int32 := if k = 3 then (B s &&& 255) else if k = 2 then nI (min 9999 (numV B s (e - s))) else m
theorem advT (hT : T ≤ 800) (hB : ∀ i, i < T → ctb i = mtap i ∧ BFact (ctb i)) {a : Nat} (ha : a ≤ T) : ∃ k s e, TKP ctb T a k s e ∧ X6_advance ctb (nI T) (nI a) = some (nI k, nI s, nI e) ∧ ∀ mval, X9_advance (nI T) (nI a) mval mtap = some (nI e, nI s, nI k, vlB ctb k s e mval) := by
  rcases first_from (fun i => !(decide (i < T) && (decide (ctb i = 32) || decide (ctb i = 10)))) a (T + 1) with ⟨s, a1, a2, a3, a4⟩ | a4
  · -- blanks are passed
    have hbl : ∀ i, a ≤ i → i < s → i < T ∧ (ctb i = 32 ∨ ctb i = 10) := fun i h1 h2 => by
      have := a4 i h1 h2
      rw [Bool.not_eq_false', Bool.and_eq_true, Bool.or_eq_true, decide_eq_true_eq, decide_eq_true_eq, decide_eq_true_eq] at this
      exact this
    have hns : s < T → ¬ ctb s = 32 ∧ ¬ ctb s = 10 := fun h => by
      rw [Bool.not_eq_true', decide_eq_true h, Bool.true_and, Bool.or_eq_false_iff, decide_eq_false_iff_not, decide_eq_false_iff_not] at a3
      exact a3
    have hc : X6_advance ctb (nI T) (nI a) = X6_advance_j47 ctb (nI T) (nI s) := by
      unfold X6_advance
      refine lfp1_stop a s a1 (fun i h1 h2 r => ?_) (fun r => ?_)
      · obtain ⟨b1, b2⟩ := hbl i h1 h2
        unfold X6_advance_h8
        rw [if_neg (nI_ge b1 (by omega)), gin_nI (by omega) (by decide), nI_clamp (by omega), isBlank_c, bd1_s]
        have : (decide (ctb i = 32) || decide (ctb i = 10)) = true := by
          rw [Bool.or_eq_true, decide_eq_true_eq, decide_eq_true_eq]; exact b2
        rw [this, bt0, nI_1]
      · unfold X6_advance_h8
        by_cases q : s < T
        · obtain ⟨c1, c2⟩ := hns q
          rw [if_neg (nI_ge q (by omega)), gin_nI (by omega) (by decide), nI_clamp (by omega), isBlank_c, bd1_s, decide_eq_false c1, decide_eq_false c2]; rfl
        · rw [if_pos (nI_le (by omega) (by omega))]
    have hr : ∀ (mval : Int32) (y : Option (Int32 × Int32 × Int32 × Int32)), (∀ r, X9_advance_h0 (nI T) mtap mval r (nI s) = y) → X9_advance (nI T) (nI a) mval mtap = y := fun mval y hy => by
      unfold X9_advance
      refine lfp1_stop a s a1 (fun i h1 h2 r => ?_) hy
      obtain ⟨b1, b2⟩ := hbl i h1 h2
      obtain ⟨e, f⟩ := hB i b1
      unfold X9_advance_h0
      rw [see_9 hT (by omega), bd1_s, if_pos b1, ← e]
      rcases b2 with b2 | b2
      · rw [if_pos (f.2.1.mpr b2), nI_1]
      · rw [if_neg (fun w => by rw [f.2.1.mp w] at b2; exact absurd b2 (by decide)), bd1_s, if_pos (f.2.2.1.mpr b2), nI_1]
    have h0 : ∀ (mval : Int32) r, X9_advance_h0 (nI T) mtap mval r (nI s) = (if s < T then (if kkB ctb T s = 1 then lfp1 (X9_advance_h83 (nI T) mtap (nI s) mval) (nI s) else if kkB ctb T s = 2 then lfp2 (X9_advance_h144 (nI T) mtap (nI s)) (nI s) (0 : Int32) else some (nI (s + 1), nI s, (3 : Int32), (ctb s &&& 255))) else some (nI s, nI s, (0 : Int32), mval)) := fun mval r => by
      unfold X9_advance_h0
      rw [see_9 hT (by omega), bd1_s]
      by_cases q : s < T
      · obtain ⟨c1, c2⟩ := hns q
        obtain ⟨e, f⟩ := hB s q
        have i97 := in97 hB (i := s)
        have i48 := in48 hB (i := s)
        rw [if_pos q, ← e] at i97 i48
        rw [if_pos q, if_pos q, ← e, if_neg (fun w => c1 (f.2.1.mp w)), bd1_s, if_neg (fun w => c2 (f.2.2.1.mp w)), bd1_s, if_neg f.1, i97, bd1_s, ib0]
        by_cases w1 : kkB ctb T s = 1
        · rw [decide_eq_true w1, if_pos rfl, if_pos w1]
        · rw [decide_eq_false w1, if_neg Bool.false_ne_true, if_neg w1, i48, bd1_s, ib0, nI_1]
          by_cases w2 : kkB ctb T s = 2
          · rw [decide_eq_true w2, if_pos rfl, if_pos w2]
          · rw [decide_eq_false w2, if_neg Bool.false_ne_true, if_neg w2]
      · rw [if_neg q, if_neg q, if_neg (show ¬ (-1 : Int32) = 32 by decide), bd1_s, if_neg (show ¬ (-1 : Int32) = 10 by decide), bd1_s, if_pos rfl]
    by_cases q : s < T
    · have hk : kkB ctb T s = kdB (ctb s) := by unfold kkB; rw [if_pos q]
      have hj : X6_advance_j47 ctb (nI T) (nI s) = (if nI (kkB ctb T s) = (3 : Int32) then some (nI (kkB ctb T s), nI s, nI (s + 1)) else (if nI (kkB ctb T s) = (0 : Int32) then some (nI (kkB ctb T s), nI s, nI s) else lfp1 (X6_advance_h95 (nI T) (nI (kkB ctb T s)) (nI s) ctb) (nI s))) := by
        unfold X6_advance_j47
        rw [kindAt_c hT (by omega), bd1_s, nI_1]
      have run : ∀ k, kkB ctb T s = k → k = 1 ∨ k = 2 → ∃ e, s < e ∧ e ≤ T ∧ (∀ i, s ≤ i → i < e → kkB ctb T i = k) ∧ kkB ctb T e ≠ k ∧ X6_advance_j47 ctb (nI T) (nI s) = some (nI k, nI s, nI e) := by
        intro k hkk hk12
        rw [hj, hkk]
        rcases first_from (fun i => !decide (kkB ctb T i = k)) s (T + 1) with ⟨e, b1, b2, b3, b4⟩ | b4
        · have b3' : kkB ctb T e ≠ k := by rw [Bool.not_eq_true', decide_eq_false_iff_not] at b3; exact b3
          have b4' : ∀ i, s ≤ i → i < e → kkB ctb T i = k := fun i h1 h2 => by
            have := b4 i h1 h2
            rw [Bool.not_eq_false', decide_eq_true_eq] at this; exact this
          have hse : s < e := by
            by_cases w : e = s
            · rw [w] at b3'; exact absurd hkk b3'
            · omega
          refine ⟨e, hse, by omega, b4', b3', ?_⟩
          rw [if_neg (by rcases hk12 with rfl | rfl <;> decide), if_neg (by rcases hk12 with rfl | rfl <;> decide)]
          refine lfp1_stop s e b1 (fun i h1 h2 r => ?_) (fun r => ?_)
          · have := b4' i h1 h2
            have hiT := (kkB_kd this (by omega)).1
            unfold X6_advance_h95
            rw [if_neg (nI_ge hiT (by omega)), kindAt_c hT (by omega), bd1_s, this, if_pos rfl, nI_1]
          · unfold X6_advance_h95
            by_cases w : e < T
            · have hk4 : kkB ctb T e < 4 := by
                unfold kkB; rw [if_pos w]
                rcases kdB_cases (ctb e) with h | h | h <;> omega
              rw [if_neg (nI_ge w (by omega)), kindAt_c hT (by omega), bd1_s, if_neg (fun v => b3' ((nI_eq (by omega) (by omega)).mp v))]
            · rw [if_pos (nI_le (by omega) (by omega))]
        · have := b4 T (by omega) (by omega)
          rw [Bool.not_eq_false', decide_eq_true_eq] at this
          have := (kkB_kd this (by omega)).1
          omega
      rcases kdB_cases (ctb s) with h | h | h
      · obtain ⟨e, r1, r2, r3, r4, r5⟩ := run 1 (hk.trans h) (Or.inl rfl)
        refine ⟨1, s, e, ⟨a1, by omega, r2, by decide, fun _ => r1, fun w => by omega⟩, hc.trans r5, fun mval => hr mval _ fun r => ?_⟩
        rw [h0 mval r, if_pos q, if_pos (hk.trans h)]
        refine lfp1_stop s e (by omega) (fun i h1 h2 r => ?_) (fun r => ?_)
        · have := r3 i h1 h2
          unfold X9_advance_h83
          rw [see_9 hT (by omega), bd1_s, in97 hB, bd1_s, decide_eq_true this, bt0, nI_1]
        · unfold X9_advance_h83
          rw [see_9 hT (by omega), bd1_s, in97 hB, bd1_s, decide_eq_false r4, bf0]; rfl
      · obtain ⟨e, r1, r2, r3, r4, r5⟩ := run 2 (hk.trans h) (Or.inr rfl)
        refine ⟨2, s, e, ⟨a1, by omega, r2, by decide, fun _ => r1, fun _ i h1 h2 => (kkB_kd (r3 i h1 h2) (by decide)).2⟩, hc.trans r5, fun mval => hr mval _ fun r => ?_⟩
        rw [h0 mval r, if_pos q, if_neg (by rw [hk, h]; decide), if_pos (hk.trans h)]
        have := lfp2_for (F := X9_advance_h144 (nI T) mtap (nI s)) (y := some (nI e, nI s, nI 2, nI (min 9999 (numV ctb s (e - s))))) (e - s) (fun j => nI (s + j)) (fun j => nI (min 9999 (numV ctb s j))) (fun j hj r => ?_) (fun r => ?_)
        · exact this
        · have hkj := r3 (s + j) (by omega) (by omega)
          obtain ⟨q1, q2⟩ := kkB_kd hkj (by decide)
          obtain ⟨e1, f⟩ := hB (s + j) q1
          obtain ⟨f1, f2, f3⟩ := f.2.2.2.2.2.1 q2
          unfold X9_advance_h144
          rw [see_9 hT (by omega), bd1_s, in48 hB, bd1_s, decide_eq_true hkj, bt0, bd1_s, if_pos q1, ← e1, f1, f2, nxt_dig' f3, show (9999 : Int32) = nI 9999 from rfl, imin_nI (by decide) (by omega), nI_1]
          congr 2
          show min 9999 (min 9999 (numV ctb s j) * 10 + dgB (ctb (s + j))) = min 9999 (numV ctb s j * 10 + dgB (ctb (s + j)))
          omega
        · show X9_advance_h144 (nI T) mtap (nI s) r (nI (s + (e - s))) (nI (min 9999 (numV ctb s (e - s)))) = _
          rw [show s + (e - s) = e by omega]
          unfold X9_advance_h144
          rw [see_9 hT (by omega), bd1_s, in48 hB, bd1_s, decide_eq_false r4, bf0]; rfl
      · refine ⟨3, s, s + 1, ⟨a1, by omega, by omega, by decide, fun _ => by omega, fun w => by omega⟩, ?_, fun mval => hr mval _ fun r => ?_⟩
        · rw [hc, hj, hk, h]; rfl
        · rw [h0 mval r, if_pos q, if_neg (by rw [hk, h]; decide), if_neg (by rw [hk, h]; decide)]; rfl
    · have hs : s = T := by omega
      refine ⟨0, s, s, ⟨a1, Nat.le_refl _, by omega, by decide, fun w => absurd rfl w, fun w => by omega⟩, ?_, fun mval => hr mval _ fun r => ?_⟩
      · rw [hc]
        unfold X6_advance_j47
        rw [kindAt_c hT (by omega), bd1_s, show kkB ctb T s = 0 by unfold kkB; rw [if_neg q]]; rfl
      · rw [h0 mval r, if_neg q]; rfl
  · have := a4 T ha (by omega)
    rw [decide_eq_false (Nat.lt_irrefl T)] at this
    cases this
theorem number_c (hT : T ≤ 800) (hB : ∀ i, i < T → ctb i = mtap i ∧ BFact (ctb i)) {s e : Nat} (hse : s ≤ e) (he : e ≤ T) (hd : ∀ i, s ≤ i → i < e → kdB (ctb i) = 2) : X6_number ctb (nI s) (nI e) = some (nI (min 1000 (numV ctb s (e - s)))) := by
  unfold X6_number
  have := lfp2_for (F := X6_number_h7 (nI e) ctb) (y := some (nI (min 1000 (numV ctb s (e - s))))) (e - s) (fun j => nI (min 1000 (numV ctb s j))) (fun j => nI (s + j)) (fun j hj r => ?_) (fun r => ?_)
  · exact this
  · obtain ⟨_, f⟩ := hB (s + j) (by omega)
    obtain ⟨_, f2, f3⟩ := f.2.2.2.2.2.1 (hd (s + j) (by omega) (by omega))
    unfold X6_number_h7
    rw [if_neg (nI_ge (by omega) (by omega)), gin_nI (by omega) (by decide), nI_clamp (by omega), f2, nxt_dig f3, show (1000 : Int32) = nI 1000 from rfl, imin_nI (by decide) (by omega), nI_1]
    congr 2
    show min 1000 (min 1000 (numV ctb s j) * 10 + dgB (ctb (s + j))) = min 1000 (numV ctb s j * 10 + dgB (ctb (s + j)))
    omega
  · show X6_number_h7 (nI e) ctb r (nI (min 1000 (numV ctb s (e - s)))) (nI (s + (e - s))) = _
    rw [show s + (e - s) = e by omega]
    unfold X6_number_h7
    rw [if_pos (nI_le (Nat.le_refl _) (by omega))]
/-- whether a token is one of the words -/
def wdB (B : Nat → Int32) (k s e w : Nat) : Bool := (decide (k = 1) && decide (e - s = stN w)) && allB (fun i => decide (B (s + i) = stB w i)) (stN w)
theorem stlen_w {w : Nat} (hw : w < 2) : stlen w = some (nI (stN w)) := by
  rcases (show w = 0 ∨ w = 1 by omega) with rfl | rfl <;> rfl
theorem stN_le {w : Nat} (hw : w < 2) : stN w ≤ 6 := by
  rcases (show w = 0 ∨ w = 1 by omega) with rfl | rfl <;> decide
theorem stch_n : ∀ w, w < 2 → ∀ i, i < stN w → (((stB w i) &&& (255 : Int32)).toUInt32 % 65536).toInt32 = stB w i := by decide +kernel
theorem stch_w {w i : Nat} (hw : w < 2) (hi : i < stN w) : stch w (nI i) = some (stB w i) := by
  have := stN_le hw
  unfold stch
  rw [gin_nI hi (by omega), nI_clamp (by omega), stch_n w hw i hi]
theorem isWord_c {k s e w : Nat} (hw : w < 2) (hk : k < 4) (hse : s ≤ e) (he : e ≤ 800) : X6_isWord ctb (nI k) (nI s) (nI e) w = some (b01 (wdB ctb k s e w)) := by
  have hl := stN_le hw
  unfold X6_isWord wdB
  by_cases q : k = 1
  · rw [if_pos (show nI k = (1 : Int32) by rw [q]; rfl), stlen_w hw, bd1_s, pk_sub hse, decide_eq_true q, Bool.true_and]
    by_cases v : e - s = stN w
    · rw [if_pos (show nI (e - s) = nI (stN w) by rw [v]), decide_eq_true v, Bool.true_and]
      have := lfp1_all (F := X6_isWord_h28 w (nI s) ctb) (fun i => decide (ctb (s + i) = stB w i)) 0 (stN w) (Nat.zero_le _) (y0 := some 0) (y1 := some 1) (fun i _ hi hc r => ?_) (fun i _ hi hc r => ?_) (fun r => ?_)
      · rw [allF_0] at this
        refine Eq.trans this ?_
        cases allB (fun i => decide (ctb (s + i) = stB w i)) (stN w) <;> rfl
      · unfold X6_isWord_h28
        rw [stlen_w hw, bd1_s, if_neg (nI_ge hi (by omega)), nI_add, gin_nI (by omega) (by decide), stch_w hw hi, bd1_s, nI_clamp (by omega), if_pos (decide_eq_true_eq.mp hc), nI_1]
      · unfold X6_isWord_h28
        rw [stlen_w hw, bd1_s, if_neg (nI_ge hi (by omega)), nI_add, gin_nI (by omega) (by decide), stch_w hw hi, bd1_s, nI_clamp (by omega), if_neg (decide_eq_false_iff_not.mp hc)]
      · unfold X6_isWord_h28
        rw [stlen_w hw, bd1_s, if_pos (nI_le (Nat.le_refl _) (by omega))]
    · rw [if_neg (fun x => v ((nI_eq (by omega) (by omega)).mp x)), decide_eq_false v]; rfl
  · rw [if_neg (show ¬ nI k = (1 : Int32) from fun x => q ((nI_eq (b := 1) (by omega) (by decide)).mp x)), decide_eq_false q]; rfl
theorem isWord_9 {k s e w : Nat} (hw : w < 2) (hk : k < 4) (hse : s ≤ e) (he : e ≤ T) (hT : T ≤ 800) (hB : ∀ i, i < T → ctb i = mtap i ∧ BFact (ctb i)) : X9_isWord (nI e) (nI s) (nI k) 0 mtap w = some (b01 (wdB ctb k s e w)) := by
  have hl := stN_le hw
  have loop : ∀ b : Bool, (b = true → e - s = stN w) → X9_isWord_j36 w (nI s) mtap (b01 b) = some (b01 (b && allB (fun i => decide (mtap (s + i) = stB w i)) (stN w))) := fun b hb => by
    unfold X9_isWord_j36
    cases b with
    | true =>
      have hlen := hb rfl
      refine lfp2_flag (F := X9_isWord_h39 w (nI s) mtap) (fun i => decide (mtap (s + i) = stB w i)) (stN w) (fun x => some (b01 x)) (fun i hi r => ?_) (fun i hi r => ?_) (fun r => ?_) true
      · unfold X9_isWord_h39
        rw [stlen_w hw, bd1_s, if_neg (nI_ge hi (by omega)), if_neg (show ¬ (1 : Int32) = 0 by decide), nI_add, gin_nI (by omega) (by decide), stch_w hw hi, bd1_s, nI_clamp (by omega), nI_1]
        by_cases v : mtap (s + i) = stB w i
        · rw [if_pos v, decide_eq_true v]; rfl
        · rw [if_neg v, decide_eq_false v]; rfl
      · unfold X9_isWord_h39
        rw [stlen_w hw, bd1_s]
        by_cases v : stN w ≤ i
        · rw [if_pos (nI_le v (by omega))]; exact gbo_0
        · rw [if_neg (nI_ge (by omega) (by omega)), if_pos rfl]; exact gbo_0
      · unfold X9_isWord_h39
        rw [stlen_w hw, bd1_s, if_pos (nI_le (Nat.le_refl _) (by omega))]; exact gbo_1
    | false =>
      refine lfp2_done fun r => ?_
      unfold X9_isWord_h39
      rw [stlen_w hw, bd1_s]
      by_cases v : stN w ≤ 0
      · rw [if_pos (show nI (stN w) ≤ (0 : Int32) from nI_le (b := 0) v (by decide))]; exact gbo_0
      · rw [if_neg (show ¬ nI (stN w) ≤ (0 : Int32) from nI_ge (a := 0) (by omega) (by omega)), if_pos (show b01 false = (0 : Int32) from rfl)]; exact gbo_0
  unfold X9_isWord X9_good
  rw [if_pos rfl, bd1_s, i10]
  unfold wdB
  by_cases q : k = 1
  · rw [if_pos (show nI k = (1 : Int32) by rw [q]; rfl), stlen_w hw, bd1_s, pk_sub hse, decide_eq_true q, Bool.true_and]
    by_cases v : e - s = stN w
    · rw [if_pos (show nI (e - s) = nI (stN w) by rw [v]), decide_eq_true v]
      refine (loop true (fun _ => v)).trans ?_
      congr 3
      exact Bool.eq_iff_iff.mpr (by
        rw [allB_iff, allB_iff]
        constructor
        · intro h i hi; rw [(hB (s + i) (by omega)).1]; exact h i hi
        · intro h i hi; rw [← (hB (s + i) (by omega)).1]; exact h i hi)
    · rw [if_neg (fun x => v ((nI_eq (by omega) (by omega)).mp x)), decide_eq_false v]
      exact loop false (fun x => by cases x)
  · rw [if_neg (show ¬ nI k = (1 : Int32) from fun x => q ((nI_eq (b := 1) (by omega) (by decide)).mp x)), decide_eq_false q]
    exact loop false (fun x => by cases x)
end
