/-! told -/
section
variable {ctb mtap : Nat → Int32} {T : Nat}
theorem gdZ0 : X9_good 0 = some 1 := rfl
theorem goodN {x : Int32} (h : x ≠ 0) : X9_good x = some 0 := if_neg h
theorem errs0 (p x y : Int32) : X9_errs 0 p x y = some (x, y) := rfl
theorem errsN {f p x y : Int32} (h : f ≠ 0) : X9_errs f p x y = some (f, p) := by unfold X9_errs; rw [goodN h, bd1_s, i00]
theorem eatsN {z a f t v k c : Int32} {m : Nat → Int32} (h : k ≠ 0) : X9_eatsByte z a f t v k m c = some (0, a, f, t, v) := by unfold X9_eatsByte; rw [goodN h, bd1_s, i00]
theorem bad147 {a b c d e k p : Int32} {m : Nat → Int32} (h : k ≠ 0) : X9_read_j147 a b c d e m k p = some (a, b, c, d, e, k, p, m) := by unfold X9_read_j147; rw [goodN h, bd1_s, i00]
theorem bad129 {z a b c d e k p : Int32} {t m : Nat → Int32} (h : k ≠ 0) : X9_read_j129 z t a b c d e k p m = some (a, b, c, d, e, k, p, m) := by unfold X9_read_j129; rw [eatsN h, bd5_s, i00, errsN h, bd2_s, bad147 h]
theorem bad107 {z k p a b c d e : Int32} {t m : Nat → Int32} (h : k ≠ 0) : X9_read_j107 z k t a p m b c d e = some (a, b, c, d, e, k, p, m) := by unfold X9_read_j107; rw [eatsN h, bd5_s, i00, bad129 h]
theorem bad88 {z v k p b c d : Int32} {t m : Nat → Int32} (h : k ≠ 0) : X9_read_j88 m v z t b c d k p = some (v, b, c, d, v, k, p, fillA m 0 (fun _ => 0) 128) := by unfold X9_read_j88; rw [X9_clearsFresh_eq, bd2_s, goodN h, bd1_s, i00, bad107 h]
theorem bad57 {z v k p b c d : Int32} {t m : Nat → Int32} (h : k ≠ 0) : X9_read_j57 m v z t b c d k p = some (v, b, c, d, v, k, p, fillA m 0 (fun _ => 0) 128) := by unfold X9_read_j57; rw [goodN h, bd1_s, i00, bad88 h]
theorem bad33 {z v k p b c d : Int32} {t m : Nat → Int32} (h : k ≠ 0) : X9_read_j33 k m z t p b c d v = some (v, b, c, d, v, k, p, fillA m 0 (fun _ => 0) 128) := by unfold X9_read_j33; rw [goodN h, bd1_s, i00, bad57 h]
theorem bad22 {z v k p b c d : Int32} {t m : Nat → Int32} (h : k ≠ 0) : X9_read_j22 m z t b c d v k p = some (v, b, c, d, v, k, p, fillA m 0 (fun _ => 0) 128) := by unfold X9_read_j22; rw [goodN h, bd1_s, i00, bad33 h]
/-- whether a token is a sign -/
def sgB (B : Nat → Int32) (k s : Nat) (c : Int32) : Bool := decide (k = 3) && decide (B s = c)
theorem isSign_c {k s : Nat} {c : Int32} (hk : k < 4) (hs : k = 3 → s < 800) : X6_isSign ctb (nI k) (nI s) c = some (b01 (sgB ctb k s c)) := by
  unfold X6_isSign sgB
  by_cases q : k = 3
  · rw [if_pos (show nI k = (3 : Int32) by rw [q]; rfl), gin_nI (hs q) (by decide), nI_clamp (by have := hs q; omega), decide_eq_true q, Bool.true_and]
    by_cases v : ctb s = c
    · rw [if_pos v, decide_eq_true v]; rfl
    · rw [if_neg v, decide_eq_false v]; rfl
  · rw [if_neg (show ¬ nI k = (3 : Int32) from fun x => q ((nI_eq (b := 3) (by omega) (by decide)).mp x)), decide_eq_false q]; rfl
theorem sign_eq {c x : Int32} (hx : BFact x) (hc : c = 44 ∨ c = 58 ∨ c = 59) : ((x &&& 255) = c ↔ x = c) := by
  rcases hc with rfl | rfl | rfl
  · exact hx.2.2.2.2.2.2.1
  · exact hx.2.2.2.2.2.2.2.1
  · exact hx.2.2.2.2.2.2.2.2
theorem eats_no {k s e : Nat} {c z m : Int32} (hk : k < 4) (hs : k = 3 → BFact (ctb s)) (hc : c = 44 ∨ c = 58 ∨ c = 59) (h : sgB ctb k s c = false) : X9_eatsByte z (nI e) (nI s) (nI k) (vlB ctb k s e m) 0 mtap c = some (0, nI e, nI s, nI k, vlB ctb k s e m) := by
  unfold X9_eatsByte
  rw [gdZ0, bd1_s, i10]
  unfold sgB at h
  by_cases q : k = 3
  · rw [decide_eq_true q, Bool.true_and, decide_eq_false_iff_not] at h
    rw [if_pos (show nI k = (3 : Int32) by rw [q]; rfl), if_neg (fun w => by
      unfold vlB at w
      rw [if_pos q] at w
      exact h ((sign_eq (hs q) hc).mp w))]
  · rw [if_neg (show ¬ nI k = (3 : Int32) from fun x => q ((nI_eq (b := 3) (by omega) (by decide)).mp x))]
theorem eats_yes {k s e : Nat} {c z m : Int32} (hs : k = 3 → BFact (ctb s)) (hc : c = 44 ∨ c = 58 ∨ c = 59) (h : sgB ctb k s c = true) : X9_eatsByte z (nI e) (nI s) (nI k) (vlB ctb k s e m) 0 mtap c = bd4 (X9_advance z (nI e) (vlB ctb k s e m) mtap) (fun a b d v => some ((1 : Int32), a, b, d, v)) := by
  unfold X9_eatsByte
  rw [gdZ0, bd1_s, i10]
  unfold sgB at h
  rw [Bool.and_eq_true, decide_eq_true_eq, decide_eq_true_eq] at h
  obtain ⟨q, h2⟩ := h
  rw [if_pos (show nI k = (3 : Int32) by rw [q]; rfl), if_pos (show vlB ctb k s e m = c by
    unfold vlB
    rw [if_pos q]
    exact (sign_eq (hs q) hc).mpr h2)]
theorem dig_sub {d : Nat} : nI (48 + d) - (48 : Int32) = nI d := by
  rw [show (48 : Int32) = nI 48 from rfl, pk_sub (by omega), show 48 + d - 48 = d by omega]
theorem gboc {α : Type} {x : Option α} : gbo (0 : Int32) x = x := gbo_0
/-- the digits of a set -/
theorem digsT {cP mfre : Nat → Int32} {cLo cHi : Nat → Int64} {n k s e : Nat} {v : Int32} (hn : n ≤ 7) (hP : cP 3 = nI n) (hT : T ≤ 800) (hB : ∀ i, i < T → ctb i = mtap i ∧ BFact (ctb i)) (he : e ≤ T) (hd : ∀ i, s ≤ i → i < e → kdB (ctb i) = 2) :
    ∀ (m i S : Nat), i + m = e → s ≤ i → S < 2 ^ n →
      (∃ i', lfp2 (X6_readSet_h15 (nI e) cLo cHi 3 0 (-1) (nI s) cP ctb) (nI S) (nI i) = some (0, cLo, cHi, 3, nI i') ∧ lfp4 (X9_readSet_h42 (nI e) (nI s) (nI k) v mfre (nI T) mtap 0 (nI n)) (nI S) (nI i) 0 (-1) = some (nI e, nI s, nI k, v, 3, nI i', mfre)) ∨
      (∃ S', S' < 2 ^ n ∧ lfp2 (X6_readSet_h15 (nI e) cLo cHi 3 0 (-1) (nI s) cP ctb) (nI S) (nI i) = X6_readSet_j95 cLo cHi 3 0 (-1) (nI s) (nI S') ∧ lfp4 (X9_readSet_h42 (nI e) (nI s) (nI k) v mfre (nI T) mtap 0 (nI n)) (nI S) (nI i) 0 (-1) = X9_readSet_j115 0 (nI e) (nI s) (nI k) v mfre (nI S') (nI T) mtap (-1)) := by
  have hq := pow_le7 hn
  intro m
  induction m with
  | zero =>
    intro i S hi hs hS
    refine Or.inr ⟨S, hS, lfp2_done fun r => ?_, lfp4_done fun r => ?_⟩
    · unfold X6_readSet_h15
      rw [if_pos (nI_le (by omega) (by omega))]
    · unfold X9_readSet_h42
      rw [if_pos (nI_le (by omega) (by omega))]
  | succ m ih =>
    intro i S hi hs hS
    obtain ⟨e1, f⟩ := hB i (by omega)
    obtain ⟨f1, f2, f3⟩ := f.2.2.2.2.2.1 (hd i hs (by omega))
    have hbad : ∀ (r : Int32 → Int32 → Int32 → Int32 → Option (Int32 × Int32 × Int32 × Int32 × Int32 × Int32 × (Nat → Int32))) (q : Int32), X9_readSet_j95 r (nI S) (nI i) q 3 (nI i) = r (nI S) (nI (i + 1)) 3 (nI i) := fun r q => by
      unfold X9_readSet_j95
      rw [goodN (by decide), bd1_s, i00, nI_1]
    have hend : lfp4 (X9_readSet_h42 (nI e) (nI s) (nI k) v mfre (nI T) mtap 0 (nI n)) (nI S) (nI (i + 1)) 3 (nI i) = some (nI e, nI s, nI k, v, 3, nI i, mfre) := lfp4_done fun r => by
      have j115 : X9_readSet_j115 3 (nI e) (nI s) (nI k) v mfre (nI S) (nI T) mtap (nI i) = some (nI e, nI s, nI k, v, 3, nI i, mfre) := by
        unfold X9_readSet_j115
        rw [goodN (by decide), bd1_s, i00]
        unfold X9_readSet_j140
        rw [goodN (by decide), bd1_s, i00]
      unfold X9_readSet_h42
      by_cases w : e ≤ i + 1
      · rw [if_pos (nI_le w (by omega))]; exact j115
      · rw [if_neg (nI_ge (by omega) (by omega)), goodN (by decide), bd1_s, i00]; exact j115
    have hc1 : ∀ r, X6_readSet_h15 (nI e) cLo cHi 3 0 (-1) (nI s) cP ctb r (nI S) (nI i) = (if nI n ≤ nI (dgB (ctb i)) then some (0, cLo, cHi, 3, nI i) else (if ((nI S >>> (nI (dgB (ctb i)) &&& 31)) &&& (1 : Int32)) = (1 : Int32) then some (0, cLo, cHi, 3, nI i) else r (nI S ||| ((1 : Int32) <<< (nI (dgB (ctb i)) &&& 31))) (nI (i + 1)))) := fun r => by
      have e48 : ctb i - (48 : Int32) = nI (dgB (ctb i)) := (congrArg (fun x => x - (48 : Int32)) f2).trans dig_sub
      unfold X6_readSet_h15 X6_fails
      rw [if_neg (nI_ge (by omega) (by omega)), gin_nI (by omega) (by decide), nI_clamp (by omega), hP, e48, bd3_s, gboc, nI_1]
    have hr1 : ∀ r, X9_readSet_h42 (nI e) (nI s) (nI k) v mfre (nI T) mtap 0 (nI n) r (nI S) (nI i) 0 (-1) = (if nI n ≤ nI (dgB (ctb i)) then r (nI S) (nI (i + 1)) 3 (nI i) else bd1 (X9_hasBit (nI S) (nI (dgB (ctb i)))) (fun q => if q = (0 : Int32) then r (nI S ||| ((1 : Int32) <<< (nI (dgB (ctb i)) &&& 31))) (nI (i + 1)) 0 (-1) else r (nI S) (nI (i + 1)) 3 (nI i))) := fun r => by
      have e48 : ctb i - (48 : Int32) = nI (dgB (ctb i)) := (congrArg (fun x => x - (48 : Int32)) f2).trans dig_sub
      unfold X9_readSet_h42
      rw [if_neg (nI_ge (by omega) (by omega)), gdZ0, bd1_s, i10, i00, see_9 hT (by omega), bd1_s, if_pos (show i < T by omega), ← e1, f1, e48, errs0, bd2_s, hbad]
      unfold X9_readSet_j95
      rw [gdZ0, bd1_s, i10, e48, nI_1]
    by_cases w : n ≤ dgB (ctb i)
    · left
      refine ⟨i, lfp2_done fun r => ?_, (lfp4_step fun r => ?_).trans hend⟩
      · rw [hc1, if_pos (nI_le w (by omega))]
      · rw [hr1, if_pos (nI_le w (by omega))]
    · have hS7 : S < 128 := by omega
      have hd7 : dgB (ctb i) < 7 := by omega
      have n1 : ¬ nI n ≤ nI (dgB (ctb i)) := nI_ge (by omega) (by omega)
      cases hb : S.testBit (dgB (ctb i)) with
      | true =>
        left
        refine ⟨i, lfp2_done fun r => ?_, (lfp4_step fun r => ?_).trans hend⟩
        · rw [hc1, if_neg n1, sbit S hS7 _ hd7, hb, if_pos (show b01 true = (1 : Int32) from rfl)]
        · rw [hr1, if_neg n1, X9_hasBit_eq hS7 hd7, bd1_s, hb, bt0]
      | false =>
        have hS2 : S ||| 2 ^ dgB (ctb i) < 2 ^ n := Nat.or_lt_two_pow hS (Nat.pow_lt_pow_right (by decide) (by omega))
        have c1 : lfp2 (X6_readSet_h15 (nI e) cLo cHi 3 0 (-1) (nI s) cP ctb) (nI S) (nI i) = lfp2 (X6_readSet_h15 (nI e) cLo cHi 3 0 (-1) (nI s) cP ctb) (nI (S ||| 2 ^ dgB (ctb i))) (nI (i + 1)) := lfp2_step fun r => by
          rw [hc1, if_neg n1, sbit S hS7 _ hd7, hb, if_neg (show ¬ b01 false = (1 : Int32) by decide), shl1 _ (by omega), lor_nI']
        have c2 : lfp4 (X9_readSet_h42 (nI e) (nI s) (nI k) v mfre (nI T) mtap 0 (nI n)) (nI S) (nI i) 0 (-1) = lfp4 (X9_readSet_h42 (nI e) (nI s) (nI k) v mfre (nI T) mtap 0 (nI n)) (nI (S ||| 2 ^ dgB (ctb i))) (nI (i + 1)) 0 (-1) := lfp4_step fun r => by
          rw [hr1, if_neg n1, X9_hasBit_eq hS7 hd7, bd1_s, hb, bf0, shl1 _ (by omega), lor_nI']
        rw [c1, c2]
        exact ih (i + 1) _ (by omega) (by omega) hS2
/-- one set is read -/
theorem rdSet {cP mfre : Nat → Int32} {V : Nat → Nat → Bool} {g : Nat → Bool} {n k s e : Nat} {v : Int32} (hn : n ≤ 7) (hP : cP 3 = nI n) (hT : T ≤ 800) (hB : ∀ i, i < T → ctb i = mtap i ∧ BFact (ctb i)) (hk : k < 4) (hse : s ≤ e) (he : e ≤ T) (hke : k ≠ 0 → s < e) (hd : k = 2 → ∀ i, s ≤ i → i < e → kdB (ctb i) = 2) (hV : ∀ t, t < 128 → V 3 t = g t) (hF : FR mfre g) :
    (∃ f pl : Int32, f ≠ 0 ∧ X6_readSet cP (LO V) (HI V) ctb 0 (-1) (nI k) (nI s) (nI e) 3 = some (0, LO V, HI V, f, pl) ∧ X9_readSet (nI n) (nI T) (nI e) (nI s) (nI k) v 0 (-1) mfre mtap = some (nI e, nI s, nI k, v, f, pl, mfre)) ∨
    (∃ S, S < 2 ^ n ∧ k ≠ 0 ∧ X6_readSet cP (LO V) (HI V) ctb 0 (-1) (nI k) (nI s) (nI e) 3 = some (1, LO (va_up V 3 (fun t => V 3 t || t == S)), HI (va_up V 3 (fun t => V 3 t || t == S)), 0, -1) ∧ X9_readSet (nI n) (nI T) (nI e) (nI s) (nI k) v 0 (-1) mfre mtap = bd4 (X9_advance (nI T) (nI e) v mtap) (fun a b c d => some (a, b, c, d, 0, -1, upd mfre S (vp_nar .boolean 1)))) := by
  have hq := pow_le7 hn
  have last : ∀ S, S < 2 ^ n → k ≠ 0 → X6_readSet cP (LO V) (HI V) ctb 0 (-1) (nI k) (nI s) (nI e) 3 = X6_readSet_j95 (LO V) (HI V) 3 0 (-1) (nI s) (nI S) → X9_readSet (nI n) (nI T) (nI e) (nI s) (nI k) v 0 (-1) mfre mtap = X9_readSet_j115 0 (nI e) (nI s) (nI k) v mfre (nI S) (nI T) mtap (-1) → (∃ f pl : Int32, f ≠ 0 ∧ X6_readSet cP (LO V) (HI V) ctb 0 (-1) (nI k) (nI s) (nI e) 3 = some (0, LO V, HI V, f, pl) ∧ X9_readSet (nI n) (nI T) (nI e) (nI s) (nI k) v 0 (-1) mfre mtap = some (nI e, nI s, nI k, v, f, pl, mfre)) ∨ (∃ S, S < 2 ^ n ∧ k ≠ 0 ∧ X6_readSet cP (LO V) (HI V) ctb 0 (-1) (nI k) (nI s) (nI e) 3 = some (1, LO (va_up V 3 (fun t => V 3 t || t == S)), HI (va_up V 3 (fun t => V 3 t || t == S)), 0, -1) ∧ X9_readSet (nI n) (nI T) (nI e) (nI s) (nI k) v 0 (-1) mfre mtap = bd4 (X9_advance (nI T) (nI e) v mtap) (fun a b c d => some (a, b, c, d, 0, -1, upd mfre S (vp_nar .boolean 1)))) := by
    intro S hS hk0 c1 c2
    have hS7 : S < 128 := by omega
    rw [c1, c2]
    unfold X6_readSet_j95 X9_readSet_j115 X6_fails
    rw [holds_V hS7, bd1_s, gdZ0, bd1_s, i10, gin_nI hS7 (by decide), nI_clamp (by omega), hF S hS7, hV S hS7, ib0, ib0]
    cases g S with
    | true =>
      left
      refine ⟨4, nI s, by decide, ?_, ?_⟩
      · rw [if_pos rfl, bd3_s, gboc]
      · rw [if_pos rfl, errs0, bd2_s]
        unfold X9_readSet_j140
        rw [goodN (by decide), bd1_s, i00]
    | false =>
      right
      refine ⟨S, hS, hk0, ?_, ?_⟩
      · rw [if_neg Bool.false_ne_true, put_V hS7, bd2_s]
      · rw [if_neg Bool.false_ne_true]
        unfold X9_readSet_j140
        rw [gdZ0, bd1_s, i10, gin_nI hS7 (by decide), nI_clamp (by omega)]
  have hw9 := isWord_9 (ctb := ctb) (mtap := mtap) (T := T) (k := k) (s := s) (e := e) (w := 1) (by decide) hk hse he hT hB
  have hwc := isWord_c (ctb := ctb) (k := k) (s := s) (e := e) (w := 1) (by decide) hk hse (by omega)
  by_cases k2 : k = 2
  · have hwd : wdB ctb k s e 1 = false := by unfold wdB; rw [decide_eq_false (by omega)]; rfl
    have c1 : X6_readSet cP (LO V) (HI V) ctb 0 (-1) (nI k) (nI s) (nI e) 3 = lfp2 (X6_readSet_h15 (nI e) (LO V) (HI V) 3 0 (-1) (nI s) cP ctb) (nI 0) (nI s) := by
      unfold X6_readSet
      rw [if_pos (show nI k = (2 : Int32) by rw [k2]; rfl)]; rfl
    have c2 : X9_readSet (nI n) (nI T) (nI e) (nI s) (nI k) v 0 (-1) mfre mtap = lfp4 (X9_readSet_h42 (nI e) (nI s) (nI k) v mfre (nI T) mtap 0 (nI n)) (nI 0) (nI s) 0 (-1) := by
      unfold X9_readSet
      rw [hw9, bd1_s, gdZ0, bd1_s, i10, hwd, bf0, if_pos (show nI k = (2 : Int32) by rw [k2]; rfl)]
      rfl
    rcases digsT (cLo := LO V) (cHi := HI V) (mfre := mfre) (k := k) (v := v) hn hP hT hB he (hd k2) (e - s) s 0 (by omega) (Nat.le_refl s) (Nat.two_pow_pos n) with ⟨i', d1, d2⟩ | ⟨S, hS, d1, d2⟩
    · exact Or.inl ⟨3, nI i', by decide, c1.trans d1, c2.trans d2⟩
    · exact last S hS (by omega) (c1.trans d1) (c2.trans d2)
  · cases hwd : wdB ctb k s e 1 with
    | true =>
      have k1 : k = 1 := by
        unfold wdB at hwd
        rw [Bool.and_eq_true, Bool.and_eq_true, decide_eq_true_eq] at hwd
        exact hwd.1.1
      refine last 0 (Nat.two_pow_pos n) (by omega) ?_ ?_
      · unfold X6_readSet
        rw [if_neg (show ¬ nI k = (2 : Int32) from fun x => k2 ((nI_eq (b := 2) (by omega) (by decide)).mp x)), hwc, bd1_s, hwd, bt0]; rfl
      · unfold X9_readSet
        rw [hw9, bd1_s, gdZ0, bd1_s, i10, hwd, bt0]
        unfold X9_readSet_j35
        refine lfp4_done fun r => ?_
        unfold X9_readSet_h42
        rw [if_neg (nI_ge (hke (by omega)) (by omega)), gdZ0, bd1_s, i10, if_neg (show ¬ b01 true = (0 : Int32) by decide)]; rfl
    | false =>
      left
      refine ⟨1, nI s, by decide, ?_, ?_⟩
      · unfold X6_readSet X6_fails
        rw [if_neg (show ¬ nI k = (2 : Int32) from fun x => k2 ((nI_eq (b := 2) (by omega) (by decide)).mp x)), hwc, bd1_s, hwd, bf0, bd3_s, gboc]
      · unfold X9_readSet
        rw [hw9, bd1_s, gdZ0, bd1_s, i10, hwd, bf0, if_neg (show ¬ nI k = (2 : Int32) from fun x => k2 ((nI_eq (b := 2) (by omega) (by decide)).mp x)), errs0, bd2_s]
        unfold X9_readSet_j35
        have j115 : X9_readSet_j115 1 (nI e) (nI s) (nI k) v mfre 0 (nI T) mtap (nI s) = some (nI e, nI s, nI k, v, 1, nI s, mfre) := by
          unfold X9_readSet_j115
          rw [goodN (by decide), bd1_s, i00]
          unfold X9_readSet_j140
          rw [goodN (by decide), bd1_s, i00]
        refine lfp4_done fun r => ?_
        unfold X9_readSet_h42
        by_cases w : e ≤ s
        · rw [if_pos (nI_le w (by omega))]; exact j115
        · rw [if_neg (nI_ge (by omega) (by omega)), goodN (by decide), bd1_s, i00]; exact j115
theorem TKP.at3 {B : Nat → Int32} {a k s e : Nat} (h : TKP B T a k s e) : k = 3 → s < T := fun q => by
  obtain ⟨_, _, h3, _, h5, _⟩ := h
  have := h5 (by omega)
  omega
/-- sets are read, one behind the other -/
theorem rdSets {cP : Nat → Int32} {n : Nat} (hn : n ≤ 7) (hP : cP 3 = nI n) (hT : T ≤ 800) (hB : ∀ i, i < T → ctb i = mtap i ∧ BFact (ctb i)) :
    ∀ (m x a : Nat) (V : Nat → Nat → Bool) (g : Nat → Bool) (mfre : Nat → Int32) (mv k0 s0 : Int32) (k s e : Nat), T + 1 ≤ a + m → x < a → a ≤ T → TKP ctb T a k s e → X6_advance ctb (nI T) (nI a) = some (nI k, nI s, nI e) → (∀ t, t < 128 → V 3 t = g t) → FR mfre g → (∀ t, g t = true → t < 2 ^ n) →
      (∃ (f pl : Int32) (W : Nat → Nat → Bool) (k' s' e' a1 a2 a3 a4 : Int32) (fre : Nat → Int32), f ≠ 0 ∧ lfp8 (X6_readSets_h2 ctb (nI T) cP 3) (nI x) (LO V) (HI V) 0 (-1) k0 s0 (nI a) = some (0, LO W, HI W, f, pl, k', s', e') ∧ (∀ i, i ≠ 3 → W i = V i) ∧ lfp7 (X9_read_h116 (nI n) (nI T) mtap) (nI e) (nI s) (nI k) (vlB ctb k s e mv) 0 (-1) mfre = some (nI n, a1, a2, a3, a4, f, pl, fre)) ∨
      (∃ (W : Nat → Nat → Bool) (g' : Nat → Bool) (a' k' s' e' : Nat) (mv' : Int32) (fre : Nat → Int32), lfp8 (X6_readSets_h2 ctb (nI T) cP 3) (nI x) (LO V) (HI V) 0 (-1) k0 s0 (nI a) = some (1, LO W, HI W, 0, -1, nI k', nI s', nI e') ∧ (∀ i, i ≠ 3 → W i = V i) ∧ (∀ t, t < 128 → W 3 t = g' t) ∧ FR fre g' ∧ (∀ t, g' t = true → t < 2 ^ n) ∧ TKP ctb T a' k' s' e' ∧ lfp7 (X9_read_h116 (nI n) (nI T) mtap) (nI e) (nI s) (nI k) (vlB ctb k s e mv) 0 (-1) mfre = X9_read_j129 (nI T) mtap (nI n) (nI e') (nI s') (nI k') (vlB ctb k' s' e' mv') 0 (-1) fre) := by
  intro m
  induction m with
  | zero => intro x a V g mfre mv k0 s0 k s e h1 h2 h3; omega
  | succ m ih =>
    intro x a V g mfre mv k0 s0 k s e h1 h2 h3 htk hadv hV hF hN
    obtain ⟨t1, t2, t3, t4, t5, t6⟩ := id htk
    have n8 : ¬ (800 : Int32) ≤ nI x := nI_ge (b := 800) (by omega) (by decide)
    rcases rdSet (cP := cP) (mfre := mfre) (V := V) (g := g) (v := vlB ctb k s e mv) hn hP hT hB t4 t2 t3 t5 t6 hV hF with ⟨f, pl, hf, r1, r2⟩ | ⟨S, hS, hk0, r1, r2⟩
    · left
      refine ⟨f, pl, V, nI k, nI s, nI e, nI e, nI s, nI k, vlB ctb k s e mv, mfre, hf, lfp8_done fun r => ?_, fun i _ => rfl, lfp7_done fun r => ?_⟩
      · unfold X6_readSets_h2
        rw [if_neg n8, hadv, bd3_s, r1, bd5_s, i00]
      · unfold X9_read_h116
        rw [r2, bd7_s, eatsN hf, bd5_s, i00, bad129 hf]
    · have hse := t5 hk0
      obtain ⟨k', s', e', tk', c1, c2⟩ := advT (ctb := ctb) (mtap := mtap) hT hB (a := e) t3
      obtain ⟨u1, u2, u3, u4, u5, u6⟩ := id tk'
      rw [c2, bd4_s] at r2
      have hV' : ∀ t, t < 128 → va_up V 3 (fun t => V 3 t || t == S) 3 t = (g t || t == S) := fun t ht => by rw [up_at, hV t ht]
      have hF' : FR (upd mfre S (vp_nar .boolean 1)) (fun t => g t || t == S) := hF.set1 S
      have hN' : ∀ t, (g t || t == S) = true → t < 2 ^ n := fun t ht => by
        rw [Bool.or_eq_true, beq_iff_eq] at ht
        rcases ht with ht | ht
        · exact hN t ht
        · rw [ht]; exact hS
      have hsg := isSign_c (ctb := ctb) (k := k') (s := s') (c := 44) u4 (fun q => by have := tk'.at3 q; omega)
      cases hs : sgB ctb k' s' 44 with
      | false =>
        right
        refine ⟨va_up V 3 (fun t => V 3 t || t == S), fun t => g t || t == S, e, k', s', e', vlB ctb k s e mv, upd mfre S (vp_nar .boolean 1), lfp8_done fun r => ?_, fun i hi => up_ne hi, hV', hF', hN', tk', lfp7_done fun r => ?_⟩
        · unfold X6_readSets_h2
          rw [if_neg n8, hadv, bd3_s, r1, bd5_s, i10, c1, bd3_s, hsg, bd1_s, hs, bf0]
        · unfold X9_read_h116
          rw [r2, bd7_s, eats_no u4 (fun q => (hB s' (tk'.at3 q)).2) (Or.inl rfl) hs, bd5_s, i00]
      | true =>
        have k3 : k' = 3 := by
          unfold sgB at hs
          rw [Bool.and_eq_true, decide_eq_true_eq] at hs; exact hs.1
        have hse' := u5 (by omega)
        obtain ⟨k2, s2, e2, tk2, d1, d2⟩ := advT (ctb := ctb) (mtap := mtap) hT hB (a := e') u3
        have cst : lfp8 (X6_readSets_h2 ctb (nI T) cP 3) (nI x) (LO V) (HI V) 0 (-1) k0 s0 (nI a) = lfp8 (X6_readSets_h2 ctb (nI T) cP 3) (nI (x + 1)) (LO (va_up V 3 (fun t => V 3 t || t == S))) (HI (va_up V 3 (fun t => V 3 t || t == S))) 0 (-1) (nI k') (nI s') (nI e') := lfp8_step fun r => by
          unfold X6_readSets_h2
          rw [if_neg n8, hadv, bd3_s, r1, bd5_s, i10, c1, bd3_s, hsg, bd1_s, hs, bt0, nI_1]
        have rst : lfp7 (X9_read_h116 (nI n) (nI T) mtap) (nI e) (nI s) (nI k) (vlB ctb k s e mv) 0 (-1) mfre = lfp7 (X9_read_h116 (nI n) (nI T) mtap) (nI e2) (nI s2) (nI k2) (vlB ctb k2 s2 e2 (vlB ctb k' s' e' (vlB ctb k s e mv))) 0 (-1) (upd mfre S (vp_nar .boolean 1)) := lfp7_step fun r => by
          unfold X9_read_h116
          rw [r2, bd7_s, eats_yes (fun q => (hB s' (tk'.at3 q)).2) (Or.inl rfl) hs, d2, bd4_s, bd5_s, i10]
        rw [cst, rst]
        rcases ih (x + 1) e' (va_up V 3 (fun t => V 3 t || t == S)) (fun t => g t || t == S) (upd mfre S (vp_nar .boolean 1)) (vlB ctb k' s' e' (vlB ctb k s e mv)) (nI k') (nI s') k2 s2 e2 (by omega) (by omega) u3 tk2 d1 hV' hF' hN' with ⟨f, pl, W, b1, b2, b3, b4, b5, b6, b7, fre, q1, q2, q3, q4⟩ | ⟨W, g', a', k3, s3, e3, mv', fre, q1, q2, q3, q4, q5, q6, q7⟩
        · exact Or.inl ⟨f, pl, W, b1, b2, b3, b4, b5, b6, b7, fre, q1, q2, fun i hi => by rw [q3 i hi, up_ne hi], q4⟩
        · exact Or.inr ⟨W, g', a', k3, s3, e3, mv', fre, q1, fun i hi => by rw [q2 i hi, up_ne hi], q3, q4, q5, q6, q7⟩
/-- the end of a text -/
theorem rdTail {oP fre : Nat → Int32} {W : Nat → Nat → Bool} {n a k s e : Nat} {mv : Int32} (hT : T ≤ 800) (hB : ∀ i, i < T → ctb i = mtap i ∧ BFact (ctb i)) (htk : TKP ctb T a k s e) :
    (∃ (f pl k' s' e' a1 a2 a3 a4 : Int32), f ≠ 0 ∧ X6_read_j110 ctb oP (nI T) (LO W) (HI W) 0 (-1) (nI k) (nI s) (nI e) = some (0, oP, LO W, HI W, f, pl, k', s', e') ∧ X9_read_j129 (nI T) mtap (nI n) (nI e) (nI s) (nI k) (vlB ctb k s e mv) 0 (-1) fre = some (nI n, a1, a2, a3, a4, f, pl, fre)) ∨
    (∃ (k' s' e' a1 a2 a3 a4 : Int32), X6_read_j110 ctb oP (nI T) (LO W) (HI W) 0 (-1) (nI k) (nI s) (nI e) = some (1, oP, LO W, HI W, 0, -1, k', s', e') ∧ X9_read_j129 (nI T) mtap (nI n) (nI e) (nI s) (nI k) (vlB ctb k s e mv) 0 (-1) fre = some (nI n, a1, a2, a3, a4, 0, -1, fre)) := by
  obtain ⟨t1, t2, t3, t4, t5, t6⟩ := id htk
  have hsg := isSign_c (ctb := ctb) (k := k) (s := s) (c := 59) t4 (fun q => by have := htk.at3 q; omega)
  unfold X6_read_j110 X9_read_j129 X6_fails
  rw [hsg, bd1_s]
  cases hs : sgB ctb k s 59 with
  | false =>
    left
    refine ⟨1, nI s, nI k, nI s, nI e, nI e, nI s, nI k, vlB ctb k s e mv, by decide, ?_, ?_⟩
    · rw [bf0, bd3_s, gboc]
    · rw [eats_no t4 (fun q => (hB s (htk.at3 q)).2) (Or.inr (Or.inr rfl)) hs, bd5_s, i00, errs0, bd2_s, bad147 (by decide)]
  | true =>
    obtain ⟨k', s', e', tk', c1, c2⟩ := advT (ctb := ctb) (mtap := mtap) hT hB (a := e) t3
    obtain ⟨u1, u2, u3, u4, u5, u6⟩ := id tk'
    rw [bt0, c1, bd3_s, eats_yes (fun q => (hB s (htk.at3 q)).2) (Or.inr (Or.inr rfl)) hs, c2, bd4_s, bd5_s, i10]
    unfold X9_read_j147
    rw [gdZ0, bd1_s, i10]
    by_cases q : k' = 0
    · right
      refine ⟨nI k', nI s', nI e', nI e', nI s', nI k', vlB ctb k' s' e' (vlB ctb k s e mv), ?_, ?_⟩
      · rw [if_pos (show nI k' = (0 : Int32) by rw [q]; rfl)]
      · rw [if_pos (show nI k' = (0 : Int32) by rw [q]; rfl)]
    · left
      refine ⟨1, nI s', nI k', nI s', nI e', nI e', nI s', nI k', vlB ctb k' s' e' (vlB ctb k s e mv), by decide, ?_, ?_⟩
      · rw [if_neg (nI_ne0 (by omega) (by omega)), bd3_s, i00]
      · rw [if_neg (nI_ne0 (by omega) (by omega)), errs0, bd2_s]
theorem isPC_n {x : Nat} (hx : x < 2 ^ 31) : X8_isPointCount (nI x) = some (b01 (decide (1 ≤ x ∧ x ≤ 7))) := by
  unfold X8_isPointCount
  by_cases a : 1 ≤ x
  · rw [if_neg (show ¬ nI x < (1 : Int32) from nI_nlt (b := 1) a hx)]
    by_cases b : x ≤ 7
    · rw [if_neg (show ¬ (7 : Int32) < nI x from nI_nlt (a := 7) b (by decide)), decide_eq_true ⟨a, b⟩]; rfl
    · rw [if_pos (show (7 : Int32) < nI x from nI_lt (a := 7) (by omega) hx), decide_eq_false (fun w => b w.2)]; rfl
  · rw [if_pos (show nI x < (1 : Int32) from nI_lt (b := 1) (by omega) (by decide)), decide_eq_false (fun w => a w.1)]; rfl
/-- the whole text -/
theorem rdAll {cP mfre : Nat → Int32} {V : Nat → Nat → Bool} {mval : Int32} (hT : T ≤ 800) (hB : ∀ i, i < T → ctb i = mtap i ∧ BFact (ctb i)) :
    (∃ (f pl : Int32) (oP : Nat → Int32) (W : Nat → Nat → Bool) (k' s' e' a0 a1 a2 a3 a4 : Int32) (fre : Nat → Int32), f ≠ 0 ∧ X6_read cP (LO V) (HI V) ctb (nI T) 3 = some (0, oP, LO W, HI W, f, pl, k', s', e') ∧ (∀ i, i ≠ 3 → oP i = cP i ∧ W i = V i) ∧ X9_read (nI T) 0 mval 0 (-1) mfre mtap = some (a0, a1, a2, a3, a4, f, pl, fre)) ∨
    (∃ (n : Nat) (g : Nat → Bool) (oP : Nat → Int32) (W : Nat → Nat → Bool) (k' s' e' a1 a2 a3 a4 : Int32) (fre : Nat → Int32), 0 < n ∧ n ≤ 7 ∧ X6_read cP (LO V) (HI V) ctb (nI T) 3 = some (1, oP, LO W, HI W, 0, -1, k', s', e') ∧ (∀ i, i ≠ 3 → oP i = cP i ∧ W i = V i) ∧ oP 3 = nI n ∧ (∀ t, t < 128 → W 3 t = g t) ∧ FR fre g ∧ (∀ t, g t = true → t < 2 ^ n) ∧ X9_read (nI T) 0 mval 0 (-1) mfre mtap = some (nI n, a1, a2, a3, a4, 0, -1, fre)) := by
  obtain ⟨k1, s1, e1, tk1, c1, d1⟩ := advT (ctb := ctb) (mtap := mtap) hT hB (a := 0) (Nat.zero_le T)
  obtain ⟨p1, p2, p3, p4, p5, p6⟩ := id tk1
  have c1' : X6_advance ctb (nI T) (0 : Int32) = some (nI k1, nI s1, nI e1) := c1
  have d1' : ∀ mval, X9_advance (nI T) (0 : Int32) mval mtap = some (nI e1, nI s1, nI k1, vlB ctb k1 s1 e1 mval) := d1
  have hwc := isWord_c (ctb := ctb) (k := k1) (s := s1) (e := e1) (w := 0) (by decide) p4 p2 (by omega)
  have hw9 := isWord_9 (ctb := ctb) (mtap := mtap) (T := T) (k := k1) (s := s1) (e := e1) (w := 0) (by decide) p4 p2 p3 hT hB
  unfold X6_read X9_read
  rw [c1', bd3_s, hwc, bd1_s, d1', bd4_s, hw9, bd1_s]
  cases wdB ctb k1 s1 e1 0 with
  | false =>
    left
    unfold X6_fails
    rw [bf0, bf0, bd3_s, gboc, errs0, bd2_s, bad22 (by decide)]
    exact ⟨1, nI s1, cP, V, _, _, _, _, _, _, _, _, _, by decide, rfl, fun i _ => ⟨rfl, rfl⟩, rfl⟩
  | true =>
    obtain ⟨k2, s2, e2, tk2, c2, d2⟩ := advT (ctb := ctb) (mtap := mtap) hT hB (a := e1) p3
    obtain ⟨q1, q2, q3, q4, q5, q6⟩ := id tk2
    unfold X9_read_j22
    rw [bt0, c2, bd3_s, bt0, gdZ0, bd1_s, i10, d2, bd4_s]
    unfold X9_read_j33
    rw [gdZ0, bd1_s, i10]
    by_cases h2 : k2 = 2
    · subst h2
      rw [if_pos (show nI 2 = (2 : Int32) from rfl), if_pos (show nI 2 = (2 : Int32) from rfl), number_c hT hB q2 q3 (q6 rfl), bd1_s, isPC_n (by omega), bd1_s]
      unfold X9_read_j57
      rw [gdZ0, bd1_s, i10, show vlB ctb 2 s2 e2 (vlB ctb k1 s1 e1 mval) = nI (min 9999 (numV ctb s2 (e2 - s2))) from rfl, X9_in_n (a := 1) (b := 7) (by decide) (by decide) rfl rfl, bd1_s, nI_toInt (by omega)]
      by_cases hn : 1 ≤ numV ctb s2 (e2 - s2) ∧ numV ctb s2 (e2 - s2) ≤ 7
      · obtain ⟨n, hnn⟩ : ∃ n, n = numV ctb s2 (e2 - s2) := ⟨_, rfl⟩
        rw [← hnn] at hn ⊢
        rw [decide_eq_true (show 1 ≤ min 1000 n ∧ min 1000 n ≤ 7 by omega), decide_eq_true (by omega), bt0, bt0, show min 1000 n = n by omega, show min 9999 n = n by omega, clear_V, bd3_s]
        obtain ⟨k3, s3, e3, tk3, c3, d3⟩ := advT (ctb := ctb) (mtap := mtap) hT hB (a := e2) q3
        obtain ⟨r1, r2, r3, r4, r5, r6⟩ := id tk3
        have hsg := isSign_c (ctb := ctb) (k := k3) (s := s3) (c := 58) r4 (fun q => by have := tk3.at3 q; omega)
        unfold X9_read_j88
        rw [c3, bd3_s, hsg, bd1_s, X9_clearsFresh_eq, bd2_s, gdZ0, bd1_s, i10, d3, bd4_s]
        unfold X9_read_j107
        cases hs : sgB ctb k3 s3 58 with
        | false =>
          rw [bf0, eats_no r4 (fun q => (hB s3 (tk3.at3 q)).2) (Or.inr (Or.inl rfl)) hs, bd5_s, i00]
          rcases rdTail (oP := va_up cP 3 (nI n)) (fre := fillA mfre 0 (fun _ => 0) 128) (W := va_up V 3 (fun _ => false)) (n := n) (mv := nI n) hT hB tk3 with ⟨f, pl, b1, b2, b3, a1, a2, a3, a4, hf, g1, g2⟩ | ⟨b1, b2, b3, a1, a2, a3, a4, g1, g2⟩
          · exact Or.inl ⟨f, pl, va_up cP 3 (nI n), va_up V 3 (fun _ => false), b1, b2, b3, nI n, a1, a2, a3, a4, _, hf, g1, fun i hi => ⟨up_ne hi, up_ne hi⟩, g2⟩
          · exact Or.inr ⟨n, fun _ => false, va_up cP 3 (nI n), va_up V 3 (fun _ => false), b1, b2, b3, a1, a2, a3, a4, _, by omega, by omega, g1, fun i hi => ⟨up_ne hi, up_ne hi⟩, up_at, fun t _ => by rw [up_at], FR_clear mfre, (fun t ht => by cases ht), g2⟩
        | true =>
          have k33 : k3 = 3 := by
            unfold sgB at hs
            rw [Bool.and_eq_true, decide_eq_true_eq] at hs; exact hs.1
          have hse3 := r5 (by omega)
          obtain ⟨k4, s4, e4, tk4, c4, d4⟩ := advT (ctb := ctb) (mtap := mtap) hT hB (a := e3) r3
          rw [bt0, eats_yes (fun q => (hB s3 (tk3.at3 q)).2) (Or.inr (Or.inl rfl)) hs, d4, bd4_s, bd5_s, i10]
          unfold X6_readSets
          rcases rdSets (ctb := ctb) (mtap := mtap) (cP := va_up cP 3 (nI n)) (n := n) (by omega) up_at hT hB (T + 1) 0 e3 (va_up V 3 (fun _ => false)) (fun _ => false) (fillA mfre 0 (fun _ => 0) 128) (vlB ctb k3 s3 e3 (nI n)) (nI k3) (nI s3) k4 s4 e4 (by omega) (by omega) r3 tk4 c4 (fun t _ => by rw [up_at]) (FR_clear mfre) (fun t ht => by cases ht) with ⟨f, pl, W, b1, b2, b3, a1, a2, a3, a4, fre, hf, g1, g2, g3⟩ | ⟨W, g', a', k5, s5, e5, mv', fre, g1, g2, g3, g4, g5, g6, g7⟩
          · left
            refine ⟨f, pl, va_up cP 3 (nI n), W, b1, b2, b3, nI n, a1, a2, a3, a4, fre, hf, ?_, fun i hi => ⟨up_ne hi, by rw [g2 i hi, up_ne hi]⟩, g3⟩
            have g1' : lfp8 (X6_readSets_h2 ctb (nI T) (va_up cP 3 (nI n)) 3) 0 (LO (va_up V 3 (fun _ => false))) (HI (va_up V 3 (fun _ => false))) 0 (-1) (nI k3) (nI s3) (nI e3) = some (0, LO W, HI W, f, pl, b1, b2, b3) := g1
            rw [g1', bd8_s, i00]
          · have hcl : ∀ Z, X6_read_j110 ctb (va_up cP 3 (nI n)) (nI T) (LO W) (HI W) 0 (-1) (nI k5) (nI s5) (nI e5) = Z → bd8 (lfp8 (X6_readSets_h2 ctb (nI T) (va_up cP 3 (nI n)) 3) 0 (LO (va_up V 3 (fun _ => false))) (HI (va_up V 3 (fun _ => false))) 0 (-1) (nI k3) (nI s3) (nI e3)) (fun q55 cLo_56 cHi_57 ctf_58 ctp_59 ctk_60 cts_61 cth_62 => (if q55 = (0 : Int32) then some ((0 : Int32), va_up cP 3 (nI n), cLo_56, cHi_57, ctf_58, ctp_59, ctk_60, cts_61, cth_62) else X6_read_j110 ctb (va_up cP 3 (nI n)) (nI T) cLo_56 cHi_57 ctf_58 ctp_59 ctk_60 cts_61 cth_62)) = Z := fun Z hZ => by
              have g1' : lfp8 (X6_readSets_h2 ctb (nI T) (va_up cP 3 (nI n)) 3) 0 (LO (va_up V 3 (fun _ => false))) (HI (va_up V 3 (fun _ => false))) 0 (-1) (nI k3) (nI s3) (nI e3) = some (1, LO W, HI W, 0, -1, nI k5, nI s5, nI e5) := g1
              rw [g1', bd8_s, i10]; exact hZ
            rcases rdTail (oP := va_up cP 3 (nI n)) (fre := fre) (W := W) (n := n) (mv := mv') hT hB g6 with ⟨f, pl, b1, b2, b3, a1, a2, a3, a4, hf, h1, h2⟩ | ⟨b1, b2, b3, a1, a2, a3, a4, h1, h2⟩
            · exact Or.inl ⟨f, pl, va_up cP 3 (nI n), W, b1, b2, b3, nI n, a1, a2, a3, a4, fre, hf, hcl _ h1, fun i hi => ⟨up_ne hi, by rw [g2 i hi, up_ne hi]⟩, g7.trans h2⟩
            · exact Or.inr ⟨n, g', va_up cP 3 (nI n), W, b1, b2, b3, a1, a2, a3, a4, fre, by omega, by omega, hcl _ h1, fun i hi => ⟨up_ne hi, by rw [g2 i hi, up_ne hi]⟩, up_at, g3, g4, g5, g7.trans h2⟩
      · left
        rw [decide_eq_false (show ¬ (1 ≤ min 1000 (numV ctb s2 (e2 - s2)) ∧ min 1000 (numV ctb s2 (e2 - s2)) ≤ 7) by omega), decide_eq_false (by omega), bf0, bf0, errs0, bd2_s, bad88 (by decide)]
        unfold X6_fails
        rw [bd3_s, gboc]
        exact ⟨2, nI s2, cP, V, _, _, _, _, _, _, _, _, _, by decide, rfl, fun i _ => ⟨rfl, rfl⟩, rfl⟩
    · left
      rw [if_neg (show ¬ nI k2 = (2 : Int32) from fun x => h2 ((nI_eq (b := 2) (by omega) (by decide)).mp x)), if_neg (show ¬ nI k2 = (2 : Int32) from fun x => h2 ((nI_eq (b := 2) (by omega) (by decide)).mp x)), errs0, bd2_s, bad57 (by decide)]
      unfold X6_fails
      rw [bd3_s, gboc]
      exact ⟨1, nI s2, cP, V, _, _, _, _, _, _, _, _, _, by decide, rfl, fun i _ => ⟨rfl, rfl⟩, rfl⟩
end
theorem keeps3 {cP oP : Nat → Int32} {V W : Nat → Nat → Bool} (h : ∀ i, i ≠ 3 → oP i = cP i ∧ W i = V i) : Keeps cP oP (LO V) (LO W) (HI V) (HI W) := fun i hi => by
  obtain ⟨h1, h2⟩ := h i (by omega)
  refine ⟨h1, ?_, ?_⟩
  · show wd (W i) = wd (V i); rw [h2]
  · show wd (fun s => W i (64 + s)) = wd (fun s => V i (64 + s)); rw [h2]
section SIM
variable {cP : Nat → Int32} {cLo : Nat → Int64} {cHi : Nat → Int64} {cpl : Nat → Int32} {ctb : Nat → Int32} {ctl : Int32} {ctf : Int32} {ctp : Int32} {ctk : Int32} {cts : Int32} {cth : Int32} {cob : Nat → Int32} {col : Int32} {cso : Nat → Int32} {cha : Int32} {chs : Int32} {cbe : Int32} {ctr : Int32} {cgl : Nat → Int64} {cgh : Nat → Int64} {cll : Nat → Int64} {clh : Nat → Int64} {cta : Nat → Int32} {cme : Nat → Int32} {cps : Int32} {cwh : Nat → Int32} {cal : Nat → Int64} {cah : Nat → Int64} {mthr : Int32} {mfrp : Int32} {mact : Int32} {mtpd : Int32} {msiz : Int32} {matx : Int32} {mfrm : Int32} {mtok : Int32} {mval : Int32} {mfk : Int32} {mfpl : Int32} {mbem : Int32} {mtrs : Int32} {mtrl : Int32} {mrom : Int32} {mtom : Int32} {mnow : Nat → Int32} {mfre : Nat → Int32} {mkep : Nat → Int32} {mtap : Nat → Int32} {mlef : Nat → Int32} {mtak : Nat → Int32} {mbes : Nat → Int32} {mrow : Nat → Int32} {mint : Nat → Int32} {mrnd : Nat → Int32} {mplo : Nat → Int32} {mhio : Nat → Int32} {mtox : Nat → Int32} {mtol : Nat → Int32}
theorem sim_told {p1 : Int32} (hr : Rel cP cLo cHi ctb ctl ctf ctp cob col cso cha chs mact mtpd mfk mfpl mtom mnow mkep mtap mtol) : ∃ (r : Int32) (ocP : Nat → Int32) (ocLo : Nat → Int64) (ocHi : Nat → Int64) (octl : Int32) (octf : Int32) (octp : Int32) (octk : Int32) (octs : Int32) (octh : Int32) (ocso : Nat → Int32) (ocha : Int32) (ochs : Int32) (omfrp : Int32) (omact : Int32) (omtpd : Int32) (omsiz : Int32) (omatx : Int32) (omfrm : Int32) (omtok : Int32) (omval : Int32) (omfk : Int32) (omfpl : Int32) (omnow : Nat → Int32) (omfre : Nat → Int32) (omkep : Nat → Int32), X8_told cP cLo cHi ctb ctl ctf ctp ctk cts cth cso cha chs p1 = some (r, ocP, ocLo, ocHi, octl, octf, octp, octk, octs, octh, ocso, ocha, ochs) ∧ X9_told mfrp mact mtpd msiz matx mfrm mtok mval mfk mfpl mnow mfre mkep mtap p1 = some (r, omfrp, omact, omtpd, omsiz, omatx, omfrm, omtok, omval, omfk, omfpl, omnow, omfre, omkep) ∧ Rel ocP ocLo ocHi ctb octl octf octp cob col ocso ocha ochs omact omtpd omfk omfpl mtom omnow omkep mtap mtol := by
  obtain ⟨V, rfl, rfl, hV⟩ := toV cLo cHi
  unfold X8_told X9_told
  rcases slot_cases p1 with ⟨j, hj, rfl⟩ | hp
  · obtain ⟨h0, ⟨t, t1, t2, t3, t4⟩, h9, h10⟩ := id hr
    subst t2 t3
    have hB : ∀ i, i < t → ctb i = mtap i ∧ BFact (ctb i) := fun i hi => ⟨(t4 i hi).1, bfact (t4 i hi).2⟩
    rw [X8_isSlot_in hj, bd1_s, i10, X9_isSlot_in hj, bd1_s, i10]
    have hT0 : TapeR ctb 0 0 mtap := ⟨0, by omega, rfl, rfl, fun i hi => absurd hi (Nat.not_lt_zero i)⟩
    rcases rdAll (cP := cP) (mfre := mfre) (V := V) (mval := mval) t1 hB with ⟨f, pl, oP, W, k', s', e', a0, a1, a2, a3, a4, fre, hf, g1, g2, g3⟩ | ⟨n, g, oP, W, k', s', e', a1, a2, a3, a4, fre, n0, n7, g1, g2, g3, g4, g5, g6, g7⟩
    · have hr' := hr.keep (keeps3 g2)
      rw [g1, bd9_s, i00, g3, bd8_s, goodN hf, bd1_s, i00]
      exact ⟨_, _, _, _, _, _, _, _, _, _, _, _, _, _, _, _, _, _, _, _, _, _, _, _, _, _, rfl, rfl, hr'.1, hT0, ⟨rfl, rfl⟩, hr'.2.2.2⟩
    · obtain ⟨oP', oLo, oHi, so, ha, hz, act, now, kep, c1, c2, c3⟩ := comes_sim hr (oP := oP) (V := W) (w := 3) (n := n) (f := g) (m := fre) (keeps3 g2) (by omega) hj g3 g4 (okF_mk n7 n0 g6) g5
      rw [g1, bd9_s, i10, c1, bd7_s, g7, bd8_s, gdZ0, bd1_s, i10, c2, bd4_s]
      exact ⟨_, _, _, _, _, _, _, _, _, _, _, _, _, _, _, _, _, _, _, _, _, _, _, _, _, _, rfl, rfl, c3.1, hT0, ⟨rfl, rfl⟩, c3.2.2.2⟩
  · rw [X8_isSlot_out hp, bd1_s, i00, X9_isSlot_out hp, bd1_s, i00]
    exact ⟨_, _, _, _, _, _, _, _, _, _, _, _, _, _, _, _, _, _, _, _, _, _, _, _, _, _, rfl, rfl, hr⟩
end SIM
