/-! what a family is: the class -/
section
variable {cP : Nat → Int32} {V : Nat → Nat → Bool} {j n : Nat}
theorem makesItself_V {k : Nat} (hj : j < 3) (hP : cP j = nI n) (hn : n ≤ 7) (hf : inN n (V j)) (hk : k ≤ 9) : ∃ (b : Bool) (x : Int32) (g h : Nat → Bool), X8_makesItself cP (LO V) (HI V) j (nI k) = some (b01 b, va_up (va_up cP 3 (nI n)) 4 x, LO (va_up (va_up V 3 h) 4 g), HI (va_up (va_up V 3 h) 4 g)) ∧ (b = true ↔ ∀ s, s < 128 → (MK n (V j) k s ↔ V j s = true)) := by
  obtain ⟨x, g, h, e, hm⟩ := make_V (cP := cP) (V := V) hj hP hn hf hk
  refine ⟨_, x, g, h, by
    unfold X8_makesItself
    rw [e, bd3_s, sameAs_V, bd1_s, gbo_01], ?_⟩
  rw [Bool.and_eq_true, decide_eq_true_eq, allB_iff]
  have e1 : va_up (va_up V 3 h) 4 g 3 = h := by rw [up_ne (by decide), up_at]
  have e2 : va_up (va_up V 3 h) 4 g j = V j := by rw [up_ne (by omega), up_ne (by omega)]
  rw [e1, e2]
  constructor
  · rintro ⟨_, a⟩ s hs
    have := a s hs
    rw [beq_iff_eq] at this
    rw [← hm s hs, this]
  · intro a
    refine ⟨by rw [up_ne (by decide), up_at, up_ne (by omega), up_ne (by omega)]; exact hP.symm, fun s hs => ?_⟩
    rw [beq_iff_eq]
    exact Bool.eq_iff_iff.mpr ((hm s hs).trans (a s hs))
theorem allAnswer_V (hj : j < 3) (hP : cP j = nI n) (hn : n ≤ 7) (hf : inN n (V j)) : X8_allAnswer cP (LO V) (HI V) 3 j = some (b01 (allB (fun s => !(V 3 s && !mA n (V j) s)) 128), va_up cP 4 (nI n), LO (va_up (va_up V 4 (mA n (V j))) 3 (fun s => V 3 s && !mA n (V j) s)), HI (va_up (va_up V 4 (mA n (V j))) 3 (fun s => V 3 s && !mA n (V j) s))) := by
  unfold X8_allAnswer
  rw [becomeAnswers_V (by omega) hP hn hf, bd3_s, lose_V, bd2_s, isEmpty_V, bd1_s, gbo_01]
  simp only [up_at, up_ne (show (3 : Nat) ≠ 4 by decide)]
theorem becomeComparable_V {k : Nat} (hj : j < 3) (hP : cP j = nI n) (hk : k < 128) : X0_becomeComparable cP (LO V) (HI V) 3 j (nI k) 4 = some (va_up (va_up cP 4 (nI n)) 3 (nI n), LO (va_up (va_up V 4 (ksW (k ^^^ 127) 0 (V j) 7)) 3 (fun s => ksW k k (V j) 7 s || ksW (k ^^^ 127) 0 (V j) 7 s)), HI (va_up (va_up V 4 (ksW (k ^^^ 127) 0 (V j) 7)) 3 (fun s => ksW k k (V j) 7 s || ksW (k ^^^ 127) 0 (V j) 7 s))) := by
  unfold X0_becomeComparable
  rw [become_V, bd3_s, show ((127 : Int32) &&& (nI k ^^^ (-1 : Int32))) = nI (k ^^^ 127) from cmp_nI (n := 7) (by decide) hk, show (0 : Int32) = nI 0 from rfl, keepSharing_V (xor_128 hk (by decide)) (by decide), bd2_s, become_V, bd3_s, keepSharing_V hk hk, bd2_s, join_V, bd2_s]
  simp only [up_at, bx_uu, up_ne (show j ≠ 4 by omega), up_ne (show j ≠ 3 by omega), up_ne (show (4 : Nat) ≠ 3 by decide), hP]
theorem cmpr_eq {f : Nat → Bool} {k s : Nat} (hk : k < 128) (hs : s < 128) : (ksW k k f 7 s || ksW (k ^^^ 127) 0 f 7 s) = (f s && (decide (s &&& k = k) || decide (s &&& k = s))) := by
  rw [ks_eq hs hk, ks_eq hs (xor_128 hk (by decide)), Nat.and_self, Nat.zero_and, show decide (s &&& (k ^^^ 127) = 0) = decide (s &&& k = s) from decide_eq_decide.mpr (sub_cmp0 (n := 7) hs hk)]
  cases f s <;> rfl
theorem isChain_V (hj : j < 3) (hP : cP j = nI n) (hn : n ≤ 7) (hf : inN n (V j)) : ∃ (b : Bool) (oP : Nat → Int32) (W : Nat → Nat → Bool), X8_isChain cP (LO V) (HI V) j = some (b01 b, oP, LO W, HI W) ∧ Keeps cP oP (LO V) (LO W) (HI V) (HI W) ∧ (b = true ↔ IS n (V j) 4) := by
  have hq := pow_le7 hn
  unfold X8_isChain
  refine lfp4_inv (F := X8_isChain_h2 j) (fun o => ∃ (b : Bool) (oP : Nat → Int32) (W : Nat → Nat → Bool), o = some (b01 b, oP, LO W, HI W) ∧ Keeps cP oP (LO V) (LO W) (HI V) (HI W) ∧ (b = true ↔ IS n (V j) 4)) (2 ^ n) (fun k a p lo hi => a = nI k ∧ (∃ W, lo = LO W ∧ hi = HI W ∧ (∀ i, i < 3 → W i = V i ∧ p i = cP i) ∧ Keeps cP p (LO V) (LO W) (HI V) (HI W)) ∧ ∀ s, s < k → V j s = true → ∀ t, V j t = true → t &&& s = s ∨ t &&& s = t) (fun k a p lo hi' hk hI => ?_) (fun a p lo hi' hI => ?_) ⟨rfl, ⟨V, rfl, rfl, fun i _ => ⟨rfl, rfl⟩, Keeps.rfl'⟩, fun s hs => by omega⟩
  · obtain ⟨rfl, ⟨W, rfl, rfl, hW, hK⟩, hdone⟩ := hI
    have hPj : p j = nI n := by rw [(hW j hj).2]; exact hP
    have hsp : X0_span p j = some (nI (2 ^ n)) := X0_span_eq hPj hn
    cases hb : V j k with
    | false =>
      right
      refine ⟨_, _, _, _, fun r => by
        unfold X8_isChain_h2
        rw [hsp, bd1_s, if_neg (nI_ge hk (by omega)), holds_V (by omega), bd1_s, (hW j hj).1, hb, bf0, nI_1], rfl, ⟨W, rfl, rfl, hW, hK⟩, fun s hs h => ?_⟩
      by_cases e : s = k
      · subst e; rw [hb] at h; cases h
      · exact hdone s (by omega) h
    | true =>
      have hcmp : allB (fun s => (ksW k k (V j) 7 s || ksW (k ^^^ 127) 0 (V j) 7 s) == V j s) 128 = true ↔ ∀ t, V j t = true → t &&& k = k ∨ t &&& k = t := by
        rw [allB_iff]
        constructor
        · intro h t ht
          have := h t (hf.to hn t ht)
          rw [beq_iff_eq, cmpr_eq (by omega) (hf.to hn t ht), ht, Bool.true_and, Bool.or_eq_true, decide_eq_true_eq, decide_eq_true_eq] at this
          exact this
        · intro h t ht
          rw [beq_iff_eq, cmpr_eq (by omega) ht]
          cases hv : V j t with
          | false => rfl
          | true =>
            rw [Bool.true_and, Bool.or_eq_true, decide_eq_true_eq, decide_eq_true_eq]
            exact h t hv
      have body : ∀ r, X8_isChain_h2 j r (nI k) p (LO W) (HI W) = (if b01 (allB (fun s => (ksW k k (V j) 7 s || ksW (k ^^^ 127) 0 (V j) 7 s) == V j s) 128) = 0 then some (0, va_up (va_up p 4 (nI n)) 3 (nI n), LO (va_up (va_up W 4 (ksW (k ^^^ 127) 0 (V j) 7)) 3 (fun s => ksW k k (V j) 7 s || ksW (k ^^^ 127) 0 (V j) 7 s)), HI (va_up (va_up W 4 (ksW (k ^^^ 127) 0 (V j) 7)) 3 (fun s => ksW k k (V j) 7 s || ksW (k ^^^ 127) 0 (V j) 7 s))) else r (nI (k + 1)) (va_up (va_up p 4 (nI n)) 3 (nI n)) (LO (va_up (va_up W 4 (ksW (k ^^^ 127) 0 (V j) 7)) 3 (fun s => ksW k k (V j) 7 s || ksW (k ^^^ 127) 0 (V j) 7 s))) (HI (va_up (va_up W 4 (ksW (k ^^^ 127) 0 (V j) 7)) 3 (fun s => ksW k k (V j) 7 s || ksW (k ^^^ 127) 0 (V j) 7 s)))) := by
        intro r
        unfold X8_isChain_h2
        rw [hsp, bd1_s, if_neg (nI_ge hk (by omega)), holds_V (by omega), bd1_s, (hW j hj).1, hb, bt0, becomeComparable_V hj hPj (by omega), bd3_s, sameAs_V, bd1_s, nI_1]
        simp only [up_at, up_ne (show j ≠ 3 by omega), up_ne (show j ≠ 4 by omega), (hW j hj).1, hPj, decide_true, Bool.true_and]
      have hK' : Keeps cP (va_up (va_up p 4 (nI n)) 3 (nI n)) (LO V) (LO (va_up (va_up W 4 (ksW (k ^^^ 127) 0 (V j) 7)) 3 (fun s => ksW k k (V j) 7 s || ksW (k ^^^ 127) 0 (V j) 7 s))) (HI V) (HI (va_up (va_up W 4 (ksW (k ^^^ 127) 0 (V j) 7)) 3 (fun s => ksW k k (V j) 7 s || ksW (k ^^^ 127) 0 (V j) 7 s))) := (((hK.up 4 (by omega) _).up 3 (by omega) _).upP 4 (by omega) _).upP 3 (by omega) _
      cases hc : allB (fun s => (ksW k k (V j) 7 s || ksW (k ^^^ 127) 0 (V j) 7 s) == V j s) 128 with
      | false =>
        left
        refine ⟨_, fun r => by rw [body r, hc, bf0]; rfl, false, _, _, rfl, hK', ⟨(fun h => by cases h), (fun h => ?_)⟩⟩
        have : ∀ t, V j t = true → t &&& k = k ∨ t &&& k = t := fun t ht => by
          have h1 : ∀ s t, V j s = true → V j t = true → s &&& t = s ∨ s &&& t = t := h
          rcases h1 t k ht hb with q | q
          · exact Or.inr q
          · exact Or.inl q
        rw [hcmp.mpr this] at hc; cases hc
      | true =>
        right
        refine ⟨_, _, _, _, fun r => by rw [body r, hc, bt0], rfl, ⟨_, rfl, rfl, fun i hi => ⟨by rw [up_ne (by omega), up_ne (by omega)]; exact (hW i hi).1, by rw [up_ne (by omega), up_ne (by omega)]; exact (hW i hi).2⟩, hK'⟩, fun s hs h => ?_⟩
        by_cases e : s = k
        · subst e; exact hcmp.mp hc
        · exact hdone s (by omega) h
  · obtain ⟨rfl, ⟨W, rfl, rfl, hW, hK⟩, hdone⟩ := hI
    have hPj : p j = nI n := by rw [(hW j hj).2]; exact hP
    refine ⟨_, fun r => by
      unfold X8_isChain_h2
      rw [X0_span_eq hPj hn, bd1_s, if_pos (nI_le (Nat.le_refl _) (by omega))]; rfl, true, _, W, rfl, hK, ⟨(fun _ => ?_), (fun _ => rfl)⟩⟩
    show ∀ s t, V j s = true → V j t = true → s &&& t = s ∨ s &&& t = t
    intro s t hs ht
    rcases hdone t (hf t ht) ht s hs with q | q
    · exact Or.inr q
    · exact Or.inl q
theorem collectMeets_V (hj : j < 3) (hP : cP j = nI n) (hn : n ≤ 7) : ∃ x g, X8_collectMeets cP (LO V) (HI V) j = some (va_up (va_up cP 3 (nI n)) 4 x, LO (va_up (va_up V 3 (accG (V j) (fun t => ctW t n (V j)) (fun _ => false) (2 ^ n))) 4 g), HI (va_up (va_up V 3 (accG (V j) (fun t => ctW t n (V j)) (fun _ => false) (2 ^ n))) 4 g)) := by
  have hq := pow_le7 hn
  unfold X8_collectMeets
  rw [clear_V, bd3_s, hP]
  obtain ⟨x, g, e⟩ := lfp4_ab (F := X8_collectMeets_h13 j) (cP := va_up cP 3 (nI n)) (V := va_up V 3 (fun _ => false)) 3 4 (by decide) (accG (V j) (fun t => ctW t n (V j)) (fun _ => false)) (2 ^ n) (fun a b c => some (a, b, c)) (by rw [up_at]; rfl) (fun k hk x g => by
    have hsp : X0_span (va_up (va_up cP 3 (nI n)) 4 x) j = some (nI (2 ^ n)) := X0_span_eq (by rw [up_ne (by omega), up_ne (by omega)]; exact hP) hn
    cases hb : V j k with
    | false =>
      refine ⟨x, g, fun r => ?_⟩
      unfold X8_collectMeets_h13
      rw [hsp, bd1_s, if_neg (nI_ge hk (by omega)), holds_V (by omega), bd1_s, up_ne (by omega), up_ne (by omega), up_ne (by omega), hb, bf0, nI_1]
      simp only [accG, hb]; rfl
    | true =>
      refine ⟨nI n, ctW k n (V j), fun r => ?_⟩
      unfold X8_collectMeets_h13
      rw [hsp, bd1_s, if_neg (nI_ge hk (by omega)), holds_V (by omega), bd1_s, up_ne (by omega), up_ne (by omega), up_ne (by omega), hb, bt0, nI_1, become_V, bd3_s, cutTo_V (n := n) (by rw [up_at, up_ne (by omega), up_ne (by omega)]; exact hP) hn (by omega), bd2_s, join_V, bd2_s]
      simp only [up_at, bx_uu, up_ne (show j ≠ 4 by omega), up_ne (show j ≠ 3 by omega), up_ne (show (3 : Nat) ≠ 4 by decide), up_comm (show (4 : Nat) ≠ 3 by decide), hP, accG, hb, if_true]) (fun x g r => by
    unfold X8_collectMeets_h13
    rw [X0_span_eq (n := n) (by rw [up_ne (by omega), up_ne (by omega)]; exact hP) hn, bd1_s, if_pos (nI_le (Nat.le_refl _) (by omega))])
  simp only [bx_uu] at e
  exact ⟨x, g, e⟩
end
/-! what they mean -/
theorem down_iff {n : Nat} {f : Nat → Bool} (hn : n ≤ 7) (hf : inN n f) : (∀ s, s < 128 → (MK n f 2 s ↔ f s = true)) ↔ IS n f 2 := by
  show (∀ s, s < 128 → ((∃ t, f t = true ∧ s &&& t = s) ↔ f s = true)) ↔ ∀ s p, f s = true → s.testBit p = true → f (s ^^^ 2 ^ p) = true
  constructor
  · intro h s p hs hb
    have hs7 := hf.to hn s hs
    have hp := bit_n (hf s hs) hb
    exact (h _ (x128 hs7 (by omega))).mp ⟨s, hs, flip_sub hb⟩
  · intro h s hs
    have key : ∀ k, k ≤ 7 → ∀ s, s < 128 → dnW k f s = f s := by
      intro k
      induction k with
      | zero => intro _ s _; rfl
      | succ k ih =>
        intro hk s hs
        show (dnW k f s || lkF k (dnW k f) s) = f s
        unfold lkF
        rw [ih (by omega) s hs, ih (by omega) _ (x128 hs (by omega))]
        cases hfs : f s with
        | true => rfl
        | false =>
          rw [Bool.false_or]
          cases hb : s.testBit k with
          | true => rfl
          | false =>
            cases hx : f (s ^^^ 2 ^ k) with
            | false => rfl
            | true =>
              have := h (s ^^^ 2 ^ k) k hx (by rw [flip_eq, hb]; rfl)
              rw [flip_flip, hfs] at this; cases this
    rw [← dn_iff hn hf hs, key n hn s hs]
theorem upw_iff {n : Nat} {f : Nat → Bool} (hn : n ≤ 7) (hf : inN n f) : (∀ s, s < 128 → (MK n f 3 s ↔ f s = true)) ↔ IS n f 3 := by
  show (∀ s, s < 128 → ((s < 2 ^ n ∧ ∃ t, f t = true ∧ t &&& s = t) ↔ f s = true)) ↔ ∀ s p, p < n → f s = true → s.testBit p = false → f (s ^^^ 2 ^ p) = true
  constructor
  · intro h s p hp hs hb
    have hs7 := hf.to hn s hs
    refine (h _ (x128 hs7 (by omega))).mp ⟨flip_lt hp (hf s hs), s, hs, sub7.mpr fun q hq => ?_⟩
    by_cases e : q = p
    · subst e; rw [hb] at hq; cases hq
    · rw [flip_ne s e]; exact hq
  · intro h s hs
    have key : ∀ k, k ≤ n → ∀ s, s < 128 → upW k f s = f s := by
      intro k
      induction k with
      | zero => intro _ s _; rfl
      | succ k ih =>
        intro hk s hs
        show (upW k f s || rsF k (upW k f) s) = f s
        unfold rsF
        rw [ih (by omega) s hs, ih (by omega) _ (x128 hs (by omega))]
        cases hfs : f s with
        | true => rfl
        | false =>
          rw [Bool.false_or]
          cases hb : s.testBit k with
          | false => rfl
          | true =>
            cases hx : f (s ^^^ 2 ^ k) with
            | false => rfl
            | true =>
              have := h (s ^^^ 2 ^ k) k (by omega) hx (by rw [flip_eq, hb]; rfl)
              rw [flip_flip, hfs] at this; cases this
    rw [← up_iff hn hf hs, key n (Nat.le_refl _) s hs]
theorem free_iff {n : Nat} {f : Nat → Bool} (hn : n ≤ 7) (hf : inN n f) : (∀ s, s < 128 → (MK n f 7 s ↔ f s = true)) ↔ IS n f 5 := by
  show (∀ s, s < 128 → ((f s = true ∧ ∀ t, f t = true → t &&& s = t → t = s) ↔ f s = true)) ↔ ∀ s t, f s = true → f t = true → s = t ∨ (s &&& t ≠ s ∧ s &&& t ≠ t)
  constructor
  · intro h s t hs ht
    by_cases e : s = t
    · exact Or.inl e
    · right
      refine ⟨fun q => e (((h t (hf.to hn t ht)).mpr ht).2 s hs q), fun q => ?_⟩
      have := ((h s (hf.to hn s hs)).mpr hs).2 t ht (by rw [Nat.and_comm]; exact q)
      exact e this.symm
  · intro h s _
    refine ⟨fun a => a.1, fun hs => ⟨hs, fun t ht q => ?_⟩⟩
    rcases h t s ht hs with e | ⟨e, _⟩
    · exact e
    · exact absurd q e
theorem clos_iff {op : Nat → Nat → Nat} {f : Nat → Bool} (hf : ∀ t, f t = true → t < 128) (ho : ∀ a b, a < 128 → b < 128 → op a b < 128) : (∀ s, s < 128 → (clP op f s ↔ f s = true)) ↔ ∀ s t, f s = true → f t = true → f (op s t) = true := by
  constructor
  · intro h s t hs ht
    refine (h _ (ho s t (hf s hs) (hf t ht))).mp fun g hg1 hg2 => hg2 s t (hg1 s hs) (hg1 t ht)
  · intro h s _
    exact ⟨(fun a => a f (fun t ht => ht) h), (fun a g hg1 _ => hg1 s a)⟩
theorem same_lv {n : Nat} {f : Nat → Bool} (hn : n ≤ 7) (hf : inN n f) : (fstI (hasL f n) (n + 1) = lstI (hasL f n) (n + 1)) ↔ IS n f 1 := by
  show _ ↔ ∀ s t, f s = true → f t = true → pc s = pc t
  have h1 := fst_lvP (M := f) hn
  have h2 := lst_maxP (M := f) hn
  rcases h1 with ⟨a1, a2⟩ | ⟨l, a1, ⟨s0, a2, a3, a4⟩, a5⟩
  · have h3 : ∀ s, f s = true → False := fun s hs => by rw [a2 s (hf s hs)] at hs; cases hs
    constructor
    · intro _ s t hs; exact absurd hs (fun z => h3 s z)
    · intro _
      rcases h2 with ⟨b1, b2⟩ | ⟨l', b1, ⟨s1, b2, b3, b4⟩, b5⟩
      · rw [a1, b1]
      · exact absurd b3 (fun z => h3 s1 z)
  · rcases h2 with ⟨b1, b2⟩ | ⟨l', b1, ⟨s1, b2, b3, b4⟩, b5⟩
    · rw [b2 s0 a2] at a3; cases a3
    · rw [a1, b1]
      have p1 := pc_le s0
      have p2 := pc_le s1
      constructor
      · intro e s t hs ht
        have e' := (nI_eq (by omega) (by omega)).mp e
        have c1 := a5 s (hf s hs) hs
        have c2 := a5 t (hf t ht) ht
        have c3 := b5 s (hf s hs) hs
        have c4 := b5 t (hf t ht) ht
        omega
      · intro h
        have := h s0 s1 a3 b3
        rw [show l = l' by omega]
section SIM
variable {cP : Nat → Int32} {cLo : Nat → Int64} {cHi : Nat → Int64} {cpl : Nat → Int32} {ctb : Nat → Int32} {ctl : Int32} {ctf : Int32} {ctp : Int32} {ctk : Int32} {cts : Int32} {cth : Int32} {cob : Nat → Int32} {col : Int32} {cso : Nat → Int32} {cha : Int32} {chs : Int32} {cbe : Int32} {ctr : Int32} {cgl : Nat → Int64} {cgh : Nat → Int64} {cll : Nat → Int64} {clh : Nat → Int64} {cta : Nat → Int32} {cme : Nat → Int32} {cps : Int32} {cwh : Nat → Int32} {cal : Nat → Int64} {cah : Nat → Int64} {mthr : Int32} {mfrp : Int32} {mact : Int32} {mtpd : Int32} {msiz : Int32} {matx : Int32} {mfrm : Int32} {mtok : Int32} {mval : Int32} {mfk : Int32} {mfpl : Int32} {mbem : Int32} {mtrs : Int32} {mtrl : Int32} {mrom : Int32} {mtom : Int32} {mnow : Nat → Int32} {mfre : Nat → Int32} {mkep : Nat → Int32} {mtap : Nat → Int32} {mlef : Nat → Int32} {mtak : Nat → Int32} {mbes : Nat → Int32} {mrow : Nat → Int32} {mint : Nat → Int32} {mrnd : Nat → Int32} {mplo : Nat → Int32} {mhio : Nat → Int32} {mtox : Nat → Int32} {mtol : Nat → Int32}
theorem isSuch_V {V : Nat → Nat → Bool} {j n k : Nat} (hj : j < 3) (hP : cP j = nI n) (h0 : 0 < n) (hn : n ≤ 7) (hf : inN n (V j)) (hk : k ≤ 10) : ∃ (b : Bool) (oP : Nat → Int32) (W : Nat → Nat → Bool), X8_isSuch cP (LO V) (HI V) j (nI k) = some (b01 b, oP, LO W, HI W) ∧ Keeps cP oP (LO V) (LO W) (HI V) (HI W) ∧ (b = true ↔ IS n (V j) k) := by
  have hf7 := hf.to hn
  have kk : ∀ (x : Int32) (g h : Nat → Bool), Keeps cP (va_up (va_up cP 3 (nI n)) 4 x) (LO V) (LO (va_up (va_up V 3 h) 4 g)) (HI V) (HI (va_up (va_up V 3 h) 4 g)) := fun x g h => (((Keeps.rfl'.up 3 (by omega) _).up 4 (by omega) _).upP 3 (by omega) _).upP 4 (by omega) _
  unfold X8_isSuch
  rcases (show k = 0 ∨ k = 1 ∨ k = 2 ∨ k = 3 ∨ k = 4 ∨ k = 5 ∨ k = 6 ∨ k = 7 ∨ k = 8 ∨ k = 9 ∨ k = 10 by omega) with rfl | rfl | rfl | rfl | rfl | rfl | rfl | rfl | rfl | rfl | rfl
  · rw [if_pos (by decide), become_V, bd3_s, allAnswer_V (n := n) hj (by rw [up_ne (by omega)]; exact hP) hn (by rw [up_ne (by omega)]; exact hf), bd4_s, gbo_01]
    simp only [up_at, up_ne (show j ≠ 3 by omega)]
    refine ⟨_, _, _, rfl, ((((Keeps.rfl'.up 3 (by omega) _).up 4 (by omega) _).up 3 (by omega) _).upP 3 (by omega) _).upP 4 (by omega) _, ?_⟩
    show _ ↔ ∀ s t, V j s = true → V j t = true → s &&& t ≠ 0
    rw [allB_iff]
    constructor
    · intro h s t hs ht
      have := h s (hf7 s hs)
      rw [hs, Bool.true_and, Bool.not_not, mA_iff hf7] at this
      rw [Nat.and_comm]
      exact this.2 t ht
    · intro h s _
      cases hs : V j s with
      | false => rfl
      | true =>
        rw [Bool.true_and, Bool.not_not, mA_iff hf7]
        exact ⟨hf s hs, fun t ht => h t s ht hs⟩
  · rw [if_neg (by decide), if_pos (by decide), leastLevel_V hP hn, bd1_s, greatestLevel_V hP hn, bd1_s]
    refine ⟨decide (fstI (hasL (V j) n) (n + 1) = lstI (hasL (V j) n) (n + 1)), cP, V, ?_, Keeps.rfl', ?_⟩
    · by_cases e : fstI (hasL (V j) n) (n + 1) = lstI (hasL (V j) n) (n + 1)
      · rw [if_pos e, decide_eq_true e]; rfl
      · rw [if_neg e, decide_eq_false e]; rfl
    · rw [decide_eq_true_eq]; exact same_lv hn hf
  · obtain ⟨b, x, g, h, e, hb⟩ := makesItself_V (cP := cP) (V := V) (k := 2) hj hP hn hf (by decide)
    rw [if_neg (by decide), if_neg (by decide), if_pos (by decide), show X8_makesItself cP (LO V) (HI V) j (2 : Int32) = _ from e, bd4_s, gbo_01]
    exact ⟨b, _, _, rfl, kk x g h, hb.trans (down_iff hn hf)⟩
  · obtain ⟨b, x, g, h, e, hb⟩ := makesItself_V (cP := cP) (V := V) (k := 3) hj hP hn hf (by decide)
    rw [if_neg (by decide), if_neg (by decide), if_neg (by decide), if_pos (by decide), show X8_makesItself cP (LO V) (HI V) j (3 : Int32) = _ from e, bd4_s, gbo_01]
    exact ⟨b, _, _, rfl, kk x g h, hb.trans (upw_iff hn hf)⟩
  · obtain ⟨b, oP, W, e, hK, hb⟩ := isChain_V (cP := cP) (V := V) hj hP hn hf
    rw [if_neg (by decide), if_neg (by decide), if_neg (by decide), if_neg (by decide), if_pos (by decide), e, bd4_s, gbo_01]
    exact ⟨b, _, _, rfl, hK, hb⟩
  · obtain ⟨b, x, g, h, e, hb⟩ := makesItself_V (cP := cP) (V := V) (k := 7) hj hP hn hf (by decide)
    rw [if_neg (by decide), if_neg (by decide), if_neg (by decide), if_neg (by decide), if_neg (by decide), if_pos (by decide), show X8_makesItself cP (LO V) (HI V) j (7 : Int32) = _ from e, bd4_s, gbo_01]
    exact ⟨b, _, _, rfl, kk x g h, hb.trans (free_iff hn hf)⟩
  · rw [if_neg (by decide), if_neg (by decide), if_neg (by decide), if_neg (by decide), if_neg (by decide), if_neg (by decide), if_pos (by decide), pointsOfAll_V hP hn, bd1_s, all_eq hn]
    have hlt : anN (2 ^ n - 1) (V j) 128 < 2 ^ n := lt7 fun p hp => by
      cases hb : (anN (2 ^ n - 1) (V j) 128).testBit p with
      | false => rfl
      | true =>
        have := ((anN_bit 128).mp hb).1
        rw [Nat.testBit_two_pow_sub_one, decide_eq_true_eq] at this
        omega
    have hq := pow_le7 hn
    refine ⟨!(anN (2 ^ n - 1) (V j) 128 == 0), cP, V, ?_, Keeps.rfl', ?_⟩
    · by_cases e : anN (2 ^ n - 1) (V j) 128 = 0
      · rw [if_pos (show nI (anN (2 ^ n - 1) (V j) 128) = 0 by rw [e]; rfl), e]; rfl
      · rw [if_neg (nI_ne0 (by omega) (by omega)), show (anN (2 ^ n - 1) (V j) 128 == 0) = false by simpa using e]; rfl
    · show _ ↔ ∃ p, p < n ∧ ∀ s, V j s = true → s.testBit p = true
      rw [Bool.not_eq_true', beq_eq_false_iff_ne]
      have hbit : ∀ p, (anN (2 ^ n - 1) (V j) 128).testBit p = true ↔ p < n ∧ ∀ s, V j s = true → s.testBit p = true := fun p => by
        rw [anN_bit, Nat.testBit_two_pow_sub_one, decide_eq_true_eq]
        exact ⟨(fun h => ⟨h.1, fun s hs => h.2 s (hf7 s hs) hs⟩), (fun h => ⟨h.1, fun s _ hs => h.2 s hs⟩)⟩
      constructor
      · intro h
        apply Classical.byContradiction
        intro hno
        apply h
        apply Nat.eq_of_testBit_eq
        intro p
        rw [Nat.zero_testBit]
        cases hb : (anN (2 ^ n - 1) (V j) 128).testBit p with
        | false => rfl
        | true => exact absurd ⟨p, (hbit p).mp hb⟩ hno
      · rintro ⟨p, hp⟩ z
        have := (hbit p).mpr hp
        rw [z, Nat.zero_testBit] at this; cases this
  · obtain ⟨x, g, e⟩ := changing_V (cP := cP) (V := V) (u := j) (by omega) hP hn
    rw [if_neg (by decide), if_neg (by decide), if_neg (by decide), if_neg (by decide), if_neg (by decide), if_neg (by decide), if_neg (by decide), if_pos (by decide), e, bd4_s]
    have hmv : ∀ i k, mvJ (V j) i k ≤ k ∧ (mvJ (V j) i k = 0 ↔ ∀ t, t < k → wp i (i + 1 + t) (V j) = 0) := by
      intro i k
      induction k with
      | zero => exact ⟨Nat.le_refl _, (fun _ t ht => by omega), (fun _ => rfl)⟩
      | succ k ih =>
        have := wp_le i (i + 1 + k) (V j)
        refine ⟨by show mvJ (V j) i k + wp i (i + 1 + k) (V j) ≤ _; omega, ?_⟩
        show mvJ (V j) i k + wp i (i + 1 + k) (V j) = 0 ↔ _
        constructor
        · intro h t ht
          by_cases w : t = k
          · subst w; omega
          · exact ih.2.mp (by omega) t (by omega)
        · intro h
          have a := ih.2.mpr (fun t ht => h t (by omega))
          have b := h k (by omega)
          omega
    have hmi : ∀ i, i ≤ n → mvI (V j) n i ≤ 7 * i ∧ (mvI (V j) n i = 0 ↔ ∀ a b, a < i → a < b → b < n → wp a b (V j) = 0) := by
      intro i
      induction i with
      | zero => intro _; exact ⟨Nat.le_refl _, (fun _ a b ha => by omega), (fun _ => rfl)⟩
      | succ i ih =>
        intro hi
        obtain ⟨c1, c2⟩ := ih (by omega)
        obtain ⟨d1, d2⟩ := hmv i (n - (i + 1))
        refine ⟨by show mvI (V j) n i + mvJ (V j) i (n - (i + 1)) ≤ _; omega, ?_⟩
        show mvI (V j) n i + mvJ (V j) i (n - (i + 1)) = 0 ↔ _
        constructor
        · intro h a b ha hab hb
          by_cases w : a = i
          · subst w
            have := d2.mp (by omega) (b - (a + 1)) (by omega)
            rwa [show a + 1 + (b - (a + 1)) = b by omega] at this
          · exact c2.mp (by omega) a b (by omega) hab hb
        · intro h
          have u := c2.mpr (fun a b ha hab hb => h a b (by omega) hab hb)
          have v := d2.mpr (fun t ht => h i (i + 1 + t) (by omega) (by omega) (by omega))
          omega
    obtain ⟨m1, m2⟩ := hmi n (Nat.le_refl _)
    refine ⟨mvI (V j) n n == 0, va_up cP 3 x, va_up V 3 g, ?_, (Keeps.rfl'.up 3 (by omega) _).upP 3 (by omega) _, ?_⟩
    · by_cases q : mvI (V j) n n = 0
      · rw [if_pos (show nI (mvI (V j) n n) = 0 by rw [q]; rfl), q]; rfl
      · rw [if_neg (nI_ne0 (by omega) (by omega)), show (mvI (V j) n n == 0) = false by simpa using q]; rfl
    · show _ ↔ ∀ i k, i < k → k < n → wp i k (V j) = 0
      rw [beq_iff_eq, m2]
      exact ⟨(fun h i k h1 h2 => h i k (by omega) h1 h2), (fun h a b _ h1 h2 => h a b h1 h2)⟩
  · obtain ⟨x, g, e⟩ := collectMeets_V (cP := cP) (V := V) hj hP hn
    rw [if_neg (by decide), if_neg (by decide), if_neg (by decide), if_neg (by decide), if_neg (by decide), if_neg (by decide), if_neg (by decide), if_neg (by decide), if_pos (by decide), e, bd3_s, allAnswer_V (n := n) hj (by rw [up_ne (by omega), up_ne (by omega)]; exact hP) hn (by rw [up_ne (by omega), up_ne (by omega)]; exact hf), bd4_s, gbo_01]
    simp only [up_ne (show j ≠ 3 by omega), up_ne (show j ≠ 4 by omega), up_ne (show (3 : Nat) ≠ 4 by decide), up_at]
    refine ⟨_, _, _, rfl, ((((((Keeps.rfl'.up 3 (by omega) _).up 4 (by omega) _).up 4 (by omega) _).up 3 (by omega) _).upP 3 (by omega) _).upP 4 (by omega) _).upP 4 (by omega) _, ?_⟩
    show _ ↔ ∀ s t u, V j s = true → V j t = true → V j u = true → s &&& t &&& u ≠ 0
    rw [allB_iff]
    constructor
    · intro h s t u hs ht hu
      have hst : s &&& t < 128 := and_128l (hf7 s hs)
      have := h (s &&& t) hst
      have hacc : accG (V j) (fun t => ctW t n (V j)) (fun _ => false) (2 ^ n) (s &&& t) = true := accG_iff.mpr (Or.inr ⟨t, hf t ht, ht, (ct_iff hn hf (hf t ht) hst).mpr ⟨s, hs, rfl⟩⟩)
      rw [hacc, Bool.true_and, Bool.not_not, mA_iff hf7] at this
      rw [Nat.and_comm]
      exact this.2 u hu
    · intro h s hs
      cases hc : accG (V j) (fun t => ctW t n (V j)) (fun _ => false) (2 ^ n) s with
      | false => rfl
      | true =>
        rcases accG_iff.mp hc with q | ⟨t, q1, q2, q3⟩
        · cases q
        · obtain ⟨u, r1, r2⟩ := (ct_iff hn hf q1 hs).mp q3
          rw [Bool.true_and, Bool.not_not, mA_iff hf7]
          refine ⟨by rw [← r2]; exact Nat.lt_of_le_of_lt Nat.and_le_left (hf u r1), fun v hv => ?_⟩
          rw [← r2, Nat.and_comm]
          exact h u t v r1 q2 hv
  · obtain ⟨b, x, g, h, e, hb⟩ := makesItself_V (cP := cP) (V := V) (k := 5) hj hP hn hf (by decide)
    rw [if_neg (by decide), if_neg (by decide), if_neg (by decide), if_neg (by decide), if_neg (by decide), if_neg (by decide), if_neg (by decide), if_neg (by decide), if_neg (by decide), if_pos (by decide), show X8_makesItself cP (LO V) (HI V) j (5 : Int32) = _ from e, bd4_s, gbo_01]
    exact ⟨b, _, _, rfl, kk x g h, hb.trans (clos_iff (op := fun a b => a &&& b) hf7 (fun a b ha _ => and_128l ha))⟩
  · obtain ⟨b, x, g, h, e, hb⟩ := makesItself_V (cP := cP) (V := V) (k := 6) hj hP hn hf (by decide)
    rw [if_neg (by decide), if_neg (by decide), if_neg (by decide), if_neg (by decide), if_neg (by decide), if_neg (by decide), if_neg (by decide), if_neg (by decide), if_neg (by decide), if_neg (by decide), show X8_makesItself cP (LO V) (HI V) j (6 : Int32) = _ from e, bd4_s, gbo_01]
    exact ⟨b, _, _, rfl, kk x g h, hb.trans (clos_iff (op := fun a b => a ||| b) hf7 (fun a b ha hb => or_128 ha hb))⟩
theorem sim_is {p1 p2 : Int32} (hr : Rel cP cLo cHi ctb ctl ctf ctp cob col cso cha chs mact mtpd mfk mfpl mtom mnow mkep mtap mtol) : ∃ (r : Int32) (ocP : Nat → Int32) (ocLo : Nat → Int64) (ocHi : Nat → Int64), X8_is cP cLo cHi p1 p2 = some (r, ocP, ocLo, ocHi) ∧ X9_is mnow p1 p2 = some r ∧ Rel ocP ocLo ocHi ctb ctl ctf ctp cob col cso cha chs mact mtpd mfk mfpl mtom mnow mkep mtap mtol := by
  obtain ⟨V, rfl, rfl, hV⟩ := toV cLo cHi
  unfold X8_is X9_is
  rcases famcase hV hr p1 with ⟨j, n, hj, rfl, h0, hn, hi, hP, hM, e1, e2⟩ | ⟨e1, e2⟩
  · rw [e1, bdo_s, e2, bd1_s, i10, X9_in_n (a := 0) (b := 10) (by decide) (by decide) rfl rfl, bd1_s]
    rcases in_cases (p := p2) 0 10 (by decide) with ⟨k, _, hk, rfl⟩ | h
    · obtain ⟨b, oP, W, hb1, hb2, hb3⟩ := isSuch_V (cP := cP) (V := V) hj hP h0 hn hi hk
      obtain ⟨b', hc1, hc2⟩ := isSo_9 hj hM h0 hn hi hk
      have hbb : b = b' := Bool.eq_iff_iff.mpr (hb3.trans hc2.symm)
      subst hbb
      rw [if_neg (nI_pos (by omega)), if_pos (show nI k ≤ (10 : Int32) from nI_le (b := 10) hk (by decide)), hb1, bd4_s, nI_toInt (by omega), decide_eq_true (by omega), bt0, hc1, bd1_s]
      refine ⟨b01 b, oP, LO W, HI W, ?_, ?_, hr.keep hb2⟩
      · cases b <;> rfl
      · cases b <;> rfl
    · rw [decide_eq_false h, bf0]
      exact ⟨-2, _, _, _, outA h rfl rfl, rfl, hr⟩
  · rw [e1, bdo_n, e2, bd1_s, i00]
    exact ⟨_, _, _, _, rfl, rfl, hr⟩
end SIM
