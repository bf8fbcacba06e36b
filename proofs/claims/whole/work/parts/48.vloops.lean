/-! loops over one cell -/
theorem cell_loop3 {β : Type} {F : (Int32 → (Nat → Int64) → (Nat → Int64) → Option β) → Int32 → (Nat → Int64) → (Nat → Int64) → Option β} {V : Nat → Nat → Bool} {i : Nat} {y : Option β} (W : Nat → Nat → Bool) (n : Nat) (h0 : W 0 = V i) (hs : ∀ k, k < n → ∀ r, F r (nI k) (LO (va_up V i (W k))) (HI (va_up V i (W k))) = r (nI (k + 1)) (LO (va_up V i (W (k + 1)))) (HI (va_up V i (W (k + 1))))) (he : ∀ r, F r (nI n) (LO (va_up V i (W n))) (HI (va_up V i (W n))) = y) : lfp3 F 0 (LO V) (HI V) = y := by
  have h := lfp3_for (F := F) (y := y) n (fun k => nI k) (fun k => LO (va_up V i (W k))) (fun k => HI (va_up V i (W k))) hs he
  simp only [h0, up_self] at h
  exact h
def upW : Nat → (Nat → Bool) → Nat → Bool
  | 0, f => f
  | k + 1, f => fun s => upW k f s || rsF k (upW k f) s
def dnW : Nat → (Nat → Bool) → Nat → Bool
  | 0, f => f
  | k + 1, f => fun s => dnW k f s || lkF k (dnW k f) s
def toW : Nat → (Nat → Bool) → Nat → Bool
  | 0, f => f
  | k + 1, f => fun s => toW k f (s ^^^ 2 ^ k)
def shU : (Nat → Bool) → Nat → Nat → Bool
  | _, 0 => fun _ => false
  | f, k + 1 => fun s => shU f k s || rsF k f s
def shD : (Nat → Bool) → Nat → Nat → Bool
  | _, 0 => fun _ => false
  | f, k + 1 => fun s => shD f k s || lkF k f s
def ctW (m : Nat) : Nat → (Nat → Bool) → Nat → Bool
  | 0, f => f
  | k + 1, f => if m.testBit k then ctW m k f else fun s => (ctW m k f s || lkF k (ctW m k f) s) && !s.testBit k
def wnW (m : Nat) : Nat → (Nat → Bool) → Nat → Bool
  | 0, f => f
  | k + 1, f => if m.testBit k then fun s => (wnW m k f s || rsF k (wnW m k f) s) && s.testBit k else wnW m k f
def ksW (m h : Nat) (f : Nat → Bool) : Nat → Nat → Bool
  | 0 => f
  | k + 1 => if m.testBit k then (if h.testBit k then fun s => ksW m h f k s && s.testBit k else fun s => ksW m h f k s && !s.testBit k) else ksW m h f k
theorem closeUp_V {cP : Nat → Int32} {V : Nat → Nat → Bool} {i n : Nat} (hP : cP i = nI n) (hn : n ≤ 7) : X0_closeUp cP (LO V) (HI V) i = some (LO (va_up V i (upW n (V i))), HI (va_up V i (upW n (V i)))) := by
  unfold X0_closeUp
  refine cell_loop3 (fun k => upW k (V i)) n rfl (fun k hk r => ?_) (fun r => ?_)
  · unfold X0_closeUp_h2
    rw [hP, if_neg (nI_ge hk (by omega)), joinRaised_V (by omega), bd2_s, nI_1]
    simp only [up_at, bx_uu]; rfl
  · unfold X0_closeUp_h2
    rw [hP, if_pos (nI_le (Nat.le_refl n) (by omega))]
theorem closeDown_V {cP : Nat → Int32} {V : Nat → Nat → Bool} {i n : Nat} (hP : cP i = nI n) (hn : n ≤ 7) : X0_closeDown cP (LO V) (HI V) i = some (LO (va_up V i (dnW n (V i))), HI (va_up V i (dnW n (V i)))) := by
  unfold X0_closeDown
  refine cell_loop3 (fun k => dnW k (V i)) n rfl (fun k hk r => ?_) (fun r => ?_)
  · unfold X0_closeDown_h2
    rw [hP, if_neg (nI_ge hk (by omega)), joinLink_V (by omega), bd2_s, nI_1]
    simp only [up_at, bx_uu]; rfl
  · unfold X0_closeDown_h2
    rw [hP, if_pos (nI_le (Nat.le_refl n) (by omega))]
theorem turnOver_V {cP : Nat → Int32} {V : Nat → Nat → Bool} {i n : Nat} (hP : cP i = nI n) (hn : n ≤ 7) : X0_turnOver cP (LO V) (HI V) i = some (LO (va_up V i (toW n (V i))), HI (va_up V i (toW n (V i)))) := by
  unfold X0_turnOver
  refine cell_loop3 (fun k => toW k (V i)) n rfl (fun k hk r => ?_) (fun r => ?_)
  · unfold X0_turnOver_h2
    rw [hP, if_neg (nI_ge hk (by omega)), nI_1]
    have e : ∀ x y : Int64, (∀ s, s < 64 → xb x s = toW k (V i) (s ^^^ 2 ^ k)) → (∀ s, s < 64 → xb y s = toW k (V i) ((64 + s) ^^^ 2 ^ k)) → r (nI (k + 1)) (va_up (LO (va_up V i (toW k (V i)))) i x) (va_up (HI (va_up V i (toW k (V i)))) i y) = r (nI (k + 1)) (LO (va_up V i (toW (k + 1) (V i)))) (HI (va_up V i (toW (k + 1) (V i)))) := by
      intro x y h1 h2
      rw [lo_up (g := toW (k + 1) (V i)) (fun s hs => h1 s hs), hi_up (g := toW (k + 1) (V i)) (fun s hs => h2 s hs), bx_uu]
    by_cases h : k = 6
    · subst h
      rw [if_pos (show nI 6 = (6 : Int32) from rfl)]
      refine e _ _ (fun s hs => ?_) (fun s hs => ?_)
      · rw [xb_HI hs, up_at, (top_fact s hs).2.1]
      · rw [xb_LO hs, up_at, (top_fact s hs).2.2.2]
    · have h6 : k < 6 := by omega
      rw [if_neg (show ¬ nI k = (6 : Int32) from fun q => h ((nI_eq (b := 6) (by omega) (by decide)).mp q)), gin_nI (by omega) (by decide), gin_nI (by omega) (by decide), gin_nI (by omega) (by decide), gin_nI (by omega) (by decide), nI_clamp (by omega), shl1 _ (by omega)]
      refine e _ _ (fun s hs => ?_) (fun s hs => ?_)
      · rw [xb_or, lk_word h6 hs, rs_word h6 hs, fl_or, up_at]
      · rw [xb_or, lk_wordH h6 hs, rs_wordH h6 hs, fl_or, up_at]
  · unfold X0_turnOver_h2
    rw [hP, if_pos (nI_le (Nat.le_refl n) (by omega))]
theorem becomeShade_V {cP : Nat → Int32} {V : Nat → Nat → Bool} {i j n : Nat} (hij : j ≠ i) (hP : cP j = nI n) (hn : n ≤ 7) : X0_becomeShade cP (LO V) (HI V) i j = some (va_up cP i (nI n), LO (va_up V i (shU (V j) n)), HI (va_up V i (shU (V j) n))) := by
  unfold X0_becomeShade
  rw [clear_V, bd3_s, hP]
  refine cell_loop3 (fun k => shU (V j) k) n (by rw [up_at]; rfl) (fun k hk r => ?_) (fun r => ?_)
  · unfold X0_becomeShade_h10
    rw [up_at, if_neg (nI_ge hk (by omega)), joinRaised_V (by omega), bd2_s, nI_1]
    simp only [up_at, bx_uu, up_ne hij]; rfl
  · unfold X0_becomeShade_h10
    rw [up_at, if_pos (nI_le (Nat.le_refl n) (by omega)), bx_uu]
theorem becomeShadow_V {cP : Nat → Int32} {V : Nat → Nat → Bool} {i j n : Nat} (hij : j ≠ i) (hP : cP j = nI n) (hn : n ≤ 7) : X0_becomeShadow cP (LO V) (HI V) i j = some (va_up cP i (nI n), LO (va_up V i (shD (V j) n)), HI (va_up V i (shD (V j) n))) := by
  unfold X0_becomeShadow
  rw [clear_V, bd3_s, hP]
  refine cell_loop3 (fun k => shD (V j) k) n (by rw [up_at]; rfl) (fun k hk r => ?_) (fun r => ?_)
  · unfold X0_becomeShadow_h10
    rw [up_at, if_neg (nI_ge hk (by omega)), joinLink_V (by omega), bd2_s, nI_1]
    simp only [up_at, bx_uu, up_ne hij]; rfl
  · unfold X0_becomeShadow_h10
    rw [up_at, if_pos (nI_le (Nat.le_refl n) (by omega)), bx_uu]
/-- bit p of a set, as the class asks for it -/
theorem sbit : ∀ s, s < 128 → ∀ p, p < 7 → ((nI s >>> (nI p &&& 31)) &&& (1 : Int32)) = b01 (s.testBit p) := by decide +kernel
theorem cutTo_V {cP : Nat → Int32} {V : Nat → Nat → Bool} {i n m : Nat} (hP : cP i = nI n) (hn : n ≤ 7) (hm : m < 128) : X0_cutTo cP (LO V) (HI V) i (nI m) = some (LO (va_up V i (ctW m n (V i))), HI (va_up V i (ctW m n (V i)))) := by
  unfold X0_cutTo
  refine cell_loop3 (fun k => ctW m k (V i)) n rfl (fun k hk r => ?_) (fun r => ?_)
  · unfold X0_cutTo_h2
    rw [hP, if_neg (nI_ge hk (by omega)), sbit m hm k (by omega), ib0, nI_1]
    cases hb : m.testBit k with
    | true => rw [if_pos rfl]; simp only [ctW, hb]; rfl
    | false =>
      rw [if_neg (by decide), joinLink_V (by omega), bd2_s, keepLacking_V (by omega), bd2_s]
      simp only [up_at, bx_uu, ctW, hb]; rfl
  · unfold X0_cutTo_h2
    rw [hP, if_pos (nI_le (Nat.le_refl n) (by omega))]
theorem widenBy_V {cP : Nat → Int32} {V : Nat → Nat → Bool} {i n m : Nat} (hP : cP i = nI n) (hn : n ≤ 7) (hm : m < 128) : X0_widenBy cP (LO V) (HI V) i (nI m) = some (LO (va_up V i (wnW m n (V i))), HI (va_up V i (wnW m n (V i)))) := by
  unfold X0_widenBy
  refine cell_loop3 (fun k => wnW m k (V i)) n rfl (fun k hk r => ?_) (fun r => ?_)
  · unfold X0_widenBy_h2
    rw [hP, if_neg (nI_ge hk (by omega)), sbit m hm k (by omega), ib1, nI_1]
    cases hb : m.testBit k with
    | false => rw [if_neg (by decide)]; simp only [wnW, hb]; rfl
    | true =>
      rw [if_pos rfl, joinRaised_V (by omega), bd2_s, keepWith_V (by omega), bd2_s]
      simp only [up_at, bx_uu, wnW, hb]; rfl
  · unfold X0_widenBy_h2
    rw [hP, if_pos (nI_le (Nat.le_refl n) (by omega))]
theorem keepSharing_V {V : Nat → Nat → Bool} {i m h : Nat} (hm : m < 128) (hh : h < 128) : X0_keepSharing (LO V) (HI V) i (nI m) (nI h) = some (LO (va_up V i (ksW m h (V i) 7)), HI (va_up V i (ksW m h (V i) 7))) := by
  unfold X0_keepSharing
  refine cell_loop3 (fun k => ksW m h (V i) k) 7 rfl (fun k hk r => ?_) (fun r => ?_)
  · unfold X0_keepSharing_h2
    rw [if_neg (show ¬ (6 : Int32) < nI k from nI_nlt (a := 6) (by omega) (by decide)), sbit m hm k (by omega), ib0, sbit h hh k (by omega), ib1, nI_1]
    cases hb : m.testBit k with
    | false => rw [if_neg (by decide)]; simp only [ksW, hb]; rfl
    | true =>
      rw [if_pos rfl]
      cases hc : h.testBit k with
      | true => rw [if_pos rfl, keepWith_V (by omega), bd2_s]; simp only [up_at, bx_uu, ksW, hb, hc]; rfl
      | false => rw [if_neg (by decide), keepLacking_V (by omega), bd2_s]; simp only [up_at, bx_uu, ksW, hb, hc]; rfl
  · unfold X0_keepSharing_h2
    rw [if_pos (by decide)]
/-! what they are -/
theorem xlt {s t n : Nat} (hs : s < 2 ^ n) (ht : t < 2 ^ n) : s ^^^ t < 2 ^ n := Nat.xor_lt_two_pow hs ht
theorem xor0 {s t : Nat} : s ^^^ t = 0 ↔ s = t := by
  constructor
  · intro h
    apply Nat.eq_of_testBit_eq
    intro i
    have := congrArg (fun z => z.testBit i) h
    simp only [Nat.testBit_xor, Nat.zero_testBit] at this
    cases h1 : s.testBit i <;> cases h2 : t.testBit i <;> simp [h1, h2] at this ⊢
  · intro h; subst h; exact Nat.xor_self s
theorem upW_iff {f : Nat → Bool} (hf : ∀ t, f t = true → t < 128) : ∀ k, k ≤ 7 → ∀ s, s < 128 → (upW k f s = true ↔ ∃ t, f t = true ∧ t &&& s = t ∧ s ^^^ t < 2 ^ k) := by
  intro k
  induction k with
  | zero =>
    intro _ s hs
    constructor
    · intro h; exact ⟨s, h, Nat.and_self s, by rw [Nat.xor_self]; decide⟩
    · rintro ⟨t, h1, h2, h3⟩
      have : s = t := xor0.mp (by omega)
      subst this; exact h1
  | succ k ih =>
    intro hk s hs
    have hx := x128 hs (show k < 7 by omega)
    show (upW k f s || rsF k (upW k f) s) = true ↔ _
    unfold rsF
    rw [Bool.or_eq_true, Bool.and_eq_true, ih (by omega) s hs, ih (by omega) _ hx]
    constructor
    · rintro (⟨t, h1, h2, h3⟩ | ⟨hb, t, h1, h2, h3⟩)
      · exact ⟨t, h1, up_fact.mpr (Or.inl ⟨h2, h3⟩)⟩
      · exact ⟨t, h1, up_fact.mpr (Or.inr ⟨hb, h2, h3⟩)⟩
    · rintro ⟨t, h1, h2⟩
      rcases up_fact.mp h2 with ⟨h3, h4⟩ | ⟨h3, h4, h5⟩
      · exact Or.inl ⟨t, h1, h3, h4⟩
      · exact Or.inr ⟨h3, t, h1, h4, h5⟩
theorem dnW_iff {f : Nat → Bool} (hf : ∀ t, f t = true → t < 128) : ∀ k, k ≤ 7 → ∀ s, s < 128 → (dnW k f s = true ↔ ∃ t, f t = true ∧ s &&& t = s ∧ s ^^^ t < 2 ^ k) := by
  intro k
  induction k with
  | zero =>
    intro _ s hs
    constructor
    · intro h; exact ⟨s, h, Nat.and_self s, by rw [Nat.xor_self]; decide⟩
    · rintro ⟨t, h1, h2, h3⟩
      have : s = t := xor0.mp (by omega)
      subst this; exact h1
  | succ k ih =>
    intro hk s hs
    have hx := x128 hs (show k < 7 by omega)
    show (dnW k f s || lkF k (dnW k f) s) = true ↔ _
    unfold lkF
    rw [Bool.or_eq_true, Bool.and_eq_true, ih (by omega) s hs, ih (by omega) _ hx]
    constructor
    · rintro (⟨t, h1, h2, h3⟩ | ⟨hb, t, h1, h2, h3⟩)
      · exact ⟨t, h1, dn_fact.mpr (Or.inl ⟨h2, h3⟩)⟩
      · exact ⟨t, h1, dn_fact.mpr (Or.inr ⟨by simpa using hb, h2, h3⟩)⟩
    · rintro ⟨t, h1, h2⟩
      rcases dn_fact.mp h2 with ⟨h3, h4⟩ | ⟨h3, h4, h5⟩
      · exact Or.inl ⟨t, h1, h3, h4⟩
      · exact Or.inr ⟨by simp [h3], t, h1, h4, h5⟩
/-- all sets of f are of n points -/
def inN (n : Nat) (f : Nat → Bool) : Prop := ∀ t, f t = true → t < 2 ^ n
theorem inN.to {n : Nat} {f : Nat → Bool} (h : inN n f) (hn : n ≤ 7) : ∀ t, f t = true → t < 128 := fun t ht => Nat.lt_of_lt_of_le (h t ht) (pow_le7 hn)
theorem up_iff {n : Nat} {f : Nat → Bool} (hn : n ≤ 7) (hf : inN n f) {s : Nat} (hs : s < 128) : upW n f s = true ↔ s < 2 ^ n ∧ ∃ t, f t = true ∧ t &&& s = t := by
  rw [upW_iff (hf.to hn) n hn s hs]
  constructor
  · rintro ⟨t, h1, h2, h3⟩
    refine ⟨?_, t, h1, h2⟩
    have h4 := xlt h3 (hf t h1)
    rwa [Nat.xor_assoc, Nat.xor_self, Nat.xor_zero] at h4
  · rintro ⟨h0, t, h1, h2⟩
    exact ⟨t, h1, h2, xlt h0 (hf t h1)⟩
theorem sub_lt {n s t : Nat} (h : s &&& t = s) (ht : t < 2 ^ n) : s < 2 ^ n := by rw [← h]; exact Nat.lt_of_le_of_lt Nat.and_le_right ht
theorem dn_iff {n : Nat} {f : Nat → Bool} (hn : n ≤ 7) (hf : inN n f) {s : Nat} (hs : s < 128) : dnW n f s = true ↔ ∃ t, f t = true ∧ s &&& t = s := by
  rw [dnW_iff (hf.to hn) n hn s hs]
  constructor
  · rintro ⟨t, h1, h2, h3⟩; exact ⟨t, h1, h2⟩
  · rintro ⟨t, h1, h2⟩; exact ⟨t, h1, h2, xlt (sub_lt h2 (hf t h1)) (hf t h1)⟩
theorem toW_eq {f : Nat → Bool} : ∀ k, k ≤ 7 → ∀ s, s < 128 → toW k f s = f (s ^^^ (2 ^ k - 1)) := by
  intro k
  induction k with
  | zero => intro _ s hs; show f s = f (s ^^^ 0); rw [Nat.xor_zero]
  | succ k ih =>
    intro hk s hs
    show toW k f (s ^^^ 2 ^ k) = _
    rw [ih (by omega) _ (x128 hs (show k < 7 by omega)), to_fact]
theorem shU_iff {f : Nat → Bool} {n s : Nat} : shU f n s = true ↔ ∃ p, p < n ∧ s.testBit p = true ∧ f (s ^^^ 2 ^ p) = true := by
  induction n with
  | zero => constructor
            · intro h; cases h
            · rintro ⟨p, h, _⟩; omega
  | succ n ih =>
    show (shU f n s || rsF n f s) = true ↔ _
    unfold rsF
    rw [Bool.or_eq_true, Bool.and_eq_true, ih]
    constructor
    · rintro (⟨p, h1, h2⟩ | h)
      · exact ⟨p, by omega, h2⟩
      · exact ⟨n, by omega, h⟩
    · rintro ⟨p, h1, h2⟩
      by_cases e : p = n
      · subst e; exact Or.inr h2
      · exact Or.inl ⟨p, by omega, h2⟩
theorem shD_iff {f : Nat → Bool} {n s : Nat} : shD f n s = true ↔ ∃ p, p < n ∧ s.testBit p = false ∧ f (s ^^^ 2 ^ p) = true := by
  induction n with
  | zero => constructor
            · intro h; cases h
            · rintro ⟨p, h, _⟩; omega
  | succ n ih =>
    show (shD f n s || lkF n f s) = true ↔ _
    unfold lkF
    rw [Bool.or_eq_true, Bool.and_eq_true, ih, Bool.not_eq_true']
    constructor
    · rintro (⟨p, h1, h2⟩ | h)
      · exact ⟨p, by omega, h2⟩
      · exact ⟨n, by omega, h⟩
    · rintro ⟨p, h1, h2⟩
      by_cases e : p = n
      · subst e; exact Or.inr h2
      · exact Or.inl ⟨p, by omega, h2⟩
theorem ctW_iff {f : Nat → Bool} (hf : ∀ t, f t = true → t < 128) {m : Nat} (hm : m < 128) : ∀ k, k ≤ 7 → ∀ s, s < 128 → (ctW m k f s = true ↔ ∃ t, f t = true ∧ t &&& mkC m k = s) := by
  intro k
  induction k with
  | zero =>
    intro _ s hs
    have e : ∀ m, m < 128 → ∀ t, t < 128 → t &&& mkC m 0 = t := fun m _ t ht => eq7 (and_128l ht) ht fun p hp => by rw [Nat.testBit_and, mkC_bit hp]; simp
    constructor
    · intro h; exact ⟨s, h, e m hm s hs⟩
    · rintro ⟨t, h1, h2⟩
      rw [e m hm t (hf t h1)] at h2
      subst h2; exact h1
  | succ k ih =>
    intro hk s hs
    have hx := x128 hs (show k < 7 by omega)
    obtain ⟨f1, f2, f3⟩ := ct_fact3 (show k < 7 by omega) hm
    rw [f3]
    cases hb : m.testBit k with
    | true => simp only [ctW, hb, if_true]; exact ih (by omega) s hs
    | false =>
      simp only [ctW, hb]
      rw [if_neg (by decide), if_neg (by decide)]
      unfold lkF
      rw [Bool.and_eq_true, Bool.or_eq_true, Bool.and_eq_true, Bool.not_eq_true', ih (by omega) s hs, ih (by omega) _ hx]
      constructor
      · rintro ⟨⟨t, h1, h2⟩ | ⟨_, t, h1, h2⟩, h3⟩
        · refine ⟨t, h1, ?_⟩
          rw [ct_fact1 f2]
          exact ct_fact2.mpr ⟨h3, Or.inl h2⟩
        · refine ⟨t, h1, ?_⟩
          rw [ct_fact1 f2]
          exact ct_fact2.mpr ⟨h3, Or.inr h2⟩
      · rintro ⟨t, h1, h2⟩
        rw [ct_fact1 f2] at h2
        obtain ⟨h3, h4⟩ := ct_fact2.mp h2
        rcases h4 with h4 | h4
        · exact ⟨Or.inl ⟨t, h1, h4⟩, h3⟩
        · exact ⟨Or.inr ⟨h3, t, h1, h4⟩, h3⟩
theorem ct_iff {n m : Nat} {f : Nat → Bool} (hn : n ≤ 7) (hf : inN n f) (hm : m < 2 ^ n) {s : Nat} (hs : s < 128) : ctW m n f s = true ↔ ∃ t, f t = true ∧ t &&& m = s := by
  rw [ctW_iff (hf.to hn) (Nat.lt_of_lt_of_le hm (pow_le7 hn)) n hn s hs]
  constructor
  · rintro ⟨t, h1, h2⟩; exact ⟨t, h1, by rw [← ct_end hn hm (hf t h1)]; exact h2⟩
  · rintro ⟨t, h1, h2⟩; exact ⟨t, h1, by rw [ct_end hn hm (hf t h1)]; exact h2⟩
theorem wnW_iff {f : Nat → Bool} (hf : ∀ t, f t = true → t < 128) {m : Nat} (hm : m < 128) : ∀ k, k ≤ 7 → ∀ s, s < 128 → (wnW m k f s = true ↔ ∃ t, f t = true ∧ t ||| (m &&& (2 ^ k - 1)) = s) := by
  intro k
  induction k with
  | zero =>
    intro _ s hs
    constructor
    · intro h; exact ⟨s, h, by show s ||| (m &&& 0) = s; rw [Nat.and_zero, Nat.or_zero]⟩
    · rintro ⟨t, h1, h2⟩
      have h3 : t ||| (m &&& 0) = s := h2
      rw [Nat.and_zero, Nat.or_zero] at h3
      subst h3; exact h1
  | succ k ih =>
    intro hk s hs
    have hx := x128 hs (show k < 7 by omega)
    rw [wn_fact3]
    cases hb : m.testBit k with
    | false => simp only [wnW, hb]; rw [if_neg (by decide), if_neg (by decide)]; exact ih (by omega) s hs
    | true =>
      simp only [wnW, hb, if_true]
      unfold rsF
      rw [Bool.and_eq_true, Bool.or_eq_true, Bool.and_eq_true, ih (by omega) s hs, ih (by omega) _ hx]
      constructor
      · rintro ⟨⟨t, h1, h2⟩ | ⟨_, t, h1, h2⟩, h3⟩
        · refine ⟨t, h1, ?_⟩
          rw [← Nat.or_assoc]
          exact wn_fact2.mpr ⟨h3, Or.inl h2⟩
        · refine ⟨t, h1, ?_⟩
          rw [← Nat.or_assoc]
          exact wn_fact2.mpr ⟨h3, Or.inr h2⟩
      · rintro ⟨t, h1, h2⟩
        rw [← Nat.or_assoc] at h2
        obtain ⟨h3, h4⟩ := wn_fact2.mp h2
        rcases h4 with h4 | h4
        · exact ⟨Or.inl ⟨t, h1, h4⟩, h3⟩
        · exact ⟨Or.inr ⟨h3, t, h1, h4⟩, h3⟩
theorem wn_iff {n m : Nat} {f : Nat → Bool} (hn : n ≤ 7) (hf : inN n f) (hm : m < 2 ^ n) {s : Nat} (hs : s < 128) : wnW m n f s = true ↔ ∃ t, f t = true ∧ t ||| m = s := by
  rw [wnW_iff (hf.to hn) (Nat.lt_of_lt_of_le hm (pow_le7 hn)) n hn s hs, wn_end hm]
theorem ksW_eq {f : Nat → Bool} {m h s : Nat} : ∀ k, ksW m h f k s = (f s && decide (∀ p, p < k → m.testBit p = true → s.testBit p = h.testBit p)) := by
  intro k
  induction k with
  | zero => simp [ksW]
  | succ k ih =>
    have e : (∀ p, p < k + 1 → m.testBit p = true → s.testBit p = h.testBit p) ↔ (∀ p, p < k → m.testBit p = true → s.testBit p = h.testBit p) ∧ (m.testBit k = true → s.testBit k = h.testBit k) := by
      constructor
      · intro q; exact ⟨fun p hp => q p (by omega), q k (by omega)⟩
      · rintro ⟨q1, q2⟩ p hp
        by_cases e : p = k
        · subst e; exact q2
        · exact q1 p (by omega)
    simp only [e, Bool.decide_and]
    cases hb : m.testBit k with
    | false => simp only [ksW, hb]; rw [if_neg (by decide), ih]; simp
    | true =>
      simp only [ksW, hb, if_true]
      cases hc : h.testBit k with
      | true => rw [if_pos rfl]; show (ksW m h f k s && s.testBit k) = _; rw [ih, Bool.and_assoc]; cases s.testBit k <;> simp
      | false => rw [if_neg (by decide)]; show (ksW m h f k s && !s.testBit k) = _; rw [ih, Bool.and_assoc]; cases s.testBit k <;> simp
theorem ks_eq {f : Nat → Bool} {m h s : Nat} (hs : s < 128) (hm : m < 128) : ksW m h f 7 s = (f s && decide (s &&& m = h &&& m)) := by
  rw [ksW_eq]
  congr 1
  apply decide_eq_decide.mpr
  constructor
  · intro q
    apply eq7 (and_128l hs) (and_128r hm)
    intro p hp
    rw [Nat.testBit_and, Nat.testBit_and]
    cases hb : m.testBit p with
    | false => simp
    | true => rw [q p hp hb]
  · intro q p hp hb
    have := congrArg (fun z => z.testBit p) q
    simpa [hb] using this
