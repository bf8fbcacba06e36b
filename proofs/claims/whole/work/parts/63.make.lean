/-! what is made of a family: the class -/
def clP (op : Nat → Nat → Nat) (f : Nat → Bool) (s : Nat) : Prop := ∀ g : Nat → Bool, (∀ t, f t = true → g t = true) → (∀ a b, g a = true → g b = true → g (op a b) = true) → g s = true
def MK (n : Nat) (f : Nat → Bool) (k s : Nat) : Prop :=
  if k = 0 then ∃ p, p < n ∧ s.testBit p = false ∧ f (s ^^^ 2 ^ p) = true
  else if k = 1 then ∃ p, p < n ∧ s.testBit p = true ∧ f (s ^^^ 2 ^ p) = true
  else if k = 2 then ∃ t, f t = true ∧ s &&& t = s
  else if k = 3 then s < 2 ^ n ∧ ∃ t, f t = true ∧ t &&& s = t
  else if k = 4 then s < 2 ^ n ∧ f (s ^^^ (2 ^ n - 1)) = true
  else if k = 5 then clP (fun a b => a &&& b) f s
  else if k = 6 then clP (fun a b => a ||| b) f s
  else if k = 7 then f s = true ∧ ∀ t, f t = true → t &&& s = t → t = s
  else if k = 8 then f s = true ∧ ∀ t, f t = true → s &&& t = s → t = s
  else mA n f s = true ∧ ∀ p, p < n → s.testBit p = true → mA n f (s ^^^ 2 ^ p) = false
theorem bit_n {n s p : Nat} (hs : s < 2 ^ n) (hb : s.testBit p = true) : p < n := by
  by_cases q : p < n
  · exact q
  · rw [Nat.testBit_lt_two_pow (Nat.lt_of_lt_of_le hs (Nat.pow_le_pow_right (by decide : 2 > 0) (by omega : n ≤ p)))] at hb; cases hb
theorem shU_in {n : Nat} {f : Nat → Bool} (hf : inN n f) : inN n (shU f n) := fun u hu => by
  obtain ⟨p, h1, h2, h3⟩ := shU_iff.mp hu
  have := flip_lt h1 (hf _ h3)
  rwa [Nat.xor_assoc, Nat.xor_self, Nat.xor_zero] at this
theorem shD_in {n : Nat} {f : Nat → Bool} (hf : inN n f) : inN n (shD f n) := fun u hu => by
  obtain ⟨p, h1, h2, h3⟩ := shD_iff.mp hu
  have := flip_lt h1 (hf _ h3)
  rwa [Nat.xor_assoc, Nat.xor_self, Nat.xor_zero] at this
/-- two sets of which one is within the other: a point of difference -/
theorem diff_pt {t s : Nat} (h : t &&& s = t) (hne : t ≠ s) : ∃ p, s.testBit p = true ∧ t.testBit p = false := by
  apply Classical.byContradiction
  intro hno
  apply hne
  apply Nat.eq_of_testBit_eq
  intro p
  cases h1 : s.testBit p with
  | true =>
    cases h2 : t.testBit p with
    | true => rfl
    | false => exact absurd ⟨p, h1, h2⟩ hno
  | false =>
    cases h2 : t.testBit p with
    | false => rfl
    | true => rw [sub7.mp h p h2] at h1; cases h1
theorem flip_sub {u p : Nat} (h : u.testBit p = true) : (u ^^^ 2 ^ p) &&& u = u ^^^ 2 ^ p := sub7.mpr fun q hq => by
  by_cases e : q = p
  · subst e; exact h
  · rwa [flip_ne u e] at hq
theorem flip_sup {t p s : Nat} (h : t &&& s = t) (hs : s.testBit p = true) : (t ^^^ 2 ^ p) &&& s = t ^^^ 2 ^ p := sub7.mpr fun q hq => by
  by_cases e : q = p
  · subst e; exact hs
  · rw [flip_ne t e] at hq; exact sub7.mp h q hq
theorem flip_flip (s p : Nat) : s ^^^ 2 ^ p ^^^ 2 ^ p = s := by rw [Nat.xor_assoc, Nat.xor_self, Nat.xor_zero]
theorem sub_trans {a b c : Nat} (h1 : a &&& b = a) (h2 : b &&& c = b) : a &&& c = a := sub7.mpr fun p hp => sub7.mp h2 p (sub7.mp h1 p hp)
theorem low_iff {n : Nat} {f : Nat → Bool} (hn : n ≤ 7) (hf : inN n f) {s : Nat} (hs : s < 128) : (f s && !upW n (shU f n) s) = true ↔ f s = true ∧ ∀ t, f t = true → t &&& s = t → t = s := by
  rw [Bool.and_eq_true, Bool.not_eq_true']
  constructor
  · rintro ⟨h1, h2⟩
    refine ⟨h1, fun t ht hts => ?_⟩
    by_cases e : t = s
    · exact e
    · obtain ⟨p, hp1, hp2⟩ := diff_pt hts e
      have := (up_iff hn (shU_in hf) hs).mpr ⟨hf s h1, t ^^^ 2 ^ p, shU_iff.mpr ⟨p, bit_n (hf s h1) hp1, by rw [flip_eq, hp2]; rfl, by rw [flip_flip]; exact ht⟩, flip_sup hts hp1⟩
      rw [this] at h2; cases h2
  · rintro ⟨h1, h2⟩
    refine ⟨h1, ?_⟩
    cases hu : upW n (shU f n) s with
    | false => rfl
    | true =>
      obtain ⟨_, u, hu1, hu2⟩ := (up_iff hn (shU_in hf) hs).mp hu
      obtain ⟨p, hp1, hp2, hp3⟩ := shU_iff.mp hu1
      have := h2 _ hp3 (sub_trans (flip_sub hp2) hu2)
      have hs1 : s.testBit p = true := sub7.mp hu2 p hp2
      rw [← this, flip_eq, hp2] at hs1; cases hs1
theorem high_iff {n : Nat} {f : Nat → Bool} (hn : n ≤ 7) (hf : inN n f) {s : Nat} (hs : s < 128) : (f s && !dnW n (shD f n) s) = true ↔ f s = true ∧ ∀ t, f t = true → s &&& t = s → t = s := by
  rw [Bool.and_eq_true, Bool.not_eq_true']
  constructor
  · rintro ⟨h1, h2⟩
    refine ⟨h1, fun t ht hts => ?_⟩
    by_cases e : t = s
    · exact e
    · obtain ⟨p, hp1, hp2⟩ := diff_pt hts (fun z => e z.symm)
      have := (dn_iff hn (shD_in hf) hs).mpr ⟨t ^^^ 2 ^ p, shD_iff.mpr ⟨p, bit_n (hf t ht) hp1, by rw [flip_eq, hp1]; rfl, by rw [flip_flip]; exact ht⟩, sub7.mpr fun q hq => by
        by_cases w : q = p
        · subst w; rw [hp2] at hq; cases hq
        · rw [flip_ne t w]; exact sub7.mp hts q hq⟩
      rw [this] at h2; cases h2
  · rintro ⟨h1, h2⟩
    refine ⟨h1, ?_⟩
    cases hu : dnW n (shD f n) s with
    | false => rfl
    | true =>
      obtain ⟨u, hu1, hu2⟩ := (dn_iff hn (shD_in hf) hs).mp hu
      obtain ⟨p, hp1, hp2, hp3⟩ := shD_iff.mp hu1
      have hsub : u &&& (u ^^^ 2 ^ p) = u := sub7.mpr fun q hq => by
        by_cases w : q = p
        · subst w; rw [hp2] at hq; cases hq
        · rw [flip_ne u w]; exact hq
      have := h2 _ hp3 (sub_trans hu2 hsub)
      have hx : (u ^^^ 2 ^ p).testBit p = true := by rw [flip_eq, hp2]; rfl
      rw [this] at hx
      have := sub7.mp hu2 p hx
      rw [hp2] at this; cases this
section
variable {cP : Nat → Int32} {V : Nat → Nat → Bool} {i j n : Nat}
theorem becomeLowest_V (hij : j ≠ i) (hP : cP j = nI n) (hn : n ≤ 7) : X0_becomeLowest cP (LO V) (HI V) i j = some (va_up cP i (nI n), LO (va_up V i (fun s => V j s && !upW n (shU (V j) n) s)), HI (va_up V i (fun s => V j s && !upW n (shU (V j) n) s))) := by
  unfold X0_becomeLowest
  rw [becomeShade_V hij hP hn, bd3_s, closeUp_V (n := n) up_at hn, bd2_s, restOf_V, bd2_s]
  simp only [up_at, bx_uu, up_ne hij]
theorem becomeHighest_V (hij : j ≠ i) (hP : cP j = nI n) (hn : n ≤ 7) : X0_becomeHighest cP (LO V) (HI V) i j = some (va_up cP i (nI n), LO (va_up V i (fun s => V j s && !dnW n (shD (V j) n) s)), HI (va_up V i (fun s => V j s && !dnW n (shD (V j) n) s))) := by
  unfold X0_becomeHighest
  rw [becomeShadow_V hij hP hn, bd3_s, closeDown_V (n := n) up_at hn, bd2_s, restOf_V, bd2_s]
  simp only [up_at, bx_uu, up_ne hij]
end
/-- closing by one pass -/
def clG (W : Nat → (Nat → Bool) → Nat → Bool) (f : Nat → Bool) : Nat → Nat → Bool
  | 0 => f
  | k + 1 => if f k then fun s => clG W f k s || W k (clG W f k) s else clG W f k
section
variable {cP : Nat → Int32} {V : Nat → Nat → Bool} {j n : Nat}
theorem closeByMeets_V (hj : j < 3) (hP : cP j = nI n) (hP3 : cP 3 = nI n) (hV3 : V 3 = V j) (hn : n ≤ 7) : ∃ x g, X0_closeByMeets cP (LO V) (HI V) 3 j 4 = some (va_up cP 4 x, LO (va_up (va_up V 3 (clG (fun t => ctW t n) (V j) (2 ^ n))) 4 g), HI (va_up (va_up V 3 (clG (fun t => ctW t n) (V j) (2 ^ n))) 4 g)) := by
  have hq := pow_le7 hn
  unfold X0_closeByMeets
  refine lfp4_ab (F := X0_closeByMeets_h2 j 4 3) 3 4 (by decide) (clG (fun t => ctW t n) (V j)) (2 ^ n) (fun a b c => some (a, b, c)) hV3 (fun k hk x g => ?_) (fun x g r => ?_)
  · have hsp : X0_span (va_up cP 4 x) j = some (nI (2 ^ n)) := X0_span_eq (by rw [up_ne (by omega)]; exact hP) hn
    cases hb : V j k with
    | false =>
      refine ⟨x, g, fun r => ?_⟩
      unfold X0_closeByMeets_h2
      rw [hsp, bd1_s, if_neg (nI_ge hk (by omega)), holds_V (by omega), bd1_s, up_ne (by omega), up_ne (by omega), hb, bf0, nI_1]
      simp only [clG, hb]; rfl
    | true =>
      refine ⟨nI n, ctW k n (clG (fun t => ctW t n) (V j) k), fun r => ?_⟩
      unfold X0_closeByMeets_h2
      rw [hsp, bd1_s, if_neg (nI_ge hk (by omega)), holds_V (by omega), bd1_s, up_ne (by omega), up_ne (by omega), hb, bt0, nI_1, become_V, bd3_s, cutTo_V (n := n) (by rw [up_at, up_ne (by decide)]; exact hP3) hn (by omega), bd2_s, join_V, bd2_s]
      simp only [up_at, bx_uu, up_ne (show (3 : Nat) ≠ 4 by decide), up_comm (show (4 : Nat) ≠ 3 by decide), hP3, clG, hb, if_true]
  · unfold X0_closeByMeets_h2
    rw [X0_span_eq (n := n) (by rw [up_ne (by omega)]; exact hP) hn, bd1_s, if_pos (nI_le (Nat.le_refl _) (by omega))]
theorem closeByJoins_V (hj : j < 3) (hP : cP j = nI n) (hP3 : cP 3 = nI n) (hV3 : V 3 = V j) (hn : n ≤ 7) : ∃ x g, X0_closeByJoins cP (LO V) (HI V) 3 j 4 = some (va_up cP 4 x, LO (va_up (va_up V 3 (clG (fun t => wnW t n) (V j) (2 ^ n))) 4 g), HI (va_up (va_up V 3 (clG (fun t => wnW t n) (V j) (2 ^ n))) 4 g)) := by
  have hq := pow_le7 hn
  unfold X0_closeByJoins
  refine lfp4_ab (F := X0_closeByJoins_h2 j 4 3) 3 4 (by decide) (clG (fun t => wnW t n) (V j)) (2 ^ n) (fun a b c => some (a, b, c)) hV3 (fun k hk x g => ?_) (fun x g r => ?_)
  · have hsp : X0_span (va_up cP 4 x) j = some (nI (2 ^ n)) := X0_span_eq (by rw [up_ne (by omega)]; exact hP) hn
    cases hb : V j k with
    | false =>
      refine ⟨x, g, fun r => ?_⟩
      unfold X0_closeByJoins_h2
      rw [hsp, bd1_s, if_neg (nI_ge hk (by omega)), holds_V (by omega), bd1_s, up_ne (by omega), up_ne (by omega), hb, bf0, nI_1]
      simp only [clG, hb]; rfl
    | true =>
      refine ⟨nI n, wnW k n (clG (fun t => wnW t n) (V j) k), fun r => ?_⟩
      unfold X0_closeByJoins_h2
      rw [hsp, bd1_s, if_neg (nI_ge hk (by omega)), holds_V (by omega), bd1_s, up_ne (by omega), up_ne (by omega), hb, bt0, nI_1, become_V, bd3_s, widenBy_V (n := n) (by rw [up_at, up_ne (by decide)]; exact hP3) hn (by omega), bd2_s, join_V, bd2_s]
      simp only [up_at, bx_uu, up_ne (show (3 : Nat) ≠ 4 by decide), up_comm (show (4 : Nat) ≠ 3 by decide), hP3, clG, hb, if_true]
  · unfold X0_closeByJoins_h2
    rw [X0_span_eq (n := n) (by rw [up_ne (by omega)]; exact hP) hn, bd1_s, if_pos (nI_le (Nat.le_refl _) (by omega))]
end
/-- one pass is enough, for any operation like these two -/
theorem cl_pass {op : Nat → Nat → Nat} {W : Nat → (Nat → Bool) → Nat → Bool} {n : Nat} {f : Nat → Bool} (hn : n ≤ 7) (hf : inN n f) (hlt : ∀ a b, a < 2 ^ n → b < 2 ^ n → op a b < 2 ^ n) (hW : ∀ g, inN n g → ∀ k, k < 2 ^ n → ∀ s, s < 128 → (W k g s = true ↔ ∃ t, g t = true ∧ op t k = s)) (hWb : ∀ g, inN n g → ∀ k, k < 2 ^ n → ∀ s, W k g s = true → s < 2 ^ n) (hid : ∀ a, op a a = a) (hcomm : ∀ a b c, op (op a b) c = op (op a c) b) (hass : ∀ a b c, op a (op b c) = op (op a b) c) : ∀ s, s < 128 → (clG W f (2 ^ n) s = true ↔ clP op f s) := by
  have hq := pow_le7 hn
  have hin : ∀ k, k ≤ 2 ^ n → inN n (clG W f k) := by
    intro k
    induction k with
    | zero => intro _; exact hf
    | succ k ih =>
      intro hk s hs
      cases hb : f k with
      | false => simp only [clG, hb] at hs; exact ih (by omega) s hs
      | true =>
        simp only [clG, hb, if_true] at hs
        rw [Bool.or_eq_true] at hs
        rcases hs with hs | hs
        · exact ih (by omega) s hs
        · exact hWb _ (ih (by omega)) k (by omega) s hs
  have hmono : ∀ k, k < 2 ^ n → ∀ s, clG W f k s = true → clG W f (k + 1) s = true := by
    intro k hk s hs
    cases hb : f k with
    | false => simp only [clG, hb]; exact hs
    | true => simp only [clG, hb, if_true]; rw [hs, Bool.true_or]
  have hmono2 : ∀ d k, k + d ≤ 2 ^ n → ∀ s, clG W f k s = true → clG W f (k + d) s = true := by
    intro d
    induction d with
    | zero => intro k _ s hs; exact hs
    | succ d ih => intro k hk s hs; exact hmono (k + d) (by omega) s (ih k (by omega) s hs)
  have hstep : ∀ k, k < 2 ^ n → f k = true → ∀ s, s < 128 → (clG W f (k + 1) s = true ↔ clG W f k s = true ∨ ∃ t, clG W f k t = true ∧ op t k = s) := by
    intro k hk hb s hs
    simp only [clG, hb, if_true]
    rw [Bool.or_eq_true, hW _ (hin k (by omega)) k hk s hs]
  -- closed under op with each set of f
  have hcl : ∀ x, f x = true → ∀ d, x + 1 + d ≤ 2 ^ n → ∀ y, clG W f (x + 1 + d) y = true → clG W f (x + 1 + d) (op y x) = true := by
    intro x hx d
    have hx2 := hf x hx
    induction d with
    | zero =>
      intro hd y hy
      have hy2 := hin (x + 1) (by omega) y hy
      have ho := hlt y x hy2 hx2
      rcases (hstep x hx2 hx y (by omega)).mp hy with h | ⟨t, h1, h2⟩
      · exact (hstep x hx2 hx _ (by omega)).mpr (Or.inr ⟨y, h, rfl⟩)
      · have e : op y x = y := by rw [← h2, ← hass, hid]
        show clG W f (x + 1) (op y x) = true
        rw [e]; exact hy
    | succ d ih =>
      intro hd y hy
      have hy2 := hin (x + 1 + (d + 1)) hd y hy
      have ho := hlt y x hy2 hx2
      cases hb : f (x + 1 + d) with
      | false =>
        have e : clG W f (x + 1 + (d + 1)) = clG W f (x + 1 + d) := by
          show clG W f (x + 1 + d + 1) = _
          simp only [clG, hb]; rfl
        rw [e] at hy ⊢
        exact ih (by omega) y hy
      | true =>
        have hk : x + 1 + d < 2 ^ n := by omega
        rcases (hstep (x + 1 + d) hk hb y (by omega)).mp hy with h | ⟨t, h1, h2⟩
        · exact (hstep (x + 1 + d) hk hb _ (by omega)).mpr (Or.inl (ih (by omega) y h))
        · refine (hstep (x + 1 + d) hk hb _ (by omega)).mpr (Or.inr ⟨op t x, ih (by omega) t h1, ?_⟩)
          rw [← h2, hcomm]
  have hclN : ∀ x, f x = true → ∀ y, clG W f (2 ^ n) y = true → clG W f (2 ^ n) (op y x) = true := by
    intro x hx y hy
    have hx2 := hf x hx
    have := hcl x hx (2 ^ n - (x + 1)) (by omega) y
    rw [show x + 1 + (2 ^ n - (x + 1)) = 2 ^ n by omega] at this
    exact this hy
  have hfN : ∀ t, f t = true → clG W f (2 ^ n) t = true := fun t ht => by
    have := hmono2 (2 ^ n) 0 (by omega) t ht
    rwa [Nat.zero_add] at this
  have hQ : ∀ k, k ≤ 2 ^ n → ∀ y, clG W f k y = true → ∀ a, clG W f (2 ^ n) a = true → clG W f (2 ^ n) (op a y) = true := by
    intro k
    induction k with
    | zero => intro _ y hy a ha; exact hclN y hy a ha
    | succ k ih =>
      intro hk y hy a ha
      cases hb : f k with
      | false =>
        have : clG W f k y = true := by simp only [clG, hb] at hy; exact hy
        exact ih (by omega) y this a ha
      | true =>
        have hy2 := hin (k + 1) hk y hy
        rcases (hstep k (by omega) hb y (by omega)).mp hy with h | ⟨t, h1, h2⟩
        · exact ih (by omega) y h a ha
        · rw [← h2, hass]
          exact hclN k hb _ (ih (by omega) t h1 a ha)
  intro s hs
  constructor
  · intro h g hg1 hg2
    have : ∀ k, k ≤ 2 ^ n → ∀ s, clG W f k s = true → g s = true := by
      intro k
      induction k with
      | zero => intro _ s hs; exact hg1 s hs
      | succ k ih =>
        intro hk s hs
        cases hb : f k with
        | false => simp only [clG, hb] at hs; exact ih (by omega) s hs
        | true =>
          have hy2 := hin (k + 1) hk s hs
          rcases (hstep k (by omega) hb s (by omega)).mp hs with h | ⟨t, h1, h2⟩
          · exact ih (by omega) s h
          · rw [← h2]; exact hg2 t k (ih (by omega) t h1) (hg1 k hb)
    exact this (2 ^ n) (Nat.le_refl _) s h
  · intro h
    exact h (clG W f (2 ^ n)) hfN (fun a b ha hb => hQ (2 ^ n) (Nat.le_refl _) b hb a ha)
theorem xc_and : ∀ a b c : Nat, a &&& b &&& c = a &&& c &&& b := fun a b c => by rw [Nat.and_assoc, Nat.and_comm b c, ← Nat.and_assoc]
theorem xc_or : ∀ a b c : Nat, a ||| b ||| c = a ||| c ||| b := fun a b c => by rw [Nat.or_assoc, Nat.or_comm b c, ← Nat.or_assoc]
theorem lk_bnd {n k : Nat} {g : Nat → Bool} (hk : k < n) (hg : inN n g) : ∀ s, lkF k g s = true → s < 2 ^ n := fun s hs => by
  unfold lkF at hs
  rw [Bool.and_eq_true] at hs
  have := flip_lt hk (hg _ hs.2)
  rwa [flip_flip] at this
theorem rs_bnd {n k : Nat} {g : Nat → Bool} (hk : k < n) (hg : inN n g) : ∀ s, rsF k g s = true → s < 2 ^ n := fun s hs => by
  unfold rsF at hs
  rw [Bool.and_eq_true] at hs
  have := flip_lt hk (hg _ hs.2)
  rwa [flip_flip] at this
theorem ctW_in {n m : Nat} {g : Nat → Bool} (hg : inN n g) : ∀ k, k ≤ n → inN n (ctW m k g) := by
  intro k
  induction k with
  | zero => intro _; exact hg
  | succ k ih =>
    intro hk s hs
    cases hb : m.testBit k with
    | true => simp only [ctW, hb, if_true] at hs; exact ih (by omega) s hs
    | false =>
      simp only [ctW, hb] at hs
      rw [if_neg (by decide), Bool.and_eq_true, Bool.or_eq_true] at hs
      rcases hs.1 with h | h
      · exact ih (by omega) s h
      · exact lk_bnd (by omega) (ih (by omega)) s h
theorem wnW_in {n m : Nat} {g : Nat → Bool} (hg : inN n g) : ∀ k, k ≤ n → inN n (wnW m k g) := by
  intro k
  induction k with
  | zero => intro _; exact hg
  | succ k ih =>
    intro hk s hs
    cases hb : m.testBit k with
    | false => simp only [wnW, hb] at hs; exact ih (by omega) s hs
    | true =>
      simp only [wnW, hb, if_true] at hs
      rw [Bool.and_eq_true, Bool.or_eq_true] at hs
      rcases hs.1 with h | h
      · exact ih (by omega) s h
      · exact rs_bnd (by omega) (ih (by omega)) s h
theorem cl_meets {n : Nat} {f : Nat → Bool} (hn : n ≤ 7) (hf : inN n f) : ∀ s, s < 128 → (clG (fun t => ctW t n) f (2 ^ n) s = true ↔ clP (fun a b => a &&& b) f s) :=
  cl_pass hn hf (fun a b ha _ => Nat.lt_of_le_of_lt Nat.and_le_left ha) (fun g hg k hk s hs => ct_iff hn hg hk hs) (fun g hg k _ s hs => ctW_in hg n (Nat.le_refl _) s hs) Nat.and_self xc_and (fun a b c => (Nat.and_assoc a b c).symm)
theorem cl_joins {n : Nat} {f : Nat → Bool} (hn : n ≤ 7) (hf : inN n f) : ∀ s, s < 128 → (clG (fun t => wnW t n) f (2 ^ n) s = true ↔ clP (fun a b => a ||| b) f s) :=
  cl_pass hn hf (fun a b ha hb => Nat.or_lt_two_pow ha hb) (fun g hg k hk s hs => wn_iff hn hg hk hs) (fun g hg k _ s hs => wnW_in hg n (Nat.le_refl _) s hs) Nat.or_self xc_or (fun a b c => (Nat.or_assoc a b c).symm)
theorem mA_up {n : Nat} {f : Nat → Bool} (hn : n ≤ 7) (hf : inN n f) {s t : Nat} (ht : mA n f t = true) (hts : t &&& s = t) (hs : s < 2 ^ n) : mA n f s = true := by
  rw [mA_iff (hf.to hn)] at ht ⊢
  refine ⟨hs, fun u hu h0 => ht.2 u hu ?_⟩
  rw [and0_7] at h0 ⊢
  intro p hp
  cases h : t.testBit p with
  | false => rfl
  | true => have := h0 p hp; rw [sub7.mp hts p h] at this; cases this
theorem mA_in {n : Nat} {f : Nat → Bool} : inN n (mA n f) := fun s h => by unfold mA at h; rw [Bool.and_eq_true, decide_eq_true_eq] at h; exact h.1
theorem make_V {cP : Nat → Int32} {V : Nat → Nat → Bool} {j n k : Nat} (hj : j < 3) (hP : cP j = nI n) (hn : n ≤ 7) (hf : inN n (V j)) (hk : k ≤ 9) : ∃ x g h, X8_make cP (LO V) (HI V) j (nI k) = some (va_up (va_up cP 3 (nI n)) 4 x, LO (va_up (va_up V 3 h) 4 g), HI (va_up (va_up V 3 h) 4 g)) ∧ ∀ s, s < 128 → (h s = true ↔ MK n (V j) k s) := by
  have h3 : j ≠ 3 := by omega
  have h4 : j ≠ 4 := by omega
  have e4 : ∀ h : Nat → Bool, (some (va_up cP 3 (nI n), LO (va_up V 3 h), HI (va_up V 3 h)) : Option ((Nat → Int32) × (Nat → Int64) × (Nat → Int64))) = some (va_up (va_up cP 3 (nI n)) 4 (cP 4), LO (va_up (va_up V 3 h) 4 (V 4)), HI (va_up (va_up V 3 h) 4 (V 4))) := fun h => by
    rw [show cP 4 = va_up cP 3 (nI n) 4 from (up_ne (by decide)).symm, up_self, show V 4 = va_up V 3 h 4 from (up_ne (by decide)).symm, up_self]
  have hPj : va_up cP 3 (nI n) j = nI n := by rw [up_ne h3]; exact hP
  unfold X8_make
  rw [become_V, bd3_s, hP]
  rcases (show k = 0 ∨ k = 1 ∨ k = 2 ∨ k = 3 ∨ k = 4 ∨ k = 5 ∨ k = 6 ∨ k = 7 ∨ k = 8 ∨ k = 9 by omega) with rfl | rfl | rfl | rfl | rfl | rfl | rfl | rfl | rfl | rfl
  · rw [if_pos (by decide), becomeShadow_V h3 hPj hn, bd3_s]
    simp only [bx_uu, up_ne h3]
    exact ⟨_, _, _, e4 _, fun s hs => shD_iff⟩
  · rw [if_neg (by decide), if_pos (by decide), becomeShade_V h3 hPj hn, bd3_s]
    simp only [bx_uu, up_ne h3]
    exact ⟨_, _, _, e4 _, fun s hs => shU_iff⟩
  · rw [if_neg (by decide), if_neg (by decide), if_pos (by decide), closeDown_V (n := n) up_at hn, bd2_s]
    simp only [bx_uu, up_at]
    exact ⟨_, _, _, e4 _, fun s hs => dn_iff hn hf hs⟩
  · rw [if_neg (by decide), if_neg (by decide), if_neg (by decide), if_pos (by decide), closeUp_V (n := n) up_at hn, bd2_s]
    simp only [bx_uu, up_at]
    exact ⟨_, _, _, e4 _, fun s hs => up_iff hn hf hs⟩
  · rw [if_neg (by decide), if_neg (by decide), if_neg (by decide), if_neg (by decide), if_pos (by decide), turnOver_V (n := n) up_at hn, bd2_s]
    simp only [bx_uu, up_at]
    refine ⟨_, _, _, e4 _, fun s hs => ?_⟩
    rw [toW_eq n hn s hs]
    constructor
    · intro h
      refine ⟨?_, h⟩
      have := cmp_lt (hf _ h)
      rwa [Nat.xor_assoc, Nat.xor_self, Nat.xor_zero] at this
    · exact fun h => h.2
  · rw [if_neg (by decide), if_neg (by decide), if_neg (by decide), if_neg (by decide), if_neg (by decide), if_pos (by decide)]
    obtain ⟨x, g, e⟩ := closeByMeets_V (cP := va_up cP 3 (nI n)) (V := va_up V 3 (V j)) hj hPj up_at (by rw [up_at, up_ne h3]) hn
    rw [e, bd3_s]
    simp only [bx_uu, up_ne h3]
    exact ⟨x, g, _, rfl, cl_meets hn hf⟩
  · rw [if_neg (by decide), if_neg (by decide), if_neg (by decide), if_neg (by decide), if_neg (by decide), if_neg (by decide), if_pos (by decide)]
    obtain ⟨x, g, e⟩ := closeByJoins_V (cP := va_up cP 3 (nI n)) (V := va_up V 3 (V j)) hj hPj up_at (by rw [up_at, up_ne h3]) hn
    rw [e, bd3_s]
    simp only [bx_uu, up_ne h3]
    exact ⟨x, g, _, rfl, cl_joins hn hf⟩
  · rw [if_neg (by decide), if_neg (by decide), if_neg (by decide), if_neg (by decide), if_neg (by decide), if_neg (by decide), if_neg (by decide), if_pos (by decide), becomeLowest_V h3 hPj hn, bd3_s]
    simp only [bx_uu, up_ne h3]
    exact ⟨_, _, _, e4 _, fun s hs => low_iff hn hf hs⟩
  · rw [if_neg (by decide), if_neg (by decide), if_neg (by decide), if_neg (by decide), if_neg (by decide), if_neg (by decide), if_neg (by decide), if_neg (by decide), if_pos (by decide), becomeHighest_V h3 hPj hn, bd3_s]
    simp only [bx_uu, up_ne h3]
    exact ⟨_, _, _, e4 _, fun s hs => high_iff hn hf hs⟩
  · rw [if_neg (by decide), if_neg (by decide), if_neg (by decide), if_neg (by decide), if_neg (by decide), if_neg (by decide), if_neg (by decide), if_neg (by decide), if_neg (by decide), becomeAnswers_V h4 hPj hn (by rw [up_ne h3]; exact hf), bd3_s, becomeLowest_V (by decide) up_at hn, bd3_s]
    simp only [up_at, up_ne h3, up_comm (show (4 : Nat) ≠ 3 by decide), bx_uu]
    refine ⟨_, _, _, rfl, fun s hs => ?_⟩
    rw [low_iff hn mA_in hs]
    constructor
    · rintro ⟨h1, h2⟩
      refine ⟨h1, fun p hp hb => ?_⟩
      cases hm : mA n (V j) (s ^^^ 2 ^ p) with
      | false => rfl
      | true =>
        have := h2 _ hm (flip_sub hb)
        have hx : (s ^^^ 2 ^ p).testBit p = s.testBit p := by rw [this]
        rw [flip_eq, hb] at hx; cases hx
    · rintro ⟨h1, h2⟩
      refine ⟨h1, fun t ht hts => ?_⟩
      by_cases e : t = s
      · exact e
      · obtain ⟨p, hp1, hp2⟩ := diff_pt hts e
        have hsn := mA_in s h1
        have hpn := bit_n hsn hp1
        have := mA_up hn hf (s := s ^^^ 2 ^ p) ht (sub7.mpr fun q hq => by
          by_cases w : q = p
          · subst w; rw [hp2] at hq; cases hq
          · rw [flip_ne s w]; exact sub7.mp hts q hq) (flip_lt hpn hsn)
        rw [h2 p hpn hp1] at this; cases this
