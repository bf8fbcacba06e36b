/-! V form: the cells' words by what sets they hold -/
theorem ile_t {a b : Nat} (h : a ≤ b) (hb : b < 2 ^ 31) : (nI a ≤ nI b) = True := eq_true (nI_le h hb)
theorem ile_f {a b : Nat} (h : b < a) (hb : a < 2 ^ 31) : (nI a ≤ nI b) = False := eq_false (nI_ge h hb)
theorem ilt_t {a b : Nat} (h : a < b) (hb : b < 2 ^ 31) : (nI a < nI b) = True := eq_true (nI_lt h hb)
theorem ilt_f {a b : Nat} (h : b ≤ a) (hb : a < 2 ^ 31) : (nI a < nI b) = False := eq_false (nI_nlt h hb)
theorem ieq_t {a b : Nat} (h : a = b) : (nI a = nI b) = True := eq_true (by rw [h])
theorem ieq_f {a b : Nat} (h : a ≠ b) (ha : a < 2 ^ 31) (hb : b < 2 ^ 31) : (nI a = nI b) = False := eq_false (fun q => h ((nI_eq ha hb).mp q))
theorem ile0_t {a : Nat} (h : a = 0) : (nI a ≤ 0) = True := eq_true (by subst h; decide)
theorem ile0_f {a : Nat} (h : 0 < a) (ha : a < 2 ^ 31) : (nI a ≤ 0) = False := eq_false (nI_nle h ha)
theorem ilt0_f {a : Nat} (ha : a < 2 ^ 31) : (nI a < 0) = False := eq_false (nI_pos ha)
theorem i0le_t {a : Nat} (ha : a < 2 ^ 31) : (0 ≤ nI a) = True := eq_true (nI_pos' ha)
theorem i0lt_t {a : Nat} (h : 0 < a) (ha : a < 2 ^ 31) : (0 < nI a) = True := eq_true (nI_lt (a := 0) h ha)
theorem i0lt_f {a : Nat} (h : a = 0) : (0 < nI a) = False := eq_false (by subst h; decide)
theorem ieq0_t {a : Nat} (h : a = 0) : (nI a = 0) = True := eq_true (by subst h; rfl)
theorem ieq0_f {a : Nat} (h : 0 < a) (ha : a < 2 ^ 31) : (nI a = 0) = False := eq_false (nI_ne0 h ha)
theorem ib0 {α : Type} {b : Bool} {x y : α} : (if b01 b = 0 then x else y) = (if b = true then y else x) := by cases b <;> rfl
theorem ib1 {α : Type} {b : Bool} {x y : α} : (if b01 b = 1 then x else y) = (if b = true then x else y) := by cases b <;> rfl
theorem i10 {α : Type} {x y : α} : (if (1 : Int32) = 0 then x else y) = y := rfl
theorem i00 {α : Type} {x y : α} : (if (0 : Int32) = 0 then x else y) = x := rfl
theorem i01 {α : Type} {x y : α} : (if (0 : Int32) = 1 then x else y) = y := rfl
theorem i11 {α : Type} {x y : α} : (if (1 : Int32) = 1 then x else y) = x := rfl
/-- the number of bits -/
def nb (f : Nat → Bool) : Nat → Nat
  | 0 => 0
  | n + 1 => 2 ^ n * (if f n then 1 else 0) + nb f n
theorem nb_lt (f : Nat → Bool) (n : Nat) : nb f n < 2 ^ n := by
  induction n with
  | zero => exact Nat.one_pos
  | succ n ih => unfold nb; rw [Nat.pow_succ]; split <;> omega
theorem one_bit (m : Nat) : (1 : Nat).testBit (m + 1) = false := by rw [Nat.testBit_succ]; exact Nat.zero_testBit m
theorem nb_bit (f : Nat → Bool) (n i : Nat) : (nb f n).testBit i = (decide (i < n) && f i) := by
  induction n with
  | zero => simp [nb]
  | succ n ih =>
    unfold nb
    rw [Nat.testBit_two_pow_mul_add _ (nb_lt f n)]
    by_cases h : i < n
    · rw [if_pos h, ih]; simp [h, Nat.lt_succ_of_lt h]
    · rw [if_neg h]
      by_cases e : i = n
      · subst e; cases f i <;> simp
      · obtain ⟨m, hm⟩ : ∃ m, i - n = m + 1 := ⟨i - n - 1, by omega⟩
        have h2 : ¬ i < n + 1 := by omega
        rw [hm]
        cases f n <;> simp [h2, one_bit]
def wd (f : Nat → Bool) : Int64 := Int64.ofBitVec (BitVec.ofNat 64 (nb f 64))
theorem xb_wd {f : Nat → Bool} {s : Nat} (h : s < 64) : xb (wd f) s = f s := by
  unfold xb wd
  show (BitVec.ofNat 64 (nb f 64)).getLsbD s = f s
  rw [BitVec.getLsbD_ofNat, nb_bit]
  simp [h]
def LO (V : Nat → Nat → Bool) : Nat → Int64 := fun i => wd (V i)
def HI (V : Nat → Nat → Bool) : Nat → Int64 := fun i => wd (fun s => V i (64 + s))
def vw (cLo cHi : Nat → Int64) : Nat → Nat → Bool := fun i s => mbs (cLo i) (cHi i) s
theorem LO_vw (cLo cHi : Nat → Int64) : LO (vw cLo cHi) = cLo := funext fun i => xb_ext fun s hs => by
  show xb (wd _) s = _
  rw [xb_wd hs]; show mbs _ _ _ = _; unfold mbs; rw [if_pos hs]
theorem HI_vw (cLo cHi : Nat → Int64) : HI (vw cLo cHi) = cHi := funext fun i => xb_ext fun s hs => by
  show xb (wd _) s = _
  rw [xb_wd hs]; show mbs _ _ (64 + s) = _; unfold mbs; rw [if_neg (by omega), show 64 + s - 64 = s by omega]
theorem xb_LO {V : Nat → Nat → Bool} {i s : Nat} (h : s < 64) : xb (LO V i) s = V i s := xb_wd h
theorem xb_HI {V : Nat → Nat → Bool} {i s : Nat} (h : s < 64) : xb (HI V i) s = V i (64 + s) := xb_wd h
theorem mbs_LH {V : Nat → Nat → Bool} {i s : Nat} (h : s < 128) : mbs (LO V i) (HI V i) s = V i s := by
  unfold mbs
  by_cases q : s < 64
  · rw [if_pos q, xb_LO q]
  · rw [if_neg q, xb_HI (by omega), show 64 + (s - 64) = s by omega]
theorem lo_up {V : Nat → Nat → Bool} {i : Nat} {x : Int64} {g : Nat → Bool} (h : ∀ s, s < 64 → xb x s = g s) : va_up (LO V) i x = LO (va_up V i g) := by
  funext j
  unfold LO va_up
  by_cases e : j = i
  · rw [if_pos e, if_pos e]; exact xb_ext fun s hs => by rw [h s hs, xb_wd hs]
  · rw [if_neg e, if_neg e]
theorem hi_up {V : Nat → Nat → Bool} {i : Nat} {x : Int64} {g : Nat → Bool} (h : ∀ s, s < 64 → xb x s = g (64 + s)) : va_up (HI V) i x = HI (va_up V i g) := by
  funext j
  unfold HI va_up
  by_cases e : j = i
  · simp only [if_pos e]; exact xb_ext fun s hs => by rw [h s hs, xb_wd hs]
  · simp only [if_neg e]
theorem LH_ext {V W : Nat → Nat → Bool} (h : ∀ i s, s < 128 → V i s = W i s) : LO V = LO W ∧ HI V = HI W :=
  ⟨funext fun i => xb_ext fun s hs => by rw [xb_LO hs, xb_LO hs]; exact h i s (by omega), funext fun i => xb_ext fun s hs => by rw [xb_HI hs, xb_HI hs]; exact h i _ (by omega)⟩
theorem up_ext {V : Nat → Nat → Bool} {i : Nat} {g g' : Nat → Bool} (h : ∀ s, s < 128 → g s = g' s) : LO (va_up V i g) = LO (va_up V i g') ∧ HI (va_up V i g) = HI (va_up V i g') :=
  LH_ext fun j s hs => by unfold va_up; by_cases e : j = i <;> simp [e, h s hs]
theorem up_self {α : Type} (V : Nat → α) (i : Nat) : va_up V i (V i) = V := funext fun j => by unfold va_up; by_cases e : j = i <;> simp [e]
theorem up_at {α : Type} {V : Nat → α} {i : Nat} {x : α} : va_up V i x i = x := if_pos rfl
theorem up_ne {α : Type} {V : Nat → α} {i j : Nat} {x : α} (h : j ≠ i) : va_up V i x j = V j := if_neg h
theorem lh_up {V : Nat → Nat → Bool} {i : Nat} {x y : Int64} {g : Nat → Bool} (h1 : ∀ s, s < 64 → xb x s = g s) (h2 : ∀ s, s < 64 → xb y s = g (64 + s)) : (some (va_up (LO V) i x, va_up (HI V) i y) : Option ((Nat → Int64) × (Nat → Int64))) = some (LO (va_up V i g), HI (va_up V i g)) := by
  rw [lo_up h1, hi_up h2]
theorem LO_same {V : Nat → Nat → Bool} {i : Nat} {g : Nat → Bool} (h : ∀ s, s < 64 → g s = V i s) : LO V = LO (va_up V i g) := by
  have := lo_up (V := V) (i := i) (x := LO V i) (g := g) (fun s hs => by rw [xb_LO hs, h s hs])
  rw [← this, up_self]
theorem HI_same {V : Nat → Nat → Bool} {i : Nat} {g : Nat → Bool} (h : ∀ s, s < 64 → g (64 + s) = V i (64 + s)) : HI V = HI (va_up V i g) := by
  have := hi_up (V := V) (i := i) (x := HI V i) (g := g) (fun s hs => by rw [xb_HI hs, h s hs])
  rw [← this, up_self]
/-! the plain operations -/
theorem holds_V {V : Nat → Nat → Bool} {i s : Nat} (h : s < 128) : X0_holds (LO V) (HI V) i (nI s) = some (b01 (V i s)) := by rw [X0_holds_eq h, mbs_LH h]
theorem size_V {V : Nat → Nat → Bool} {i : Nat} : X0_size (LO V) (HI V) i = some (nI (cnt (V i) 128)) := by
  rw [X0_size_eq, cnt_congr (d := V i) (fun k hk => mbs_LH hk)]
theorem xb_loW : ∀ p, p < 7 → ∀ s, s < 64 → xb (loW p) s = s.testBit p := by decide +kernel
theorem xb_hiW : ∀ p, p < 7 → ∀ s, s < 64 → xb (hiW p) s = (64 + s).testBit p := by decide +kernel
theorem become_V {cP : Nat → Int32} {V : Nat → Nat → Bool} {i j : Nat} : X0_become cP (LO V) (HI V) i j = some (va_up cP i (cP j), LO (va_up V i (V j)), HI (va_up V i (V j))) := by
  unfold X0_become
  rw [lo_up (g := V j) (fun s hs => xb_LO hs), hi_up (g := V j) (fun s hs => xb_HI hs)]
theorem clear_V {cP : Nat → Int32} {V : Nat → Nat → Bool} {i : Nat} {x : Int32} : X0_clear cP (LO V) (HI V) i x = some (va_up cP i x, LO (va_up V i (fun _ => false)), HI (va_up V i (fun _ => false))) := by
  unfold X0_clear
  rw [lo_up (g := fun _ => false) (fun s hs => xb_zero s), hi_up (g := fun _ => false) (fun s hs => xb_zero s)]
theorem join_V {V : Nat → Nat → Bool} {i j : Nat} : X0_join (LO V) (HI V) i j = some (LO (va_up V i (fun s => V i s || V j s)), HI (va_up V i (fun s => V i s || V j s))) :=
  lh_up (fun s hs => by rw [xb_or, xb_LO hs, xb_LO hs]) (fun s hs => by rw [xb_or, xb_HI hs, xb_HI hs])
theorem keep_V {V : Nat → Nat → Bool} {i j : Nat} : X0_keep (LO V) (HI V) i j = some (LO (va_up V i (fun s => V i s && V j s)), HI (va_up V i (fun s => V i s && V j s))) :=
  lh_up (fun s hs => by rw [xb_and, xb_LO hs, xb_LO hs]) (fun s hs => by rw [xb_and, xb_HI hs, xb_HI hs])
theorem lose_V {V : Nat → Nat → Bool} {i j : Nat} : X0_lose (LO V) (HI V) i j = some (LO (va_up V i (fun s => V i s && !V j s)), HI (va_up V i (fun s => V i s && !V j s))) :=
  lh_up (fun s hs => by rw [xb_and, xb_not _ hs, xb_LO hs, xb_LO hs]) (fun s hs => by rw [xb_and, xb_not _ hs, xb_HI hs, xb_HI hs])
theorem restOf_V {V : Nat → Nat → Bool} {i j : Nat} : X0_becomeRestOf (LO V) (HI V) i j = some (LO (va_up V i (fun s => V j s && !V i s)), HI (va_up V i (fun s => V j s && !V i s))) :=
  lh_up (fun s hs => by rw [xb_and, xb_not _ hs, xb_LO hs, xb_LO hs]) (fun s hs => by rw [xb_and, xb_not _ hs, xb_HI hs, xb_HI hs])
theorem keepWith_V {V : Nat → Nat → Bool} {i p : Nat} (hp : p < 7) : X0_keepWith (LO V) (HI V) i (nI p) = some (LO (va_up V i (fun s => V i s && s.testBit p)), HI (va_up V i (fun s => V i s && s.testBit p))) := by
  unfold X0_keepWith
  rw [gin_nI hp (by decide), gin_nI hp (by decide), nI_clamp (by omega)]
  exact lh_up (fun s hs => by rw [xb_and, xb_LO hs, xb_loW p hp s hs]) (fun s hs => by rw [xb_and, xb_HI hs, xb_hiW p hp s hs])
theorem keepLacking_V {V : Nat → Nat → Bool} {i p : Nat} (hp : p < 7) : X0_keepLacking (LO V) (HI V) i (nI p) = some (LO (va_up V i (fun s => V i s && !s.testBit p)), HI (va_up V i (fun s => V i s && !s.testBit p))) := by
  unfold X0_keepLacking
  rw [gin_nI hp (by decide), gin_nI hp (by decide), nI_clamp (by omega)]
  exact lh_up (fun s hs => by rw [xb_and, xb_not _ hs, xb_LO hs, xb_loW p hp s hs]) (fun s hs => by rw [xb_and, xb_not _ hs, xb_HI hs, xb_hiW p hp s hs])
theorem degreeOf_V {V : Nat → Nat → Bool} {i p : Nat} (hp : p < 7) : X0_degreeOf (LO V) (HI V) i (nI p) = some (nI (cnt (fun s => V i s && s.testBit p) 128)) := by
  have h1 := keepWith_V (V := V) (i := i) hp
  have h2 := size_V (V := va_up V i (fun s => V i s && s.testBit p)) (i := i)
  rw [up_at] at h2
  unfold X0_keepWith at h1
  rw [gin_nI hp (by decide), gin_nI hp (by decide), nI_clamp (by omega)] at h1
  have e := Option.some.inj h1
  have e1 := congrFun (congrArg Prod.fst e) i
  have e2 := congrFun (congrArg Prod.snd e) i
  simp only [up_at] at e1 e2
  unfold X0_size at h2
  rw [← e1, ← e2] at h2
  unfold X0_degreeOf
  rw [gin_nI hp (by decide), nI_clamp (by omega)]
  simp only [gin_nI hp (show (7 : Nat) < 2 ^ 31 by decide)]
  exact h2
theorem i64_63 : ∀ k, k < 64 → ((nI k).toInt64 &&& 63) = ((nI k).toInt64 &&& 63) := fun _ _ => rfl
theorem put_V {V : Nat → Nat → Bool} {i s : Nat} (hs : s < 128) : X0_put (LO V) (HI V) i (nI s) = some (LO (va_up V i (fun t => V i t || t == s)), HI (va_up V i (fun t => V i t || t == s))) := by
  unfold X0_put
  rw [if_neg (nI_pos (by omega))]
  by_cases h : s < 64
  · rw [if_neg (show ¬ (64 : Int32) ≤ nI s from nI_ge (b := 64) h (by decide))]
    rw [lo_up (g := fun t => V i t || t == s) (fun t ht => by rw [xb_or, xb_LO ht, xb_bit h]; rfl), HI_same (V := V) (i := i) (g := fun t => V i t || t == s) (fun t ht => by show (V i (64 + t) || 64 + t == s) = _; rw [show (64 + t == s) = false from beq_eq_false_iff_ne.mpr (by omega), Bool.or_false])]
  · rw [if_pos (show (64 : Int32) ≤ nI s from nI_le (a := 64) (by omega) (by omega))]
    unfold X0_put_j25
    rw [if_neg (show ¬ nI s < (64 : Int32) from nI_nlt (b := 64) (by omega) (by omega)), if_neg (show ¬ (128 : Int32) ≤ nI s from nI_ge (b := 128) hs (by decide)), show nI s - (64 : Int32) = nI (s - 64) from pk_sub (b := 64) (by omega)]
    rw [hi_up (g := fun t => V i t || t == s) (fun t ht => by
      rw [xb_or, xb_HI ht, xb_bit (by omega)]
      congr 1
      by_cases e : t = s - 64
      · rw [decide_eq_true e]; symm; rw [beq_iff_eq]; omega
      · rw [decide_eq_false e]; symm; rw [beq_eq_false_iff_ne]; omega), LO_same (V := V) (i := i) (g := fun t => V i t || t == s) (fun t ht => by show (V i t || t == s) = _; rw [show (t == s) = false from beq_eq_false_iff_ne.mpr (by omega), Bool.or_false])]
theorem remove_V {V : Nat → Nat → Bool} {i s : Nat} (hs : s < 128) : X0_remove (LO V) (HI V) i (nI s) = some (LO (va_up V i (fun t => V i t && !(t == s))), HI (va_up V i (fun t => V i t && !(t == s)))) := by
  unfold X0_remove
  rw [if_neg (nI_pos (by omega))]
  by_cases h : s < 64
  · rw [if_neg (show ¬ (64 : Int32) ≤ nI s from nI_ge (b := 64) h (by decide))]
    rw [lo_up (g := fun t => V i t && !(t == s)) (fun t ht => by rw [xb_and, xb_not _ ht, xb_LO ht, xb_bit h]; rfl), HI_same (V := V) (i := i) (g := fun t => V i t && !(t == s)) (fun t ht => by show (V i (64 + t) && !(64 + t == s)) = _; rw [show (64 + t == s) = false from beq_eq_false_iff_ne.mpr (by omega), Bool.not_false, Bool.and_true])]
  · rw [if_pos (show (64 : Int32) ≤ nI s from nI_le (a := 64) (by omega) (by omega))]
    unfold X0_remove_j29
    rw [if_neg (show ¬ nI s < (64 : Int32) from nI_nlt (b := 64) (by omega) (by omega)), if_neg (show ¬ (128 : Int32) ≤ nI s from nI_ge (b := 128) hs (by decide)), show nI s - (64 : Int32) = nI (s - 64) from pk_sub (b := 64) (by omega)]
    rw [hi_up (g := fun t => V i t && !(t == s)) (fun t ht => by
      rw [xb_and, xb_not _ ht, xb_HI ht, xb_bit (by omega)]
      congr 2
      by_cases e : t = s - 64
      · rw [decide_eq_true e]; symm; rw [beq_iff_eq]; omega
      · rw [decide_eq_false e]; symm; rw [beq_eq_false_iff_ne]; omega), LO_same (V := V) (i := i) (g := fun t => V i t && !(t == s)) (fun t ht => by show (V i t && !(t == s)) = _; rw [show (t == s) = false from beq_eq_false_iff_ne.mpr (by omega), Bool.not_false, Bool.and_true])]
/-! link, raise -/
def lkF (p : Nat) (f : Nat → Bool) : Nat → Bool := fun s => !s.testBit p && f (s ^^^ 2 ^ p)
def rsF (p : Nat) (f : Nat → Bool) : Nat → Bool := fun s => s.testBit p && f (s ^^^ 2 ^ p)
theorem lk_fact : ∀ p, p < 6 → ∀ s, s < 64 → (if s.testBit p then 64 ≤ 2 ^ p + s ∨ (2 ^ p + s).testBit p = false else 2 ^ p + s = s ^^^ 2 ^ p ∧ 2 ^ p + s < 64 ∧ (2 ^ p + s).testBit p = true) ∧ (64 + s).testBit p = s.testBit p ∧ (64 + s) ^^^ 2 ^ p = 64 + (s ^^^ 2 ^ p) ∧ s ^^^ 2 ^ p < 64 := by decide +kernel
theorem rs_fact : ∀ p, p < 6 → ∀ s, s < 64 → (if s.testBit p then 2 ^ p ≤ s ∧ s - 2 ^ p = s ^^^ 2 ^ p ∧ (s - 2 ^ p).testBit p = false else s < 2 ^ p ∨ (s - 2 ^ p).testBit p = true) := by decide +kernel
theorem top_fact : ∀ s, s < 64 → s.testBit 6 = false ∧ s ^^^ 2 ^ 6 = 64 + s ∧ (64 + s).testBit 6 = true ∧ (64 + s) ^^^ 2 ^ 6 = s := by decide +kernel
theorem pow6 {p : Nat} (h : p < 6) : 2 ^ p < 64 := Nat.pow_lt_pow_right (by decide) h
theorem lk_word {V : Nat → Nat → Bool} {j p : Nat} (hp : p < 6) {s : Nat} (hs : s < 64) : xb ((((LO V j) &&& (loW p)).toUInt64 >>> ((nI (2 ^ p)).toInt64.toUInt64 &&& Int64.toUInt64 63)).toInt64) s = lkF p (V j) s := by
  obtain ⟨h1, h2, h3, h4⟩ := lk_fact p hp s hs
  rw [xb_ushr _ (pow6 hp)]
  unfold lkF
  cases hb : s.testBit p with
  | true =>
    rw [if_pos hb] at h1
    rcases h1 with h1 | h1
    · rw [xb_big h1]; rfl
    · by_cases q : 2 ^ p + s < 64
      · rw [xb_and, xb_loW p (by omega) _ q, h1]; simp
      · rw [xb_big (by omega)]; rfl
  | false =>
    rw [hb, if_neg (by decide)] at h1
    rw [xb_and, xb_loW p (by omega) _ h1.2.1, h1.2.2, xb_LO h1.2.1, h1.1]; simp
theorem lk_wordH {V : Nat → Nat → Bool} {j p : Nat} (hp : p < 6) {s : Nat} (hs : s < 64) : xb ((((HI V j) &&& (hiW p)).toUInt64 >>> ((nI (2 ^ p)).toInt64.toUInt64 &&& Int64.toUInt64 63)).toInt64) s = lkF p (V j) (64 + s) := by
  obtain ⟨h1, h2, h3, h4⟩ := lk_fact p hp s hs
  rw [xb_ushr _ (pow6 hp)]
  unfold lkF
  rw [h2, h3]
  cases hb : s.testBit p with
  | true =>
    rw [if_pos hb] at h1
    rcases h1 with h1 | h1
    · rw [xb_big h1]; rfl
    · by_cases q : 2 ^ p + s < 64
      · have e := (lk_fact p hp _ q).2.1
        rw [xb_and, xb_hiW p (by omega) _ q, e, h1]; simp
      · rw [xb_big (by omega)]; rfl
  | false =>
    rw [hb, if_neg (by decide)] at h1
    have e := (lk_fact p hp _ h1.2.1).2.1
    rw [xb_and, xb_hiW p (by omega) _ h1.2.1, e, h1.2.2, xb_HI h1.2.1, h1.1]; simp
theorem rs_word {V : Nat → Nat → Bool} {j p : Nat} (hp : p < 6) {s : Nat} (hs : s < 64) : xb (((LO V j) &&& ((loW p) ^^^ (-1 : Int64))) <<< ((nI (2 ^ p)).toInt64 &&& 63)) s = rsF p (V j) s := by
  have h1 := rs_fact p hp s hs
  have hp0 := Nat.two_pow_pos p
  rw [xb_shl _ (pow6 hp) hs]
  unfold rsF
  cases hb : s.testBit p with
  | true =>
    rw [if_pos hb] at h1
    rw [xb_and, xb_not _ (by omega), xb_loW p (by omega) _ (by omega), h1.2.2, xb_LO (by omega), h1.2.1, decide_eq_true h1.1]; simp
  | false =>
    rw [hb, if_neg (by decide)] at h1
    rcases h1 with h1 | h1
    · rw [decide_eq_false (by omega)]; rfl
    · rw [xb_and, xb_not _ (by omega), xb_loW p (by omega) _ (by omega), h1]; simp
theorem rs_wordH {V : Nat → Nat → Bool} {j p : Nat} (hp : p < 6) {s : Nat} (hs : s < 64) : xb (((HI V j) &&& ((hiW p) ^^^ (-1 : Int64))) <<< ((nI (2 ^ p)).toInt64 &&& 63)) s = rsF p (V j) (64 + s) := by
  have h1 := rs_fact p hp s hs
  have hp0 := Nat.two_pow_pos p
  obtain ⟨_, h2, h3, h4⟩ := lk_fact p hp s hs
  rw [xb_shl _ (pow6 hp) hs]
  unfold rsF
  rw [h2, h3]
  cases hb : s.testBit p with
  | true =>
    rw [if_pos hb] at h1
    have e := (lk_fact p hp (s - 2 ^ p) (by omega)).2.1
    rw [xb_and, xb_not _ (by omega), xb_hiW p (by omega) _ (by omega), e, h1.2.2, xb_HI (by omega), h1.2.1, decide_eq_true h1.1]; simp
  | false =>
    rw [hb, if_neg (by decide)] at h1
    rcases h1 with h1 | h1
    · rw [decide_eq_false (by omega)]; rfl
    · have e := (lk_fact p hp (s - 2 ^ p) (by omega)).2.1
      rw [xb_and, xb_not _ (by omega), xb_hiW p (by omega) _ (by omega), e, h1]; simp
theorem joinLink_V {V : Nat → Nat → Bool} {i j p : Nat} (hp : p < 7) : X0_joinLink (LO V) (HI V) i j (nI p) = some (LO (va_up V i (fun s => V i s || lkF p (V j) s)), HI (va_up V i (fun s => V i s || lkF p (V j) s))) := by
  unfold X0_joinLink
  by_cases h : p = 6
  · subst h
    rw [if_pos (show nI 6 = (6 : Int32) from rfl), lo_up (g := fun s => V i s || lkF 6 (V j) s) (fun s hs => by
      obtain ⟨q1, q2, q3, q4⟩ := top_fact s hs
      rw [xb_or, xb_LO hs, xb_HI hs]; unfold lkF; rw [q1, q2]; rfl), HI_same (V := V) (i := i) (g := fun s => V i s || lkF 6 (V j) s) (fun s hs => by
      obtain ⟨q1, q2, q3, q4⟩ := top_fact s hs
      unfold lkF; simp only [q3]; simp)]
  · have h6 : p < 6 := by omega
    rw [if_neg (show ¬ nI p = (6 : Int32) from fun q => h ((nI_eq (b := 6) (by omega) (by decide)).mp q)), gin_nI hp (by decide), gin_nI hp (by decide), nI_clamp (by omega), shl1 _ (by omega)]
    exact lh_up (fun s hs => by rw [xb_or, xb_LO hs, lk_word h6 hs]) (fun s hs => by rw [xb_or, xb_HI hs, lk_wordH h6 hs])
theorem joinRaised_V {V : Nat → Nat → Bool} {i j p : Nat} (hp : p < 7) : X0_joinRaised (LO V) (HI V) i j (nI p) = some (LO (va_up V i (fun s => V i s || rsF p (V j) s)), HI (va_up V i (fun s => V i s || rsF p (V j) s))) := by
  unfold X0_joinRaised
  by_cases h : p = 6
  · subst h
    rw [if_pos (show nI 6 = (6 : Int32) from rfl), hi_up (g := fun s => V i s || rsF 6 (V j) s) (fun s hs => by
      obtain ⟨q1, q2, q3, q4⟩ := top_fact s hs
      rw [xb_or, xb_LO hs, xb_HI hs]; unfold rsF; rw [q3, q4]; rfl), LO_same (V := V) (i := i) (g := fun s => V i s || rsF 6 (V j) s) (fun s hs => by
      obtain ⟨q1, q2, q3, q4⟩ := top_fact s hs
      unfold rsF; simp only [q1]; simp)]
  · have h6 : p < 6 := by omega
    rw [if_neg (show ¬ nI p = (6 : Int32) from fun q => h ((nI_eq (b := 6) (by omega) (by decide)).mp q)), gin_nI hp (by decide), gin_nI hp (by decide), nI_clamp (by omega), shl1 _ (by omega)]
    exact lh_up (fun s hs => by rw [xb_or, xb_LO hs, rs_word h6 hs]) (fun s hs => by rw [xb_or, xb_HI hs, rs_wordH h6 hs])
theorem fl_or {p s : Nat} {f : Nat → Bool} : (lkF p f s || rsF p f s) = f (s ^^^ 2 ^ p) := by unfold lkF rsF; cases s.testBit p <;> simp
