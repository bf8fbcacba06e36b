/-! parts in which any two meet: rows of parts -/
def wI (k : Nat) : Int32 := if k = 0 then -1 else nI (k - 1)
theorem wI_1 (k : Nat) : wI k + 1 = nI k := by
  unfold wI
  by_cases h : k = 0
  · subst h; rfl
  · rw [if_neg h, nI_1, show k - 1 + 1 = k by omega]
theorem wI_0 : wI 0 = -1 := rfl
theorem wI_s (k : Nat) : wI (k + 1) = nI k := rfl
theorem wI_eq {k p : Nat} (hk : k < 100) (hp : p < 100) : (wI k = nI p) ↔ k = p + 1 := by
  unfold wI
  by_cases h : k = 0
  · subst h
    rw [if_pos rfl]
    exact ⟨fun q => absurd q (m1_ne (by omega)), fun q => by omega⟩
  · rw [if_neg h, nI_eq (by omega) (by omega)]; omega
def mxW (w : Nat → Nat) : Nat → Nat
  | 0 => 0
  | k + 1 => max (mxW w k) (w k)
theorem mxW_congr {w v : Nat → Nat} : ∀ {k : Nat}, (∀ i, i < k → w i = v i) → mxW w k = mxW v k := by
  intro k
  induction k with
  | zero => exact fun _ => rfl
  | succ k ih =>
    intro h
    show max (mxW w k) (w k) = max (mxW v k) (v k)
    rw [ih (fun i hi => h i (by omega)), h k (by omega)]
theorem mxW_ge {w : Nat → Nat} : ∀ {k i : Nat}, i < k → w i ≤ mxW w k := by
  intro k
  induction k with
  | zero => intro i hi; exact absurd hi (Nat.not_lt_zero i)
  | succ k ih =>
    intro i hi
    show w i ≤ max (mxW w k) (w k)
    by_cases e : i = k
    · subst e; omega
    · have := ih (i := i) (by omega); omega
theorem mxW_up {w : Nat → Nat} {B : Nat} : ∀ {k : Nat}, (∀ i, i < k → w i ≤ B) → mxW w k ≤ B := by
  intro k
  induction k with
  | zero => exact fun _ => Nat.zero_le B
  | succ k ih =>
    intro h
    have h1 := ih (fun i hi => h i (by omega))
    have h2 := h k (by omega)
    show max (mxW w k) (w k) ≤ B
    omega
theorem mxW_hit {w : Nat → Nat} : ∀ {k : Nat}, (∀ i, i < k → w i ≤ mxW w i + 1) → ∀ p, 1 ≤ p → p ≤ mxW w k → ∃ i, i < k ∧ w i = p := by
  intro k
  induction k with
  | zero => intro _ p h1 h2; have h2' : p ≤ 0 := h2; omega
  | succ k ih =>
    intro h p h1 h2
    have h2' : p ≤ max (mxW w k) (w k) := h2
    have h3 := h k (by omega)
    by_cases e : p ≤ mxW w k
    · obtain ⟨i, hi, e2⟩ := ih (fun i hi => h i (by omega)) p h1 e
      exact ⟨i, by omega, e2⟩
    · exact ⟨k, by omega, by omega⟩
/-- the k-th may be in part p -/
def okP (mem w : Nat → Nat) (k p : Nat) : Bool := allB (fun i => !(w i == p + 1 && decide (mem i &&& mem k = 0))) k
theorem okP_iff {mem w : Nat → Nat} {k p : Nat} : okP mem w k p = true ↔ ∀ i, i < k → w i = p + 1 → mem i &&& mem k ≠ 0 := by
  unfold okP
  rw [allB_iff]
  constructor
  · intro h i hi e1 e2
    have := h i hi
    rw [e1, beq_self_eq_true, decide_eq_true e2] at this
    cases this
  · intro h i hi
    by_cases e : w i = p + 1
    · rw [e, beq_self_eq_true, decide_eq_false (h i hi e)]; rfl
    · rw [beq_eq_false_iff_ne.mpr e]; rfl
theorem canBe_9 {mrow m : Nat → Int32} {mem w : Nat → Nat} {k p : Nat} (hk : k < 128) (hp : p < 8) (hm : ∀ i, i < k → m i = wI (w i)) (hw : ∀ i, i < k → w i < 9) (hr : ∀ i, i ≤ k → mrow i = nI (mem i)) (h128 : ∀ i, i ≤ k → mem i < 128) : X9_canBe mrow m (nI k) (nI p) = some (b01 (okP mem w k p)) := by
  unfold X9_canBe
  have := lfp1_all (F := X9_canBe_h2 (nI k) m (nI p) mrow) (fun i => !(w i == p + 1 && decide (mem i &&& mem k = 0))) 0 k (Nat.zero_le k) (y0 := some 0) (y1 := some 1) (fun i _ hi hc r => ?_) (fun i _ hi hc r => ?_) (fun r => ?_)
  · rw [allF_0] at this
    refine Eq.trans this ?_
    show (if okP mem w k p = true then _ else _) = _
    cases okP mem w k p <;> rfl
  · have h1 := h128 i (by omega)
    have h2 := and_128l (b := mem k) h1
    have h3 := hw i hi
    unfold X9_canBe_h2
    rw [if_neg (nI_ge hi (by omega)), gin_nI (by omega) (by decide), nI_clamp (show i < 2 ^ 31 by omega), hm i hi]
    by_cases e : w i = p + 1
    · rw [if_pos ((wI_eq (by omega) (by omega)).mpr e), gin_nI (by omega) (by decide), gin_nI hk (by decide), nI_clamp (show k < 2 ^ 31 by omega), hr i (by omega), hr k (Nat.le_refl k), land_nI']
      rw [e, beq_self_eq_true, Bool.true_and] at hc
      have e2 : ¬ (mem i &&& mem k = 0) := fun q => by rw [decide_eq_true q] at hc; cases hc
      rw [if_neg (nI_ne0 (by omega) (by omega)), nI_1]
    · rw [if_neg (fun q => e ((wI_eq (by omega) (by omega)).mp q)), nI_1]
  · have h1 := h128 i (by omega)
    have h3 := hw i hi
    unfold X9_canBe_h2
    have e : w i = p + 1 := by
      refine Classical.byContradiction fun q => ?_
      rw [beq_eq_false_iff_ne.mpr q] at hc; cases hc
    have e2 : mem i &&& mem k = 0 := by
      refine Classical.byContradiction fun q => ?_
      rw [decide_eq_false q, Bool.and_false] at hc; cases hc
    rw [if_neg (nI_ge hi (by omega)), gin_nI (by omega) (by decide), nI_clamp (show i < 2 ^ 31 by omega), hm i hi, if_pos ((wI_eq (by omega) (by omega)).mpr e), gin_nI (by omega) (by decide), gin_nI hk (by decide), nI_clamp (show k < 2 ^ 31 by omega), hr i (by omega), hr k (Nat.le_refl k), land_nI', e2]
    rfl
  · unfold X9_canBe_h2
    rw [if_pos (nI_le (Nat.le_refl _) (by omega))]
theorem word0 {a b c d : Int64} : ((a &&& c) ||| (b &&& d)) = 0 ↔ ∀ s, s < 128 → (mbs a b s && mbs c d s) = false := by
  constructor
  · intro h s hs
    unfold mbs
    by_cases q : s < 64
    · rw [if_pos q, if_pos q]
      have := congrArg (fun x => xb x s) h
      simp only [xb_or, xb_and, xb_zero] at this
      cases h1 : (xb a s && xb c s) with
      | false => rfl
      | true => rw [h1] at this; cases this
    · rw [if_neg q, if_neg q]
      have := congrArg (fun x => xb x (s - 64)) h
      simp only [xb_or, xb_and, xb_zero] at this
      cases h1 : (xb b (s - 64) && xb d (s - 64)) with
      | false => rfl
      | true => rw [h1, Bool.or_true] at this; cases this
  · intro h
    refine xb_ext fun s hs => ?_
    rw [xb_or, xb_and, xb_and, xb_zero]
    have h1 := h s (by omega)
    have h2 := h (64 + s) (by omega)
    unfold mbs at h1 h2
    rw [if_pos hs, if_pos hs] at h1
    rw [if_neg (by omega), if_neg (by omega), show 64 + s - 64 = s by omega] at h2
    rw [h1, h2]; rfl
section
variable {V : Nat → Nat → Bool} {f : Nat → Bool} {cme cwh : Nat → Int32} {cal cah : Nat → Int64} {mem w : Nat → Nat} {k c : Nat}
/-- what class and reference hold of the parts, k sets being put -/
def PtR (V : Nat → Nat → Bool) (mem w : Nat → Nat) (k : Nat) : Prop := ∀ p, p < 7 → ∀ s, s < 128 → (V (20 + p) s = true ↔ ∃ i, i < k ∧ w i = p + 1 ∧ mem i = s)
def okW (w : Nat → Nat) (c k : Nat) : Prop := ∀ i, i < k → 1 ≤ w i ∧ w i ≤ c ∧ w i ≤ mxW w i + 1
theorem nextStep_c (hk : k < 128) (hc : c ≤ 7) (hme : cme k = nI (mem k)) (h128 : ∀ i, i ≤ k → mem i < 128) (hA : ∀ s, s < 128 → mbs (cal (mem k)) (cah (mem k)) s = (f s && decide (s &&& mem k = 0))) (hV : PtR V mem w k) (hf : ∀ i, i < k → f (mem i) = true) (h2 : okW w c k) {p : Nat} (hp : p < c) (hpU : p ≤ mxW w k) (r : Int32 → Option Int32) : X3_nextPart_h17 (nI c) cme (nI k) (LO V) cal (HI V) cah r (nI p) = if okP mem w k p = true then some (nI p) else r (nI (p + 1)) := by
  have hmk := h128 k (Nat.le_refl k)
  have j45 : X3_nextPart_j45 (nI p) cme (nI k) (LO V) cal (HI V) cah r = if okP mem w k p = true then some (nI p) else r (nI (p + 1)) := by
    have hwd : (((LO V (20 + p)) &&& (cal (mem k))) ||| ((HI V (20 + p)) &&& (cah (mem k)))) = 0 ↔ okP mem w k p = true := by
      rw [word0, okP_iff]
      constructor
      · intro h i hi e1 e2
        have hm := h128 i (by omega)
        have := h (mem i) hm
        rw [mbs_LH hm, hA _ hm, (hV p (by omega) _ hm).mpr ⟨i, hi, e1, rfl⟩, hf i hi, decide_eq_true e2] at this
        cases this
      · intro h s hs
        rw [mbs_LH hs, hA s hs]
        cases hv : V (20 + p) s with
        | false => rfl
        | true =>
          obtain ⟨i, hi, e1, e2⟩ := (hV p (by omega) s hs).mp hv
          rw [decide_eq_false (by rw [← e2]; exact h i hi e1), Bool.and_false]; rfl
    unfold X3_nextPart_j45
    rw [gin_nI (by omega) (by decide), nI_clamp (show k < 2 ^ 31 by omega), hme, gin_nI hmk (by decide), gin_nI (by omega) (by decide), gin_nI hmk (by decide), nI_clamp (show p < 2 ^ 31 by omega), nI_clamp (show mem k < 2 ^ 31 by omega), nI_1]
    by_cases e : okP mem w k p = true
    · rw [if_pos e, if_pos (lgc0.mpr (hwd.mpr e))]
    · rw [if_neg e, if_neg (fun q => e (hwd.mp (lgc0.mp q)))]
  unfold X3_nextPart_h17
  rw [if_neg (nI_ge hp (by omega))]
  by_cases e : p = 0
  · rw [if_pos (show nI p ≤ 0 by rw [e]; decide)]; exact j45
  · obtain ⟨i, hi, e2⟩ := mxW_hit (fun i hi => (h2 i hi).2.2) p (by omega) hpU
    have hm := h128 i (by omega)
    rw [if_neg (nI_nle (by omega) (by omega)), nI_m1 (by omega), gin_nI (by omega) (by decide), nI_clamp (by omega), isEmpty_V, bd1_s, allB_f (fun q => by
      have := q (mem i) hm
      rw [(hV (p - 1) (by omega) _ hm).mpr ⟨i, hi, by omega, rfl⟩] at this
      cases this), bf0]
    exact j45
theorem nextEnd_c (hc : c ≤ 7) (hV : PtR V mem w k) {p : Nat} (h : c ≤ p ∨ p = mxW w k + 1) (hp8 : p ≤ 8) (r : Int32 → Option Int32) : X3_nextPart_h17 (nI c) cme (nI k) (LO V) cal (HI V) cah r (nI p) = some (-1) := by
  unfold X3_nextPart_h17
  by_cases e : c ≤ p
  · rw [if_pos (nI_le e (by omega))]
  · have h' : p = mxW w k + 1 := h.resolve_left e
    rw [if_neg (nI_ge (by omega) (by omega)), if_neg (nI_nle (by omega) (by omega)), nI_m1 (by omega), gin_nI (by omega) (by decide), nI_clamp (by omega), isEmpty_V, bd1_s, allB_iff.mpr (fun s hs => by
      cases hv : V (20 + (p - 1)) s with
      | false => rfl
      | true =>
        obtain ⟨i, hi, e1, _⟩ := (hV (p - 1) (by omega) s hs).mp hv
        have := mxW_ge (w := w) hi
        omega), bt0]
theorem nextPart_some (hk : k < 128) (hc : c ≤ 7) (hme : cme k = nI (mem k)) (hwh : cwh k = wI (w k)) (h128 : ∀ i, i ≤ k → mem i < 128) (hA : ∀ s, s < 128 → mbs (cal (mem k)) (cah (mem k)) s = (f s && decide (s &&& mem k = 0))) (hV : PtR V mem w k) (hf : ∀ i, i < k → f (mem i) = true) (h2 : okW w c k) {s : Nat} (h1 : w k ≤ s) (h3 : s < c) (h4 : s ≤ mxW w k) (h5 : okP mem w k s = true) (h6 : ∀ t, w k ≤ t → t < s → okP mem w k t = false) : X3_nextPart (LO V) (HI V) cme cwh cal cah (nI k) (nI c) = some (nI s) := by
  unfold X3_nextPart
  rw [gin_nI hk (by decide), gin_nI hk (by decide), nI_clamp (by omega), hwh, wI_1]
  refine lfp1_stop (w k) s h1 (fun t ht1 ht2 r => ?_) (fun r => ?_)
  · rw [nextStep_c hk hc hme h128 hA hV hf h2 (by omega) (by omega), h6 t ht1 ht2, if_neg Bool.false_ne_true]
  · rw [nextStep_c hk hc hme h128 hA hV hf h2 h3 h4, if_pos h5]
theorem nextPart_none (hk : k < 128) (hc : c ≤ 7) (hme : cme k = nI (mem k)) (hwh : cwh k = wI (w k)) (h128 : ∀ i, i ≤ k → mem i < 128) (hA : ∀ s, s < 128 → mbs (cal (mem k)) (cah (mem k)) s = (f s && decide (s &&& mem k = 0))) (hV : PtR V mem w k) (hf : ∀ i, i < k → f (mem i) = true) (h2 : okW w c k) (h1 : w k ≤ c) (h3 : w k ≤ mxW w k + 1) (h6 : ∀ t, w k ≤ t → t < min c (mxW w k + 1) → okP mem w k t = false) : X3_nextPart (LO V) (HI V) cme cwh cal cah (nI k) (nI c) = some (-1) := by
  unfold X3_nextPart
  rw [gin_nI hk (by decide), gin_nI hk (by decide), nI_clamp (by omega), hwh, wI_1]
  refine lfp1_stop (w k) (min c (mxW w k + 1)) (by omega) (fun t ht1 ht2 r => ?_) (fun r => ?_)
  · rw [nextStep_c hk hc hme h128 hA hV hf h2 (by omega) (by omega), h6 t ht1 ht2, if_neg Bool.false_ne_true]
  · exact nextEnd_c hc hV (by omega) (by omega) r
end
/-- the reference's look for the next part -/
theorem inner_9 {mrow mint : Nat → Int32} {mem w : Nat → Nat} {k c sz : Nat} (hk : k < 128) (hc : c ≤ 7) (hm : ∀ i, i ≤ k → mint i = wI (w i)) (hr : ∀ i, i ≤ k → mrow i = nI (mem i)) (h128 : ∀ i, i ≤ k → mem i < 128) (h2 : okW w c k) {e : Nat} (h1 : w k ≤ e) (h3 : e ≤ c) (h4 : e ≤ mxW w k + 1) (h6 : ∀ t, w k ≤ t → t < e → okP mem w k t = false) (he : e = c ∨ e = mxW w k + 1 ∨ okP mem w k e = true) (r12 : Int32 → Int32 → (Nat → Int32) → Option (Int32 × Int32 × (Nat → Int32) × (Nat → Int32))) (x4 : Int32) : lfp2 (X9_colours0_h89 (nI k) (nI c) r12 x4 mint (nI sz) mrow) (0 : Int32) (0 : Int32) = X9_colours0_j167 (nI c) (nI e) r12 x4 (nI k) mint (nI (mxW w k)) (nI sz) mrow := by
  have hU : mxW w k ≤ c := mxW_up fun i hi => (h2 i hi).2.1
  have hU' : ∀ i, i ≤ k → mxW w i ≤ c := fun i hi => mxW_up fun j hj => (h2 j (by omega)).2.1
  have fin : ∀ p, w k ≤ p → p ≤ e → ∀ r, X9_colours0_h137 (nI c) r12 x4 (nI k) mint (nI (mxW w k)) (nI sz) mrow r (nI p) = if p = e then X9_colours0_j167 (nI c) (nI e) r12 x4 (nI k) mint (nI (mxW w k)) (nI sz) mrow else r (nI (p + 1)) := by
    intro p hp1 hp2 r
    unfold X9_colours0_h137
    by_cases q1 : c ≤ p
    · rw [if_pos (nI_le q1 (by omega)), if_pos (by omega), show p = e by omega]
    · rw [if_neg (nI_ge (by omega) (by omega))]
      by_cases q2 : mxW w k < p
      · rw [if_pos (nI_lt q2 (by omega)), if_pos (by omega), show p = e by omega]
      · rw [if_neg (nI_nlt (by omega) (by omega)), nI_clamp (show k < 2 ^ 31 by omega), canBe_9 (mem := mem) (w := w) hk (by omega) (fun i hi => by rw [pk_un (by omega)]; exact hm i (by omega)) (fun i hi => by have := h2 i hi; omega) hr h128, bd1_s]
        by_cases q3 : p = e
        · subst q3
          have : okP mem w k p = true := by
            rcases he with he | he | he
            · omega
            · omega
            · exact he
          rw [this, bt0, if_pos rfl]
        · rw [h6 p hp1 (by omega), bf0, if_neg q3, nI_1]
  have hloop := lfp2_for (F := X9_colours0_h89 (nI k) (nI c) r12 x4 mint (nI sz) mrow) (y := X9_colours0_j167 (nI c) (nI e) r12 x4 (nI k) mint (nI (mxW w k)) (nI sz) mrow) k (fun i => nI (mxW w i)) (fun i => nI i) (fun i hi r => ?_) (fun r => ?_)
  · exact hloop
  · have h5 := (h2 i hi).2.1
    have h7 := hU' i (by omega)
    unfold X9_colours0_h89
    rw [if_neg (nI_ge hi (by omega)), gin_nI (by omega) (by decide), nI_clamp (by omega), hm i (by omega), wI_1, imax_nI (by omega) (by omega), nI_1]
    rfl
  · unfold X9_colours0_h89
    rw [if_pos (nI_le (Nat.le_refl _) (by omega)), gin_nI hk (by decide), gin_nI hk (by decide), nI_clamp (by omega), hm k (Nat.le_refl k), wI_1]
    refine lfp1_stop (w k) e h1 (fun t ht1 ht2 r => ?_) (fun r => ?_)
    · rw [fin t ht1 (by omega), if_neg (by omega)]
    · rw [fin e h1 (Nat.le_refl e), if_pos rfl]
