/-! what a family is -/
def IS (n : Nat) (f : Nat → Bool) (k : Nat) : Prop :=
  if k = 0 then ∀ s t, f s = true → f t = true → s &&& t ≠ 0
  else if k = 1 then ∀ s t, f s = true → f t = true → pc s = pc t
  else if k = 2 then ∀ s p, f s = true → s.testBit p = true → f (s ^^^ 2 ^ p) = true
  else if k = 3 then ∀ s p, p < n → f s = true → s.testBit p = false → f (s ^^^ 2 ^ p) = true
  else if k = 4 then ∀ s t, f s = true → f t = true → s &&& t = s ∨ s &&& t = t
  else if k = 5 then ∀ s t, f s = true → f t = true → s = t ∨ (s &&& t ≠ s ∧ s &&& t ≠ t)
  else if k = 6 then ∃ p, p < n ∧ ∀ s, f s = true → s.testBit p = true
  else if k = 7 then ∀ i j, i < j → j < n → wp i j f = 0
  else if k = 8 then ∀ s t u, f s = true → f t = true → f u = true → s &&& t &&& u ≠ 0
  else if k = 9 then ∀ s t, f s = true → f t = true → f (s &&& t) = true
  else ∀ s t, f s = true → f t = true → f (s ||| t) = true
/-! the reference -/
section
variable {mnow : Nat → Int32} {j n : Nat} {f : Nat → Bool}
/-- pairs t ≤ s, or t < s -/
theorem pairs_9 {F : (Int32 → Option Int32) → Int32 → Option Int32} (Fi : (Int32 → Option Int32) → Nat → (Int32 → Option Int32) → Int32 → Option Int32) (c : Nat → Nat → Bool) (N : Nat) (L : Nat → Nat) (A : Nat → Nat) (hAL : ∀ s, s < N → A s ≤ L s)
    (hF : ∀ s, s < N → ∀ r, F r (nI s) = lfp1 (Fi r s) (nI (A s)))
    (hs : ∀ s, s < N → ∀ t, A s ≤ t → t < L s → c s t = true → ∀ r r2, Fi r s r2 (nI t) = r2 (nI (t + 1)))
    (hf : ∀ s, s < N → ∀ t, A s ≤ t → t < L s → c s t = false → ∀ r r2, Fi r s r2 (nI t) = some 0)
    (he' : ∀ s, s < N → ∀ r r2, Fi r s r2 (nI (L s)) = r (nI (s + 1)))
    (he : ∀ r, F r (nI N) = some 1) : lfp1 F 0 = some (b01 (allB (fun s => allF (c s) (A s) (L s)) N)) := by
  have := lfp1_all (F := F) (fun s => allF (c s) (A s) (L s)) 0 N (Nat.zero_le _) (y0 := some 0) (y1 := some 1) (fun s _ h1 h2 r => by
    rw [hF s h1, lfp1_all (F := Fi r s) (c s) (A s) (L s) (hAL s h1) (y0 := some 0) (y1 := r (nI (s + 1))) (fun t a b d r2 => hs s h1 t a b d r r2) (fun t a b d r2 => hf s h1 t a b d r r2) (fun r2 => he' s h1 r r2), h2, if_pos rfl]) (fun s _ h1 h2 r => by
    rw [hF s h1, lfp1_all (F := Fi r s) (c s) (A s) (L s) (hAL s h1) (y0 := some 0) (y1 := r (nI (s + 1))) (fun t a b d r2 => hs s h1 t a b d r r2) (fun t a b d r2 => hf s h1 t a b d r r2) (fun r2 => he' s h1 r r2), h2, if_neg (by decide)]) he
  rw [allF_0] at this
  refine this.trans ?_
  cases allB (fun s => allF (c s) (A s) (L s)) N <;> rfl
def gtB (k s t : Nat) : Bool := if k = 0 then !(s &&& t == 0) else if k = 1 then pc s == pc t else if k = 4 then (s &&& t == s) || (s &&& t == t) else (s == t) || (!(s &&& t == s) && !(s &&& t == t))
theorem goTogether_9 {k s t : Nat} (hs : s < 128) (ht : t < 128) (hk : k = 0 ∨ k = 1 ∨ k = 4 ∨ k = 5) : X9_goTogether (nI s) (nI t) (nI k) = some (b01 (gtB k s t)) := by
  have hx : s &&& t < 128 := and_128l hs
  have p1 := pc_le s
  have p2 := pc_le t
  unfold X9_goTogether gtB
  rw [land_nI', X9_bits_eq hs, bd1_s, X9_bits_eq ht, bd1_s]
  have a0 : (nI (s &&& t) = 0) = (s &&& t = 0) := propext (nI_eq (b := 0) (by omega) (by decide))
  have a1 : (nI (s &&& t) = nI s) = (s &&& t = s) := propext (nI_eq (by omega) (by omega))
  have a2 : (nI (s &&& t) = nI t) = (s &&& t = t) := propext (nI_eq (by omega) (by omega))
  have a3 : (nI s = nI t) = (s = t) := propext (nI_eq (by omega) (by omega))
  have a4 : (nI (pc s) = nI (pc t)) = (pc s = pc t) := propext (nI_eq (by omega) (by omega))
  simp only [a0, a1, a2, a3, a4]
  rcases hk with rfl | rfl | rfl | rfl
  · rw [if_pos (show nI 0 = (0 : Int32) from rfl)]
    show _ = some (b01 (!(s &&& t == 0)))
    by_cases e : s &&& t = 0
    · rw [if_pos e, e]; rfl
    · rw [if_neg e, show (s &&& t == 0) = false by simpa using e]; rfl
  · rw [if_neg (show ¬ nI 1 = (0 : Int32) by decide), if_pos (show nI 1 = (1 : Int32) from rfl)]
    show _ = some (b01 (pc s == pc t))
    by_cases e : pc s = pc t
    · rw [if_pos e, show (pc s == pc t) = true by simpa using e]; rfl
    · rw [if_neg e, show (pc s == pc t) = false by simpa using e]; rfl
  · rw [if_neg (show ¬ nI 4 = (0 : Int32) by decide), if_neg (show ¬ nI 4 = (1 : Int32) by decide), if_neg (show ¬ nI 4 = (2 : Int32) by decide), if_neg (show ¬ nI 4 = (3 : Int32) by decide), if_pos (show nI 4 = (4 : Int32) from rfl)]
    show _ = some (b01 ((s &&& t == s) || (s &&& t == t)))
    by_cases e : s &&& t = s
    · rw [if_pos e, show (s &&& t == s) = true by simpa using e]; rfl
    · rw [if_neg e, show (s &&& t == s) = false by simpa using e]
      by_cases e' : s &&& t = t
      · rw [if_pos e', show (s &&& t == t) = true by simpa using e']; rfl
      · rw [if_neg e', show (s &&& t == t) = false by simpa using e']; rfl
  · rw [if_neg (show ¬ nI 5 = (0 : Int32) by decide), if_neg (show ¬ nI 5 = (1 : Int32) by decide), if_neg (show ¬ nI 5 = (2 : Int32) by decide), if_neg (show ¬ nI 5 = (3 : Int32) by decide), if_neg (show ¬ nI 5 = (4 : Int32) by decide)]
    show _ = some (b01 ((s == t) || (!(s &&& t == s) && !(s &&& t == t))))
    by_cases e0 : s = t
    · rw [if_pos e0, show (s == t) = true by simpa using e0]; rfl
    · rw [if_neg e0, show (s == t) = false by simpa using e0]
      by_cases e : s &&& t = s
      · rw [if_pos e, show (s &&& t == s) = true by simpa using e]; rfl
      · rw [if_neg e, show (s &&& t == s) = false by simpa using e]
        by_cases e' : s &&& t = t
        · rw [if_pos e', show (s &&& t == t) = true by simpa using e']; rfl
        · rw [if_neg e', show (s &&& t == t) = false by simpa using e']; rfl
theorem areAll_9 (hj : j < 3) (hM : FamM mnow (129 * j) (n, f)) {k : Nat} (hk : k = 0 ∨ k = 1 ∨ k = 4 ∨ k = 5) : X9_areAll mnow (nI j) (nI k) = some (b01 (allB (fun s => allF (fun t => !(f s && f t) || gtB k s t) 0 (s + 1)) 128)) := by
  unfold X9_areAll
  refine pairs_9 (F := X9_areAll_h2 mnow (nI j) (nI k)) (fun r s => X9_areAll_h12 (nI s) r mnow (nI j) (nI k)) (fun s t => !(f s && f t) || gtB k s t) 128 (fun s => s + 1) (fun _ => 0) (fun s _ => Nat.zero_le _) (fun s hs r => ?_) (fun s hs t _ ht h r r2 => ?_) (fun s hs t _ ht h r r2 => ?_) (fun s hs r r2 => ?_) (fun r => ?_)
  · unfold X9_areAll_h2; rw [if_neg (inn128 hs)]; rfl
  · unfold X9_areAll_h12
    rw [if_neg (nI_nlt (by omega) (by omega)), isIn9 hj hM hs, bd1_s, isIn9 hj hM (by omega), bd1_s, goTogether_9 hs (by omega) hk, bd1_s, ib0, ib0, ib0, nI_1]
    cases hf1 : f s <;> cases hf2 : f t <;> cases hg : gtB k s t <;> simp [hf1, hf2, hg] at h ⊢
  · unfold X9_areAll_h12
    rw [if_neg (nI_nlt (by omega) (by omega)), isIn9 hj hM hs, bd1_s, isIn9 hj hM (by omega), bd1_s, goTogether_9 hs (by omega) hk, bd1_s, ib0, ib0, ib0, nI_1]
    cases hf1 : f s <;> cases hf2 : f t <;> cases hg : gtB k s t <;> simp [hf1, hf2, hg] at h ⊢
  · unfold X9_areAll_h12
    rw [if_pos (nI_lt (by omega) (by omega)), nI_1]
  · unfold X9_areAll_h2; rw [if_pos i128]
theorem areAll_iff {P : Nat → Nat → Bool} (hf : ∀ t, f t = true → t < 128) (hsym : ∀ s t, P s t = P t s) : allB (fun s => allF (fun t => !(f s && f t) || P s t) 0 (s + 1)) 128 = true ↔ ∀ s t, f s = true → f t = true → P s t = true := by
  rw [allB_iff]
  constructor
  · intro h s t hs ht
    have key : ∀ s t, f s = true → f t = true → t ≤ s → P s t = true := fun s t hs ht hle => by
      have := allF_iff.mp (h s (hf s hs)) t (Nat.zero_le _) (by omega)
      rw [hs, ht] at this
      simpa using this
    rcases Nat.le_total t s with w | w
    · exact key s t hs ht w
    · rw [hsym]; exact key t s ht hs w
  · intro h s _
    rw [allF_iff]
    intro t _ _
    cases hs : f s with
    | false => rfl
    | true =>
      cases ht : f t with
      | false => rfl
      | true => rw [h s t hs ht]; rfl
theorem isShut_9 (hj : j < 3) (hM : FamM mnow (129 * j) (n, f)) (hn : n ≤ 7) (up : Bool) : X9_isShut mnow (nI j) (b01 up) = some (b01 (allB (fun s => allF (fun p => !(f s && (s.testBit p != up)) || f (s ^^^ 2 ^ p)) 0 n) (2 ^ n))) := by
  have hq := pow_le7 hn
  unfold X9_isShut
  refine pairs_9 (F := X9_isShut_h2 mnow (nI j) (b01 up)) (fun r s => X9_isShut_h16 mnow (nI j) r (nI s) (b01 up)) (fun s p => !(f s && (s.testBit p != up)) || f (s ^^^ 2 ^ p)) (2 ^ n) (fun _ => n) (fun _ => 0) (fun s _ => Nat.zero_le _) (fun s hs r => ?_) (fun s hs t _ ht h r r2 => ?_) (fun s hs t _ ht h r r2 => ?_) (fun s hs r r2 => ?_) (fun r => ?_)
  · unfold X9_isShut_h2; rw [points9 hj hM, bd1_s, shl1 _ (by omega), if_neg (nI_ge hs (by omega))]; rfl
  · have hx : s ^^^ 2 ^ t < 128 := x128 (by omega) (by omega)
    unfold X9_isShut_h16
    rw [points9 hj hM, bd1_s, if_neg (nI_ge ht (by omega)), isIn9 hj hM (by omega), bd1_s, X9_hasBit_eq (by omega) (by omega), bd1_s, shl1 _ (by omega), xor_nI', isIn9 hj hM hx, bd1_s, ib0, ib0, nI_1]
    cases hf1 : f s <;> cases hf2 : f (s ^^^ 2 ^ t) <;> cases hb : s.testBit t <;> cases up <;> simp [hf1, hf2, hb] at h ⊢ <;> first | rfl | (intro z; exact absurd z (by decide))
  · have hx : s ^^^ 2 ^ t < 128 := x128 (by omega) (by omega)
    unfold X9_isShut_h16
    rw [points9 hj hM, bd1_s, if_neg (nI_ge ht (by omega)), isIn9 hj hM (by omega), bd1_s, X9_hasBit_eq (by omega) (by omega), bd1_s, shl1 _ (by omega), xor_nI', isIn9 hj hM hx, bd1_s, ib0, ib0, nI_1]
    cases hf1 : f s <;> cases hf2 : f (s ^^^ 2 ^ t) <;> cases hb : s.testBit t <;> cases up <;> simp [hf1, hf2, hb] at h ⊢ <;> first | rfl | (intro z; exact absurd z (by decide))
  · unfold X9_isShut_h16
    rw [points9 hj hM, bd1_s, if_pos (nI_le (Nat.le_refl _) (by omega)), nI_1]
  · unfold X9_isShut_h2; rw [points9 hj hM, bd1_s, shl1 _ (by omega), if_pos (nI_le (Nat.le_refl _) (by omega))]
theorem isShifted_9 (hj : j < 3) (hM : FamM mnow (129 * j) (n, f)) (hn : n ≤ 7) : X9_isShifted mnow (nI j) = some (b01 (allB (fun i => allF (fun k => wp i k f == 0) (i + 1) n) n)) := by
  unfold X9_isShifted
  refine pairs_9 (F := X9_isShifted_h2 mnow (nI j)) (fun r s => X9_isShifted_h15 mnow (nI j) r (nI s)) (fun i k => wp i k f == 0) n (fun _ => n) (fun i => i + 1) (fun s hs => hs) (fun s hs r => ?_) (fun s hs t h0 ht h r r2 => ?_) (fun s hs t h0 ht h r r2 => ?_) (fun s hs r r2 => ?_) (fun r => ?_)
  · unfold X9_isShifted_h2; rw [points9 hj hM, bd1_s, if_neg (nI_ge hs (by omega)), nI_1]
  · unfold X9_isShifted_h15
    rw [points9 hj hM, bd1_s, if_neg (nI_ge ht (by omega)), wouldShift_9 hj hM (by omega) (by omega), bd1_s, wp_if, nI_1, if_pos (by simpa using h)]
  · unfold X9_isShifted_h15
    rw [points9 hj hM, bd1_s, if_neg (nI_ge ht (by omega)), wouldShift_9 hj hM (by omega) (by omega), bd1_s, wp_if, if_neg (by simpa using h)]
  · unfold X9_isShifted_h15
    rw [points9 hj hM, bd1_s, if_pos (nI_le (Nat.le_refl _) (by omega)), nI_1]
  · unfold X9_isShifted_h2; rw [points9 hj hM, bd1_s, if_pos (nI_le (Nat.le_refl _) (by omega))]
theorem isClosed_9 (hj : j < 3) (hM : FamM mnow (129 * j) (n, f)) (jn : Bool) : X9_isClosed mnow (nI j) (b01 jn) = some (b01 (allB (fun s => allF (fun t => !(f s && f t) || f (if jn then s ||| t else s &&& t)) 0 s) 128)) := by
  unfold X9_isClosed
  refine pairs_9 (F := X9_isClosed_h2 mnow (nI j) (b01 jn)) (fun r s => X9_isClosed_h12 (nI s) r mnow (nI j) (b01 jn)) (fun s t => !(f s && f t) || f (if jn then s ||| t else s &&& t)) 128 (fun s => s) (fun _ => 0) (fun s _ => Nat.zero_le _) (fun s hs r => ?_) (fun s hs t _ ht h r r2 => ?_) (fun s hs t _ ht h r r2 => ?_) (fun s hs r r2 => ?_) (fun r => ?_)
  · unfold X9_isClosed_h2; rw [if_neg (inn128 hs)]; rfl
  · have hx : s &&& t < 128 := and_128l hs
    have hy : s ||| t < 128 := or_128 hs (by omega)
    unfold X9_isClosed_h12
    rw [if_neg (nI_ge ht (by omega)), isIn9 hj hM hs, bd1_s, isIn9 hj hM (by omega), bd1_s, land_nI', isIn9 hj hM hx, bd1_s, lor_nI', isIn9 hj hM hy, bd1_s, ib0, ib0, ib0, ib0, ib0, nI_1]
    cases jn <;> cases hf1 : f s <;> cases hf2 : f t <;> cases hg : f (s &&& t) <;> cases hg' : f (s ||| t) <;> simp [hf1, hf2, hg, hg'] at h ⊢
  · have hx : s &&& t < 128 := and_128l hs
    have hy : s ||| t < 128 := or_128 hs (by omega)
    unfold X9_isClosed_h12
    rw [if_neg (nI_ge ht (by omega)), isIn9 hj hM hs, bd1_s, isIn9 hj hM (by omega), bd1_s, land_nI', isIn9 hj hM hx, bd1_s, lor_nI', isIn9 hj hM hy, bd1_s, ib0, ib0, ib0, ib0, ib0, nI_1]
    cases jn <;> cases hf1 : f s <;> cases hf2 : f t <;> cases hg : f (s &&& t) <;> cases hg' : f (s ||| t) <;> simp [hf1, hf2, hg, hg'] at h ⊢
  · unfold X9_isClosed_h12
    rw [if_pos (nI_le (Nat.le_refl _) (by omega)), nI_1]
  · unfold X9_isClosed_h2; rw [if_pos i128]
/-- three by three -/
def m3B (f : Nat → Bool) (s t : Nat) : Bool := !(f s && f t) || allF (fun u => !f u || !(s &&& t &&& u == 0)) 0 (t + 1)
theorem meetByThree_9 (hj : j < 3) (hM : FamM mnow (129 * j) (n, f)) : X9_meetByThree mnow (nI j) = some (b01 (allB (fun s => allF (m3B f s) 0 (s + 1)) 128)) := by
  have inner : ∀ s, s < 128 → ∀ t, t < 128 → ∀ r7 : Int32 → Option Int32, lfp1 (X9_meetByThree_h19 (nI t) r7 mnow (nI j) (nI s)) 0 = if m3B f s t = true then r7 (nI (t + 1)) else some 0 := by
    intro s hs t ht r7
    unfold m3B
    cases hst : (f s && f t) with
    | false =>
      rw [Bool.not_false, Bool.true_or, if_pos rfl]
      refine lfp1_done fun r => ?_
      unfold X9_meetByThree_h19
      rw [if_neg (show ¬ nI t < (0 : Int32) from nI_pos (by omega)), isIn9 hj hM hs, bd1_s, isIn9 hj hM ht, bd1_s, ib0, ib0, nI_1]
      cases hf1 : f s <;> cases hf2 : f t <;> simp [hf1, hf2] at hst ⊢
    | true =>
      rw [Bool.and_eq_true] at hst
      rw [Bool.not_true, Bool.false_or]
      refine lfp1_all (F := X9_meetByThree_h19 (nI t) r7 mnow (nI j) (nI s)) (fun u => !f u || !(s &&& t &&& u == 0)) 0 (t + 1) (Nat.zero_le _) (y0 := some 0) (y1 := r7 (nI (t + 1))) (fun u _ hu h r => ?_) (fun u _ hu h r => ?_) (fun r => ?_)
      · have hx : s &&& t &&& u < 128 := and_128l (and_128l hs)
        unfold X9_meetByThree_h19
        rw [if_neg (nI_nlt (by omega) (by omega)), isIn9 hj hM hs, bd1_s, isIn9 hj hM ht, bd1_s, hst.1, hst.2, bt0, bt0, isIn9 hj hM (by omega), bd1_s, ib0, land_nI', land_nI', nI_1]
        cases hfu : f u with
        | false => rfl
        | true =>
          rw [hfu, Bool.not_true, Bool.false_or, Bool.not_eq_true'] at h
          have h' : s &&& t &&& u ≠ 0 := by simpa using h
          rw [if_pos rfl, if_neg (nI_ne0 (by omega) (by omega))]
      · have hx : s &&& t &&& u < 128 := and_128l (and_128l hs)
        rw [Bool.or_eq_false_iff, Bool.not_eq_false', Bool.not_eq_false', beq_iff_eq] at h
        unfold X9_meetByThree_h19
        rw [if_neg (nI_nlt (by omega) (by omega)), isIn9 hj hM hs, bd1_s, isIn9 hj hM ht, bd1_s, hst.1, hst.2, bt0, bt0, isIn9 hj hM (by omega), bd1_s, h.1, bt0, land_nI', land_nI', h.2, if_pos (show nI 0 = (0 : Int32) from rfl)]
      · unfold X9_meetByThree_h19
        rw [if_pos (nI_lt (by omega) (by omega)), nI_1]
  unfold X9_meetByThree
  refine pairs_9 (F := X9_meetByThree_h2 mnow (nI j)) (fun r s => X9_meetByThree_h11 (nI s) r mnow (nI j)) (m3B f) 128 (fun s => s + 1) (fun _ => 0) (fun s _ => Nat.zero_le _) (fun s hs r => ?_) (fun s hs t _ ht h r r2 => ?_) (fun s hs t _ ht h r r2 => ?_) (fun s hs r r2 => ?_) (fun r => ?_)
  · unfold X9_meetByThree_h2; rw [if_neg (inn128 hs)]; rfl
  · unfold X9_meetByThree_h11
    rw [if_neg (nI_nlt (by omega) (by omega)), inner s hs t (by omega), h, if_pos rfl]
  · unfold X9_meetByThree_h11
    rw [if_neg (nI_nlt (by omega) (by omega)), inner s hs t (by omega), h, if_neg (by decide)]
  · unfold X9_meetByThree_h11
    rw [if_pos (nI_lt (by omega) (by omega)), nI_1]
  · unfold X9_meetByThree_h2; rw [if_pos i128]
theorem isSo_9 (hj : j < 3) (hM : FamM mnow (129 * j) (n, f)) (h0 : 0 < n) (hn : n ≤ 7) (hf : inN n f) {k : Nat} (hk : k ≤ 10) : ∃ b : Bool, X9_isSo mnow (nI j) (nI k) = some (b01 b) ∧ (b = true ↔ IS n f k) := by
  have hf7 := hf.to hn
  have hq := pow_le7 hn
  unfold X9_isSo
  rcases (show k = 0 ∨ k = 1 ∨ k = 2 ∨ k = 3 ∨ k = 4 ∨ k = 5 ∨ k = 6 ∨ k = 7 ∨ k = 8 ∨ k = 9 ∨ k = 10 by omega) with rfl | rfl | rfl | rfl | rfl | rfl | rfl | rfl | rfl | rfl | rfl
  · refine ⟨_, by rw [areAll_9 hj hM (Or.inl rfl), bd1_s, gbo_01]; rfl, ?_⟩
    · rw [areAll_iff (P := gtB 0) hf7 (fun s t => by show (!(s &&& t == 0)) = !(t &&& s == 0); rw [Nat.and_comm])]
      show _ ↔ ∀ s t, f s = true → f t = true → s &&& t ≠ 0
      exact ⟨(fun h s t hs ht => by have := h s t hs ht; simpa [gtB] using this), (fun h s t hs ht => by have := h s t hs ht; simpa [gtB] using this)⟩
  · refine ⟨_, by rw [areAll_9 hj hM (Or.inr (Or.inl rfl)), bd1_s, gbo_01]; rfl, ?_⟩
    · rw [areAll_iff (P := gtB 1) hf7 (fun s t => by show (pc s == pc t) = (pc t == pc s); exact Bool.beq_comm)]
      show _ ↔ ∀ s t, f s = true → f t = true → pc s = pc t
      exact ⟨(fun h s t hs ht => by have := h s t hs ht; simpa [gtB] using this), (fun h s t hs ht => by have := h s t hs ht; simpa [gtB] using this)⟩
  · refine ⟨_, by rw [show (0 : Int32) = b01 false from rfl, isShut_9 hj hM hn false, bd1_s, gbo_01]; rfl, ?_⟩
    · rw [allB_iff]
      show _ ↔ ∀ s p, f s = true → s.testBit p = true → f (s ^^^ 2 ^ p) = true
      constructor
      · intro h s p hs hb
        have := allF_iff.mp (h s (hf s hs)) p (Nat.zero_le _) (bit_n (hf s hs) hb)
        rw [hs, hb] at this
        simpa using this
      · intro h s hs
        rw [allF_iff]
        intro p _ hp
        cases hfs : f s with
        | false => rfl
        | true =>
          cases hb : s.testBit p with
          | false => rfl
          | true => rw [h s p hfs hb]; rfl
  · refine ⟨_, by rw [show (1 : Int32) = b01 true from rfl, isShut_9 hj hM hn true, bd1_s, gbo_01]; rfl, ?_⟩
    · rw [allB_iff]
      show _ ↔ ∀ s p, p < n → f s = true → s.testBit p = false → f (s ^^^ 2 ^ p) = true
      constructor
      · intro h s p hp hs hb
        have := allF_iff.mp (h s (hf s hs)) p (Nat.zero_le _) hp
        rw [hs, hb] at this
        simpa using this
      · intro h s hs
        rw [allF_iff]
        intro p _ hp
        cases hfs : f s with
        | false => rfl
        | true =>
          cases hb : s.testBit p with
          | true => rfl
          | false => rw [h s p hp hfs hb]; rfl
  · refine ⟨_, by rw [areAll_9 hj hM (Or.inr (Or.inr (Or.inl rfl))), bd1_s, gbo_01]; rfl, ?_⟩
    · rw [areAll_iff (P := gtB 4) hf7 (fun s t => by show ((s &&& t == s) || (s &&& t == t)) = ((t &&& s == t) || (t &&& s == s)); rw [Nat.and_comm t s, Bool.or_comm])]
      show _ ↔ ∀ s t, f s = true → f t = true → s &&& t = s ∨ s &&& t = t
      exact ⟨(fun h s t hs ht => by have := h s t hs ht; simpa [gtB] using this), (fun h s t hs ht => by have := h s t hs ht; simpa [gtB] using this)⟩
  · refine ⟨_, by rw [areAll_9 hj hM (Or.inr (Or.inr (Or.inr rfl))), bd1_s, gbo_01]; rfl, ?_⟩
    · rw [areAll_iff (P := gtB 5) hf7 (fun s t => by show ((s == t) || (!(s &&& t == s) && !(s &&& t == t))) = ((t == s) || (!(t &&& s == t) && !(t &&& s == s))); rw [Nat.and_comm t s, Bool.and_comm, Bool.beq_comm (a := s) (b := t)])]
      show _ ↔ ∀ s t, f s = true → f t = true → s = t ∨ (s &&& t ≠ s ∧ s &&& t ≠ t)
      exact ⟨(fun h s t hs ht => by have := h s t hs ht; simpa [gtB] using this), (fun h s t hs ht => by have := h s t hs ht; simpa [gtB] using this)⟩
  · refine ⟨decide (cnt f 128 = 0) || !(anN (2 ^ n - 1) f 128 == 0), ?_, ?_⟩
    · have hc := cnt_le f 128
      have hl := looked_9 (k := 5) (but := -1) hj hn (points9 hj hM) (isBut_m1 hj hM) (by decide)
      have hlt : anN (2 ^ n - 1) f 128 < 2 ^ 31 := by
        have h1 : anN (2 ^ n - 1) f 128 < 2 ^ n := lt7 fun p hp => by
          cases hb : (anN (2 ^ n - 1) f 128).testBit p with
          | false => rfl
          | true =>
            have := ((anN_bit 128).mp hb).1
            rw [Nat.testBit_two_pow_sub_one, decide_eq_true_eq] at this
            omega
        omega
      rw [if_neg (by decide), if_neg (by decide), if_neg (by decide), if_neg (by decide), if_pos (by decide), many9 hj hM, bd1_s, show X9_looked mnow (nI j) (5 : Int32) (-1) = some (nI (anN (2 ^ n - 1) f 128)) from hl, bd1_s]
      by_cases e : cnt f 128 = 0
      · rw [if_pos (show nI (cnt f 128) = 0 by rw [e]; rfl), decide_eq_true e]; rfl
      · rw [if_neg (nI_ne0 (by omega) (by omega)), decide_eq_false e, Bool.false_or]
        by_cases e2 : anN (2 ^ n - 1) f 128 = 0
        · rw [if_pos (show nI (anN (2 ^ n - 1) f 128) = 0 by rw [e2]; rfl), e2]; rfl
        · rw [if_neg (nI_ne0 (by omega) hlt), show (anN (2 ^ n - 1) f 128 == 0) = false by simpa using e2]; rfl
    · show _ ↔ ∃ p, p < n ∧ ∀ s, f s = true → s.testBit p = true
      rw [Bool.or_eq_true, decide_eq_true_eq, Bool.not_eq_true', beq_eq_false_iff_ne]
      have hbit : ∀ p, (anN (2 ^ n - 1) f 128).testBit p = true ↔ p < n ∧ ∀ s, f s = true → s.testBit p = true := fun p => by
        rw [anN_bit, Nat.testBit_two_pow_sub_one, decide_eq_true_eq]
        exact ⟨(fun h => ⟨h.1, fun s hs => h.2 s (hf7 s hs) hs⟩), (fun h => ⟨h.1, fun s _ hs => h.2 s hs⟩)⟩
      constructor
      · rintro (h | h)
        · refine ⟨0, h0, fun s hs => ?_⟩
          have := cnt_lt (hf7 s hs) hs
          omega
        · apply Classical.byContradiction
          intro hno
          apply h
          apply Nat.eq_of_testBit_eq
          intro p
          rw [Nat.zero_testBit]
          cases hb : (anN (2 ^ n - 1) f 128).testBit p with
          | false => rfl
          | true => exact absurd ⟨p, (hbit p).mp hb⟩ hno
      · rintro ⟨p, hp⟩
        right
        intro z
        have := (hbit p).mpr hp
        rw [z, Nat.zero_testBit] at this; cases this
  · refine ⟨_, by rw [isShifted_9 hj hM hn, bd1_s, gbo_01]; rfl, ?_⟩
    · rw [allB_iff]
      show _ ↔ ∀ i k, i < k → k < n → wp i k f = 0
      constructor
      · intro h i k hik hk
        have := allF_iff.mp (h i (by omega)) k hik hk
        simpa using this
      · intro h i hi
        rw [allF_iff]
        intro k h1 h2
        simpa using h i k h1 h2
  · refine ⟨_, by rw [meetByThree_9 hj hM, bd1_s, gbo_01]; rfl, ?_⟩
    · rw [allB_iff]
      show _ ↔ ∀ s t u, f s = true → f t = true → f u = true → s &&& t &&& u ≠ 0
      constructor
      · intro h
        have key : ∀ s t u, f s = true → f t = true → f u = true → t ≤ s → u ≤ t → s &&& t &&& u ≠ 0 := fun s t u hs ht hu h1 h2 => by
          have a := allF_iff.mp (h s (hf7 s hs)) t (Nat.zero_le _) (by omega)
          unfold m3B at a
          rw [hs, ht, Bool.true_and, Bool.not_true, Bool.false_or, allF_iff] at a
          have b := a u (Nat.zero_le _) (by omega)
          rw [hu] at b
          simpa using b
        intro s t u hs ht hu
        have c1 : ∀ a b c : Nat, a &&& b &&& c = b &&& a &&& c := fun a b c => by rw [Nat.and_comm a b]
        rcases Nat.le_total t s with w1 | w1 <;> rcases Nat.le_total u t with w2 | w2 <;> rcases Nat.le_total u s with w3 | w3
        · exact key s t u hs ht hu w1 w2
        · exact key s t u hs ht hu w1 w2
        · rw [xc_and]; exact key s u t hs hu ht w3 w2
        · rw [xc_and, c1]; exact key u s t hu hs ht w3 w1
        · rw [c1]; exact key t s u ht hs hu w1 w3
        · rw [c1, xc_and]; exact key t u s ht hu hs w2 w3
        · rw [xc_and, c1, xc_and]; exact key u t s hu ht hs w2 w1
        · rw [xc_and, c1, xc_and]; exact key u t s hu ht hs w2 w1
      · intro h s _
        rw [allF_iff]
        intro t _ _
        unfold m3B
        cases hst : (f s && f t) with
        | false => rfl
        | true =>
          rw [Bool.and_eq_true] at hst
          rw [Bool.not_true, Bool.false_or, allF_iff]
          intro u _ _
          cases hu : f u with
          | false => rfl
          | true => have := h s t u hst.1 hst.2 hu; simpa using this
  · refine ⟨_, by rw [show (0 : Int32) = b01 false from rfl, isClosed_9 hj hM false, bd1_s, gbo_01]; rfl, ?_⟩
    · rw [allB_iff]
      show _ ↔ ∀ s t, f s = true → f t = true → f (s &&& t) = true
      constructor
      · intro h s t hs ht
        have key : ∀ s t, f s = true → f t = true → t < s → f (s &&& t) = true := fun s t hs ht w => by
          have := allF_iff.mp (h s (hf7 s hs)) t (Nat.zero_le _) w
          rw [hs, ht] at this
          simpa using this
        rcases Nat.lt_trichotomy t s with w | w | w
        · exact key s t hs ht w
        · rw [w, Nat.and_self]; exact hs
        · rw [Nat.and_comm]; exact key t s ht hs w
      · intro h s _
        rw [allF_iff]
        intro t _ _
        cases hs : f s with
        | false => rfl
        | true =>
          cases ht : f t with
          | false => rfl
          | true => have := h s t hs ht; simpa using this
  · refine ⟨_, by rw [show (1 : Int32) = b01 true from rfl, isClosed_9 hj hM true, bd1_s, gbo_01]; rfl, ?_⟩
    · rw [allB_iff]
      show _ ↔ ∀ s t, f s = true → f t = true → f (s ||| t) = true
      constructor
      · intro h s t hs ht
        have key : ∀ s t, f s = true → f t = true → t < s → f (s ||| t) = true := fun s t hs ht w => by
          have := allF_iff.mp (h s (hf7 s hs)) t (Nat.zero_le _) w
          rw [hs, ht] at this
          simpa using this
        rcases Nat.lt_trichotomy t s with w | w | w
        · exact key s t hs ht w
        · rw [w, Nat.or_self]; exact hs
        · rw [Nat.or_comm]; exact key t s ht hs w
      · intro h s _
        rw [allF_iff]
        intro t _ _
        cases hs : f s with
        | false => rfl
        | true =>
          cases ht : f t with
          | false => rfl
          | true => have := h s t hs ht; simpa using this
end
