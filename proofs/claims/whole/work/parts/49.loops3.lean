/-! kinds of loops -/
def allB (c : Nat → Bool) : Nat → Bool
  | 0 => true
  | n + 1 => allB c n && c n
theorem allB_iff {c : Nat → Bool} {n : Nat} : allB c n = true ↔ ∀ k, k < n → c k = true := by
  induction n with
  | zero => exact ⟨fun _ k hk => by omega, fun _ => rfl⟩
  | succ n ih =>
    show (allB c n && c n) = true ↔ _
    rw [Bool.and_eq_true, ih]
    constructor
    · rintro ⟨h1, h2⟩ k hk
      by_cases e : k = n
      · subst e; exact h2
      · exact h1 k (by omega)
    · intro h; exact ⟨fun k hk => h k (by omega), h n (by omega)⟩
theorem allB_f {c : Nat → Bool} {n : Nat} (h : ¬ ∀ k, k < n → c k = true) : allB c n = false := by
  cases q : allB c n with
  | false => rfl
  | true => exact absurd (allB_iff.mp q) h
theorem allB_ff {c : Nat → Bool} {n : Nat} : allB c n = false ↔ ∃ k, k < n ∧ c k = false := by
  constructor
  · intro h
    rcases first_or (fun k => !c k) n with ⟨s, h1, h2, h3⟩ | hn
    · exact ⟨s, h1, by simpa using h2⟩
    · rw [allB_iff.mpr (fun k hk => by simpa using hn k hk)] at h; cases h
  · rintro ⟨k, h1, h2⟩
    exact allB_f fun q => by have := q k h1; rw [h2] at this; cases this
def allF (c : Nat → Bool) (a n : Nat) : Bool := allB (fun k => decide (k < a) || c k) n
theorem allF_iff {c : Nat → Bool} {a n : Nat} : allF c a n = true ↔ ∀ k, a ≤ k → k < n → c k = true := by
  unfold allF
  rw [allB_iff]
  constructor
  · intro h k h1 h2
    have := h k h2
    simpa [show ¬ k < a by omega] using this
  · intro h k h1
    by_cases q : k < a
    · simp [q]
    · simp [h k (by omega) h1]
theorem allF_0 {c : Nat → Bool} {n : Nat} : allF c 0 n = allB c n := by
  apply Bool.eq_iff_iff.mpr
  rw [allF_iff, allB_iff]
  exact ⟨fun h k hk => h k (Nat.zero_le k) hk, fun h k _ hk => h k hk⟩
section
variable {β : Type}
theorem lfp2_flag {F : (Int32 → Int32 → Option β) → Int32 → Int32 → Option β} (c : Nat → Bool) (N : Nat) (y : Bool → Option β) (hs : ∀ k, k < N → ∀ r, F r 1 (nI k) = r (b01 (c k)) (nI (k + 1))) (h0 : ∀ k, k ≤ N → ∀ r, F r 0 (nI k) = y false) (h1 : ∀ r, F r 1 (nI N) = y true) (b : Bool) : lfp2 F (b01 b) 0 = y (b && allB c N) := by
  cases b with
  | false => exact lfp2_done (fun r => h0 0 (Nat.zero_le N) r)
  | true =>
    rcases first_or (fun k => !c k) N with ⟨s, hs1, hs2, hs3⟩ | hall
    · have hn : allB c N = false := allB_f (fun q => by have := q s hs1; simp [this] at hs2)
      rw [hn]
      have := lfp2_for (F := F) (y := y false) (s + 1) (fun k => b01 (decide (k ≤ s))) (fun k => nI k) (fun k hk r => by
        rw [show decide (k ≤ s) = true from decide_eq_true (by omega)]
        show F r 1 (nI k) = _
        rw [hs k (by omega)]
        by_cases e : k = s
        · subst e
          rw [show decide (k + 1 ≤ k) = false from decide_eq_false (by omega)]
          have : c k = false := by simpa using hs2
          rw [this]
        · have : c k = true := by simpa using hs3 k (by omega)
          rw [this, show decide (k + 1 ≤ s) = true from decide_eq_true (by omega)]) (fun r => by
        rw [show decide (s + 1 ≤ s) = false from decide_eq_false (by omega)]
        exact h0 (s + 1) (by omega) r)
      exact this
    · have hn : allB c N = true := allB_iff.mpr (fun k hk => by simpa using hall k hk)
      rw [hn]
      exact lfp2_for (F := F) (y := y true) N (fun _ => (1 : Int32)) (fun k => nI k) (fun k hk r => by
        rw [hs k hk]
        have : c k = true := by simpa using hall k hk
        rw [this]; rfl) (fun r => h1 r)
/-- first of its kind from a on -/
theorem lfp1_stop {F : (Int32 → Option β) → Int32 → Option β} {y : Option β} (a s : Nat) (ha : a ≤ s) (hs : ∀ k, a ≤ k → k < s → ∀ r, F r (nI k) = r (nI (k + 1))) (he : ∀ r, F r (nI s) = y) : lfp1 F (nI a) = y := by
  have := lfp1_for (F := F) (y := y) (s - a) (fun k => nI (a + k)) (fun k hk r => hs (a + k) (by omega) (by omega) r) (fun r => by rw [show a + (s - a) = s by omega]; exact he r)
  exact this
theorem first_from (P : Nat → Bool) (a n : Nat) : (∃ s, a ≤ s ∧ s < n ∧ P s = true ∧ ∀ t, a ≤ t → t < s → P t = false) ∨ ∀ t, a ≤ t → t < n → P t = false := by
  rcases first_or (fun k => decide (a ≤ k) && P k) n with ⟨s, h1, h2, h3⟩ | h
  · left
    rw [Bool.and_eq_true, decide_eq_true_eq] at h2
    refine ⟨s, h2.1, h1, h2.2, fun t h4 h5 => ?_⟩
    have := h3 t h5
    simpa [h4] using this
  · right
    intro t h4 h5
    have := h t h5
    simpa [h4] using this
theorem lfp1_all {F : (Int32 → Option β) → Int32 → Option β} (c : Nat → Bool) (a N : Nat) (haN : a ≤ N) {y0 y1 : Option β} (hs : ∀ k, a ≤ k → k < N → c k = true → ∀ r, F r (nI k) = r (nI (k + 1))) (hf : ∀ k, a ≤ k → k < N → c k = false → ∀ r, F r (nI k) = y0) (he : ∀ r, F r (nI N) = y1) : lfp1 F (nI a) = if allF c a N = true then y1 else y0 := by
  rcases first_from (fun k => !c k) a N with ⟨s, h1, h2, h3, h4⟩ | h
  · rw [if_neg]
    · exact lfp1_stop a s h1 (fun k q1 q2 r => hs k q1 (by omega) (by simpa using h4 k q1 q2) r) (fun r => hf s h1 h2 (by simpa using h3) r)
    · rw [allF_iff]; intro q; have := q s h1 h2; simp [this] at h3
  · rw [if_pos (allF_iff.mpr (fun k q1 q2 => by simpa using h k q1 q2))]
    exact lfp1_stop a N haN (fun k q1 q2 r => hs k q1 q2 (by simpa using h k q1 q2) r) he
theorem lfp2_cnt {F : (Int32 → Int32 → Option β) → Int32 → Int32 → Option β} (c : Nat → Bool) (N a0 : Nat) (y : Nat → Option β) (hs : ∀ k, k < N → ∀ a r, F r (nI a) (nI k) = r (nI (a + if c k = true then 1 else 0)) (nI (k + 1))) (he : ∀ a r, F r (nI a) (nI N) = y a) : lfp2 F (nI a0) 0 = y (a0 + cnt c N) := by
  exact lfp2_for (F := F) (y := y (a0 + cnt c N)) N (fun k => nI (a0 + cnt c k)) (fun k => nI k) (fun k hk r => by
    rw [hs k hk, Nat.add_assoc]; rfl) (fun r => he _ r)
/-- count from a on -/
theorem lfp2_cntF {F : (Int32 → Int32 → Option β) → Int32 → Int32 → Option β} (c : Nat → Bool) (b N a0 : Nat) (hb : b ≤ N) (y : Nat → Option β) (hs : ∀ k, b ≤ k → k < N → ∀ a r, F r (nI a) (nI k) = r (nI (a + if c k = true then 1 else 0)) (nI (k + 1))) (he : ∀ a r, F r (nI a) (nI N) = y a) : lfp2 F (nI a0) (nI b) = y (a0 + cnt (fun k => c (b + k)) (N - b)) := by
  exact lfp2_for (F := F) (y := y (a0 + cnt (fun k => c (b + k)) (N - b))) (N - b) (fun k => nI (a0 + cnt (fun k => c (b + k)) k)) (fun k => nI (b + k)) (fun k hk r => by
    rw [hs (b + k) (by omega) (by omega), Nat.add_assoc]; rfl) (fun r => by rw [show b + (N - b) = N by omega]; exact he _ r)
/-- the K-th of its kind, counting up -/
theorem lfp2_kth {F : (Int32 → Int32 → Option β) → Int32 → Int32 → Option β} (c : Nat → Bool) (N K : Nat) (y : Int32 → Option β) (hs : ∀ k, k < N → ∀ a, a ≤ k → (c k = false ∨ a ≠ K) → ∀ r, F r (nI a) (nI k) = r (nI (a + if c k = true then 1 else 0)) (nI (k + 1))) (hk : ∀ k, k < N → c k = true → cnt c k = K → ∀ r, F r (nI K) (nI k) = y (nI k)) (he : ∀ a r, F r (nI a) (nI N) = y (-1)) : lfp2 F 0 0 = y (kthI c N K) := by
  rcases first_or (fun s => c s && (cnt c s == K)) N with ⟨s, h1, h2, h3⟩ | h
  · rw [Bool.and_eq_true, beq_iff_eq] at h2
    rw [kthI_at h1 h2.1 h2.2 h3]
    exact lfp2_for (F := F) (y := y (nI s)) s (fun k => nI (cnt c k)) (fun k => nI k) (fun k q r => by
      refine (hs k (by omega) _ (cnt_le c k) ?_ r).trans rfl
      have := h3 k q
      cases hc : c k with
      | false => exact Or.inl rfl
      | true => right; simpa [hc] using this) (fun r => by
      rw [h2.2]; exact hk s h1 h2.1 h2.2 r)
  · rw [kthI_no h]
    exact lfp2_for (F := F) (y := y (-1)) N (fun k => nI (cnt c k)) (fun k => nI k) (fun k q r => by
      refine (hs k q _ (cnt_le c k) ?_ r).trans rfl
      have := h k q
      cases hc : c k with
      | false => exact Or.inl rfl
      | true => right; simpa [hc] using this) (fun r => he _ r)
end
/-! rows filled from o on -/
def fillA (m : Nat → Int32) (o : Nat) (g : Nat → Int32) (t : Nat) : Nat → Int32 := fun i => if o ≤ i ∧ i < o + t then g (i - o) else m i
theorem fillA_0 (m : Nat → Int32) (o : Nat) (g : Nat → Int32) : fillA m o g 0 = m := funext fun i => if_neg (by omega)
theorem fillA_s (m : Nat → Int32) (o : Nat) (g : Nat → Int32) (t : Nat) : upd (fillA m o g t) (o + t) (g t) = fillA m o g (t + 1) := by
  funext i
  unfold upd fillA
  by_cases e : i = o + t
  · subst e; rw [if_pos rfl, if_pos (by omega), show o + t - o = t by omega]
  · rw [if_neg e]
    by_cases q : o ≤ i ∧ i < o + t
    · rw [if_pos q, if_pos (by omega)]
    · rw [if_neg q, if_neg (by omega)]
theorem fillA_in {m : Nat → Int32} {o : Nat} {g : Nat → Int32} {t i : Nat} (h1 : o ≤ i) (h2 : i < o + t) : fillA m o g t i = g (i - o) := if_pos ⟨h1, h2⟩
theorem fillA_out {m : Nat → Int32} {o : Nat} {g : Nat → Int32} {t i : Nat} (h : ¬ (o ≤ i ∧ i < o + t)) : fillA m o g t i = m i := if_neg h
theorem lfp2_fill {β : Type} {F : (Int32 → (Nat → Int32) → Option β) → Int32 → (Nat → Int32) → Option β} {y : Option β} (m : Nat → Int32) (o s0 N : Nat) (g : Nat → Int32) (hs : ∀ k, k < N → ∀ r, F r (nI (s0 + k)) (fillA m o g k) = r (nI (s0 + (k + 1))) (upd (fillA m o g k) (o + k) (g k))) (he : ∀ r, F r (nI (s0 + N)) (fillA m o g N) = y) : lfp2 F (nI s0) m = y := by
  have := lfp2_for (F := F) (y := y) N (fun k => nI (s0 + k)) (fun k => fillA m o g k) (fun k hk r => by rw [hs k hk, fillA_s]) he
  simp only [fillA_0] at this
  exact this
/-- what is fresh -/
def FR (m : Nat → Int32) (f : Nat → Bool) : Prop := ∀ s, s < 128 → m s = b01 (f s)
theorem X9_clearsFresh_eq (m : Nat → Int32) (x : Int32) : X9_clearsFresh m x = some (x, fillA m 0 (fun _ => 0) 128) := by
  unfold X9_clearsFresh
  refine lfp2_fill m 0 0 128 (fun _ => 0) (fun k hk r => ?_) (fun r => ?_)
  · unfold X9_clearsFresh_h7
    rw [Nat.zero_add, if_neg (show ¬ (128 : Int32) ≤ nI k from nI_ge (b := 128) hk (by decide)), gin_nI hk (by decide), nI_1, nI_clamp (by omega), vnz0]
    simp only [Nat.zero_add]
  · unfold X9_clearsFresh_h7
    rw [if_pos (by decide)]
theorem FR_clear (m : Nat → Int32) : FR (fillA m 0 (fun _ => 0) 128) (fun _ => false) := fun s hs => fillA_in (Nat.zero_le s) (by omega)
theorem X9_copiesFresh_eq {mnow : Nat → Int32} {j : Nat} {v : FV} (hj : j < 3) (hM : FamM mnow (129 * j) v) (m : Nat → Int32) : X9_copiesFresh mnow m (nI j) = some (nI v.1, fillA m 0 (fun s => b01 (v.2 s)) 128) := by
  unfold X9_copiesFresh
  rw [X9_points_eq hj hM, bd1_s]
  refine lfp2_fill m 0 0 128 (fun s => b01 (v.2 s)) (fun k hk r => ?_) (fun r => ?_)
  · unfold X9_copiesFresh_h11
    rw [Nat.zero_add, if_neg (show ¬ (128 : Int32) ≤ nI k from nI_ge (b := 128) hk (by decide)), X9_isIn_eq hj hM hk, bd1_s, gin_nI hk (by decide), nI_1, nI_clamp (by omega), vnz]
    simp only [Nat.zero_add]
  · unfold X9_copiesFresh_h11
    rw [if_pos (by decide)]
theorem FR_copy (m : Nat → Int32) (f : Nat → Bool) : FR (fillA m 0 (fun s => b01 (f s)) 128) f := fun s hs => fillA_in (Nat.zero_le s) (by omega)
theorem FR.set {m : Nat → Int32} {f : Nat → Bool} (h : FR m f) (t : Nat) (b : Bool) : FR (upd m t (b01 b)) (fun s => if s = t then b else f s) := by
  intro s hs
  show (if s = t then b01 b else m s) = b01 (if s = t then b else f s)
  by_cases e : s = t
  · rw [if_pos e, if_pos e]
  · rw [if_neg e, if_neg e, h s hs]
theorem FR.set1 {m : Nat → Int32} {f : Nat → Bool} (h : FR m f) (t : Nat) : FR (upd m t (vp_nar .boolean 1)) (fun s => f s || s == t) := by
  rw [vnz1]
  intro s hs
  show (if s = t then (1 : Int32) else m s) = _
  by_cases e : s = t
  · rw [if_pos e, e]; simp [b01]
  · rw [if_neg e, h s hs]
    show b01 (f s) = b01 (f s || s == t)
    rw [show (s == t) = false from beq_eq_false_iff_ne.mpr e, Bool.or_false]
theorem FR.congr {m : Nat → Int32} {f g : Nat → Bool} (h : FR m f) (e : ∀ s, s < 128 → f s = g s) : FR m g := fun s hs => by rw [h s hs, e s hs]
theorem X9_many_eq {mnow : Nat → Int32} {j : Nat} {v : FV} (hj : j < 3) (hM : FamM mnow (129 * j) v) : X9_many mnow (nI j) = some (nI (cnt v.2 128)) := by
  unfold X9_many
  have := lfp2_cnt (F := X9_many_h4 (nI j) mnow) v.2 128 0 (fun a => some (nI a)) (fun k hk a r => by
    unfold X9_many_h4
    rw [if_neg (show ¬ (128 : Int32) ≤ nI k from nI_ge (b := 128) hk (by decide)), X9_base_eq, bd1_s, nI_1, nI_add, gin_nI (by omega) (by decide), nI_clamp (by omega), hM.2 k hk, nI_b01, nI_1]) (fun a r => by
    unfold X9_many_h4
    rw [if_pos (by decide)])
  rw [Nat.zero_add] at this
  exact this
theorem X9_isFreshLike_eq {mnow m : Nat → Int32} {j n : Nat} {v : FV} {f : Nat → Bool} (hj : j < 3) (hM : FamM mnow (129 * j) v) (hv : v.1 ≤ 7) (hn : n ≤ 7) (hm : FR m f) : X9_isFreshLike (nI n) mnow m (nI j) = some (b01 (decide (v.1 = n) && allB (fun s => v.2 s == f s) 128)) := by
  unfold X9_isFreshLike
  have key : ∀ b : Bool, X9_isFreshLike_j17 mnow (nI j) m (b01 b) = some (b01 (b && allB (fun s => v.2 s == f s) 128)) := by
    intro b
    unfold X9_isFreshLike_j17
    exact lfp2_flag (F := X9_isFreshLike_h20 mnow (nI j) m) (fun s => v.2 s == f s) 128 (fun b => some (b01 b)) (fun k hk r => by
      unfold X9_isFreshLike_h20
      rw [if_neg (show ¬ (128 : Int32) ≤ nI k from nI_ge (b := 128) hk (by decide)), if_neg (by decide), X9_isIn_eq hj hM hk, bd1_s, gin_nI hk (by decide), nI_clamp (by omega), hm k hk, nI_1]
      cases v.2 k <;> cases f k <;> rfl) (fun k hk r => by
      unfold X9_isFreshLike_h20
      by_cases q : (128 : Int32) ≤ nI k
      · rw [if_pos q, gbo_0]; rfl
      · rw [if_neg q, if_pos rfl, gbo_0]; rfl) (fun r => by
      unfold X9_isFreshLike_h20
      rw [if_pos (by decide), gbo_1]; rfl) b
  rw [X9_points_eq hj hM, bd1_s]
  by_cases h : v.1 = n
  · rw [if_pos (by rw [h]), decide_eq_true h]; exact key true
  · rw [if_neg (fun q => h ((nI_eq (by omega) (by omega)).mp q)), decide_eq_false h]; exact key false
