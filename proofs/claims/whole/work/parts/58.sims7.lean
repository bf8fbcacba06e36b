/-! what a look tells -/
def mnI (M : Nat → Bool) : Nat → Int32
  | 0 => -1
  | k + 1 => if M k then (if mnI M k = -1 then nI (pc k) else imin (mnI M k) (nI (pc k))) else mnI M k
def lvP (M : Nat → Bool) (N : Nat) (x : Int32) : Prop := (x = -1 ∧ ∀ t, t < N → M t = false) ∨ ∃ l, x = nI l ∧ (∃ s, s < N ∧ M s = true ∧ pc s = l) ∧ ∀ t, t < N → M t = true → l ≤ pc t
theorem lvP_uniq {M : Nat → Bool} {N : Nat} {x y : Int32} (hx : lvP M N x) (hy : lvP M N y) : x = y := by
  rcases hx with ⟨rfl, h1⟩ | ⟨l, rfl, ⟨s, h1, h2, h3⟩, h4⟩ <;> rcases hy with ⟨rfl, g1⟩ | ⟨l', rfl, ⟨t, g1, g2, g3⟩, g4⟩
  · rfl
  · rw [h1 t g1] at g2; cases g2
  · rw [g1 s h1] at h2; cases h2
  · have a := h4 t g1 g2
    have b := g4 s h1 h2
    rw [show l = l' by omega]
theorem mn_lvP (M : Nat → Bool) (N : Nat) : lvP M N (mnI M N) := by
  induction N with
  | zero => exact Or.inl ⟨rfl, fun t ht => by omega⟩
  | succ N ih =>
    have hpN := pc_le N
    show lvP M (N + 1) (if M N then (if mnI M N = -1 then nI (pc N) else imin (mnI M N) (nI (pc N))) else mnI M N)
    cases hM : M N with
    | false =>
      rw [if_neg (by decide)]
      rcases ih with ⟨h1, h2⟩ | ⟨l, h1, ⟨s, h2, h3, h4⟩, h5⟩
      · left
        refine ⟨h1, fun t ht => ?_⟩
        by_cases e : t = N
        · subst e; exact hM
        · exact h2 t (by omega)
      · right
        refine ⟨l, h1, ⟨s, by omega, h3, h4⟩, fun t ht hMt => ?_⟩
        have : t ≠ N := by rintro rfl; rw [hM] at hMt; cases hMt
        exact h5 t (by omega) hMt
    | true =>
      rw [if_pos rfl]
      right
      rcases ih with ⟨h1, h2⟩ | ⟨l, h1, ⟨s, h2, h3, h4⟩, h5⟩
      · refine ⟨pc N, by rw [h1, if_pos rfl], ⟨N, by omega, hM, rfl⟩, fun t ht hMt => ?_⟩
        by_cases e : t = N
        · subst e; exact Nat.le_refl _
        · rw [h2 t (by omega)] at hMt; cases hMt
      · have hps := pc_le s
        refine ⟨min l (pc N), by rw [h1, if_neg (ne_m1 (by omega)), imin_nI (by omega) (by omega)], ?_, fun t ht hMt => ?_⟩
        · by_cases q : pc N ≤ l
          · exact ⟨N, by omega, hM, by omega⟩
          · exact ⟨s, by omega, h3, by omega⟩
        · by_cases e : t = N
          · subst e; omega
          · have := h5 t (by omega) hMt; omega
theorem fst_lvP {M : Nat → Bool} {n : Nat} (hn : n ≤ 7) : lvP M (2 ^ n) (fstI (hasL M n) (n + 1)) := by
  rcases first_or (hasL M n) (n + 1) with ⟨l, h1, h2, h3⟩ | h
  · right
    obtain ⟨s, g1, g2, g3⟩ := hasL_iff.mp h2
    refine ⟨l, fstI_at h1 h2 h3, ⟨s, g1, g3, g2⟩, fun t ht hM => ?_⟩
    by_cases q : l ≤ pc t
    · exact q
    · have := h3 (pc t) (by omega)
      rw [hasL_iff.mpr ⟨t, ht, rfl, hM⟩] at this; cases this
  · left
    refine ⟨fstI_no h, fun t ht => ?_⟩
    cases hM : M t with
    | false => rfl
    | true =>
      have := h (pc t) (by have := pc_n n hn t ht; omega)
      rw [hasL_iff.mpr ⟨t, ht, rfl, hM⟩] at this; cases this
theorem lvP.cut {M : Nat → Bool} {n : Nat} {x : Int32} (hn : n ≤ 7) (hi : inN n M) (h : lvP M 128 x) : lvP M (2 ^ n) x := by
  have := pow_le7 hn
  rcases h with ⟨h1, h2⟩ | ⟨l, h1, ⟨s, h2, h3, h4⟩, h5⟩
  · exact Or.inl ⟨h1, fun t ht => h2 t (by omega)⟩
  · exact Or.inr ⟨l, h1, ⟨s, hi s h3, h3, h4⟩, fun t ht => h5 t (by omega)⟩
theorem maxP.cut {M : Nat → Bool} {n : Nat} {x : Int32} (hn : n ≤ 7) (hi : inN n M) (h : maxP M 128 x) : maxP M (2 ^ n) x := by
  have := pow_le7 hn
  rcases h with ⟨h1, h2⟩ | ⟨l, h1, ⟨s, h2, h3, h4⟩, h5⟩
  · exact Or.inl ⟨h1, fun t ht => h2 t (by omega)⟩
  · exact Or.inr ⟨l, h1, ⟨s, hi s h3, h3, h4⟩, fun t ht => h5 t (by omega)⟩
def orN (M : Nat → Bool) : Nat → Nat
  | 0 => 0
  | k + 1 => if M k then orN M k ||| k else orN M k
def anN (a : Nat) (M : Nat → Bool) : Nat → Nat
  | 0 => a
  | k + 1 => if M k then anN a M k &&& k else anN a M k
def apN (M : Nat → Bool) : Nat → Nat
  | 0 => 0
  | k + 1 => apN M k + (if M k then cnt (fun t => M t && (k &&& t == 0)) k else 0)
theorem orN_bit {M : Nat → Bool} {p : Nat} : ∀ N, (orN M N).testBit p = true ↔ ∃ s, s < N ∧ M s = true ∧ s.testBit p = true := by
  intro N
  induction N with
  | zero => exact ⟨(fun h => by rw [show orN M 0 = 0 from rfl, Nat.zero_testBit] at h; cases h), (fun ⟨s, h, _⟩ => by omega)⟩
  | succ N ih =>
    show (if M N then orN M N ||| N else orN M N).testBit p = true ↔ _
    cases hM : M N with
    | true =>
      rw [if_pos rfl, Nat.testBit_or, Bool.or_eq_true, ih]
      constructor
      · rintro (⟨s, h1, h2⟩ | h)
        · exact ⟨s, by omega, h2⟩
        · exact ⟨N, by omega, hM, h⟩
      · rintro ⟨s, h1, h2, h3⟩
        by_cases e : s = N
        · subst e; exact Or.inr h3
        · exact Or.inl ⟨s, by omega, h2, h3⟩
    | false =>
      rw [if_neg (by decide), ih]
      constructor
      · rintro ⟨s, h1, h2⟩; exact ⟨s, by omega, h2⟩
      · rintro ⟨s, h1, h2, h3⟩
        have : s ≠ N := by rintro rfl; rw [hM] at h2; cases h2
        exact ⟨s, by omega, h2, h3⟩
theorem anN_bit {a : Nat} {M : Nat → Bool} {p : Nat} : ∀ N, (anN a M N).testBit p = true ↔ a.testBit p = true ∧ ∀ s, s < N → M s = true → s.testBit p = true := by
  intro N
  induction N with
  | zero => exact ⟨(fun h => ⟨h, fun s hs => by omega⟩), (fun h => h.1)⟩
  | succ N ih =>
    show (if M N then anN a M N &&& N else anN a M N).testBit p = true ↔ _
    cases hM : M N with
    | true =>
      rw [if_pos rfl, Nat.testBit_and, Bool.and_eq_true, ih]
      constructor
      · rintro ⟨⟨h1, h2⟩, h3⟩
        refine ⟨h1, fun s hs hMs => ?_⟩
        by_cases e : s = N
        · subst e; exact h3
        · exact h2 s (by omega) hMs
      · rintro ⟨h1, h2⟩; exact ⟨⟨h1, fun s hs => h2 s (by omega)⟩, h2 N (by omega) hM⟩
    | false =>
      rw [if_neg (by decide), ih]
      constructor
      · rintro ⟨h1, h2⟩
        refine ⟨h1, fun s hs hMs => ?_⟩
        have : s ≠ N := by rintro rfl; rw [hM] at hMs; cases hMs
        exact h2 s (by omega) hMs
      · rintro ⟨h1, h2⟩; exact ⟨h1, fun s hs => h2 s (by omega)⟩
theorem cnt_pos {c : Nat → Bool} {n : Nat} : 0 < cnt c n ↔ ∃ k, k < n ∧ c k = true := by
  constructor
  · intro h
    obtain ⟨s, h1, _, h2, _⟩ := kthI_ex h
    exact ⟨s, h1, h2⟩
  · rintro ⟨k, h1, h2⟩
    have := cnt_lt h1 h2; omega
theorem some_eq {n : Nat} {M : Nat → Bool} (hn : n ≤ 7) (hi : inN n M) : nb (fun p => decide (0 < cnt (fun s => M s && s.testBit p) 128)) n = orN M 128 := by
  apply Nat.eq_of_testBit_eq
  intro p
  apply Bool.eq_iff_iff.mpr
  rw [nb_bit, Bool.and_eq_true, decide_eq_true_eq, decide_eq_true_eq, cnt_pos, orN_bit]
  constructor
  · rintro ⟨h1, s, h2, h3⟩
    rw [Bool.and_eq_true] at h3
    exact ⟨s, h2, h3⟩
  · rintro ⟨s, h1, h2, h3⟩
    refine ⟨?_, s, h1, by rw [h2, h3]; rfl⟩
    by_cases q : p < n
    · exact q
    · rw [Nat.testBit_lt_two_pow (Nat.lt_of_lt_of_le (hi s h2) (Nat.pow_le_pow_right (by decide : 2 > 0) (by omega : n ≤ p)))] at h3; cases h3
theorem all_eq {n : Nat} {M : Nat → Bool} (hn : n ≤ 7) : nb (fun p => decide (cnt (fun s => M s && s.testBit p) 128 = cnt M 128)) n = anN (2 ^ n - 1) M 128 := by
  apply Nat.eq_of_testBit_eq
  intro p
  apply Bool.eq_iff_iff.mpr
  have h := cnt_sub_eq (a := fun s => M s && s.testBit p) (b := M) (N := 128) (fun t _ h => by rw [Bool.and_eq_true] at h; exact h.1)
  rw [nb_bit, Bool.and_eq_true, decide_eq_true_eq, decide_eq_true_eq, h.2, anN_bit, Nat.testBit_two_pow_sub_one, decide_eq_true_eq]
  constructor
  · rintro ⟨h1, h2⟩
    refine ⟨h1, fun s hs hM => ?_⟩
    have := h2 s hs hM
    rw [Bool.and_eq_true] at this
    exact this.2
  · rintro ⟨h1, h2⟩
    exact ⟨h1, fun s hs hM => by rw [hM, h2 s hs hM]; rfl⟩
/-- sums -/
def sm (g : Nat → Nat) : Nat → Nat
  | 0 => 0
  | n + 1 => sm g n + g n
theorem sm_congr {g h : Nat → Nat} {n : Nat} (e : ∀ k, k < n → g k = h k) : sm g n = sm h n := by
  induction n with
  | zero => rfl
  | succ n ih => show sm g n + g n = sm h n + h n; rw [ih (fun k hk => e k (by omega)), e n (by omega)]
theorem sm_add (g h : Nat → Nat) (n : Nat) : sm (fun k => g k + h k) n = sm g n + sm h n := by
  induction n with
  | zero => rfl
  | succ n ih => show sm (fun k => g k + h k) n + (g n + h n) = (sm g n + g n) + (sm h n + h n); rw [ih]; omega
theorem sm_cnt (c : Nat → Bool) (n : Nat) : sm (fun k => if c k = true then 1 else 0) n = cnt c n := by
  induction n with
  | zero => rfl
  | succ n ih => show sm (fun k => if c k = true then 1 else 0) n + _ = cnt c n + _; rw [ih]
theorem sm_swap (R : Nat → Nat → Bool) (N M : Nat) : sm (fun a => cnt (fun b => R a b) M) N = sm (fun b => cnt (fun a => R a b) N) M := by
  induction N with
  | zero =>
    show 0 = sm (fun b => cnt (fun a => R a b) 0) M
    induction M with
    | zero => rfl
    | succ M ih => show 0 = sm (fun b => cnt (fun a => R a b) 0) M + 0; rw [← ih]
  | succ N ih =>
    show sm (fun a => cnt (fun b => R a b) M) N + cnt (fun b => R N b) M = sm (fun b => cnt (fun a => R a b) N + (if R N b = true then 1 else 0)) M
    rw [sm_add, ih, sm_cnt]
theorem apN_eq (M : Nat → Bool) : apN M 128 = cnt (apC M) 16384 := by
  have h1 : ∀ N, cnt (apC M) (N * 128) = sm (fun a => cnt (fun t => M a && apR M a t) 128) N := by
    intro N
    induction N with
    | zero => rfl
    | succ N ih =>
      rw [show (N + 1) * 128 = N * 128 + 128 by omega, cnt_add, ih]
      exact congrArg (fun z => sm (fun a => cnt (fun t => M a && apR M a t) 128) N + z) (cnt_congr fun t ht => apC_row ht)
  have h2 : ∀ N, N ≤ 128 → apN M N = sm (fun b => cnt (fun a => M a && apR M a b) 128) N := by
    intro N
    induction N with
    | zero => intro _; rfl
    | succ N ih =>
      intro hN
      have hz : (if M N = true then cnt (fun t => M t && (N &&& t == 0)) N else 0) = cnt (fun a => M a && apR M a N) 128 := ?_
      · exact (congrArg (fun z => z + (if M N = true then cnt (fun t => M t && (N &&& t == 0)) N else 0)) (ih (by omega))).trans (congrArg (fun z => sm (fun b => cnt (fun a => M a && apR M a b) 128) N + z) hz)
      rw [cnt_cut (m := N) (n := 128) (by omega) (fun a _ h => by
        unfold apR at h
        rw [Bool.and_eq_true, Bool.and_eq_true, Bool.and_eq_true, decide_eq_true_eq] at h
        exact h.2.2.1)]
      cases hM : M N with
      | true =>
        rw [if_pos rfl]
        refine cnt_congr fun t ht => ?_
        unfold apR
        rw [hM, Bool.true_and, decide_eq_true ht, Bool.true_and, Nat.and_comm]
      | false =>
        rw [if_neg (by decide)]
        refine (cnt_false fun t ht => ?_).symm
        unfold apR
        rw [hM, Bool.false_and, Bool.and_false]
  rw [show 16384 = 128 * 128 from rfl, h1 128, h2 128 (Nat.le_refl _), sm_swap (fun a t => M a && apR M a t) 128 128]
/-- what look tells of the sets M -/
def lookI (n : Nat) (M : Nat → Bool) (k : Nat) : Int32 :=
  if k = 0 then nI n else if k = 1 then nI (cnt M 128) else if k = 2 then mnI M 128 else if k = 3 then mxI M 128 else if k = 4 then nI (orN M 128) else if k = 5 then nI (anN (2 ^ n - 1) M 128) else nI (apN M 128)
theorem measure_V {cP : Nat → Int32} {V : Nat → Nat → Bool} {j n k : Nat} (hj : j ≠ 3) (hP : cP j = nI n) (hn : n ≤ 7) (hi : inN n (V j)) (hk : k ≤ 6) : ∃ x g, X8_measure cP (LO V) (HI V) j (nI k) = some (lookI n (V j) k, va_up cP 3 x, LO (va_up V 3 g), HI (va_up V 3 g)) := by
  have e3 : ∀ v : Int32, (some (v, cP, LO V, HI V) : Option (Int32 × (Nat → Int32) × (Nat → Int64) × (Nat → Int64))) = some (v, va_up cP 3 (cP 3), LO (va_up V 3 (V 3)), HI (va_up V 3 (V 3))) := fun v => by rw [up_self, up_self]
  unfold X8_measure lookI
  rcases (show k = 0 ∨ k = 1 ∨ k = 2 ∨ k = 3 ∨ k = 4 ∨ k = 5 ∨ k = 6 by omega) with rfl | rfl | rfl | rfl | rfl | rfl | rfl
  · rw [if_pos (by decide), hP]; exact ⟨_, _, e3 _⟩
  · rw [if_neg (by decide), if_pos (by decide), size_V, bd1_s]; exact ⟨_, _, e3 _⟩
  · rw [if_neg (by decide), if_neg (by decide), if_pos (by decide), leastLevel_V hP hn, bd1_s, lvP_uniq (fst_lvP hn) ((mn_lvP (V j) 128).cut hn hi)]; exact ⟨_, _, e3 _⟩
  · rw [if_neg (by decide), if_neg (by decide), if_neg (by decide), if_pos (by decide), greatestLevel_V hP hn, bd1_s, maxP_uniq (lst_maxP hn) ((mx_maxP (V j) 128).cut hn hi)]; exact ⟨_, _, e3 _⟩
  · rw [if_neg (by decide), if_neg (by decide), if_neg (by decide), if_neg (by decide), if_pos (by decide), pointsOfSome_V hP hn, bd1_s, some_eq hn hi]; exact ⟨_, _, e3 _⟩
  · rw [if_neg (by decide), if_neg (by decide), if_neg (by decide), if_neg (by decide), if_neg (by decide), if_pos (by decide), pointsOfAll_V hP hn, bd1_s, all_eq hn]; exact ⟨_, _, e3 _⟩
  · rw [if_neg (by decide), if_neg (by decide), if_neg (by decide), if_neg (by decide), if_neg (by decide), if_neg (by decide)]
    obtain ⟨v, x, g, h1, h2⟩ := findApart_V (cP := cP) (V := V) hj hP hn hi (p := -1) (Or.inl rfl)
    rw [h1, bd4_s]
    have : v = nI (cnt (apC (V j)) 16384) := SpecI_uniq (by decide) h2 (Or.inr ⟨fun x hx => noHit1 (by omega), by rw [if_pos rfl]⟩)
    rw [this, ← apN_eq]
    exact ⟨x, g, rfl⟩
theorem looked_9 {mnow : Nat → Int32} {j n k : Nat} {M : Nat → Bool} {but : Int32} (hj : j < 3) (hn : n ≤ 7) (hp : X9_points mnow (nI j) = some (nI n)) (hB : ∀ s, s < 128 → X9_isBut mnow (nI j) (nI s) but = some (b01 (M s))) (hk : k ≤ 6) : X9_looked mnow (nI j) (nI k) but = some (lookI n M k) := by
  have hpn := Nat.two_pow_pos n
  unfold X9_looked
  rw [hp, bd1_s, shl1 _ (by omega), show nI (2 ^ n) - (1 : Int32) = nI (2 ^ n - 1) from pk_sub (b := 1) hpn]
  exact lfp7_for (F := X9_looked_h29 (nI k) mnow (nI j) but) (y := some (lookI n M k)) 128 (fun s => nI (cnt M s)) (fun s => mnI M s) (fun s => mxI M s) (fun s => nI (orN M s)) (fun s => nI (anN (2 ^ n - 1) M s)) (fun s => nI (apN M s)) (fun s => nI s) (fun s hs r => by
    unfold X9_looked_h29
    rw [if_neg (inn128 hs), hB s hs, bd1_s]
    have key : ∀ y, X9_looked_j78 (nI s) r (nI (cnt M s)) (mxI M s) (nI (orN M s)) (nI (anN (2 ^ n - 1) M s)) mnow (nI j) but (nI (apN M s)) y = r (nI (cnt M s + 1)) y (imax (mxI M s) (nI (pc s))) (nI (orN M s ||| s)) (nI (anN (2 ^ n - 1) M s &&& s)) (nI (apN M s + cnt (fun t => M t && (s &&& t == 0)) s)) (nI (s + 1)) := by
      intro y
      unfold X9_looked_j78
      rw [X9_bits_eq hs, bd1_s]
      exact lfp2_cnt (F := X9_looked_h109 (nI s) r (nI (cnt M s)) y (mxI M s) (nI (pc s)) (nI (orN M s)) (nI (anN (2 ^ n - 1) M s)) mnow (nI j) but) (fun t => M t && (s &&& t == 0)) s (apN M s) (fun a => r (nI (cnt M s + 1)) y (imax (mxI M s) (nI (pc s))) (nI (orN M s ||| s)) (nI (anN (2 ^ n - 1) M s &&& s)) (nI a) (nI (s + 1))) (fun t ht a r2 => by
        have hst : s &&& t < 128 := and_128l hs
        unfold X9_looked_h109
        rw [if_neg (nI_ge ht (by omega)), hB t (by omega), bd1_s, ib0, land_nI', nI_1, nI_1, Int32.add_zero]
        cases M t with
        | false => rfl
        | true =>
          rw [if_pos rfl, Bool.true_and]
          by_cases e : s &&& t = 0
          · rw [if_pos (show nI (s &&& t) = 0 by rw [e]; rfl), show (s &&& t == 0) = true by simpa using e]; rfl
          · rw [if_neg (nI_ne0 (by omega) (by omega)), show (s &&& t == 0) = false by simpa using e]; rfl) (fun a r2 => by
        unfold X9_looked_h109
        rw [if_pos (nI_le (Nat.le_refl _) (by omega)), nI_1, nI_1, lor_nI', land_nI'])
    cases hM : M s with
    | false =>
      rw [bf0, nI_1]
      simp only [cnt_succ, mnI, mxI, orN, anN, apN, hM]; rfl
    | true =>
      rw [bt0, X9_bits_eq hs, bd1_s, bd1_s, key, key]
      simp only [cnt_succ, mnI, mxI, orN, anN, apN, hM, if_true]
      by_cases q : mnI M s = -1
      · rw [if_pos q, if_pos q]
      · rw [if_neg q, if_neg q]) (fun r => by
    unfold X9_looked_h29 lookI
    rw [if_pos i128, hp, bd1_s]
    rcases (show k = 0 ∨ k = 1 ∨ k = 2 ∨ k = 3 ∨ k = 4 ∨ k = 5 ∨ k = 6 by omega) with rfl | rfl | rfl | rfl | rfl | rfl | rfl <;> rfl)
theorem isBut_m1 {mnow : Nat → Int32} {j n : Nat} {f : Nat → Bool} (hj : j < 3) (hM : FamM mnow (129 * j) (n, f)) : ∀ s, s < 128 → X9_isBut mnow (nI j) (nI s) (-1) = some (b01 (f s)) := fun s hs => by
  unfold X9_isBut
  rw [if_neg (ne_m1 (by omega)), isIn9 hj hM hs, bd1_s]
  cases f s <;> rfl
theorem isBut_s {mnow : Nat → Int32} {j n m : Nat} {f : Nat → Bool} (hj : j < 3) (hM : FamM mnow (129 * j) (n, f)) (hm : m < 128) : ∀ s, s < 128 → X9_isBut mnow (nI j) (nI s) (nI m) = some (b01 (f s && !(s == m))) := fun s hs => by
  unfold X9_isBut
  by_cases e : s = m
  · subst e; rw [if_pos rfl]; simp [b01]
  · rw [if_neg (fun q => e ((nI_eq (by omega) (by omega)).mp q)), isIn9 hj hM hs, bd1_s, show (s == m) = false by simpa using e]
    cases f s <;> rfl
theorem lookable_in {k : Nat} (h : k ≤ 6) : X8_isLookable (nI k) = some 1 := by
  unfold X8_isLookable
  rw [if_neg (nI_pos (by omega)), if_neg (show ¬ (6 : Int32) < nI k from nI_nlt (a := 6) h (by decide))]
theorem lookable_out {p : Int32} (h : ¬ (((0 : Nat) : Int) ≤ p.toInt ∧ p.toInt ≤ ((6 : Nat) : Int))) : X8_isLookable p = some 0 := by
  unfold X8_isLookable
  exact outB h rfl rfl
section SIM
variable {cP : Nat → Int32} {cLo : Nat → Int64} {cHi : Nat → Int64} {cpl : Nat → Int32} {ctb : Nat → Int32} {ctl : Int32} {ctf : Int32} {ctp : Int32} {ctk : Int32} {cts : Int32} {cth : Int32} {cob : Nat → Int32} {col : Int32} {cso : Nat → Int32} {cha : Int32} {chs : Int32} {cbe : Int32} {ctr : Int32} {cgl : Nat → Int64} {cgh : Nat → Int64} {cll : Nat → Int64} {clh : Nat → Int64} {cta : Nat → Int32} {cme : Nat → Int32} {cps : Int32} {cwh : Nat → Int32} {cal : Nat → Int64} {cah : Nat → Int64} {mthr : Int32} {mfrp : Int32} {mact : Int32} {mtpd : Int32} {msiz : Int32} {matx : Int32} {mfrm : Int32} {mtok : Int32} {mval : Int32} {mfk : Int32} {mfpl : Int32} {mbem : Int32} {mtrs : Int32} {mtrl : Int32} {mrom : Int32} {mtom : Int32} {mnow : Nat → Int32} {mfre : Nat → Int32} {mkep : Nat → Int32} {mtap : Nat → Int32} {mlef : Nat → Int32} {mtak : Nat → Int32} {mbes : Nat → Int32} {mrow : Nat → Int32} {mint : Nat → Int32} {mrnd : Nat → Int32} {mplo : Nat → Int32} {mhio : Nat → Int32} {mtox : Nat → Int32} {mtol : Nat → Int32}
theorem sim_look {p1 p2 : Int32} (hr : Rel cP cLo cHi ctb ctl ctf ctp cob col cso cha chs mact mtpd mfk mfpl mtom mnow mkep mtap mtol) : ∃ (r : Int32) (ocP : Nat → Int32) (ocLo : Nat → Int64) (ocHi : Nat → Int64), X8_look cP cLo cHi p1 p2 = some (r, ocP, ocLo, ocHi) ∧ X9_look mnow p1 p2 = some r ∧ Rel ocP ocLo ocHi ctb ctl ctf ctp cob col cso cha chs mact mtpd mfk mfpl mtom mnow mkep mtap mtol := by
  obtain ⟨V, rfl, rfl, hV⟩ := toV cLo cHi
  unfold X8_look X9_look
  rcases famcase hV hr p1 with ⟨j, n, hj, rfl, h0, hn, hi, hP, hM, e1, e2⟩ | ⟨e1, e2⟩
  · rw [e1, bdo_s, e2, bd1_s, i10, X9_in_n (a := 0) (b := 6) (by decide) (by decide) rfl rfl, bd1_s]
    rcases in_cases (p := p2) 0 6 (by decide) with ⟨k, _, hk, rfl⟩ | h
    · obtain ⟨x, g, hm⟩ := measure_V (cP := cP) (V := V) (by omega) hP hn hi hk
      rw [lookable_in hk, bd1_s, i10, hm, bd4_s, nI_toInt (by omega), decide_eq_true (by omega), bt0, looked_9 hj hn (points9 hj hM) (isBut_m1 hj hM) hk, bd1_s]
      exact ⟨_, _, _, _, rfl, rfl, keep3 hr _ _⟩
    · rw [lookable_out h, bd1_s, i00, decide_eq_false h, bf0]
      exact ⟨_, _, _, _, rfl, rfl, hr⟩
  · rw [e1, bdo_n, e2, bd1_s, i00]
    exact ⟨_, _, _, _, rfl, rfl, hr⟩
theorem sim_without {p1 p2 p3 : Int32} (hr : Rel cP cLo cHi ctb ctl ctf ctp cob col cso cha chs mact mtpd mfk mfpl mtom mnow mkep mtap mtol) : ∃ (r : Int32) (ocP : Nat → Int32) (ocLo : Nat → Int64) (ocHi : Nat → Int64), X8_without cP cLo cHi p1 p2 p3 = some (r, ocP, ocLo, ocHi) ∧ X9_without mnow p1 p2 p3 = some r ∧ Rel ocP ocLo ocHi ctb ctl ctf ctp cob col cso cha chs mact mtpd mfk mfpl mtom mnow mkep mtap mtol := by
  obtain ⟨V, rfl, rfl, hV⟩ := toV cLo cHi
  unfold X8_without X9_without
  rcases famcase hV hr p1 with ⟨j, n, hj, rfl, h0, hn, hi, hP, hM, e1, e2⟩ | ⟨e1, e2⟩
  · rw [e1, bdo_s, isSet9 hj hM hn h0, bd1_s, X0_knows_eq hP hn, bd1_s]
    by_cases q : 0 ≤ p2.toInt ∧ p2.toInt < (2 : Int) ^ n
    · obtain ⟨m, hm1, hm2, rfl⟩ := set_of hn q
      rw [decide_eq_true q, bt0, bt0, X9_in_n (a := 0) (b := 6) (by decide) (by decide) rfl rfl, bd1_s]
      rcases in_cases (p := p3) 0 6 (by decide) with ⟨k, _, hk, rfl⟩ | h
      · rw [lookable_in hk, bd1_s, i10, nI_toInt (by omega), decide_eq_true (by omega), bt0, holds_V hm2, bd1_s, isIn9 hj hM hm2, bd1_s]
        cases hb : V j m with
        | false => rw [bf0, bf0]; exact ⟨_, _, _, _, rfl, rfl, hr⟩
        | true =>
          obtain ⟨x, g, hms⟩ := measure_V (cP := va_up cP 4 (cP j)) (V := va_up V 4 (fun t => V j t && !(t == m))) (j := 4) (n := n) (by decide) (by rw [up_at]; exact hP) hn (by
            rw [up_at]
            intro t ht
            rw [Bool.and_eq_true] at ht
            exact hi t ht.1) hk
          rw [bt0, bt0, become_V, bd3_s, remove_V hm2, bd2_s]
          simp only [up_at, bx_uu] at hms ⊢
          rw [hms, bd4_s, looked_9 hj hn (points9 hj hM) (isBut_s hj hM hm2) hk, bd1_s]
          exact ⟨_, _, _, _, rfl, rfl, hr.keep ((((Keeps.rfl'.up 4 (by omega) _).up 3 (by omega) _).upP 4 (by omega) _).upP 3 (by omega) _)⟩
      · rw [lookable_out h, bd1_s, i00, decide_eq_false h, bf0]
        exact ⟨_, _, _, _, rfl, rfl, hr⟩
    · rw [decide_eq_false q, bf0, bf0]
      exact ⟨_, _, _, _, rfl, rfl, hr⟩
  · rw [e1, bdo_n, X9_isSet_out e2, bd1_s, i00]
    exact ⟨_, _, _, _, rfl, rfl, hr⟩
end SIM
