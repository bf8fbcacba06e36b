/-! the least by level, the greatest level -/
def minP (M : Nat → Bool) (N : Nat) (x : Int32) : Prop := (x = -1 ∧ ∀ t, t < N → M t = false) ∨ ∃ s, s < N ∧ x = nI s ∧ M s = true ∧ ∀ t, t < N → M t = true → pc s < pc t ∨ (pc s = pc t ∧ s ≤ t)
theorem minP_uniq {M : Nat → Bool} {N : Nat} {x y : Int32} (hx : minP M N x) (hy : minP M N y) : x = y := by
  rcases hx with ⟨rfl, h1⟩ | ⟨s, h1, rfl, h2, h3⟩ <;> rcases hy with ⟨rfl, g1⟩ | ⟨t, g1, rfl, g2, g3⟩
  · rfl
  · rw [h1 t g1] at g2; cases g2
  · rw [g1 s h1] at h2; cases h2
  · have a := h3 t g1 g2
    have b := g3 s h1 h2
    rw [show s = t by omega]
theorem cover_minP {M : Nat → Bool} {n : Nat} (hn : n ≤ 7) (hN : ∀ s, s < 2 ^ n → pc s ≤ n) : (∃ l, l ≤ n ∧ fstI (hasL M n) (n + 1) = nI l ∧ minP M (2 ^ n) (fstI (fun s => (pc s == l) && M s) (2 ^ n))) ∨ (fstI (hasL M n) (n + 1) = -1 ∧ ∀ t, t < 2 ^ n → M t = false) := by
  rcases first_or (hasL M n) (n + 1) with ⟨l, h1, h2, h3⟩ | h
  · left
    refine ⟨l, by omega, fstI_at h1 h2 h3, ?_⟩
    right
    obtain ⟨s0, g1, g2, g3⟩ := hasL_iff.mp h2
    rcases first_or (fun s => (pc s == l) && M s) (2 ^ n) with ⟨s, k1, k2, k3⟩ | h
    · have k2' := k2
      rw [Bool.and_eq_true, beq_iff_eq] at k2
      refine ⟨s, k1, fstI_at k1 k2' k3, k2.2, fun t ht hM => ?_⟩
      have hl : l ≤ pc t := by
        by_cases q : l ≤ pc t
        · exact q
        · have := h3 (pc t) (by omega)
          rw [hasL_iff.mpr ⟨t, ht, rfl, hM⟩] at this; cases this
      rw [k2.1]
      by_cases q : pc t = l
      · right
        refine ⟨q.symm, ?_⟩
        by_cases w : s ≤ t
        · exact w
        · have := k3 t (by omega)
          rw [show (pc t == l) = true by simpa using q, hM] at this; cases this
      · left; omega
    · have := h s0 g1
      rw [show (pc s0 == l) = true by simpa using g2, g3] at this; cases this
  · right
    refine ⟨fstI_no h, fun t ht => ?_⟩
    cases hM : M t with
    | false => rfl
    | true =>
      have := h (pc t) (by have := hN t ht; omega)
      rw [hasL_iff.mpr ⟨t, ht, rfl, hM⟩] at this; cases this
theorem pc_n : ∀ n, n ≤ 7 → ∀ s, s < 2 ^ n → pc s ≤ n := by decide +kernel
def fdv (M : Nat → Bool) : Nat → Option Nat
  | 0 => none
  | k + 1 => if M k && (match fdv M k with | none => true | some s => decide (pc k < pc s)) then some k else fdv M k
def oI : Option Nat → Int32
  | none => -1
  | some s => nI s
def minO (M : Nat → Bool) (N : Nat) (o : Option Nat) : Prop := (o = none ∧ ∀ t, t < N → M t = false) ∨ ∃ s, s < N ∧ o = some s ∧ M s = true ∧ ∀ t, t < N → M t = true → pc s < pc t ∨ (pc s = pc t ∧ s ≤ t)
theorem minO.toP {M : Nat → Bool} {N : Nat} {o : Option Nat} (h : minO M N o) : minP M N (oI o) := by
  rcases h with ⟨rfl, h⟩ | ⟨s, h1, rfl, h2⟩
  · exact Or.inl ⟨rfl, h⟩
  · exact Or.inr ⟨s, h1, rfl, h2⟩
theorem fdv_minO (M : Nat → Bool) (N : Nat) : minO M N (fdv M N) := by
  induction N with
  | zero => exact Or.inl ⟨rfl, fun t ht => by omega⟩
  | succ N ih =>
    have keep : (M N = false ∨ ∃ s, fdv M N = some s ∧ pc s ≤ pc N) → minO M (N + 1) (fdv M N) := by
      intro hk
      rcases ih with ⟨h1, h2⟩ | ⟨s, h1, h2, h3, h4⟩
      · left
        refine ⟨h1, fun t ht => ?_⟩
        by_cases e : t = N
        · subst e
          rcases hk with hk | ⟨s, hk, _⟩
          · exact hk
          · rw [h1] at hk; cases hk
        · exact h2 t (by omega)
      · right
        refine ⟨s, by omega, h2, h3, fun t ht hMt => ?_⟩
        by_cases e : t = N
        · subst e
          rcases hk with hk | ⟨s', hk, hle⟩
          · rw [hk] at hMt; cases hMt
          · rw [h2] at hk; cases hk
            by_cases q : pc s = pc t
            · exact Or.inr ⟨q, by omega⟩
            · exact Or.inl (by omega)
        · exact h4 t (by omega) hMt
    have take : M N = true → (fdv M N = none ∨ ∃ s, fdv M N = some s ∧ pc N < pc s) → minO M (N + 1) (some N) := by
      intro hM hk
      right
      refine ⟨N, by omega, rfl, hM, fun t ht hMt => ?_⟩
      by_cases e : t = N
      · subst e; exact Or.inr ⟨rfl, Nat.le_refl _⟩
      · rcases ih with ⟨h1, h2⟩ | ⟨s, h1, h2, h3, h4⟩
        · rw [h2 t (by omega)] at hMt; cases hMt
        · rcases hk with hk | ⟨s', hk, hlt⟩
          · rw [h2] at hk; cases hk
          · rw [h2] at hk; cases hk
            have := h4 t (by omega) hMt
            left; omega
    show minO M (N + 1) (if M N && (match fdv M N with | none => true | some s => decide (pc N < pc s)) then some N else fdv M N)
    cases hM : M N with
    | false => rw [Bool.false_and, if_neg (by decide)]; exact keep (Or.inl hM)
    | true =>
      rw [Bool.true_and]
      cases hf : fdv M N with
      | none => exact take hM (Or.inl hf)
      | some s =>
        show minO M (N + 1) (if decide (pc N < pc s) = true then some N else some s)
        by_cases q : pc N < pc s
        · rw [decide_eq_true q, if_pos rfl]; exact take hM (Or.inr ⟨s, hf, q⟩)
        · rw [decide_eq_false q, if_neg (by decide), ← hf]; exact keep (Or.inr ⟨s, hf, by omega⟩)
def maxP (M : Nat → Bool) (N : Nat) (x : Int32) : Prop := (x = -1 ∧ ∀ t, t < N → M t = false) ∨ ∃ l, x = nI l ∧ (∃ s, s < N ∧ M s = true ∧ pc s = l) ∧ ∀ t, t < N → M t = true → pc t ≤ l
theorem maxP_uniq {M : Nat → Bool} {N : Nat} {x y : Int32} (hx : maxP M N x) (hy : maxP M N y) : x = y := by
  rcases hx with ⟨rfl, h1⟩ | ⟨l, rfl, ⟨s, h1, h2, h3⟩, h4⟩ <;> rcases hy with ⟨rfl, g1⟩ | ⟨l', rfl, ⟨t, g1, g2, g3⟩, g4⟩
  · rfl
  · rw [h1 t g1] at g2; cases g2
  · rw [g1 s h1] at h2; cases h2
  · have a := h4 t g1 g2
    have b := g4 s h1 h2
    rw [show l = l' by omega]
theorem lst_maxP {M : Nat → Bool} {n : Nat} (hn : n ≤ 7) : maxP M (2 ^ n) (lstI (hasL M n) (n + 1)) := by
  have h : ∀ k, (lstI (hasL M n) k = -1 ∧ ∀ l, l < k → hasL M n l = false) ∨ ∃ l, l < k ∧ lstI (hasL M n) k = nI l ∧ hasL M n l = true ∧ ∀ l', l < l' → l' < k → hasL M n l' = false := by
    intro k
    induction k with
    | zero => exact Or.inl ⟨rfl, fun l hl => by omega⟩
    | succ k ih =>
      show (((if hasL M n k then nI k else lstI (hasL M n) k) = -1) ∧ _) ∨ ∃ l, _ ∧ (if hasL M n k then nI k else lstI (hasL M n) k) = nI l ∧ _
      cases hk : hasL M n k with
      | true => rw [if_pos rfl]; right; exact ⟨k, by omega, rfl, hk, fun l' h1 h2 => by omega⟩
      | false =>
        rw [if_neg (by decide)]
        rcases ih with ⟨h1, h2⟩ | ⟨l, h1, h2, h3, h4⟩
        · left
          refine ⟨h1, fun l hl => ?_⟩
          by_cases e : l = k
          · subst e; exact hk
          · exact h2 l (by omega)
        · right
          refine ⟨l, by omega, h2, h3, fun l' q1 q2 => ?_⟩
          by_cases e : l' = k
          · subst e; exact hk
          · exact h4 l' q1 (by omega)
  rcases h (n + 1) with ⟨h1, h2⟩ | ⟨l, h1, h2, h3, h4⟩
  · left
    refine ⟨h1, fun t ht => ?_⟩
    cases hM : M t with
    | false => rfl
    | true =>
      have := h2 (pc t) (by have := pc_n n hn t ht; omega)
      rw [hasL_iff.mpr ⟨t, ht, rfl, hM⟩] at this; cases this
  · right
    obtain ⟨s, g1, g2, g3⟩ := hasL_iff.mp h3
    refine ⟨l, h2, ⟨s, g1, g3, g2⟩, fun t ht hM => ?_⟩
    by_cases q : pc t ≤ l
    · exact q
    · have := h4 (pc t) (by omega) (by have := pc_n n hn t ht; omega)
      rw [hasL_iff.mpr ⟨t, ht, rfl, hM⟩] at this; cases this
/-- the greatest level so far -/
def mxI (M : Nat → Bool) : Nat → Int32
  | 0 => -1
  | k + 1 => if M k then imax (mxI M k) (nI (pc k)) else mxI M k
theorem imax_m1 (k : Nat) (h : k < 2 ^ 31) : imax (-1) (nI k) = nI k := if_pos (i32_lt.mpr (by rw [nI_toInt h]; have : (-1 : Int32).toInt = -1 := rfl; omega))
theorem mx_maxP (M : Nat → Bool) (N : Nat) : maxP M N (mxI M N) := by
  induction N with
  | zero => exact Or.inl ⟨rfl, fun t ht => by omega⟩
  | succ N ih =>
    have hpN := pc_le N
    show maxP M (N + 1) (if M N then imax (mxI M N) (nI (pc N)) else mxI M N)
    cases hM : M N with
    | false =>
      rw [if_neg (by decide)]
      rcases ih with ⟨h1, h2⟩ | ⟨l, h1, ⟨s, h2, h3, h4⟩, h5⟩
      · left
        refine ⟨h1, fun t ht => ?_⟩
        by_cases e : t = N
        · subst e; exact hM
        · exact h2 t (by omega)
      · right
        refine ⟨l, h1, ⟨s, by omega, h3, h4⟩, fun t ht hMt => ?_⟩
        have : t ≠ N := by rintro rfl; rw [hM] at hMt; cases hMt
        exact h5 t (by omega) hMt
    | true =>
      rw [if_pos rfl]
      right
      rcases ih with ⟨h1, h2⟩ | ⟨l, h1, ⟨s, h2, h3, h4⟩, h5⟩
      · refine ⟨pc N, by rw [h1, imax_m1 _ (by omega)], ⟨N, by omega, hM, rfl⟩, fun t ht hMt => ?_⟩
        by_cases e : t = N
        · subst e; exact Nat.le_refl _
        · rw [h2 t (by omega)] at hMt; cases hMt
      · have hps := pc_le s
        refine ⟨max l (pc N), by rw [h1, imax_nI (by omega) (by omega)], ?_, fun t ht hMt => ?_⟩
        · by_cases q : l ≤ pc N
          · exact ⟨N, by omega, hM, by omega⟩
          · exact ⟨s, by omega, h3, by omega⟩
        · by_cases e : t = N
          · subst e; omega
          · have := h5 t (by omega) hMt; omega
theorem lfp2_any {β : Type} {F : (Int32 → Int32 → Option β) → Int32 → Int32 → Option β} (c : Nat → Bool) (N : Nat) (y : Bool → Option β) (hs : ∀ k, k < N → ∀ r, F r 0 (nI k) = r (b01 (c k)) (nI (k + 1))) (h1 : ∀ k, k ≤ N → ∀ r, F r 1 (nI k) = y true) (h0 : ∀ r, F r 0 (nI N) = y false) : lfp2 F 0 0 = y (!allB (fun k => !c k) N) := by
  rcases first_or c N with ⟨s, hs1, hs2, hs3⟩ | hall
  · rw [show allB (fun k => !c k) N = false from allB_ff.mpr ⟨s, hs1, by rw [hs2]; rfl⟩]
    have := lfp2_for (F := F) (y := y true) (s + 1) (fun k => b01 (decide (s < k))) (fun k => nI k) (fun k hk r => by
      rw [show decide (s < k) = false from decide_eq_false (by omega)]
      show F r 0 (nI k) = _
      rw [hs k (by omega)]
      by_cases e : k = s
      · subst e; rw [hs2, show decide (k < k + 1) = true from decide_eq_true (by omega)]
      · rw [hs3 k (by omega), show decide (s < k + 1) = false from decide_eq_false (by omega)]) (fun r => by
      rw [show decide (s < s + 1) = true from decide_eq_true (by omega)]
      exact h1 (s + 1) (by omega) r)
    exact this
  · rw [allB_iff.mpr (fun k hk => by rw [hall k hk]; rfl)]
    exact lfp2_for (F := F) (y := y false) N (fun _ => (0 : Int32)) (fun k => nI k) (fun k hk r => by
      rw [hs k hk, hall k hk]; rfl) (fun r => h0 r)
theorem cnt_sub_eq {a b : Nat → Bool} {N : Nat} (h : ∀ t, t < N → a t = true → b t = true) : cnt a N ≤ cnt b N ∧ (cnt a N = cnt b N ↔ ∀ t, t < N → b t = true → a t = true) := by
  induction N with
  | zero => exact ⟨Nat.le_refl _, (fun _ t ht => by omega), (fun _ => rfl)⟩
  | succ N ih =>
    obtain ⟨h1, h2⟩ := ih (fun t ht => h t (by omega))
    have hN := h N (by omega)
    rw [cnt_succ, cnt_succ]
    cases ha : a N with
    | true =>
      rw [hN ha, if_pos rfl]
      refine ⟨by omega, ?_, ?_⟩
      · intro e t ht hb
        by_cases q : t = N
        · subst q; exact ha
        · exact h2.mp (by omega) t (by omega) hb
      · intro e
        have := h2.mpr (fun t ht hb => e t (by omega) hb)
        omega
    | false =>
      cases hb : b N with
      | true =>
        rw [if_neg (by decide), if_pos rfl]
        refine ⟨by omega, ?_, ?_⟩
        · intro e; omega
        · intro e
          have := e N (by omega) hb
          rw [ha] at this; cases this
      | false =>
        rw [if_neg (by decide)]
        refine ⟨by omega, ?_, ?_⟩
        · intro e t ht hbt
          by_cases q : t = N
          · subst q; rw [hb] at hbt; cases hbt
          · exact h2.mp (by omega) t (by omega) hbt
        · intro e
          have := h2.mpr (fun t ht hbt => e t (by omega) hbt)
          omega
theorem sub_cnt : ∀ m, m < 128 → cnt (fun t => t &&& m == t) 128 = 2 ^ pc m := by decide +kernel
theorem sub_cmp0 {n t c : Nat} (ht : t < 2 ^ n) (hc : c < 2 ^ n) : t &&& (c ^^^ (2 ^ n - 1)) = 0 ↔ t &&& c = t := by
  rw [sub7, and0_7]
  constructor
  · intro h p hp
    have := h p hp
    rw [cmp_bit hc] at this
    have hpn : p < n := by
      by_cases q : p < n
      · exact q
      · rw [Nat.testBit_lt_two_pow (Nat.lt_of_lt_of_le ht (Nat.pow_le_pow_right (by decide : 2 > 0) (by omega : n ≤ p)))] at hp; cases hp
    simpa [hpn] using this
  · intro h p hp
    rw [cmp_bit hc, h p hp]; simp
theorem m1_nI : (-1 : Int32) = nI (2 ^ 32 - 1) := by decide
theorem not_in {t m : Nat} (ht : t < 128) (hm : m < 128) : (nI t &&& (nI m ^^^ (-1 : Int32)) = 0) ↔ t &&& m = t := by
  rw [m1_nI, xor_nI', land_nI', ← sub_cmp0 (n := 32) (Nat.lt_trans ht (by decide)) (Nat.lt_trans hm (by decide))]
  have : t &&& (m ^^^ (2 ^ 32 - 1)) < 128 := and_128l ht
  exact nI_eq (b := 0) (by omega) (by decide)
/-- shattered -/
def shB (f : Nat → Bool) (m : Nat) : Bool := allB (fun t => !(t &&& m == t) || !allB (fun s => !(f s && (s &&& m == t))) 128) (m + 1)
theorem shB_iff {f : Nat → Bool} (hf : ∀ t, f t = true → t < 128) {m : Nat} : shB f m = true ↔ ∀ t, t &&& m = t → ∃ s, f s = true ∧ s &&& m = t := by
  unfold shB
  rw [allB_iff]
  constructor
  · intro h t ht
    have h1 := h t (by have := Nat.and_le_right (n := t) (m := m); omega)
    rw [show (t &&& m == t) = true by simpa using ht, Bool.not_true, Bool.false_or, Bool.not_eq_true', allB_ff] at h1
    obtain ⟨s, _, h2⟩ := h1
    rw [Bool.not_eq_false', Bool.and_eq_true, beq_iff_eq] at h2
    exact ⟨s, h2⟩
  · intro h t _
    by_cases q : t &&& m = t
    · obtain ⟨s, h1, h2⟩ := h t q
      rw [show (t &&& m == t) = true by simpa using q, Bool.not_true, Bool.false_or, Bool.not_eq_true', allB_ff]
      exact ⟨s, hf s h1, by rw [h1, show (s &&& m == t) = true by simpa using h2]; rfl⟩
    · rw [show (t &&& m == t) = false by simpa using q]; rfl
theorem isShattered_V {cP : Nat → Int32} {V : Nat → Nat → Bool} {j n m : Nat} (hj : j ≠ 3) (hP : cP j = nI n) (hn : n ≤ 7) (hi : inN n (V j)) (hm : m < 2 ^ n) : X8_isShattered cP (LO V) (HI V) j (nI m) = some (b01 (shB (V j) m), va_up cP 3 (nI n), LO (va_up V 3 (ctW m n (V j))), HI (va_up V 3 (ctW m n (V j)))) := by
  have hm2 := l128 hn hm
  have hpm := pc_le m
  unfold X8_isShattered
  rw [become_V, bd3_s, cutTo_V (n := n) (by rw [up_at]; exact hP) hn hm2, bd2_s, size_V, bd1_s, J6_eq m hm2, bd1_s, shl1 _ (by omega), hP]
  simp only [up_at, bx_uu]
  have hsub : ∀ t, t < 128 → ctW m n (V j) t = true → (t &&& m == t) = true := fun t ht h => by
    obtain ⟨u, _, h2⟩ := (ct_iff hn hi hm ht).mp h
    rw [beq_iff_eq, ← h2, Nat.and_assoc, Nat.and_self]
  obtain ⟨h1, h2⟩ := cnt_sub_eq hsub
  rw [sub_cnt m hm2] at h1 h2
  have hp7 : 2 ^ pc m ≤ 2 ^ 7 := Nat.pow_le_pow_right (by decide) hpm
  have he : cnt (ctW m n (V j)) 128 = 2 ^ pc m ↔ shB (V j) m = true := by
    rw [h2, shB_iff (hi.to hn)]
    constructor
    · intro h t ht
      exact (ct_iff hn hi hm (by have := Nat.and_le_right (n := t) (m := m); omega)).mp (h t (by have := Nat.and_le_right (n := t) (m := m); omega) (by simpa using ht))
    · intro h t ht hb
      exact (ct_iff hn hi hm ht).mpr (h t (by simpa using hb))
  cases hb : shB (V j) m with
  | true => rw [if_pos (by rw [he.mpr hb])]; rfl
  | false => rw [if_neg (fun q => by
      have := he.mp ((nI_eq (by omega) (by omega)).mp q)
      rw [hb] at this; cases this)]; rfl
theorem isShattered_9 {mnow : Nat → Int32} {j n m : Nat} {f : Nat → Bool} (hj : j < 3) (hM : FamM mnow (129 * j) (n, f)) (hm : m < 128) : X9_isShattered mnow (nI j) (nI m) = some (b01 (shB f m)) := by
  unfold X9_isShattered shB
  have inner : ∀ t, t < 128 → ∀ r : Int32 → Option Int32, lfp2 (X9_isShattered_h24 r (nI t) mnow (nI j) (nI m)) 0 0 = (fun b => if b = true then r (nI (t + 1)) else some 0) (!allB (fun s => !(f s && (s &&& m == t))) 128) := fun t ht r =>
    lfp2_any (F := X9_isShattered_h24 r (nI t) mnow (nI j) (nI m)) (fun s => f s && (s &&& m == t)) 128 (fun b => if b = true then r (nI (t + 1)) else some 0) (fun s hs r2 => by
      have hsm : s &&& m < 128 := and_128l hs
      unfold X9_isShattered_h24
      rw [if_neg (inn128 hs), i00, isIn9 hj hM hs, bd1_s, ib0, land_nI', nI_1]
      cases f s with
      | false => rfl
      | true =>
        rw [if_pos rfl, Bool.true_and]
        by_cases e : s &&& m = t
        · rw [if_pos (show nI (s &&& m) = nI t by rw [e]), show (s &&& m == t) = true by simpa using e]; rfl
        · rw [if_neg (fun q => e ((nI_eq (by omega) (by omega)).mp q)), show (s &&& m == t) = false by simpa using e]; rfl) (fun s hs r2 => by
      unfold X9_isShattered_h24
      rw [i10, i10]
      rw [nI_1]
      split <;> rfl) (fun r2 => by
      unfold X9_isShattered_h24
      rw [if_pos i128, i00]; rfl)
  have := lfp1_all (F := X9_isShattered_h2 (nI m) mnow (nI j)) (fun t => !(t &&& m == t) || !allB (fun s => !(f s && (s &&& m == t))) 128) 0 (m + 1) (by omega) (y0 := some 0) (y1 := some 1) (fun t _ ht h r => by
    unfold X9_isShattered_h2
    rw [if_neg (nI_nlt (by omega) (by omega))]
    by_cases e : t &&& m = t
    · rw [if_pos ((not_in (by omega) hm).mpr e), inner t (by omega)]
      rw [show (t &&& m == t) = true by simpa using e, Bool.not_true, Bool.false_or] at h
      show (if (!allB (fun s => !(f s && (s &&& m == t))) 128) = true then _ else _) = _
      rw [h, if_pos rfl]
    · rw [if_neg (fun q => e ((not_in (by omega) hm).mp q)), nI_1]) (fun t _ ht h r => by
    unfold X9_isShattered_h2
    rw [Bool.or_eq_false_iff, Bool.not_eq_false', beq_iff_eq] at h
    rw [if_neg (nI_nlt (by omega) (by omega)), if_pos ((not_in (by omega) hm).mpr h.1), inner t (by omega)]
    show (if (!allB (fun s => !(f s && (s &&& m == t))) 128) = true then _ else _) = _
    rw [h.2, if_neg (by decide)]) (fun r => by
    unfold X9_isShattered_h2
    rw [if_pos (nI_lt (by omega) (by omega))])
  rw [allF_0] at this
  refine this.trans ?_
  cases allB (fun t => !(t &&& m == t) || !allB (fun s => !(f s && (s &&& m == t))) 128) (m + 1) <;> rfl
section SIM
variable {cP : Nat → Int32} {cLo : Nat → Int64} {cHi : Nat → Int64} {cpl : Nat → Int32} {ctb : Nat → Int32} {ctl : Int32} {ctf : Int32} {ctp : Int32} {ctk : Int32} {cts : Int32} {cth : Int32} {cob : Nat → Int32} {col : Int32} {cso : Nat → Int32} {cha : Int32} {chs : Int32} {cbe : Int32} {ctr : Int32} {cgl : Nat → Int64} {cgh : Nat → Int64} {cll : Nat → Int64} {clh : Nat → Int64} {cta : Nat → Int32} {cme : Nat → Int32} {cps : Int32} {cwh : Nat → Int32} {cal : Nat → Int64} {cah : Nat → Int64} {mthr : Int32} {mfrp : Int32} {mact : Int32} {mtpd : Int32} {msiz : Int32} {matx : Int32} {mfrm : Int32} {mtok : Int32} {mval : Int32} {mfk : Int32} {mfpl : Int32} {mbem : Int32} {mtrs : Int32} {mtrl : Int32} {mrom : Int32} {mtom : Int32} {mnow : Nat → Int32} {mfre : Nat → Int32} {mkep : Nat → Int32} {mtap : Nat → Int32} {mlef : Nat → Int32} {mtak : Nat → Int32} {mbes : Nat → Int32} {mrow : Nat → Int32} {mint : Nat → Int32} {mrnd : Nat → Int32} {mplo : Nat → Int32} {mhio : Nat → Int32} {mtox : Nat → Int32} {mtol : Nat → Int32}
theorem sim_shattered {p1 p2 : Int32} (hr : Rel cP cLo cHi ctb ctl ctf ctp cob col cso cha chs mact mtpd mfk mfpl mtom mnow mkep mtap mtol) : ∃ (r : Int32) (ocP : Nat → Int32) (ocLo : Nat → Int64) (ocHi : Nat → Int64), X8_shattered cP cLo cHi p1 p2 = some (r, ocP, ocLo, ocHi) ∧ X9_shattered mnow p1 p2 = some r ∧ Rel ocP ocLo ocHi ctb ctl ctf ctp cob col cso cha chs mact mtpd mfk mfpl mtom mnow mkep mtap mtol := by
  obtain ⟨V, rfl, rfl, hV⟩ := toV cLo cHi
  unfold X8_shattered X9_shattered
  rcases famcase hV hr p1 with ⟨j, n, hj, rfl, h0, hn, hi, hP, hM, e1, e2⟩ | ⟨e1, e2⟩
  · rw [e1, bdo_s, isSet9 hj hM hn h0, bd1_s, X0_knows_eq hP hn, bd1_s]
    by_cases q : 0 ≤ p2.toInt ∧ p2.toInt < (2 : Int) ^ n
    · obtain ⟨m, hm1, hm2, rfl⟩ := set_of hn q
      rw [decide_eq_true q, bt0, bt0, isShattered_V (by omega) hP hn hi hm1, bd4_s, isShattered_9 hj hM hm2, bd1_s]
      refine ⟨b01 (shB (V j) m), _, _, _, ?_, ?_, keep3 hr (nI n) (ctW m n (V j))⟩
      · cases shB (V j) m <;> rfl
      · cases shB (V j) m <;> rfl
    · rw [decide_eq_false q, bf0, bf0]
      exact ⟨_, _, _, _, rfl, rfl, hr⟩
  · rw [e1, bdo_n, X9_isSet_out e2, bd1_s, i00]
    exact ⟨_, _, _, _, rfl, rfl, hr⟩
theorem sim_shatters {p1 p2 : Int32} (hr : Rel cP cLo cHi ctb ctl ctf ctp cob col cso cha chs mact mtpd mfk mfpl mtom mnow mkep mtap mtol) : ∃ (r : Int32) (ocP : Nat → Int32) (ocLo : Nat → Int64) (ocHi : Nat → Int64), X8_shatters cP cLo cHi p1 p2 = some (r, ocP, ocLo, ocHi) ∧ X9_shatters mnow p1 p2 = some r ∧ Rel ocP ocLo ocHi ctb ctl ctf ctp cob col cso cha chs mact mtpd mfk mfpl mtom mnow mkep mtap mtol := by
  obtain ⟨V, rfl, rfl, hV⟩ := toV cLo cHi
  unfold X8_shatters X9_shatters
  rcases famcase hV hr p1 with ⟨j, n, hj, rfl, h0, hn, hi, hP, hM, e1, e2⟩ | ⟨e1, e2⟩
  · have hq := pow_le7 hn
    rw [e1, bdo_s, e2, bd1_s, i10, X9_in_n (a := 0) (b := 1) (by decide) (by decide) rfl rfl, bd1_s]
    rcases in_cases (p := p2) 0 1 (by decide) with ⟨k, _, hk, rfl⟩ | h
    · rw [if_neg (nI_pos (by omega)), if_pos (show nI k ≤ (1 : Int32) from nI_le (b := 1) hk (by decide)), nI_toInt (by omega), decide_eq_true (by omega), bt0, hP, clear_V, bd3_s]
      obtain ⟨x, g, e⟩ := lfp4_ab (F := X8_shatters_h36 j (nI k)) (cP := va_up cP 4 (nI n)) (V := va_up V 4 (fun _ => false)) 4 3 (by decide) (mkG (shB (V j)) (fun s => s)) (2 ^ n) (fun a b c => if k = 0 then some (nI (cnt (mkG (shB (V j)) (fun s => s) (2 ^ n)) 128), a, b, c) else some (lstI (hasL (mkG (shB (V j)) (fun s => s) (2 ^ n)) n) (n + 1), a, b, c)) (by rw [up_at]; rfl) (fun s hs x g => by
        refine ⟨nI n, ctW s n (V j), fun r => ?_⟩
        unfold X8_shatters_h36
        rw [X0_span_eq (n := n) (by rw [up_ne (by omega), up_ne (by omega)]; exact hP) hn, bd1_s, if_neg (nI_ge hs (by omega)), isShattered_V (n := n) (by omega) (by rw [up_ne (by omega), up_ne (by omega)]; exact hP) hn (by rw [up_ne (by omega), up_ne (by omega), up_ne (by omega)]; exact hi) hs, bd4_s, nI_1]
        simp only [up_ne (show j ≠ 3 by omega), up_ne (show j ≠ 4 by omega), bx_uu]
        cases hb : shB (V j) s with
        | false => rw [bf0]; simp only [mkG, hb, Bool.false_and, Bool.or_false]
        | true =>
          rw [bt0, put_V (by omega), bd2_s]
          simp only [up_ne (show (4 : Nat) ≠ 3 by decide), up_at, up_comm (show (3 : Nat) ≠ 4 by decide), bx_uu, mkG, hb, Bool.true_and]) (fun x g r => by
        unfold X8_shatters_h36
        rw [X0_span_eq (n := n) (by rw [up_ne (by omega), up_ne (by omega)]; exact hP) hn, bd1_s, if_pos (nI_le (Nat.le_refl _) (by omega))]
        rcases (show k = 0 ∨ k = 1 by omega) with rfl | rfl
        · rw [if_pos (show nI 0 = (0 : Int32) from rfl), size_V, bd1_s, up_ne (by decide), up_at, if_pos rfl]
        · rw [if_neg (show ¬ nI 1 = (0 : Int32) by decide), greatestLevel_V (n := n) (by rw [up_ne (by decide), up_at]) hn, bd1_s, up_ne (by decide), up_at, if_neg (by decide)])
      simp only [bx_uu] at e
      have hmk : ∀ s, s < 2 ^ n → mkG (shB (V j)) (fun s => s) (2 ^ n) s = shB (V j) s := fun s hs => Bool.eq_iff_iff.mpr (by
        rw [mkG_iff]
        exact ⟨(fun ⟨t, _, h1, h2⟩ => h2 ▸ h1), (fun h => ⟨s, hs, h, rfl⟩)⟩)
      have hmk2 : ∀ s, mkG (shB (V j)) (fun s => s) (2 ^ n) s = true → s < 2 ^ n := fun s hs => by
        obtain ⟨t, h1, _, h2⟩ := mkG_iff.mp hs
        rw [← h2]; exact h1
      have href : lfp3 (X9_shatters_h29 mnow (nI j) (nI k)) 0 (-1) 0 = if k = 0 then some (nI (cnt (shB (V j)) (2 ^ n))) else some (mxI (shB (V j)) (2 ^ n)) := by
        exact lfp3_for (F := X9_shatters_h29 mnow (nI j) (nI k)) (2 ^ n) (fun s => nI (cnt (shB (V j)) s)) (fun s => mxI (shB (V j)) s) (fun s => nI s) (fun s hs r => by
          unfold X9_shatters_h29
          rw [points9 hj hM, bd1_s, shl1 _ (by omega), if_neg (nI_ge hs (by omega)), isShattered_9 hj hM (by omega), bd1_s, X9_bits_eq (by omega), bd1_s, nI_1, nI_1, cnt_succ]
          cases hb : shB (V j) s with
          | false => rw [bf0]; simp only [mxI, hb]; rfl
          | true => rw [bt0]; simp only [mxI, hb]; rfl) (fun r => by
          unfold X9_shatters_h29
          rw [points9 hj hM, bd1_s, shl1 _ (by omega), if_pos (nI_le (Nat.le_refl _) (by omega))]
          rcases (show k = 0 ∨ k = 1 by omega) with rfl | rfl
          · rw [if_pos (show nI 0 = (0 : Int32) from rfl), if_pos rfl]
          · rw [if_neg (show ¬ nI 1 = (0 : Int32) by decide), if_neg (by decide)])
      rw [e, href]
      have hkeep : Rel (va_up (va_up cP 4 (nI n)) 3 x) (LO (va_up (va_up V 4 (mkG (shB (V j)) (fun s => s) (2 ^ n))) 3 g)) (HI (va_up (va_up V 4 (mkG (shB (V j)) (fun s => s) (2 ^ n))) 3 g)) ctb ctl ctf ctp cob col cso cha chs mact mtpd mfk mfpl mtom mnow mkep mtap mtol := hr.keep ((((Keeps.rfl'.up 4 (by omega) _).up 3 (by omega) _).upP 4 (by omega) _).upP 3 (by omega) _)
      rcases (show k = 0 ∨ k = 1 by omega) with rfl | rfl
      · rw [if_pos rfl, if_pos rfl, cnt_cut hq (fun s _ h => hmk2 s h), cnt_congr (d := shB (V j)) hmk]
        exact ⟨_, _, _, _, rfl, rfl, hkeep⟩
      · rw [if_neg (by decide), if_neg (by decide)]
        refine ⟨_, _, _, _, rfl, ?_, hkeep⟩
        have h1 := lst_maxP (M := mkG (shB (V j)) (fun s => s) (2 ^ n)) hn
        have h2 := mx_maxP (shB (V j)) (2 ^ n)
        have h3 : maxP (mkG (shB (V j)) (fun s => s) (2 ^ n)) (2 ^ n) (mxI (shB (V j)) (2 ^ n)) := by
          rcases h2 with ⟨a1, a2⟩ | ⟨l, a1, ⟨s, a2, a3, a4⟩, a5⟩
          · exact Or.inl ⟨a1, fun t ht => by rw [hmk t ht]; exact a2 t ht⟩
          · exact Or.inr ⟨l, a1, ⟨s, a2, by rw [hmk s a2]; exact a3, a4⟩, fun t ht h => a5 t ht (by rw [← hmk t ht]; exact h)⟩
        rw [maxP_uniq h1 h3]
    · rw [decide_eq_false h, bf0]
      exact ⟨-2, _, _, _, outA h rfl rfl, rfl, hr⟩
  · rw [e1, bdo_n, e2, bd1_s, i00]
    exact ⟨_, _, _, _, rfl, rfl, hr⟩
theorem sim_cover {p1 : Int32} (hr : Rel cP cLo cHi ctb ctl ctf ctp cob col cso cha chs mact mtpd mfk mfpl mtom mnow mkep mtap mtol) : ∃ (r : Int32) (ocP : Nat → Int32) (ocLo : Nat → Int64) (ocHi : Nat → Int64), X8_cover cP cLo cHi p1 = some (r, ocP, ocLo, ocHi) ∧ X9_cover mnow p1 = some r ∧ Rel ocP ocLo ocHi ctb ctl ctf ctp cob col cso cha chs mact mtpd mfk mfpl mtom mnow mkep mtap mtol := by
  obtain ⟨V, rfl, rfl, hV⟩ := toV cLo cHi
  unfold X8_cover X9_cover
  rcases famcase hV hr p1 with ⟨j, n, hj, rfl, h0, hn, hi, hP, hM, e1, e2⟩ | ⟨e1, e2⟩
  · have hq := pow_le7 hn
    rw [e1, bdo_s, e2, bd1_s, i10, becomeAnswers_V (by omega) hP hn hi, bd3_s, leastLevel_V (n := n) up_at hn, bd1_s, up_at, show X9_isIn mnow (nI j) (0 : Int32) = some (b01 (V j 0)) from isIn9 hj hM (s := 0) (by decide), bd1_s]
    -- the class
    have hcls : ∃ x, X0_firstOfLevel (va_up cP 3 (nI n)) (LO (va_up V 3 (mA n (V j)))) (HI (va_up V 3 (mA n (V j)))) 3 (fstI (hasL (mA n (V j)) n) (n + 1)) = some x ∧ minP (mA n (V j)) (2 ^ n) x := by
      rcases cover_minP (M := mA n (V j)) hn (pc_n n hn) with ⟨l, h1, h2, h3⟩ | ⟨h1, h2⟩
      · refine ⟨_, ?_, h3⟩
        rw [h2, firstOfLevel_V' (n := n) up_at hn (by omega), up_at]
      · refine ⟨-1, ?_, Or.inl ⟨rfl, h2⟩⟩
        rw [h1, firstOfLevel_V (n := n) up_at hn (c := fun _ => false) (fun s hs => ⟨(fun q => absurd q (ne_m1 (by have := pc_le s; omega))), (fun q => by cases q)⟩)]
        exact congrArg some (fstI_no (fun t _ => rfl))
    obtain ⟨x, hx1, hx2⟩ := hcls
    rw [hx1, bd1_s]
    refine ⟨x, _, _, _, rfl, ?_, keep3 hr _ _⟩
    cases hz : V j 0 with
    | true =>
      rw [bt0]
      have hno : minP (mA n (V j)) (2 ^ n) (-1) := Or.inl ⟨rfl, fun t ht => by
        cases hm : mA n (V j) t with
        | false => rfl
        | true => exact absurd (Nat.zero_and t) (((mA_iff (hi.to hn)).mp hm).2 0 hz)⟩
      rw [minP_uniq hx2 hno]
    | false =>
      rw [bf0]
      have hl := lfp2_for (F := X9_cover_h26 mnow (nI j)) (y := some (oI (fdv (mA n (V j)) (2 ^ n)))) (2 ^ n) (fun k => oI (fdv (mA n (V j)) k)) (fun k => nI k) (fun k hk r => by
        have hpk := pc_le k
        have key : X9_cover_j56 r (oI (fdv (mA n (V j)) k)) (nI k) mnow (nI j) = r (if mA n (V j) k = true then nI k else oI (fdv (mA n (V j)) k)) (nI (k + 1)) := by
          unfold X9_cover_j56 mA mAll
          rw [decide_eq_true hk, Bool.true_and]
          have := lfp2_flag (F := X9_cover_h62 r (oI (fdv (mA n (V j)) k)) (nI k) mnow (nI j)) (fun t => !V j t || (t &&& k != 0)) 128 (fun b => r (if b = true then nI k else oI (fdv (mA n (V j)) k)) (nI (k + 1))) (fun t ht r2 => by
            unfold X9_cover_h62
            have hts : t &&& k < 128 := and_128l ht
            rw [if_neg (inn128 ht), i10, isIn9 hj hM ht, bd1_s, ib0, land_nI', nI_1]
            cases V j t with
            | false => rfl
            | true =>
              rw [if_pos rfl]
              by_cases e : t &&& k = 0
              · rw [if_pos (show nI (t &&& k) = 0 by rw [e]; rfl), e]; rfl
              · rw [if_neg (nI_ne0 (by omega) (by omega)), show (t &&& k != 0) = true by simpa using e]; rfl) (fun t ht r2 => by
            unfold X9_cover_h62
            rw [i00, i00, nI_1]
            split <;> rfl) (fun r2 => by
            unfold X9_cover_h62
            rw [if_pos i128, i10, nI_1]; rfl) true
          rw [Bool.true_and] at this
          exact this
        unfold X9_cover_h26
        rw [points9 hj hM, bd1_s, shl1 _ (by omega), if_neg (nI_ge hk (by omega)), key, X9_bits_eq (by omega), bd1_s, nI_1]
        have hmin := fdv_minO (mA n (V j)) k
        cases hf : fdv (mA n (V j)) k with
        | none =>
          show (if (-1 : Int32) = -1 then _ else _) = _
          rw [if_pos rfl]
          simp only [fdv, hf, Bool.and_true]
          cases mA n (V j) k <;> rfl
        | some s =>
          have hs : s < k := by
            rw [hf] at hmin
            rcases hmin with ⟨h, _⟩ | ⟨s', h1, h2, _⟩
            · cases h
            · cases h2; exact h1
          have hps := pc_le s
          show (if nI s = -1 then _ else _) = _
          rw [if_neg (ne_m1 (by omega))]
          show bd1 (X9_bits (nI s)) _ = _
          rw [X9_bits_eq (by omega), bd1_s]
          simp only [fdv, hf]
          by_cases q : pc k < pc s
          · rw [if_pos (nI_lt q (by omega)), decide_eq_true q, Bool.and_true]
            cases mA n (V j) k <;> rfl
          · rw [if_neg (nI_nlt (by omega) (by omega)), decide_eq_false q, Bool.and_false]; rfl) (fun r => by
        unfold X9_cover_h26
        rw [points9 hj hM, bd1_s, shl1 _ (by omega), if_pos (nI_le (Nat.le_refl _) (by omega))])
      refine hl.trans ?_
      rw [minP_uniq hx2 (fdv_minO (mA n (V j)) (2 ^ n)).toP]
  · rw [e1, bdo_n, e2, bd1_s, i00]
    exact ⟨_, _, _, _, rfl, rfl, hr⟩
end SIM
