/-! binomials -/
def ch : Nat → Nat → Nat
  | _, 0 => 1
  | 0, _ + 1 => 0
  | n + 1, k + 1 => ch n k + ch n (k + 1)
theorem ch_0 (n : Nat) : ch n 0 = 1 := by cases n <;> rfl
theorem ch_s (n k : Nat) : ch (n + 1) (k + 1) = ch n k + ch n (k + 1) := rfl
theorem ch_abs : ∀ n k, (k + 1) * ch (n + 1) (k + 1) = (n + 1) * ch n k := by
  intro n
  induction n with
  | zero =>
    intro k
    cases k with
    | zero => rfl
    | succ k => show (k + 1 + 1) * (0 + 0) = 1 * 0; simp
  | succ m ih =>
    intro k
    rw [ch_s (m + 1) k, Nat.mul_add, ih k]
    cases k with
    | zero => simp only [ch_0]; omega
    | succ j =>
      have h1 := ih j
      have h2 : ch (m + 1) (j + 1) = ch m j + ch m (j + 1) := rfl
      have h3 : (j + 1 + 1) * ch (m + 1) (j + 1) = (j + 1) * ch (m + 1) (j + 1) + ch (m + 1) (j + 1) := Nat.succ_mul _ _
      rw [h3, h1, Nat.succ_mul (m + 1)]
      have h4 : (m + 1) * ch m j + (m + 1) * ch m (j + 1) = (m + 1) * ch (m + 1) (j + 1) := by rw [h2, Nat.mul_add]
      omega
theorem ch_next : ∀ n k, (k + 1) * ch n (k + 1) + k * ch n k = n * ch n k := by
  intro n
  cases n with
  | zero =>
    intro k
    cases k with
    | zero => rfl
    | succ k => show (k + 1 + 1) * 0 + (k + 1) * 0 = 0 * 0; simp
  | succ m =>
    intro k
    rw [ch_abs m k]
    cases k with
    | zero => simp [ch_0]
    | succ j =>
      rw [ch_abs m j, ← Nat.mul_add]
      show (m + 1) * (ch m (j + 1) + ch m j) = (m + 1) * (ch m j + ch m (j + 1))
      rw [Nat.add_comm (ch m (j + 1))]
theorem ch_zero : ∀ n k, n < k → ch n k = 0 := by
  intro n
  induction n with
  | zero => intro k h; cases k with
    | zero => omega
    | succ k => rfl
  | succ n ih => intro k h; cases k with
    | zero => omega
    | succ k => rw [ch_s, ih k (by omega), ih (k + 1) (by omega)]
theorem ch_pow2 : ∀ n k, ch n k ≤ 2 ^ n := by
  intro n
  induction n with
  | zero => intro k; cases k <;> simp [ch]
  | succ n ih => intro k; cases k with
    | zero => rw [ch_0]; exact Nat.one_le_two_pow
    | succ k => rw [ch_s, Nat.pow_succ]; have := ih k; have := ih (k + 1); omega
theorem lN_nz {k : Nat} (h0 : 0 < k) (h : k < 2 ^ 63) : ¬ lN k = 0 := fun q => by
  have := (pk_lEQ (b := 0) h (by decide)).mp q
  omega
theorem gnzL_lN {α : Type} {k : Nat} {x : Option α} (h0 : 0 < k) (h : k < 2 ^ 63) : gnzL (lN k) x = x := if_neg (lN_nz h0 h)
theorem binomial_eq {n k : Nat} (hk : k ≤ n) (hn : n < 2 ^ 30) (hB : ∀ i, i ≤ k → i * ch (n - k + i) i < 2 ^ 63) : X2_binomial (nI n) (nI k) = some (lN (ch n k)) := by
  unfold X2_binomial
  rw [if_neg (nI_pos (by omega)), if_pos (nI_le hk (by omega))]
  have := lfp2_for (F := X2_binomial_h16 (nI k) (nI n)) (y := some (lN (ch n k))) k (fun t => lN (ch (n - k + t) t)) (fun t => nI (t + 1)) (fun t ht r => by
    have hb := hB (t + 1) (by omega)
    have ha := ch_abs (n - k + t) t
    unfold X2_binomial_h16
    rw [if_neg (nI_nlt (by omega) (by omega)), nI_l (by omega), gnzL_lN (by omega) (by omega), pk_sub hk, nI_add, nI_l (by omega), lN_mul, nI_1]
    have e : ch (n - k + t) t * (n - k + (t + 1)) = (t + 1) * ch (n - k + (t + 1)) (t + 1) := by rw [show n - k + (t + 1) = n - k + t + 1 by omega, ha, Nat.mul_comm]
    rw [e, pk_lDiv hb (by omega) (by omega), Nat.mul_div_cancel_left _ (by omega)]) (fun r => by
    unfold X2_binomial_h16
    rw [if_pos (nI_lt (by omega) (by omega)), show n - k + k = n by omega])
  simp only [ch_0] at this
  exact this
theorem chosen_eq {n k : Nat} (hk : k ≤ n) (hn : n < 2 ^ 30) (hB : ∀ i, i ≤ k → i * ch n i < 2 ^ 63) : X9_chosen (nI n) (nI k) = some (lN (ch n k)) := by
  unfold X9_chosen
  rw [if_neg (nI_pos (by omega)), if_pos (nI_le hk (by omega))]
  have := lfp2_for (F := X9_chosen_h16 (nI k) (nI n)) (y := some (lN (ch n k))) k (fun t => lN (ch n t)) (fun t => nI t) (fun t ht r => by
    have hb := hB (t + 1) (by omega)
    have ha := ch_next n t
    unfold X9_chosen_h16
    rw [if_neg (nI_ge ht (by omega)), nI_1, nI_l (by omega), gnzL_lN (by omega) (by omega), pk_sub (by omega), nI_l (by omega), lN_mul]
    have e : ch n t * (n - t) = (t + 1) * ch n (t + 1) := by
      have e1 : ch n t * (n - t) + t * ch n t = n * ch n t := by
        rw [Nat.mul_comm t, ← Nat.mul_add, Nat.mul_comm n]; congr 1; omega
      omega
    rw [e, pk_lDiv hb (by omega) (by omega), Nat.mul_div_cancel_left _ (by omega)]) (fun r => by
    unfold X9_chosen_h16
    rw [if_pos (nI_le (Nat.le_refl _) (by omega))])
  simp only [ch_0] at this
  exact this
theorem bound20 {n : Nat} (hn : n ≤ 20) {i : Nat} (m : Nat) (hi : i ≤ n) (hm : m ≤ 20) : i * ch m i < 2 ^ 63 := by
  have h1 := ch_pow2 m i
  have h2 : 2 ^ m ≤ 2 ^ 20 := Nat.pow_le_pow_right (by decide) hm
  calc i * ch m i ≤ 20 * 2 ^ 20 := Nat.mul_le_mul (by omega) (by omega)
    _ < 2 ^ 63 := by decide
theorem both20 {n : Nat} (hn : n ≤ 20) (x : Int32) : ∃ c, X2_binomial (nI n) x = some (lN c) ∧ X9_chosen (nI n) x = some (lN c) ∧ (∀ k, x = nI k → k ≤ n → c = ch n k) := by
  rcases i32_cases x with hneg | ⟨k, hk, rfl⟩
  · refine ⟨0, ?_, ?_, fun k hk hkn => ?_⟩
    · unfold X2_binomial; rw [if_pos (i32_lt.mpr (by simpa using hneg))]; rfl
    · unfold X9_chosen; rw [if_pos (i32_lt.mpr (by simpa using hneg))]; rfl
    · rw [hk, nI_toInt (by omega)] at hneg; omega
  · by_cases q : k ≤ n
    · refine ⟨ch n k, binomial_eq q (by omega) (fun i hi => bound20 hn _ (by omega) (by omega)), chosen_eq q (by omega) (fun i hi => bound20 hn _ (by omega) hn), fun k' e hk' => ?_⟩
      rw [(nI_eq hk (by omega)).mp e]
    · refine ⟨0, ?_, ?_, fun k' e hk' => ?_⟩
      · unfold X2_binomial; rw [if_neg (nI_pos hk), if_neg (nI_ge (by omega) hk)]; rfl
      · unfold X9_chosen; rw [if_neg (nI_pos hk), if_neg (nI_ge (by omega) hk)]; rfl
      · have := (nI_eq hk (by omega)).mp e; omega
theorem X9_in_n {p : Int32} {a b : Nat} (ha : a < 2 ^ 31) (hb : b < 2 ^ 31) {x y : Int64} (hx : x.toInt = (a : Int)) (hy : y.toInt = (b : Int)) : X9_in p.toInt64 x y = some (b01 (decide ((a : Int) ≤ p.toInt ∧ p.toInt ≤ (b : Int)))) := by
  rw [X9_in_eq, Int32.toInt_toInt64, hx, hy]
/-- a number between, or not, for both -/
theorem in_cases {p : Int32} (a b : Nat) (hb : b < 2 ^ 31) : (∃ k, a ≤ k ∧ k ≤ b ∧ p = nI k) ∨ ¬ ((a : Int) ≤ p.toInt ∧ p.toInt ≤ (b : Int)) := by
  rcases i32_cases p with h | ⟨k, hk, rfl⟩
  · right; omega
  · rw [nI_toInt hk]
    by_cases q : a ≤ k ∧ k ≤ b
    · left; exact ⟨k, q.1, q.2, rfl⟩
    · right; omega
theorem lt_of_out {p : Int32} {a b : Nat} (ha : a < 2 ^ 31) (hb : b < 2 ^ 31) (h : ¬ ((a : Int) ≤ p.toInt ∧ p.toInt ≤ (b : Int))) : p < nI a ∨ (¬ p < nI a ∧ nI b < p) := by
  by_cases q : p < nI a
  · exact Or.inl q
  · right
    refine ⟨q, i32_lt.mpr ?_⟩
    have h1 : ¬ p.toInt < (nI a).toInt := fun z => q (i32_lt.mpr z)
    rw [nI_toInt ha] at h1
    rw [nI_toInt hb]; omega
theorem outA {α : Type} {p A B : Int32} {X Y : α} {a b : Nat} (h : ¬ ((a : Int) ≤ p.toInt ∧ p.toInt ≤ (b : Int))) (hA : A.toInt = (a : Int)) (hB : B.toInt = (b : Int)) : (if p < A then X else if p ≤ B then Y else X) = X := by
  by_cases q : p < A
  · rw [if_pos q]
  · rw [if_neg q, if_neg]
    intro z
    have h1 := i32_le.mp z
    have h2 : ¬ p.toInt < A.toInt := fun w => q (i32_lt.mpr w)
    omega
theorem outB {α : Type} {p A B : Int32} {X Y : α} {a b : Nat} (h : ¬ ((a : Int) ≤ p.toInt ∧ p.toInt ≤ (b : Int))) (hA : A.toInt = (a : Int)) (hB : B.toInt = (b : Int)) : (if p < A then X else if B < p then X else Y) = X := by
  by_cases q : p < A
  · rw [if_pos q]
  · rw [if_neg q, if_pos]
    have h2 : ¬ p.toInt < A.toInt := fun w => q (i32_lt.mpr w)
    exact i32_lt.mpr (by omega)
theorem outC {α : Type} {p A B : Int32} {X Y : α} {a b : Nat} (h : ¬ ((a : Int) ≤ p.toInt ∧ p.toInt ≤ (b : Int))) (hA : A.toInt = (a : Int)) (hB : B.toInt = (b : Int) + 1) : (if p < A then X else if p < B then Y else X) = X := by
  by_cases q : p < A
  · rw [if_pos q]
  · rw [if_neg q, if_neg]
    intro z
    have h1 := i32_lt.mp z
    have h2 : ¬ p.toInt < A.toInt := fun w => q (i32_lt.mpr w)
    omega
section PAIR
variable {mnow : Nat → Int32} {j n : Nat} {f : Nat → Bool}
theorem isIn9 (hj : j < 3) (hM : FamM mnow (129 * j) (n, f)) {s : Nat} (hs : s < 128) : X9_isIn mnow (nI j) (nI s) = some (b01 (f s)) := X9_isIn_eq (v := (n, f)) hj hM hs
theorem points9 (hj : j < 3) (hM : FamM mnow (129 * j) (n, f)) : X9_points mnow (nI j) = some (nI n) := X9_points_eq (v := (n, f)) hj hM
theorem many9 (hj : j < 3) (hM : FamM mnow (129 * j) (n, f)) : X9_many mnow (nI j) = some (nI (cnt f 128)) := X9_many_eq (v := (n, f)) hj hM
theorem deg9 (hj : j < 3) (hM : FamM mnow (129 * j) (n, f)) {p : Nat} (hp : p < 7) : X9_degreeOf mnow (nI j) (nI p) = some (nI (cnt (fun s => f s && s.testBit p) 128)) := X9_degreeOf_eq (v := (n, f)) hj hM hp
theorem kth9 (hj : j < 3) (hM : FamM mnow (129 * j) (n, f)) {K : Nat} (hK : K < 2 ^ 31) : X9_kth mnow (nI j) (nI K) = some (kthI f 128 K) := X9_kth_eq (v := (n, f)) hj hM hK
theorem isSet9 (hj : j < 3) (hM : FamM mnow (129 * j) (n, f)) (hn : n ≤ 7) (h0 : 0 < n) {p : Int32} : X9_isSet mnow (nI j) p = some (b01 (decide (0 ≤ p.toInt ∧ p.toInt < 2 ^ n))) := X9_isSet_eq (v := (n, f)) hj hM hn h0
theorem isPoint9 (hj : j < 3) (hM : FamM mnow (129 * j) (n, f)) (hn : n ≤ 7) (h0 : 0 < n) {p : Int32} : X9_isPoint mnow (nI j) p = some (b01 (decide (0 ≤ p.toInt ∧ p.toInt < n))) := X9_isPoint_eq (v := (n, f)) hj hM hn h0
end PAIR
theorem Keeps.up {cP oP : Nat → Int32} {cLo cHi : Nat → Int64} {W : Nat → Nat → Bool} (h : Keeps cP oP cLo (LO W) cHi (HI W)) (i : Nat) (hi : ¬ (i < 3 ∨ (6 ≤ i ∧ i < 16))) (g : Nat → Bool) : Keeps cP oP cLo (LO (va_up W i g)) cHi (HI (va_up W i g)) := fun j hj => by
  have hne : j ≠ i := by rintro rfl; exact hi hj
  obtain ⟨h1, h2, h3⟩ := h j hj
  refine ⟨h1, ?_, ?_⟩
  · show wd (va_up W i g j) = _; rw [up_ne hne]; exact h2
  · show wd (fun s => va_up W i g j (64 + s)) = _; rw [up_ne hne]; exact h3
theorem Keeps.upP {cP oP : Nat → Int32} {cLo cHi oLo oHi : Nat → Int64} (h : Keeps cP oP cLo oLo cHi oHi) (i : Nat) (hi : ¬ (i < 3 ∨ (6 ≤ i ∧ i < 16))) (x : Int32) : Keeps cP (va_up oP i x) cLo oLo cHi oHi := fun j hj => by
  have hne : j ≠ i := by rintro rfl; exact hi hj
  obtain ⟨h1, h2, h3⟩ := h j hj
  exact ⟨by rw [up_ne hne]; exact h1, h2, h3⟩
theorem lfp1_fstF {β : Type} {F : (Int32 → Option β) → Int32 → Option β} (c : Nat → Bool) (a N : Nat) (ha : a ≤ N) (y : Int32 → Option β) (hs : ∀ k, a ≤ k → k < N → c k = false → ∀ r, F r (nI k) = r (nI (k + 1))) (hk : ∀ k, a ≤ k → k < N → c k = true → ∀ r, F r (nI k) = y (nI k)) (he : ∀ r, F r (nI N) = y (-1)) : lfp1 F (nI a) = y (fstI (fun t => decide (a ≤ t) && c t) N) := by
  rcases first_from c a N with ⟨s, h1, h2, h3, h4⟩ | h
  · rw [fstI_at h2 (by simp [h1, h3]) (fun t ht => by
      by_cases q : a ≤ t
      · simp [h4 t q ht]
      · simp [q])]
    exact lfp1_stop a s h1 (fun k q1 q2 r => hs k q1 (by omega) (h4 k q1 q2) r) (fun r => hk s h1 h2 h3 r)
  · rw [fstI_no (fun t ht => by
      by_cases q : a ≤ t
      · simp [h t q ht]
      · simp [q])]
    exact lfp1_stop a N ha (fun k q1 q2 r => hs k q1 q2 (h k q1 q2) r) he
theorem nextOfLevel_eq {a l n : Nat} (hn : n ≤ 7) (ha : a ≤ 2 ^ n) (hl : l < 2 ^ 31) {x : Int32} (hx : x + 1 = nI a) : X2_nextOfLevel x (nI l) (nI n) = some (fstI (fun t => decide (a ≤ t) && (pc t == l)) (2 ^ n)) := by
  unfold X2_nextOfLevel
  have hq := pow_le7 hn
  rw [hx]
  refine lfp1_fstF (F := X2_nextOfLevel_h4 (nI n) (nI l)) (fun t => pc t == l) a (2 ^ n) ha (fun z => some z) (fun k h1 h2 h3 r => ?_) (fun k h1 h2 h3 r => ?_) (fun r => ?_)
  · unfold X2_nextOfLevel_h4
    have := pc_le k
    rw [beq_eq_false_iff_ne] at h3
    rw [shl1 _ (by omega), if_neg (nI_ge h2 (by omega)), J6_eq k (by omega), bd1_s, if_neg (fun q => h3 ((nI_eq (by omega) hl).mp q)), nI_1]
  · unfold X2_nextOfLevel_h4
    rw [beq_iff_eq] at h3
    rw [shl1 _ (by omega), if_neg (nI_ge h2 (by omega)), J6_eq k (by omega), bd1_s, if_pos (by rw [h3])]
  · unfold X2_nextOfLevel_h4
    rw [shl1 _ (by omega), if_pos (nI_le (Nat.le_refl _) (by omega))]
section SIM
variable {cP : Nat → Int32} {cLo : Nat → Int64} {cHi : Nat → Int64} {cpl : Nat → Int32} {ctb : Nat → Int32} {ctl : Int32} {ctf : Int32} {ctp : Int32} {ctk : Int32} {cts : Int32} {cth : Int32} {cob : Nat → Int32} {col : Int32} {cso : Nat → Int32} {cha : Int32} {chs : Int32} {cbe : Int32} {ctr : Int32} {cgl : Nat → Int64} {cgh : Nat → Int64} {cll : Nat → Int64} {clh : Nat → Int64} {cta : Nat → Int32} {cme : Nat → Int32} {cps : Int32} {cwh : Nat → Int32} {cal : Nat → Int64} {cah : Nat → Int64} {mthr : Int32} {mfrp : Int32} {mact : Int32} {mtpd : Int32} {msiz : Int32} {matx : Int32} {mfrm : Int32} {mtok : Int32} {mval : Int32} {mfk : Int32} {mfpl : Int32} {mbem : Int32} {mtrs : Int32} {mtrl : Int32} {mrom : Int32} {mtom : Int32} {mnow : Nat → Int32} {mfre : Nat → Int32} {mkep : Nat → Int32} {mtap : Nat → Int32} {mlef : Nat → Int32} {mtak : Nat → Int32} {mbes : Nat → Int32} {mrow : Nat → Int32} {mint : Nat → Int32} {mrnd : Nat → Int32} {mplo : Nat → Int32} {mhio : Nat → Int32} {mtox : Nat → Int32} {mtol : Nat → Int32}
theorem sim_choose {p1 p2 : Int32} (hr : Rel cP cLo cHi ctb ctl ctf ctp cob col cso cha chs mact mtpd mfk mfpl mtom mnow mkep mtap mtol) : ∃ (r : Int32) , X8_choose p1 p2 = some r ∧ X9_choose p1 p2 = some r ∧ Rel cP cLo cHi ctb ctl ctf ctp cob col cso cha chs mact mtpd mfk mfpl mtom mnow mkep mtap mtol := by
  unfold X8_choose X9_choose
  rw [X9_in_n (a := 0) (b := 20) (by decide) (by decide) rfl rfl, bd1_s]
  rcases in_cases (p := p1) 0 20 (by decide) with ⟨k, _, hk, rfl⟩ | h
  · obtain ⟨c, hc1, hc2, _⟩ := both20 hk p2
    rw [if_neg (nI_pos (by omega)), if_pos (show nI k ≤ (20 : Int32) from nI_le (b := 20) hk (by decide)), hc1, bd1_s, nI_toInt (by omega), decide_eq_true (by omega), bt0, hc2, bd1_s]
    exact ⟨_, rfl, rfl, hr⟩
  · rw [decide_eq_false h, bf0]
    refine ⟨-2, ?_, rfl, hr⟩
    exact outA h rfl rfl
theorem sim_rank {p1 : Int32} (hr : Rel cP cLo cHi ctb ctl ctf ctp cob col cso cha chs mact mtpd mfk mfpl mtom mnow mkep mtap mtol) : ∃ (r : Int32) , X8_rank p1 = some r ∧ X9_rank p1 = some r ∧ Rel cP cLo cHi ctb ctl ctf ctp cob col cso cha chs mact mtpd mfk mfpl mtom mnow mkep mtap mtol := by
  unfold X8_rank X9_rank
  rw [X9_in_n (a := 0) (b := 127) (by decide) (by decide) rfl rfl, bd1_s]
  rcases in_cases (p := p1) 0 127 (by decide) with ⟨k, _, hk, rfl⟩ | h
  · have hpk := pc_le k
    refine ⟨nI (cnt (fun s => pc s == pc k) k), ?_, ?_, hr⟩
    · rw [if_neg (nI_pos (by omega)), if_pos (show nI k < (128 : Int32) from nI_lt (b := 128) (by omega) (by decide))]
      have := lfp2_cnt (F := X8_rank_h18 (nI k)) (fun s => pc s == pc k) k 0 (fun a => some (nI a)) (fun s hs a r => by
        have := pc_le s
        unfold X8_rank_h18
        rw [if_neg (nI_ge hs (by omega)), J6_eq s (by omega), bd1_s, J6_eq k (by omega), bd1_s, nI_1, nI_1]
        by_cases e : pc s = pc k
        · rw [if_pos (show nI (pc s) = nI (pc k) by rw [e])]; simp [e]
        · rw [if_neg (fun q => e ((nI_eq (by omega) (by omega)).mp q))]; simp [e]) (fun a r => by
        unfold X8_rank_h18
        rw [if_pos (nI_le (Nat.le_refl _) (by omega))])
      rw [Nat.zero_add] at this
      exact this
    · rw [nI_toInt (by omega), decide_eq_true (by omega), bt0]
      have := lfp2_cnt (F := X9_rank_h19 (nI k)) (fun s => pc s == pc k) k 0 (fun a => some (nI a)) (fun s hs a r => by
        have := pc_le s
        unfold X9_rank_h19
        rw [if_neg (nI_ge hs (by omega)), X9_bits_eq (by omega), bd1_s, X9_bits_eq (by omega), bd1_s, nI_1, nI_1, Int32.add_zero]
        by_cases e : pc s = pc k
        · rw [if_pos (show nI (pc s) = nI (pc k) by rw [e])]; simp [e]
        · rw [if_neg (fun q => e ((nI_eq (by omega) (by omega)).mp q))]; simp [e]) (fun a r => by
        unfold X9_rank_h19
        rw [if_pos (nI_le (Nat.le_refl _) (by omega))])
      rw [Nat.zero_add] at this
      exact this
  · rw [decide_eq_false h, bf0]
    refine ⟨-2, ?_, rfl, hr⟩
    exact outC h rfl rfl
theorem sim_ranked {p1 p2 : Int32} (hr : Rel cP cLo cHi ctb ctl ctf ctp cob col cso cha chs mact mtpd mfk mfpl mtom mnow mkep mtap mtol) : ∃ (r : Int32) , X8_ranked p1 p2 = some r ∧ X9_ranked p1 p2 = some r ∧ Rel cP cLo cHi ctb ctl ctf ctp cob col cso cha chs mact mtpd mfk mfpl mtom mnow mkep mtap mtol := by
  unfold X8_ranked X9_ranked
  rw [X9_in_n (a := 0) (b := 7) (by decide) (by decide) rfl rfl, bd1_s]
  rcases in_cases (p := p1) 0 7 (by decide) with ⟨k, _, hk, rfl⟩ | h
  · rw [if_neg (nI_pos (by omega)), if_neg (show ¬ (7 : Int32) < nI k from nI_nlt (a := 7) hk (by decide)), nI_toInt (by omega), decide_eq_true (by omega), bt0]
    rcases i32_cases p2 with hneg | ⟨K, hK, rfl⟩
    · have : ¬ (0 : Int32) ≤ p2 := fun q => by have := i32_le.mp q; have : (0 : Int32).toInt = 0 := rfl; omega
      rw [if_neg this, if_neg this]
      exact ⟨_, rfl, rfl, hr⟩
    · rw [if_pos (nI_pos' hK), if_pos (nI_pos' hK)]
      refine ⟨kthI (fun s => pc s == k) 128 K, ?_, ?_, hr⟩
      · refine lfp2_kth (F := X8_ranked_h22 (nI k) (nI K)) (fun s => pc s == k) 128 K (fun z => some z) (fun s hs a ha hc r => ?_) (fun s hs hc ha r => ?_) (fun a r => ?_)
        · have := pc_le s
          unfold X8_ranked_h22
          rw [if_neg (inn128 hs), J6_eq s hs, bd1_s, nI_1, nI_1]
          by_cases e : pc s = k
          · have hne : a ≠ K := by rcases hc with hc | hc; · simp [e] at hc
                                   · exact hc
            rw [if_pos (show nI (pc s) = nI k by rw [e]), if_neg (fun q => hne ((nI_eq (by omega) hK).mp q))]; simp [e]
          · rw [if_neg (fun q => e ((nI_eq (by omega) (by omega)).mp q))]; simp [e]
        · unfold X8_ranked_h22
          rw [beq_iff_eq] at hc
          rw [if_neg (inn128 hs), J6_eq s hs, bd1_s, if_pos (by rw [hc]), if_pos rfl]
        · unfold X8_ranked_h22
          rw [if_pos i128]
      · refine lfp2_kth (F := X9_ranked_h24 (nI k) (nI K)) (fun s => pc s == k) 128 K (fun z => some z) (fun s hs a ha hc r => ?_) (fun s hs hc ha r => ?_) (fun a r => ?_)
        · have := pc_le s
          unfold X9_ranked_h24
          rw [if_neg (inn128 hs), X9_bits_eq hs, bd1_s, nI_1, nI_1]
          by_cases e : pc s = k
          · have hne : a ≠ K := by rcases hc with hc | hc; · simp [e] at hc
                                   · exact hc
            rw [if_pos (show nI (pc s) = nI k by rw [e]), if_neg (fun q => hne ((nI_eq (by omega) hK).mp q))]; simp [e]
          · rw [if_neg (fun q => e ((nI_eq (by omega) (by omega)).mp q))]; simp [e]
        · unfold X9_ranked_h24
          rw [beq_iff_eq] at hc
          rw [if_neg (inn128 hs), X9_bits_eq hs, bd1_s, if_pos (by rw [hc]), if_pos rfl]
        · unfold X9_ranked_h24
          rw [if_pos i128]
  · rw [decide_eq_false h, bf0]
    refine ⟨-2, ?_, rfl, hr⟩
    exact outB h rfl rfl
theorem sim_level {p1 p2 : Int32} (hr : Rel cP cLo cHi ctb ctl ctf ctp cob col cso cha chs mact mtpd mfk mfpl mtom mnow mkep mtap mtol) : ∃ (r : Int32) , X8_level cP cLo cHi p1 p2 = some r ∧ X9_level mnow p1 p2 = some r ∧ Rel cP cLo cHi ctb ctl ctf ctp cob col cso cha chs mact mtpd mfk mfpl mtom mnow mkep mtap mtol := by
  obtain ⟨V, rfl, rfl, hV⟩ := toV cLo cHi
  unfold X8_level X9_level
  rcases famcase hV hr p1 with ⟨j, n, hj, rfl, h0, hn, hi, hP, hM, e1, e2⟩ | ⟨e1, e2⟩
  · rw [e1, bdo_s, e2, bd1_s, i10, points9 hj hM, bd1_s, X9_in_n (a := 0) (b := n) (by decide) (by omega) rfl (nI_t64 (by omega)), bd1_s, hP]
    rcases in_cases (p := p2) 0 n (by omega) with ⟨k, _, hk, rfl⟩ | h
    · rw [if_neg (nI_pos (by omega)), if_pos (nI_le hk (by omega)), sizeOfLevel_V hP hn (by omega), bd1_s, nI_toInt (by omega), decide_eq_true (by omega), bt0]
      refine ⟨_, rfl, ?_, hr⟩
      have := lfp2_cnt (F := X9_level_h31 mnow (nI j) (nI k)) (fun s => (pc s == k) && V j s) 128 0 (fun a => some (nI a)) (fun s hs a r => by
        have := pc_le s
        unfold X9_level_h31
        rw [if_neg (inn128 hs), isIn9 hj hM hs, bd1_s, X9_bits_eq hs, bd1_s, ib0, nI_1, nI_1, Int32.add_zero]
        by_cases e : pc s = k
        · rw [if_pos (show nI (pc s) = nI k by rw [e])]; cases V j s <;> simp [e]
        · rw [if_neg (fun q => e ((nI_eq (by omega) (by omega)).mp q))]; cases V j s <;> simp [e]) (fun a r => by
        unfold X9_level_h31
        rw [if_pos i128])
      rw [Nat.zero_add, cnt_cut (pow_le7 hn) (fun s hs h => by rw [Bool.and_eq_true] at h; exact hi s h.2)] at this
      exact this
    · rw [decide_eq_false h, bf0]
      refine ⟨-2, ?_, rfl, hr⟩
      exact outA h rfl (nI_toInt (by omega))
  · rw [e1, bdo_n, e2, bd1_s, i00]
    exact ⟨_, rfl, rfl, hr⟩
theorem sim_common {p1 p2 p3 : Int32} (hr : Rel cP cLo cHi ctb ctl ctf ctp cob col cso cha chs mact mtpd mfk mfpl mtom mnow mkep mtap mtol) : ∃ (r : Int32) , X8_common cP cLo cHi p1 p2 p3 = some r ∧ X9_common mnow p1 p2 p3 = some r ∧ Rel cP cLo cHi ctb ctl ctf ctp cob col cso cha chs mact mtpd mfk mfpl mtom mnow mkep mtap mtol := by
  obtain ⟨V, rfl, rfl, hV⟩ := toV cLo cHi
  unfold X8_common X9_common
  rcases famcase hV hr p1 with ⟨j, n, hj, rfl, h0, hn, hi, hP, hM, e1, e2⟩ | ⟨e1, e2⟩
  · have hq := pow_le7 hn
    rw [e1, bdo_s, isSet9 hj hM hn h0, bd1_s, X0_knows_eq hP hn, bd1_s]
    by_cases q : 0 ≤ p2.toInt ∧ p2.toInt < (2 : Int) ^ n
    · obtain ⟨m, hm1, hm2, rfl⟩ := set_of hn q
      rw [decide_eq_true q, bt0, bt0, points9 hj hM, bd1_s, X9_in_n (a := 0) (b := n) (by decide) (by omega) rfl (nI_t64 (by omega)), bd1_s, hP]
      rcases in_cases (p := p3) 0 n (by omega) with ⟨k, _, hk, rfl⟩ | h
      · rw [if_neg (nI_pos (by omega)), if_pos (nI_le hk (by omega)), nI_toInt (by omega), decide_eq_true (by omega), bt0]
        refine ⟨nI (cnt (fun s => (pc (s &&& m) == k) && V j s) (2 ^ n)), ?_, ?_, hr⟩
        · have := lfp2_cnt (F := X8_common_h43 cP j (LO V) (HI V) (nI m) (nI k)) (fun s => (pc (s &&& m) == k) && V j s) (2 ^ n) 0 (fun a => some (nI a)) (fun s hs a r => by
            have := pc_le (s &&& m)
            have hsm : s &&& m < 128 := and_128r hm2
            unfold X8_common_h43
            rw [X0_span_eq hP hn, bd1_s, if_neg (nI_ge hs (by omega)), holds_V (by omega), bd1_s, land_nI s (by omega) m hm2, J6_eq _ hsm, bd1_s, ib0, nI_1, nI_1]
            by_cases e : pc (s &&& m) = k
            · rw [if_pos (show nI (pc (s &&& m)) = nI k by rw [e])]; cases V j s <;> simp [e]
            · rw [if_neg (fun q => e ((nI_eq (by omega) (by omega)).mp q))]; cases V j s <;> simp [e]) (fun a r => by
            unfold X8_common_h43
            rw [X0_span_eq hP hn, bd1_s, if_pos (nI_le (Nat.le_refl _) (by omega))])
          rw [Nat.zero_add] at this
          exact this
        · have := lfp2_cnt (F := X9_common_h33 mnow (nI j) (nI m) (nI k)) (fun s => (pc (s &&& m) == k) && V j s) 128 0 (fun a => some (nI a)) (fun s hs a r => by
            have := pc_le (s &&& m)
            have hsm : s &&& m < 128 := and_128r hm2
            unfold X9_common_h33
            rw [if_neg (inn128 hs), isIn9 hj hM hs, bd1_s, land_nI s hs m hm2, X9_bits_eq hsm, bd1_s, ib0, nI_1, nI_1, Int32.add_zero]
            by_cases e : pc (s &&& m) = k
            · rw [if_pos (show nI (pc (s &&& m)) = nI k by rw [e])]; cases V j s <;> simp [e]
            · rw [if_neg (fun q => e ((nI_eq (by omega) (by omega)).mp q))]; cases V j s <;> simp [e]) (fun a r => by
            unfold X9_common_h33
            rw [if_pos i128])
          rw [Nat.zero_add, cnt_cut (pow_le7 hn) (fun s hs h => by rw [Bool.and_eq_true] at h; exact hi s h.2)] at this
          exact this
      · rw [decide_eq_false h, bf0]
        refine ⟨-2, ?_, rfl, hr⟩
        exact outA h rfl (nI_toInt (by omega))
    · rw [decide_eq_false q, bf0, bf0]
      exact ⟨_, rfl, rfl, hr⟩
  · rw [e1, bdo_n, X9_isSet_out e2, bd1_s, i00]
    exact ⟨_, rfl, rfl, hr⟩
theorem sim_half {p1 : Int32} (hr : Rel cP cLo cHi ctb ctl ctf ctp cob col cso cha chs mact mtpd mfk mfpl mtom mnow mkep mtap mtol) : ∃ (r : Int32) , X8_half cP cLo cHi p1 = some r ∧ X9_half mnow p1 = some r ∧ Rel cP cLo cHi ctb ctl ctf ctp cob col cso cha chs mact mtpd mfk mfpl mtom mnow mkep mtap mtol := by
  obtain ⟨V, rfl, rfl, hV⟩ := toV cLo cHi
  unfold X8_half X9_half
  rcases famcase hV hr p1 with ⟨j, n, hj, rfl, h0, hn, hi, hP, hM, e1, e2⟩ | ⟨e1, e2⟩
  · rw [e1, bdo_s, e2, bd1_s, i10]
    have hc2 := cnt_le (V j) 128
    refine ⟨nI (nb (fun p => decide (cnt (V j) 128 ≤ 2 * cnt (fun s => V j s && s.testBit p) 128)) n), ?_, ?_, hr⟩
    · refine bits_loop _ n hn (fun k hk x r => ?_) (fun x r => ?_)
      · unfold X8_half_h18
        have hc := cnt_le (fun s => V j s && s.testBit k) 128
        rw [hP, if_neg (nI_ge hk (by omega)), degreeOf_V (by omega), bd1_s, size_V, bd1_s, nI_1, shl1 _ (by omega), show (2 : Int32) * nI (cnt (fun s => V j s && s.testBit k) 128) = nI (2 * cnt (fun s => V j s && s.testBit k) 128) from pk_mul 2 _]
        by_cases e : cnt (V j) 128 ≤ 2 * cnt (fun s => V j s && s.testBit k) 128
        · rw [if_neg (nI_nlt e (by omega)), decide_eq_true e, if_pos rfl]
        · rw [if_pos (nI_lt (by omega) (by omega)), decide_eq_false e, if_neg (by decide)]
      · unfold X8_half_h18
        rw [hP, if_pos (nI_le (Nat.le_refl _) (by omega))]
    · refine bits_loop _ n hn (fun k hk x r => ?_) (fun x r => ?_)
      · unfold X9_half_h15
        have hc := cnt_le (fun s => V j s && s.testBit k) 128
        rw [points9 hj hM, bd1_s, if_neg (nI_ge hk (by omega)), deg9 hj hM (by omega), bd1_s, many9 hj hM, bd1_s, nI_1, shl1 _ (by omega), show (2 : Int32) * nI (cnt (fun s => V j s && s.testBit k) 128) = nI (2 * cnt (fun s => V j s && s.testBit k) 128) from pk_mul 2 _, Int32.or_zero]
        by_cases e : cnt (V j) 128 ≤ 2 * cnt (fun s => V j s && s.testBit k) 128
        · rw [if_neg (nI_nlt e (by omega)), decide_eq_true e, if_pos rfl]
        · rw [if_pos (nI_lt (by omega) (by omega)), decide_eq_false e, if_neg (by decide)]
      · unfold X9_half_h15
        rw [points9 hj hM, bd1_s, if_pos (nI_le (Nat.le_refl _) (by omega))]
  · rw [e1, bdo_n, e2, bd1_s, i00]
    exact ⟨_, rfl, rfl, hr⟩
theorem sim_next {p1 p2 : Int32} (hr : Rel cP cLo cHi ctb ctl ctf ctp cob col cso cha chs mact mtpd mfk mfpl mtom mnow mkep mtap mtol) : ∃ (r : Int32) , X8_next cP p1 p2 = some r ∧ X9_next mnow p1 p2 = some r ∧ Rel cP cLo cHi ctb ctl ctf ctp cob col cso cha chs mact mtpd mfk mfpl mtom mnow mkep mtap mtol := by
  obtain ⟨V, rfl, rfl, hV⟩ := toV cLo cHi
  unfold X8_next X9_next
  rcases famcase hV hr p1 with ⟨j, n, hj, rfl, h0, hn, hi, hP, hM, e1, e2⟩ | ⟨e1, e2⟩
  · have hq := pow_le7 hn
    rw [e1, bdo_s, isSet9 hj hM hn h0, bd1_s, X0_knows_eq hP hn, bd1_s]
    by_cases q : 0 ≤ p2.toInt ∧ p2.toInt < (2 : Int) ^ n
    · obtain ⟨m, hm1, hm2, rfl⟩ := set_of hn q
      have hpm := pc_le m
      rw [decide_eq_true q, bt0, bt0, J6_eq m hm2, bd1_s, hP, nextOfLevel_eq hn (a := m + 1) (by omega) (by omega) (nI_1 m), bd1_s]
      refine ⟨_, rfl, ?_, hr⟩
      rw [nI_1]
      refine lfp1_fstF (F := X9_next_h16 mnow (nI j) (nI m)) (fun t => pc t == pc m) (m + 1) (2 ^ n) (by omega) (fun z => some z) (fun k h1 h2 h3 r => ?_) (fun k h1 h2 h3 r => ?_) (fun r => ?_)
      · unfold X9_next_h16
        have := pc_le k
        rw [beq_eq_false_iff_ne] at h3
        rw [points9 hj hM, bd1_s, shl1 _ (by omega), if_neg (nI_ge h2 (by omega)), X9_bits_eq (by omega), bd1_s, X9_bits_eq hm2, bd1_s, if_neg (fun q => h3 ((nI_eq (by omega) (by omega)).mp q)), nI_1]
      · unfold X9_next_h16
        rw [beq_iff_eq] at h3
        rw [points9 hj hM, bd1_s, shl1 _ (by omega), if_neg (nI_ge h2 (by omega)), X9_bits_eq (by omega), bd1_s, X9_bits_eq hm2, bd1_s, if_pos (by rw [h3])]
      · unfold X9_next_h16
        rw [points9 hj hM, bd1_s, shl1 _ (by omega), if_pos (nI_le (Nat.le_refl _) (by omega))]
    · rw [decide_eq_false q, bf0, bf0]
      exact ⟨_, rfl, rfl, hr⟩
  · rw [e1, bdo_n, X9_isSet_out e2, bd1_s, i00]
    exact ⟨_, rfl, rfl, hr⟩
theorem cnt_two {a p q : Nat → Bool} {n : Nat} : cnt (fun s => a s && p s) n + cnt (fun s => a s && q s) n = cnt (fun s => a s && (p s != q s)) n + 2 * cnt (fun s => (a s && p s) && q s) n := by
  induction n with
  | zero => rfl
  | succ n ih => simp only [cnt_succ]; cases a n <;> cases p n <;> cases q n <;> simp <;> omega
theorem sim_together {p1 p2 p3 p4 : Int32} (hr : Rel cP cLo cHi ctb ctl ctf ctp cob col cso cha chs mact mtpd mfk mfpl mtom mnow mkep mtap mtol) : ∃ (r : Int32) (ocP : Nat → Int32) (ocLo : Nat → Int64) (ocHi : Nat → Int64), X8_together cP cLo cHi p1 p2 p3 p4 = some (r, ocP, ocLo, ocHi) ∧ X9_together mnow p1 p2 p3 p4 = some r ∧ Rel ocP ocLo ocHi ctb ctl ctf ctp cob col cso cha chs mact mtpd mfk mfpl mtom mnow mkep mtap mtol := by
  obtain ⟨V, rfl, rfl, hV⟩ := toV cLo cHi
  unfold X8_together X9_together
  rcases famcase hV hr p1 with ⟨j, n, hj, rfl, h0, hn, hi, hP, hM, e1, e2⟩ | ⟨e1, e2⟩
  · rw [e1, bdo_s, isPoint9 hj hM hn h0, bd1_s, X0_knowsPoint_eq hP hn, bd1_s]
    by_cases q : 0 ≤ p2.toInt ∧ p2.toInt < (n : Int)
    · obtain ⟨a, ha1, rfl⟩ := point_of hn q
      rw [decide_eq_true q, bt0, bt0, isPoint9 hj hM hn h0, bd1_s, X0_knowsPoint_eq hP hn, bd1_s]
      by_cases q2 : 0 ≤ p3.toInt ∧ p3.toInt < (n : Int)
      · obtain ⟨b, hb1, rfl⟩ := point_of hn q2
        rw [decide_eq_true q2, bt0, bt0, X9_in_n (a := 0) (b := 1) (by decide) (by decide) rfl rfl, bd1_s]
        rcases in_cases (p := p4) 0 1 (by decide) with ⟨k, _, hk, rfl⟩ | h
        · have hkk : Keeps cP (va_up cP 3 (cP j)) (LO V) (LO (va_up V 3 (fun s => (V j s && s.testBit a) && s.testBit b))) (HI V) (HI (va_up V 3 (fun s => (V j s && s.testBit a) && s.testBit b))) := (Keeps.rfl'.up 3 (by omega) _).upP 3 (by omega) _
          rw [if_neg (nI_pos (by omega)), if_pos (show nI k ≤ (1 : Int32) from nI_le (b := 1) hk (by decide)), become_V, bd3_s, keepWith_V (by omega), bd2_s, keepWith_V (by omega), bd2_s, size_V, bd1_s, nI_toInt (by omega), decide_eq_true (by omega), bt0]
          simp only [up_at, bx_uu]
          have hne : j ≠ 3 := by omega
          rcases (show k = 0 ∨ k = 1 by omega) with rfl | rfl
          · rw [if_pos (show nI 0 = (0 : Int32) from rfl)]
            refine ⟨_, _, _, _, rfl, ?_, hr.keep hkk⟩
            have := lfp2_cnt (F := X9_together_h38 mnow (nI j) (nI 0) (nI a) (nI b)) (fun s => (V j s && s.testBit a) && s.testBit b) 128 0 (fun a => some (nI a)) (fun s hs x r => by
              unfold X9_together_h38
              rw [if_neg (inn128 hs), isIn9 hj hM hs, bd1_s, if_pos (show nI 0 = (0 : Int32) from rfl), X9_hasBit_eq hs (by omega), bd1_s, X9_hasBit_eq hs (by omega), bd1_s, ib0, ib0, ib0, nI_1, nI_1, Int32.add_zero]
              cases V j s <;> cases s.testBit a <;> cases s.testBit b <;> rfl) (fun a r => by
              unfold X9_together_h38
              rw [if_pos i128])
            rw [Nat.zero_add] at this
            exact this
          · rw [if_neg (show ¬ nI 1 = (0 : Int32) by decide), degreeOf_V (by omega), bd1_s, degreeOf_V (by omega), bd1_s, up_ne hne, nI_add, show (2 : Int32) * nI (cnt (fun s => (V j s && s.testBit a) && s.testBit b) 128) = nI (2 * cnt (fun s => (V j s && s.testBit a) && s.testBit b) 128) from pk_mul 2 _, cnt_two, pk_sub (by omega), Nat.add_sub_cancel]
            refine ⟨_, _, _, _, rfl, ?_, hr.keep hkk⟩
            have := lfp2_cnt (F := X9_together_h38 mnow (nI j) (nI 1) (nI a) (nI b)) (fun s => V j s && (s.testBit a != s.testBit b)) 128 0 (fun a => some (nI a)) (fun s hs x r => by
              unfold X9_together_h38
              rw [if_neg (inn128 hs), isIn9 hj hM hs, bd1_s, if_neg (show ¬ nI 1 = (0 : Int32) by decide), X9_hasBit_eq hs (by omega), bd1_s, X9_hasBit_eq hs (by omega), bd1_s, ib0, nI_1, nI_1, Int32.add_zero]
              cases V j s <;> cases s.testBit a <;> cases s.testBit b <;> rfl) (fun a r => by
              unfold X9_together_h38
              rw [if_pos i128])
            rw [Nat.zero_add] at this
            exact this
        · rw [decide_eq_false h, bf0]
          refine ⟨-2, _, _, _, ?_, rfl, hr⟩
          exact outA h rfl rfl
      · rw [decide_eq_false q2, bf0, bf0]
        exact ⟨_, _, _, _, rfl, rfl, hr⟩
    · rw [decide_eq_false q, bf0, bf0]
      exact ⟨_, _, _, _, rfl, rfl, hr⟩
  · rw [e1, bdo_n, X9_isPoint_out e2, bd1_s, i00]
    exact ⟨_, _, _, _, rfl, rfl, hr⟩
end SIM
