/-! a round is an order of its points -/
theorem layL_fn : ∀ j R v, R < 128 → pc R = j → v < fac j → (∀ x, x < j → R.testBit ((layL j R v).getD x 0) = true) ∧ (∀ x y, x < j → y < j → (layL j R v).getD x 0 = (layL j R v).getD y 0 → x = y) := by
  intro j
  induction j with
  | zero => intro R v _ _ _; exact ⟨fun x hx => by omega, fun x y hx => by omega⟩
  | succ j ih =>
    intro R v hR hp hv
    obtain ⟨a, h1, h2, h3, h4⟩ := pt_ex (R := R) (q := v / fac j) (by rw [hp]; exact div_facs hv)
    obtain ⟨c1, c2⟩ := clr_fact R hR a h1 h2
    have hx : R ^^^ 2 ^ a < 128 := xor_128 hR (by have : 2 ^ a < 2 ^ 7 := Nat.pow_lt_pow_right (by decide) h1; exact this)
    obtain ⟨i1, i2⟩ := ih (R ^^^ 2 ^ a) (v % fac j) hx (by omega) (Nat.mod_lt _ (fac_pos j))
    have e : layL (j + 1) R v = a :: layL j (R ^^^ 2 ^ a) (v % fac j) := by
      show ptN R (v / fac j) :: layL j (R ^^^ 2 ^ ptN R (v / fac j)) (v % fac j) = _
      rw [h4]
    rw [e]
    have key : ∀ x, x < j → R.testBit ((layL j (R ^^^ 2 ^ a) (v % fac j)).getD x 0) = true ∧ (layL j (R ^^^ 2 ^ a) (v % fac j)).getD x 0 ≠ a := fun x hx => by
      have := i1 x hx
      generalize (layL j (R ^^^ 2 ^ a) (v % fac j)).getD x 0 = b at this
      rw [Nat.testBit_xor, Nat.testBit_two_pow] at this
      by_cases w : a = b
      · subst w; rw [h2, decide_eq_true rfl] at this; cases this
      · rw [decide_eq_false w, Bool.xor_false] at this
        exact ⟨this, fun q => w q.symm⟩
    constructor
    · intro x hx
      cases x with
      | zero => exact h2
      | succ x => exact (key x (by omega)).1
    · intro x y hx hy q
      cases x with
      | zero =>
        cases y with
        | zero => rfl
        | succ y => exact absurd q.symm (key y (by omega)).2
      | succ x =>
        cases y with
        | zero => exact absurd q (key x (by omega)).2
        | succ y => rw [i2 x y (by omega) (by omega) q]
theorem rho_fn {n v : Nat} (h0 : 0 < n) (hn : n ≤ 7) (hv : v < fac (n - 1)) : (∀ x, x < n → rho n v x < n) ∧ (∀ x, x < n → ∀ y, y < n → rho n v x = rho n v y → x = y) := by
  obtain ⟨q1, q2⟩ := pc_ones (n - 1) (by omega)
  obtain ⟨i1, i2⟩ := layL_fn (n - 1) (2 ^ (n - 1) - 1) v q2 q1 hv
  have key : ∀ x, x < n - 1 → (layL (n - 1) (2 ^ (n - 1) - 1) v).getD x 0 < n - 1 := fun x hx => by
    have := i1 x hx
    rw [Nat.testBit_two_pow_sub_one, decide_eq_true_eq] at this
    exact this
  constructor
  · intro x hx
    cases x with
    | zero => show n - 1 < n; omega
    | succ x =>
      have := key x (by omega)
      show (layL (n - 1) (2 ^ (n - 1) - 1) v).getD x 0 < n
      omega
  · intro x hx y hy q
    cases x with
    | zero =>
      cases y with
      | zero => rfl
      | succ y =>
        have h1 := key y (by omega)
        have h2 : n - 1 = (layL (n - 1) (2 ^ (n - 1) - 1) v).getD y 0 := q
        omega
    | succ x =>
      cases y with
      | zero =>
        have h1 := key x (by omega)
        have h2 : (layL (n - 1) (2 ^ (n - 1) - 1) v).getD x 0 = n - 1 := q
        omega
      | succ y => rw [i2 x y (by omega) (by omega) q]
theorem rowAt_getD : ∀ (l : List Nat) x, x < l.length → rowAt l x = nI (l.getD x 0)
  | [], _, h => by cases h
  | _ :: _, 0, _ => rfl
  | _ :: l, x + 1, h => rowAt_getD l x (by rw [List.length_cons] at h; omega)
theorem rd_rho {n v x : Nat} {c : Nat → Int32} (h0 : 0 < n) (hn : n ≤ 7) (hx : x < n) : fillL c 0 (rdL n v) x = nI (rho n v x) := by
  rw [rd_at hn h0 hx, rowAt_getD _ _ (by rw [rdL_len h0]; exact hx)]; rfl
/-! arcs by their places -/
section
variable {ρ : Nat → Nat} {n : Nat}
theorem Mk_bit (i : Nat) : ∀ l p, (Mk ρ n i l).testBit p = true ↔ ∃ u, u < l ∧ ρ ((i + u) % n) = p := by
  intro l
  induction l with
  | zero =>
    intro p
    show Nat.testBit 0 p = true ↔ _
    rw [Nat.zero_testBit]
    exact ⟨(fun h => by cases h), (fun ⟨u, h, _⟩ => by omega)⟩
  | succ l ih =>
    intro p
    show (Mk ρ n i l ||| 2 ^ ρ ((i + l) % n)).testBit p = true ↔ _
    rw [Nat.testBit_or, Bool.or_eq_true, ih p, Nat.testBit_two_pow, decide_eq_true_eq]
    constructor
    · rintro (⟨u, h1, h2⟩ | h)
      · exact ⟨u, by omega, h2⟩
      · exact ⟨l, by omega, h⟩
    · rintro ⟨u, h1, h2⟩
      by_cases e : u = l
      · subst e; exact Or.inr h2
      · exact Or.inl ⟨u, by omega, h2⟩
theorem Mk_lt (h0 : 0 < n) (hρ : ∀ x, x < n → ρ x < n) (i : Nat) : ∀ l, Mk ρ n i l < 2 ^ n := by
  intro l
  induction l with
  | zero => exact Nat.two_pow_pos n
  | succ l ih => exact Nat.or_lt_two_pow ih (Nat.pow_lt_pow_right (by decide) (hρ _ (Nat.mod_lt _ h0)))
def tm (ρ : Nat → Nat) (s : Nat) : Nat → Nat
  | 0 => 0
  | x + 1 => tm ρ s x ||| (if s.testBit (ρ x) = true then 2 ^ x else 0)
theorem tm_lt (s : Nat) : ∀ k, tm ρ s k < 2 ^ k := by
  intro k
  induction k with
  | zero => exact Nat.one_pos
  | succ k ih =>
    show tm ρ s k ||| (if s.testBit (ρ k) = true then 2 ^ k else 0) < 2 ^ (k + 1)
    have h1 : tm ρ s k < 2 ^ (k + 1) := Nat.lt_of_lt_of_le ih (Nat.pow_le_pow_right (by decide) (by omega))
    refine Nat.or_lt_two_pow h1 ?_
    split
    · exact Nat.pow_lt_pow_right (by decide) (by omega)
    · exact Nat.two_pow_pos _
theorem tm_bit (s : Nat) : ∀ k x, (tm ρ s k).testBit x = (decide (x < k) && s.testBit (ρ x)) := by
  intro k
  induction k with
  | zero => intro x; show Nat.testBit 0 x = _; rw [Nat.zero_testBit, decide_eq_false (by omega), Bool.false_and]
  | succ k ih =>
    intro x
    show (tm ρ s k ||| (if s.testBit (ρ k) = true then 2 ^ k else 0)).testBit x = _
    rw [Nat.testBit_or, ih x]
    by_cases e : x = k
    · subst e
      rw [decide_eq_false (Nat.lt_irrefl x), Bool.false_and, Bool.false_or, decide_eq_true (Nat.lt_succ_self x), Bool.true_and]
      cases hb : s.testBit (ρ x) with
      | true => rw [if_pos rfl, Nat.testBit_two_pow, decide_eq_true rfl]
      | false => rw [if_neg Bool.false_ne_true, Nat.zero_testBit]
    · have h1 : (if s.testBit (ρ k) = true then 2 ^ k else 0).testBit x = false := by
        split
        · rw [Nat.testBit_two_pow, decide_eq_false (fun q => e q.symm)]
        · exact Nat.zero_testBit x
      rw [h1, Bool.or_false, decide_eq_decide.mpr (show x < k ↔ x < k + 1 by omega)]
theorem eqN {a b : Nat} (ha : a < 2 ^ n) (hb : b < 2 ^ n) (h : ∀ p, p < n → a.testBit p = b.testBit p) : a = b :=
  Nat.eq_of_testBit_eq fun p => by
    by_cases q : p < n
    · exact h p q
    · have hp : 2 ^ n ≤ 2 ^ p := Nat.pow_le_pow_right (by decide) (by omega)
      rw [Nat.testBit_lt_two_pow (by omega), Nat.testBit_lt_two_pow (by omega)]
theorem tr_eq (h0 : 0 < n) (hρ : ∀ x, x < n → ρ x < n) (hi : ∀ x, x < n → ∀ y, y < n → ρ x = ρ y → x = y) {s : Nat} (hs : s < 2 ^ n) (i l : Nat) : Mk ρ n i l = s ↔ Mk (fun x => x) n i l = tm ρ s n := by
  have hb : ∀ x, x < n → ((Mk ρ n i l).testBit (ρ x) = true ↔ (Mk (fun x => x) n i l).testBit x = true) := fun x hx => by
    rw [Mk_bit, Mk_bit]
    constructor
    · rintro ⟨u, h1, h2⟩
      exact ⟨u, h1, hi _ (Nat.mod_lt _ h0) x hx h2⟩
    · rintro ⟨u, h1, h2⟩
      exact ⟨u, h1, by rw [show (i + u) % n = x from h2]⟩
  constructor
  · intro e
    refine eqN (Mk_lt h0 (fun x hx => hx) i l) (tm_lt s n) fun x hx => ?_
    rw [tm_bit, decide_eq_true hx, Bool.true_and, ← e]
    exact Bool.eq_iff_iff.mpr (hb x hx).symm
  · intro e
    refine eqN (Mk_lt h0 hρ i l) hs fun p hp => ?_
    obtain ⟨x, hx, rfl⟩ := inj_surj n ρ hρ hi p hp
    have h1 := tm_bit (ρ := ρ) s n x
    rw [decide_eq_true hx, Bool.true_and, ← e] at h1
    rw [← h1]
    exact Bool.eq_iff_iff.mpr (hb x hx)
def runsR (ρ : Nat → Nat) (n s : Nat) : Nat := cnt (fun x => s.testBit (ρ x) && !s.testBit (ρ ((x + n - 1) % n))) n
theorem arc_claim (h0 : 0 < n) (hn : n ≤ 7) (hρ : ∀ x, x < n → ρ x < n) (hi : ∀ x, x < n → ∀ y, y < n → ρ x = ρ y → x = y) {s : Nat} (hs : s < 2 ^ n) : (if runsR ρ n s ≤ 1 then 1 else 0) = (if 0 = s then 1 else 0) + (if 2 ^ n - 1 = s then 1 else 0) + arcsAt ρ n s := by
  have hp := Nat.two_pow_pos n
  have hr : runsR ρ n s = runs n (tm ρ s n) := cnt_congr fun x hx => by
    rw [tm_bit, tm_bit, decide_eq_true hx, decide_eq_true (Nat.mod_lt _ h0), Bool.true_and, Bool.true_and]
  have ha : arcsAt ρ n s = arcsAt (fun x => x) n (tm ρ s n) := sm_congr fun i _ => sm_congr fun l _ => by
    by_cases w : Mk ρ n i (l + 1) = s
    · rw [if_pos w, if_pos ((tr_eq h0 hρ hi hs i (l + 1)).mp w)]
    · rw [if_neg w, if_neg (fun q => w ((tr_eq h0 hρ hi hs i (l + 1)).mpr q))]
  have ez : 0 = s ↔ tm ρ s n = 0 := by
    constructor
    · intro e
      refine eqN (tm_lt s n) hp fun x hx => ?_
      rw [tm_bit, ← e, Nat.zero_testBit, Nat.zero_testBit, Bool.and_false]
    · intro e
      refine eqN hp hs fun p hp => ?_
      obtain ⟨x, hx, rfl⟩ := inj_surj n ρ hρ hi p hp
      have h1 := tm_bit (ρ := ρ) s n x
      rw [decide_eq_true hx, Bool.true_and, e, Nat.zero_testBit] at h1
      rw [← h1, Nat.zero_testBit]
  have ef : 2 ^ n - 1 = s ↔ tm ρ s n = 2 ^ n - 1 := by
    constructor
    · intro e
      refine eqN (tm_lt s n) (by omega) fun x hx => ?_
      rw [tm_bit, ← e, Nat.testBit_two_pow_sub_one, Nat.testBit_two_pow_sub_one, decide_eq_true hx, decide_eq_true (hρ x hx)]; rfl
    · intro e
      refine eqN (by omega) hs fun p hp => ?_
      obtain ⟨x, hx, rfl⟩ := inj_surj n ρ hρ hi p hp
      have h1 := tm_bit (ρ := ρ) s n x
      rw [decide_eq_true hx, Bool.true_and, e, Nat.testBit_two_pow_sub_one, decide_eq_true hx] at h1
      rw [← h1, Nat.testBit_two_pow_sub_one, decide_eq_true (hρ x hx)]
  rw [hr, ha, runs_tbl n (by omega) h0 (tm ρ s n) (tm_lt s n)]
  congr 1
  congr 1
  · by_cases w : 0 = s
    · rw [if_pos w, if_pos (ez.mp w)]
    · rw [if_neg w, if_neg (fun q => w (ez.mpr q))]
  · by_cases w : 2 ^ n - 1 = s
    · rw [if_pos w, if_pos (ef.mp w)]
    · rw [if_neg w, if_neg (fun q => w (ef.mpr q))]
theorem isArc_9 {m : Nat → Int32} {s : Nat} (h0 : 0 < n) (hn : n ≤ 7) (hρ : ∀ x, x < n → ρ x < n) (hm : ∀ x, x < n → m x = nI (ρ x)) (hs : s < 128) : X9_isArc m (nI n) (nI s) = some (b01 (decide (runsR ρ n s ≤ 1))) := by
  unfold X9_isArc
  have := lfp2_cnt (F := X9_isArc_h5 (nI n) (nI s) m) (fun x => s.testBit (ρ x) && !s.testBit (ρ ((x + n - 1) % n))) n 0 (fun a => if (1 : Int32) < nI a then some 0 else some 1) (fun x hx a r => ?_) (fun a r => ?_)
  · have hle := cnt_le (fun x => s.testBit (ρ x) && !s.testBit (ρ ((x + n - 1) % n))) n
    rw [show lfp2 (X9_isArc_h5 (nI n) (nI s) m) 0 0 = _ from this, Nat.zero_add]
    show (if (1 : Int32) < nI (runsR ρ n s) then some 0 else some 1) = _
    have hle2 : runsR ρ n s ≤ n := hle
    by_cases w : runsR ρ n s ≤ 1
    · rw [if_neg (show ¬ (1 : Int32) < nI (runsR ρ n s) from nI_nlt (a := 1) w (by decide)), decide_eq_true w]; rfl
    · rw [if_pos (show (1 : Int32) < nI (runsR ρ n s) from nI_lt (a := 1) (by omega) (by omega)), decide_eq_false w]; rfl
  · have hy : (x + n - 1) % n < n := Nat.mod_lt _ h0
    unfold X9_isArc_h5
    rw [if_neg (nI_ge hx (by omega)), gin_nI (by omega) (by decide), nI_clamp (by omega), hm x hx, X9_hasBit_eq hs (by have := hρ x hx; omega), bd1_s, gnz_nI h0 (by omega), nI_add, nI_m1 (by omega), pk_rem (by omega) h0 (by omega), gin_nI (by omega) (by decide), nI_clamp (by omega), hm _ hy, X9_hasBit_eq hs (by have := hρ _ hy; omega), bd1_s, ib0, ib0, nI_1, nI_1, Int32.add_zero]
    cases s.testBit (ρ x) <;> cases s.testBit (ρ ((x + n - 1) % n)) <;> rfl
  · unfold X9_isArc_h5
    rw [if_pos (nI_le (Nat.le_refl _) (by omega))]
end
