/-! fractions in their lowest terms -/
theorem gcd_step (a b : Nat) : Nat.gcd b (a % b) = Nat.gcd a b := by
  rw [Nat.gcd_comm b (a % b), ← Nat.gcd_rec b a, Nat.gcd_comm]
theorem gcd_le_r {a b : Nat} (h : 0 < b) : Nat.gcd a b ≤ b := Nat.le_of_dvd h (Nat.gcd_dvd_right a b)
theorem lowest {x y u v : Nat} (hy : 0 < y) (hv : 0 < v) (h : x * v = y * u) : x / Nat.gcd x y = u / Nat.gcd u v ∧ y / Nat.gcd x y = v / Nat.gcd u v := by
  have hd : 0 < Nat.gcd x y := Nat.gcd_pos_of_pos_right x hy
  have he : 0 < Nat.gcd u v := Nat.gcd_pos_of_pos_right u hv
  have e1 : Nat.gcd x y * v = y * Nat.gcd u v := by rw [← Nat.gcd_mul_right, ← Nat.gcd_mul_left, h]
  have e2 : Nat.gcd x y * u = x * Nat.gcd u v := by rw [← Nat.gcd_mul_right, ← Nat.gcd_mul_left, ← h]
  have k : ∀ p q : Nat, Nat.gcd x y ∣ p → Nat.gcd u v ∣ q → Nat.gcd x y * q = p * Nat.gcd u v → p / Nat.gcd x y = q / Nat.gcd u v := by
    rintro p q ⟨p', hp⟩ ⟨q', hq⟩ e
    generalize Nat.gcd x y = d at *
    generalize Nat.gcd u v = g at *
    subst hp hq
    rw [Nat.mul_div_cancel_left _ hd, Nat.mul_div_cancel_left _ he]
    have : d * g * q' = d * g * p' := by rw [Nat.mul_assoc, e, Nat.mul_assoc d p', Nat.mul_comm p' g, ← Nat.mul_assoc]
    exact (Nat.eq_of_mul_eq_mul_left (Nat.mul_pos hd he) this).symm
  exact ⟨k x u (Nat.gcd_dvd_left x y) (Nat.gcd_dvd_left u v) e2, k y v (Nat.gcd_dvd_right x y) (Nat.gcd_dvd_right u v) e1⟩
theorem divisor_9 : ∀ b, b < 2 ^ 63 → ∀ a, a < 2 ^ 63 → lfp2 X9_divisor_h6 (lN a) (lN b) = some (lN (Nat.gcd a b)) := by
  intro b
  induction b using Nat.strongRecOn with
  | _ b ih =>
    intro hb a ha
    by_cases q : b = 0
    · subst q
      refine lfp2_done fun r => ?_
      unfold X9_divisor_h6
      rw [if_pos (show lg_cmp (lN 0) 0 = 0 from lgc0.mpr rfl), Nat.gcd_zero_right]
    · have hr : a % b < b := Nat.mod_lt a (by omega)
      refine (lfp2_step (fun r => ?_)).trans ((ih (a % b) hr (by omega) b hb).trans (by rw [gcd_step]))
      unfold X9_divisor_h6
      rw [if_neg (fun w => lN_nz (by omega) hb (lgc0.mp w)), gnzL_lN (by omega) hb, pk_lRem ha (by omega) hb]
theorem divisor_c : ∀ k a b t, a < 2 ^ 63 → b < 2 ^ 63 → b < 2 ^ k → t + 2 * k + 1 ≤ 1000 → lfp3 X2_commonDivisor_h9 (lN a) (lN b) (nI t) = some (lN (Nat.gcd a b)) := by
  have done0 : ∀ a t, t < 1000 → lfp3 X2_commonDivisor_h9 (lN a) (lN 0) (nI t) = some (lN (Nat.gcd a 0)) := fun a t ht => by
    refine lfp3_done fun r => ?_
    unfold X2_commonDivisor_h9
    rw [if_neg (show ¬ (1000 : Int32) ≤ nI t from nI_ge (b := 1000) ht (by decide)), if_pos (show lg_cmp (lN 0) 0 = 0 from lgc0.mpr rfl), Nat.gcd_zero_right]
  have step : ∀ a b t, a < 2 ^ 63 → b < 2 ^ 63 → 0 < b → t < 1000 → lfp3 X2_commonDivisor_h9 (lN a) (lN b) (nI t) = lfp3 X2_commonDivisor_h9 (lN b) (lN (a % b)) (nI (t + 1)) := fun a b t ha hb h0 ht => by
    refine lfp3_step (fun r => ?_)
    unfold X2_commonDivisor_h9
    rw [if_neg (show ¬ (1000 : Int32) ≤ nI t from nI_ge (b := 1000) ht (by decide)), if_neg (fun w => lN_nz h0 hb (lgc0.mp w)), gnzL_lN h0 hb, pk_lRem ha h0 hb, nI_1]
  intro k
  induction k with
  | zero =>
    intro a b t ha hb hk ht
    obtain rfl : b = 0 := by omega
    exact done0 a t (by omega)
  | succ k ih =>
    intro a b t ha hb hk ht
    by_cases q : b = 0
    · subst q; exact done0 a t (by omega)
    · have hr : a % b < b := Nat.mod_lt a (by omega)
      rw [step a b t ha hb (by omega) (by omega), ← gcd_step a b]
      by_cases q2 : a % b = 0
      · rw [q2]; exact done0 b (t + 1) (by omega)
      · have hr2 : b % (a % b) < a % b := Nat.mod_lt b (by omega)
        have hr3 : b % (a % b) + (a % b) ≤ b := by
          have h1 := Nat.div_add_mod b (a % b)
          have h2 : 1 ≤ b / (a % b) := (Nat.le_div_iff_mul_le (by omega)).mpr (by omega)
          have h3 : (a % b) * 1 ≤ (a % b) * (b / (a % b)) := Nat.mul_le_mul_left _ h2
          omega
        rw [step b (a % b) (t + 1) hb (by omega) (by omega) (by omega), ← gcd_step b (a % b)]
        rw [Nat.pow_succ] at hk
        exact ih (a % b) (b % (a % b)) (t + 1 + 1) (by omega) (by omega) (by omega) (by omega)
theorem quotient_c {a b : Nat} (ha : a < 2 ^ 63) (h0 : 0 < b) (hb : b < 2 ^ 63) : X2_quotient (lN a) (lN b) = some (lN (a / b)) := by
  unfold X2_quotient
  rw [if_neg (fun w => lN_nz h0 hb (lgc0.mp w)), gnzL_lN h0 hb, pk_lDiv ha h0 hb]
/-! the sum -/
theorem sm_one {p N : Nat} (hp : p < N) (b : Bool) (q : Nat → Nat) : sm (fun k => (if ((p == k) && b) = true then 1 else 0) * q k) N = if b = true then q p else 0 := by
  have hz : ∀ M, M ≤ p → sm (fun k => (if ((p == k) && b) = true then 1 else 0) * q k) M = 0 := by
    intro M
    induction M with
    | zero => exact fun _ => rfl
    | succ M ih =>
      intro h
      show sm (fun k => (if ((p == k) && b) = true then 1 else 0) * q k) M + (if ((p == M) && b) = true then 1 else 0) * q M = 0
      rw [ih (by omega), beq_eq_false_iff_ne.mpr (show p ≠ M by omega), Bool.false_and, if_neg Bool.false_ne_true, Nat.zero_mul]
  induction N with
  | zero => omega
  | succ N ih =>
    show sm (fun k => (if ((p == k) && b) = true then 1 else 0) * q k) N + (if ((p == N) && b) = true then 1 else 0) * q N = _
    by_cases e : p = N
    · subst e
      rw [hz p (Nat.le_refl p), beq_self_eq_true, Bool.true_and]
      cases b <;> simp
    · rw [ih (by omega), beq_eq_false_iff_ne.mpr e, Bool.false_and, if_neg Bool.false_ne_true, Nat.zero_mul, Nat.add_zero]
theorem sm_levels {n : Nat} (f : Nat → Bool) (q : Nat → Nat) : ∀ S, (∀ s, s < S → pc s ≤ n) → sm (fun k => cnt (fun s => (pc s == k) && f s) S * q k) (n + 1) = smF f (fun s => q (pc s)) S := by
  intro S
  induction S with
  | zero =>
    intro _
    rw [sm_congr (g := fun k => cnt (fun s => (pc s == k) && f s) 0 * q k) (h := fun _ => 0) (fun k _ => Nat.zero_mul _), sm_const]; rfl
  | succ S ih =>
    intro h
    rw [smF_s, ← ih (fun s hs => h s (by omega)), ← sm_one (p := pc S) (N := n + 1) (by have := h S (by omega); omega) (f S) q, ← sm_add]
    refine sm_congr fun k _ => ?_
    rw [cnt_succ, Nat.add_mul]
theorem div420 : ∀ n, n < 8 → ∀ k, k < n + 1 → 0 < ch n k ∧ ch n k ≤ 35 ∧ 420 / ch n k * ch n k = 420 := by decide
/-- the sum over the first levels, in parts of 420 -/
def TL (n : Nat) (f : Nat → Bool) (l : Nat) : Nat := sm (fun k => cnt (fun s => (pc s == k) && f s) (2 ^ n) * (420 / ch n k)) l
theorem TL_le {n : Nat} {f : Nat → Bool} (hn : n ≤ 7) : ∀ l, l ≤ n + 1 → TL n f l ≤ l * 53760 := by
  intro l
  induction l with
  | zero => exact fun _ => Nat.zero_le _
  | succ l ih =>
    intro h
    have h1 := ih (by omega)
    have h2 : cnt (fun s => (pc s == l) && f s) (2 ^ n) ≤ 128 := Nat.le_trans (cnt_le _ _) (pow_le7 hn)
    have h3 : 420 / ch n l ≤ 420 := Nat.div_le_self _ _
    have h4 := Nat.mul_le_mul h2 h3
    show TL n f l + cnt (fun s => (pc s == l) && f s) (2 ^ n) * (420 / ch n l) ≤ _
    omega
theorem sum_alg {T w c q g : Nat} (hq : q * c = 420) (hg : g ∣ T) (hg2 : g ∣ 420) (hg0 : 0 < g) : (T / g * c + 420 / g * w) * 420 = (420 / g * c) * (T + w * q) := by
  obtain ⟨a, rfl⟩ := hg
  obtain ⟨b, hb⟩ := hg2
  have e : 420 / g = b := by rw [hb, Nat.mul_div_cancel_left _ hg0]
  rw [Nat.mul_div_cancel_left _ hg0, e, Nat.add_mul, Nat.mul_add]
  congr 1
  · rw [hb]; ac_rfl
  · rw [← hq]; ac_rfl
theorem sum_V {cP : Nat → Int32} {V : Nat → Nat → Bool} {j n : Nat} {p2 : Int32} (hP : cP j = nI n) (hn : n ≤ 7) : lfp3 (X8_sum_h31 cP j p2 (LO V) (HI V)) (0 : Int64) (1 : Int64) 0 = some (if p2 = 0 then nI (TL n (V j) (n + 1) / Nat.gcd (TL n (V j) (n + 1)) 420) else nI (420 / Nat.gcd (TL n (V j) (n + 1)) 420)) := by
  have main := lfp3_for (F := X8_sum_h31 cP j p2 (LO V) (HI V)) (y := some (if p2 = 0 then nI (TL n (V j) (n + 1) / Nat.gcd (TL n (V j) (n + 1)) 420) else nI (420 / Nat.gcd (TL n (V j) (n + 1)) 420))) (n + 1) (fun l => lN (TL n (V j) l / Nat.gcd (TL n (V j) l) 420)) (fun l => lN (420 / Nat.gcd (TL n (V j) l) 420)) (fun l => nI l) (fun l hl r => ?_) (fun r => ?_)
  · simp only [show TL n (V j) 0 = 0 from rfl, Nat.gcd_zero_left] at main
    exact main
  · have hT := TL_le (f := V j) hn l (by omega)
    obtain ⟨hc0, hc1, hc2⟩ := div420 n (by omega) l hl
    have hw : cnt (fun s => (pc s == l) && V j s) (2 ^ n) ≤ 128 := Nat.le_trans (cnt_le _ _) (pow_le7 hn)
    have hs : TL n (V j) (l + 1) = TL n (V j) l + cnt (fun s => (pc s == l) && V j s) (2 ^ n) * (420 / ch n l) := rfl
    have hg0 : 0 < Nat.gcd (TL n (V j) l) 420 := Nat.gcd_pos_of_pos_right _ (by decide)
    have hgd := Nat.gcd_dvd_left (TL n (V j) l) 420
    have hgd2 := Nat.gcd_dvd_right (TL n (V j) l) 420
    have hbin : X2_binomial (cP j) (nI l) = some (lN (ch n l)) := by rw [hP]; exact binomial_c (Or.inr ⟨by omega, by omega⟩)
    have halg := sum_alg (T := TL n (V j) l) (w := cnt (fun s => (pc s == l) && V j s) (2 ^ n)) hc2 hgd hgd2 hg0
    rw [← hs] at halg
    have ha : TL n (V j) l / Nat.gcd (TL n (V j) l) 420 ≤ 430080 := Nat.le_trans (Nat.div_le_self _ _) (by omega)
    have hb : 420 / Nat.gcd (TL n (V j) l) 420 ≤ 420 := Nat.div_le_self _ _
    have hb0 : 0 < 420 / Nat.gcd (TL n (V j) l) 420 := Nat.div_pos (Nat.le_of_dvd (by decide) hgd2) hg0
    unfold X8_sum_h31
    rw [hbin, bd1_s, sizeOfLevel_V hP hn (by omega), bd1_s, hP, if_neg (nI_nlt (by omega) (by omega)), nI_l (by omega)]
    simp only [lN_mul, lN_add]
    generalize TL n (V j) l / Nat.gcd (TL n (V j) l) 420 = a at *
    generalize 420 / Nat.gcd (TL n (V j) l) 420 = b at *
    generalize cnt (fun s => (pc s == l) && V j s) (2 ^ n) = w at *
    generalize TL n (V j) (l + 1) = T' at *
    have h1 : a * ch n l ≤ 430080 * 35 := Nat.mul_le_mul ha hc1
    have h2 : b * w ≤ 420 * 128 := Nat.mul_le_mul hb hw
    have h3 : b * ch n l ≤ 420 * 35 := Nat.mul_le_mul hb hc1
    have h4 : 0 < b * ch n l := Nat.mul_pos hb0 hc0
    obtain ⟨e1, e2⟩ := lowest (x := a * ch n l + b * w) (y := b * ch n l) (u := T') (v := 420) h4 (by decide) halg
    have h5 : 0 < Nat.gcd (a * ch n l + b * w) (b * ch n l) := Nat.gcd_pos_of_pos_right _ h4
    have h6 := gcd_le_r (a := a * ch n l + b * w) h4
    have hcd : X2_commonDivisor (lN (a * ch n l + b * w)) (lN (b * ch n l)) = some (lN (Nat.gcd (a * ch n l + b * w) (b * ch n l))) := divisor_c 14 _ _ 0 (by omega) (by omega) (by omega) (by decide)
    rw [hcd, bd1_s, quotient_c (by omega) h5 (by omega), bd1_s, quotient_c (by omega) h5 (by omega), bd1_s, e1, e2, nI_1]
  · unfold X8_sum_h31
    rw [hP, if_pos (nI_lt (by omega) (by omega)), lN_i, lN_i]
    split <;> rfl
theorem addB {a b k c : Nat} (h1 : a ≤ k * c) (h2 : b ≤ c) : a + b ≤ (k + 1) * c := by
  rw [Nat.succ_mul]; omega
theorem sum_9 {mnow : Nat → Int32} {j n : Nat} {f : Nat → Bool} {p2 : Int32} (hj : j < 3) (hM : FamM mnow (129 * j) (n, f)) (hn : n ≤ 7) (hi : inN n f) : lfp2 (X9_sum_h31 p2 mnow (nI j)) (0 : Int64) 0 = some (if p2 = 0 then nI (smF f (fun s => 420 / ch n (pc s)) 128 / Nat.gcd (smF f (fun s => 420 / ch n (pc s)) 128) 420) else nI (420 / Nat.gcd (smF f (fun s => 420 / ch n (pc s)) 128) 420)) := by
  have hB : ∀ k, smF f (fun s => 420 / ch n (pc s)) k ≤ k * 420 := by
    intro k
    induction k with
    | zero => rw [show smF f (fun s => 420 / ch n (pc s)) 0 = 0 from rfl]; exact Nat.zero_le _
    | succ k ih =>
      rw [smF_s]
      refine addB ih ?_
      cases f k with
      | false => exact Nat.zero_le _
      | true => exact Nat.div_le_self _ _
  have main := lfp2_for (F := X9_sum_h31 p2 mnow (nI j)) (y := some (if p2 = 0 then nI (smF f (fun s => 420 / ch n (pc s)) 128 / Nat.gcd (smF f (fun s => 420 / ch n (pc s)) 128) 420) else nI (420 / Nat.gcd (smF f (fun s => 420 / ch n (pc s)) 128) 420))) 128 (fun k => lN (smF f (fun s => 420 / ch n (pc s)) k)) (fun k => nI k) (fun k hk r => ?_) (fun r => ?_)
  · exact main
  · unfold X9_sum_h31
    rw [if_neg (inn128 hk), isIn9 hj hM hk, bd1_s, smF_s]
    cases hf : f k with
    | false =>
      rw [bf0, nI_1, Int64.add_zero]; rfl
    | true =>
      have hp := pc_n n hn k (hi k hf)
      obtain ⟨hc0, hc1, hc2⟩ := div420 n (by omega) (pc k) (by omega)
      rw [bt0, if_pos rfl, points9 hj hM, bd1_s, X9_bits_eq hk, bd1_s, chosen_c (Or.inr ⟨by omega, by omega⟩), bd1_s, gnzL_lN hc0 (by omega), show (420 : Int64) = lN 420 from rfl, pk_lDiv (by decide) hc0 (by omega), lN_add, nI_1]
  · have hT := hB 128
    have hg0 : 0 < Nat.gcd 420 (smF f (fun s => 420 / ch n (pc s)) 128) := Nat.gcd_pos_of_pos_left _ (by decide)
    have hg1 : Nat.gcd 420 (smF f (fun s => 420 / ch n (pc s)) 128) ≤ 420 := Nat.le_of_dvd (by decide) (Nat.gcd_dvd_left _ _)
    unfold X9_sum_h31 X9_divisor
    rw [if_pos i128, show (420 : Int64) = lN 420 from rfl, divisor_9 _ (by omega) _ (by decide), bd1_s, gnzL_lN hg0 (by omega), gnzL_lN hg0 (by omega), pk_lDiv (by omega) hg0 (by omega), pk_lDiv (by decide) hg0 (by omega), lN_i, lN_i, Nat.gcd_comm]
    split <;> rfl
section SIM
variable {cP : Nat → Int32} {cLo : Nat → Int64} {cHi : Nat → Int64} {cpl : Nat → Int32} {ctb : Nat → Int32} {ctl : Int32} {ctf : Int32} {ctp : Int32} {ctk : Int32} {cts : Int32} {cth : Int32} {cob : Nat → Int32} {col : Int32} {cso : Nat → Int32} {cha : Int32} {chs : Int32} {cbe : Int32} {ctr : Int32} {cgl : Nat → Int64} {cgh : Nat → Int64} {cll : Nat → Int64} {clh : Nat → Int64} {cta : Nat → Int32} {cme : Nat → Int32} {cps : Int32} {cwh : Nat → Int32} {cal : Nat → Int64} {cah : Nat → Int64} {mthr : Int32} {mfrp : Int32} {mact : Int32} {mtpd : Int32} {msiz : Int32} {matx : Int32} {mfrm : Int32} {mtok : Int32} {mval : Int32} {mfk : Int32} {mfpl : Int32} {mbem : Int32} {mtrs : Int32} {mtrl : Int32} {mrom : Int32} {mtom : Int32} {mnow : Nat → Int32} {mfre : Nat → Int32} {mkep : Nat → Int32} {mtap : Nat → Int32} {mlef : Nat → Int32} {mtak : Nat → Int32} {mbes : Nat → Int32} {mrow : Nat → Int32} {mint : Nat → Int32} {mrnd : Nat → Int32} {mplo : Nat → Int32} {mhio : Nat → Int32} {mtox : Nat → Int32} {mtol : Nat → Int32}
theorem sim_sum {p1 p2 : Int32} (hr : Rel cP cLo cHi ctb ctl ctf ctp cob col cso cha chs mact mtpd mfk mfpl mtom mnow mkep mtap mtol) : ∃ (r : Int32) , X8_sum cP cLo cHi p1 p2 = some r ∧ X9_sum mnow p1 p2 = some r ∧ Rel cP cLo cHi ctb ctl ctf ctp cob col cso cha chs mact mtpd mfk mfpl mtom mnow mkep mtap mtol := by
  obtain ⟨V, rfl, rfl, hV⟩ := toV cLo cHi
  unfold X8_sum X9_sum
  rcases famcase hV hr p1 with ⟨j, n, hj, rfl, h0, hn, hi, hP, hM, e1, e2⟩ | ⟨e1, e2⟩
  · rw [e1, bdo_s, e2, bd1_s, i10, X9_in_n (a := 0) (b := 1) (by decide) (by decide) rfl rfl, bd1_s]
    by_cases h : (((0 : Nat) : Int) ≤ p2.toInt ∧ p2.toInt ≤ ((1 : Nat) : Int))
    · rw [decide_eq_true h, bt0, sum_9 hj hM hn hi]
      have hTL : TL n (V j) (n + 1) = smF (V j) (fun s => 420 / ch n (pc s)) 128 := by
        rw [smF_cut hn hi]
        exact sm_levels (V j) (fun k => 420 / ch n k) (2 ^ n) (fun s hs => pc_n n hn s hs)
      refine ⟨_, ?_, rfl, hr⟩
      rw [if_neg (fun q => by have := i32_lt.mp q; rw [show (0 : Int32).toInt = 0 from rfl] at this; omega), if_pos (i32_le.mpr (by rw [show (1 : Int32).toInt = 1 from rfl]; omega)), sum_V hP hn, hTL]
    · rw [decide_eq_false h, bf0]
      exact ⟨-2, outA h rfl rfl, rfl, hr⟩
  · rw [e1, bdo_n, e2, bd1_s, i00]
    exact ⟨_, rfl, rfl, hr⟩
end SIM
