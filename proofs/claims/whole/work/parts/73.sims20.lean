/-! rounds: how they are laid -/
def fac : Nat → Nat
  | 0 => 1
  | n + 1 => (n + 1) * fac n
theorem fac_pos : ∀ n, 0 < fac n
  | 0 => Nat.one_pos
  | n + 1 => Nat.mul_pos (by omega) (fac_pos n)
theorem fac_7 : ∀ n, n < 8 → fac n ≤ 5040 ∧ facW n = nI (fac n) := by decide
/-- the q-th point of R, from p on -/
def ptF (R : Nat) : Nat → Nat → Nat → Nat
  | 0, _, _ => 0
  | f + 1, p, q => if R.testBit p = true then (if q = 0 then p else ptF R f (p + 1) (q - 1)) else ptF R f (p + 1) q
def ptN (R q : Nat) : Nat := ptF R 7 0 q
def layL : Nat → Nat → Nat → List Nat
  | 0, _, _ => []
  | j + 1, R, v => ptN R (v / fac j) :: layL j (R ^^^ 2 ^ ptN R (v / fac j)) (v % fac j)
theorem gnz_nI {α : Type} {k : Nat} {x : Option α} (h0 : 0 < k) (h : k < 2 ^ 31) : gnz (nI k) x = x := if_neg fun q => by
  have := (nI_eq (b := 0) h (by decide)).mp q
  omega
theorem ptF_at {R a : Nat} (ha : R.testBit a = true) : ∀ f p q, p ≤ a → a < p + f → q + cnt (fun i => R.testBit i) p = cnt (fun i => R.testBit i) a → ptF R f p q = a := by
  intro f
  induction f with
  | zero => intro p q h1 h2; omega
  | succ f ih =>
    intro p q h1 h2 h3
    show (if R.testBit p = true then (if q = 0 then p else ptF R f (p + 1) (q - 1)) else ptF R f (p + 1) q) = a
    by_cases e : p = a
    · subst e
      rw [if_pos ha, if_pos (by omega)]
    · have hc := cnt_succ (fun i => R.testBit i) p
      have hm := cnt_mono (c := fun i => R.testBit i) (show p + 1 ≤ a by omega)
      cases hb : R.testBit p with
      | true =>
        simp only [hb, if_true] at hc
        rw [if_pos rfl, if_neg (by omega), ih (p + 1) (q - 1) (by omega) (by omega) (by omega)]
      | false =>
        simp only [hb, Bool.false_eq_true, if_false] at hc
        rw [if_neg Bool.false_ne_true, ih (p + 1) q (by omega) (by omega) (by omega)]
theorem pt_ex {R q : Nat} (h : q < pc R) : ∃ a, a < 7 ∧ R.testBit a = true ∧ cnt (fun i => R.testBit i) a = q ∧ ptN R q = a := by
  obtain ⟨a, h1, _, h3, h4⟩ := kthI_ex (c := fun i => R.testBit i) (N := 7) h
  exact ⟨a, h1, h3, h4, ptF_at h3 7 0 q (by omega) (by omega) (by rw [h4]; rfl)⟩
theorem point_c {R q a : Nat} (hR : R < 128) (ha : a < 7) (h1 : R.testBit a = true) (h2 : cnt (fun i => R.testBit i) a = q) : X4_point (nI R) (nI q) = some (nI a) := by
  unfold X4_point
  have hq := cnt_le (fun i => R.testBit i) a
  have := lfp2_for (F := X4_point_h4 (nI R) (nI q)) (y := some (nI a)) a (fun k => nI (cnt (fun i => R.testBit i) k)) (fun k => nI k) (fun k hk r => ?_) (fun r => ?_)
  · exact this
  · have hc := cnt_succ (fun i => R.testBit i) k
    have hm := cnt_mono (c := fun i => R.testBit i) (show k + 1 ≤ a by omega)
    have hm2 := cnt_le (fun i => R.testBit i) k
    unfold X4_point_h4
    rw [if_neg (show ¬ (7 : Int32) ≤ nI k from nI_ge (b := 7) (by omega) (by decide)), sbit R hR k (by omega), ib1, nI_1, nI_1]
    cases hb : R.testBit k with
    | true =>
      simp only [hb, if_true] at hc
      rw [if_pos rfl, if_neg (fun w => by have := (nI_eq (by omega) (by omega)).mp w; omega), hc]
    | false =>
      simp only [hb, Bool.false_eq_true, if_false] at hc
      rw [if_neg Bool.false_ne_true]
      rw [hc]; rfl
  · unfold X4_point_h4
    rw [if_neg (show ¬ (7 : Int32) ≤ nI a from nI_ge (b := 7) (by omega) (by decide)), sbit R hR a (by omega), ib1, h1, if_pos rfl, h2, if_pos rfl]
theorem clr_fact : ∀ R, R < 128 → ∀ a, a < 7 → R.testBit a = true → nI R &&& (nI (2 ^ a) ^^^ (-1 : Int32)) = nI (R ^^^ 2 ^ a) ∧ pc (R ^^^ 2 ^ a) + 1 = pc R := by decide +kernel
theorem div_facs {v j : Nat} (h : v < fac (j + 1)) : v / fac j < j + 1 := (Nat.div_lt_iff_lt_mul (fac_pos j)).mpr h
theorem lay_c {n : Nat} (hn : n ≤ 7) : ∀ j R v k (cpl : Nat → Int32), k + j = n → 0 < k → R < 128 → pc R = j → v < fac j → lfp4 (X4_lay_h20 (nI n)) (nI R) (nI v) (nI k) cpl = some (fillL cpl k (layL j R v)) := by
  intro j
  induction j with
  | zero =>
    intro R v k cpl hk hk0 hR hp hv
    refine lfp4_done fun r => ?_
    unfold X4_lay_h20
    rw [if_pos (nI_le (by omega) (by omega))]; rfl
  | succ j ih =>
    intro R v k cpl hk hk0 hR hp hv
    obtain ⟨a, h1, h2, h3, h4⟩ := pt_ex (R := R) (q := v / fac j) (by rw [hp]; exact div_facs hv)
    obtain ⟨c1, c2⟩ := clr_fact R hR a h1 h2
    obtain ⟨f1, f2⟩ := fac_7 j (by omega)
    obtain ⟨f3, _⟩ := fac_7 (j + 1) (by omega)
    have f0 := fac_pos j
    have hx : R ^^^ 2 ^ a < 128 := xor_128 hR (by have : 2 ^ a < 2 ^ 7 := Nat.pow_lt_pow_right (by decide) h1; exact this)
    refine (lfp4_step (fun r => ?_)).trans ((ih (R ^^^ 2 ^ a) (v % fac j) (k + 1) (upd cpl k (nI a)) (by omega) (by omega) hx (by omega) (Nat.mod_lt _ f0)).trans ?_)
    · unfold X4_lay_h20
      rw [if_neg (nI_ge (by omega) (by omega)), nI_m1 (by omega), pk_sub (by omega), show n - 1 - k = j by omega, gin_nI (by omega) (by decide), nI_clamp (by omega), f2, gnz_nI f0 (by omega), pk_div (by omega) f0 (by omega), point_c hR h1 h2 h3, bd1_s, gin_nI (by omega) (by decide), gin_nI (by omega) (by decide), nI_clamp (by omega), show upd cpl k (nI a) k = nI a by simp [upd], shl1 a (by omega), c1, ← pk_div (by omega) f0 (by omega), pk_rem (by omega) f0 (by omega), gnz_nI f0 (by omega), nI_1]
    · show _ = some (fillL cpl k (ptN R (v / fac j) :: layL j (R ^^^ 2 ^ ptN R (v / fac j)) (v % fac j)))
      rw [h4]; rfl
/-- and in the reference: T is taken -/
theorem seek_9 {T n q a k x5 v : Nat} {m : Nat → Int32} {r10 : Int32 → Int32 → Int32 → Int32 → (Nat → Int32) → Option ((Nat → Int32) × (Nat → Int32))} (hT : T < 128) (ha : a < 7) (h1 : T.testBit a = false) (h2 : cnt (fun i => !T.testBit i) a = q) (hk : k < 7) : lfp2 (X9_laysRound_h55 (nI T) (nI k) r10 (nI v) (nI x5) (nI n) m) (nI q) 0 = r10 (nI (T ||| 2 ^ a)) (nI v - nI v / (nI x5 / (nI n - nI k)) * (nI x5 / (nI n - nI k))) (nI x5 / (nI n - nI k)) (nI (k + 1)) (upd m k (nI a)) := by
  have hq := cnt_le (fun i => !T.testBit i) a
  have := lfp2_for (F := X9_laysRound_h55 (nI T) (nI k) r10 (nI v) (nI x5) (nI n) m) (y := r10 (nI (T ||| 2 ^ a)) (nI v - nI v / (nI x5 / (nI n - nI k)) * (nI x5 / (nI n - nI k))) (nI x5 / (nI n - nI k)) (nI (k + 1)) (upd m k (nI a))) a (fun t => nI (q - cnt (fun i => !T.testBit i) t)) (fun t => nI t) (fun t ht r => ?_) (fun r => ?_)
  · exact this
  · have hc := cnt_succ (fun i => !T.testBit i) t
    have hm := cnt_mono (fun i => !T.testBit i) (show t + 1 ≤ a by omega)
    unfold X9_laysRound_h55 X9_laysRound_j69
    rw [X9_hasBit_eq hT (by omega), bd1_s]
    cases hb : T.testBit t with
    | true =>
      simp only [hb, Bool.not_true, Bool.false_eq_true, if_false] at hc
      rw [bt0, bd1_s, bt0, hc, nI_1, show nI (q - cnt (fun i => !T.testBit i) t) - (0 : Int32) = nI (q - cnt (fun i => !T.testBit i) t) from Int32.sub_zero _]; rfl
    | false =>
      simp only [hb, Bool.not_false, if_true] at hc
      rw [bf0, bd1_s, bf0, hc, nI_1, if_neg (show ¬ nI (q - cnt (fun i => !T.testBit i) t) ≤ (0 : Int32) from nI_ge (a := 0) (by omega) (by omega)), nI_m1 (by omega), Nat.sub_sub, nI_1]
  · unfold X9_laysRound_h55
    rw [X9_hasBit_eq hT ha, bd1_s, h1, bf0, h2, Nat.sub_self, if_pos (show nI 0 ≤ (0 : Int32) by decide), gin_nI hk (by decide), nI_clamp (by omega), shl1 a (by omega), lor_nI', nI_1]
theorem places_9 {n : Nat} (hn : n ≤ 7) {m mplo : Nat → Int32} (hm : ∀ t, t < n → ∃ a, a < 7 ∧ m t = nI a) : ∃ mp, lfp2 (X9_laysRound_h119 (nI n) m) 0 mplo = some (m, mp) := by
  refine lfp2_inv (F := X9_laysRound_h119 (nI n) m) (fun o => ∃ mp, o = some (m, mp)) n (fun k x _ => x = nI k) (fun k x mp hk hI => ?_) (fun x mp hI => ?_) rfl
  · subst hI
    right
    obtain ⟨a, h1, h2⟩ := hm k hk
    refine ⟨nI (k + 1), upd mp a (nI k), fun r => ?_, rfl⟩
    unfold X9_laysRound_h119
    rw [if_neg (nI_ge hk (by omega)), gin_nI (by omega) (by decide), nI_clamp (by omega), h2, gin_nI h1 (by decide), nI_clamp (by omega), nI_1]
  · subst hI
    refine ⟨some (m, mp), fun r => ?_, mp, rfl⟩
    unfold X9_laysRound_h119
    rw [if_pos (nI_le (Nat.le_refl _) (by omega))]
theorem lay_9 {n : Nat} (hn : n ≤ 7) {mplo : Nat → Int32} : ∀ j R T v k (m : Nat → Int32), k + j = n → 0 < k → R < 128 → T < 128 → (∀ p, p < 7 → R.testBit p = (decide (p < n - 1) && !T.testBit p)) → pc R = j → v < fac j → (∀ t, t < k → ∃ a, a < 7 ∧ m t = nI a) → ∃ mp, lfp5 (X9_laysRound_h23 (nI n) mplo) (nI T) (nI v) (nI (fac j)) (nI k) m = some (fillL m k (layL j R v), mp) := by
  intro j
  induction j with
  | zero =>
    intro R T v k m hk hk0 hR hT hRT hp hv hm
    obtain ⟨mp, h⟩ := places_9 (mplo := mplo) hn (fun t ht => hm t (by omega))
    refine ⟨mp, lfp5_done fun r => ?_⟩
    unfold X9_laysRound_h23
    rw [if_pos (nI_le (by omega) (by omega)), h]; rfl
  | succ j ih =>
    intro R T v k m hk hk0 hR hT hRT hp hv hm
    obtain ⟨a, h1, h2, h3, h4⟩ := pt_ex (R := R) (q := v / fac j) (by rw [hp]; exact div_facs hv)
    obtain ⟨c1, c2⟩ := clr_fact R hR a h1 h2
    obtain ⟨f1, f2⟩ := fac_7 j (by omega)
    obtain ⟨f3, _⟩ := fac_7 (j + 1) (by omega)
    have f0 := fac_pos j
    have ha2 : 2 ^ a < 128 := by have : 2 ^ a < 2 ^ 7 := Nat.pow_lt_pow_right (by decide) h1; exact this
    have hx : R ^^^ 2 ^ a < 128 := xor_128 hR ha2
    have hRa := hRT a h1
    rw [h2] at hRa
    have hTa : T.testBit a = false ∧ a < n - 1 := by
      have := hRa.symm
      rw [Bool.and_eq_true, decide_eq_true_eq, Bool.not_eq_true'] at this
      exact ⟨this.2, this.1⟩
    have hcnt : cnt (fun i => !T.testBit i) a = v / fac j := by
      rw [← h3]
      exact cnt_congr fun p hp => by rw [hRT p (by omega), decide_eq_true (by omega), Bool.true_and]
    have hdiv : fac (j + 1) / (j + 1) = fac j := Nat.mul_div_cancel_left _ (by omega)
    obtain ⟨mp, e⟩ := ih (R ^^^ 2 ^ a) (T ||| 2 ^ a) (v % fac j) (k + 1) (upd m k (nI a)) (by omega) (by omega) hx (or_128 hT ha2) (fun p hp => by
      rw [Nat.testBit_xor, Nat.testBit_or, Nat.testBit_two_pow, hRT p hp]
      by_cases w : a = p
      · subst w; simp [hTa.1, hTa.2]
      · simp [w]) (by omega) (Nat.mod_lt _ f0) (fun t ht => by
      by_cases w : t = k
      · exact ⟨a, h1, by simp [upd, w]⟩
      · obtain ⟨b, q1, q2⟩ := hm t (by omega)
        exact ⟨b, q1, by simp [upd, w, q2]⟩)
    refine ⟨mp, (lfp5_step (fun r => ?_)).trans (e.trans ?_)⟩
    · unfold X9_laysRound_h23
      rw [if_neg (nI_ge (by omega) (by omega)), pk_sub (by omega), show n - k = j + 1 by omega, gnz_nI (by omega) (by omega), pk_div (by omega) (by omega) (by omega), hdiv, gnz_nI f0 (by omega), gnz_nI f0 (by omega), pk_div (by omega) f0 (by omega), seek_9 hT h1 hTa.1 hcnt (by omega), pk_sub (by omega), show n - k = j + 1 by omega, pk_div (by omega) (by omega) (by omega), hdiv, pk_rem (by omega) f0 (by omega)]
    · show _ = some (fillL m k (ptN R (v / fac j) :: layL j (R ^^^ 2 ^ ptN R (v / fac j)) (v % fac j)), mp)
      rw [h4]; rfl
/-- the round's points in their order -/
def rdL (n v : Nat) : List Nat := (n - 1) :: layL (n - 1) (2 ^ (n - 1) - 1) v
theorem layL_len : ∀ j R v, (layL j R v).length = j
  | 0, _, _ => rfl
  | j + 1, R, v => by
    show (layL j _ _).length + 1 = j + 1
    rw [layL_len j]
theorem rdL_len {n v : Nat} (h0 : 0 < n) : (rdL n v).length = n := by
  show (layL _ _ _).length + 1 = n
  rw [layL_len]; omega
theorem rd_at {n v k : Nat} {c : Nat → Int32} (_ : n ≤ 7) (h0 : 0 < n) (hk : k < n) : fillL c 0 (rdL n v) k = rowAt (rdL n v) k := by
  have := fillL_at (rdL n v) c 0 k (by rw [rdL_len h0]; exact hk)
  rwa [Nat.zero_add] at this
theorem pc_ones : ∀ n, n < 7 → pc (2 ^ n - 1) = n ∧ 2 ^ n - 1 < 128 := by decide
theorem lay_V {n v : Nat} (h0 : 0 < n) (hn : n ≤ 7) (hv : v < fac (n - 1)) (cpl : Nat → Int32) : X4_lay cpl (nI n) (nI v) = some (fillL cpl 0 (rdL n v)) := by
  unfold X4_lay
  obtain ⟨q1, q2⟩ := pc_ones (n - 1) (by omega)
  rw [show (0 : Int32) = nI 0 from rfl, gin_nI (by decide) (by decide), nI_clamp (by decide), nI_m1 h0, shl1 (n - 1) (by omega), nI_m1 (Nat.two_pow_pos _)]
  exact lay_c hn (n - 1) (2 ^ (n - 1) - 1) v 1 (upd cpl 0 (nI (n - 1))) (by omega) (by omega) q2 q1 hv
theorem rounds0_9 {n : Nat} (h0 : 0 < n) (hn : n ≤ 7) : X9_rounds0 (nI n) = some (nI (fac (n - 1))) := by
  unfold X9_rounds0
  by_cases q : n = 1
  · subst q
    refine lfp2_done fun r => ?_
    unfold X9_rounds0_h4
    rw [if_pos (by decide)]; rfl
  · have := lfp2_for (F := X9_rounds0_h4 (nI n)) (y := some (nI (fac (n - 1)))) (n - 2) (fun k => nI (fac (k + 1))) (fun k => nI (k + 2)) (fun k hk r => ?_) (fun r => ?_)
    · exact this
    · unfold X9_rounds0_h4
      rw [if_neg (nI_ge (by omega) (by omega)), pk_mul, nI_1, Nat.mul_comm]; rfl
    · unfold X9_rounds0_h4
      rw [if_pos (nI_le (by omega) (by omega)), show n - 2 + 1 = n - 1 by omega]
theorem laysRound_9 {n v : Nat} (h0 : 0 < n) (hn : n ≤ 7) (hv : v < fac (n - 1)) (m mplo : Nat → Int32) : ∃ mp, X9_laysRound m mplo (nI n) (nI v) = some (fillL m 0 (rdL n v), mp) := by
  obtain ⟨q1, q2⟩ := pc_ones (n - 1) (by omega)
  obtain ⟨mp, e⟩ := lay_9 hn (mplo := mplo) (n - 1) (2 ^ (n - 1) - 1) 0 v 1 (upd m 0 (nI (n - 1))) (by omega) (by omega) q2 (by decide) (fun p hp => by
    rw [Nat.testBit_two_pow_sub_one, Nat.zero_testBit]; simp) q1 hv (fun t ht => ⟨n - 1, by omega, by simp [upd, show t = 0 by omega]⟩)
  refine ⟨mp, ?_⟩
  unfold X9_laysRound
  rw [rounds0_9 h0 hn, bd1_s, show (0 : Int32) = nI 0 from rfl, gin_nI (by decide) (by decide), nI_clamp (by decide), nI_m1 h0]
  exact e
theorem isRound_c {n : Nat} (h0 : 0 < n) (hn : n ≤ 7) {p : Int32} : X4_isRound (nI n) p = some (b01 (decide (((0 : Nat) : Int) ≤ p.toInt ∧ p.toInt ≤ ((fac (n - 1) - 1 : Nat) : Int)))) := by
  obtain ⟨f1, f2⟩ := fac_7 (n - 1) (by omega)
  have f0 := fac_pos (n - 1)
  unfold X4_isRound
  rw [if_neg (show ¬ nI n < (1 : Int32) from nI_nlt (b := 1) (by omega) (by omega)), if_neg (show ¬ (8 : Int32) ≤ nI n from nI_ge (b := 8) (by omega) (by decide)), nI_m1 h0, gin_nI (by omega) (by decide), nI_clamp (by omega), f2]
  rcases in_cases (p := p) 0 (fac (n - 1) - 1) (by omega) with ⟨v, _, hv, rfl⟩ | h
  · rw [if_neg (nI_pos (by omega)), if_neg (nI_ge (by omega) (by omega)), nI_toInt (by omega), decide_eq_true (by omega)]; rfl
  · rw [decide_eq_false h]
    by_cases w : p < 0
    · rw [if_pos w]; rfl
    · rw [if_neg w, if_pos]
      · rfl
      · rcases i32_cases p with q | ⟨v, hv, rfl⟩
        · exact absurd (i32_lt.mpr (by simpa using q)) w
        · rw [nI_toInt hv] at h
          exact nI_le (by omega) hv
section SIM
variable {cP : Nat → Int32} {cLo : Nat → Int64} {cHi : Nat → Int64} {cpl : Nat → Int32} {ctb : Nat → Int32} {ctl : Int32} {ctf : Int32} {ctp : Int32} {ctk : Int32} {cts : Int32} {cth : Int32} {cob : Nat → Int32} {col : Int32} {cso : Nat → Int32} {cha : Int32} {chs : Int32} {cbe : Int32} {ctr : Int32} {cgl : Nat → Int64} {cgh : Nat → Int64} {cll : Nat → Int64} {clh : Nat → Int64} {cta : Nat → Int32} {cme : Nat → Int32} {cps : Int32} {cwh : Nat → Int32} {cal : Nat → Int64} {cah : Nat → Int64} {mthr : Int32} {mfrp : Int32} {mact : Int32} {mtpd : Int32} {msiz : Int32} {matx : Int32} {mfrm : Int32} {mtok : Int32} {mval : Int32} {mfk : Int32} {mfpl : Int32} {mbem : Int32} {mtrs : Int32} {mtrl : Int32} {mrom : Int32} {mtom : Int32} {mnow : Nat → Int32} {mfre : Nat → Int32} {mkep : Nat → Int32} {mtap : Nat → Int32} {mlef : Nat → Int32} {mtak : Nat → Int32} {mbes : Nat → Int32} {mrow : Nat → Int32} {mint : Nat → Int32} {mrnd : Nat → Int32} {mplo : Nat → Int32} {mhio : Nat → Int32} {mtox : Nat → Int32} {mtol : Nat → Int32}
theorem sim_around {p1 p2 p3 : Int32} (hr : Rel cP cLo cHi ctb ctl ctf ctp cob col cso cha chs mact mtpd mfk mfpl mtom mnow mkep mtap mtol) : ∃ (r : Int32) (ocpl : Nat → Int32) (omrnd : Nat → Int32) (omplo : Nat → Int32), X8_around cpl p1 p2 p3 = some (r, ocpl) ∧ X9_around mrnd mplo p1 p2 p3 = some (r, omrnd, omplo) ∧ Rel cP cLo cHi ctb ctl ctf ctp cob col cso cha chs mact mtpd mfk mfpl mtom mnow mkep mtap mtol := by
  unfold X8_around X9_around
  rw [X9_in_n (a := 1) (b := 7) (by decide) (by decide) rfl rfl, bd1_s]
  rcases in_cases (p := p1) 1 7 (by decide) with ⟨n, h0, hn, rfl⟩ | h
  · have f0 := fac_pos (n - 1)
    obtain ⟨f1, f2⟩ := fac_7 (n - 1) (by omega)
    rw [isPC_in h0 hn, bd1_s, i10, nI_toInt (by omega), decide_eq_true (by omega), bt0, rounds0_9 h0 hn, bd1_s, isRound_c h0 hn, bd1_s, nI_m1 f0, X9_in_n (a := 0) (b := fac (n - 1) - 1) (by decide) (by omega) rfl (nI_t64 (by omega)), bd1_s]
    rcases in_cases (p := p2) 0 (fac (n - 1) - 1) (by omega) with ⟨v, _, hv, rfl⟩ | h
    · rw [nI_toInt (by omega), decide_eq_true (by omega), bt0, bt0, nI_m1 h0, X9_in_n (a := 0) (b := n - 1) (by decide) (by omega) rfl (nI_t64 (by omega)), bd1_s]
      rcases in_cases (p := p3) 0 (n - 1) (by omega) with ⟨k, _, hk, rfl⟩ | h
      · obtain ⟨mp, e⟩ := laysRound_9 h0 hn (v := v) (by omega) mrnd mplo
        rw [if_neg (nI_pos (by omega)), if_pos (nI_lt (by omega) (by omega)), lay_V h0 hn (by omega), bd1_s, gin_nI (by omega) (by decide), nI_clamp (by omega), nI_toInt (by omega), decide_eq_true (by omega), bt0, e, bd2_s, gin_nI (by omega) (by decide)]
        exact ⟨_, _, _, _, rfl, by rw [rd_at hn h0 (by omega), rd_at hn h0 (by omega)], hr⟩
      · rw [decide_eq_false h, bf0]
        exact ⟨-2, _, _, _, outC h rfl (by rw [nI_toInt (by omega)]; omega), rfl, hr⟩
    · rw [decide_eq_false h, bf0, bf0]
      exact ⟨_, _, _, _, rfl, rfl, hr⟩
  · rw [isPC_out h, bd1_s, i00, decide_eq_false h, bf0]
    exact ⟨_, _, _, _, rfl, rfl, hr⟩
end SIM
