/-! sums of arcs -/
theorem smF_add (f : Nat → Bool) (g h : Nat → Nat) (N : Nat) : smF f (fun s => g s + h s) N = smF f g N + smF f h N := by
  unfold smF
  rw [← sm_add]
  refine sm_congr fun k _ => ?_
  split <;> rfl
theorem smF_one {f : Nat → Bool} {p N : Nat} (hp : p < N) : smF f (fun s => if p = s then 1 else 0) N = if f p = true then 1 else 0 := by
  have := sm_one hp (f p) (fun _ => 1)
  rw [← this]
  refine sm_congr fun k _ => ?_
  show (if f k = true then (if p = k then 1 else 0) else 0) = (if ((p == k) && f p) = true then 1 else 0) * 1
  by_cases w : p = k
  · subst w; rw [beq_self_eq_true, Bool.true_and, if_pos rfl, Nat.mul_one]
  · rw [beq_eq_false_iff_ne.mpr w, Bool.false_and, if_neg w, if_neg Bool.false_ne_true, Nat.zero_mul]
    split <;> rfl
theorem smF_sm (f : Nat → Bool) (h : Nat → Nat → Nat) (N : Nat) : ∀ K, smF f (fun s => sm (fun k => h k s) K) N = sm (fun k => smF f (h k) N) K := by
  intro K
  induction K with
  | zero =>
    show smF f (fun _ => 0) N = 0
    unfold smF
    rw [sm_congr (h := fun _ => 0) (fun k _ => by split <;> rfl), sm_const, Nat.mul_zero]
  | succ K ih =>
    show smF f (fun s => sm (fun k => h k s) K + h K s) N = sm (fun k => smF f (h k) N) K + smF f (h K) N
    rw [smF_add, ih]
theorem smF_arcs {f : Nat → Bool} {ρ : Nat → Nat} {n : Nat} (h0 : 0 < n) (hρ : ∀ x, x < n → ρ x < n) : smF f (arcsAt ρ n) (2 ^ n) = sm (fun i => cnt (fun l => f (Mk ρ n i (l + 1))) (n - 1)) n := by
  show smF f (fun s => sm (fun i => sm (fun l => if Mk ρ n i (l + 1) = s then 1 else 0) (n - 1)) n) (2 ^ n) = _
  rw [smF_sm f (fun i s => sm (fun l => if Mk ρ n i (l + 1) = s then 1 else 0) (n - 1))]
  refine sm_congr fun i _ => ?_
  rw [smF_sm f (fun l s => if Mk ρ n i (l + 1) = s then 1 else 0), ← sm_cnt]
  exact sm_congr fun l _ => smF_one (Mk_lt h0 hρ i (l + 1))
theorem cnt_smF (f b : Nat → Bool) : ∀ N, cnt (fun s => f s && b s) N = smF f (fun s => if b s = true then 1 else 0) N := by
  intro N
  induction N with
  | zero => rfl
  | succ N ih =>
    rw [cnt_succ, smF_s, ih]
    cases f N <;> cases b N <;> rfl
theorem arcs_eq {f : Nat → Bool} {ρ : Nat → Nat} {n : Nat} (h0 : 0 < n) (hn : n ≤ 7) (hi : inN n f) (hρ : ∀ x, x < n → ρ x < n) (hj : ∀ x, x < n → ∀ y, y < n → ρ x = ρ y → x = y) : cnt (fun s => f s && decide (runsR ρ n s ≤ 1)) 128 = (if f 0 = true then 1 else 0) + (if f (2 ^ n - 1) = true then 1 else 0) + sm (fun i => cnt (fun l => f (Mk ρ n i (l + 1))) (n - 1)) n := by
  have hp := Nat.two_pow_pos n
  rw [cnt_smF, smF_cut hn hi]
  have e : smF f (fun s => if decide (runsR ρ n s ≤ 1) = true then 1 else 0) (2 ^ n) = smF f (fun s => ((if 0 = s then 1 else 0) + (if 2 ^ n - 1 = s then 1 else 0)) + arcsAt ρ n s) (2 ^ n) := sm_congr fun s hs => by
    show (if f s = true then (if decide (runsR ρ n s ≤ 1) = true then 1 else 0) else 0) = (if f s = true then ((if 0 = s then 1 else 0) + (if 2 ^ n - 1 = s then 1 else 0)) + arcsAt ρ n s else 0)
    rw [← arc_claim h0 hn hρ hj hs]
    by_cases w : runsR ρ n s ≤ 1
    · rw [decide_eq_true w, if_pos w, if_pos rfl]
    · rw [decide_eq_false w, if_neg w, if_neg Bool.false_ne_true]
  rw [e, smF_add, smF_add, smF_one hp, smF_one (by omega), smF_arcs h0 hρ]
theorem arcsOf_V {cP cpl : Nat → Int32} {V : Nat → Nat → Bool} {j n : Nat} {ρ : Nat → Nat} (h0 : 0 < n) (hn : n ≤ 7) (hP : cP j = nI n) (hρ : ∀ x, x < n → ρ x < n) (hc : ∀ x, x < n → cpl x = nI (ρ x)) : X8_arcsOf cP (LO V) (HI V) cpl j = some (nI ((if V j 0 = true then 1 else 0) + (if V j (2 ^ n - 1) = true then 1 else 0) + sm (fun i => cnt (fun l => V j (Mk ρ n i (l + 1))) (n - 1)) n)) := by
  have hq := pow_le7 hn
  have hp := Nat.two_pow_pos n
  have inner : ∀ i, i < n → ∀ c r, lfp3 (X8_arcsOf_h53 cP j r (nI i) (LO V) (HI V) cpl) (nI c) 0 1 = r (nI (c + cnt (fun l => V j (Mk ρ n i (l + 1))) (n - 1))) (nI (i + 1)) := fun i hi c r => by
    have := lfp3_for (F := X8_arcsOf_h53 cP j r (nI i) (LO V) (HI V) cpl) (y := r (nI (c + cnt (fun l => V j (Mk ρ n i (l + 1))) (n - 1))) (nI (i + 1))) (n - 1) (fun t => nI (c + cnt (fun l => V j (Mk ρ n i (l + 1))) t)) (fun t => nI (Mk ρ n i t)) (fun t => nI (t + 1)) (fun t ht r2 => ?_) (fun r2 => ?_)
    · exact this
    · have hy : (i + t) % n < n := Nat.mod_lt _ h0
      have hm : Mk ρ n i (t + 1) < 2 ^ n := Mk_lt h0 hρ i (t + 1)
      have hm2 : Mk ρ n i t ||| 2 ^ ρ ((i + t) % n) < 2 ^ n := hm
      unfold X8_arcsOf_h53
      rw [hP, if_neg (nI_ge (by omega) (by omega)), gnz_nI h0 (by omega), nI_add, nI_m1 (by omega), pk_rem (by omega) h0 (by omega), show i + (t + 1) - 1 = i + t by omega, gin_nI (by omega) (by decide), nI_clamp (by omega), hc _ hy, shl1 _ (by have := hρ _ hy; omega), lor_nI', holds_V (by omega), bd1_s, nI_1, ib0, nI_1, cnt_succ]
      show (if V j (Mk ρ n i (t + 1)) = true then _ else _) = _
      cases V j (Mk ρ n i (t + 1)) with
      | true => rfl
      | false => rfl
    · unfold X8_arcsOf_h53
      rw [hP, if_pos (nI_le (by omega) (by omega)), nI_1]
  have outer : ∀ c, lfp2 (X8_arcsOf_h41 cP j (LO V) (HI V) cpl) (nI c) 0 = some (nI (c + sm (fun i => cnt (fun l => V j (Mk ρ n i (l + 1))) (n - 1)) n)) := fun c => by
    have := lfp2_for (F := X8_arcsOf_h41 cP j (LO V) (HI V) cpl) (y := some (nI (c + sm (fun i => cnt (fun l => V j (Mk ρ n i (l + 1))) (n - 1)) n))) n (fun i => nI (c + sm (fun i => cnt (fun l => V j (Mk ρ n i (l + 1))) (n - 1)) i)) (fun i => nI i) (fun i hi r => ?_) (fun r => ?_)
    · exact this
    · unfold X8_arcsOf_h41
      rw [hP, if_neg (nI_ge hi (by omega)), inner i hi, Nat.add_assoc]; rfl
    · unfold X8_arcsOf_h41
      rw [hP, if_pos (nI_le (Nat.le_refl _) (by omega))]
  have last : ∀ a b : Nat, X8_arcsOf_j36 cP j (LO V) (HI V) cpl (nI a) (nI b) = some (nI (a + b + sm (fun i => cnt (fun l => V j (Mk ρ n i (l + 1))) (n - 1)) n)) := fun a b => by
    unfold X8_arcsOf_j36
    rw [nI_add]; exact outer (a + b)
  have mid : ∀ a : Nat, X8_arcsOf_j18 cP j (LO V) (HI V) cpl (nI a) = some (nI (a + (if V j (2 ^ n - 1) = true then 1 else 0) + sm (fun i => cnt (fun l => V j (Mk ρ n i (l + 1))) (n - 1)) n)) := fun a => by
    unfold X8_arcsOf_j18
    rw [X0_span_eq hP hn, bd1_s, nI_m1 hp, holds_V (by omega), bd1_s, ib0]
    cases V j (2 ^ n - 1) with
    | true => exact last a 1
    | false => exact last a 0
  unfold X8_arcsOf
  rw [show (0 : Int32) = nI 0 from rfl, holds_V (by decide), bd1_s]
  show (if b01 (V j 0) = 0 then _ else _) = _
  rw [ib0]
  cases V j 0 with
  | true => exact mid 1
  | false => exact mid 0
section SIM
variable {cP : Nat → Int32} {cLo : Nat → Int64} {cHi : Nat → Int64} {cpl : Nat → Int32} {ctb : Nat → Int32} {ctl : Int32} {ctf : Int32} {ctp : Int32} {ctk : Int32} {cts : Int32} {cth : Int32} {cob : Nat → Int32} {col : Int32} {cso : Nat → Int32} {cha : Int32} {chs : Int32} {cbe : Int32} {ctr : Int32} {cgl : Nat → Int64} {cgh : Nat → Int64} {cll : Nat → Int64} {clh : Nat → Int64} {cta : Nat → Int32} {cme : Nat → Int32} {cps : Int32} {cwh : Nat → Int32} {cal : Nat → Int64} {cah : Nat → Int64} {mthr : Int32} {mfrp : Int32} {mact : Int32} {mtpd : Int32} {msiz : Int32} {matx : Int32} {mfrm : Int32} {mtok : Int32} {mval : Int32} {mfk : Int32} {mfpl : Int32} {mbem : Int32} {mtrs : Int32} {mtrl : Int32} {mrom : Int32} {mtom : Int32} {mnow : Nat → Int32} {mfre : Nat → Int32} {mkep : Nat → Int32} {mtap : Nat → Int32} {mlef : Nat → Int32} {mtak : Nat → Int32} {mbes : Nat → Int32} {mrow : Nat → Int32} {mint : Nat → Int32} {mrnd : Nat → Int32} {mplo : Nat → Int32} {mhio : Nat → Int32} {mtox : Nat → Int32} {mtol : Nat → Int32}
theorem sim_arcs {p1 p2 : Int32} (hr : Rel cP cLo cHi ctb ctl ctf ctp cob col cso cha chs mact mtpd mfk mfpl mtom mnow mkep mtap mtol) : ∃ (r : Int32) (ocpl : Nat → Int32) (omrnd : Nat → Int32) (omplo : Nat → Int32), X8_arcs cP cLo cHi cpl p1 p2 = some (r, ocpl) ∧ X9_arcs mnow mrnd mplo p1 p2 = some (r, omrnd, omplo) ∧ Rel cP cLo cHi ctb ctl ctf ctp cob col cso cha chs mact mtpd mfk mfpl mtom mnow mkep mtap mtol := by
  obtain ⟨V, rfl, rfl, hV⟩ := toV cLo cHi
  unfold X8_arcs X9_arcs
  rcases famcase hV hr p1 with ⟨j, n, hj, rfl, h0, hn, hi, hP, hM, e1, e2⟩ | ⟨e1, e2⟩
  · have f0 := fac_pos (n - 1)
    obtain ⟨f1, f2⟩ := fac_7 (n - 1) (by omega)
    rw [e1, bdo_s, e2, bd1_s, i10, points9 hj hM, bd1_s, rounds0_9 h0 hn, bd1_s, hP, isRound_c h0 hn, bd1_s, nI_m1 f0, X9_in_n (a := 0) (b := fac (n - 1) - 1) (by decide) (by omega) rfl (nI_t64 (by omega)), bd1_s]
    rcases in_cases (p := p2) 0 (fac (n - 1) - 1) (by omega) with ⟨v, _, hv, rfl⟩ | h
    · obtain ⟨mp, e⟩ := laysRound_9 h0 hn (v := v) (by omega) mrnd mplo
      obtain ⟨g1, g2⟩ := rho_fn h0 hn (v := v) (by omega)
      have hq := pow_le7 hn
      rw [nI_toInt (by omega), decide_eq_true (by omega), bt0, bt0, bd1_s, e, bd2_s, lay_V h0 hn (by omega), bd1_s, arcsOf_V h0 hn hP g1 (fun x hx => rd_rho h0 hn hx), bd1_s, ← arcs_eq h0 hn hi g1 g2]
      refine ⟨_, _, fillL mrnd 0 (rdL n v), mp, rfl, ?_, hr⟩
      have := lfp2_cnt (F := X9_arcs_h46 (fillL mrnd 0 (rdL n v)) mp mnow (nI j)) (fun s => V j s && decide (runsR (rho n v) n s ≤ 1)) 128 0 (fun a => some (nI a, fillL mrnd 0 (rdL n v), mp)) (fun s hs a r => ?_) (fun a r => ?_)
      · rw [Nat.zero_add] at this; exact this
      · unfold X9_arcs_h46
        rw [if_neg (inn128 hs), isIn9 hj hM hs, bd1_s, points9 hj hM, bd1_s, isArc_9 h0 hn g1 (fun x hx => rd_rho h0 hn hx) hs, bd1_s, ib0, ib0, nI_1, nI_1, Int32.add_zero]
        cases V j s <;> cases decide (runsR (rho n v) n s ≤ 1) <;> rfl
      · unfold X9_arcs_h46
        rw [if_pos i128]
    · rw [decide_eq_false h, bf0, bf0]
      exact ⟨_, _, _, _, rfl, rfl, hr⟩
  · rw [e1, bdo_n, e2, bd1_s, i00]
    exact ⟨_, _, _, _, rfl, rfl, hr⟩
end SIM
