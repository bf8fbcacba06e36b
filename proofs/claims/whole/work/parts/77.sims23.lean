/-! how many rounds have an arc -/
theorem dig_lt {B : Nat} {c : Nat → Nat} : ∀ N, (∀ s, s < N → c s < B) → sm (fun s => c s * B ^ s) N < B ^ N := by
  intro N
  induction N with
  | zero => exact fun _ => Nat.one_pos
  | succ N ih =>
    intro h
    have h1 := ih (fun s hs => h s (by omega))
    have h2 := h N (by omega)
    show sm (fun s => c s * B ^ s) N + c N * B ^ N < B ^ (N + 1)
    rw [Nat.pow_succ, Nat.mul_comm (B ^ N) B]
    have h3 : (c N + 1) * B ^ N ≤ B * B ^ N := Nat.mul_le_mul_right _ h2
    rw [Nat.succ_mul] at h3
    omega
theorem dig_eq {B : Nat} {c d : Nat → Nat} : ∀ N, (∀ s, s < N → c s < B) → (∀ s, s < N → d s < B) → sm (fun s => c s * B ^ s) N = sm (fun s => d s * B ^ s) N → ∀ s, s < N → c s = d s := by
  intro N
  induction N with
  | zero => intro _ _ _ s hs; omega
  | succ N ih =>
    intro hc hd e s hs
    have h1 := dig_lt (B := B) (c := c) N (fun s hs => hc s (by omega))
    have h2 := dig_lt (B := B) (c := d) N (fun s hs => hd s (by omega))
    have e' : sm (fun s => c s * B ^ s) N + c N * B ^ N = sm (fun s => d s * B ^ s) N + d N * B ^ N := e
    have hp : 0 < B ^ N := by omega
    have e1 : c N = d N := by
      have q1 : (sm (fun s => c s * B ^ s) N + c N * B ^ N) / B ^ N = c N := by rw [Nat.add_mul_div_right _ _ hp, Nat.div_eq_of_lt h1, Nat.zero_add]
      have q2 : (sm (fun s => d s * B ^ s) N + d N * B ^ N) / B ^ N = d N := by rw [Nat.add_mul_div_right _ _ hp, Nat.div_eq_of_lt h2, Nat.zero_add]
      rw [← q1, e', q2]
    by_cases w : s = N
    · subst w; exact e1
    · exact ih (fun s hs => hc s (by omega)) (fun s hs => hd s (by omega)) (by rw [e1] at e'; omega) s (by omega)
theorem lin1 {B m N : Nat} (hm : m < N) : B ^ m = sm (fun s => (if m = s then 1 else 0) * B ^ s) N := by
  have := sm_one hm true (fun s => B ^ s)
  rw [if_pos rfl] at this
  rw [← this]
  refine sm_congr fun k _ => ?_
  by_cases w : m = k
  · subst w; rw [beq_self_eq_true, if_pos rfl]; rfl
  · rw [beq_eq_false_iff_ne.mpr w, if_neg w]; rfl
theorem linS {B N : Nat} {g : Nat → Nat} {c : Nat → Nat → Nat} : ∀ K, (∀ k, k < K → g k = sm (fun s => c k s * B ^ s) N) → sm g K = sm (fun s => sm (fun k => c k s) K * B ^ s) N := by
  intro K
  induction K with
  | zero =>
    intro _
    show 0 = sm (fun s => sm (fun k => c k s) 0 * B ^ s) N
    rw [sm_congr (g := fun s => sm (fun k => c k s) 0 * B ^ s) (h := fun _ => 0) (fun s _ => Nat.zero_mul _), sm_const, Nat.mul_zero]
  | succ K ih =>
    intro h
    show sm g K + g K = sm (fun s => (sm (fun k => c k s) K + c K s) * B ^ s) N
    rw [ih (fun k hk => h k (by omega)), h K (by omega), ← sm_add]
    exact sm_congr fun s _ => (Nat.add_mul _ _ _).symm
theorem zT_eq {n v : Nat} (h0 : 0 < n) (hn : n ≤ 7) (hv : v < fac (n - 1)) : zT n v = sm (fun s => arcsAt (rho n v) n s * 65536 ^ s) (2 ^ n) := by
  obtain ⟨g1, g2⟩ := rho_fn h0 hn hv
  exact linS (c := fun i s => sm (fun l => if Mk (rho n v) n i (l + 1) = s then 1 else 0) (n - 1)) n fun i _ => linS (c := fun l s => if Mk (rho n v) n i (l + 1) = s then 1 else 0) (n - 1) fun l _ => lin1 (Mk_lt h0 g1 i (l + 1))
theorem arcsAt_le {ρ : Nat → Nat} {n s : Nat} (hn : n ≤ 7) : arcsAt ρ n s ≤ 42 := by
  have h1 : arcsAt ρ n s ≤ sm (fun _ => n - 1) n := sm_le fun i _ => by
    have : sm (fun l => if Mk ρ n i (l + 1) = s then 1 else 0) (n - 1) ≤ sm (fun _ => 1) (n - 1) := sm_le fun l _ => by split <;> omega
    rw [sm_const, Nat.mul_one] at this
    exact this
  rw [sm_const] at h1
  have h2 : n * (n - 1) ≤ 7 * 6 := Nat.mul_le_mul hn (by omega)
  omega
theorem dS_lt : ∀ n, n < 8 → ∀ s, s < 2 ^ n → dS n s < 65536 := by decide +kernel
theorem arcs_tot {n : Nat} (h0 : 0 < n) (hn : n ≤ 7) {s : Nat} (hs : s < 2 ^ n) : sm (fun v => arcsAt (rho n v) n s) (fac (n - 1)) = dS n s := by
  obtain ⟨f1, f2⟩ := fac_7 (n - 1) (by omega)
  have hf : fac (n - 1) ≤ 720 := by
    rcases (show n = 1 ∨ n = 2 ∨ n = 3 ∨ n = 4 ∨ n = 5 ∨ n = 6 ∨ n = 7 by omega) with rfl | rfl | rfl | rfl | rfl | rfl | rfl <;> decide
  refine dig_eq (B := 65536) (c := fun s => sm (fun v => arcsAt (rho n v) n s) (fac (n - 1))) (d := dS n) (2 ^ n) (fun s _ => ?_) (fun s hs => dS_lt n (by omega) s hs) ?_ s hs
  · have h1 : sm (fun v => arcsAt (rho n v) n s) (fac (n - 1)) ≤ sm (fun _ => 42) (fac (n - 1)) := sm_le fun v _ => arcsAt_le hn
    rw [sm_const] at h1
    show sm (fun v => arcsAt (rho n v) n s) (fac (n - 1)) < 65536
    omega
  · rw [← arc_sum n (by omega) h0]
    exact (linS (g := zT n) (c := fun v s => arcsAt (rho n v) n s) (fac (n - 1)) fun v hv => zT_eq h0 hn hv).symm
theorem cntT {c : Nat → Bool} {n : Nat} (h : ∀ k, k < n → c k = true) : cnt c n = n := by
  induction n with
  | zero => rfl
  | succ n ih => rw [cnt_succ, ih (fun k hk => h k (by omega)), h n (by omega)]; rfl
theorem rounds_tot {n : Nat} (h0 : 0 < n) (hn : n ≤ 7) {s : Nat} (hs : s < 2 ^ n) : cnt (fun v => decide (runsR (rho n v) n s ≤ 1)) (fac (n - 1)) = if s = 0 ∨ s = 2 ^ n - 1 then fac (n - 1) else fac (pc s) * fac (n - pc s) := by
  by_cases w : s = 0 ∨ s = 2 ^ n - 1
  · rw [if_pos w]
    refine cntT fun v hv => ?_
    obtain ⟨g1, g2⟩ := rho_fn h0 hn hv
    have := arc_claim h0 hn g1 g2 hs
    rw [decide_eq_true_eq]
    refine Classical.byContradiction fun q => ?_
    rw [if_neg q] at this
    rcases w with w | w
    · rw [if_pos w.symm] at this; omega
    · rw [if_pos w.symm] at this; omega
  · rw [if_neg w]
    have e := arcs_tot h0 hn hs
    unfold dS at e
    rw [if_neg w] at e
    rw [← e, ← sm_cnt]
    refine sm_congr fun v hv => ?_
    obtain ⟨g1, g2⟩ := rho_fn h0 hn hv
    have := arc_claim h0 hn g1 g2 hs
    rw [if_neg (show ¬ 0 = s from fun q => w (Or.inl q.symm)), if_neg (show ¬ 2 ^ n - 1 = s from fun q => w (Or.inr q.symm)), Nat.zero_add] at this
    rw [← this]
    by_cases q : runsR (rho n v) n s ≤ 1
    · rw [decide_eq_true q, if_pos q, if_pos rfl]
    · rw [decide_eq_false q, if_neg q, if_neg Bool.false_ne_true]
theorem pc_ends : ∀ n, n < 8 → 0 < n → ∀ s, s < 2 ^ n → ((s = 0 ∨ s = 2 ^ n - 1) ↔ (pc s = 0 ∨ pc s = n)) := by decide +kernel
theorem roundsWithArc_c {n s : Nat} (h0 : 0 < n) (hn : n ≤ 7) (hs : s < 2 ^ n) : X4_roundsWithArc (nI n) (nI (pc s)) = some (nI (if s = 0 ∨ s = 2 ^ n - 1 then fac (n - 1) else fac (pc s) * fac (n - pc s))) := by
  have hp := pc_n n hn s hs
  have he := pc_ends n (by omega) h0 s hs
  obtain ⟨f1, f2⟩ := fac_7 (n - 1) (by omega)
  obtain ⟨f3, f4⟩ := fac_7 (pc s) (by omega)
  obtain ⟨f5, f6⟩ := fac_7 (n - pc s) (by omega)
  unfold X4_roundsWithArc
  rw [nI_m1 h0, gin_nI (by omega) (by decide), nI_clamp (by omega), f2, gin_nI (by omega) (by decide), pk_sub hp, gin_nI (by omega) (by decide), nI_clamp (by omega), nI_clamp (by omega), f4, f6, pk_mul]
  by_cases w0 : pc s = 0
  · rw [if_pos (show nI (pc s) = 0 by rw [w0]; rfl), if_pos (he.mpr (Or.inl w0))]
  · rw [if_neg (show ¬ nI (pc s) = 0 from fun q => w0 ((nI_eq (b := 0) (by omega) (by decide)).mp q))]
    by_cases w1 : pc s = n
    · rw [if_pos (show nI (pc s) = nI n by rw [w1]), if_pos (he.mpr (Or.inr w1))]
    · rw [if_neg (show ¬ nI (pc s) = nI n from fun q => w1 ((nI_eq (by omega) (by omega)).mp q)), if_neg (fun q => by rcases he.mp q with q | q <;> omega)]
section SIM
variable {cP : Nat → Int32} {cLo : Nat → Int64} {cHi : Nat → Int64} {cpl : Nat → Int32} {ctb : Nat → Int32} {ctl : Int32} {ctf : Int32} {ctp : Int32} {ctk : Int32} {cts : Int32} {cth : Int32} {cob : Nat → Int32} {col : Int32} {cso : Nat → Int32} {cha : Int32} {chs : Int32} {cbe : Int32} {ctr : Int32} {cgl : Nat → Int64} {cgh : Nat → Int64} {cll : Nat → Int64} {clh : Nat → Int64} {cta : Nat → Int32} {cme : Nat → Int32} {cps : Int32} {cwh : Nat → Int32} {cal : Nat → Int64} {cah : Nat → Int64} {mthr : Int32} {mfrp : Int32} {mact : Int32} {mtpd : Int32} {msiz : Int32} {matx : Int32} {mfrm : Int32} {mtok : Int32} {mval : Int32} {mfk : Int32} {mfpl : Int32} {mbem : Int32} {mtrs : Int32} {mtrl : Int32} {mrom : Int32} {mtom : Int32} {mnow : Nat → Int32} {mfre : Nat → Int32} {mkep : Nat → Int32} {mtap : Nat → Int32} {mlef : Nat → Int32} {mtak : Nat → Int32} {mbes : Nat → Int32} {mrow : Nat → Int32} {mint : Nat → Int32} {mrnd : Nat → Int32} {mplo : Nat → Int32} {mhio : Nat → Int32} {mtox : Nat → Int32} {mtol : Nat → Int32}
theorem sim_rounds {p1 p2 : Int32} (hr : Rel cP cLo cHi ctb ctl ctf ctp cob col cso cha chs mact mtpd mfk mfpl mtom mnow mkep mtap mtol) : ∃ (r : Int32) (omrnd : Nat → Int32) (omplo : Nat → Int32), X8_rounds p1 p2 = some r ∧ X9_rounds mrnd mplo p1 p2 = some (r, omrnd, omplo) ∧ Rel cP cLo cHi ctb ctl ctf ctp cob col cso cha chs mact mtpd mfk mfpl mtom mnow mkep mtap mtol := by
  unfold X8_rounds X9_rounds
  rw [X9_in_n (a := 1) (b := 7) (by decide) (by decide) rfl rfl, bd1_s]
  rcases in_cases (p := p1) 1 7 (by decide) with ⟨n, h0, hn, rfl⟩ | h
  · have hq := pow_le7 hn
    have hp := Nat.two_pow_pos n
    have f0 := fac_pos (n - 1)
    obtain ⟨f1, f2⟩ := fac_7 (n - 1) (by omega)
    rw [isPC_in h0 hn, bd1_s, i10, nI_toInt (by omega), decide_eq_true (by omega), bt0, shl1 n (by omega), nI_m1 hp, X9_in_n (a := 0) (b := 2 ^ n - 1) (by decide) (by omega) rfl (nI_t64 (by omega)), bd1_s]
    rcases in_cases (p := p2) 0 (2 ^ n - 1) (by omega) with ⟨s, _, hs, rfl⟩ | h
    · rw [if_neg (nI_pos (by omega)), if_pos (nI_lt (by omega) (by omega)), J6_eq _ (show s < 128 by omega), bd1_s, roundsWithArc_c h0 hn (by omega), bd1_s, nI_toInt (by omega), decide_eq_true (by omega), bt0, ← rounds_tot h0 hn (by omega)]
      have := lfp4_inv (F := X9_rounds_h35 (nI n) (nI s)) (fun o => ∃ om op, o = some (nI (cnt (fun v => decide (runsR (rho n v) n s ≤ 1)) (fac (n - 1))), om, op)) (fac (n - 1)) (fun v a x _ _ => a = nI (cnt (fun v => decide (runsR (rho n v) n s ≤ 1)) v) ∧ x = nI v) (fun v a x m mp hv hI => ?_) (fun a x m mp hI => ?_) (a1 := 0) (a2 := 0) (a3 := mrnd) (a4 := mplo) ⟨rfl, rfl⟩
      · obtain ⟨om, op, e⟩ := this
        exact ⟨_, om, op, rfl, e, hr⟩
      · obtain ⟨rfl, rfl⟩ := hI
        obtain ⟨g1, g2⟩ := rho_fn h0 hn hv
        obtain ⟨mp', e⟩ := laysRound_9 h0 hn hv m mp
        right
        refine ⟨nI (cnt (fun v => decide (runsR (rho n v) n s ≤ 1)) (v + 1)), nI (v + 1), fillL m 0 (rdL n v), mp', fun r => ?_, rfl, rfl⟩
        unfold X9_rounds_h35
        rw [rounds0_9 h0 hn, bd1_s, if_neg (nI_ge hv (by omega)), e, bd2_s, isArc_9 h0 hn g1 (fun x hx => rd_rho h0 hn hx) (by omega), bd1_s, ib0, nI_1, nI_1, Int32.add_zero, cnt_succ]
        cases decide (runsR (rho n v) n s ≤ 1) <;> rfl
      · obtain ⟨rfl, rfl⟩ := hI
        refine ⟨_, fun r => ?_, m, mp, rfl⟩
        unfold X9_rounds_h35
        rw [rounds0_9 h0 hn, bd1_s, if_pos (nI_le (Nat.le_refl _) (by omega))]
    · rw [decide_eq_false h, bf0]
      exact ⟨-2, _, _, outC h rfl (by rw [nI_toInt (by omega)]; omega), rfl, hr⟩
  · rw [isPC_out h, bd1_s, i00, decide_eq_false h, bf0]
    exact ⟨_, _, _, rfl, rfl, hr⟩
end SIM
