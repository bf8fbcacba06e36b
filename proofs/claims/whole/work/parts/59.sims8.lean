/-! two families; the order of points; rows -/
theorem sm_le {g h : Nat → Nat} {n : Nat} (e : ∀ k, k < n → g k ≤ h k) : sm g n ≤ sm h n := by
  induction n with
  | zero => exact Nat.le_refl _
  | succ n ih => show sm g n + g n ≤ sm h n + h n; have := ih (fun k hk => e k (by omega)); have := e n (by omega); omega
theorem sm_const (c n : Nat) : sm (fun _ => c) n = n * c := by
  induction n with
  | zero => show 0 = 0 * c; rw [Nat.zero_mul]
  | succ n ih => show sm (fun _ => c) n + c = _; rw [ih, Nat.succ_mul]
theorem sm_cut {g : Nat → Nat} {m n : Nat} (h : m ≤ n) (hz : ∀ k, m ≤ k → k < n → g k = 0) : sm g n = sm g m := by
  induction n with
  | zero => rw [show m = 0 by omega]
  | succ n ih =>
    by_cases e : m = n + 1
    · rw [e]
    · show sm g n + g n = sm g m
      rw [ih (by omega) (fun k h1 h2 => hz k h1 (by omega)), hz n (by omega) (by omega), Nat.add_zero]
def apx (g : Nat → Bool) (s : Nat) : Nat := cnt (fun t => g t && (s &&& t == 0)) 128
def mtx (g : Nat → Bool) (s : Nat) : Nat := cnt (fun t => g t && !(s &&& t == 0)) 128
theorem cnt_split (a b : Nat → Bool) (n : Nat) : cnt (fun t => a t && b t) n + cnt (fun t => a t && !b t) n = cnt a n := by
  induction n with
  | zero => rfl
  | succ n ih => simp only [cnt_succ]; cases a n <;> cases b n <;> simp <;> omega
def smF (f : Nat → Bool) (h : Nat → Nat) (n : Nat) : Nat := sm (fun s => if f s = true then h s else 0) n
theorem smF_s (f : Nat → Bool) (h : Nat → Nat) (n : Nat) : smF f h (n + 1) = smF f h n + if f n = true then h n else 0 := rfl
theorem two_sum (f g : Nat → Bool) (N : Nat) : smF f (mtx g) N + smF f (apx g) N = cnt f N * cnt g 128 := by
  induction N with
  | zero => show 0 + 0 = 0 * _; rw [Nat.zero_mul]
  | succ N ih =>
    rw [smF_s, smF_s, cnt_succ, Nat.add_mul, ← ih]
    have h := cnt_split g (fun t => N &&& t == 0) 128
    cases hf : f N with
    | true =>
      rw [if_pos rfl, if_pos rfl, if_pos rfl, Nat.one_mul, ← h]
      show smF f (mtx g) N + cnt (fun t => g t && !(N &&& t == 0)) 128 + (smF f (apx g) N + cnt (fun t => g t && (N &&& t == 0)) 128) = _
      omega
    | false => rw [if_neg (by decide), if_neg (by decide), if_neg (by decide), Nat.zero_mul]; omega
theorem smF_bound (f : Nat → Bool) (h : Nat → Nat) (hh : ∀ s, h s ≤ 128) (n : Nat) : smF f h n ≤ n * 128 := by
  have := sm_le (g := fun s => if f s = true then h s else 0) (h := fun _ => 128) (n := n) (fun k _ => by
    show (if f k = true then h k else 0) ≤ 128
    split
    · exact hh k
    · omega)
  rw [sm_const] at this
  exact this
theorem smF_cut {n : Nat} {f : Nat → Bool} {h : Nat → Nat} (hn : n ≤ 7) (hi : inN n f) : smF f h 128 = smF f h (2 ^ n) := sm_cut (pow_le7 hn) fun k h1 _ => by
  show (if f k = true then h k else 0) = 0
  rw [if_neg]
  intro q
  have := hi k q
  omega
theorem twosApart_V {cP : Nat → Int32} {V : Nat → Nat → Bool} {j l n n' : Nat} (hj : j < 3) (hl : l < 3) (hP : cP j = nI n) (hPl : cP l = nI n') (hn : n ≤ 7) : ∃ x g, X8_twosApartAcross cP (LO V) (HI V) j l = some (nI (smF (V j) (apx (V l)) (2 ^ n)), va_up cP 3 x, LO (va_up V 3 g), HI (va_up V 3 g)) := by
  have hq := pow_le7 hn
  unfold X8_twosApartAcross
  refine lfp5_inv (F := X8_twosApartAcross_h5 j l) (fun o => ∃ x g, o = some (nI (smF (V j) (apx (V l)) (2 ^ n)), va_up cP 3 x, LO (va_up V 3 g), HI (va_up V 3 g))) (2 ^ n) (fun k s a c lo hi => s = nI (smF (V j) (apx (V l)) k) ∧ a = nI k ∧ (∃ x g, c = va_up cP 3 x ∧ lo = LO (va_up V 3 g) ∧ hi = HI (va_up V 3 g))) (fun k s a c lo hi' hk hI => ?_) (fun s a c lo hi' hI => ?_) ⟨rfl, rfl, ⟨cP 3, V 3, by rw [up_self], by rw [up_self], by rw [up_self]⟩⟩
  · obtain ⟨rfl, rfl, ⟨x, g, rfl, rfl, rfl⟩⟩ := hI
    have hsp : X0_span (va_up cP 3 x) j = some (nI (2 ^ n)) := X0_span_eq (by rw [up_ne (by omega)]; exact hP) hn
    right
    cases hb : V j k with
    | false =>
      refine ⟨nI (smF (V j) (apx (V l)) k), _, _, _, _, fun r => ?_, by rw [smF_s, hb]; rfl, rfl, ⟨x, g, rfl, rfl, rfl⟩⟩
      unfold X8_twosApartAcross_h5
      rw [hsp, bd1_s, if_neg (nI_ge hk (by omega)), holds_V (by omega), bd1_s, up_ne (by omega), hb, bf0, nI_1]
    | true =>
      have hsz : cnt (ksW k 0 (V l) 7) 128 = apx (V l) k := cnt_congr fun s hs => by
        rw [ks_eq hs (by omega), Nat.zero_and, Nat.and_comm s k]
        cases V l s <;> rfl
      refine ⟨_, _, _, _, _, fun r => ?_, by rw [smF_s, hb, if_pos rfl], rfl, ⟨cP l, ksW k 0 (V l) 7, rfl, rfl, rfl⟩⟩
      unfold X8_twosApartAcross_h5
      rw [hsp, bd1_s, if_neg (nI_ge hk (by omega)), holds_V (by omega), bd1_s, up_ne (by omega), hb, bt0, become_V, bd3_s, show (0 : Int32) = nI 0 from rfl, keepSharing_V (by omega) (by omega), bd2_s, size_V, bd1_s, nI_1]
      simp only [up_at, bx_uu, up_ne (show l ≠ 3 by omega), hsz, nI_add]
  · obtain ⟨rfl, rfl, ⟨x, g, rfl, rfl, rfl⟩⟩ := hI
    refine ⟨_, fun r => ?_, x, g, rfl⟩
    unfold X8_twosApartAcross_h5
    rw [X0_span_eq (n := n) (by rw [up_ne (by omega)]; exact hP) hn, bd1_s, if_pos (nI_le (Nat.le_refl _) (by omega))]
theorem across_9 {mnow : Nat → Int32} {j l n n' k : Nat} {f g : Nat → Bool} (hj : j < 3) (hl : l < 3) (hM : FamM mnow (129 * j) (n, f)) (hMl : FamM mnow (129 * l) (n', g)) (hk : k ≤ 3) : lfp3 (X9_across_h40 (nI k) mnow (nI j) (nI l)) 0 0 0 = some (if k = 0 then nI (smF f (mtx g) 128) else if k = 1 then nI (smF f (apx g) 128) else if k = 2 then nI (cnt (fun s => f s && g s) 128) else nI (cnt (fun s => f s || g s) 128)) := by
  exact lfp3_for (F := X9_across_h40 (nI k) mnow (nI j) (nI l)) 128 (fun s => nI (smF f (mtx g) s)) (fun s => nI (cnt (fun s => f s && g s) s)) (fun s => nI s) (fun s hs r => by
    unfold X9_across_h40
    rw [if_neg (inn128 hs), isIn9 hj hM hs, bd1_s, isIn9 hl hMl hs, bd1_s, smF_s, cnt_succ]
    cases hf : f s with
    | false => rw [bf0, nI_1]; rfl
    | true =>
      have key : ∀ b : Bool, X9_across_j78 r (nI (cnt (fun s => f s && g s) s)) (nI s) mnow (nI l) (nI (smF f (mtx g) s)) (b01 b) = r (nI (smF f (mtx g) s + mtx g s)) (nI (cnt (fun s => f s && g s) s + if b = true then 1 else 0)) (nI (s + 1)) := by
        intro b
        unfold X9_across_j78
        exact lfp2_cnt (F := X9_across_h84 r (nI (cnt (fun s => f s && g s) s)) (b01 b) (nI s) mnow (nI l)) (fun t => g t && !(s &&& t == 0)) 128 (smF f (mtx g) s) (fun a => r (nI a) (nI (cnt (fun s => f s && g s) s + if b = true then 1 else 0)) (nI (s + 1))) (fun t ht a r2 => by
          have hst : s &&& t < 128 := and_128l hs
          unfold X9_across_h84
          rw [if_neg (inn128 ht), isIn9 hl hMl ht, bd1_s, ib0, land_nI', nI_1, nI_1, Int32.add_zero]
          cases g t with
          | false => rfl
          | true =>
            rw [if_pos rfl, Bool.true_and]
            by_cases e : s &&& t = 0
            · rw [if_pos (show nI (s &&& t) = 0 by rw [e]; rfl), show (s &&& t == 0) = true by simpa using e]; rfl
            · rw [if_neg (nI_ne0 (by omega) (by omega)), show (s &&& t == 0) = false by simpa using e]; rfl) (fun a r2 => by
          unfold X9_across_h84
          rw [if_pos i128, nI_b01, nI_1])
      rw [bt0, ib0, if_pos rfl]
      cases hg : g s with
      | false => rw [if_neg (by decide)]; exact key false
      | true => rw [if_pos rfl]; exact key true) (fun r => by
    have h2 := two_sum f g 128
    have h3 := cnt_or (c := f) (d := g) (n := 128)
    unfold X9_across_h40
    rw [if_pos i128, many9 hj hM, bd1_s, bd1_s, many9 hl hMl, bd1_s, bd1_s]
    rcases (show k = 0 ∨ k = 1 ∨ k = 2 ∨ k = 3 by omega) with rfl | rfl | rfl | rfl
    · rfl
    · rw [if_neg (by decide), if_pos (by decide), pk_mul, ← h2, pk_sub (by omega), Nat.add_sub_cancel_left, if_neg (by decide), if_pos (by decide)]
    · rfl
    · rw [if_neg (by decide), if_neg (by decide), if_neg (by decide), nI_add, h3, pk_sub (by omega), Nat.add_sub_cancel]; rfl)
section SIM
variable {cP : Nat → Int32} {cLo : Nat → Int64} {cHi : Nat → Int64} {cpl : Nat → Int32} {ctb : Nat → Int32} {ctl : Int32} {ctf : Int32} {ctp : Int32} {ctk : Int32} {cts : Int32} {cth : Int32} {cob : Nat → Int32} {col : Int32} {cso : Nat → Int32} {cha : Int32} {chs : Int32} {cbe : Int32} {ctr : Int32} {cgl : Nat → Int64} {cgh : Nat → Int64} {cll : Nat → Int64} {clh : Nat → Int64} {cta : Nat → Int32} {cme : Nat → Int32} {cps : Int32} {cwh : Nat → Int32} {cal : Nat → Int64} {cah : Nat → Int64} {mthr : Int32} {mfrp : Int32} {mact : Int32} {mtpd : Int32} {msiz : Int32} {matx : Int32} {mfrm : Int32} {mtok : Int32} {mval : Int32} {mfk : Int32} {mfpl : Int32} {mbem : Int32} {mtrs : Int32} {mtrl : Int32} {mrom : Int32} {mtom : Int32} {mnow : Nat → Int32} {mfre : Nat → Int32} {mkep : Nat → Int32} {mtap : Nat → Int32} {mlef : Nat → Int32} {mtak : Nat → Int32} {mbes : Nat → Int32} {mrow : Nat → Int32} {mint : Nat → Int32} {mrnd : Nat → Int32} {mplo : Nat → Int32} {mhio : Nat → Int32} {mtox : Nat → Int32} {mtol : Nat → Int32}
theorem sim_across {p1 p2 p3 : Int32} (hr : Rel cP cLo cHi ctb ctl ctf ctp cob col cso cha chs mact mtpd mfk mfpl mtom mnow mkep mtap mtol) : ∃ (r : Int32) (ocP : Nat → Int32) (ocLo : Nat → Int64) (ocHi : Nat → Int64), X8_across cP cLo cHi p1 p2 p3 = some (r, ocP, ocLo, ocHi) ∧ X9_across mnow p1 p2 p3 = some r ∧ Rel ocP ocLo ocHi ctb ctl ctf ctp cob col cso cha chs mact mtpd mfk mfpl mtom mnow mkep mtap mtol := by
  obtain ⟨V, rfl, rfl, hV⟩ := toV cLo cHi
  unfold X8_across X9_across
  rcases famcase hV hr p1 with ⟨j, n, hj, rfl, h0, hn, hi, hP, hM, e1, e2⟩ | ⟨e1, e2⟩
  · rcases famcase hV hr p2 with ⟨l, n', hl, rfl, h0', hn', hi', hP', hM', e1', e2'⟩ | ⟨e1', e2'⟩
    · rw [e1, bdo_s, e1', bdo_s, e2, bd1_s, i10, e2', bd1_s, i10, X9_in_n (a := 0) (b := 3) (by decide) (by decide) rfl rfl, bd1_s]
      rcases in_cases (p := p3) 0 3 (by decide) with ⟨k, _, hk, rfl⟩ | h
      · rw [if_neg (nI_pos (by omega)), if_pos (show nI k ≤ (3 : Int32) from nI_le (b := 3) hk (by decide)), nI_toInt (by omega), decide_eq_true (by omega), bt0, across_9 hj hl hM hM' hk]
        have h2 := two_sum (V j) (V l) 128
        obtain ⟨x, g, ht⟩ := twosApart_V (cP := cP) (V := V) hj hl hP hP' hn
        rw [← smF_cut hn hi] at ht
        rcases (show k = 0 ∨ k = 1 ∨ k = 2 ∨ k = 3 by omega) with rfl | rfl | rfl | rfl
        · rw [if_pos (by decide), size_V, bd1_s, size_V, bd1_s, ht, bd4_s, pk_mul, ← h2, pk_sub (by omega), Nat.add_sub_cancel]
          exact ⟨_, _, _, _, rfl, rfl, keep3 hr _ _⟩
        · rw [if_neg (by decide), if_pos (by decide), ht, bd4_s]
          exact ⟨_, _, _, _, rfl, rfl, keep3 hr _ _⟩
        · rw [if_neg (by decide), if_neg (by decide), if_pos (by decide), become_V, bd3_s, keep_V, bd2_s, size_V, bd1_s]
          simp only [up_at, bx_uu, up_ne (show l ≠ 3 by omega)]
          exact ⟨_, _, _, _, rfl, rfl, keep3 hr _ _⟩
        · rw [if_neg (by decide), if_neg (by decide), if_neg (by decide), become_V, bd3_s, join_V, bd2_s, size_V, bd1_s]
          simp only [up_at, bx_uu, up_ne (show l ≠ 3 by omega)]
          exact ⟨_, _, _, _, rfl, rfl, keep3 hr _ _⟩
      · rw [decide_eq_false h, bf0]
        exact ⟨-2, _, _, _, outA h rfl rfl, rfl, hr⟩
    · rw [e1, bdo_s, e1', bdo_n, e2, bd1_s, i10, e2', bd1_s, i00]
      exact ⟨_, _, _, _, rfl, rfl, hr⟩
  · rw [e1, bdo_n, e2, bd1_s, i00]
    rcases famcase hV hr p2 with ⟨l, n', hl, rfl, h0', hn', hi', hP', hM', e1', e2'⟩ | ⟨e1', e2'⟩
    · rw [e1', bdo_s]; exact ⟨_, _, _, _, rfl, rfl, hr⟩
    · rw [e1', bdo_n]; exact ⟨_, _, _, _, rfl, rfl, hr⟩
theorem inj_surj : ∀ (n : Nat) (F : Nat → Nat), (∀ p, p < n → F p < n) → (∀ p, p < n → ∀ q, q < n → F p = F q → p = q) → ∀ k, k < n → ∃ p, p < n ∧ F p = k := by
  intro n
  induction n with
  | zero => intro F _ _ k hk; omega
  | succ n ih =>
    intro F h1 h2 k hk
    have hm : ∀ p, p < n → F p ≠ F n := fun p hp e => by have := h2 p (by omega) n (by omega) e; omega
    by_cases hkm : k = F n
    · exact ⟨n, by omega, hkm.symm⟩
    · have hG1 : ∀ p, p < n → (if F p = n then F n else F p) < n := fun p hp => by
        have a := h1 p (by omega)
        have b := h1 n (by omega)
        have c := hm p hp
        split <;> omega
      have hG2 : ∀ p, p < n → ∀ q, q < n → (if F p = n then F n else F p) = (if F q = n then F n else F q) → p = q := fun p hp q hq e => by
        have c1 := hm p hp
        have c2 := hm q hq
        by_cases a : F p = n
        · by_cases b : F q = n
          · exact h2 p (by omega) q (by omega) (a.trans b.symm)
          · rw [if_pos a, if_neg b] at e; exact absurd e.symm c2
        · by_cases b : F q = n
          · rw [if_neg a, if_pos b] at e; exact absurd e c1
          · rw [if_neg a, if_neg b] at e; exact h2 p (by omega) q (by omega) e
      by_cases hkn : k = n
      · have hFn : F n < n := by have := h1 n (by omega); omega
        obtain ⟨p, g1, g2⟩ := ih _ hG1 hG2 (F n) hFn
        by_cases a : F p = n
        · exact ⟨p, by omega, by rw [a, hkn]⟩
        · rw [if_neg a] at g2; exact absurd g2 (hm p g1)
      · obtain ⟨p, g1, g2⟩ := ih _ hG1 hG2 k (by omega)
        by_cases a : F p = n
        · rw [if_pos a] at g2; exact absurd g2.symm hkm
        · rw [if_neg a] at g2; exact ⟨p, by omega, g2⟩
def dgF (f : Nat → Bool) (p : Nat) : Nat := cnt (fun s => f s && s.testBit p) 128
def ahB (f : Nat → Bool) (p q : Nat) : Bool := decide (dgF f p < dgF f q) || (decide (dgF f q = dgF f p) && decide (q < p))
def ahN (f : Nat → Bool) (n p : Nat) : Nat := cnt (ahB f p) n
theorem ahB_iff {f : Nat → Bool} {p q : Nat} : ahB f p q = true ↔ dgF f p < dgF f q ∨ (dgF f q = dgF f p ∧ q < p) := by
  unfold ahB
  rw [Bool.or_eq_true, Bool.and_eq_true, decide_eq_true_eq, decide_eq_true_eq, decide_eq_true_eq]
theorem ah_lt {f : Nat → Bool} {n p q : Nat} (hp : p < n) (h : ahB f q p = true) : ahN f n p < ahN f n q := by
  have h1 := cnt_sub_eq (a := ahB f p) (b := ahB f q) (N := n) (fun t ht ha => by
    rw [ahB_iff] at ha h ⊢
    omega)
  rcases Nat.lt_or_ge (cnt (ahB f p) n) (cnt (ahB f q) n) with g | g
  · exact g
  · have e : cnt (ahB f p) n = cnt (ahB f q) n := by omega
    have := h1.2.mp e p hp h
    rw [ahB_iff] at this
    omega
theorem ah_inj {f : Nat → Bool} {n p q : Nat} (hp : p < n) (hq : q < n) (e : ahN f n p = ahN f n q) : p = q := by
  by_cases h1 : ahB f q p = true
  · have := ah_lt hp h1; omega
  · by_cases h2 : ahB f p q = true
    · have := ah_lt hq h2; omega
    · rw [ahB_iff] at h1 h2; omega
theorem ah_bound {f : Nat → Bool} {n p : Nat} (hp : p < n) : ahN f n p < n := by
  have h1 := cnt_sub_eq (a := ahB f p) (b := fun _ => true) (N := n) (fun _ _ _ => rfl)
  have h2 : cnt (fun _ => true) n = n := by
    have := cnt_not (fun _ => true) n
    rw [show cnt (fun k => !(fun _ => true) k) n = 0 from cnt_false fun _ _ => rfl] at this
    omega
  rw [h2] at h1
  rcases Nat.lt_or_ge (cnt (ahB f p) n) n with g | g
  · exact g
  · have := h1.2.mp (by omega) p hp rfl
    rw [ahB_iff] at this
    omega
theorem sim_order {p1 p2 : Int32} (hr : Rel cP cLo cHi ctb ctl ctf ctp cob col cso cha chs mact mtpd mfk mfpl mtom mnow mkep mtap mtol) : ∃ (r : Int32) , X8_order cP cLo cHi p1 p2 = some r ∧ X9_order mnow p1 p2 = some r ∧ Rel cP cLo cHi ctb ctl ctf ctp cob col cso cha chs mact mtpd mfk mfpl mtom mnow mkep mtap mtol := by
  obtain ⟨V, rfl, rfl, hV⟩ := toV cLo cHi
  unfold X8_order X9_order
  rcases famcase hV hr p1 with ⟨j, n, hj, rfl, h0, hn, hi, hP, hM, e1, e2⟩ | ⟨e1, e2⟩
  · rw [e1, bdo_s, isPoint9 hj hM hn h0, bd1_s, X0_knowsPoint_eq hP hn, bd1_s]
    by_cases q : 0 ≤ p2.toInt ∧ p2.toInt < (n : Int)
    · obtain ⟨k, hk, rfl⟩ := point_of hn q
      rw [decide_eq_true q, bt0, bt0]
      have hdb : ∀ p, dgF (V j) p ≤ 128 := fun p => cnt_le _ 128
      have dV : ∀ t, t < n → X0_degreeOf (LO V) (HI V) j (nI t) = some (nI (dgF (V j) t)) := fun t ht => degreeOf_V (by omega)
      have hX8 : ∀ p, p < n → X8_pointsAhead cP (LO V) (HI V) j (nI p) = some (nI (ahN (V j) n p)) := fun p hp => by
        unfold X8_pointsAhead
        have := lfp2_cnt (F := X8_pointsAhead_h4 cP j (LO V) (HI V) (nI p)) (ahB (V j) p) n 0 (fun a => some (nI a)) (fun t ht a r => by
          have b1 := hdb t
          have b2 := hdb p
          unfold X8_pointsAhead_h4
          rw [hP, if_neg (nI_ge ht (by omega)), dV t ht, bd1_s, dV p hp, bd1_s, nI_1, nI_1]
          have hti : (nI (dgF (V j) t) - nI (dgF (V j) p)).toInt = (dgF (V j) t : Int) - dgF (V j) p := pk_sub_toInt (by omega) (by omega)
          by_cases c1 : dgF (V j) p < dgF (V j) t
          · rw [if_pos (i32_lt.mpr (by rw [hti]; have : (0 : Int32).toInt = 0 := rfl; omega)), show ahB (V j) p t = true from ahB_iff.mpr (Or.inl c1)]; rfl
          · rw [if_neg (fun z => by have := i32_lt.mp z; rw [hti] at this; have : (0 : Int32).toInt = 0 := rfl; omega)]
            by_cases c2 : dgF (V j) t = dgF (V j) p
            · rw [if_pos (Int32.toInt_inj.mp (by rw [hti]; have : (0 : Int32).toInt = 0 := rfl; omega))]
              by_cases c3 : t < p
              · rw [if_neg (nI_ge c3 (by omega)), show ahB (V j) p t = true from ahB_iff.mpr (Or.inr ⟨c2, c3⟩)]; rfl
              · rw [if_pos (nI_le (by omega) (by omega)), show ahB (V j) p t = false from Bool.eq_false_iff.mpr (fun z => by have := ahB_iff.mp z; omega)]; rfl
            · rw [if_neg (fun z => by
                have := congrArg Int32.toInt z
                rw [hti] at this
                have : (0 : Int32).toInt = 0 := rfl
                omega), show ahB (V j) p t = false from Bool.eq_false_iff.mpr (fun z => by have := ahB_iff.mp z; omega)]; rfl) (fun a r => by
          unfold X8_pointsAhead_h4
          rw [hP, if_pos (nI_le (Nat.le_refl _) (by omega))])
        rw [Nat.zero_add] at this
        exact this
      obtain ⟨p, hp, hpk⟩ := inj_surj n (ahN (V j) n) (fun p hp => ah_bound hp) (fun p hp q hq e => ah_inj hp hq e) k hk
      refine ⟨nI p, ?_, ?_, hr⟩
      · refine lfp1_stop (F := X8_order_h24 cP j (LO V) (HI V) (nI k)) 0 p (Nat.zero_le p) (fun t _ ht r => ?_) (fun r => ?_)
        · have b := ah_bound (f := V j) (show t < n by omega)
          unfold X8_order_h24
          rw [hP, if_neg (nI_ge (by omega) (by omega)), hX8 t (by omega), bd1_s, if_neg (fun z => by
            have := (nI_eq (by omega) (by omega)).mp z
            have := ah_inj (f := V j) (n := n) (p := t) (q := p) (by omega) hp (by omega)
            omega), nI_1]
        · unfold X8_order_h24
          rw [hP, if_neg (nI_ge hp (by omega)), hX8 p hp, bd1_s, if_pos (by rw [hpk])]
      · have := lfp2_for (F := X9_order_h17 mnow (nI j) (nI k)) (y := some (nI p)) n (fun t => if t ≤ p then (-1 : Int32) else nI p) (fun t => nI t) (fun t ht r => by
          have b := ah_bound (f := V j) ht
          unfold X9_order_h17
          rw [points9 hj hM, bd1_s, if_neg (nI_ge ht (by omega))]
          have inner := lfp2_cnt (F := X9_order_h33 mnow (nI j) (nI k) r (nI t) (if t ≤ p then (-1 : Int32) else nI p)) (ahB (V j) t) n 0 (fun a => if nI a = nI k then r (nI t) (nI (t + 1)) else r (if t ≤ p then (-1 : Int32) else nI p) (nI (t + 1))) (fun u hu a r2 => by
            have b1 := hdb t
            have b2 := hdb u
            unfold X9_order_h33
            rw [points9 hj hM, bd1_s, if_neg (nI_ge hu (by omega)), deg9 hj hM (by omega), bd1_s, deg9 hj hM (by omega), bd1_s, bd1_s, bd1_s, nI_1, nI_1, Int32.add_zero]
            show (if nI (dgF (V j) t) < nI (dgF (V j) u) then _ else (if nI (dgF (V j) u) = nI (dgF (V j) t) then _ else _)) = _
            by_cases c1 : dgF (V j) t < dgF (V j) u
            · rw [if_pos (nI_lt c1 (by omega)), show ahB (V j) t u = true from ahB_iff.mpr (Or.inl c1)]; rfl
            · rw [if_neg (nI_nlt (by omega) (by omega))]
              by_cases c2 : dgF (V j) u = dgF (V j) t
              · rw [if_pos (by rw [c2])]
                by_cases c3 : u < t
                · rw [if_neg (nI_ge c3 (by omega)), show ahB (V j) t u = true from ahB_iff.mpr (Or.inr ⟨c2, c3⟩)]; rfl
                · rw [if_pos (nI_le (by omega) (by omega)), show ahB (V j) t u = false from Bool.eq_false_iff.mpr (fun z => by have := ahB_iff.mp z; omega)]; rfl
              · rw [if_neg (fun z => c2 ((nI_eq (by omega) (by omega)).mp z)), show ahB (V j) t u = false from Bool.eq_false_iff.mpr (fun z => by have := ahB_iff.mp z; omega)]; rfl) (fun a r2 => by
            unfold X9_order_h33
            rw [points9 hj hM, bd1_s, if_pos (nI_le (Nat.le_refl _) (by omega)), nI_1])
          rw [Nat.zero_add] at inner
          refine inner.trans ?_
          show (if nI (ahN (V j) n t) = nI k then _ else _) = _
          by_cases e : t = p
          · subst e
            rw [if_pos (by rw [hpk]), if_neg (by omega)]
          · rw [if_neg (fun z => by
              have := (nI_eq (by omega) (by omega)).mp z
              exact e (ah_inj (f := V j) (n := n) ht hp (by omega)))]
            by_cases c : t ≤ p
            · rw [if_pos c, if_pos (by omega)]
            · rw [if_neg c, if_neg (by omega)]) (fun r => by
          unfold X9_order_h17
          rw [points9 hj hM, bd1_s, if_pos (nI_le (Nat.le_refl _) (by omega)), if_neg (by omega)])
        exact this
    · rw [decide_eq_false q, bf0, bf0]
      exact ⟨_, rfl, rfl, hr⟩
  · rw [e1, bdo_n, X9_isPoint_out e2, bd1_s, i00]
    exact ⟨_, rfl, rfl, hr⟩
end SIM
