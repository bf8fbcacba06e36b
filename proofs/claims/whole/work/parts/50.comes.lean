/-! what comes into a slot; what is undone -/
theorem imin_nI {a b : Nat} (ha : a < 2 ^ 31) (hb : b < 2 ^ 31) : imin (nI a) (nI b) = nI (min a b) := by
  unfold imin
  by_cases h : b < a
  · rw [if_pos (nI_lt h ha), Nat.min_eq_right (by omega)]
  · rw [if_neg (nI_nlt (by omega) hb), Nat.min_eq_left (by omega)]
theorem imax_nI {a b : Nat} (ha : a < 2 ^ 31) (hb : b < 2 ^ 31) : imax (nI a) (nI b) = nI (max a b) := by
  unfold imax
  by_cases h : a < b
  · rw [if_pos (nI_lt h hb), Nat.max_eq_right (by omega)]
  · rw [if_neg (nI_nlt (by omega) ha), Nat.max_eq_left (by omega)]
theorem X9_keeps_j52_eq {A : Nat} (hA : A ≤ 9) (mnow m : Nat → Int32) : X9_keeps_j52 mnow (nI A) m = some (nI (A + 1), fillA m (387 * A) mnow 387) := by
  unfold X9_keeps_j52
  refine lfp2_fill m (387 * A) 0 387 mnow (fun k hk r => ?_) (fun r => ?_)
  · unfold X9_keeps_h54
    rw [Nat.zero_add, if_neg (show ¬ (387 : Int32) ≤ nI k from nI_ge (b := 387) hk (by decide)), gin_nI hk (by decide), show (387 : Int32) * nI A = nI (387 * A) from pk_mul 387 A, nI_add, gin_nI (by omega) (by decide), nI_1, nI_clamp (by omega), nI_clamp (by omega)]
    simp only [Nat.zero_add]
  · unfold X9_keeps_h54
    rw [if_pos (by decide), nI_1]
theorem X9_keeps_eq {z : Nat} (hz : z ≤ 10) (mnow mkep : Nat → Int32) : ∃ z0 d mkep', z = z0 + d ∧ z0 ≤ 9 ∧ (z < 10 → d = 0) ∧ (z = 10 → d = 1) ∧ X9_keeps (nI z) mnow mkep = some (nI (z0 + 1), mkep') ∧ (∀ i, i < 387 * z0 → mkep' i = mkep (i + 387 * d)) ∧ (∀ i, i < 387 → mkep' (387 * z0 + i) = mnow i) := by
  by_cases h : z = 10
  · refine ⟨9, 1, fillA (fillA mkep 0 (fun t => mkep (t + 387)) 3483) (387 * 9) mnow 387, by omega, by omega, fun q => by omega, fun _ => rfl, ?_, fun i hi => ?_, fun i hi => ?_⟩
    · subst h
      unfold X9_keeps
      rw [if_pos (by decide)]
      refine lfp2_fill mkep 0 387 3483 (fun t => mkep (t + 387)) (fun k hk r => ?_) (fun r => ?_)
      · unfold X9_keeps_h13
        rw [if_neg (show ¬ (3870 : Int32) ≤ nI (387 + k) from nI_ge (b := 3870) (by omega) (by decide)), gin_nI (by omega) (by decide), show nI (387 + k) - (387 : Int32) = nI (387 + k - 387) from pk_sub (b := 387) (by omega), gin_nI (by omega) (by decide), nI_1, nI_clamp (by omega), nI_clamp (by omega), fillA_out (i := 387 + k) (by omega), show 387 + k - 387 = 0 + k by omega, show 387 + k = k + 387 by omega]
        rw [show k + 387 + 1 = 387 + (k + 1) by omega]
      · unfold X9_keeps_h13
        rw [if_pos (by decide)]
        exact X9_keeps_j52_eq (A := 9) (by omega) _ _
    · rw [fillA_out (by omega), fillA_in (by omega) (by omega)]
      show mkep (i - 0 + 387) = mkep (i + 387 * 1)
      rw [Nat.sub_zero, Nat.mul_one]
    · rw [fillA_in (by omega) (by omega), Nat.add_sub_cancel_left]
  · refine ⟨z, 0, fillA mkep (387 * z) mnow 387, by omega, by omega, fun _ => rfl, fun q => by omega, ?_, fun i hi => ?_, fun i hi => ?_⟩
    · unfold X9_keeps
      rw [if_neg (show ¬ nI z = (10 : Int32) from fun q => h ((nI_eq (b := 10) (by omega) (by decide)).mp q))]
      exact X9_keeps_j52_eq (by omega) _ _
    · rw [fillA_out (by omega), Nat.mul_zero, Nat.add_zero]
    · rw [fillA_in (by omega) (by omega), Nat.add_sub_cancel_left]
theorem lgc0 {x y : Int64} : (lg_cmp x y = 0) ↔ x = y := by
  unfold lg_cmp
  by_cases h : y < x
  · rw [if_pos h]
    constructor
    · intro q; exact absurd q (by decide)
    · intro q; subst q; exact absurd h Int64.lt_irrefl
  · rw [if_neg h]
    by_cases e : x = y
    · simp [e]
    · rw [if_neg e]; simp [e]
theorem sameAs_V {cP : Nat → Int32} {V : Nat → Nat → Bool} {i k : Nat} : X0_isSameAs cP (LO V) (HI V) i k = some (b01 (decide (cP i = cP k) && allB (fun s => V i s == V k s) 128)) := by
  unfold X0_isSameAs
  have e : (LO V i = LO V k ∧ HI V i = HI V k) ↔ ∀ s, s < 128 → (V i s == V k s) = true := by
    constructor
    · rintro ⟨h1, h2⟩ s hs
      rw [beq_iff_eq, ← mbs_LH (V := V) (i := i) hs, ← mbs_LH (V := V) (i := k) hs, h1, h2]
    · intro h
      exact mbs_ext fun s hs => by rw [mbs_LH hs, mbs_LH hs]; simpa using h s hs
  by_cases h0 : cP i = cP k
  · rw [if_pos h0, decide_eq_true h0, Bool.true_and]
    by_cases h1 : LO V i = LO V k
    · rw [if_pos (lgc0.mpr h1)]
      by_cases h2 : HI V i = HI V k
      · rw [if_pos (lgc0.mpr h2), allB_iff.mpr (e.mp ⟨h1, h2⟩)]; rfl
      · rw [if_neg (fun q => h2 (lgc0.mp q)), allB_f (fun q => h2 (e.mpr q).2)]; rfl
    · rw [if_neg (fun q => h1 (lgc0.mp q)), allB_f (fun q => h1 (e.mpr q).1)]; rfl
  · rw [if_neg h0, decide_eq_false h0]; rfl
theorem isEmpty_V {V : Nat → Nat → Bool} {i : Nat} : X0_isEmpty (LO V) (HI V) i = some (b01 (allB (fun s => !V i s) 128)) := by
  unfold X0_isEmpty
  have e : (LO V i ||| HI V i = 0) ↔ ∀ s, s < 128 → V i s = false := by
    constructor
    · intro h s hs
      have : ∀ t, (xb (LO V i) t || xb (HI V i) t) = false := fun t => by rw [← xb_or, h, xb_zero]
      by_cases q : s < 64
      · have := this s
        rw [xb_LO q, Bool.or_eq_false_iff] at this
        exact this.1
      · have := this (s - 64)
        rw [Bool.or_eq_false_iff, xb_HI (by omega), show 64 + (s - 64) = s by omega] at this
        exact this.2
    · intro h
      apply xb_ext
      intro s hs
      rw [xb_or, xb_LO hs, xb_HI hs, h s (by omega), h _ (by omega), xb_zero]; rfl
  by_cases h : LO V i ||| HI V i = 0
  · rw [if_pos (lgc0.mpr h), allB_iff.mpr (fun s hs => by rw [e.mp h s hs]; rfl)]; rfl
  · rw [if_neg (fun q => h (lgc0.mp q)), allB_f (fun q => h (e.mpr fun s hs => by simpa using q s hs))]; rfl
theorem okF.big {v : FV} (h : okF v) {s : Nat} (hs : 128 ≤ s) : v.2 s = false := by
  cases hc : v.2 s with
  | false => rfl
  | true => have := (h.2 s hc).1; have := pow_le7 h.1; omega
theorem FamC_V {cP : Nat → Int32} {V : Nat → Nat → Bool} {i : Nat} {v : FV} (hok : okF v) (hP : cP i = nI v.1) (h : ∀ s, s < 128 → V i s = v.2 s) : FamC cP (LO V) (HI V) i v :=
  ⟨hok, hP, fun s => by
    by_cases q : s < 128
    · rw [mbs_LH q, h s q]
    · rw [mbs_big (by omega), hok.big (by omega)]⟩
theorem FamC.v {cP : Nat → Int32} {V : Nat → Nat → Bool} {i : Nat} {v : FV} (h : FamC cP (LO V) (HI V) i v) : ∀ s, s < 128 → V i s = v.2 s := fun s hs => by rw [← h.2.2 s, mbs_LH hs]
theorem FV_ext {v w : FV} (hv : okF v) (hw : okF w) (h1 : v.1 = w.1) (h2 : ∀ s, s < 128 → v.2 s = w.2 s) : v = w := by
  refine Prod.ext h1 (funext fun s => ?_)
  by_cases q : s < 128
  · exact h2 s q
  · rw [hv.big (by omega), hw.big (by omega)]
theorem X9_comes_new {mnow m mkep : Nat → Int32} {z j n : Nat} {v : FV} {f : Nat → Bool} (hz : z ≤ 10) (hj : j < 3) (hM : FamM mnow (129 * j) v) (hv : v.1 ≤ 7) (hn : n ≤ 7) (hm : FR m f) (hne : ¬ (v.1 = n ∧ ∀ s, s < 128 → v.2 s = f s)) :
    ∃ z0 d mkep' mnow', z = z0 + d ∧ z0 ≤ 9 ∧ (z < 10 → d = 0) ∧ (z = 10 → d = 1) ∧ X9_comes (nI n) (nI z) mnow m mkep (nI j) = some (nI (cnt f 128), nI (z0 + 1), mnow', mkep') ∧ (∀ i, i < 387 * z0 → mkep' i = mkep (i + 387 * d)) ∧ (∀ i, i < 387 → mkep' (387 * z0 + i) = mnow i) ∧ FamM mnow' (129 * j) (n, f) ∧ ∀ j', j' < 3 → j' ≠ j → ∀ w, FamM mnow (129 * j') w → FamM mnow' (129 * j') w := by
  obtain ⟨z0, d, mkep', h1, h2, h3, h4, h5, h6, h7⟩ := X9_keeps_eq hz mnow mkep
  have hF : FamM (fillA (upd mnow (129 * j) (nI n)) (129 * j + 1) (fun s => b01 (f s)) 128) (129 * j) (n, f) := by
    refine ⟨?_, fun s hs => ?_⟩
    · rw [fillA_out (by omega), pk_us]
    · rw [fillA_in (by omega) (by omega)]; show b01 (f _) = b01 (f s); congr 2; omega
  refine ⟨z0, d, mkep', fillA (upd mnow (129 * j) (nI n)) (129 * j + 1) (fun s => b01 (f s)) 128, h1, h2, h3, h4, ?_, h6, h7, hF, fun j' hj' hne' w hw => ⟨?_, fun s hs => ?_⟩⟩
  · unfold X9_comes
    have hb : (decide (v.1 = n) && allB (fun s => v.2 s == f s) 128) = false := by
      cases hc : (decide (v.1 = n) && allB (fun s => v.2 s == f s) 128) with
      | false => rfl
      | true =>
        rw [Bool.and_eq_true, decide_eq_true_eq, allB_iff] at hc
        exact absurd ⟨hc.1, fun s hs => by simpa using hc.2 s hs⟩ hne
    rw [X9_isFreshLike_eq hj hM hv hn hm, bd1_s, hb, if_pos (by decide), h5, bd2_s, X9_base_eq, bd1_s, gin_nI (by omega) (by decide), nI_clamp (by omega)]
    refine lfp2_fill (upd mnow (129 * j) (nI n)) (129 * j + 1) 0 128 (fun s => b01 (f s)) (fun k hk r => ?_) (fun r => ?_)
    · unfold X9_comes_h27
      rw [Nat.zero_add, if_neg (show ¬ (128 : Int32) ≤ nI k from nI_ge (b := 128) hk (by decide)), X9_base_eq, bd1_s, gin_nI hk (by decide), nI_clamp (by omega), hm k hk, nI_1, nI_add, nI_1, gin_nI (by omega) (by decide), gin_nI (by omega) (by decide), nI_clamp (by omega), ib0]
      simp only [Nat.zero_add]
      cases f k <;> rfl
    · unfold X9_comes_h27
      rw [if_pos (by decide), X9_many_eq hj hF, bd1_s]
  · rw [fillA_out (by omega), pk_un (by omega)]; exact hw.1
  · rw [fillA_out (by omega), pk_un (by omega)]; exact hw.2 s hs
theorem X9_comes_old {mnow m mkep : Nat → Int32} {j n : Nat} {x : Int32} {v : FV} {f : Nat → Bool} (hj : j < 3) (hM : FamM mnow (129 * j) v) (hv : v.1 ≤ 7) (hn : n ≤ 7) (hm : FR m f) (he : v.1 = n ∧ ∀ s, s < 128 → v.2 s = f s) : X9_comes (nI n) x mnow m mkep (nI j) = some (nI (cnt f 128), x, mnow, mkep) := by
  unfold X9_comes
  rw [X9_isFreshLike_eq hj hM hv hn hm, bd1_s, decide_eq_true he.1, allB_iff.mpr (fun s hs => by simpa using he.2 s hs), if_neg (by decide), X9_many_eq hj hM, bd1_s, cnt_congr (d := f) he.2]
section SIM
variable {cP : Nat → Int32} {cLo : Nat → Int64} {cHi : Nat → Int64} {ctb : Nat → Int32} {ctl : Int32} {ctf : Int32} {ctp : Int32} {cob : Nat → Int32} {col : Int32} {cso : Nat → Int32} {cha : Int32} {chs : Int32} {mact : Int32} {mtpd : Int32} {mfk : Int32} {mfpl : Int32} {mtom : Int32} {mnow : Nat → Int32} {mkep : Nat → Int32} {mtap : Nat → Int32} {mtol : Nat → Int32}
theorem comes_sim (hr : Rel cP cLo cHi ctb ctl ctf ctp cob col cso cha chs mact mtpd mfk mfpl mtom mnow mkep mtap mtol) {oP : Nat → Int32} {V : Nat → Nat → Bool} {w j n : Nat} {f : Nat → Bool} {m : Nat → Int32} (hk : Keeps cP oP cLo (LO V) cHi (HI V)) (hw : ¬ (w < 3 ∨ (6 ≤ w ∧ w < 16))) (hj : j < 3) (hP : oP w = nI n) (hV : ∀ s, s < 128 → V w s = f s) (hok : okF (n, f)) (hm : FR m f) :
    ∃ (ocP : Nat → Int32) (ocLo : Nat → Int64) (ocHi : Nat → Int64) (ocso : Nat → Int32) (ocha : Int32) (ochs : Int32) (omact : Int32) (omnow : Nat → Int32) (omkep : Nat → Int32), X8_comesInto oP (LO V) (HI V) cso cha chs (nI j) w = some (nI (cnt f 128), ocP, ocLo, ocHi, ocso, ocha, ochs) ∧ X9_comes (nI n) mact mnow m mkep (nI j) = some (nI (cnt f 128), omact, omnow, omkep) ∧ Rel ocP ocLo ocHi ctb ctl ctf ctp cob col ocso ocha ochs omact mtpd mfk mfpl mtom omnow omkep mtap mtol := by
  have hr2 := hr.keep hk
  obtain ⟨⟨z, a, Sn, sl, h1, h2, h3, h4, h5, h6, h7⟩, h8⟩ := hr2
  obtain ⟨hC, hM⟩ := h1 j hj
  have hsz : X0_size (LO V) (HI V) w = some (nI (cnt f 128)) := by rw [size_V, cnt_congr (d := f) hV]
  have hCv := hC.v
  by_cases he : (Sn z j).1 = n ∧ ∀ s, s < 128 → (Sn z j).2 s = f s
  · refine ⟨oP, LO V, HI V, cso, cha, chs, mact, mnow, mkep, ?_, X9_comes_old hj hM hC.1.1 hok.1 hm he, ⟨z, a, Sn, sl, h1, h2, h3, h4, h5, h6, h7⟩, h8⟩
    unfold X8_comesInto
    rw [gin_nI hj (by decide), nI_clamp (by omega), sameAs_V, bd1_s, decide_eq_true (by rw [hC.2.1, hP, he.1]), allB_iff.mpr (fun s hs => by rw [beq_iff_eq, hCv s hs, hV s hs, he.2 s hs]), if_neg (by decide), hsz, bd1_s]
  · obtain ⟨z0, d, mkep', mnow', e1, e2, e3, e4, e5, e6, e7, e8, e9⟩ := X9_comes_new (mkep := mkep) h2 hj hM hC.1.1 hok.1 hm he
    subst h4
    have hV' : ∀ i g, w ≠ i → va_up (va_up V (6 + a) (V j)) i g w = V w := fun i g hi => by
      rw [up_ne hi, up_ne (by omega)]
    refine ⟨va_up (va_up oP (6 + a) (oP j)) j (nI n), LO (va_up (va_up V (6 + a) (V j)) j (V w)), HI (va_up (va_up V (6 + a) (V j)) j (V w)), upd cso a (nI j), nI ((a + 1) % 10), nI (z0 + 1), nI (z0 + 1), mnow', mkep', ?_, e5, ⟨z0 + 1, (a + 1) % 10, fun p => if p ≤ z0 then Sn (p + d) else fun j' => if j' = j then (n, f) else Sn z j', fun p => if p < z0 then sl (p + d) else j, ?_, by omega, rfl, rfl, by omega, rfl, ?_⟩, h8⟩
    · unfold X8_comesInto X1_remember
      have hb : (decide (oP j = oP w) && allB (fun s => V j s == V w s) 128) = false := by
        cases hc : (decide (oP j = oP w) && allB (fun s => V j s == V w s) 128) with
        | false => rfl
        | true =>
          rw [Bool.and_eq_true, decide_eq_true_eq, allB_iff, hC.2.1, hP] at hc
          refine absurd ⟨(nI_eq (by have := hC.1.1; omega) (by have : n ≤ 7 := hok.1; omega)).mp hc.1, fun s hs => ?_⟩ he
          have := hc.2 s hs
          rw [beq_iff_eq, hCv s hs, hV s hs] at this
          exact this
      rw [gin_nI hj (by decide), nI_clamp (by omega), sameAs_V, bd1_s, hb, if_pos (by decide), h6, gin_nI (by omega) (by decide), gin_nI (by omega) (by decide), nI_clamp (by omega), become_V, bd3_s, bd6_s, become_V, bd3_s, show va_up oP (6 + a) (oP j) w = nI n from (up_ne (by omega)).trans hP]
      have hsz2 : X0_size (LO (va_up (va_up V (6 + a) (V j)) j (V w))) (HI (va_up (va_up V (6 + a) (V j)) j (V w))) w = some (nI (cnt f 128)) := by
        rw [size_V, hV' _ _ (by omega), cnt_congr (d := f) hV]
      rw [show va_up V (6 + a) (V j) w = V w from up_ne (by omega), hsz2, bd1_s, h3, nI_1, nI_1, show (10 : Int32) = nI 10 from rfl, pk_rem (by omega) (by omega) (by decide), imin_nI (by decide) (by omega), show min 10 (z + 1) = z0 + 1 by omega]
    · intro j' hj'
      show FamC _ _ _ j' ((if z0 + 1 ≤ z0 then Sn (z0 + 1 + d) else fun j' => if j' = j then (n, f) else Sn z j') j') ∧ FamM mnow' (129 * j') ((if z0 + 1 ≤ z0 then Sn (z0 + 1 + d) else fun j' => if j' = j then (n, f) else Sn z j') j')
      rw [if_neg (by omega)]
      show FamC _ _ _ j' (if j' = j then (n, f) else Sn z j') ∧ FamM mnow' (129 * j') (if j' = j then (n, f) else Sn z j')
      by_cases q : j' = j
      · subst q
        rw [if_pos rfl]
        exact ⟨FamC_V hok up_at (fun s hs => by rw [up_at]; exact hV s hs), e8⟩
      · rw [if_neg q]
        obtain ⟨g1, g2⟩ := h1 j' hj'
        exact ⟨FamC_V g1.1 (by rw [up_ne q, up_ne (by omega)]; exact g1.2.1) (fun s hs => by rw [up_ne q, up_ne (by omega)]; exact g1.v s hs), e9 j' hj' q _ g2⟩
    · intro p hp
      by_cases q : p < z0
      · have hpi : p + d < z := by omega
        obtain ⟨g1, g2, g3, g4, g5⟩ := h7 (p + d) hpi
        have hidx : ((a + 1) % 10 + 10 - (z0 + 1 - p)) % 10 = (a + 10 - (z - (p + d))) % 10 := by omega
        have hne : (a + 10 - (z - (p + d))) % 10 ≠ a := by omega
        simp only [if_pos q, if_pos (show p ≤ z0 by omega), hidx]
        refine ⟨g1, ?_, ?_, ?_, ?_⟩
        · rw [pk_un hne]; exact g2
        · exact FamC_V g3.1 (by rw [up_ne (by omega), up_ne (by omega)]; exact g3.2.1) (fun s hs => by rw [up_ne (by omega), up_ne (by omega)]; exact g3.v s hs)
        · intro j' hj' hq
          rw [if_pos (show p + 1 ≤ z0 by omega), show p + 1 + d = p + d + 1 by omega]
          exact g4 j' hj' hq
        · intro j' hj'
          obtain ⟨k1, k2⟩ := g5 j' hj'
          refine ⟨?_, fun s hs => ?_⟩
          · rw [e6 _ (by omega), show 387 * p + 129 * j' + 387 * d = 387 * (p + d) + 129 * j' by omega]; exact k1
          · rw [e6 _ (by omega), show 387 * p + 129 * j' + 1 + s + 387 * d = 387 * (p + d) + 129 * j' + 1 + s by omega]; exact k2 s hs
      · have hpz : p = z0 := by omega
        subst hpz
        have hidx : ((a + 1) % 10 + 10 - (p + 1 - p)) % 10 = a := by omega
        simp only [if_neg q, if_pos (Nat.le_refl p), hidx, ← e1]
        refine ⟨hj, pk_us, ?_, ?_, ?_⟩
        · exact FamC_V hC.1 (by rw [up_ne (by omega), up_at]; exact hC.2.1) (fun s hs => by rw [up_ne (by omega), up_at]; exact hCv s hs)
        · intro j' hj' hq
          rw [if_neg (by omega), if_neg hq]
        · intro j' hj'
          obtain ⟨_, k1, k2⟩ := h1 j' hj'
          refine ⟨?_, fun s hs => ?_⟩
          · exact (e7 (129 * j') (by omega)).trans k1
          · rw [show 387 * p + 129 * j' + 1 + s = 387 * p + (129 * j' + 1 + s) by omega, e7 _ (by omega)]; exact k2 s hs
theorem sim_undo (hr : Rel cP cLo cHi ctb ctl ctf ctp cob col cso cha chs mact mtpd mfk mfpl mtom mnow mkep mtap mtol) : ∃ (r : Int32) (ocP : Nat → Int32) (ocLo : Nat → Int64) (ocHi : Nat → Int64) (ocha : Int32) (ochs : Int32) (omact : Int32) (omnow : Nat → Int32), X8_undo cP cLo cHi cso cha chs = some (r, ocP, ocLo, ocHi, ocha, ochs) ∧ X9_undo mact mnow mkep = some (r, omact, omnow) ∧ Rel ocP ocLo ocHi ctb ctl ctf ctp cob col cso ocha ochs omact mtpd mfk mfpl mtom omnow mkep mtap mtol := by
  obtain ⟨⟨z, a, Sn, sl, h1, h2, h3, h4, h5, h6, h7⟩, h8⟩ := id hr
  by_cases hz : z = 0
  · subst hz
    refine ⟨-1, cP, cLo, cHi, cha, chs, mact, mnow, ?_, ?_, hr⟩
    · unfold X8_undo; rw [if_pos (show chs = 0 from h3)]
    · unfold X9_undo; rw [if_pos (show mact = 0 from h4)]
  · obtain ⟨y, rfl⟩ : ∃ y, z = y + 1 := ⟨z - 1, by omega⟩
    obtain ⟨g1, g2, g3, g4, g5⟩ := h7 y (by omega)
    have hidx : (a + 10 - (y + 1 - y)) % 10 = (a + 9) % 10 := by omega
    rw [hidx] at g2 g3
    refine ⟨nI y, va_up cP (sl y) (cP (6 + (a + 9) % 10)), va_up cLo (sl y) (cLo (6 + (a + 9) % 10)), va_up cHi (sl y) (cHi (6 + (a + 9) % 10)), nI ((a + 9) % 10), nI y, nI y, fillA mnow 0 (fun i => mkep (387 * y + i)) 387, ?_, ?_, ⟨y, (a + 9) % 10, Sn, sl, ?_, by omega, rfl, rfl, by omega, rfl, ?_⟩, h8⟩
    · have hl : X1_latest cha = some (nI ((a + 9) % 10)) := by
        unfold X1_latest
        rw [h6, show nI a + (10 : Int32) = nI (a + 10) from nI_add a 10, show nI (a + 10) - (1 : Int32) = nI (a + 9) from pk_sub (a := a + 10) (b := 1) (by omega), show (10 : Int32) = nI 10 from rfl, pk_rem (by omega) (by omega) (by decide)]
      unfold X8_undo X1_latestSlot X1_restore
      rw [if_neg (by rw [h3]; exact nI_ne0 (by omega) (by omega)), hl, bd1_s, gin_nI (by omega) (by decide), nI_clamp (by omega), g2, bd1_s, X8_isSlot_in g1, bd1_s, if_neg (by decide), gin_nI g1 (by decide), nI_clamp (by omega), bd1_s, gin_nI (by omega) (by decide), nI_clamp (by omega)]
      unfold X0_become
      rw [bd3_s, bd5_s, h3, show nI (y + 1) - (1 : Int32) = nI y from nI_pred y, show (0 : Int32) = nI 0 from rfl, imax_nI (by decide) (by omega), show max 0 y = y by omega]
    · unfold X9_undo
      rw [if_neg (by rw [h4]; exact nI_ne0 (by omega) (by omega)), h4]
      refine lfp2_fill mnow 0 0 387 (fun i => mkep (387 * y + i)) (fun k hk r => ?_) (fun r => ?_)
      · unfold X9_undo_h21
        rw [Nat.zero_add, if_neg (show ¬ (387 : Int32) ≤ nI k from nI_ge (b := 387) hk (by decide)), nI_pred, show (387 : Int32) * nI y = nI (387 * y) from pk_mul 387 y, nI_add, gin_nI (by omega) (by decide), gin_nI hk (by decide), nI_1, nI_clamp (by omega), nI_clamp (by omega)]
        simp only [Nat.zero_add]
      · unfold X9_undo_h21
        rw [if_pos (by decide), nI_pred]
    · intro j hj
      have hMy : FamM (fillA mnow 0 (fun i => mkep (387 * y + i)) 387) (129 * j) (Sn y j) := by
        obtain ⟨k1, k2⟩ := g5 j hj
        refine ⟨?_, fun s hs => ?_⟩
        · rw [fillA_in (by omega) (by omega)]; exact k1
        · rw [fillA_in (by omega) (by omega)]
          show mkep (387 * y + (129 * j + 1 + s - 0)) = _
          rw [show 387 * y + (129 * j + 1 + s - 0) = 387 * y + 129 * j + 1 + s by omega]; exact k2 s hs
      refine ⟨?_, hMy⟩
      by_cases q : j = sl y
      · subst q
        exact ⟨g3.1, by rw [up_at]; exact g3.2.1, fun s => by rw [up_at, up_at]; exact g3.2.2 s⟩
      · rw [g4 j hj q]
        exact (h1 j hj).1.keep ⟨up_ne q, up_ne q, up_ne q⟩
    · intro p hp
      obtain ⟨k1, k2, k3, k4, k5⟩ := h7 p (by omega)
      have hidx2 : ((a + 9) % 10 + 10 - (y - p)) % 10 = (a + 10 - (y + 1 - p)) % 10 := by omega
      rw [hidx2]
      exact ⟨k1, k2, k3.keep ⟨up_ne (by omega), up_ne (by omega), up_ne (by omega)⟩, k4, k5⟩
end SIM
