/-! all of a level; rows -/
theorem isPC_in {n : Nat} (h1 : 1 ≤ n) (h2 : n ≤ 7) : X8_isPointCount (nI n) = some 1 := by
  unfold X8_isPointCount
  rw [if_neg (show ¬ nI n < (1 : Int32) from nI_nlt (b := 1) h1 (by omega)), if_neg (show ¬ (7 : Int32) < nI n from nI_nlt (a := 7) h2 (by decide))]
theorem isPC_out {p : Int32} (h : ¬ (((1 : Nat) : Int) ≤ p.toInt ∧ p.toInt ≤ ((7 : Nat) : Int))) : X8_isPointCount p = some 0 := by
  unfold X8_isPointCount
  exact outB h rfl rfl
theorem lv_cnt : ∀ n, n ≤ 7 → ∀ k, k ≤ n → cnt (fun s => pc s == k) (2 ^ n) = ch n k := by decide +kernel
section SIM
variable {cP : Nat → Int32} {cLo : Nat → Int64} {cHi : Nat → Int64} {cpl : Nat → Int32} {ctb : Nat → Int32} {ctl : Int32} {ctf : Int32} {ctp : Int32} {ctk : Int32} {cts : Int32} {cth : Int32} {cob : Nat → Int32} {col : Int32} {cso : Nat → Int32} {cha : Int32} {chs : Int32} {cbe : Int32} {ctr : Int32} {cgl : Nat → Int64} {cgh : Nat → Int64} {cll : Nat → Int64} {clh : Nat → Int64} {cta : Nat → Int32} {cme : Nat → Int32} {cps : Int32} {cwh : Nat → Int32} {cal : Nat → Int64} {cah : Nat → Int64} {mthr : Int32} {mfrp : Int32} {mact : Int32} {mtpd : Int32} {msiz : Int32} {matx : Int32} {mfrm : Int32} {mtok : Int32} {mval : Int32} {mfk : Int32} {mfpl : Int32} {mbem : Int32} {mtrs : Int32} {mtrl : Int32} {mrom : Int32} {mtom : Int32} {mnow : Nat → Int32} {mfre : Nat → Int32} {mkep : Nat → Int32} {mtap : Nat → Int32} {mlef : Nat → Int32} {mtak : Nat → Int32} {mbes : Nat → Int32} {mrow : Nat → Int32} {mint : Nat → Int32} {mrnd : Nat → Int32} {mplo : Nat → Int32} {mhio : Nat → Int32} {mtox : Nat → Int32} {mtol : Nat → Int32}
theorem sim_all {p1 p2 p3 p4 : Int32} (hr : Rel cP cLo cHi ctb ctl ctf ctp cob col cso cha chs mact mtpd mfk mfpl mtom mnow mkep mtap mtol) : ∃ (r : Int32) (ocP : Nat → Int32) (ocLo : Nat → Int64) (ocHi : Nat → Int64) (ocso : Nat → Int32) (ocha : Int32) (ochs : Int32) (omfrp : Int32) (omact : Int32) (omnow : Nat → Int32) (omfre : Nat → Int32) (omkep : Nat → Int32), X8_all cP cLo cHi cso cha chs p1 p2 p3 p4 = some (r, ocP, ocLo, ocHi, ocso, ocha, ochs) ∧ X9_all mfrp mact mnow mfre mkep p1 p2 p3 p4 = some (r, omfrp, omact, omnow, omfre, omkep) ∧ Rel ocP ocLo ocHi ctb ctl ctf ctp cob col ocso ocha ochs omact mtpd mfk mfpl mtom omnow omkep mtap mtol := by
  obtain ⟨V, rfl, rfl, hV⟩ := toV cLo cHi
  unfold X8_all X9_all
  rcases slot_cases p1 with ⟨j, hj, rfl⟩ | hp
  · rw [X8_isSlot_in hj, bd1_s, i10, X9_isSlot_in hj, bd1_s, i10, X9_in_n (a := 1) (b := 7) (by decide) (by decide) rfl rfl, bd1_s]
    rcases in_cases (p := p2) 1 7 (by decide) with ⟨n, hn1, hn, rfl⟩ | h
    · have hq := pow_le7 hn
      rw [isPC_in hn1 hn, bd1_s, i10, nI_toInt (by omega), decide_eq_true (by omega), bt0, X9_in_n (a := 0) (b := n) (by decide) (by omega) rfl (nI_t64 (by omega)), bd1_s]
      rcases in_cases (p := p3) 0 n (by omega) with ⟨k, _, hk, rfl⟩ | h
      · rw [if_neg (nI_pos (by omega)), if_neg (nI_nlt hk (by omega)), nI_toInt (by omega), decide_eq_true (by omega), bt0, X9_in_eq, Int32.toInt_toInt64, show (nI n - (1 : Int32)) = nI (n - 1) from pk_sub (b := 1) hn1, Int32.toInt_toInt64, nI_toInt (show n - 1 < 2 ^ 31 by omega), bd1_s]
        have hm1 : (-1 : Int64).toInt = -1 := rfl
        have hm1' : (-1 : Int32).toInt = -1 := rfl
        have hcase : (p4 = -1 ∨ ∃ q, q < n ∧ p4 = nI q) ∨ ¬ ((-1 : Int64).toInt ≤ p4.toInt ∧ p4.toInt ≤ ((n - 1 : Nat) : Int)) := by
          rcases i32_cases p4 with h | ⟨q, hq, rfl⟩
          · by_cases e : p4.toInt = -1
            · left; left; exact Int32.toInt_inj.mp (by rw [e]; rfl)
            · right; omega
          · by_cases e : q < n
            · left; right; exact ⟨q, e, rfl⟩
            · right; rw [nI_toInt hq]; omega
        rcases hcase with hc | h
        · -- the class's and the reference's condition
          obtain ⟨cd, hcd8, hcd9⟩ : ∃ cd : Nat → Bool, (∀ s, s < 2 ^ n → ∀ (α : Type) (x y : α), (if nI (pc s) = nI k then (if p4 = (-1 : Int32) then x else (if ((nI s >>> (p4 &&& 31)) &&& (1 : Int32)) = (1 : Int32) then x else y)) else y) = if cd s = true then x else y) ∧ (∀ s, s < 2 ^ n → ∀ (α : Type) (x y : Option α), (if nI (pc s) = nI k then (if p4 = (-1 : Int32) then x else bd1 (X9_hasBit (nI s) p4) (fun q32 => if q32 = (0 : Int32) then y else x)) else y) = if cd s = true then x else y) := by
            rcases hc with rfl | ⟨q, hqn, rfl⟩
            · refine ⟨fun s => pc s == k, fun s hs α x y => ?_, fun s hs α x y => ?_⟩
              · have := pc_le s
                by_cases e : pc s = k
                · rw [if_pos (show nI (pc s) = nI k by rw [e]), if_pos rfl, if_pos (by simpa using e)]
                · rw [if_neg (fun z => e ((nI_eq (by omega) (by omega)).mp z)), if_neg (by simpa using e)]
              · have := pc_le s
                by_cases e : pc s = k
                · rw [if_pos (show nI (pc s) = nI k by rw [e]), if_pos rfl, if_pos (by simpa using e)]
                · rw [if_neg (fun z => e ((nI_eq (by omega) (by omega)).mp z)), if_neg (by simpa using e)]
            · refine ⟨fun s => (pc s == k) && s.testBit q, fun s hs α x y => ?_, fun s hs α x y => ?_⟩
              · have := pc_le s
                rw [if_neg (ne_m1 (by omega)), sbit s (by omega) q (by omega), ib1]
                show _ = if ((pc s == k) && s.testBit q) = true then x else y
                by_cases e : pc s = k
                · rw [if_pos (show nI (pc s) = nI k by rw [e]), show (pc s == k) = true by simpa using e, Bool.true_and]
                · rw [if_neg (fun z => e ((nI_eq (by omega) (by omega)).mp z)), show (pc s == k) = false by simpa using e, Bool.false_and, if_neg (by decide)]
              · have := pc_le s
                rw [if_neg (ne_m1 (by omega)), X9_hasBit_eq (by omega) (by omega), bd1_s, ib0]
                show _ = if ((pc s == k) && s.testBit q) = true then x else y
                by_cases e : pc s = k
                · rw [if_pos (show nI (pc s) = nI k by rw [e]), show (pc s == k) = true by simpa using e, Bool.true_and]
                · rw [if_neg (fun z => e ((nI_eq (by omega) (by omega)).mp z)), show (pc s == k) = false by simpa using e, Bool.false_and, if_neg (by decide)]
          have hlt1 : ¬ p4 < (-1 : Int32) := fun z => by
            have := i32_lt.mp z
            rcases hc with rfl | ⟨q, hqn, rfl⟩
            · omega
            · rw [nI_toInt (by omega)] at this; omega
          have hlt2 : p4 < nI n := i32_lt.mpr (by
            rw [nI_toInt (by omega)]
            rcases hc with rfl | ⟨q, hqn, rfl⟩
            · omega
            · rw [nI_toInt (by omega)]; omega)
          have hdec : decide ((-1 : Int64).toInt ≤ p4.toInt ∧ p4.toInt ≤ ((n - 1 : Nat) : Int)) = true := decide_eq_true (by
            rcases hc with rfl | ⟨q, hqn, rfl⟩
            · omega
            · rw [nI_toInt (by omega)]; omega)
          rw [if_neg hlt1, if_pos hlt2, hdec, bt0, clear_V, bd3_s, X9_clearsFresh_eq, bd2_s]
          obtain ⟨fr, hfr, efr⟩ := lfp2_fresh (F := X9_all_h57 (nI n) (nI n) mact mnow mkep (nI j) (nI k) p4) (fun t s => decide (s < t) && cd s) (2 ^ n) (fun mfre => bd4 (X9_comes (nI n) mact mnow mfre mkep (nI j)) (fun q21 mact_22 mnow_23 mkep_24 => some (q21, nI n, mact_22, mnow_23, mfre, mkep_24))) (m0 := fillA mfre 0 (fun _ => 0) 128) ((FR_clear mfre).congr fun s _ => by rw [decide_eq_false (by omega), Bool.false_and]) (fun t ht m hm => by
            refine ⟨upd m t (b01 (cd t)), (hm.set t _).congr (fun s _ => ?_), fun r => ?_⟩
            · by_cases e : s = t
              · subst e; rw [if_pos rfl, decide_eq_true (by omega), Bool.true_and]
              · rw [if_neg e]
                congr 1
                apply decide_eq_decide.mpr; omega
            · unfold X9_all_h57
              rw [shl1 _ (by omega), if_neg (nI_ge ht (by omega)), X9_bits_eq (by omega), bd1_s, gin_nI (show t < 128 by omega) (by decide), gin_nI (show t < 128 by omega) (by decide), nI_clamp (by omega), nI_1, vnz0, vnz1, hcd9 t ht]
              cases cd t <;> rfl) (fun m r => by
            unfold X9_all_h57
            rw [shl1 _ (by omega), if_pos (nI_le (Nat.le_refl _) (by omega))])
          rw [efr]
          have hcls : lfp3 (X8_all_h49 (nI n) (va_up cP 3 (nI n)) cso cha chs (nI j) (nI k) p4) 0 (LO (va_up V 3 fun _ => false)) (HI (va_up V 3 fun _ => false)) = bd7 (X8_comesInto (va_up cP 3 (nI n)) (LO (va_up V 3 (mkG cd (fun s => s) (2 ^ n)))) (HI (va_up V 3 (mkG cd (fun s => s) (2 ^ n)))) cso cha chs (nI j) 3) (fun q21 cP_22 cLo_23 cHi_24 cso_25 cha_26 chs_27 => some (q21, cP_22, cLo_23, cHi_24, cso_25, cha_26, chs_27)) := by
            refine cell_loop3 (V := va_up V 3 fun _ => false) (i := 3) (mkG cd (fun s => s)) (2 ^ n) (by rw [up_at]; rfl) (fun s hs r => ?_) (fun r => ?_)
            · unfold X8_all_h49
              rw [shl1 _ (by omega), if_neg (nI_ge hs (by omega)), J6_eq s (by omega), bd1_s, put_V (by omega), bd2_s, nI_1, hcd8 s hs]
              simp only [up_at, bx_uu, mkG]
              cases hb : cd s with
              | true => rw [if_pos rfl]; simp only [Bool.true_and]
              | false => rw [if_neg (by decide)]; simp only [Bool.false_and, Bool.or_false]
            · unfold X8_all_h49
              rw [shl1 _ (by omega), if_pos (nI_le (Nat.le_refl _) (by omega))]
              simp only [bx_uu]
          rw [hcls]
          obtain ⟨oP, oLo, oHi, so, ha, hz, act, now, kep, c1, c2, c3⟩ := comes_sim hr (oP := va_up cP 3 (nI n)) (V := va_up V 3 (mkG cd (fun s => s) (2 ^ n))) (w := 3) (n := n) (f := fun s => decide (s < 2 ^ n) && cd s) (m := fr) ((Keeps.rfl'.up 3 (by omega) _).upP 3 (by omega) _) (by omega) hj up_at (fun t ht => by
            rw [up_at]
            apply Bool.eq_iff_iff.mpr
            rw [mkG_iff, Bool.and_eq_true, decide_eq_true_eq]
            exact ⟨(fun ⟨u, h1, h2, h3⟩ => h3 ▸ ⟨h1, h2⟩), (fun ⟨h1, h2⟩ => ⟨t, h1, h2, rfl⟩)⟩) (okF_mk hn (by omega) fun t ht => by
            rw [Bool.and_eq_true, decide_eq_true_eq] at ht
            exact ht.1) hfr
          rw [c1, bd7_s, c2, bd4_s]
          exact ⟨_, _, _, _, _, _, _, _, _, _, _, _, rfl, rfl, c3⟩
        · rw [decide_eq_false h, bf0]
          refine ⟨-2, _, _, _, _, _, _, _, _, _, _, _, ?_, rfl, hr⟩
          by_cases c : p4 < (-1 : Int32)
          · rw [if_pos c]
          · rw [if_neg c, if_neg]
            intro z
            have h1 := i32_lt.mp z
            rw [nI_toInt (by omega)] at h1
            have h2 : ¬ p4.toInt < (-1 : Int32).toInt := fun w => c (i32_lt.mpr w)
            omega
      · rw [decide_eq_false h, bf0]
        exact ⟨-2, _, _, _, _, _, _, _, _, _, _, _, outB h rfl (nI_toInt (by omega)), rfl, hr⟩
    · rw [isPC_out h, bd1_s, i00, decide_eq_false h, bf0]
      exact ⟨_, _, _, _, _, _, _, _, _, _, _, _, rfl, rfl, hr⟩
  · rw [X8_isSlot_out hp, bd1_s, i00, X9_isSlot_out hp, bd1_s, i00]
    exact ⟨_, _, _, _, _, _, _, _, _, _, _, _, rfl, rfl, hr⟩
/-- the last of the first m -/
def lastP (c : Nat → Bool) (m : Nat) (x : Int32) : Prop := (m = 0 ∧ x = -1) ∨ ∃ e, x = nI e ∧ c e = true ∧ cnt c e + 1 = m
theorem lastP_uniq {c : Nat → Bool} {m : Nat} {x y : Int32} (hx : lastP c m x) (hy : lastP c m y) : x = y := by
  rcases hx with ⟨h1, rfl⟩ | ⟨e, rfl, h1, h2⟩ <;> rcases hy with ⟨g1, rfl⟩ | ⟨e', rfl, g1, g2⟩
  · rfl
  · omega
  · omega
  · rcases Nat.lt_trichotomy e e' with h | h | h
    · have := cnt_lt h h1; omega
    · rw [h]
    · have := cnt_lt h g1; omega
theorem lg_le {a b : Nat} (ha : a < 2 ^ 63) (hb : b < 2 ^ 63) : (lg_cmp (lN a) (lN b) ≤ 0) ↔ a ≤ b := by
  unfold lg_cmp
  by_cases h : b < a
  · rw [if_pos ((pk_lLT hb ha).mpr h)]
    constructor
    · intro q; exact absurd q (by decide)
    · intro q; omega
  · rw [if_neg (fun q => h ((pk_lLT hb ha).mp q))]
    constructor
    · intro _; omega
    · intro _
      split <;> decide
theorem sim_row {p1 p2 p3 p4 : Int32} (hr : Rel cP cLo cHi ctb ctl ctf ctp cob col cso cha chs mact mtpd mfk mfpl mtom mnow mkep mtap mtol) : ∃ (r : Int32) (ocP : Nat → Int32) (ocLo : Nat → Int64) (ocHi : Nat → Int64) (ocso : Nat → Int32) (ocha : Int32) (ochs : Int32) (omfrp : Int32) (omact : Int32) (omnow : Nat → Int32) (omfre : Nat → Int32) (omkep : Nat → Int32), X8_row cP cLo cHi cso cha chs p1 p2 p3 p4 = some (r, ocP, ocLo, ocHi, ocso, ocha, ochs) ∧ X9_row mfrp mact mnow mfre mkep p1 p2 p3 p4 = some (r, omfrp, omact, omnow, omfre, omkep) ∧ Rel ocP ocLo ocHi ctb ctl ctf ctp cob col ocso ocha ochs omact mtpd mfk mfpl mtom omnow omkep mtap mtol := by
  obtain ⟨V, rfl, rfl, hV⟩ := toV cLo cHi
  unfold X8_row X9_row
  rcases slot_cases p1 with ⟨j, hj, rfl⟩ | hp
  · rw [X8_isSlot_in hj, bd1_s, i10, X9_isSlot_in hj, bd1_s, i10, X9_in_n (a := 1) (b := 7) (by decide) (by decide) rfl rfl, bd1_s]
    rcases in_cases (p := p2) 1 7 (by decide) with ⟨n, hn1, hn, rfl⟩ | h
    · have hq := pow_le7 hn
      rw [isPC_in hn1 hn, bd1_s, i10, nI_toInt (by omega), decide_eq_true (by omega), bt0, X9_in_n (a := 0) (b := n) (by decide) (by omega) rfl (nI_t64 (by omega)), bd1_s]
      rcases in_cases (p := p3) 0 n (by omega) with ⟨k, _, hk, rfl⟩ | h
      · obtain ⟨c0, hb1, hb2, hb3⟩ := both20 (show n ≤ 20 by omega) (nI k)
        have hc0 := hb3 k rfl hk
        subst hc0
        have hcnt := lv_cnt n hn k hk
        have hch : ch n k ≤ 128 := by rw [← hcnt]; have := cnt_le (fun s => pc s == k) (2 ^ n); omega
        rw [if_neg (nI_pos (by omega)), if_pos (nI_le hk (by omega)), nI_toInt (by omega), decide_eq_true (by omega), bt0, hb1, bd1_s, hb2, bd1_s, X9_in_n (a := 0) (b := ch n k) (by decide) (by omega) rfl (pk_lT (by omega)), bd1_s]
        rcases in_cases (p := p4) 0 (ch n k) (by omega) with ⟨m, _, hm, rfl⟩ | h
        · rw [if_neg (nI_pos (by omega)), nI_l (by omega), if_pos ((lg_le (by omega) (by omega)).mpr hm), nI_toInt (by omega), decide_eq_true (by omega), bt0, clear_V, bd3_s, X9_clearsFresh_eq, bd2_s]
          -- the class
          have hcls : ∃ x, lastP (fun s => pc s == k) m x ∧ lfp4 (X8_row_h60 (nI m) (va_up cP 3 (nI n)) cso cha chs (nI j) (nI k) (nI n)) (-1) 0 (LO (va_up V 3 fun _ => false)) (HI (va_up V 3 fun _ => false)) = bd7 (X8_comesInto (va_up cP 3 (nI n)) (LO (va_up V 3 (fun s => (pc s == k) && decide (cnt (fun s => pc s == k) s < m)))) (HI (va_up V 3 (fun s => (pc s == k) && decide (cnt (fun s => pc s == k) s < m)))) cso cha chs (nI j) 3) (fun q24 cP_25 cLo_26 cHi_27 cso_28 cha_29 chs_30 => some (x, cP_25, cLo_26, cHi_27, cso_28, cha_29, chs_30)) := by
            refine lfp4_inv (F := X8_row_h60 (nI m) (va_up cP 3 (nI n)) cso cha chs (nI j) (nI k) (nI n)) (fun o => ∃ x, lastP (fun s => pc s == k) m x ∧ o = bd7 (X8_comesInto (va_up cP 3 (nI n)) (LO (va_up V 3 (fun s => (pc s == k) && decide (cnt (fun s => pc s == k) s < m)))) (HI (va_up V 3 (fun s => (pc s == k) && decide (cnt (fun s => pc s == k) s < m)))) cso cha chs (nI j) 3) (fun q24 cP_25 cLo_26 cHi_27 cso_28 cha_29 chs_30 => some (x, cP_25, cLo_26, cHi_27, cso_28, cha_29, chs_30))) m (fun i x y lo hi => lastP (fun s => pc s == k) i x ∧ y = nI i ∧ lo = LO (va_up V 3 (fun s => (pc s == k) && decide (cnt (fun s => pc s == k) s < i))) ∧ hi = HI (va_up V 3 (fun s => (pc s == k) && decide (cnt (fun s => pc s == k) s < i)))) (fun i x y lo hi him hI => ?_) (fun x y lo hi hI => ?_) ?_
            · obtain ⟨h1, rfl, rfl, rfl⟩ := hI
              right
              obtain ⟨a, ha1, ha2, ha3⟩ : ∃ a, x + 1 = nI a ∧ cnt (fun s => pc s == k) a = i ∧ a ≤ 2 ^ n := by
                rcases h1 with ⟨rfl, rfl⟩ | ⟨e, rfl, h2, h3⟩
                · exact ⟨0, rfl, rfl, Nat.zero_le _⟩
                · refine ⟨e + 1, nI_1 e, by rw [cnt_succ, show (pc e == k) = true from h2, if_pos rfl]; exact h3, ?_⟩
                  by_cases w : e < 2 ^ n
                  · omega
                  · have := cnt_mono (fun s => pc s == k) (show 2 ^ n ≤ e by omega)
                    omega
              rcases first_from (fun s => pc s == k) a (2 ^ n) with ⟨t, t1, t2, t3, t4⟩ | hno
              · have hct : cnt (fun s => pc s == k) t = i := by
                  obtain ⟨d, rfl⟩ : ∃ d, t = a + d := ⟨t - a, by omega⟩
                  rw [cnt_add, cnt_false (fun u hu => t4 (a + u) (by omega) (by omega)), ha2, Nat.add_zero]
                refine ⟨nI t, nI (i + 1), LO (va_up V 3 (fun s => (pc s == k) && decide (cnt (fun s => pc s == k) s < i + 1))), HI (va_up V 3 (fun s => (pc s == k) && decide (cnt (fun s => pc s == k) s < i + 1))), fun r => ?_, Or.inr ⟨t, rfl, t3, by rw [hct]⟩, rfl, rfl, rfl⟩
                unfold X8_row_h60
                rw [if_neg (nI_ge him (by omega)), nextOfLevel_eq hn ha3 (by omega) ha1, bd1_s, fstI_at t2 (by simpa [t1] using t3) (fun u hu => by
                  by_cases w : a ≤ u
                  · rw [t4 u w hu, Bool.and_false]
                  · simp [w]), put_V (by omega), bd2_s, nI_1]
                simp only [up_at, bx_uu]
                have hext := up_ext (V := V) (i := 3) (g := fun s => ((pc s == k) && decide (cnt (fun s => pc s == k) s < i)) || s == t) (g' := fun s => (pc s == k) && decide (cnt (fun s => pc s == k) s < i + 1)) (fun s hs => by
                  by_cases w : s = t
                  · subst w
                    rw [show (s == s) = true by simp, Bool.or_true, t3, hct, decide_eq_true (by omega)]; rfl
                  · rw [show (s == t) = false by simpa using w, Bool.or_false]
                    cases hs2 : (pc s == k) with
                    | false => rfl
                    | true =>
                      rw [Bool.true_and, Bool.true_and]
                      apply decide_eq_decide.mpr
                      have : cnt (fun s => pc s == k) s ≠ i := fun z => by
                        rcases Nat.lt_trichotomy s t with q | q | q
                        · have := cnt_lt (c := fun s => pc s == k) q hs2; omega
                        · exact w q
                        · have := cnt_lt (c := fun s => pc s == k) q t3; omega
                      omega)
                rw [hext.1, hext.2]
              · exfalso
                obtain ⟨d, hd⟩ : ∃ d, 2 ^ n = a + d := ⟨2 ^ n - a, by omega⟩
                have : cnt (fun s => pc s == k) (2 ^ n) = i := by
                  rw [hd, cnt_add, cnt_false (fun u hu => hno (a + u) (by omega) (by omega)), ha2, Nat.add_zero]
                omega
            · obtain ⟨h1, rfl, rfl, rfl⟩ := hI
              refine ⟨_, fun r => ?_, x, h1, rfl⟩
              unfold X8_row_h60
              rw [if_pos (nI_le (Nat.le_refl _) (by omega))]
            · have hext := up_ext (V := V) (i := 3) (g := fun _ => false) (g' := fun s => (pc s == k) && decide (cnt (fun s => pc s == k) s < 0)) (fun s hs => by rw [decide_eq_false (by omega), Bool.and_false])
              exact ⟨Or.inl ⟨rfl, rfl⟩, rfl, hext.1, hext.2⟩
          -- the reference
          have href : ∃ x fr, lastP (fun s => pc s == k) m x ∧ FR fr (fun s => decide (s < 2 ^ n) && ((pc s == k) && decide (cnt (fun s => pc s == k) s < m))) ∧ lfp4 (X9_row_h63 (nI n) (nI n) mact mnow mkep (nI j) (nI k)) (-1) (nI m) 0 (fillA mfre 0 (fun _ => 0) 128) = bd4 (X9_comes (nI n) mact mnow fr mkep (nI j)) (fun q25 mact_26 mnow_27 mkep_28 => some (x, nI n, mact_26, mnow_27, fr, mkep_28)) := by
            refine lfp4_inv (F := X9_row_h63 (nI n) (nI n) mact mnow mkep (nI j) (nI k)) (fun o => ∃ x fr, lastP (fun s => pc s == k) m x ∧ FR fr (fun s => decide (s < 2 ^ n) && ((pc s == k) && decide (cnt (fun s => pc s == k) s < m))) ∧ o = bd4 (X9_comes (nI n) mact mnow fr mkep (nI j)) (fun q25 mact_26 mnow_27 mkep_28 => some (x, nI n, mact_26, mnow_27, fr, mkep_28))) (2 ^ n) (fun s x y z fr => lastP (fun s => pc s == k) (cnt (fun s => pc s == k) s) x ∧ y = nI (m - cnt (fun s => pc s == k) s) ∧ cnt (fun s => pc s == k) s ≤ m ∧ z = nI s ∧ FR fr (fun t => decide (t < s) && (pc t == k))) (fun s x y z fr hs hI => ?_) (fun x y z fr hI => ?_) ⟨Or.inl ⟨rfl, rfl⟩, rfl, Nat.zero_le m, rfl, (FR_clear mfre).congr fun t _ => by rw [decide_eq_false (by omega), Bool.false_and]⟩
            · obtain ⟨h1, rfl, h2, rfl, h3⟩ := hI
              by_cases hz : m - cnt (fun s => pc s == k) s = 0
              · left
                refine ⟨_, fun r => ?_, x, fr, ?_, h3.congr (fun t ht => ?_), rfl⟩
                · unfold X9_row_h63
                  rw [shl1 _ (by omega), if_neg (nI_ge hs (by omega)), if_pos (by rw [hz]; decide)]
                · rw [show m = cnt (fun s => pc s == k) s by omega]; exact h1
                · apply Bool.eq_iff_iff.mpr
                  rw [Bool.and_eq_true, Bool.and_eq_true, Bool.and_eq_true, decide_eq_true_eq, decide_eq_true_eq, decide_eq_true_eq]
                  constructor
                  · rintro ⟨a, b⟩
                    have := cnt_lt (c := fun s => pc s == k) a b
                    exact ⟨by omega, b, by omega⟩
                  · rintro ⟨a, b, c⟩
                    refine ⟨?_, b⟩
                    by_cases w : t < s
                    · exact w
                    · have := cnt_mono (fun s => pc s == k) (show s ≤ t by omega)
                      omega
              · right
                have hpc := pc_le s
                cases hb : (pc s == k) with
                | true =>
                  have hb' : pc s = k := by simpa using hb
                  have hcs : cnt (fun s => pc s == k) (s + 1) = cnt (fun s => pc s == k) s + 1 := by rw [cnt_succ, hb, if_pos rfl]
                  refine ⟨nI s, nI (m - cnt (fun s => pc s == k) (s + 1)), nI (s + 1), upd fr s (vp_nar .boolean 1), fun r => ?_, Or.inr ⟨s, rfl, hb, hcs.symm⟩, rfl, by omega, rfl, (h3.set1 s).congr (fun t _ => ?_)⟩
                  · unfold X9_row_h63
                    obtain ⟨d, hd⟩ : ∃ d, m - cnt (fun s => pc s == k) s = d + 1 := ⟨m - cnt (fun s => pc s == k) s - 1, by omega⟩
                    rw [shl1 _ (by omega), if_neg (nI_ge hs (by omega)), if_neg (nI_nle (by omega) (by omega)), X9_bits_eq (by omega), bd1_s, if_pos (by rw [hb']), gin_nI (by omega) (by decide), nI_clamp (by omega), nI_1, hd, pk_m1, hcs, show m - (cnt (fun s => pc s == k) s + 1) = d by omega]
                  · apply Bool.eq_iff_iff.mpr
                    rw [Bool.or_eq_true, Bool.and_eq_true, Bool.and_eq_true, decide_eq_true_eq, decide_eq_true_eq, show ((t == s) = true) = (t = s) from propext beq_iff_eq]
                    constructor
                    · rintro (⟨a, b⟩ | rfl)
                      · exact ⟨by omega, b⟩
                      · exact ⟨by omega, hb⟩
                    · rintro ⟨a, b⟩
                      by_cases w : t = s
                      · exact Or.inr w
                      · exact Or.inl ⟨by omega, b⟩
                | false =>
                  have hb' : pc s ≠ k := by simpa using hb
                  have hcs : cnt (fun s => pc s == k) (s + 1) = cnt (fun s => pc s == k) s := by rw [cnt_succ, hb, if_neg (by decide), Nat.add_zero]
                  refine ⟨x, nI (m - cnt (fun s => pc s == k) s), nI (s + 1), fr, fun r => ?_, by rw [hcs]; exact h1, by rw [hcs], by omega, rfl, h3.congr (fun t _ => ?_)⟩
                  · unfold X9_row_h63
                    rw [shl1 _ (by omega), if_neg (nI_ge hs (by omega)), if_neg (nI_nle (by omega) (by omega)), X9_bits_eq (by omega), bd1_s, if_neg (fun z => hb' ((nI_eq (by omega) (by omega)).mp z)), nI_1]
                  · by_cases w : t = s
                    · subst w; rw [hb, Bool.and_false, Bool.and_false]
                    · congr 1
                      apply decide_eq_decide.mpr; omega
            · obtain ⟨h1, rfl, h2, rfl, h3⟩ := hI
              refine ⟨_, fun r => ?_, x, fr, ?_, h3.congr (fun t ht => ?_), rfl⟩
              · unfold X9_row_h63
                rw [shl1 _ (by omega), if_pos (nI_le (Nat.le_refl _) (by omega))]
              · rw [show m = cnt (fun s => pc s == k) (2 ^ n) by omega]; exact h1
              · by_cases w : t < 2 ^ n
                · rw [decide_eq_true w, Bool.true_and, Bool.true_and]
                  cases hb : (pc t == k) with
                  | false => rfl
                  | true =>
                    have := cnt_lt (c := fun s => pc s == k) w hb
                    rw [decide_eq_true (by omega)]; rfl
                · rw [decide_eq_false w, Bool.false_and, Bool.false_and]
          obtain ⟨x, hx, ex⟩ := hcls
          obtain ⟨y, fr, hy, hfr, ey⟩ := href
          rw [ex, ey, lastP_uniq hy hx]
          obtain ⟨oP, oLo, oHi, so, ha, hz, act, now, kep, c1, c2, c3⟩ := comes_sim hr (oP := va_up cP 3 (nI n)) (V := va_up V 3 (fun s => (pc s == k) && decide (cnt (fun s => pc s == k) s < m))) (w := 3) (n := n) (f := fun s => decide (s < 2 ^ n) && ((pc s == k) && decide (cnt (fun s => pc s == k) s < m))) (m := fr) ((Keeps.rfl'.up 3 (by omega) _).upP 3 (by omega) _) (by omega) hj up_at (fun t ht => by
            rw [up_at]
            by_cases w : t < 2 ^ n
            · rw [decide_eq_true w, Bool.true_and]
            · have := cnt_mono (fun s => pc s == k) (show 2 ^ n ≤ t by omega)
              rw [decide_eq_false (show ¬ cnt (fun s => pc s == k) t < m by omega), Bool.and_false, Bool.and_false]) (okF_mk hn (by omega) fun t ht => by
            rw [Bool.and_eq_true, decide_eq_true_eq] at ht
            exact ht.1) hfr
          rw [c1, bd7_s, c2, bd4_s]
          exact ⟨_, _, _, _, _, _, _, _, _, _, _, _, rfl, rfl, c3⟩
        · rw [decide_eq_false h, bf0]
          refine ⟨-2, _, _, _, _, _, _, _, _, _, _, _, ?_, rfl, hr⟩
          rcases i32_cases p4 with hneg | ⟨m, hm, rfl⟩
          · rw [if_pos (i32_lt.mpr (by simpa using hneg))]
          · rw [nI_toInt hm] at h
            rw [if_neg (nI_pos hm), nI_l hm, if_neg (fun z => by have := (lg_le (by omega) (by omega)).mp z; omega)]
      · rw [decide_eq_false h, bf0]
        exact ⟨-2, _, _, _, _, _, _, _, _, _, _, _, outA h rfl (nI_toInt (by omega)), rfl, hr⟩
    · rw [isPC_out h, bd1_s, i00, decide_eq_false h, bf0]
      exact ⟨_, _, _, _, _, _, _, _, _, _, _, _, rfl, rfl, hr⟩
  · rw [X8_isSlot_out hp, bd1_s, i00, X9_isSlot_out hp, bd1_s, i00]
    exact ⟨_, _, _, _, _, _, _, _, _, _, _, _, rfl, rfl, hr⟩
end SIM
