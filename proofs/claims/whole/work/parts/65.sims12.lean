/-! makes -/
theorem MK_in {n k : Nat} {f : Nat → Bool} (hn : n ≤ 7) (hf : inN n f) {s : Nat} (h : MK n f k s) : s < 2 ^ n := by
  unfold MK at h
  split at h
  · obtain ⟨p, h1, _, h3⟩ := h
    have := flip_lt h1 (hf _ h3)
    rwa [flip_flip] at this
  split at h
  · obtain ⟨p, h1, _, h3⟩ := h
    have := flip_lt h1 (hf _ h3)
    rwa [flip_flip] at this
  split at h
  · obtain ⟨t, h1, h2⟩ := h; exact sub_lt h2 (hf t h1)
  split at h
  · exact h.1
  split at h
  · exact h.1
  split at h
  · have := h (fun s => decide (s < 2 ^ n)) (fun t ht => decide_eq_true (hf t ht)) (fun a b ha hb => by
      rw [decide_eq_true_eq] at ha hb ⊢
      exact Nat.lt_of_le_of_lt Nat.and_le_left ha)
    exact of_decide_eq_true this
  split at h
  · have := h (fun s => decide (s < 2 ^ n)) (fun t ht => decide_eq_true (hf t ht)) (fun a b ha hb => by
      rw [decide_eq_true_eq] at ha hb ⊢
      exact Nat.or_lt_two_pow ha hb)
    exact of_decide_eq_true this
  split at h
  · exact hf s h.1
  split at h
  · exact hf s h.1
  · exact mA_in s h.1
theorem cmp_nI {n s : Nat} (hn : n ≤ 31) (hs : s < 2 ^ n) : (nI (2 ^ n - 1) &&& (nI s ^^^ (-1 : Int32))) = nI (s ^^^ (2 ^ n - 1)) := by
  rw [m1_nI, xor_nI', land_nI']
  congr 1
  apply Nat.eq_of_testBit_eq
  intro p
  have hs32 : s < 2 ^ 32 := Nat.lt_of_lt_of_le hs (Nat.pow_le_pow_right (by decide) (by omega))
  rw [Nat.testBit_and, cmp_bit hs32, cmp_bit hs, Nat.testBit_two_pow_sub_one]
  by_cases q : p < n
  · simp [q, show p < 32 by omega]
  · simp [q]
theorem makes_end {mnow m mkep : Nat → Int32} {mact fp p3 : Int32} {j n k : Nat} {f : Nat → Bool} (hj : j < 3) (hM : FamM mnow (129 * j) (n, f)) (hn : n ≤ 7) (hk : k ≤ 9) (hk4 : k ≠ 4) : X9_makes_j151 mnow (nI j) mact mkep p3 (nI k) fp m = bd4 (X9_comes fp mact mnow m mkep p3) (fun q31 mact_32 mnow_33 mkep_34 => some (q31, fp, mact_32, mnow_33, m, mkep_34)) := by
  have hp := Nat.two_pow_pos n
  have hq := pow_le7 hn
  unfold X9_makes_j151
  rw [points9 hj hM, bd1_s]
  refine lfp2_done fun r => ?_
  unfold X9_makes_h165
  rw [shl1 _ (by omega), show nI (2 ^ n) - (1 : Int32) = nI (2 ^ n - 1) from pk_sub (b := 1) hp, if_neg (show ¬ nI (2 ^ n - 1) < (0 : Int32) from nI_pos (by omega)), if_neg (show ¬ nI k = (4 : Int32) from fun z => hk4 ((nI_eq (b := 4) (by omega) (by decide)).mp z))]
theorem makes_turn {mnow m mkep : Nat → Int32} {mact fp p3 : Int32} {j n : Nat} {f : Nat → Bool} (hj : j < 3) (hM : FamM mnow (129 * j) (n, f)) (hn : n ≤ 7) (hf : inN n f) (hm : FR m (fun _ => false)) : ∃ m' g, X9_makes_j151 mnow (nI j) mact mkep p3 (nI 4) fp m = bd4 (X9_comes fp mact mnow m' mkep p3) (fun q25 mact_26 mnow_27 mkep_28 => some (q25, fp, mact_26, mnow_27, m', mkep_28)) ∧ FR m' g ∧ ∀ s, s < 128 → (g s = true ↔ MK n f 4 s) := by
  have hp := Nat.two_pow_pos n
  have hq := pow_le7 hn
  unfold X9_makes_j151
  rw [points9 hj hM, bd1_s]
  obtain ⟨m', h1, h2⟩ := lfp2_fresh (F := X9_makes_h165 (nI n) fp mact mnow mkep p3 (nI 4) (nI j)) (fun t u => decide (u < 2 ^ n) && (decide (u ^^^ (2 ^ n - 1) < t) && f (u ^^^ (2 ^ n - 1)))) (2 ^ n) (fun m => bd4 (X9_comes fp mact mnow m mkep p3) (fun q25 mact_26 mnow_27 mkep_28 => some (q25, fp, mact_26, mnow_27, m, mkep_28))) (m0 := m) (hm.congr fun s _ => by rw [decide_eq_false (show ¬ s ^^^ (2 ^ n - 1) < 0 by omega), Bool.false_and, Bool.and_false]) (fun t ht m hm => by
    have hc := cmp_lt ht
    have hcc : t ^^^ (2 ^ n - 1) ^^^ (2 ^ n - 1) = t := by rw [Nat.xor_assoc, Nat.xor_self, Nat.xor_zero]
    refine ⟨upd m (t ^^^ (2 ^ n - 1)) (b01 (f t)), (hm.set _ _).congr (fun u hu => ?_), fun r => ?_⟩
    · by_cases e : u = t ^^^ (2 ^ n - 1)
      · subst e; rw [if_pos rfl, decide_eq_true hc, hcc, decide_eq_true (by omega)]; rfl
      · rw [if_neg e]
        congr 2
        apply decide_eq_decide.mpr
        have : u ^^^ (2 ^ n - 1) ≠ t := fun z => e (by rw [← z, Nat.xor_assoc, Nat.xor_self, Nat.xor_zero])
        omega
    · unfold X9_makes_h165
      rw [shl1 _ (by omega), show nI (2 ^ n) - (1 : Int32) = nI (2 ^ n - 1) from pk_sub (b := 1) hp, if_neg (nI_nlt (by omega) (by omega)), if_pos (show nI 4 = (4 : Int32) from rfl), isIn9 hj hM (by omega), bd1_s, cmp_nI (by omega) ht, gin_nI (by omega) (by decide), nI_clamp (by omega), nI_1, vnz]) (fun m r => by
    unfold X9_makes_h165
    rw [shl1 _ (by omega), show nI (2 ^ n) - (1 : Int32) = nI (2 ^ n - 1) from pk_sub (b := 1) hp, if_pos (nI_lt (by omega) (by omega))])
  refine ⟨m', _, h2, h1, fun s hs => ?_⟩
  rw [Bool.and_eq_true, Bool.and_eq_true, decide_eq_true_eq, decide_eq_true_eq]
  show _ ↔ s < 2 ^ n ∧ f (s ^^^ (2 ^ n - 1)) = true
  constructor
  · rintro ⟨a, _, b⟩; exact ⟨a, b⟩
  · rintro ⟨a, b⟩; exact ⟨a, cmp_lt a, b⟩
theorem makes_9 {mnow m mkep : Nat → Int32} {mact p3 : Int32} {j n k : Nat} {f : Nat → Bool} (hj : j < 3) (hM : FamM mnow (129 * j) (n, f)) (hn : n ≤ 7) (hf : inN n f) (hk : k ≤ 9) (hm : FR m (fun _ => false)) : ∃ m' g, (if (2 : Int32) ≤ nI k then (if (4 : Int32) ≤ nI k then (if nI k = (5 : Int32) then X9_makes_j96 (nI k) mnow m (nI j) mact mkep p3 else (if nI k = (6 : Int32) then X9_makes_j96 (nI k) mnow m (nI j) mact mkep p3 else (if nI k = (9 : Int32) then bd1 (X9_laysMeeting mnow m (nI j)) (fun mfre_57 => X9_makes_j151 mnow (nI j) mact mkep p3 (nI k) (nI n) mfre_57) else (if nI k ≤ (6 : Int32) then X9_makes_j151 mnow (nI j) mact mkep p3 (nI k) (nI n) m else (if nI k = (8 : Int32) then X9_makes_j148 mnow m (nI j) mact mkep p3 (nI k) (nI n) (1 : Int32) else X9_makes_j148 mnow m (nI j) mact mkep p3 (nI k) (nI n) (0 : Int32)))))) else (if nI k = (3 : Int32) then X9_makes_j79 mnow m (nI j) mact mkep p3 (nI k) (nI n) (1 : Int32) else X9_makes_j79 mnow m (nI j) mact mkep p3 (nI k) (nI n) (0 : Int32))) else (if nI k = (1 : Int32) then X9_makes_j56 mnow m (nI j) mact mkep p3 (nI k) (nI n) (1 : Int32) else X9_makes_j56 mnow m (nI j) mact mkep p3 (nI k) (nI n) (0 : Int32))) = bd4 (X9_comes (nI n) mact mnow m' mkep p3) (fun q mact_2 mnow_3 mkep_4 => some (q, nI n, mact_2, mnow_3, m', mkep_4)) ∧ FR m' g ∧ ∀ s, s < 128 → (g s = true ↔ MK n f k s) := by
  rcases (show k = 0 ∨ k = 1 ∨ k = 2 ∨ k = 3 ∨ k = 4 ∨ k = 5 ∨ k = 6 ∨ k = 7 ∨ k = 8 ∨ k = 9 by omega) with rfl | rfl | rfl | rfl | rfl | rfl | rfl | rfl | rfl | rfl
  · obtain ⟨m', g, e, h1, h2⟩ := laysShadow_9 hj hM hn hf hm false
    rw [if_neg (by decide), if_neg (by decide)]
    unfold X9_makes_j56
    rw [show (0 : Int32) = b01 false from rfl, e, bd1_s, makes_end hj hM hn (by decide) (by decide)]
    exact ⟨m', g, rfl, h1, h2⟩
  · obtain ⟨m', g, e, h1, h2⟩ := laysShadow_9 hj hM hn hf hm true
    rw [if_neg (by decide), if_pos (by decide)]
    unfold X9_makes_j56
    rw [show (1 : Int32) = b01 true from rfl, e, bd1_s, makes_end hj hM hn (by decide) (by decide)]
    exact ⟨m', g, rfl, h1, h2⟩
  · obtain ⟨m', g, e, h1, h2⟩ := laysWithin_9 hj hM hn hf hm false
    rw [if_pos (by decide), if_neg (by decide), if_neg (by decide)]
    unfold X9_makes_j79
    rw [show (0 : Int32) = b01 false from rfl, e, bd1_s, makes_end hj hM hn (by decide) (by decide)]
    exact ⟨m', g, rfl, h1, h2⟩
  · obtain ⟨m', g, e, h1, h2⟩ := laysWithin_9 hj hM hn hf hm true
    rw [if_pos (by decide), if_neg (by decide), if_pos (by decide)]
    unfold X9_makes_j79
    rw [show (1 : Int32) = b01 true from rfl, e, bd1_s, makes_end hj hM hn (by decide) (by decide)]
    exact ⟨m', g, rfl, h1, h2⟩
  · obtain ⟨m', g, e, h1, h2⟩ := makes_turn (mact := mact) (mkep := mkep) (fp := nI n) (p3 := p3) hj hM hn hf hm
    rw [if_pos (by decide), if_pos (by decide), if_neg (by decide), if_neg (by decide), if_neg (by decide), if_pos (by decide), e]
    exact ⟨m', g, rfl, h1, h2⟩
  · obtain ⟨m', g, e, h1, h2⟩ := laysClosed_9 (m := m) hj hM hn hf false
    rw [if_pos (by decide), if_pos (by decide), if_pos (by decide)]
    unfold X9_makes_j96 X9_makes_j109
    rw [if_neg (by decide), show (0 : Int32) = b01 false from rfl, e, bd2_s, makes_end hj hM hn (by decide) (by decide)]
    exact ⟨m', g, rfl, h1, h2⟩
  · obtain ⟨m', g, e, h1, h2⟩ := laysClosed_9 (m := m) hj hM hn hf true
    rw [if_pos (by decide), if_pos (by decide), if_neg (by decide), if_pos (by decide)]
    unfold X9_makes_j96 X9_makes_j109
    rw [if_pos (by decide), show (1 : Int32) = b01 true from rfl, e, bd2_s, makes_end hj hM hn (by decide) (by decide)]
    exact ⟨m', g, rfl, h1, h2⟩
  · obtain ⟨m', g, e, h1, h2⟩ := laysEnds_9 (m := m) hj hM hn hf false
    rw [if_pos (by decide), if_pos (by decide), if_neg (by decide), if_neg (by decide), if_neg (by decide), if_neg (by decide), if_neg (by decide)]
    unfold X9_makes_j148
    rw [show (0 : Int32) = b01 false from rfl, e, bd1_s, makes_end hj hM hn (by decide) (by decide)]
    exact ⟨m', g, rfl, h1, h2⟩
  · obtain ⟨m', g, e, h1, h2⟩ := laysEnds_9 (m := m) hj hM hn hf true
    rw [if_pos (by decide), if_pos (by decide), if_neg (by decide), if_neg (by decide), if_neg (by decide), if_neg (by decide), if_pos (by decide)]
    unfold X9_makes_j148
    rw [show (1 : Int32) = b01 true from rfl, e, bd1_s, makes_end hj hM hn (by decide) (by decide)]
    exact ⟨m', g, rfl, h1, h2⟩
  · obtain ⟨m', g, e, h1, h2⟩ := laysMeeting_9 hj hM hn hf hm
    rw [if_pos (by decide), if_pos (by decide), if_neg (by decide), if_neg (by decide), if_pos (by decide), e, bd1_s, makes_end hj hM hn (by decide) (by decide)]
    exact ⟨m', g, rfl, h1, h2⟩
section SIM
variable {cP : Nat → Int32} {cLo : Nat → Int64} {cHi : Nat → Int64} {cpl : Nat → Int32} {ctb : Nat → Int32} {ctl : Int32} {ctf : Int32} {ctp : Int32} {ctk : Int32} {cts : Int32} {cth : Int32} {cob : Nat → Int32} {col : Int32} {cso : Nat → Int32} {cha : Int32} {chs : Int32} {cbe : Int32} {ctr : Int32} {cgl : Nat → Int64} {cgh : Nat → Int64} {cll : Nat → Int64} {clh : Nat → Int64} {cta : Nat → Int32} {cme : Nat → Int32} {cps : Int32} {cwh : Nat → Int32} {cal : Nat → Int64} {cah : Nat → Int64} {mthr : Int32} {mfrp : Int32} {mact : Int32} {mtpd : Int32} {msiz : Int32} {matx : Int32} {mfrm : Int32} {mtok : Int32} {mval : Int32} {mfk : Int32} {mfpl : Int32} {mbem : Int32} {mtrs : Int32} {mtrl : Int32} {mrom : Int32} {mtom : Int32} {mnow : Nat → Int32} {mfre : Nat → Int32} {mkep : Nat → Int32} {mtap : Nat → Int32} {mlef : Nat → Int32} {mtak : Nat → Int32} {mbes : Nat → Int32} {mrow : Nat → Int32} {mint : Nat → Int32} {mrnd : Nat → Int32} {mplo : Nat → Int32} {mhio : Nat → Int32} {mtox : Nat → Int32} {mtol : Nat → Int32}
theorem sim_makes {p1 p2 p3 : Int32} (hr : Rel cP cLo cHi ctb ctl ctf ctp cob col cso cha chs mact mtpd mfk mfpl mtom mnow mkep mtap mtol) : ∃ (r : Int32) (ocP : Nat → Int32) (ocLo : Nat → Int64) (ocHi : Nat → Int64) (ocso : Nat → Int32) (ocha : Int32) (ochs : Int32) (omfrp : Int32) (omact : Int32) (omnow : Nat → Int32) (omfre : Nat → Int32) (omkep : Nat → Int32), X8_makes cP cLo cHi cso cha chs p1 p2 p3 = some (r, ocP, ocLo, ocHi, ocso, ocha, ochs) ∧ X9_makes mfrp mact mnow mfre mkep p1 p2 p3 = some (r, omfrp, omact, omnow, omfre, omkep) ∧ Rel ocP ocLo ocHi ctb ctl ctf ctp cob col ocso ocha ochs omact mtpd mfk mfpl mtom omnow omkep mtap mtol := by
  obtain ⟨V, rfl, rfl, hV⟩ := toV cLo cHi
  unfold X8_makes X9_makes
  rcases famcase hV hr p1 with ⟨j, n, hj, rfl, h0, hn, hi, hP, hM, e1, e2⟩ | ⟨e1, e2⟩
  · rw [e1, bdo_s, e2, bd1_s, i10, X9_in_n (a := 0) (b := 9) (by decide) (by decide) rfl rfl, bd1_s]
    rcases in_cases (p := p2) 0 9 (by decide) with ⟨k, _, hk, rfl⟩ | h
    · rw [if_neg (nI_pos (by omega)), if_neg (show ¬ (9 : Int32) < nI k from nI_nlt (a := 9) hk (by decide)), nI_toInt (by omega), decide_eq_true (by omega), bt0]
      rcases slot_cases p3 with ⟨j', hj', rfl⟩ | hp
      · obtain ⟨x, g, h, hm1, hm2⟩ := make_V (cP := cP) (V := V) hj hP hn hi hk
        obtain ⟨m', g', hr1, hr2, hr3⟩ := makes_9 (m := fillA mfre 0 (fun _ => 0) 128) (mact := mact) (mkep := mkep) (p3 := nI j') hj hM hn hi hk (FR_clear mfre)
        rw [X8_isSlot_in hj', bd1_s, i10, X9_isSlot_in hj', bd1_s, i10, hm1, bd3_s, points9 hj hM, bd1_s, X9_clearsFresh_eq, bd2_s, hr1]
        obtain ⟨oP, oLo, oHi, so, ha, hz, act, now, kep, c1, c2, c3⟩ := comes_sim hr (oP := va_up (va_up cP 3 (nI n)) 4 x) (V := va_up (va_up V 3 h) 4 g) (w := 3) (n := n) (f := fun s => decide (s < 128) && g' s) (m := m') ((((Keeps.rfl'.up 3 (by omega) _).up 4 (by omega) _).upP 3 (by omega) _).upP 4 (by omega) _) (by omega) hj' (by rw [up_ne (by decide), up_at]) (fun t ht => by
          rw [up_ne (by decide), up_at, decide_eq_true ht, Bool.true_and]
          exact Bool.eq_iff_iff.mpr ((hm2 t ht).trans (hr3 t ht).symm)) (okF_mk hn h0 fun t ht => by
          rw [Bool.and_eq_true, decide_eq_true_eq] at ht
          exact MK_in hn hi ((hr3 t ht.1).mp ht.2)) (hr2.congr fun t ht => by rw [decide_eq_true ht, Bool.true_and])
        rw [c1, bd7_s, c2, bd4_s]
        exact ⟨_, _, _, _, _, _, _, _, _, _, _, _, rfl, rfl, c3⟩
      · rw [X8_isSlot_out hp, bd1_s, i00, X9_isSlot_out hp, bd1_s, i00]
        exact ⟨_, _, _, _, _, _, _, _, _, _, _, _, rfl, rfl, hr⟩
    · rw [decide_eq_false h, bf0]
      exact ⟨-2, _, _, _, _, _, _, _, _, _, _, _, outB h rfl rfl, rfl, hr⟩
  · rw [e1, bdo_n, e2, bd1_s, i00]
    exact ⟨_, _, _, _, _, _, _, _, _, _, _, _, rfl, rfl, hr⟩
end SIM
