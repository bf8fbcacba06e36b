section SIM
variable {cP : Nat → Int32} {cLo : Nat → Int64} {cHi : Nat → Int64} {cpl : Nat → Int32} {ctb : Nat → Int32} {ctl : Int32} {ctf : Int32} {ctp : Int32} {ctk : Int32} {cts : Int32} {cth : Int32} {cob : Nat → Int32} {col : Int32} {cso : Nat → Int32} {cha : Int32} {chs : Int32} {cbe : Int32} {ctr : Int32} {cgl : Nat → Int64} {cgh : Nat → Int64} {cll : Nat → Int64} {clh : Nat → Int64} {cta : Nat → Int32} {cme : Nat → Int32} {cps : Int32} {cwh : Nat → Int32} {cal : Nat → Int64} {cah : Nat → Int64} {mthr : Int32} {mfrp : Int32} {mact : Int32} {mtpd : Int32} {msiz : Int32} {matx : Int32} {mfrm : Int32} {mtok : Int32} {mval : Int32} {mfk : Int32} {mfpl : Int32} {mbem : Int32} {mtrs : Int32} {mtrl : Int32} {mrom : Int32} {mtom : Int32} {mnow : Nat → Int32} {mfre : Nat → Int32} {mkep : Nat → Int32} {mtap : Nat → Int32} {mlef : Nat → Int32} {mtak : Nat → Int32} {mbes : Nat → Int32} {mrow : Nat → Int32} {mint : Nat → Int32} {mrnd : Nat → Int32} {mplo : Nat → Int32} {mhio : Nat → Int32} {mtox : Nat → Int32} {mtol : Nat → Int32}
theorem famcase {V : Nat → Nat → Bool} (hV : ∀ i s, 128 ≤ s → V i s = false) (hr : Rel cP (LO V) (HI V) ctb ctl ctf ctp cob col cso cha chs mact mtpd mfk mfpl mtom mnow mkep mtap mtol) (p : Int32) :
    (∃ j n, j < 3 ∧ p = nI j ∧ 0 < n ∧ n ≤ 7 ∧ inN n (V j) ∧ cP j = nI n ∧ FamM mnow (129 * j) (n, V j) ∧ X8_familyAt cP p = some (some j) ∧ X9_hasOne mnow p = some 1) ∨ (X8_familyAt cP p = some none ∧ X9_hasOne mnow p = some 0) := by
  obtain ⟨⟨z, a, Sn, sl, h1, h2⟩, h3⟩ := hr
  rcases slot_two h1 p with ⟨j, hj, e, h0, hC, hM, q1, q2⟩ | h
  · left
    have hf : V j = (Sn z j).2 := funext fun s => by
      by_cases q : s < 128
      · exact hC.v s q
      · rw [hV j s (by omega), hC.1.big (by omega)]
    exact ⟨j, (Sn z j).1, hj, e, h0, hC.1.1, fun t ht => (hC.1.2 t (by rw [← hf]; exact ht)).1, hC.2.1, by rw [hf]; exact hM, q1, q2⟩
  · right; exact h
theorem sim_fault {p1 : Int32} (hr : Rel cP cLo cHi ctb ctl ctf ctp cob col cso cha chs mact mtpd mfk mfpl mtom mnow mkep mtap mtol) : ∃ (r : Int32) , X8_fault ctf ctp p1 = some r ∧ X9_fault mfk mfpl p1 = some r ∧ Rel cP cLo cHi ctb ctl ctf ctp cob col cso cha chs mact mtpd mfk mfpl mtom mnow mkep mtap mtol := by
  obtain ⟨h1, h2⟩ := hr.2.2.1
  refine ⟨if p1 = 0 then ctf else if p1 = 1 then ctp else -1, ?_, ?_, hr⟩
  · unfold X8_fault; (repeat' split) <;> rfl
  · unfold X9_fault; rw [h1, h2]; (repeat' split) <;> rfl
theorem used_eq {V : Nat → Nat → Bool} (hr : Rel cP cLo cHi ctb ctl ctf ctp cob col cso cha chs mact mtpd mfk mfpl mtom mnow mkep mtap mtol) : ∃ u : Nat → Bool, X8_usedSlots cP = some (nI (nb u 3)) ∧ ∀ p, X9_count mact mtpd mtom mnow p = (if p = 0 then some (nI (nb u 3)) else (if p = 1 then some mact else (if p = 2 then some mtpd else (if p = 3 then some mtom else some (-1))))) := by
  obtain ⟨⟨z, a, Sn, sl, h1, h2⟩, h3⟩ := hr
  refine ⟨fun j => decide (0 < (Sn z j).1), ?_, fun p => ?_⟩
  · unfold X8_usedSlots
    refine bits_loop _ 3 (by decide) (fun k hk x r => ?_) (fun x r => ?_)
    · obtain ⟨hC, hM⟩ := h1 k hk
      have := hC.1.1
      unfold X8_usedSlots_h4 X0_isThere
      rw [if_neg (show ¬ (3 : Int32) ≤ nI k from nI_ge (b := 3) hk (by decide)), gin_nI hk (by decide), nI_clamp (by omega), hC.2.1, nI_1, shl1 _ (by omega)]
      by_cases e : 0 < (Sn z k).1
      · rw [if_neg (nI_nle e (by omega)), decide_eq_true e]; rfl
      · rw [if_pos (by rw [show (Sn z k).1 = 0 by omega]; decide), decide_eq_false e]; rfl
    · unfold X8_usedSlots_h4
      rw [if_pos (by decide)]
  · unfold X9_count
    exact lfp2_for (F := X9_count_h4 p mact mtpd mtom mnow) 3 (fun k => nI (nb (fun j => decide (0 < (Sn z j).1)) k)) (fun k => nI k) (fun k hk r => by
      obtain ⟨hC, hM⟩ := h1 k hk
      unfold X9_count_h4
      rw [if_neg (show ¬ (3 : Int32) ≤ nI k from nI_ge (b := 3) hk (by decide)), X9_hasOne_in hk hM hC.1.1, bd1_s, ib0, nI_1, shl1 _ (by omega), Int32.or_zero]
      show _ = r (nI (2 ^ k * (if decide (0 < (Sn z k).1) then 1 else 0) + nb (fun j => decide (0 < (Sn z j).1)) k)) (nI (k + 1))
      by_cases e : 0 < (Sn z k).1
      · rw [decide_eq_true e, if_pos rfl, if_pos rfl, nb_or _ (by omega)]
      · rw [decide_eq_false e, if_neg (by decide), if_neg (by decide)]; simp) (fun r => by
      unfold X9_count_h4
      rw [if_pos (by decide)])
theorem sim_count {p1 : Int32} (hr : Rel cP cLo cHi ctb ctl ctf ctp cob col cso cha chs mact mtpd mfk mfpl mtom mnow mkep mtap mtol) : ∃ (r : Int32) , X8_count cP ctl col chs p1 = some r ∧ X9_count mact mtpd mtom mnow p1 = some r ∧ Rel cP cLo cHi ctb ctl ctf ctp cob col cso cha chs mact mtpd mfk mfpl mtom mnow mkep mtap mtol := by
  obtain ⟨u, hu1, hu2⟩ := used_eq (V := fun _ _ => false) hr
  obtain ⟨⟨z, a, Sn, sl, h1, h2, h3, h4, h5, h6, h7⟩, ⟨t, t1, t2, t3, t4⟩, h9, ⟨w, w1, w2, w3, w4⟩⟩ := id hr
  refine ⟨if p1 = 0 then nI (nb u 3) else if p1 = 1 then chs else if p1 = 2 then ctl else if p1 = 3 then col else -1, ?_, ?_, hr⟩
  · unfold X8_count
    rw [hu1, bd1_s]
    (repeat' split) <;> rfl
  · rw [hu2, h3, h4, t2, t3, w2, w3]
    (repeat' split) <;> rfl
theorem sim_end {p1 : Int32} (hr : Rel cP cLo cHi ctb ctl ctf ctp cob col cso cha chs mact mtpd mfk mfpl mtom mnow mkep mtap mtol) : ∃ (r : Int32) (octl : Int32) (omtpd : Int32), X8_end ctl p1 = some (r, octl) ∧ X9_end mtpd p1 = some (r, omtpd) ∧ Rel cP cLo cHi ctb octl ctf ctp cob col cso cha chs mact omtpd mfk mfpl mtom mnow mkep mtap mtol := by
  obtain ⟨h0, ⟨t, t1, t2, t3, t4⟩, h9⟩ := id hr
  subst t2 t3
  have hX : X9_in p1.toInt64 0 (nI t).toInt64 = some (b01 (decide (0 ≤ p1.toInt ∧ p1.toInt ≤ (t : Int)))) := by
    rw [X9_in_eq, Int32.toInt_toInt64, Int32.toInt_toInt64, nI_toInt (by omega)]; rfl
  rcases i32_cases p1 with hneg | ⟨k, hk, rfl⟩
  · refine ⟨-1, nI t, nI t, ?_, ?_, hr⟩
    · unfold X8_end; rw [if_pos (i32_lt.mpr (by simpa using hneg))]
    · unfold X9_end; rw [hX, bd1_s, decide_eq_false (by omega)]; rfl
  · by_cases q : k ≤ t
    · refine ⟨nI k, nI k, nI k, ?_, ?_, h0, ⟨k, by omega, rfl, rfl, fun i hi => t4 i (by omega)⟩, h9⟩
      · unfold X8_end; rw [if_neg (nI_pos hk), if_pos (nI_le q (by omega))]
      · unfold X9_end; rw [hX, bd1_s, nI_toInt hk, decide_eq_true (by omega)]; rfl
    · refine ⟨-1, nI t, nI t, ?_, ?_, hr⟩
      · unfold X8_end; rw [if_neg (nI_pos hk), if_neg (nI_ge (by omega) hk)]
      · unfold X9_end; rw [hX, bd1_s, nI_toInt hk, decide_eq_false (by omega)]; rfl
def byI (k : Nat) : Int32 := [(24 : Int32), 16, 8, 0, -8].getD k 0
def byB (p : Int32) (k : Nat) : Int32 := vp_nar .byte ((p >>> (byI k &&& 31)).toInt8.toInt32)
theorem X6_append_eq {b : Nat → Int32} {t : Nat} {p : Int32} (ht : t + 4 ≤ 800) : X6_append b (nI t) p = some (fillA b t (byB p) 4, nI (t + 4)) := by
  unfold X6_append
  have := lfp3_for (F := X6_append_h3 p) (y := some (fillA b t (byB p) 4, nI (t + 4))) 4 byI (fun k => fillA b t (byB p) k) (fun k => nI (t + k)) (fun k hk r => by
    have h1 : ¬ (byI k < 0) := by
      rcases (show k = 0 ∨ k = 1 ∨ k = 2 ∨ k = 3 by omega) with rfl | rfl | rfl | rfl <;> decide
    have h2 : byI k + (-8) = byI (k + 1) := by
      rcases (show k = 0 ∨ k = 1 ∨ k = 2 ∨ k = 3 by omega) with rfl | rfl | rfl | rfl <;> decide
    unfold X6_append_h3
    rw [if_neg h1, if_neg (show ¬ (800 : Int32) ≤ nI (t + k) from nI_ge (b := 800) (by omega) (by decide)), gin_nI (by omega) (by decide), nI_clamp (by omega), nI_1, h2]
    show r _ (upd (fillA b t (byB p) k) (t + k) (byB p k)) _ = _
    rw [fillA_s]; rfl) (fun r => by
    unfold X6_append_h3
    rw [if_pos (by decide)])
  simp only [fillA_0] at this
  exact this
theorem X9_puts4_eq {b : Nat → Int32} {t : Nat} {p : Int32} (ht : t + 4 ≤ 800) : X9_puts4 (nI t) b p = some (nI (t + 4), fillA b t (byB p) 4) := by
  unfold X9_puts4
  have := lfp3_for (F := X9_puts4_h3 p) (y := some (nI (t + 4), fillA b t (byB p) 4)) 4 byI (fun k => nI (t + k)) (fun k => fillA b t (byB p) k) (fun k hk r => by
    have h1 : ¬ (byI k < 0) := by
      rcases (show k = 0 ∨ k = 1 ∨ k = 2 ∨ k = 3 by omega) with rfl | rfl | rfl | rfl <;> decide
    have h2 : byI k + (-8) = byI (k + 1) := by
      rcases (show k = 0 ∨ k = 1 ∨ k = 2 ∨ k = 3 by omega) with rfl | rfl | rfl | rfl <;> decide
    unfold X9_puts4_h3
    rw [if_neg h1, gin_nI (by omega) (by decide), nI_clamp (by omega), nI_1, h2]
    show r _ _ (upd (fillA b t (byB p) k) (t + k) (byB p k)) = _
    rw [fillA_s]; rfl) (fun r => by
    unfold X9_puts4_h3
    rw [if_pos (by decide)])
  simp only [fillA_0] at this
  exact this
def TR (t : Nat) (b m : Nat → Int32) : Prop := ∀ i, i < t → b i = m i ∧ ∃ w : Int8, b i = w.toInt32
theorem TR.app {t : Nat} {b m : Nat → Int32} (h : TR t b m) (p : Int32) : TR (t + 4) (fillA b t (byB p) 4) (fillA m t (byB p) 4) := by
  intro i hi
  by_cases q : i < t
  · rw [fillA_out (by omega), fillA_out (by omega)]; exact h i q
  · rw [fillA_in (by omega) (by omega), fillA_in (by omega) (by omega)]
    exact ⟨rfl, _, pk_vb _⟩
theorem sim_feed {p1 p2 p3 p4 p5 : Int32} (hr : Rel cP cLo cHi ctb ctl ctf ctp cob col cso cha chs mact mtpd mfk mfpl mtom mnow mkep mtap mtol) : ∃ (r : Int32) (octb : Nat → Int32) (octl : Int32) (omtpd : Int32) (omtap : Nat → Int32), X8_feed ctb ctl p1 p2 p3 p4 p5 = some (r, octb, octl) ∧ X9_feed mtpd mtap p1 p2 p3 p4 p5 = some (r, omtpd, omtap) ∧ Rel cP cLo cHi octb octl ctf ctp cob col cso cha chs mact omtpd mfk mfpl mtom mnow mkep omtap mtol := by
  obtain ⟨h0, ⟨t, t1, t2, t3, t4⟩, h9⟩ := id hr
  subst t2 t3
  have hT : TR t ctb mtap := t4
  unfold X8_feed X9_feed X6_hasRoom
  rw [show nI t + (20 : Int32) = nI (t + 20) from nI_add t 20]
  by_cases q : t + 20 ≤ 800
  · rw [if_neg (show ¬ (800 : Int32) < nI (t + 20) from nI_nlt (a := 800) q (by decide)), if_pos (show nI (t + 20) ≤ (800 : Int32) from nI_le (b := 800) q (by decide)), bd1_s, if_neg (by decide), X6_append_eq (by omega), bd2_s, X6_append_eq (by omega), bd2_s, X6_append_eq (by omega), bd2_s, X6_append_eq (by omega), bd2_s, X6_append_eq (by omega), bd2_s, X9_puts4_eq (by omega), bd2_s, X9_puts4_eq (by omega), bd2_s, X9_puts4_eq (by omega), bd2_s, X9_puts4_eq (by omega), bd2_s, X9_puts4_eq (by omega), bd2_s]
    exact ⟨_, _, _, _, _, rfl, rfl, h0, ⟨t + 4 + 4 + 4 + 4 + 4, by omega, rfl, rfl, ((((hT.app p1).app p2).app p3).app p4).app p5⟩, h9⟩
  · rw [if_pos (show (800 : Int32) < nI (t + 20) from nI_lt (a := 800) (by omega) (by omega)), if_neg (show ¬ nI (t + 20) ≤ (800 : Int32) from nI_ge (a := 800) (by omega) (by omega)), bd1_s, if_pos rfl]
    exact ⟨_, _, _, _, _, rfl, rfl, hr⟩
theorem sim_octet {p1 : Int32} (hr : Rel cP cLo cHi ctb ctl ctf ctp cob col cso cha chs mact mtpd mfk mfpl mtom mnow mkep mtap mtol) : ∃ (r : Int32) , X8_octet cob col p1 = some r ∧ X9_octet mtom mtol p1 = some r ∧ Rel cP cLo cHi ctb ctl ctf ctp cob col cso cha chs mact mtpd mfk mfpl mtom mnow mkep mtap mtol := by
  obtain ⟨h0, h8, h9, ⟨u, u1, u2, u3, u4⟩⟩ := id hr
  subst u2 u3
  have hX : X9_in p1.toInt64 0 (nI u - 1).toInt64 = some (b01 (decide (0 ≤ p1.toInt ∧ p1.toInt ≤ (u : Int) - 1))) := by
    rw [X9_in_eq, Int32.toInt_toInt64, Int32.toInt_toInt64, show (nI u - 1).toInt = (u : Int) - 1 from pk_sub_toInt (b := 1) (by omega) (by decide)]; rfl
  unfold X8_octet X9_octet X7_byteAt
  rw [hX, bd1_s]
  rcases i32_cases p1 with hneg | ⟨k, hk, rfl⟩
  · rw [if_pos (i32_lt.mpr (by simpa using hneg)), bd1_s, decide_eq_false (by omega)]
    exact ⟨_, rfl, rfl, hr⟩
  · rw [if_neg (nI_pos hk), nI_toInt hk]
    by_cases q : k < u
    · rw [if_neg (nI_ge q (by omega)), gin_nI (by omega) (by decide), gin_nI (by omega) (by decide), nI_clamp hk, bd1_s, decide_eq_true (by omega), u4 k q]
      exact ⟨_, rfl, rfl, hr⟩
    · rw [if_pos (nI_le (by omega) hk), bd1_s, decide_eq_false (by omega)]
      exact ⟨_, rfl, rfl, hr⟩
theorem sim_set {p1 p2 : Int32} (hr : Rel cP cLo cHi ctb ctl ctf ctp cob col cso cha chs mact mtpd mfk mfpl mtom mnow mkep mtap mtol) : ∃ (r : Int32) , X8_set cP cLo cHi p1 p2 = some r ∧ X9_set mnow p1 p2 = some r ∧ Rel cP cLo cHi ctb ctl ctf ctp cob col cso cha chs mact mtpd mfk mfpl mtom mnow mkep mtap mtol := by
  obtain ⟨V, rfl, rfl, hV⟩ := toV cLo cHi
  unfold X8_set X9_set
  rcases famcase hV hr p1 with ⟨j, n, hj, rfl, h0, hn, hi, hP, hM, e1, e2⟩ | ⟨e1, e2⟩
  · rw [e1, bdo_s, e2, bd1_s, i10]
    rcases i32_cases p2 with hneg | ⟨k, hk, rfl⟩
    · have : ¬ (0 : Int32) ≤ p2 := fun q => by have := i32_le.mp q; have : (0 : Int32).toInt = 0 := rfl; omega
      rw [if_neg this, if_neg this]
      exact ⟨_, rfl, rfl, hr⟩
    · rw [if_pos (nI_pos' hk), if_pos (nI_pos' hk), pick_V hP hn hk, bd1_s, X9_kth_eq hj hM hk, bd1_s]
      refine ⟨_, rfl, ?_, hr⟩
      show some (kthI (V j) 128 k) = _
      rw [kthI_cut (pow_le7 hn) hi]
  · rw [e1, bdo_n, e2, bd1_s, i00]
    exact ⟨_, rfl, rfl, hr⟩
theorem sim_has {p1 p2 : Int32} (hr : Rel cP cLo cHi ctb ctl ctf ctp cob col cso cha chs mact mtpd mfk mfpl mtom mnow mkep mtap mtol) : ∃ (r : Int32) , X8_has cP cLo cHi p1 p2 = some r ∧ X9_has mnow p1 p2 = some r ∧ Rel cP cLo cHi ctb ctl ctf ctp cob col cso cha chs mact mtpd mfk mfpl mtom mnow mkep mtap mtol := by
  obtain ⟨V, rfl, rfl, hV⟩ := toV cLo cHi
  unfold X8_has X9_has
  rcases famcase hV hr p1 with ⟨j, n, hj, rfl, h0, hn, hi, hP, hM, e1, e2⟩ | ⟨e1, e2⟩
  · rw [e1, bdo_s, X9_isSet_eq hj hM hn h0, bd1_s, X0_knows_eq hP hn, bd1_s]
    by_cases q : 0 ≤ p2.toInt ∧ p2.toInt < (2 : Int) ^ n
    · obtain ⟨s, hs1, hs2, rfl⟩ := set_of hn q
      rw [decide_eq_true q, bt0, bt0, holds_V hs2, bd1_s, X9_base_eq, bd1_s, nI_1, nI_add, gin_nI (by omega) (by decide), nI_clamp (by omega), hM.2 s hs2]
      refine ⟨b01 (V j s), ?_, rfl, hr⟩
      cases V j s <;> rfl
    · rw [decide_eq_false q, bf0, bf0]
      exact ⟨_, rfl, rfl, hr⟩
  · rw [e1, bdo_n, X9_isSet_out e2, bd1_s, if_pos rfl]
    exact ⟨_, rfl, rfl, hr⟩
theorem sim_degree {p1 p2 : Int32} (hr : Rel cP cLo cHi ctb ctl ctf ctp cob col cso cha chs mact mtpd mfk mfpl mtom mnow mkep mtap mtol) : ∃ (r : Int32) , X8_degree cP cLo cHi p1 p2 = some r ∧ X9_degree mnow p1 p2 = some r ∧ Rel cP cLo cHi ctb ctl ctf ctp cob col cso cha chs mact mtpd mfk mfpl mtom mnow mkep mtap mtol := by
  obtain ⟨V, rfl, rfl, hV⟩ := toV cLo cHi
  unfold X8_degree X9_degree
  rcases famcase hV hr p1 with ⟨j, n, hj, rfl, h0, hn, hi, hP, hM, e1, e2⟩ | ⟨e1, e2⟩
  · rw [e1, bdo_s, X9_isPoint_eq hj hM hn h0, bd1_s, X0_knowsPoint_eq hP hn, bd1_s]
    by_cases q : 0 ≤ p2.toInt ∧ p2.toInt < (n : Int)
    · obtain ⟨s, hs1, rfl⟩ := point_of hn q
      rw [decide_eq_true q, bt0, bt0, degreeOf_V (by omega), bd1_s, X9_degreeOf_eq hj hM (by omega), bd1_s]
      exact ⟨_, rfl, rfl, hr⟩
    · rw [decide_eq_false q, bf0, bf0]
      exact ⟨_, rfl, rfl, hr⟩
  · rw [e1, bdo_n, X9_isPoint_out e2, bd1_s, if_pos rfl]
    exact ⟨_, rfl, rfl, hr⟩
end SIM
