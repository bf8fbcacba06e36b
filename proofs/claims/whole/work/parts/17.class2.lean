section WK
variable {g h : Nat → Nat} {cP : Nat → Int32} {cLo : Nat → Int64} {cHi : Nat → Int64} {cpl : Nat → Int32} {ctb : Nat → Int32} {ctl : Int32} {ctf : Int32} {ctp : Int32} {ctk : Int32} {cts : Int32} {cth : Int32} {cob : Nat → Int32} {col : Int32} {cso : Nat → Int32} {cha : Int32} {chs : Int32} {cbe : Int32} {ctr : Int32} {cgl : Nat → Int64} {cgh : Nat → Int64} {cll : Nat → Int64} {clh : Nat → Int64} {cta : Nat → Int32} {cme : Nat → Int32} {cps : Int32} {cwh : Nat → Int32} {cal : Nat → Int64} {cah : Nat → Int64} {mthr : Int32} {mfrp : Int32} {mact : Int32} {mtpd : Int32} {msiz : Int32} {matx : Int32} {mfrm : Int32} {mtok : Int32} {mval : Int32} {mfk : Int32} {mfpl : Int32} {mbem : Int32} {mtrs : Int32} {mtrl : Int32} {mrom : Int32} {mtom : Int32} {mnow : Nat → Int32} {mfre : Nat → Int32} {mkep : Nat → Int32} {mtap : Nat → Int32} {mlef : Nat → Int32} {mtak : Nat → Int32} {mbes : Nat → Int32} {mrow : Nat → Int32} {mint : Nat → Int32} {mrnd : Nat → Int32} {mplo : Nat → Int32} {mhio : Nat → Int32} {mtox : Nat → Int32} {mtol : Nat → Int32}
variable {D : va_G} {cy : Nat → ClassId} {G : Nat → Nat}
noncomputable def X8_end (ctl : Int32) (p1 : Int32) : Option (Int32 × Int32) := (if p1 < (0 : Int32) then some ((-1 : Int32), ctl) else (if p1 ≤ ctl then some (p1, p1) else some ((-1 : Int32), ctl)))
set_option maxHeartbeats 4000000 in
set_option maxRecDepth 20000 in
theorem X8_end_ok {p1 : Int32} {rr : Int32} {octl : Int32}  (hf : X8_end ctl p1 = some (rr, octl)) : MT yX8_end cX8_end 2 (some .int) 0 [.ref (g 28), .int p1] D cy G (cw g cy cP cLo cHi cpl ctb ctl ctf ctp ctk cts cth cob col cso cha chs cbe ctr cgl cgh cll clh cta cme cps cwh cal cah) (cw g cy cP cLo cHi cpl ctb octl ctf ctp ctk cts cth cob col cso cha chs cbe ctr cgl cgh cll clh cta cme cps cwh cal cah) (some (.int rr)) := by
  refine MT.go (own := RX8) [(0, .ref (g 28)), (1, .int p1)] (by decide) rfl (Nat.le_of_ble_eq_true rfl) rfl (fun p l e s m args below meth c A Q C hQ => ?_)
  unfold X8_end at hf
  refine jIloadn C dX8_end_0 rfl 1 rfl ?_
  refine jIfLt C 15 dX8_end_1 (by decide) (fun c1 => ?_) (fun c1 => ?_)
  · replace hf := itp hf c1
    refine jIconst C (-1 : Int32) dX8_end_15 ki_m1 ?_
    cases hf
    exact jEndI C hQ rfl dX8_end_16
  · replace hf := itn hf c1
    refine jIloadn C dX8_end_4 rfl 1 rfl ?_
    refine jAloadn C dX8_end_5 rfl 0 rfl ?_
    refine gf_RX8_33 C dX8_end_6 ?_
    refine gf_RX8_73 C dX8_end_9 ?_
    refine jCmpLe C 17 dX8_end_12 (by decide) (fun c2 => ?_) (fun c2 => ?_)
    · replace hf := itp hf c2
      refine jAloadn C dX8_end_17 rfl 0 rfl ?_
      refine gf_RX8_33 C dX8_end_18 ?_
      refine jIloadn C dX8_end_21 rfl 1 rfl ?_
      refine pf_RX8_73 C dX8_end_22 ?_
      refine jIloadn C dX8_end_25 rfl 1 rfl ?_
      cases hf
      exact jEndI C hQ rfl dX8_end_26
    · replace hf := itn hf c2
      refine jIconst C (-1 : Int32) dX8_end_15 ki_m1 ?_
      cases hf
      exact jEndI C hQ rfl dX8_end_16
noncomputable def X8_isSlot (p0 : Int32) : Option Int32 := (if p0 < (0 : Int32) then some (0 : Int32) else (if (3 : Int32) ≤ p0 then some (0 : Int32) else some (1 : Int32)))
set_option maxHeartbeats 4000000 in
set_option maxRecDepth 20000 in
theorem X8_isSlot_ok {D : va_G} {cy : Nat → ClassId} {G : Nat → Nat} {ws : va_W} {p0 : Int32} {rr : Int32}  (hf : X8_isSlot p0 = some rr) : MT yX8_isSlot cX8_isSlot 1 (some .boolean) 0 [.int p0] D cy G ws ws (some (.int rr)) := by
  refine MT.go (own := RX8) [(0, .int p0)] (by decide) rfl (Nat.le_of_ble_eq_true rfl) rfl (fun p l e s m args below meth c A Q C hQ => ?_)
  unfold X8_isSlot at hf
  refine jIloadn C dX8_isSlot_0 rfl 0 rfl ?_
  refine jIfLt C 13 dX8_isSlot_1 (by decide) (fun c1 => ?_) (fun c1 => ?_)
  · replace hf := itp hf c1
    refine jIconst C (0 : Int32) dX8_isSlot_13 ki_0 ?_
    cases hf
    exact jEndIZ C hQ rfl nar_z0 dX8_isSlot_14
  · replace hf := itn hf c1
    refine jIloadn C dX8_isSlot_4 rfl 0 rfl ?_
    refine jIconst C (3 : Int32) dX8_isSlot_5 ki_3 ?_
    refine jCmpGe C 13 dX8_isSlot_6 (by decide) (fun c2 => ?_) (fun c2 => ?_)
    · replace hf := itp hf c2
      refine jIconst C (0 : Int32) dX8_isSlot_13 ki_0 ?_
      cases hf
      exact jEndIZ C hQ rfl nar_z0 dX8_isSlot_14
    · replace hf := itn hf c2
      refine jIconst C (1 : Int32) dX8_isSlot_9 ki_1 ?_
      refine jGoto C 14 dX8_isSlot_10 (by decide) ?_
      cases hf
      exact jEndIZ C hQ rfl nar_z1 dX8_isSlot_14
noncomputable def X8_comesInto (cP : Nat → Int32) (cLo : Nat → Int64) (cHi : Nat → Int64) (cso : Nat → Int32) (cha : Int32) (chs : Int32) (p1 : Int32) (p2 : Nat) : Option (Int32 × (Nat → Int32) × (Nat → Int64) × (Nat → Int64) × (Nat → Int32) × Int32 × Int32) := gin p1 3 (bd1 (X0_isSameAs cP cLo cHi (p1.toNatClampNeg) p2) (fun q2 => (if q2 = (0 : Int32) then bd6 (X1_remember cP cLo cHi cso cha chs p1 (p1.toNatClampNeg)) (fun cP_7 cLo_8 cHi_9 cso_10 cha_11 chs_12 => bd3 (X0_become cP_7 cLo_8 cHi_9 (p1.toNatClampNeg) p2) (fun cP_14 cLo_15 cHi_16 => bd1 (X0_size cLo_15 cHi_16 p2) (fun q18 => some (q18, cP_14, cLo_15, cHi_16, cso_10, cha_11, chs_12)))) else bd1 (X0_size cLo cHi p2) (fun q5 => some (q5, cP, cLo, cHi, cso, cha, chs)))))
set_option maxHeartbeats 4000000 in
set_option maxRecDepth 20000 in
theorem X8_comesInto_ok {p1 : Int32} {p2 : Nat} {rr : Int32} {ocP : Nat → Int32} {ocLo : Nat → Int64} {ocHi : Nat → Int64} {ocso : Nat → Int32} {ocha : Int32} {ochs : Int32} (hp2 : p2 < 28) (hf : X8_comesInto cP cLo cHi cso cha chs p1 p2 = some (rr, ocP, ocLo, ocHi, ocso, ocha, ochs)) : MT yX8_comesInto cX8_comesInto 4 (some .int) 2 [.ref (g 28), .int p1, .ref (g p2)] D cy G (cw g cy cP cLo cHi cpl ctb ctl ctf ctp ctk cts cth cob col cso cha chs cbe ctr cgl cgh cll clh cta cme cps cwh cal cah) (cw g cy ocP ocLo ocHi cpl ctb ctl ctf ctp ctk cts cth cob col ocso ocha ochs cbe ctr cgl cgh cll clh cta cme cps cwh cal cah) (some (.int rr)) := by
  refine MT.go (own := RX8) [(0, .ref (g 28)), (1, .int p1), (2, .ref (g p2))] (by decide) rfl (Nat.le_of_ble_eq_true rfl) rfl (fun p l e s m args below meth c A Q C hQ => ?_)
  unfold X8_comesInto at hf
  refine jAloadn C dX8_comesInto_0 rfl 0 rfl ?_
  refine gf_RX8_11 C dX8_comesInto_1 ?_
  refine jIloadn C dX8_comesInto_4 rfl 1 rfl ?_
  obtain ⟨z1, hf⟩ := gin_some hf
  refine rl_29 C z1 dX8_comesInto_5 ?_
  refine jAstoren C dX8_comesInto_6 rfl (Nat.le_of_ble_eq_true rfl) [(3, .ref (g (p1.toNatClampNeg))), (0, .ref (g 28)), (1, .int p1), (2, .ref (g p2))] rfl ?_
  refine jAloadn C dX8_comesInto_7 rfl 0 rfl ?_
  refine jAloadn C dX8_comesInto_8 rfl 3 rfl ?_
  obtain ⟨q2, e3, hf⟩ := bd1_some hf
  refine jVI C (X0_isSameAs_ok (ix3 z1) hp2 e3) vb_X0_isSameAs mk_RX8_337 rfl (rcF (ix3 z1)) ⟨Nat.le_of_ble_eq_true rfl, Nat.le_of_ble_eq_true rfl⟩ rfl (Nat.le_of_ble_eq_true rfl) dX8_comesInto_9 ?_
  refine jIfNe C 29 dX8_comesInto_12 (by decide) (fun c4 => ?_) (fun c4 => ?_)
  · replace hf := itn hf c4
    refine jAloadn C dX8_comesInto_29 rfl 3 rfl ?_
    obtain ⟨q5, e6, hf⟩ := bd1_some hf
    refine jVI C (X0_size_ok hp2 e6) vb_X0_size mk_RX8_236 rfl (rcF hp2) ⟨Nat.le_of_ble_eq_true rfl, Nat.le_of_ble_eq_true rfl⟩ rfl (Nat.le_of_ble_eq_true rfl) dX8_comesInto_30 ?_
    cases hf
    exact jEndI C hQ rfl dX8_comesInto_33
  · replace hf := itp hf c4
    refine jAloadn C dX8_comesInto_15 rfl 1 rfl ?_
    refine gf_RX8_47 C dX8_comesInto_16 ?_
    refine jIloadn C dX8_comesInto_19 rfl 2 rfl ?_
    refine jAloadn C dX8_comesInto_20 rfl 0 rfl ?_
    obtain ⟨cP_7, cLo_8, cHi_9, cso_10, cha_11, chs_12, e13, hf⟩ := bd6_some hf
    refine jVV C (X1_remember_ok (ix3 z1) e13) vb_X1_remember mk_RX8_340 rfl rc35 ⟨Nat.le_of_ble_eq_true rfl, Nat.le_of_ble_eq_true rfl⟩ rfl (Nat.le_of_ble_eq_true rfl) dX8_comesInto_21 ?_
    refine jAloadn C dX8_comesInto_24 rfl 0 rfl ?_
    refine jAloadn C dX8_comesInto_25 rfl 3 rfl ?_
    obtain ⟨cP_14, cLo_15, cHi_16, e17, hf⟩ := bd3_some hf
    refine jVV C (X0_become_ok (ix3 z1) hp2 e17) vb_X0_become mk_RX8_152 rfl (rcF (ix3 z1)) ⟨Nat.le_of_ble_eq_true rfl, Nat.le_of_ble_eq_true rfl⟩ rfl (Nat.le_of_ble_eq_true rfl) dX8_comesInto_26 ?_
    refine jAloadn C dX8_comesInto_29 rfl 3 rfl ?_
    obtain ⟨q18, e19, hf⟩ := bd1_some hf
    refine jVI C (X0_size_ok hp2 e19) vb_X0_size mk_RX8_236 rfl (rcF hp2) ⟨Nat.le_of_ble_eq_true rfl, Nat.le_of_ble_eq_true rfl⟩ rfl (Nat.le_of_ble_eq_true rfl) dX8_comesInto_30 ?_
    cases hf
    exact jEndI C hQ rfl dX8_comesInto_33
noncomputable def X8_told (cP : Nat → Int32) (cLo : Nat → Int64) (cHi : Nat → Int64) (ctb : Nat → Int32) (ctl : Int32) (ctf : Int32) (ctp : Int32) (ctk : Int32) (cts : Int32) (cth : Int32) (cso : Nat → Int32) (cha : Int32) (chs : Int32) (p1 : Int32) : Option (Int32 × (Nat → Int32) × (Nat → Int64) × (Nat → Int64) × Int32 × Int32 × Int32 × Int32 × Int32 × Int32 × (Nat → Int32) × Int32 × Int32) := bd1 (X8_isSlot p1) (fun q1 => (if q1 = (0 : Int32) then some ((-2 : Int32), cP, cLo, cHi, ctl, ctf, ctp, ctk, cts, cth, cso, cha, chs) else bd9 (X6_read cP cLo cHi ctb ctl 3) (fun q4 cP_5 cLo_6 cHi_7 ctf_8 ctp_9 ctk_10 cts_11 cth_12 => (if q4 = (0 : Int32) then some ((-4 : Int32), cP_5, cLo_6, cHi_7, (0 : Int32), ctf_8, ctp_9, ctk_10, cts_11, cth_12, cso, cha, chs) else bd7 (X8_comesInto cP_5 cLo_6 cHi_7 cso cha chs p1 3) (fun q15 cP_16 cLo_17 cHi_18 cso_19 cha_20 chs_21 => some (q15, cP_16, cLo_17, cHi_18, (0 : Int32), ctf_8, ctp_9, ctk_10, cts_11, cth_12, cso_19, cha_20, chs_21))))))
set_option maxHeartbeats 4000000 in
set_option maxRecDepth 20000 in
theorem X8_told_ok {p1 : Int32} {rr : Int32} {ocP : Nat → Int32} {ocLo : Nat → Int64} {ocHi : Nat → Int64} {octl : Int32} {octf : Int32} {octp : Int32} {octk : Int32} {octs : Int32} {octh : Int32} {ocso : Nat → Int32} {ocha : Int32} {ochs : Int32}  (hf : X8_told cP cLo cHi ctb ctl ctf ctp ctk cts cth cso cha chs p1 = some (rr, ocP, ocLo, ocHi, octl, octf, octp, octk, octs, octh, ocso, ocha, ochs)) : MT yX8_told cX8_told 3 (some .int) 8 [.ref (g 28), .int p1] D cy G (cw g cy cP cLo cHi cpl ctb ctl ctf ctp ctk cts cth cob col cso cha chs cbe ctr cgl cgh cll clh cta cme cps cwh cal cah) (cw g cy ocP ocLo ocHi cpl ctb octl octf octp octk octs octh cob col ocso ocha ochs cbe ctr cgl cgh cll clh cta cme cps cwh cal cah) (some (.int rr)) := by
  refine MT.go (own := RX8) [(0, .ref (g 28)), (1, .int p1)] (by decide) rfl (Nat.le_of_ble_eq_true rfl) rfl (fun p l e s m args below meth c A Q C hQ => ?_)
  unfold X8_told at hf
  refine jIloadn C dX8_told_0 rfl 1 rfl ?_
  obtain ⟨q1, e2, hf⟩ := bd1_some hf
  refine jSI C (X8_isSlot_ok  e2) sb_X8_isSlot mk_RX8_77 rfl ⟨Nat.le_of_ble_eq_true rfl, Nat.le_of_ble_eq_true rfl⟩ rfl (Nat.le_of_ble_eq_true rfl) dX8_told_1 ?_
  refine jIfNe C 10 dX8_told_4 (by decide) (fun c3 => ?_) (fun c3 => ?_)
  · replace hf := itn hf c3
    refine jAloadn C dX8_told_10 rfl 0 rfl ?_
    refine gf_RX8_33 C dX8_told_11 ?_
    refine jAloadn C dX8_told_14 rfl 0 rfl ?_
    refine gf_RX8_16 C dX8_told_15 ?_
    obtain ⟨q4, cP_5, cLo_6, cHi_7, ctf_8, ctp_9, ctk_10, cts_11, cth_12, e13, hf⟩ := bd9_some hf
    refine jVI C (X6_read_ok (by decide) e13) vb_X6_read mk_RX8_80 rfl rc31 ⟨Nat.le_of_ble_eq_true rfl, Nat.le_of_ble_eq_true rfl⟩ rfl (Nat.le_of_ble_eq_true rfl) dX8_told_18 ?_
    refine jIstoren C dX8_told_21 rfl (Nat.le_of_ble_eq_true rfl) [(2, .int q4), (0, .ref (g 28)), (1, .int p1)] rfl ?_
    refine jAloadn C dX8_told_22 rfl 1 rfl ?_
    refine gf_RX8_33 C dX8_told_23 ?_
    refine jIconst C (0 : Int32) dX8_told_26 ki_0 ?_
    refine pf_RX8_73 C dX8_told_27 ?_
    refine jIloadn C dX8_told_30 rfl 0 rfl ?_
    refine jIfEq C 46 dX8_told_31 (by decide) (fun c14 => ?_) (fun c14 => ?_)
    · replace hf := itp hf c14
      refine jBipush C (-4 : Int32) dX8_told_46 kb_m4 ?_
      cases hf
      exact jEndI C hQ rfl dX8_told_48
    · replace hf := itn hf c14
      refine jAloadn C dX8_told_34 rfl 1 rfl ?_
      refine jIloadn C dX8_told_35 rfl 2 rfl ?_
      refine jAloadn C dX8_told_36 rfl 1 rfl ?_
      refine gf_RX8_16 C dX8_told_37 ?_
      obtain ⟨q15, cP_16, cLo_17, cHi_18, cso_19, cha_20, chs_21, e22, hf⟩ := bd7_some hf
      refine jVI C (X8_comesInto_ok (by decide) e22) vb_X8_comesInto mk_RX8_84 rfl rc28 ⟨Nat.le_of_ble_eq_true rfl, Nat.le_of_ble_eq_true rfl⟩ rfl (Nat.le_of_ble_eq_true rfl) dX8_told_40 ?_
      refine jGoto C 48 dX8_told_43 (by decide) ?_
      cases hf
      exact jEndI C hQ rfl dX8_told_48
  · replace hf := itp hf c3
    refine jBipush C (-2 : Int32) dX8_told_7 kb_m2 ?_
    cases hf
    exact jEndI C hQ rfl dX8_told_9
noncomputable def X8_fault (ctf : Int32) (ctp : Int32) (p1 : Int32) : Option Int32 := (if p1 = (0 : Int32) then some ctf else (if p1 = (1 : Int32) then some ctp else some (-1 : Int32)))
set_option maxHeartbeats 4000000 in
set_option maxRecDepth 20000 in
theorem X8_fault_ok {p1 : Int32} {rr : Int32}  (hf : X8_fault ctf ctp p1 = some rr) : MT yX8_fault cX8_fault 2 (some .int) 0 [.ref (g 28), .int p1] D cy G (cw g cy cP cLo cHi cpl ctb ctl ctf ctp ctk cts cth cob col cso cha chs cbe ctr cgl cgh cll clh cta cme cps cwh cal cah) (cw g cy cP cLo cHi cpl ctb ctl ctf ctp ctk cts cth cob col cso cha chs cbe ctr cgl cgh cll clh cta cme cps cwh cal cah) (some (.int rr)) := by
  refine MT.go (own := RX8) [(0, .ref (g 28)), (1, .int p1)] (by decide) rfl (Nat.le_of_ble_eq_true rfl) rfl (fun p l e s m args below meth c A Q C hQ => ?_)
  unfold X8_fault at hf
  refine jIloadn C dX8_fault_0 rfl 1 rfl ?_
  refine jIfNe C 12 dX8_fault_1 (by decide) (fun c1 => ?_) (fun c1 => ?_)
  · replace hf := itn hf c1
    refine jIloadn C dX8_fault_12 rfl 1 rfl ?_
    refine jIconst C (1 : Int32) dX8_fault_13 ki_1 ?_
    refine jCmpNe C 27 dX8_fault_14 (by decide) (fun c2 => ?_) (fun c2 => ?_)
    · replace hf := itn hf c2
      refine jIconst C (-1 : Int32) dX8_fault_27 ki_m1 ?_
      cases hf
      exact jEndI C hQ rfl dX8_fault_28
    · replace hf := itp hf c2
      refine jAloadn C dX8_fault_17 rfl 0 rfl ?_
      refine gf_RX8_33 C dX8_fault_18 ?_
      refine gf_RX8_91 C dX8_fault_21 ?_
      refine jGoto C 28 dX8_fault_24 (by decide) ?_
      cases hf
      exact jEndI C hQ rfl dX8_fault_28
  · replace hf := itp hf c1
    refine jAloadn C dX8_fault_4 rfl 0 rfl ?_
    refine gf_RX8_33 C dX8_fault_5 ?_
    refine gf_RX8_88 C dX8_fault_8 ?_
    cases hf
    exact jEndI C hQ rfl dX8_fault_11
noncomputable def X8_usedSlots_h4 (cP : Nat → Int32) (r4 : Int32 → Int32 → Option Int32) (x1_1 : Int32) (x2_2 : Int32) : Option Int32 := (if (3 : Int32) ≤ x2_2 then some x1_1 else gin x2_2 3 (bd1 (X0_isThere cP (x2_2.toNatClampNeg)) (fun q7 => (if q7 = (0 : Int32) then r4 x1_1 (x2_2 + (1 : Int32)) else r4 (x1_1 ||| ((1 : Int32) <<< (x2_2 &&& 31))) (x2_2 + (1 : Int32))))))
noncomputable def X8_usedSlots (cP : Nat → Int32) : Option Int32 := lfp2 (X8_usedSlots_h4 cP) (0 : Int32) (0 : Int32)
set_option maxHeartbeats 4000000 in
set_option maxRecDepth 20000 in
theorem X8_usedSlots_ok  {rr : Int32}  (hf : X8_usedSlots cP = some rr) : MT yX8_usedSlots cX8_usedSlots 3 (some .int) 1 [.ref (g 28)] D cy G (cw g cy cP cLo cHi cpl ctb ctl ctf ctp ctk cts cth cob col cso cha chs cbe ctr cgl cgh cll clh cta cme cps cwh cal cah) (cw g cy cP cLo cHi cpl ctb ctl ctf ctp ctk cts cth cob col cso cha chs cbe ctr cgl cgh cll clh cta cme cps cwh cal cah) (some (.int rr)) := by
  refine MT.go (own := RX8) [(0, .ref (g 28))] (by decide) rfl (Nat.le_of_ble_eq_true rfl) rfl (fun p l e s m args below meth c A Q C hQ => ?_)
  unfold X8_usedSlots at hf
  refine jIconst C (0 : Int32) dX8_usedSlots_0 ki_0 ?_
  refine jIstoren C dX8_usedSlots_1 rfl (Nat.le_of_ble_eq_true rfl) [(1, .int (0 : Int32)), (0, .ref (g 28))] rfl ?_
  refine jIconst C (0 : Int32) dX8_usedSlots_2 ki_0 ?_
  refine jIstoren C dX8_usedSlots_3 rfl (Nat.le_of_ble_eq_true rfl) [(2, .int (0 : Int32)), (1, .int (0 : Int32)), (0, .ref (g 28))] rfl ?_
  have hL3 : ∀ (x1_1 : Int32) (x2_2 : Int32), lfp2 (X8_usedSlots_h4 cP) x1_1 x2_2 = some rr → J p l e (rmk 1) s m args below meth c D A Q 3 (cw g cy cP cLo cHi cpl ctb ctl ctf ctp ctk cts cth cob col cso cha chs cbe ctr cgl cgh cll clh cta cme cps cwh cal cah) 4 [(0, .ref (g 28)), (1, .int x1_1), (2, .int x2_2)] [] := by
    intro x1_1 x2_2 hw
    refine lfp2_walk (P := fun x1_1 x2_2 => J p l e (rmk 1) s m args below meth c D A Q 3 (cw g cy cP cLo cHi cpl ctb ctl ctf ctp ctk cts cth cob col cso cha chs cbe ctr cgl cgh cll clh cta cme cps cwh cal cah) 4 [(0, .ref (g 28)), (1, .int x1_1), (2, .int x2_2)] []) ?_ hw
    intro r4 ir4 x1_1 x2_2 hf
    unfold X8_usedSlots_h4 at hf
    refine jIloadn C dX8_usedSlots_4 rfl 2 rfl ?_
    refine jIconst C (3 : Int32) dX8_usedSlots_5 ki_3 ?_
    refine jCmpGe C 33 dX8_usedSlots_6 (by decide) (fun c5 => ?_) (fun c5 => ?_)
    · replace hf := itp hf c5
      refine jIloadn C dX8_usedSlots_33 rfl 1 rfl ?_
      cases hf
      exact jEndI C hQ rfl dX8_usedSlots_34
    · replace hf := itn hf c5
      refine jAloadn C dX8_usedSlots_9 rfl 0 rfl ?_
      refine gf_RX8_11 C dX8_usedSlots_10 ?_
      refine jIloadn C dX8_usedSlots_13 rfl 2 rfl ?_
      obtain ⟨z6, hf⟩ := gin_some hf
      refine rl_29 C z6 dX8_usedSlots_14 ?_
      obtain ⟨q7, e8, hf⟩ := bd1_some hf
      refine jVI C (X0_isThere_ok (ix3 z6) e8) vb_X0_isThere mk_RX8_334 rfl (rcF (ix3 z6)) ⟨Nat.le_of_ble_eq_true rfl, Nat.le_of_ble_eq_true rfl⟩ rfl (Nat.le_of_ble_eq_true rfl) dX8_usedSlots_15 ?_
      refine jIfEq C 27 dX8_usedSlots_18 (by decide) (fun c9 => ?_) (fun c9 => ?_)
      · replace hf := itp hf c9
        refine jIinc C (x2_2 + (1 : Int32)) dX8_usedSlots_27 2 rfl (congrArg (fun z : Int32 => x2_2 + z) ki_1) (Nat.le_of_ble_eq_true rfl) [(2, .int (x2_2 + (1 : Int32))), (0, .ref (g 28)), (1, .int x1_1)] rfl ?_
        refine jGoto C 4 dX8_usedSlots_30 (by decide) ?_
        refine jSub [1, 2, 0] rfl ?_
        exact ir4 x1_1 (x2_2 + (1 : Int32)) hf
      · replace hf := itn hf c9
        refine jIloadn C dX8_usedSlots_21 rfl 1 rfl ?_
        refine jIconst C (1 : Int32) dX8_usedSlots_22 ki_1 ?_
        refine jIloadn C dX8_usedSlots_23 rfl 2 rfl ?_
        refine jIshl C dX8_usedSlots_24 ?_
        refine jIor C dX8_usedSlots_25 ?_
        refine jIstoren C dX8_usedSlots_26 rfl (Nat.le_of_ble_eq_true rfl) [(1, .int (x1_1 ||| ((1 : Int32) <<< (x2_2 &&& 31)))), (0, .ref (g 28)), (2, .int x2_2)] rfl ?_
        refine jIinc C (x2_2 + (1 : Int32)) dX8_usedSlots_27 2 rfl (congrArg (fun z : Int32 => x2_2 + z) ki_1) (Nat.le_of_ble_eq_true rfl) [(2, .int (x2_2 + (1 : Int32))), (1, .int (x1_1 ||| ((1 : Int32) <<< (x2_2 &&& 31)))), (0, .ref (g 28))] rfl ?_
        refine jGoto C 4 dX8_usedSlots_30 (by decide) ?_
        refine jSub [2, 1, 0] rfl ?_
        exact ir4 (x1_1 ||| ((1 : Int32) <<< (x2_2 &&& 31))) (x2_2 + (1 : Int32)) hf
  refine jSub [2, 1, 0] rfl ?_
  exact hL3 (0 : Int32) (0 : Int32) hf
noncomputable def X8_count (cP : Nat → Int32) (ctl : Int32) (col : Int32) (chs : Int32) (p1 : Int32) : Option Int32 := (if p1 = (0 : Int32) then bd1 (X8_usedSlots cP) (fun q2 => some q2) else (if p1 = (1 : Int32) then some chs else (if p1 = (2 : Int32) then some ctl else (if p1 = (3 : Int32) then some col else some (-1 : Int32)))))
set_option maxHeartbeats 4000000 in
set_option maxRecDepth 20000 in
theorem X8_count_ok {p1 : Int32} {rr : Int32}  (hf : X8_count cP ctl col chs p1 = some rr) : MT yX8_count cX8_count 2 (some .int) 2 [.ref (g 28), .int p1] D cy G (cw g cy cP cLo cHi cpl ctb ctl ctf ctp ctk cts cth cob col cso cha chs cbe ctr cgl cgh cll clh cta cme cps cwh cal cah) (cw g cy cP cLo cHi cpl ctb ctl ctf ctp ctk cts cth cob col cso cha chs cbe ctr cgl cgh cll clh cta cme cps cwh cal cah) (some (.int rr)) := by
  refine MT.go (own := RX8) [(0, .ref (g 28)), (1, .int p1)] (by decide) rfl (Nat.le_of_ble_eq_true rfl) rfl (fun p l e s m args below meth c A Q C hQ => ?_)
  unfold X8_count at hf
  refine jIloadn C dX8_count_0 rfl 1 rfl ?_
  by_cases c1 : p1 = (0 : Int32)
  · replace hf := itp hf c1
    refine jTabIn C 32 dX8_count_1 (by rw [c1]; decide) (by rw [c1]; decide) (by rw [c1]; rfl) (by decide) ?_
    refine jAloadn C dX8_count_32 rfl 0 rfl ?_
    obtain ⟨q2, e3, hf⟩ := bd1_some hf
    refine jVI C (X8_usedSlots_ok  e3) vb_X8_usedSlots mk_RX8_94 rfl rc28 ⟨Nat.le_of_ble_eq_true rfl, Nat.le_of_ble_eq_true rfl⟩ rfl (Nat.le_of_ble_eq_true rfl) dX8_count_33 ?_
    cases hf
    exact jEndI C hQ rfl dX8_count_36
  replace hf := itn hf c1
  by_cases c4 : p1 = (1 : Int32)
  · replace hf := itp hf c4
    refine jTabIn C 37 dX8_count_1 (by rw [c4]; decide) (by rw [c4]; decide) (by rw [c4]; rfl) (by decide) ?_
    refine jAloadn C dX8_count_37 rfl 0 rfl ?_
    refine gf_RX8_47 C dX8_count_38 ?_
    refine gf_RX8_98 C dX8_count_41 ?_
    cases hf
    exact jEndI C hQ rfl dX8_count_44
  replace hf := itn hf c4
  by_cases c5 : p1 = (2 : Int32)
  · replace hf := itp hf c5
    refine jTabIn C 45 dX8_count_1 (by rw [c5]; decide) (by rw [c5]; decide) (by rw [c5]; rfl) (by decide) ?_
    refine jAloadn C dX8_count_45 rfl 0 rfl ?_
    refine gf_RX8_33 C dX8_count_46 ?_
    refine gf_RX8_73 C dX8_count_49 ?_
    cases hf
    exact jEndI C hQ rfl dX8_count_52
  replace hf := itn hf c5
  by_cases c6 : p1 = (3 : Int32)
  · replace hf := itp hf c6
    refine jTabIn C 53 dX8_count_1 (by rw [c6]; decide) (by rw [c6]; decide) (by rw [c6]; rfl) (by decide) ?_
    refine jAloadn C dX8_count_53 rfl 0 rfl ?_
    refine gf_RX8_40 C dX8_count_54 ?_
    refine gf_RX8_101 C dX8_count_57 ?_
    cases hf
    exact jEndI C hQ rfl dX8_count_60
  replace hf := itn hf c6
  refine jTabOut C 61 dX8_count_1 (by have ac1 := lv_neT (a := 0) c1 (by decide); have ac4 := lv_neT (a := 1) c4 (by decide); have ac5 := lv_neT (a := 2) c5 (by decide); have ac6 := lv_neT (a := 3) c6 (by decide); omega) (by decide) ?_
  refine jIconst C (-1 : Int32) dX8_count_61 ki_m1 ?_
  cases hf
  exact jEndI C hQ rfl dX8_count_62
noncomputable def X8_familyAt (cP : Nat → Int32) (p1 : Int32) : Option (Option Nat) := bd1 (X8_isSlot p1) (fun q1 => (if q1 = (0 : Int32) then some none else gin p1 3 (bd1 (X0_isThere cP (p1.toNatClampNeg)) (fun q5 => (if q5 = (0 : Int32) then some none else some (some (p1.toNatClampNeg)))))))
set_option maxHeartbeats 4000000 in
set_option maxRecDepth 20000 in
theorem X8_familyAt_ok {p1 : Int32} {rr : Option Nat}  (hf : X8_familyAt cP p1 = some rr) : MT yX8_familyAt cX8_familyAt 3 (some (.object "MeetingSets$Family")) 1 [.ref (g 28), .int p1] D cy G (cw g cy cP cLo cHi cpl ctb ctl ctf ctp ctk cts cth cob col cso cha chs cbe ctr cgl cgh cll clh cta cme cps cwh cal cah) (cw g cy cP cLo cHi cpl ctb ctl ctf ctp ctk cts cth cob col cso cha chs cbe ctr cgl cgh cll clh cta cme cps cwh cal cah) (some (rv g rr)) := by
  refine MT.go (own := RX8) [(0, .ref (g 28)), (1, .int p1)] (by decide) rfl (Nat.le_of_ble_eq_true rfl) rfl (fun p l e s m args below meth c A Q C hQ => ?_)
  unfold X8_familyAt at hf
  refine jIloadn C dX8_familyAt_0 rfl 1 rfl ?_
  obtain ⟨q1, e2, hf⟩ := bd1_some hf
  refine jSI C (X8_isSlot_ok  e2) sb_X8_isSlot mk_RX8_77 rfl ⟨Nat.le_of_ble_eq_true rfl, Nat.le_of_ble_eq_true rfl⟩ rfl (Nat.le_of_ble_eq_true rfl) dX8_familyAt_1 ?_
  refine jIfNe C 9 dX8_familyAt_4 (by decide) (fun c3 => ?_) (fun c3 => ?_)
  · replace hf := itn hf c3
    refine jAloadn C dX8_familyAt_9 rfl 0 rfl ?_
    refine gf_RX8_11 C dX8_familyAt_10 ?_
    refine jIloadn C dX8_familyAt_13 rfl 1 rfl ?_
    obtain ⟨z4, hf⟩ := gin_some hf
    refine rl_29 C z4 dX8_familyAt_14 ?_
    refine jAstoren C dX8_familyAt_15 rfl (Nat.le_of_ble_eq_true rfl) [(2, .ref (g (p1.toNatClampNeg))), (0, .ref (g 28)), (1, .int p1)] rfl ?_
    refine jAloadn C dX8_familyAt_16 rfl 0 rfl ?_
    obtain ⟨q5, e6, hf⟩ := bd1_some hf
    refine jVI C (X0_isThere_ok (ix3 z4) e6) vb_X0_isThere mk_RX8_334 rfl (rcF (ix3 z4)) ⟨Nat.le_of_ble_eq_true rfl, Nat.le_of_ble_eq_true rfl⟩ rfl (Nat.le_of_ble_eq_true rfl) dX8_familyAt_17 ?_
    refine jIfEq C 27 dX8_familyAt_20 (by decide) (fun c7 => ?_) (fun c7 => ?_)
    · replace hf := itp hf c7
      refine jNull C dX8_familyAt_27 ?_
      cases hf
      exact jEndA C hQ rfl (Or.inl ⟨_, rfl⟩) (Or.inl rfl) dX8_familyAt_28
    · replace hf := itn hf c7
      refine jAloadn C dX8_familyAt_23 rfl 0 rfl ?_
      refine jGoto C 28 dX8_familyAt_24 (by decide) ?_
      cases hf
      exact jEndA C hQ rfl (Or.inl ⟨_, rfl⟩) (Or.inr ⟨_, rfl⟩) dX8_familyAt_28
  · replace hf := itp hf c3
    refine jNull C dX8_familyAt_7 ?_
    cases hf
    exact jEndA C hQ rfl (Or.inl ⟨_, rfl⟩) (Or.inl rfl) dX8_familyAt_8
theorem X8_familyAt_lt {p1 : Int32} {i : Nat} (hf : X8_familyAt cP p1 = some (some i)) : i < 28 := by
  unfold X8_familyAt at hf
  obtain ⟨q, e, hf⟩ := bd1_some hf
  by_cases c1 : q = 0
  · replace hf := itp hf c1
    cases hf
  · replace hf := itn hf c1
    obtain ⟨z, hf⟩ := gin_some hf
    obtain ⟨q2, e2, hf⟩ := bd1_some hf
    by_cases c2 : q2 = 0
    · replace hf := itp hf c2
      cases hf
    · replace hf := itn hf c2
      cases hf
      exact ix3 z
noncomputable def X8_isLookable (p0 : Int32) : Option Int32 := (if p0 < (0 : Int32) then some (0 : Int32) else (if (6 : Int32) < p0 then some (0 : Int32) else some (1 : Int32)))
set_option maxHeartbeats 4000000 in
set_option maxRecDepth 20000 in
theorem X8_isLookable_ok {D : va_G} {cy : Nat → ClassId} {G : Nat → Nat} {ws : va_W} {p0 : Int32} {rr : Int32}  (hf : X8_isLookable p0 = some rr) : MT yX8_isLookable cX8_isLookable 1 (some .boolean) 0 [.int p0] D cy G ws ws (some (.int rr)) := by
  refine MT.go (own := RX8) [(0, .int p0)] (by decide) rfl (Nat.le_of_ble_eq_true rfl) rfl (fun p l e s m args below meth c A Q C hQ => ?_)
  unfold X8_isLookable at hf
  refine jIloadn C dX8_isLookable_0 rfl 0 rfl ?_
  refine jIfLt C 14 dX8_isLookable_1 (by decide) (fun c1 => ?_) (fun c1 => ?_)
  · replace hf := itp hf c1
    refine jIconst C (0 : Int32) dX8_isLookable_14 ki_0 ?_
    cases hf
    exact jEndIZ C hQ rfl nar_z0 dX8_isLookable_15
  · replace hf := itn hf c1
    refine jIloadn C dX8_isLookable_4 rfl 0 rfl ?_
    refine jBipush C (6 : Int32) dX8_isLookable_5 kb_6 ?_
    refine jCmpGt C 14 dX8_isLookable_7 (by decide) (fun c2 => ?_) (fun c2 => ?_)
    · replace hf := itp hf c2
      refine jIconst C (0 : Int32) dX8_isLookable_14 ki_0 ?_
      cases hf
      exact jEndIZ C hQ rfl nar_z0 dX8_isLookable_15
    · replace hf := itn hf c2
      refine jIconst C (1 : Int32) dX8_isLookable_10 ki_1 ?_
      refine jGoto C 15 dX8_isLookable_11 (by decide) ?_
      cases hf
      exact jEndIZ C hQ rfl nar_z1 dX8_isLookable_15
noncomputable def X8_findApart_h5 (p1 : Nat) (p2 : Int32) (r7 : Int32 → Int32 → (Nat → Int32) → (Nat → Int64) → (Nat → Int64) → Option (Int32 × (Nat → Int32) × (Nat → Int64) × (Nat → Int64))) (x3_1 : Int32) (x4_2 : Int32) (cP_3 : Nat → Int32) (cLo_4 : Nat → Int64) (cHi_5 : Nat → Int64) : Option (Int32 × (Nat → Int32) × (Nat → Int64) × (Nat → Int64)) := bd1 (X0_span cP_3 p1) (fun q8 => (if q8 ≤ x4_2 then (if p2 = (-1 : Int32) then some (x3_1, cP_3, cLo_4, cHi_5) else some ((-1 : Int32), cP_3, cLo_4, cHi_5)) else bd1 (X0_holds cLo_4 cHi_5 p1 x4_2) (fun q12 => (if q12 = (0 : Int32) then r7 x3_1 (x4_2 + (1 : Int32)) cP_3 cLo_4 cHi_5 else bd3 (X0_become cP_3 cLo_4 cHi_5 3 p1) (fun cP_15 cLo_16 cHi_17 => bd2 (X0_keepSharing cLo_16 cHi_17 3 x4_2 (0 : Int32)) (fun cLo_19 cHi_20 => bd2 (X0_keepBehind cLo_19 cHi_20 3 x4_2) (fun cLo_22 cHi_23 => bd1 (X0_size cLo_22 cHi_23 3) (fun q25 => (if p2 = (-1 : Int32) then r7 (x3_1 + q25) (x4_2 + (1 : Int32)) cP_15 cLo_22 cHi_23 else (if q25 ≤ (p2 - x3_1) then r7 (x3_1 + q25) (x4_2 + (1 : Int32)) cP_15 cLo_22 cHi_23 else bd1 (X0_pick cP_15 cLo_22 cHi_23 3 (p2 - x3_1)) (fun q29 => some ((((1000 : Int32) * x4_2) + q29), cP_15, cLo_22, cHi_23))))))))))))
noncomputable def X8_findApart (cP : Nat → Int32) (cLo : Nat → Int64) (cHi : Nat → Int64) (p1 : Nat) (p2 : Int32) : Option (Int32 × (Nat → Int32) × (Nat → Int64) × (Nat → Int64)) := lfp5 (X8_findApart_h5 p1 p2) (0 : Int32) (0 : Int32) cP cLo cHi
set_option maxHeartbeats 4000000 in
set_option maxRecDepth 20000 in
theorem X8_findApart_ok {p1 : Nat} {p2 : Int32} {rr : Int32} {ocP : Nat → Int32} {ocLo : Nat → Int64} {ocHi : Nat → Int64} (hp1 : p1 < 28) (hf : X8_findApart cP cLo cHi p1 p2 = some (rr, ocP, ocLo, ocHi)) : MT yX8_findApart cX8_findApart 6 (some .int) 2 [.ref (g 28), .ref (g p1), .int p2] D cy G (cw g cy cP cLo cHi cpl ctb ctl ctf ctp ctk cts cth cob col cso cha chs cbe ctr cgl cgh cll clh cta cme cps cwh cal cah) (cw g cy ocP ocLo ocHi cpl ctb ctl ctf ctp ctk cts cth cob col cso cha chs cbe ctr cgl cgh cll clh cta cme cps cwh cal cah) (some (.int rr)) := by
  refine MT.go (own := RX8) [(0, .ref (g 28)), (1, .ref (g p1)), (2, .int p2)] (by decide) rfl (Nat.le_of_ble_eq_true rfl) rfl (fun p l e s m args below meth c A Q C hQ => ?_)
  unfold X8_findApart at hf
  refine jIconst C (0 : Int32) dX8_findApart_0 ki_0 ?_
  refine jIstoren C dX8_findApart_1 rfl (Nat.le_of_ble_eq_true rfl) [(3, .int (0 : Int32)), (0, .ref (g 28)), (1, .ref (g p1)), (2, .int p2)] rfl ?_
  refine jIconst C (0 : Int32) dX8_findApart_2 ki_0 ?_
  refine jIstore C dX8_findApart_3 (Nat.le_of_ble_eq_true rfl) [(4, .int (0 : Int32)), (3, .int (0 : Int32)), (0, .ref (g 28)), (1, .ref (g p1)), (2, .int p2)] rfl ?_
  have hL6 : ∀ (x3_1 : Int32) (x4_2 : Int32) (cP_3 : Nat → Int32) (cLo_4 : Nat → Int64) (cHi_5 : Nat → Int64), lfp5 (X8_findApart_h5 p1 p2) x3_1 x4_2 cP_3 cLo_4 cHi_5 = some (rr, ocP, ocLo, ocHi) → J p l e (rmk 2) s m args below meth c D A Q 6 (cw g cy cP_3 cLo_4 cHi_5 cpl ctb ctl ctf ctp ctk cts cth cob col cso cha chs cbe ctr cgl cgh cll clh cta cme cps cwh cal cah) 5 [(0, .ref (g 28)), (1, .ref (g p1)), (2, .int p2), (3, .int x3_1), (4, .int x4_2)] [] := by
    intro x3_1 x4_2 cP_3 cLo_4 cHi_5 hw
    refine lfp5_walk (P := fun x3_1 x4_2 cP_3 cLo_4 cHi_5 => J p l e (rmk 2) s m args below meth c D A Q 6 (cw g cy cP_3 cLo_4 cHi_5 cpl ctb ctl ctf ctp ctk cts cth cob col cso cha chs cbe ctr cgl cgh cll clh cta cme cps cwh cal cah) 5 [(0, .ref (g 28)), (1, .ref (g p1)), (2, .int p2), (3, .int x3_1), (4, .int x4_2)] []) ?_ hw
    intro r7 ir7 x3_1 x4_2 cP_3 cLo_4 cHi_5 hf
    unfold X8_findApart_h5 at hf
    refine jIload C dX8_findApart_5 4 rfl ?_
    refine jAloadn C dX8_findApart_7 rfl 1 rfl ?_
    obtain ⟨q8, e9, hf⟩ := bd1_some hf
    refine jVI C (X0_span_ok hp1 e9) vb_X0_span mk_RX8_270 rfl (rcF hp1) ⟨Nat.le_of_ble_eq_true rfl, Nat.le_of_ble_eq_true rfl⟩ rfl (Nat.le_of_ble_eq_true rfl) dX8_findApart_8 ?_
    refine jCmpGe C 104 dX8_findApart_11 (by decide) (fun c10 => ?_) (fun c10 => ?_)
    · replace hf := itp hf c10
      refine jIloadn C dX8_findApart_104 rfl 2 rfl ?_
      refine jIconst C (-1 : Int32) dX8_findApart_105 ki_m1 ?_
      refine jCmpNe C 113 dX8_findApart_106 (by decide) (fun c11 => ?_) (fun c11 => ?_)
      · replace hf := itn hf c11
        refine jIconst C (-1 : Int32) dX8_findApart_113 ki_m1 ?_
        cases hf
        exact jEndI C hQ rfl dX8_findApart_114
      · replace hf := itp hf c11
        refine jIloadn C dX8_findApart_109 rfl 3 rfl ?_
        refine jGoto C 114 dX8_findApart_110 (by decide) ?_
        cases hf
        exact jEndI C hQ rfl dX8_findApart_114
    · replace hf := itn hf c10
      refine jAloadn C dX8_findApart_14 rfl 1 rfl ?_
      refine jIload C dX8_findApart_15 4 rfl ?_
      obtain ⟨q12, e13, hf⟩ := bd1_some hf
      refine jVI C (X0_holds_ok hp1 e13) vb_X0_holds mk_RX8_120 rfl (rcF hp1) ⟨Nat.le_of_ble_eq_true rfl, Nat.le_of_ble_eq_true rfl⟩ rfl (Nat.le_of_ble_eq_true rfl) dX8_findApart_17 ?_
      refine jIfNe C 26 dX8_findApart_20 (by decide) (fun c14 => ?_) (fun c14 => ?_)
      · replace hf := itn hf c14
        refine jAloadn C dX8_findApart_26 rfl 0 rfl ?_
        refine gf_RX8_16 C dX8_findApart_27 ?_
        refine jAloadn C dX8_findApart_30 rfl 1 rfl ?_
        obtain ⟨cP_15, cLo_16, cHi_17, e18, hf⟩ := bd3_some hf
        refine jVV C (X0_become_ok (by decide) hp1 e18) vb_X0_become mk_RX8_152 rfl (rcF (by decide)) ⟨Nat.le_of_ble_eq_true rfl, Nat.le_of_ble_eq_true rfl⟩ rfl (Nat.le_of_ble_eq_true rfl) dX8_findApart_31 ?_
        refine jAloadn C dX8_findApart_34 rfl 0 rfl ?_
        refine gf_RX8_16 C dX8_findApart_35 ?_
        refine jIload C dX8_findApart_38 4 rfl ?_
        refine jIconst C (0 : Int32) dX8_findApart_40 ki_0 ?_
        obtain ⟨cLo_19, cHi_20, e21, hf⟩ := bd2_some hf
        refine jVV C (X0_keepSharing_ok (by decide) e21) vb_X0_keepSharing mk_RX8_398 rfl (rcF (by decide)) ⟨Nat.le_of_ble_eq_true rfl, Nat.le_of_ble_eq_true rfl⟩ rfl (Nat.le_of_ble_eq_true rfl) dX8_findApart_41 ?_
        refine jAloadn C dX8_findApart_44 rfl 0 rfl ?_
        refine gf_RX8_16 C dX8_findApart_45 ?_
        refine jIload C dX8_findApart_48 4 rfl ?_
        obtain ⟨cLo_22, cHi_23, e24, hf⟩ := bd2_some hf
        refine jVV C (X0_keepBehind_ok (by decide) e24) vb_X0_keepBehind mk_RX8_402 rfl (rcF (by decide)) ⟨Nat.le_of_ble_eq_true rfl, Nat.le_of_ble_eq_true rfl⟩ rfl (Nat.le_of_ble_eq_true rfl) dX8_findApart_50 ?_
        refine jAloadn C dX8_findApart_53 rfl 0 rfl ?_
        refine gf_RX8_16 C dX8_findApart_54 ?_
        obtain ⟨q25, e26, hf⟩ := bd1_some hf
        refine jVI C (X0_size_ok (by decide) e26) vb_X0_size mk_RX8_236 rfl (rcF (by decide)) ⟨Nat.le_of_ble_eq_true rfl, Nat.le_of_ble_eq_true rfl⟩ rfl (Nat.le_of_ble_eq_true rfl) dX8_findApart_57 ?_
        refine jIstore C dX8_findApart_60 (Nat.le_of_ble_eq_true rfl) [(5, .int q25), (0, .ref (g 28)), (1, .ref (g p1)), (2, .int p2), (3, .int x3_1), (4, .int x4_2)] rfl ?_
        refine jIloadn C dX8_findApart_62 rfl 3 rfl ?_
        refine jIconst C (-1 : Int32) dX8_findApart_63 ki_m1 ?_
        refine jCmpEq C 93 dX8_findApart_64 (by decide) (fun c27 => ?_) (fun c27 => ?_)
        · replace hf := itp hf c27
          refine jIloadn C dX8_findApart_93 rfl 4 rfl ?_
          refine jIload C dX8_findApart_94 0 rfl ?_
          refine jIadd C dX8_findApart_96 ?_
          refine jIstoren C dX8_findApart_97 rfl (Nat.le_of_ble_eq_true rfl) [(3, .int (x3_1 + q25)), (5, .int q25), (0, .ref (g 28)), (1, .ref (g p1)), (2, .int p2), (4, .int x4_2)] rfl ?_
          refine jIinc C (x4_2 + (1 : Int32)) dX8_findApart_98 5 rfl (congrArg (fun z : Int32 => x4_2 + z) ki_1) (Nat.le_of_ble_eq_true rfl) [(4, .int (x4_2 + (1 : Int32))), (3, .int (x3_1 + q25)), (5, .int q25), (0, .ref (g 28)), (1, .ref (g p1)), (2, .int p2)] rfl ?_
          refine jGoto C 5 dX8_findApart_101 (by decide) ?_
          refine jSub [3, 4, 5, 1, 0] rfl ?_
          exact ir7 (x3_1 + q25) (x4_2 + (1 : Int32)) cP_15 cLo_22 cHi_23 hf
        · replace hf := itn hf c27
          refine jIloadn C dX8_findApart_67 rfl 3 rfl ?_
          refine jIloadn C dX8_findApart_68 rfl 4 rfl ?_
          refine jIsub C dX8_findApart_69 ?_
          refine jIload C dX8_findApart_70 0 rfl ?_
          refine jCmpGe C 93 dX8_findApart_72 (by decide) (fun c28 => ?_) (fun c28 => ?_)
          · replace hf := itp hf c28
            refine jIloadn C dX8_findApart_93 rfl 4 rfl ?_
            refine jIload C dX8_findApart_94 0 rfl ?_
            refine jIadd C dX8_findApart_96 ?_
            refine jIstoren C dX8_findApart_97 rfl (Nat.le_of_ble_eq_true rfl) [(3, .int (x3_1 + q25)), (5, .int q25), (0, .ref (g 28)), (1, .ref (g p1)), (2, .int p2), (4, .int x4_2)] rfl ?_
            refine jIinc C (x4_2 + (1 : Int32)) dX8_findApart_98 5 rfl (congrArg (fun z : Int32 => x4_2 + z) ki_1) (Nat.le_of_ble_eq_true rfl) [(4, .int (x4_2 + (1 : Int32))), (3, .int (x3_1 + q25)), (5, .int q25), (0, .ref (g 28)), (1, .ref (g p1)), (2, .int p2)] rfl ?_
            refine jGoto C 5 dX8_findApart_101 (by decide) ?_
            refine jSub [3, 4, 5, 1, 0] rfl ?_
            exact ir7 (x3_1 + q25) (x4_2 + (1 : Int32)) cP_15 cLo_22 cHi_23 hf
          · replace hf := itn hf c28
            refine jSipush C (1000 : Int32) dX8_findApart_75 ks_1000 ?_
            refine jIload C dX8_findApart_78 5 rfl ?_
            refine jImul C dX8_findApart_80 ?_
            refine jAloadn C dX8_findApart_81 rfl 1 rfl ?_
            refine gf_RX8_16 C dX8_findApart_82 ?_
            refine jIloadn C dX8_findApart_85 rfl 3 rfl ?_
            refine jIloadn C dX8_findApart_86 rfl 4 rfl ?_
            refine jIsub C dX8_findApart_87 ?_
            obtain ⟨q29, e30, hf⟩ := bd1_some hf
            refine jVI C (X0_pick_ok (by decide) e30) vb_X0_pick mk_RX8_113 rfl (rcF (by decide)) ⟨Nat.le_of_ble_eq_true rfl, Nat.le_of_ble_eq_true rfl⟩ rfl (Nat.le_of_ble_eq_true rfl) dX8_findApart_88 ?_
            refine jIadd C dX8_findApart_91 ?_
            cases hf
            exact jEndI C hQ rfl dX8_findApart_92
      · replace hf := itp hf c14
        refine jGoto C 98 dX8_findApart_23 (by decide) ?_
        refine jIinc C (x4_2 + (1 : Int32)) dX8_findApart_98 4 rfl (congrArg (fun z : Int32 => x4_2 + z) ki_1) (Nat.le_of_ble_eq_true rfl) [(4, .int (x4_2 + (1 : Int32))), (0, .ref (g 28)), (1, .ref (g p1)), (2, .int p2), (3, .int x3_1)] rfl ?_
        refine jGoto C 5 dX8_findApart_101 (by decide) ?_
        refine jSub [1, 2, 3, 4, 0] rfl ?_
        exact ir7 x3_1 (x4_2 + (1 : Int32)) cP_3 cLo_4 cHi_5 hf
  refine jSub [2, 3, 4, 1, 0] rfl ?_
  exact hL6 (0 : Int32) (0 : Int32) cP cLo cHi hf
noncomputable def X8_measure (cP : Nat → Int32) (cLo : Nat → Int64) (cHi : Nat → Int64) (p1 : Nat) (p2 : Int32) : Option (Int32 × (Nat → Int32) × (Nat → Int64) × (Nat → Int64)) := (if p2 = (0 : Int32) then some ((cP p1), cP, cLo, cHi) else (if p2 = (1 : Int32) then bd1 (X0_size cLo cHi p1) (fun q3 => some (q3, cP, cLo, cHi)) else (if p2 = (2 : Int32) then bd1 (X0_leastLevel cP cLo cHi p1) (fun q6 => some (q6, cP, cLo, cHi)) else (if p2 = (3 : Int32) then bd1 (X0_greatestLevel cP cLo cHi p1) (fun q9 => some (q9, cP, cLo, cHi)) else (if p2 = (4 : Int32) then bd1 (X0_pointsOfSome cP cLo cHi p1) (fun q12 => some (q12, cP, cLo, cHi)) else (if p2 = (5 : Int32) then bd1 (X0_pointsOfAll cP cLo cHi p1) (fun q15 => some (q15, cP, cLo, cHi)) else bd4 (X8_findApart cP cLo cHi p1 (-1 : Int32)) (fun q17 cP_18 cLo_19 cHi_20 => some (q17, cP_18, cLo_19, cHi_20))))))))
set_option maxHeartbeats 4000000 in
set_option maxRecDepth 20000 in
theorem X8_measure_ok {p1 : Nat} {p2 : Int32} {rr : Int32} {ocP : Nat → Int32} {ocLo : Nat → Int64} {ocHi : Nat → Int64} (hp1 : p1 < 28) (hf : X8_measure cP cLo cHi p1 p2 = some (rr, ocP, ocLo, ocHi)) : MT yX8_measure cX8_measure 3 (some .int) 3 [.ref (g 28), .ref (g p1), .int p2] D cy G (cw g cy cP cLo cHi cpl ctb ctl ctf ctp ctk cts cth cob col cso cha chs cbe ctr cgl cgh cll clh cta cme cps cwh cal cah) (cw g cy ocP ocLo ocHi cpl ctb ctl ctf ctp ctk cts cth cob col cso cha chs cbe ctr cgl cgh cll clh cta cme cps cwh cal cah) (some (.int rr)) := by
  refine MT.go (own := RX8) [(0, .ref (g 28)), (1, .ref (g p1)), (2, .int p2)] (by decide) rfl (Nat.le_of_ble_eq_true rfl) rfl (fun p l e s m args below meth c A Q C hQ => ?_)
  unfold X8_measure at hf
  refine jIloadn C dX8_measure_0 rfl 2 rfl ?_
  by_cases c1 : p2 = (0 : Int32)
  · replace hf := itp hf c1
    refine jTabIn C 40 dX8_measure_1 (by rw [c1]; decide) (by rw [c1]; decide) (by rw [c1]; rfl) (by decide) ?_
    refine jAloadn C dX8_measure_40 rfl 1 rfl ?_
    refine gf_RX8_133 C hp1 dX8_measure_41 ?_
    cases hf
    exact jEndI C hQ rfl dX8_measure_44
  replace hf := itn hf c1
  by_cases c2 : p2 = (1 : Int32)
  · replace hf := itp hf c2
    refine jTabIn C 45 dX8_measure_1 (by rw [c2]; decide) (by rw [c2]; decide) (by rw [c2]; rfl) (by decide) ?_
    refine jAloadn C dX8_measure_45 rfl 1 rfl ?_
    obtain ⟨q3, e4, hf⟩ := bd1_some hf
    refine jVI C (X0_size_ok hp1 e4) vb_X0_size mk_RX8_236 rfl (rcF hp1) ⟨Nat.le_of_ble_eq_true rfl, Nat.le_of_ble_eq_true rfl⟩ rfl (Nat.le_of_ble_eq_true rfl) dX8_measure_46 ?_
    cases hf
    exact jEndI C hQ rfl dX8_measure_49
  replace hf := itn hf c2
  by_cases c5 : p2 = (2 : Int32)
  · replace hf := itp hf c5
    refine jTabIn C 50 dX8_measure_1 (by rw [c5]; decide) (by rw [c5]; decide) (by rw [c5]; rfl) (by decide) ?_
    refine jAloadn C dX8_measure_50 rfl 1 rfl ?_
    obtain ⟨q6, e7, hf⟩ := bd1_some hf
    refine jVI C (X0_leastLevel_ok hp1 e7) vb_X0_leastLevel mk_RX8_221 rfl (rcF hp1) ⟨Nat.le_of_ble_eq_true rfl, Nat.le_of_ble_eq_true rfl⟩ rfl (Nat.le_of_ble_eq_true rfl) dX8_measure_51 ?_
    cases hf
    exact jEndI C hQ rfl dX8_measure_54
  replace hf := itn hf c5
  by_cases c8 : p2 = (3 : Int32)
  · replace hf := itp hf c8
    refine jTabIn C 55 dX8_measure_1 (by rw [c8]; decide) (by rw [c8]; decide) (by rw [c8]; rfl) (by decide) ?_
    refine jAloadn C dX8_measure_55 rfl 1 rfl ?_
    obtain ⟨q9, e10, hf⟩ := bd1_some hf
    refine jVI C (X0_greatestLevel_ok hp1 e10) vb_X0_greatestLevel mk_RX8_273 rfl (rcF hp1) ⟨Nat.le_of_ble_eq_true rfl, Nat.le_of_ble_eq_true rfl⟩ rfl (Nat.le_of_ble_eq_true rfl) dX8_measure_56 ?_
    cases hf
    exact jEndI C hQ rfl dX8_measure_59
  replace hf := itn hf c8
  by_cases c11 : p2 = (4 : Int32)
  · replace hf := itp hf c11
    refine jTabIn C 60 dX8_measure_1 (by rw [c11]; decide) (by rw [c11]; decide) (by rw [c11]; rfl) (by decide) ?_
    refine jAloadn C dX8_measure_60 rfl 1 rfl ?_
    obtain ⟨q12, e13, hf⟩ := bd1_some hf
    refine jVI C (X0_pointsOfSome_ok hp1 e13) vb_X0_pointsOfSome mk_RX8_344 rfl (rcF hp1) ⟨Nat.le_of_ble_eq_true rfl, Nat.le_of_ble_eq_true rfl⟩ rfl (Nat.le_of_ble_eq_true rfl) dX8_measure_61 ?_
    cases hf
    exact jEndI C hQ rfl dX8_measure_64
  replace hf := itn hf c11
  by_cases c14 : p2 = (5 : Int32)
  · replace hf := itp hf c14
    refine jTabIn C 65 dX8_measure_1 (by rw [c14]; decide) (by rw [c14]; decide) (by rw [c14]; rfl) (by decide) ?_
    refine jAloadn C dX8_measure_65 rfl 1 rfl ?_
    obtain ⟨q15, e16, hf⟩ := bd1_some hf
    refine jVI C (X0_pointsOfAll_ok hp1 e16) vb_X0_pointsOfAll mk_RX8_347 rfl (rcF hp1) ⟨Nat.le_of_ble_eq_true rfl, Nat.le_of_ble_eq_true rfl⟩ rfl (Nat.le_of_ble_eq_true rfl) dX8_measure_66 ?_
    cases hf
    exact jEndI C hQ rfl dX8_measure_69
  replace hf := itn hf c14
  refine jTabOut C 70 dX8_measure_1 (by have ac1 := lv_neT (a := 0) c1 (by decide); have ac2 := lv_neT (a := 1) c2 (by decide); have ac5 := lv_neT (a := 2) c5 (by decide); have ac8 := lv_neT (a := 3) c8 (by decide); have ac11 := lv_neT (a := 4) c11 (by decide); have ac14 := lv_neT (a := 5) c14 (by decide); omega) (by decide) ?_
  refine jAloadn C dX8_measure_70 rfl 0 rfl ?_
  refine jAloadn C dX8_measure_71 rfl 1 rfl ?_
  refine jIconst C (-1 : Int32) dX8_measure_72 ki_m1 ?_
  obtain ⟨q17, cP_18, cLo_19, cHi_20, e21, hf⟩ := bd4_some hf
  refine jVI C (X8_findApart_ok hp1 e21) vb_X8_findApart mk_RX8_319 rfl rc28 ⟨Nat.le_of_ble_eq_true rfl, Nat.le_of_ble_eq_true rfl⟩ rfl (Nat.le_of_ble_eq_true rfl) dX8_measure_73 ?_
  cases hf
  exact jEndI C hQ rfl dX8_measure_76
noncomputable def X8_look (cP : Nat → Int32) (cLo : Nat → Int64) (cHi : Nat → Int64) (p1 : Int32) (p2 : Int32) : Option (Int32 × (Nat → Int32) × (Nat → Int64) × (Nat → Int64)) := bdo (X8_familyAt cP p1) (some ((-2 : Int32), cP, cLo, cHi)) (fun f1 => bd1 (X8_isLookable p2) (fun q3 => (if q3 = (0 : Int32) then some ((-2 : Int32), cP, cLo, cHi) else bd4 (X8_measure cP cLo cHi f1 p2) (fun q6 cP_7 cLo_8 cHi_9 => some (q6, cP_7, cLo_8, cHi_9)))))
set_option maxHeartbeats 4000000 in
set_option maxRecDepth 20000 in
theorem X8_look_ok {p1 : Int32} {p2 : Int32} {rr : Int32} {ocP : Nat → Int32} {ocLo : Nat → Int64} {ocHi : Nat → Int64}  (hf : X8_look cP cLo cHi p1 p2 = some (rr, ocP, ocLo, ocHi)) : MT yX8_look cX8_look 4 (some .int) 4 [.ref (g 28), .int p1, .int p2] D cy G (cw g cy cP cLo cHi cpl ctb ctl ctf ctp ctk cts cth cob col cso cha chs cbe ctr cgl cgh cll clh cta cme cps cwh cal cah) (cw g cy ocP ocLo ocHi cpl ctb ctl ctf ctp ctk cts cth cob col cso cha chs cbe ctr cgl cgh cll clh cta cme cps cwh cal cah) (some (.int rr)) := by
  refine MT.go (own := RX8) [(0, .ref (g 28)), (1, .int p1), (2, .int p2)] (by decide) rfl (Nat.le_of_ble_eq_true rfl) rfl (fun p l e s m args below meth c A Q C hQ => ?_)
  unfold X8_look at hf
  refine jAloadn C dX8_look_0 rfl 0 rfl ?_
  refine jIloadn C dX8_look_1 rfl 1 rfl ?_
  rcases bdo_some hf with ⟨q2, hf⟩ | ⟨f1, q2, hf⟩
  · refine jVN C (X8_familyAt_ok  q2) vb_X8_familyAt mk_RX8_102 rfl rc28 ⟨Nat.le_of_ble_eq_true rfl, Nat.le_of_ble_eq_true rfl⟩ rfl (Nat.le_of_ble_eq_true rfl) dX8_look_2 ?_
    refine jAstorenN C dX8_look_5 rfl (Nat.le_of_ble_eq_true rfl) [(3, .null), (0, .ref (g 28)), (1, .int p1), (2, .int p2)] rfl ?_
    refine jAloadnN C dX8_look_6 rfl 0 rfl ?_
    refine jIfnullN C 17 dX8_look_7 (by decide) ?_
    refine jBipush C (-2 : Int32) dX8_look_17 kb_m2 ?_
    cases hf
    exact jEndI C hQ rfl dX8_look_19
  · refine jVA C (X8_familyAt_ok  q2) vb_X8_familyAt mk_RX8_102 rfl rc28 ⟨Nat.le_of_ble_eq_true rfl, Nat.le_of_ble_eq_true rfl⟩ rfl (Nat.le_of_ble_eq_true rfl) dX8_look_2 ?_
    refine jAstoren C dX8_look_5 rfl (Nat.le_of_ble_eq_true rfl) [(3, .ref (g f1)), (0, .ref (g 28)), (1, .int p1), (2, .int p2)] rfl ?_
    refine jAloadn C dX8_look_6 rfl 0 rfl ?_
    refine jIfnull C dX8_look_7 ?_
    refine jIloadn C dX8_look_10 rfl 3 rfl ?_
    obtain ⟨q3, e4, hf⟩ := bd1_some hf
    refine jSI C (X8_isLookable_ok  e4) sb_X8_isLookable mk_RX8_106 rfl ⟨Nat.le_of_ble_eq_true rfl, Nat.le_of_ble_eq_true rfl⟩ rfl (Nat.le_of_ble_eq_true rfl) dX8_look_11 ?_
    refine jIfNe C 20 dX8_look_14 (by decide) (fun c5 => ?_) (fun c5 => ?_)
    · replace hf := itn hf c5
      refine jAloadn C dX8_look_20 rfl 1 rfl ?_
      refine jAloadn C dX8_look_21 rfl 0 rfl ?_
      refine jIloadn C dX8_look_22 rfl 3 rfl ?_
      obtain ⟨q6, cP_7, cLo_8, cHi_9, e10, hf⟩ := bd4_some hf
      refine jVI C (X8_measure_ok (X8_familyAt_lt q2) e10) vb_X8_measure mk_RX8_109 rfl rc28 ⟨Nat.le_of_ble_eq_true rfl, Nat.le_of_ble_eq_true rfl⟩ rfl (Nat.le_of_ble_eq_true rfl) dX8_look_23 ?_
      cases hf
      exact jEndI C hQ rfl dX8_look_26
    · replace hf := itp hf c5
      refine jBipush C (-2 : Int32) dX8_look_17 kb_m2 ?_
      cases hf
      exact jEndI C hQ rfl dX8_look_19
noncomputable def X8_set (cP : Nat → Int32) (cLo : Nat → Int64) (cHi : Nat → Int64) (p1 : Int32) (p2 : Int32) : Option Int32 := bdo (X8_familyAt cP p1) (some (-2 : Int32)) (fun f1 => (if (0 : Int32) ≤ p2 then bd1 (X0_pick cP cLo cHi f1 p2) (fun q4 => some q4) else some (-2 : Int32)))
set_option maxHeartbeats 4000000 in
set_option maxRecDepth 20000 in
theorem X8_set_ok {p1 : Int32} {p2 : Int32} {rr : Int32}  (hf : X8_set cP cLo cHi p1 p2 = some rr) : MT yX8_set cX8_set 4 (some .int) 2 [.ref (g 28), .int p1, .int p2] D cy G (cw g cy cP cLo cHi cpl ctb ctl ctf ctp ctk cts cth cob col cso cha chs cbe ctr cgl cgh cll clh cta cme cps cwh cal cah) (cw g cy cP cLo cHi cpl ctb ctl ctf ctp ctk cts cth cob col cso cha chs cbe ctr cgl cgh cll clh cta cme cps cwh cal cah) (some (.int rr)) := by
  refine MT.go (own := RX8) [(0, .ref (g 28)), (1, .int p1), (2, .int p2)] (by decide) rfl (Nat.le_of_ble_eq_true rfl) rfl (fun p l e s m args below meth c A Q C hQ => ?_)
  unfold X8_set at hf
  refine jAloadn C dX8_set_0 rfl 0 rfl ?_
  refine jIloadn C dX8_set_1 rfl 1 rfl ?_
  rcases bdo_some hf with ⟨q2, hf⟩ | ⟨f1, q2, hf⟩
  · refine jVN C (X8_familyAt_ok  q2) vb_X8_familyAt mk_RX8_102 rfl rc28 ⟨Nat.le_of_ble_eq_true rfl, Nat.le_of_ble_eq_true rfl⟩ rfl (Nat.le_of_ble_eq_true rfl) dX8_set_2 ?_
    refine jAstorenN C dX8_set_5 rfl (Nat.le_of_ble_eq_true rfl) [(3, .null), (0, .ref (g 28)), (1, .int p1), (2, .int p2)] rfl ?_
    refine jAloadnN C dX8_set_6 rfl 0 rfl ?_
    refine jIfnullN C 14 dX8_set_7 (by decide) ?_
    refine jBipush C (-2 : Int32) dX8_set_14 kb_m2 ?_
    cases hf
    exact jEndI C hQ rfl dX8_set_16
  · refine jVA C (X8_familyAt_ok  q2) vb_X8_familyAt mk_RX8_102 rfl rc28 ⟨Nat.le_of_ble_eq_true rfl, Nat.le_of_ble_eq_true rfl⟩ rfl (Nat.le_of_ble_eq_true rfl) dX8_set_2 ?_
    refine jAstoren C dX8_set_5 rfl (Nat.le_of_ble_eq_true rfl) [(3, .ref (g f1)), (0, .ref (g 28)), (1, .int p1), (2, .int p2)] rfl ?_
    refine jAloadn C dX8_set_6 rfl 0 rfl ?_
    refine jIfnull C dX8_set_7 ?_
    refine jIloadn C dX8_set_10 rfl 3 rfl ?_
    refine jIfGe C 17 dX8_set_11 (by decide) (fun c3 => ?_) (fun c3 => ?_)
    · replace hf := itp hf c3
      refine jAloadn C dX8_set_17 rfl 0 rfl ?_
      refine jIloadn C dX8_set_18 rfl 3 rfl ?_
      obtain ⟨q4, e5, hf⟩ := bd1_some hf
      refine jVI C (X0_pick_ok (X8_familyAt_lt q2) e5) vb_X0_pick mk_RX8_113 rfl (rcF (X8_familyAt_lt q2)) ⟨Nat.le_of_ble_eq_true rfl, Nat.le_of_ble_eq_true rfl⟩ rfl (Nat.le_of_ble_eq_true rfl) dX8_set_19 ?_
      cases hf
      exact jEndI C hQ rfl dX8_set_22
    · replace hf := itn hf c3
      refine jBipush C (-2 : Int32) dX8_set_14 kb_m2 ?_
      cases hf
      exact jEndI C hQ rfl dX8_set_16
noncomputable def X8_has (cP : Nat → Int32) (cLo : Nat → Int64) (cHi : Nat → Int64) (p1 : Int32) (p2 : Int32) : Option Int32 := bdo (X8_familyAt cP p1) (some (-2 : Int32)) (fun f1 => bd1 (X0_knows cP f1 p2) (fun q3 => (if q3 = (0 : Int32) then some (-2 : Int32) else bd1 (X0_holds cLo cHi f1 p2) (fun q6 => (if q6 = (0 : Int32) then some (0 : Int32) else some (1 : Int32))))))
set_option maxHeartbeats 4000000 in
set_option maxRecDepth 20000 in
theorem X8_has_ok {p1 : Int32} {p2 : Int32} {rr : Int32}  (hf : X8_has cP cLo cHi p1 p2 = some rr) : MT yX8_has cX8_has 4 (some .int) 2 [.ref (g 28), .int p1, .int p2] D cy G (cw g cy cP cLo cHi cpl ctb ctl ctf ctp ctk cts cth cob col cso cha chs cbe ctr cgl cgh cll clh cta cme cps cwh cal cah) (cw g cy cP cLo cHi cpl ctb ctl ctf ctp ctk cts cth cob col cso cha chs cbe ctr cgl cgh cll clh cta cme cps cwh cal cah) (some (.int rr)) := by
  refine MT.go (own := RX8) [(0, .ref (g 28)), (1, .int p1), (2, .int p2)] (by decide) rfl (Nat.le_of_ble_eq_true rfl) rfl (fun p l e s m args below meth c A Q C hQ => ?_)
  unfold X8_has at hf
  refine jAloadn C dX8_has_0 rfl 0 rfl ?_
  refine jIloadn C dX8_has_1 rfl 1 rfl ?_
  rcases bdo_some hf with ⟨q2, hf⟩ | ⟨f1, q2, hf⟩
  · refine jVN C (X8_familyAt_ok  q2) vb_X8_familyAt mk_RX8_102 rfl rc28 ⟨Nat.le_of_ble_eq_true rfl, Nat.le_of_ble_eq_true rfl⟩ rfl (Nat.le_of_ble_eq_true rfl) dX8_has_2 ?_
    refine jAstorenN C dX8_has_5 rfl (Nat.le_of_ble_eq_true rfl) [(3, .null), (0, .ref (g 28)), (1, .int p1), (2, .int p2)] rfl ?_
    refine jAloadnN C dX8_has_6 rfl 0 rfl ?_
    refine jIfnullN C 18 dX8_has_7 (by decide) ?_
    refine jBipush C (-2 : Int32) dX8_has_18 kb_m2 ?_
    cases hf
    exact jEndI C hQ rfl dX8_has_20
  · refine jVA C (X8_familyAt_ok  q2) vb_X8_familyAt mk_RX8_102 rfl rc28 ⟨Nat.le_of_ble_eq_true rfl, Nat.le_of_ble_eq_true rfl⟩ rfl (Nat.le_of_ble_eq_true rfl) dX8_has_2 ?_
    refine jAstoren C dX8_has_5 rfl (Nat.le_of_ble_eq_true rfl) [(3, .ref (g f1)), (0, .ref (g 28)), (1, .int p1), (2, .int p2)] rfl ?_
    refine jAloadn C dX8_has_6 rfl 0 rfl ?_
    refine jIfnull C dX8_has_7 ?_
    refine jAloadn C dX8_has_10 rfl 0 rfl ?_
    refine jIloadn C dX8_has_11 rfl 3 rfl ?_
    obtain ⟨q3, e4, hf⟩ := bd1_some hf
    refine jVI C (X0_knows_ok (X8_familyAt_lt q2) e4) vb_X0_knows mk_RX8_117 rfl (rcF (X8_familyAt_lt q2)) ⟨Nat.le_of_ble_eq_true rfl, Nat.le_of_ble_eq_true rfl⟩ rfl (Nat.le_of_ble_eq_true rfl) dX8_has_12 ?_
    refine jIfNe C 21 dX8_has_15 (by decide) (fun c5 => ?_) (fun c5 => ?_)
    · replace hf := itn hf c5
      refine jAloadn C dX8_has_21 rfl 0 rfl ?_
      refine jIloadn C dX8_has_22 rfl 3 rfl ?_
      obtain ⟨q6, e7, hf⟩ := bd1_some hf
      refine jVI C (X0_holds_ok (X8_familyAt_lt q2) e7) vb_X0_holds mk_RX8_120 rfl (rcF (X8_familyAt_lt q2)) ⟨Nat.le_of_ble_eq_true rfl, Nat.le_of_ble_eq_true rfl⟩ rfl (Nat.le_of_ble_eq_true rfl) dX8_has_23 ?_
      refine jIfEq C 33 dX8_has_26 (by decide) (fun c8 => ?_) (fun c8 => ?_)
      · replace hf := itp hf c8
        refine jIconst C (0 : Int32) dX8_has_33 ki_0 ?_
        cases hf
        exact jEndI C hQ rfl dX8_has_34
      · replace hf := itn hf c8
        refine jIconst C (1 : Int32) dX8_has_29 ki_1 ?_
        refine jGoto C 34 dX8_has_30 (by decide) ?_
        cases hf
        exact jEndI C hQ rfl dX8_has_34
    · replace hf := itp hf c5
      refine jBipush C (-2 : Int32) dX8_has_18 kb_m2 ?_
      cases hf
      exact jEndI C hQ rfl dX8_has_20
noncomputable def X8_allAnswer (cP : Nat → Int32) (cLo : Nat → Int64) (cHi : Nat → Int64) (p1 : Nat) (p2 : Nat) : Option (Int32 × (Nat → Int32) × (Nat → Int64) × (Nat → Int64)) := bd3 (X0_becomeAnswers cP cLo cHi 4 p2) (fun cP_1 cLo_2 cHi_3 => bd2 (X0_lose cLo_2 cHi_3 p1 4) (fun cLo_5 cHi_6 => bd1 (X0_isEmpty cLo_5 cHi_6 p1) (fun q8 => gbo q8 (some (q8, cP_1, cLo_5, cHi_6)))))
set_option maxHeartbeats 4000000 in
set_option maxRecDepth 20000 in
theorem X8_allAnswer_ok {p1 : Nat} {p2 : Nat} {rr : Int32} {ocP : Nat → Int32} {ocLo : Nat → Int64} {ocHi : Nat → Int64} (hp1 : p1 < 28) (hp2 : p2 < 28) (hf : X8_allAnswer cP cLo cHi p1 p2 = some (rr, ocP, ocLo, ocHi)) : MT yX8_allAnswer cX8_allAnswer 3 (some .boolean) 3 [.ref (g 28), .ref (g p1), .ref (g p2)] D cy G (cw g cy cP cLo cHi cpl ctb ctl ctf ctp ctk cts cth cob col cso cha chs cbe ctr cgl cgh cll clh cta cme cps cwh cal cah) (cw g cy ocP ocLo ocHi cpl ctb ctl ctf ctp ctk cts cth cob col cso cha chs cbe ctr cgl cgh cll clh cta cme cps cwh cal cah) (some (.int rr)) := by
  refine MT.go (own := RX8) [(0, .ref (g 28)), (1, .ref (g p1)), (2, .ref (g p2))] (by decide) rfl (Nat.le_of_ble_eq_true rfl) rfl (fun p l e s m args below meth c A Q C hQ => ?_)
  unfold X8_allAnswer at hf
  refine jAloadn C dX8_allAnswer_0 rfl 0 rfl ?_
  refine gf_RX8_20 C dX8_allAnswer_1 ?_
  refine jAloadn C dX8_allAnswer_4 rfl 2 rfl ?_
  obtain ⟨cP_1, cLo_2, cHi_3, e4, hf⟩ := bd3_some hf
  refine jVV C (X0_becomeAnswers_ok (by decide) hp2 e4) vb_X0_becomeAnswers mk_RX8_218 rfl (rcF (by decide)) ⟨Nat.le_of_ble_eq_true rfl, Nat.le_of_ble_eq_true rfl⟩ rfl (Nat.le_of_ble_eq_true rfl) dX8_allAnswer_5 ?_
  refine jAloadn C dX8_allAnswer_8 rfl 1 rfl ?_
  refine jAloadn C dX8_allAnswer_9 rfl 0 rfl ?_
  refine gf_RX8_20 C dX8_allAnswer_10 ?_
  obtain ⟨cLo_5, cHi_6, e7, hf⟩ := bd2_some hf
  refine jVV C (X0_lose_ok hp1 (by decide) e7) vb_X0_lose mk_RX8_310 rfl (rcF hp1) ⟨Nat.le_of_ble_eq_true rfl, Nat.le_of_ble_eq_true rfl⟩ rfl (Nat.le_of_ble_eq_true rfl) dX8_allAnswer_13 ?_
  refine jAloadn C dX8_allAnswer_16 rfl 1 rfl ?_
  obtain ⟨q8, e9, hf⟩ := bd1_some hf
  refine jVI C (X0_isEmpty_ok hp1 e9) vb_X0_isEmpty mk_RX8_230 rfl (rcF hp1) ⟨Nat.le_of_ble_eq_true rfl, Nat.le_of_ble_eq_true rfl⟩ rfl (Nat.le_of_ble_eq_true rfl) dX8_allAnswer_17 ?_
  obtain ⟨z10, hf⟩ := gbo_some hf
  cases hf
  exact jEndIZ C hQ rfl z10 dX8_allAnswer_20
noncomputable def X8_make (cP : Nat → Int32) (cLo : Nat → Int64) (cHi : Nat → Int64) (p1 : Nat) (p2 : Int32) : Option ((Nat → Int32) × (Nat → Int64) × (Nat → Int64)) := bd3 (X0_become cP cLo cHi 3 p1) (fun cP_1 cLo_2 cHi_3 => (if p2 = (0 : Int32) then bd3 (X0_becomeShadow cP_1 cLo_2 cHi_3 3 p1) (fun cP_6 cLo_7 cHi_8 => some (cP_6, cLo_7, cHi_8)) else (if p2 = (1 : Int32) then bd3 (X0_becomeShade cP_1 cLo_2 cHi_3 3 p1) (fun cP_11 cLo_12 cHi_13 => some (cP_11, cLo_12, cHi_13)) else (if p2 = (2 : Int32) then bd2 (X0_closeDown cP_1 cLo_2 cHi_3 3) (fun cLo_16 cHi_17 => some (cP_1, cLo_16, cHi_17)) else (if p2 = (3 : Int32) then bd2 (X0_closeUp cP_1 cLo_2 cHi_3 3) (fun cLo_20 cHi_21 => some (cP_1, cLo_20, cHi_21)) else (if p2 = (4 : Int32) then bd2 (X0_turnOver cP_1 cLo_2 cHi_3 3) (fun cLo_24 cHi_25 => some (cP_1, cLo_24, cHi_25)) else (if p2 = (5 : Int32) then bd3 (X0_closeByMeets cP_1 cLo_2 cHi_3 3 p1 4) (fun cP_28 cLo_29 cHi_30 => some (cP_28, cLo_29, cHi_30)) else (if p2 = (6 : Int32) then bd3 (X0_closeByJoins cP_1 cLo_2 cHi_3 3 p1 4) (fun cP_33 cLo_34 cHi_35 => some (cP_33, cLo_34, cHi_35)) else (if p2 = (7 : Int32) then bd3 (X0_becomeLowest cP_1 cLo_2 cHi_3 3 p1) (fun cP_38 cLo_39 cHi_40 => some (cP_38, cLo_39, cHi_40)) else (if p2 = (8 : Int32) then bd3 (X0_becomeHighest cP_1 cLo_2 cHi_3 3 p1) (fun cP_43 cLo_44 cHi_45 => some (cP_43, cLo_44, cHi_45)) else bd3 (X0_becomeAnswers cP_1 cLo_2 cHi_3 4 p1) (fun cP_47 cLo_48 cHi_49 => bd3 (X0_becomeLowest cP_47 cLo_48 cHi_49 3 4) (fun cP_51 cLo_52 cHi_53 => some (cP_51, cLo_52, cHi_53)))))))))))))
set_option maxHeartbeats 4000000 in
set_option maxRecDepth 20000 in
theorem X8_make_ok {p1 : Nat} {p2 : Int32} {ocP : Nat → Int32} {ocLo : Nat → Int64} {ocHi : Nat → Int64} (hp1 : p1 < 28) (hf : X8_make cP cLo cHi p1 p2 = some (ocP, ocLo, ocHi)) : MT yX8_make cX8_make 3 none 3 [.ref (g 28), .ref (g p1), .int p2] D cy G (cw g cy cP cLo cHi cpl ctb ctl ctf ctp ctk cts cth cob col cso cha chs cbe ctr cgl cgh cll clh cta cme cps cwh cal cah) (cw g cy ocP ocLo ocHi cpl ctb ctl ctf ctp ctk cts cth cob col cso cha chs cbe ctr cgl cgh cll clh cta cme cps cwh cal cah) none := by
  refine MT.go (own := RX8) [(0, .ref (g 28)), (1, .ref (g p1)), (2, .int p2)] (by decide) rfl (Nat.le_of_ble_eq_true rfl) rfl (fun p l e s m args below meth c A Q C hQ => ?_)
  unfold X8_make at hf
  refine jAloadn C dX8_make_0 rfl 0 rfl ?_
  refine gf_RX8_16 C dX8_make_1 ?_
  refine jAloadn C dX8_make_4 rfl 1 rfl ?_
  obtain ⟨cP_1, cLo_2, cHi_3, e4, hf⟩ := bd3_some hf
  refine jVV C (X0_become_ok (by decide) hp1 e4) vb_X0_become mk_RX8_152 rfl (rcF (by decide)) ⟨Nat.le_of_ble_eq_true rfl, Nat.le_of_ble_eq_true rfl⟩ rfl (Nat.le_of_ble_eq_true rfl) dX8_make_5 ?_
  refine jIloadn C dX8_make_8 rfl 2 rfl ?_
  by_cases c5 : p2 = (0 : Int32)
  · replace hf := itp hf c5
    refine jTabIn C 60 dX8_make_9 (by rw [c5]; decide) (by rw [c5]; decide) (by rw [c5]; rfl) (by decide) ?_
    refine jAloadn C dX8_make_60 rfl 0 rfl ?_
    refine gf_RX8_16 C dX8_make_61 ?_
    refine jAloadn C dX8_make_64 rfl 1 rfl ?_
    obtain ⟨cP_6, cLo_7, cHi_8, e9, hf⟩ := bd3_some hf
    refine jVV C (X0_becomeShadow_ok (by decide) hp1 e9) vb_X0_becomeShadow mk_RX8_367 rfl (rcF (by decide)) ⟨Nat.le_of_ble_eq_true rfl, Nat.le_of_ble_eq_true rfl⟩ rfl (Nat.le_of_ble_eq_true rfl) dX8_make_65 ?_
    refine jGoto C 183 dX8_make_68 (by decide) ?_
    cases hf
    exact jEndV C hQ rfl dX8_make_183
  replace hf := itn hf c5
  by_cases c10 : p2 = (1 : Int32)
  · replace hf := itp hf c10
    refine jTabIn C 71 dX8_make_9 (by rw [c10]; decide) (by rw [c10]; decide) (by rw [c10]; rfl) (by decide) ?_
    refine jAloadn C dX8_make_71 rfl 0 rfl ?_
    refine gf_RX8_16 C dX8_make_72 ?_
    refine jAloadn C dX8_make_75 rfl 1 rfl ?_
    obtain ⟨cP_11, cLo_12, cHi_13, e14, hf⟩ := bd3_some hf
    refine jVV C (X0_becomeShade_ok (by decide) hp1 e14) vb_X0_becomeShade mk_RX8_370 rfl (rcF (by decide)) ⟨Nat.le_of_ble_eq_true rfl, Nat.le_of_ble_eq_true rfl⟩ rfl (Nat.le_of_ble_eq_true rfl) dX8_make_76 ?_
    refine jGoto C 183 dX8_make_79 (by decide) ?_
    cases hf
    exact jEndV C hQ rfl dX8_make_183
  replace hf := itn hf c10
  by_cases c15 : p2 = (2 : Int32)
  · replace hf := itp hf c15
    refine jTabIn C 82 dX8_make_9 (by rw [c15]; decide) (by rw [c15]; decide) (by rw [c15]; rfl) (by decide) ?_
    refine jAloadn C dX8_make_82 rfl 0 rfl ?_
    refine gf_RX8_16 C dX8_make_83 ?_
    obtain ⟨cLo_16, cHi_17, e18, hf⟩ := bd2_some hf
    refine jVV C (X0_closeDown_ok (by decide) e18) vb_X0_closeDown mk_RX8_373 rfl (rcF (by decide)) ⟨Nat.le_of_ble_eq_true rfl, Nat.le_of_ble_eq_true rfl⟩ rfl (Nat.le_of_ble_eq_true rfl) dX8_make_86 ?_
    refine jGoto C 183 dX8_make_89 (by decide) ?_
    cases hf
    exact jEndV C hQ rfl dX8_make_183
  replace hf := itn hf c15
  by_cases c19 : p2 = (3 : Int32)
  · replace hf := itp hf c19
    refine jTabIn C 92 dX8_make_9 (by rw [c19]; decide) (by rw [c19]; decide) (by rw [c19]; rfl) (by decide) ?_
    refine jAloadn C dX8_make_92 rfl 0 rfl ?_
    refine gf_RX8_16 C dX8_make_93 ?_
    obtain ⟨cLo_20, cHi_21, e22, hf⟩ := bd2_some hf
    refine jVV C (X0_closeUp_ok (by decide) e22) vb_X0_closeUp mk_RX8_376 rfl (rcF (by decide)) ⟨Nat.le_of_ble_eq_true rfl, Nat.le_of_ble_eq_true rfl⟩ rfl (Nat.le_of_ble_eq_true rfl) dX8_make_96 ?_
    refine jGoto C 183 dX8_make_99 (by decide) ?_
    cases hf
    exact jEndV C hQ rfl dX8_make_183
  replace hf := itn hf c19
  by_cases c23 : p2 = (4 : Int32)
  · replace hf := itp hf c23
    refine jTabIn C 102 dX8_make_9 (by rw [c23]; decide) (by rw [c23]; decide) (by rw [c23]; rfl) (by decide) ?_
    refine jAloadn C dX8_make_102 rfl 0 rfl ?_
    refine gf_RX8_16 C dX8_make_103 ?_
    obtain ⟨cLo_24, cHi_25, e26, hf⟩ := bd2_some hf
    refine jVV C (X0_turnOver_ok (by decide) e26) vb_X0_turnOver mk_RX8_379 rfl (rcF (by decide)) ⟨Nat.le_of_ble_eq_true rfl, Nat.le_of_ble_eq_true rfl⟩ rfl (Nat.le_of_ble_eq_true rfl) dX8_make_106 ?_
    refine jGoto C 183 dX8_make_109 (by decide) ?_
    cases hf
    exact jEndV C hQ rfl dX8_make_183
  replace hf := itn hf c23
  by_cases c27 : p2 = (5 : Int32)
  · replace hf := itp hf c27
    refine jTabIn C 112 dX8_make_9 (by rw [c27]; decide) (by rw [c27]; decide) (by rw [c27]; rfl) (by decide) ?_
    refine jAloadn C dX8_make_112 rfl 0 rfl ?_
    refine gf_RX8_16 C dX8_make_113 ?_
    refine jAloadn C dX8_make_116 rfl 1 rfl ?_
    refine jAloadn C dX8_make_117 rfl 0 rfl ?_
    refine gf_RX8_20 C dX8_make_118 ?_
    obtain ⟨cP_28, cLo_29, cHi_30, e31, hf⟩ := bd3_some hf
    refine jVV C (X0_closeByMeets_ok (by decide) hp1 (by decide) e31) vb_X0_closeByMeets mk_RX8_382 rfl (rcF (by decide)) ⟨Nat.le_of_ble_eq_true rfl, Nat.le_of_ble_eq_true rfl⟩ rfl (Nat.le_of_ble_eq_true rfl) dX8_make_121 ?_
    refine jGoto C 183 dX8_make_124 (by decide) ?_
    cases hf
    exact jEndV C hQ rfl dX8_make_183
  replace hf := itn hf c27
  by_cases c32 : p2 = (6 : Int32)
  · replace hf := itp hf c32
    refine jTabIn C 127 dX8_make_9 (by rw [c32]; decide) (by rw [c32]; decide) (by rw [c32]; rfl) (by decide) ?_
    refine jAloadn C dX8_make_127 rfl 0 rfl ?_
    refine gf_RX8_16 C dX8_make_128 ?_
    refine jAloadn C dX8_make_131 rfl 1 rfl ?_
    refine jAloadn C dX8_make_132 rfl 0 rfl ?_
    refine gf_RX8_20 C dX8_make_133 ?_
    obtain ⟨cP_33, cLo_34, cHi_35, e36, hf⟩ := bd3_some hf
    refine jVV C (X0_closeByJoins_ok (by decide) hp1 (by decide) e36) vb_X0_closeByJoins mk_RX8_385 rfl (rcF (by decide)) ⟨Nat.le_of_ble_eq_true rfl, Nat.le_of_ble_eq_true rfl⟩ rfl (Nat.le_of_ble_eq_true rfl) dX8_make_136 ?_
    refine jGoto C 183 dX8_make_139 (by decide) ?_
    cases hf
    exact jEndV C hQ rfl dX8_make_183
  replace hf := itn hf c32
  by_cases c37 : p2 = (7 : Int32)
  · replace hf := itp hf c37
    refine jTabIn C 142 dX8_make_9 (by rw [c37]; decide) (by rw [c37]; decide) (by rw [c37]; rfl) (by decide) ?_
    refine jAloadn C dX8_make_142 rfl 0 rfl ?_
    refine gf_RX8_16 C dX8_make_143 ?_
    refine jAloadn C dX8_make_146 rfl 1 rfl ?_
    obtain ⟨cP_38, cLo_39, cHi_40, e41, hf⟩ := bd3_some hf
    refine jVV C (X0_becomeLowest_ok (by decide) hp1 e41) vb_X0_becomeLowest mk_RX8_388 rfl (rcF (by decide)) ⟨Nat.le_of_ble_eq_true rfl, Nat.le_of_ble_eq_true rfl⟩ rfl (Nat.le_of_ble_eq_true rfl) dX8_make_147 ?_
    refine jGoto C 183 dX8_make_150 (by decide) ?_
    cases hf
    exact jEndV C hQ rfl dX8_make_183
  replace hf := itn hf c37
  by_cases c42 : p2 = (8 : Int32)
  · replace hf := itp hf c42
    refine jTabIn C 153 dX8_make_9 (by rw [c42]; decide) (by rw [c42]; decide) (by rw [c42]; rfl) (by decide) ?_
    refine jAloadn C dX8_make_153 rfl 0 rfl ?_
    refine gf_RX8_16 C dX8_make_154 ?_
    refine jAloadn C dX8_make_157 rfl 1 rfl ?_
    obtain ⟨cP_43, cLo_44, cHi_45, e46, hf⟩ := bd3_some hf
    refine jVV C (X0_becomeHighest_ok (by decide) hp1 e46) vb_X0_becomeHighest mk_RX8_391 rfl (rcF (by decide)) ⟨Nat.le_of_ble_eq_true rfl, Nat.le_of_ble_eq_true rfl⟩ rfl (Nat.le_of_ble_eq_true rfl) dX8_make_158 ?_
    refine jGoto C 183 dX8_make_161 (by decide) ?_
    cases hf
    exact jEndV C hQ rfl dX8_make_183
  replace hf := itn hf c42
  refine jTabOut C 164 dX8_make_9 (by have ac5 := lv_neT (a := 0) c5 (by decide); have ac10 := lv_neT (a := 1) c10 (by decide); have ac15 := lv_neT (a := 2) c15 (by decide); have ac19 := lv_neT (a := 3) c19 (by decide); have ac23 := lv_neT (a := 4) c23 (by decide); have ac27 := lv_neT (a := 5) c27 (by decide); have ac32 := lv_neT (a := 6) c32 (by decide); have ac37 := lv_neT (a := 7) c37 (by decide); have ac42 := lv_neT (a := 8) c42 (by decide); omega) (by decide) ?_
  refine jAloadn C dX8_make_164 rfl 0 rfl ?_
  refine gf_RX8_20 C dX8_make_165 ?_
  refine jAloadn C dX8_make_168 rfl 1 rfl ?_
  obtain ⟨cP_47, cLo_48, cHi_49, e50, hf⟩ := bd3_some hf
  refine jVV C (X0_becomeAnswers_ok (by decide) hp1 e50) vb_X0_becomeAnswers mk_RX8_218 rfl (rcF (by decide)) ⟨Nat.le_of_ble_eq_true rfl, Nat.le_of_ble_eq_true rfl⟩ rfl (Nat.le_of_ble_eq_true rfl) dX8_make_169 ?_
  refine jAloadn C dX8_make_172 rfl 0 rfl ?_
  refine gf_RX8_16 C dX8_make_173 ?_
  refine jAloadn C dX8_make_176 rfl 0 rfl ?_
  refine gf_RX8_20 C dX8_make_177 ?_
  obtain ⟨cP_51, cLo_52, cHi_53, e54, hf⟩ := bd3_some hf
  refine jVV C (X0_becomeLowest_ok (by decide) (by decide) e54) vb_X0_becomeLowest mk_RX8_388 rfl (rcF (by decide)) ⟨Nat.le_of_ble_eq_true rfl, Nat.le_of_ble_eq_true rfl⟩ rfl (Nat.le_of_ble_eq_true rfl) dX8_make_180 ?_
  cases hf
  exact jEndV C hQ rfl dX8_make_183
noncomputable def X8_makesItself (cP : Nat → Int32) (cLo : Nat → Int64) (cHi : Nat → Int64) (p1 : Nat) (p2 : Int32) : Option (Int32 × (Nat → Int32) × (Nat → Int64) × (Nat → Int64)) := bd3 (X8_make cP cLo cHi p1 p2) (fun cP_1 cLo_2 cHi_3 => bd1 (X0_isSameAs cP_1 cLo_2 cHi_3 3 p1) (fun q5 => gbo q5 (some (q5, cP_1, cLo_2, cHi_3))))
set_option maxHeartbeats 4000000 in
set_option maxRecDepth 20000 in
theorem X8_makesItself_ok {p1 : Nat} {p2 : Int32} {rr : Int32} {ocP : Nat → Int32} {ocLo : Nat → Int64} {ocHi : Nat → Int64} (hp1 : p1 < 28) (hf : X8_makesItself cP cLo cHi p1 p2 = some (rr, ocP, ocLo, ocHi)) : MT yX8_makesItself cX8_makesItself 3 (some .boolean) 4 [.ref (g 28), .ref (g p1), .int p2] D cy G (cw g cy cP cLo cHi cpl ctb ctl ctf ctp ctk cts cth cob col cso cha chs cbe ctr cgl cgh cll clh cta cme cps cwh cal cah) (cw g cy ocP ocLo ocHi cpl ctb ctl ctf ctp ctk cts cth cob col cso cha chs cbe ctr cgl cgh cll clh cta cme cps cwh cal cah) (some (.int rr)) := by
  refine MT.go (own := RX8) [(0, .ref (g 28)), (1, .ref (g p1)), (2, .int p2)] (by decide) rfl (Nat.le_of_ble_eq_true rfl) rfl (fun p l e s m args below meth c A Q C hQ => ?_)
  unfold X8_makesItself at hf
  refine jAloadn C dX8_makesItself_0 rfl 0 rfl ?_
  refine jAloadn C dX8_makesItself_1 rfl 1 rfl ?_
  refine jIloadn C dX8_makesItself_2 rfl 2 rfl ?_
  obtain ⟨cP_1, cLo_2, cHi_3, e4, hf⟩ := bd3_some hf
  refine jVV C (X8_make_ok hp1 e4) vb_X8_make mk_RX8_142 rfl rc28 ⟨Nat.le_of_ble_eq_true rfl, Nat.le_of_ble_eq_true rfl⟩ rfl (Nat.le_of_ble_eq_true rfl) dX8_makesItself_3 ?_
  refine jAloadn C dX8_makesItself_6 rfl 0 rfl ?_
  refine gf_RX8_16 C dX8_makesItself_7 ?_
  refine jAloadn C dX8_makesItself_10 rfl 1 rfl ?_
  obtain ⟨q5, e6, hf⟩ := bd1_some hf
  refine jVI C (X0_isSameAs_ok (by decide) hp1 e6) vb_X0_isSameAs mk_RX8_337 rfl (rcF (by decide)) ⟨Nat.le_of_ble_eq_true rfl, Nat.le_of_ble_eq_true rfl⟩ rfl (Nat.le_of_ble_eq_true rfl) dX8_makesItself_11 ?_
  obtain ⟨z7, hf⟩ := gbo_some hf
  cases hf
  exact jEndIZ C hQ rfl z7 dX8_makesItself_14
noncomputable def X8_isChain_h2 (p1 : Nat) (r6 : Int32 → (Nat → Int32) → (Nat → Int64) → (Nat → Int64) → Option (Int32 × (Nat → Int32) × (Nat → Int64) × (Nat → Int64))) (x2_1 : Int32) (cP_2 : Nat → Int32) (cLo_3 : Nat → Int64) (cHi_4 : Nat → Int64) : Option (Int32 × (Nat → Int32) × (Nat → Int64) × (Nat → Int64)) := bd1 (X0_span cP_2 p1) (fun q7 => (if q7 ≤ x2_1 then some ((1 : Int32), cP_2, cLo_3, cHi_4) else bd1 (X0_holds cLo_3 cHi_4 p1 x2_1) (fun q10 => (if q10 = (0 : Int32) then r6 (x2_1 + (1 : Int32)) cP_2 cLo_3 cHi_4 else bd3 (X0_becomeComparable cP_2 cLo_3 cHi_4 3 p1 x2_1 4) (fun cP_13 cLo_14 cHi_15 => bd1 (X0_isSameAs cP_13 cLo_14 cHi_15 3 p1) (fun q17 => (if q17 = (0 : Int32) then some ((0 : Int32), cP_13, cLo_14, cHi_15) else r6 (x2_1 + (1 : Int32)) cP_13 cLo_14 cHi_15)))))))
noncomputable def X8_isChain (cP : Nat → Int32) (cLo : Nat → Int64) (cHi : Nat → Int64) (p1 : Nat) : Option (Int32 × (Nat → Int32) × (Nat → Int64) × (Nat → Int64)) := lfp4 (X8_isChain_h2 p1) (0 : Int32) cP cLo cHi
set_option maxHeartbeats 4000000 in
set_option maxRecDepth 20000 in
theorem X8_isChain_ok {p1 : Nat} {rr : Int32} {ocP : Nat → Int32} {ocLo : Nat → Int64} {ocHi : Nat → Int64} (hp1 : p1 < 28) (hf : X8_isChain cP cLo cHi p1 = some (rr, ocP, ocLo, ocHi)) : MT yX8_isChain cX8_isChain 3 (some .boolean) 3 [.ref (g 28), .ref (g p1)] D cy G (cw g cy cP cLo cHi cpl ctb ctl ctf ctp ctk cts cth cob col cso cha chs cbe ctr cgl cgh cll clh cta cme cps cwh cal cah) (cw g cy ocP ocLo ocHi cpl ctb ctl ctf ctp ctk cts cth cob col cso cha chs cbe ctr cgl cgh cll clh cta cme cps cwh cal cah) (some (.int rr)) := by
  refine MT.go (own := RX8) [(0, .ref (g 28)), (1, .ref (g p1))] (by decide) rfl (Nat.le_of_ble_eq_true rfl) rfl (fun p l e s m args below meth c A Q C hQ => ?_)
  unfold X8_isChain at hf
  refine jIconst C (0 : Int32) dX8_isChain_0 ki_0 ?_
  refine jIstoren C dX8_isChain_1 rfl (Nat.le_of_ble_eq_true rfl) [(2, .int (0 : Int32)), (0, .ref (g 28)), (1, .ref (g p1))] rfl ?_
  have hL5 : ∀ (x2_1 : Int32) (cP_2 : Nat → Int32) (cLo_3 : Nat → Int64) (cHi_4 : Nat → Int64), lfp4 (X8_isChain_h2 p1) x2_1 cP_2 cLo_3 cHi_4 = some (rr, ocP, ocLo, ocHi) → J p l e (rmk 3) s m args below meth c D A Q 3 (cw g cy cP_2 cLo_3 cHi_4 cpl ctb ctl ctf ctp ctk cts cth cob col cso cha chs cbe ctr cgl cgh cll clh cta cme cps cwh cal cah) 2 [(0, .ref (g 28)), (1, .ref (g p1)), (2, .int x2_1)] [] := by
    intro x2_1 cP_2 cLo_3 cHi_4 hw
    refine lfp4_walk (P := fun x2_1 cP_2 cLo_3 cHi_4 => J p l e (rmk 3) s m args below meth c D A Q 3 (cw g cy cP_2 cLo_3 cHi_4 cpl ctb ctl ctf ctp ctk cts cth cob col cso cha chs cbe ctr cgl cgh cll clh cta cme cps cwh cal cah) 2 [(0, .ref (g 28)), (1, .ref (g p1)), (2, .int x2_1)] []) ?_ hw
    intro r6 ir6 x2_1 cP_2 cLo_3 cHi_4 hf
    unfold X8_isChain_h2 at hf
    refine jIloadn C dX8_isChain_2 rfl 2 rfl ?_
    refine jAloadn C dX8_isChain_3 rfl 1 rfl ?_
    obtain ⟨q7, e8, hf⟩ := bd1_some hf
    refine jVI C (X0_span_ok hp1 e8) vb_X0_span mk_RX8_270 rfl (rcF hp1) ⟨Nat.le_of_ble_eq_true rfl, Nat.le_of_ble_eq_true rfl⟩ rfl (Nat.le_of_ble_eq_true rfl) dX8_isChain_4 ?_
    refine jCmpGe C 50 dX8_isChain_7 (by decide) (fun c9 => ?_) (fun c9 => ?_)
    · replace hf := itp hf c9
      refine jIconst C (1 : Int32) dX8_isChain_50 ki_1 ?_
      cases hf
      exact jEndIZ C hQ rfl nar_z1 dX8_isChain_51
    · replace hf := itn hf c9
      refine jAloadn C dX8_isChain_10 rfl 1 rfl ?_
      refine jIloadn C dX8_isChain_11 rfl 2 rfl ?_
      obtain ⟨q10, e11, hf⟩ := bd1_some hf
      refine jVI C (X0_holds_ok hp1 e11) vb_X0_holds mk_RX8_120 rfl (rcF hp1) ⟨Nat.le_of_ble_eq_true rfl, Nat.le_of_ble_eq_true rfl⟩ rfl (Nat.le_of_ble_eq_true rfl) dX8_isChain_12 ?_
      refine jIfEq C 44 dX8_isChain_15 (by decide) (fun c12 => ?_) (fun c12 => ?_)
      · replace hf := itp hf c12
        refine jIinc C (x2_1 + (1 : Int32)) dX8_isChain_44 2 rfl (congrArg (fun z : Int32 => x2_1 + z) ki_1) (Nat.le_of_ble_eq_true rfl) [(2, .int (x2_1 + (1 : Int32))), (0, .ref (g 28)), (1, .ref (g p1))] rfl ?_
        refine jGoto C 2 dX8_isChain_47 (by decide) ?_
        refine jSub [1, 2, 0] rfl ?_
        exact ir6 (x2_1 + (1 : Int32)) cP_2 cLo_3 cHi_4 hf
      · replace hf := itn hf c12
        refine jAloadn C dX8_isChain_18 rfl 0 rfl ?_
        refine gf_RX8_16 C dX8_isChain_19 ?_
        refine jAloadn C dX8_isChain_22 rfl 1 rfl ?_
        refine jIloadn C dX8_isChain_23 rfl 2 rfl ?_
        refine jAloadn C dX8_isChain_24 rfl 0 rfl ?_
        refine gf_RX8_20 C dX8_isChain_25 ?_
        obtain ⟨cP_13, cLo_14, cHi_15, e16, hf⟩ := bd3_some hf
        refine jVV C (X0_becomeComparable_ok (by decide) hp1 (by decide) e16) vb_X0_becomeComparable mk_RX8_363 rfl (rcF (by decide)) ⟨Nat.le_of_ble_eq_true rfl, Nat.le_of_ble_eq_true rfl⟩ rfl (Nat.le_of_ble_eq_true rfl) dX8_isChain_28 ?_
        refine jAloadn C dX8_isChain_31 rfl 0 rfl ?_
        refine gf_RX8_16 C dX8_isChain_32 ?_
        refine jAloadn C dX8_isChain_35 rfl 1 rfl ?_
        obtain ⟨q17, e18, hf⟩ := bd1_some hf
        refine jVI C (X0_isSameAs_ok (by decide) hp1 e18) vb_X0_isSameAs mk_RX8_337 rfl (rcF (by decide)) ⟨Nat.le_of_ble_eq_true rfl, Nat.le_of_ble_eq_true rfl⟩ rfl (Nat.le_of_ble_eq_true rfl) dX8_isChain_36 ?_
        refine jIfNe C 44 dX8_isChain_39 (by decide) (fun c19 => ?_) (fun c19 => ?_)
        · replace hf := itn hf c19
          refine jIinc C (x2_1 + (1 : Int32)) dX8_isChain_44 2 rfl (congrArg (fun z : Int32 => x2_1 + z) ki_1) (Nat.le_of_ble_eq_true rfl) [(2, .int (x2_1 + (1 : Int32))), (0, .ref (g 28)), (1, .ref (g p1))] rfl ?_
          refine jGoto C 2 dX8_isChain_47 (by decide) ?_
          refine jSub [1, 2, 0] rfl ?_
          exact ir6 (x2_1 + (1 : Int32)) cP_13 cLo_14 cHi_15 hf
        · replace hf := itp hf c19
          refine jIconst C (0 : Int32) dX8_isChain_42 ki_0 ?_
          cases hf
          exact jEndIZ C hQ rfl nar_z0 dX8_isChain_43
  refine jSub [1, 2, 0] rfl ?_
  exact hL5 (0 : Int32) cP cLo cHi hf
noncomputable def X8_newcomers (cP : Nat → Int32) (cLo : Nat → Int64) (cHi : Nat → Int64) (p1 : Nat) (p2 : Int32) (p3 : Int32) : Option (Int32 × (Nat → Int32) × (Nat → Int64) × (Nat → Int64)) := bd3 (X0_becomeReplaced cP cLo cHi 3 p1 p3 p2) (fun cP_1 cLo_2 cHi_3 => bd2 (X0_lose cLo_2 cHi_3 3 p1) (fun cLo_5 cHi_6 => bd1 (X0_size cLo_5 cHi_6 3) (fun q8 => some (q8, cP_1, cLo_5, cHi_6))))
set_option maxHeartbeats 4000000 in
set_option maxRecDepth 20000 in
theorem X8_newcomers_ok {p1 : Nat} {p2 : Int32} {p3 : Int32} {rr : Int32} {ocP : Nat → Int32} {ocLo : Nat → Int64} {ocHi : Nat → Int64} (hp1 : p1 < 28) (hf : X8_newcomers cP cLo cHi p1 p2 p3 = some (rr, ocP, ocLo, ocHi)) : MT yX8_newcomers cX8_newcomers 4 (some .int) 2 [.ref (g 28), .ref (g p1), .int p2, .int p3] D cy G (cw g cy cP cLo cHi cpl ctb ctl ctf ctp ctk cts cth cob col cso cha chs cbe ctr cgl cgh cll clh cta cme cps cwh cal cah) (cw g cy ocP ocLo ocHi cpl ctb ctl ctf ctp ctk cts cth cob col cso cha chs cbe ctr cgl cgh cll clh cta cme cps cwh cal cah) (some (.int rr)) := by
  refine MT.go (own := RX8) [(0, .ref (g 28)), (1, .ref (g p1)), (2, .int p2), (3, .int p3)] (by decide) rfl (Nat.le_of_ble_eq_true rfl) rfl (fun p l e s m args below meth c A Q C hQ => ?_)
  unfold X8_newcomers at hf
  refine jAloadn C dX8_newcomers_0 rfl 0 rfl ?_
  refine gf_RX8_16 C dX8_newcomers_1 ?_
  refine jAloadn C dX8_newcomers_4 rfl 1 rfl ?_
  refine jIloadn C dX8_newcomers_5 rfl 3 rfl ?_
  refine jIloadn C dX8_newcomers_6 rfl 2 rfl ?_
  obtain ⟨cP_1, cLo_2, cHi_3, e4, hf⟩ := bd3_some hf
  refine jVV C (X0_becomeReplaced_ok (by decide) hp1 e4) vb_X0_becomeReplaced mk_RX8_394 rfl (rcF (by decide)) ⟨Nat.le_of_ble_eq_true rfl, Nat.le_of_ble_eq_true rfl⟩ rfl (Nat.le_of_ble_eq_true rfl) dX8_newcomers_7 ?_
  refine jAloadn C dX8_newcomers_10 rfl 0 rfl ?_
  refine gf_RX8_16 C dX8_newcomers_11 ?_
  refine jAloadn C dX8_newcomers_14 rfl 1 rfl ?_
  obtain ⟨cLo_5, cHi_6, e7, hf⟩ := bd2_some hf
  refine jVV C (X0_lose_ok (by decide) hp1 e7) vb_X0_lose mk_RX8_310 rfl (rcF (by decide)) ⟨Nat.le_of_ble_eq_true rfl, Nat.le_of_ble_eq_true rfl⟩ rfl (Nat.le_of_ble_eq_true rfl) dX8_newcomers_15 ?_
  refine jAloadn C dX8_newcomers_18 rfl 0 rfl ?_
  refine gf_RX8_16 C dX8_newcomers_19 ?_
  obtain ⟨q8, e9, hf⟩ := bd1_some hf
  refine jVI C (X0_size_ok (by decide) e9) vb_X0_size mk_RX8_236 rfl (rcF (by decide)) ⟨Nat.le_of_ble_eq_true rfl, Nat.le_of_ble_eq_true rfl⟩ rfl (Nat.le_of_ble_eq_true rfl) dX8_newcomers_22 ?_
  cases hf
  exact jEndI C hQ rfl dX8_newcomers_25
noncomputable def X8_changingShifts_h17 (p1 : Nat) (r7 : Int32 → Int32 → (Nat → Int32) → (Nat → Int64) → (Nat → Int64) → Option (Int32 × (Nat → Int32) × (Nat → Int64) × (Nat → Int64))) (x3_2 : Int32) (r15 : Int32 → Int32 → (Nat → Int32) → (Nat → Int64) → (Nat → Int64) → Option (Int32 × (Nat → Int32) × (Nat → Int64) × (Nat → Int64))) (x2_9 : Int32) (x4_10 : Int32) (cP_11 : Nat → Int32) (cLo_12 : Nat → Int64) (cHi_13 : Nat → Int64) : Option (Int32 × (Nat → Int32) × (Nat → Int64) × (Nat → Int64)) := (if (cP_11 p1) ≤ x4_10 then r7 x2_9 (x3_2 + (1 : Int32)) cP_11 cLo_12 cHi_13 else bd4 (X8_newcomers cP_11 cLo_12 cHi_13 p1 x3_2 x4_10) (fun q17 cP_18 cLo_19 cHi_20 => (if q17 ≤ (0 : Int32) then r15 x2_9 (x4_10 + (1 : Int32)) cP_18 cLo_19 cHi_20 else r15 (x2_9 + (1 : Int32)) (x4_10 + (1 : Int32)) cP_18 cLo_19 cHi_20)))
noncomputable def X8_changingShifts_h4 (p1 : Nat) (r7 : Int32 → Int32 → (Nat → Int32) → (Nat → Int64) → (Nat → Int64) → Option (Int32 × (Nat → Int32) × (Nat → Int64) × (Nat → Int64))) (x2_1 : Int32) (x3_2 : Int32) (cP_3 : Nat → Int32) (cLo_4 : Nat → Int64) (cHi_5 : Nat → Int64) : Option (Int32 × (Nat → Int32) × (Nat → Int64) × (Nat → Int64)) := (if (cP_3 p1) ≤ x3_2 then some (x2_1, cP_3, cLo_4, cHi_5) else lfp5 (X8_changingShifts_h17 p1 r7 x3_2) x2_1 (x3_2 + (1 : Int32)) cP_3 cLo_4 cHi_5)
noncomputable def X8_changingShifts (cP : Nat → Int32) (cLo : Nat → Int64) (cHi : Nat → Int64) (p1 : Nat) : Option (Int32 × (Nat → Int32) × (Nat → Int64) × (Nat → Int64)) := lfp5 (X8_changingShifts_h4 p1) (0 : Int32) (0 : Int32) cP cLo cHi
set_option maxHeartbeats 4000000 in
set_option maxRecDepth 20000 in
theorem X8_changingShifts_ok {p1 : Nat} {rr : Int32} {ocP : Nat → Int32} {ocLo : Nat → Int64} {ocHi : Nat → Int64} (hp1 : p1 < 28) (hf : X8_changingShifts cP cLo cHi p1 = some (rr, ocP, ocLo, ocHi)) : MT yX8_changingShifts cX8_changingShifts 5 (some .int) 3 [.ref (g 28), .ref (g p1)] D cy G (cw g cy cP cLo cHi cpl ctb ctl ctf ctp ctk cts cth cob col cso cha chs cbe ctr cgl cgh cll clh cta cme cps cwh cal cah) (cw g cy ocP ocLo ocHi cpl ctb ctl ctf ctp ctk cts cth cob col cso cha chs cbe ctr cgl cgh cll clh cta cme cps cwh cal cah) (some (.int rr)) := by
  refine MT.go (own := RX8) [(0, .ref (g 28)), (1, .ref (g p1))] (by decide) rfl (Nat.le_of_ble_eq_true rfl) rfl (fun p l e s m args below meth c A Q C hQ => ?_)
  unfold X8_changingShifts at hf
  refine jIconst C (0 : Int32) dX8_changingShifts_0 ki_0 ?_
  refine jIstoren C dX8_changingShifts_1 rfl (Nat.le_of_ble_eq_true rfl) [(2, .int (0 : Int32)), (0, .ref (g 28)), (1, .ref (g p1))] rfl ?_
  refine jIconst C (0 : Int32) dX8_changingShifts_2 ki_0 ?_
  refine jIstoren C dX8_changingShifts_3 rfl (Nat.le_of_ble_eq_true rfl) [(3, .int (0 : Int32)), (2, .int (0 : Int32)), (0, .ref (g 28)), (1, .ref (g p1))] rfl ?_
  have hL6 : ∀ (x2_1 : Int32) (x3_2 : Int32) (cP_3 : Nat → Int32) (cLo_4 : Nat → Int64) (cHi_5 : Nat → Int64), lfp5 (X8_changingShifts_h4 p1) x2_1 x3_2 cP_3 cLo_4 cHi_5 = some (rr, ocP, ocLo, ocHi) → J p l e (rmk 3) s m args below meth c D A Q 5 (cw g cy cP_3 cLo_4 cHi_5 cpl ctb ctl ctf ctp ctk cts cth cob col cso cha chs cbe ctr cgl cgh cll clh cta cme cps cwh cal cah) 4 [(0, .ref (g 28)), (1, .ref (g p1)), (2, .int x2_1), (3, .int x3_2)] [] := by
    intro x2_1 x3_2 cP_3 cLo_4 cHi_5 hw
    refine lfp5_walk (P := fun x2_1 x3_2 cP_3 cLo_4 cHi_5 => J p l e (rmk 3) s m args below meth c D A Q 5 (cw g cy cP_3 cLo_4 cHi_5 cpl ctb ctl ctf ctp ctk cts cth cob col cso cha chs cbe ctr cgl cgh cll clh cta cme cps cwh cal cah) 4 [(0, .ref (g 28)), (1, .ref (g p1)), (2, .int x2_1), (3, .int x3_2)] []) ?_ hw
    intro r7 ir7 x2_1 x3_2 cP_3 cLo_4 cHi_5 hf
    unfold X8_changingShifts_h4 at hf
    refine jIloadn C dX8_changingShifts_4 rfl 3 rfl ?_
    refine jAloadn C dX8_changingShifts_5 rfl 1 rfl ?_
    refine gf_RX8_133 C hp1 dX8_changingShifts_6 ?_
    refine jCmpGe C 52 dX8_changingShifts_9 (by decide) (fun c8 => ?_) (fun c8 => ?_)
    · replace hf := itp hf c8
      refine jIloadn C dX8_changingShifts_52 rfl 2 rfl ?_
      cases hf
      exact jEndI C hQ rfl dX8_changingShifts_53
    · replace hf := itn hf c8
      refine jIloadn C dX8_changingShifts_12 rfl 3 rfl ?_
      refine jIconst C (1 : Int32) dX8_changingShifts_13 ki_1 ?_
      refine jIadd C dX8_changingShifts_14 ?_
      refine jIstore C dX8_changingShifts_15 (Nat.le_of_ble_eq_true rfl) [(4, .int (x3_2 + (1 : Int32))), (0, .ref (g 28)), (1, .ref (g p1)), (2, .int x2_1), (3, .int x3_2)] rfl ?_
      have hL14 : ∀ (x2_9 : Int32) (x4_10 : Int32) (cP_11 : Nat → Int32) (cLo_12 : Nat → Int64) (cHi_13 : Nat → Int64), lfp5 (X8_changingShifts_h17 p1 r7 x3_2) x2_9 x4_10 cP_11 cLo_12 cHi_13 = some (rr, ocP, ocLo, ocHi) → J p l e (rmk 3) s m args below meth c D A Q 5 (cw g cy cP_11 cLo_12 cHi_13 cpl ctb ctl ctf ctp ctk cts cth cob col cso cha chs cbe ctr cgl cgh cll clh cta cme cps cwh cal cah) 17 [(0, .ref (g 28)), (1, .ref (g p1)), (2, .int x2_9), (3, .int x3_2), (4, .int x4_10)] [] := by
        intro x2_9 x4_10 cP_11 cLo_12 cHi_13 hw
        refine lfp5_walk (P := fun x2_9 x4_10 cP_11 cLo_12 cHi_13 => J p l e (rmk 3) s m args below meth c D A Q 5 (cw g cy cP_11 cLo_12 cHi_13 cpl ctb ctl ctf ctp ctk cts cth cob col cso cha chs cbe ctr cgl cgh cll clh cta cme cps cwh cal cah) 17 [(0, .ref (g 28)), (1, .ref (g p1)), (2, .int x2_9), (3, .int x3_2), (4, .int x4_10)] []) ?_ hw
        intro r15 ir15 x2_9 x4_10 cP_11 cLo_12 cHi_13 hf
        unfold X8_changingShifts_h17 at hf
        refine jIload C dX8_changingShifts_17 4 rfl ?_
        refine jAloadn C dX8_changingShifts_19 rfl 1 rfl ?_
        refine gf_RX8_133 C hp1 dX8_changingShifts_20 ?_
        refine jCmpGe C 46 dX8_changingShifts_23 (by decide) (fun c16 => ?_) (fun c16 => ?_)
        · replace hf := itp hf c16
          refine jIinc C (x3_2 + (1 : Int32)) dX8_changingShifts_46 3 rfl (congrArg (fun z : Int32 => x3_2 + z) ki_1) (Nat.le_of_ble_eq_true rfl) [(3, .int (x3_2 + (1 : Int32))), (0, .ref (g 28)), (1, .ref (g p1)), (2, .int x2_9), (4, .int x4_10)] rfl ?_
          refine jGoto C 4 dX8_changingShifts_49 (by decide) ?_
          refine jSub [1, 2, 3, 0] rfl ?_
          exact ir7 x2_9 (x3_2 + (1 : Int32)) cP_11 cLo_12 cHi_13 hf
        · replace hf := itn hf c16
          refine jAloadn C dX8_changingShifts_26 rfl 0 rfl ?_
          refine jAloadn C dX8_changingShifts_27 rfl 1 rfl ?_
          refine jIloadn C dX8_changingShifts_28 rfl 3 rfl ?_
          refine jIload C dX8_changingShifts_29 4 rfl ?_
          obtain ⟨q17, cP_18, cLo_19, cHi_20, e21, hf⟩ := bd4_some hf
          refine jVI C (X8_newcomers_ok hp1 e21) vb_X8_newcomers mk_RX8_167 rfl rc28 ⟨Nat.le_of_ble_eq_true rfl, Nat.le_of_ble_eq_true rfl⟩ rfl (Nat.le_of_ble_eq_true rfl) dX8_changingShifts_31 ?_
          refine jIfLe C 40 dX8_changingShifts_34 (by decide) (fun c22 => ?_) (fun c22 => ?_)
          · replace hf := itp hf c22
            refine jIinc C (x4_10 + (1 : Int32)) dX8_changingShifts_40 4 rfl (congrArg (fun z : Int32 => x4_10 + z) ki_1) (Nat.le_of_ble_eq_true rfl) [(4, .int (x4_10 + (1 : Int32))), (0, .ref (g 28)), (1, .ref (g p1)), (2, .int x2_9), (3, .int x3_2)] rfl ?_
            refine jGoto C 17 dX8_changingShifts_43 (by decide) ?_
            refine jSub [1, 2, 3, 4, 0] rfl ?_
            exact ir15 x2_9 (x4_10 + (1 : Int32)) cP_18 cLo_19 cHi_20 hf
          · replace hf := itn hf c22
            refine jIinc C (x2_9 + (1 : Int32)) dX8_changingShifts_37 2 rfl (congrArg (fun z : Int32 => x2_9 + z) ki_1) (Nat.le_of_ble_eq_true rfl) [(2, .int (x2_9 + (1 : Int32))), (0, .ref (g 28)), (1, .ref (g p1)), (3, .int x3_2), (4, .int x4_10)] rfl ?_
            refine jIinc C (x4_10 + (1 : Int32)) dX8_changingShifts_40 4 rfl (congrArg (fun z : Int32 => x4_10 + z) ki_1) (Nat.le_of_ble_eq_true rfl) [(4, .int (x4_10 + (1 : Int32))), (2, .int (x2_9 + (1 : Int32))), (0, .ref (g 28)), (1, .ref (g p1)), (3, .int x3_2)] rfl ?_
            refine jGoto C 17 dX8_changingShifts_43 (by decide) ?_
            refine jSub [2, 3, 1, 4, 0] rfl ?_
            exact ir15 (x2_9 + (1 : Int32)) (x4_10 + (1 : Int32)) cP_18 cLo_19 cHi_20 hf
      refine jSub [1, 2, 3, 4, 0] rfl ?_
      exact hL14 x2_1 (x3_2 + (1 : Int32)) cP_3 cLo_4 cHi_5 hf
  refine jSub [2, 3, 1, 0] rfl ?_
  exact hL6 (0 : Int32) (0 : Int32) cP cLo cHi hf
noncomputable def X8_collectMeets_h13 (p1 : Nat) (r10 : Int32 → (Nat → Int32) → (Nat → Int64) → (Nat → Int64) → Option ((Nat → Int32) × (Nat → Int64) × (Nat → Int64))) (x2_5 : Int32) (cP_6 : Nat → Int32) (cLo_7 : Nat → Int64) (cHi_8 : Nat → Int64) : Option ((Nat → Int32) × (Nat → Int64) × (Nat → Int64)) := bd1 (X0_span cP_6 p1) (fun q11 => (if q11 ≤ x2_5 then some (cP_6, cLo_7, cHi_8) else bd1 (X0_holds cLo_7 cHi_8 p1 x2_5) (fun q14 => (if q14 = (0 : Int32) then r10 (x2_5 + (1 : Int32)) cP_6 cLo_7 cHi_8 else bd3 (X0_become cP_6 cLo_7 cHi_8 4 p1) (fun cP_17 cLo_18 cHi_19 => bd2 (X0_cutTo cP_17 cLo_18 cHi_19 4 x2_5) (fun cLo_21 cHi_22 => bd2 (X0_join cLo_21 cHi_22 3 4) (fun cLo_24 cHi_25 => r10 (x2_5 + (1 : Int32)) cP_17 cLo_24 cHi_25)))))))
noncomputable def X8_collectMeets (cP : Nat → Int32) (cLo : Nat → Int64) (cHi : Nat → Int64) (p1 : Nat) : Option ((Nat → Int32) × (Nat → Int64) × (Nat → Int64)) := bd3 (X0_clear cP cLo cHi 3 (cP p1)) (fun cP_1 cLo_2 cHi_3 => lfp4 (X8_collectMeets_h13 p1) (0 : Int32) cP_1 cLo_2 cHi_3)
set_option maxHeartbeats 4000000 in
set_option maxRecDepth 20000 in
theorem X8_collectMeets_ok {p1 : Nat} {ocP : Nat → Int32} {ocLo : Nat → Int64} {ocHi : Nat → Int64} (hp1 : p1 < 28) (hf : X8_collectMeets cP cLo cHi p1 = some (ocP, ocLo, ocHi)) : MT yX8_collectMeets cX8_collectMeets 3 none 2 [.ref (g 28), .ref (g p1)] D cy G (cw g cy cP cLo cHi cpl ctb ctl ctf ctp ctk cts cth cob col cso cha chs cbe ctr cgl cgh cll clh cta cme cps cwh cal cah) (cw g cy ocP ocLo ocHi cpl ctb ctl ctf ctp ctk cts cth cob col cso cha chs cbe ctr cgl cgh cll clh cta cme cps cwh cal cah) none := by
  refine MT.go (own := RX8) [(0, .ref (g 28)), (1, .ref (g p1))] (by decide) rfl (Nat.le_of_ble_eq_true rfl) rfl (fun p l e s m args below meth c A Q C hQ => ?_)
  unfold X8_collectMeets at hf
  refine jAloadn C dX8_collectMeets_0 rfl 0 rfl ?_
  refine gf_RX8_16 C dX8_collectMeets_1 ?_
  refine jAloadn C dX8_collectMeets_4 rfl 1 rfl ?_
  refine gf_RX8_133 C hp1 dX8_collectMeets_5 ?_
  obtain ⟨cP_1, cLo_2, cHi_3, e4, hf⟩ := bd3_some hf
  refine jVV C (X0_clear_ok (by decide) e4) vb_X0_clear mk_RX8_146 rfl (rcF (by decide)) ⟨Nat.le_of_ble_eq_true rfl, Nat.le_of_ble_eq_true rfl⟩ rfl (Nat.le_of_ble_eq_true rfl) dX8_collectMeets_8 ?_
  refine jIconst C (0 : Int32) dX8_collectMeets_11 ki_0 ?_
  refine jIstoren C dX8_collectMeets_12 rfl (Nat.le_of_ble_eq_true rfl) [(2, .int (0 : Int32)), (0, .ref (g 28)), (1, .ref (g p1))] rfl ?_
  have hL9 : ∀ (x2_5 : Int32) (cP_6 : Nat → Int32) (cLo_7 : Nat → Int64) (cHi_8 : Nat → Int64), lfp4 (X8_collectMeets_h13 p1) x2_5 cP_6 cLo_7 cHi_8 = some (ocP, ocLo, ocHi) → J p l e (rmk 2) s m args below meth c D A Q 3 (cw g cy cP_6 cLo_7 cHi_8 cpl ctb ctl ctf ctp ctk cts cth cob col cso cha chs cbe ctr cgl cgh cll clh cta cme cps cwh cal cah) 13 [(0, .ref (g 28)), (1, .ref (g p1)), (2, .int x2_5)] [] := by
    intro x2_5 cP_6 cLo_7 cHi_8 hw
    refine lfp4_walk (P := fun x2_5 cP_6 cLo_7 cHi_8 => J p l e (rmk 2) s m args below meth c D A Q 3 (cw g cy cP_6 cLo_7 cHi_8 cpl ctb ctl ctf ctp ctk cts cth cob col cso cha chs cbe ctr cgl cgh cll clh cta cme cps cwh cal cah) 13 [(0, .ref (g 28)), (1, .ref (g p1)), (2, .int x2_5)] []) ?_ hw
    intro r10 ir10 x2_5 cP_6 cLo_7 cHi_8 hf
    unfold X8_collectMeets_h13 at hf
    refine jIloadn C dX8_collectMeets_13 rfl 2 rfl ?_
    refine jAloadn C dX8_collectMeets_14 rfl 1 rfl ?_
    obtain ⟨q11, e12, hf⟩ := bd1_some hf
    refine jVI C (X0_span_ok hp1 e12) vb_X0_span mk_RX8_270 rfl (rcF hp1) ⟨Nat.le_of_ble_eq_true rfl, Nat.le_of_ble_eq_true rfl⟩ rfl (Nat.le_of_ble_eq_true rfl) dX8_collectMeets_15 ?_
    refine jCmpGe C 62 dX8_collectMeets_18 (by decide) (fun c13 => ?_) (fun c13 => ?_)
    · replace hf := itp hf c13
      cases hf
      exact jEndV C hQ rfl dX8_collectMeets_62
    · replace hf := itn hf c13
      refine jAloadn C dX8_collectMeets_21 rfl 1 rfl ?_
      refine jIloadn C dX8_collectMeets_22 rfl 2 rfl ?_
      obtain ⟨q14, e15, hf⟩ := bd1_some hf
      refine jVI C (X0_holds_ok hp1 e15) vb_X0_holds mk_RX8_120 rfl (rcF hp1) ⟨Nat.le_of_ble_eq_true rfl, Nat.le_of_ble_eq_true rfl⟩ rfl (Nat.le_of_ble_eq_true rfl) dX8_collectMeets_23 ?_
      refine jIfEq C 56 dX8_collectMeets_26 (by decide) (fun c16 => ?_) (fun c16 => ?_)
      · replace hf := itp hf c16
        refine jIinc C (x2_5 + (1 : Int32)) dX8_collectMeets_56 2 rfl (congrArg (fun z : Int32 => x2_5 + z) ki_1) (Nat.le_of_ble_eq_true rfl) [(2, .int (x2_5 + (1 : Int32))), (0, .ref (g 28)), (1, .ref (g p1))] rfl ?_
        refine jGoto C 13 dX8_collectMeets_59 (by decide) ?_
        refine jSub [1, 2, 0] rfl ?_
        exact ir10 (x2_5 + (1 : Int32)) cP_6 cLo_7 cHi_8 hf
      · replace hf := itn hf c16
        refine jAloadn C dX8_collectMeets_29 rfl 0 rfl ?_
        refine gf_RX8_20 C dX8_collectMeets_30 ?_
        refine jAloadn C dX8_collectMeets_33 rfl 1 rfl ?_
        obtain ⟨cP_17, cLo_18, cHi_19, e20, hf⟩ := bd3_some hf
        refine jVV C (X0_become_ok (by decide) hp1 e20) vb_X0_become mk_RX8_152 rfl (rcF (by decide)) ⟨Nat.le_of_ble_eq_true rfl, Nat.le_of_ble_eq_true rfl⟩ rfl (Nat.le_of_ble_eq_true rfl) dX8_collectMeets_34 ?_
        refine jAloadn C dX8_collectMeets_37 rfl 0 rfl ?_
        refine gf_RX8_20 C dX8_collectMeets_38 ?_
        refine jIloadn C dX8_collectMeets_41 rfl 2 rfl ?_
        obtain ⟨cLo_21, cHi_22, e23, hf⟩ := bd2_some hf
        refine jVV C (X0_cutTo_ok (by decide) e23) vb_X0_cutTo mk_RX8_325 rfl (rcF (by decide)) ⟨Nat.le_of_ble_eq_true rfl, Nat.le_of_ble_eq_true rfl⟩ rfl (Nat.le_of_ble_eq_true rfl) dX8_collectMeets_42 ?_
        refine jAloadn C dX8_collectMeets_45 rfl 0 rfl ?_
        refine gf_RX8_16 C dX8_collectMeets_46 ?_
        refine jAloadn C dX8_collectMeets_49 rfl 0 rfl ?_
        refine gf_RX8_20 C dX8_collectMeets_50 ?_
        obtain ⟨cLo_24, cHi_25, e26, hf⟩ := bd2_some hf
        refine jVV C (X0_join_ok (by decide) (by decide) e26) vb_X0_join mk_RX8_286 rfl (rcF (by decide)) ⟨Nat.le_of_ble_eq_true rfl, Nat.le_of_ble_eq_true rfl⟩ rfl (Nat.le_of_ble_eq_true rfl) dX8_collectMeets_53 ?_
        refine jIinc C (x2_5 + (1 : Int32)) dX8_collectMeets_56 2 rfl (congrArg (fun z : Int32 => x2_5 + z) ki_1) (Nat.le_of_ble_eq_true rfl) [(2, .int (x2_5 + (1 : Int32))), (0, .ref (g 28)), (1, .ref (g p1))] rfl ?_
        refine jGoto C 13 dX8_collectMeets_59 (by decide) ?_
        refine jSub [1, 2, 0] rfl ?_
        exact ir10 (x2_5 + (1 : Int32)) cP_17 cLo_24 cHi_25 hf
  refine jSub [1, 2, 0] rfl ?_
  exact hL9 (0 : Int32) cP_1 cLo_2 cHi_3 hf
noncomputable def X8_isSuch (cP : Nat → Int32) (cLo : Nat → Int64) (cHi : Nat → Int64) (p1 : Nat) (p2 : Int32) : Option (Int32 × (Nat → Int32) × (Nat → Int64) × (Nat → Int64)) := (if p2 = (0 : Int32) then bd3 (X0_become cP cLo cHi 3 p1) (fun cP_2 cLo_3 cHi_4 => bd4 (X8_allAnswer cP_2 cLo_3 cHi_4 3 p1) (fun q6 cP_7 cLo_8 cHi_9 => gbo q6 (some (q6, cP_7, cLo_8, cHi_9)))) else (if p2 = (1 : Int32) then bd1 (X0_leastLevel cP cLo cHi p1) (fun q13 => bd1 (X0_greatestLevel cP cLo cHi p1) (fun q15 => (if q13 = q15 then some ((1 : Int32), cP, cLo, cHi) else some ((0 : Int32), cP, cLo, cHi)))) else (if p2 = (2 : Int32) then bd4 (X8_makesItself cP cLo cHi p1 (2 : Int32)) (fun q19 cP_20 cLo_21 cHi_22 => gbo q19 (some (q19, cP_20, cLo_21, cHi_22))) else (if p2 = (3 : Int32) then bd4 (X8_makesItself cP cLo cHi p1 (3 : Int32)) (fun q26 cP_27 cLo_28 cHi_29 => gbo q26 (some (q26, cP_27, cLo_28, cHi_29))) else (if p2 = (4 : Int32) then bd4 (X8_isChain cP cLo cHi p1) (fun q33 cP_34 cLo_35 cHi_36 => gbo q33 (some (q33, cP_34, cLo_35, cHi_36))) else (if p2 = (5 : Int32) then bd4 (X8_makesItself cP cLo cHi p1 (7 : Int32)) (fun q40 cP_41 cLo_42 cHi_43 => gbo q40 (some (q40, cP_41, cLo_42, cHi_43))) else (if p2 = (6 : Int32) then bd1 (X0_pointsOfAll cP cLo cHi p1) (fun q47 => (if q47 = (0 : Int32) then some ((0 : Int32), cP, cLo, cHi) else some ((1 : Int32), cP, cLo, cHi))) else (if p2 = (7 : Int32) then bd4 (X8_changingShifts cP cLo cHi p1) (fun q51 cP_52 cLo_53 cHi_54 => (if q51 = (0 : Int32) then some ((1 : Int32), cP_52, cLo_53, cHi_54) else some ((0 : Int32), cP_52, cLo_53, cHi_54))) else (if p2 = (8 : Int32) then bd3 (X8_collectMeets cP cLo cHi p1) (fun cP_58 cLo_59 cHi_60 => bd4 (X8_allAnswer cP_58 cLo_59 cHi_60 3 p1) (fun q62 cP_63 cLo_64 cHi_65 => gbo q62 (some (q62, cP_63, cLo_64, cHi_65)))) else (if p2 = (9 : Int32) then bd4 (X8_makesItself cP cLo cHi p1 (5 : Int32)) (fun q69 cP_70 cLo_71 cHi_72 => gbo q69 (some (q69, cP_70, cLo_71, cHi_72))) else bd4 (X8_makesItself cP cLo cHi p1 (6 : Int32)) (fun q75 cP_76 cLo_77 cHi_78 => gbo q75 (some (q75, cP_76, cLo_77, cHi_78)))))))))))))
set_option maxHeartbeats 4000000 in
set_option maxRecDepth 20000 in
theorem X8_isSuch_ok {p1 : Nat} {p2 : Int32} {rr : Int32} {ocP : Nat → Int32} {ocLo : Nat → Int64} {ocHi : Nat → Int64} (hp1 : p1 < 28) (hf : X8_isSuch cP cLo cHi p1 p2 = some (rr, ocP, ocLo, ocHi)) : MT yX8_isSuch cX8_isSuch 3 (some .boolean) 5 [.ref (g 28), .ref (g p1), .int p2] D cy G (cw g cy cP cLo cHi cpl ctb ctl ctf ctp ctk cts cth cob col cso cha chs cbe ctr cgl cgh cll clh cta cme cps cwh cal cah) (cw g cy ocP ocLo ocHi cpl ctb ctl ctf ctp ctk cts cth cob col cso cha chs cbe ctr cgl cgh cll clh cta cme cps cwh cal cah) (some (.int rr)) := by
  refine MT.go (own := RX8) [(0, .ref (g 28)), (1, .ref (g p1)), (2, .int p2)] (by decide) rfl (Nat.le_of_ble_eq_true rfl) rfl (fun p l e s m args below meth c A Q C hQ => ?_)
  unfold X8_isSuch at hf
  refine jIloadn C dX8_isSuch_0 rfl 2 rfl ?_
  by_cases c1 : p2 = (0 : Int32)
  · replace hf := itp hf c1
    refine jTabIn C 56 dX8_isSuch_1 (by rw [c1]; decide) (by rw [c1]; decide) (by rw [c1]; rfl) (by decide) ?_
    refine jAloadn C dX8_isSuch_56 rfl 0 rfl ?_
    refine gf_RX8_16 C dX8_isSuch_57 ?_
    refine jAloadn C dX8_isSuch_60 rfl 1 rfl ?_
    obtain ⟨cP_2, cLo_3, cHi_4, e5, hf⟩ := bd3_some hf
    refine jVV C (X0_become_ok (by decide) hp1 e5) vb_X0_become mk_RX8_152 rfl (rcF (by decide)) ⟨Nat.le_of_ble_eq_true rfl, Nat.le_of_ble_eq_true rfl⟩ rfl (Nat.le_of_ble_eq_true rfl) dX8_isSuch_61 ?_
    refine jAloadn C dX8_isSuch_64 rfl 0 rfl ?_
    refine jAloadn C dX8_isSuch_65 rfl 0 rfl ?_
    refine gf_RX8_16 C dX8_isSuch_66 ?_
    refine jAloadn C dX8_isSuch_69 rfl 1 rfl ?_
    obtain ⟨q6, cP_7, cLo_8, cHi_9, e10, hf⟩ := bd4_some hf
    refine jVI C (X8_allAnswer_ok (by decide) hp1 e10) vb_X8_allAnswer mk_RX8_350 rfl rc28 ⟨Nat.le_of_ble_eq_true rfl, Nat.le_of_ble_eq_true rfl⟩ rfl (Nat.le_of_ble_eq_true rfl) dX8_isSuch_70 ?_
    obtain ⟨z11, hf⟩ := gbo_some hf
    cases hf
    exact jEndIZ C hQ rfl z11 dX8_isSuch_73
  replace hf := itn hf c1
  by_cases c12 : p2 = (1 : Int32)
  · replace hf := itp hf c12
    refine jTabIn C 74 dX8_isSuch_1 (by rw [c12]; decide) (by rw [c12]; decide) (by rw [c12]; rfl) (by decide) ?_
    refine jAloadn C dX8_isSuch_74 rfl 1 rfl ?_
    obtain ⟨q13, e14, hf⟩ := bd1_some hf
    refine jVI C (X0_leastLevel_ok hp1 e14) vb_X0_leastLevel mk_RX8_221 rfl (rcF hp1) ⟨Nat.le_of_ble_eq_true rfl, Nat.le_of_ble_eq_true rfl⟩ rfl (Nat.le_of_ble_eq_true rfl) dX8_isSuch_75 ?_
    refine jAloadn C dX8_isSuch_78 rfl 1 rfl ?_
    obtain ⟨q15, e16, hf⟩ := bd1_some hf
    refine jVI C (X0_greatestLevel_ok hp1 e16) vb_X0_greatestLevel mk_RX8_273 rfl (rcF hp1) ⟨Nat.le_of_ble_eq_true rfl, Nat.le_of_ble_eq_true rfl⟩ rfl (Nat.le_of_ble_eq_true rfl) dX8_isSuch_79 ?_
    refine jCmpNe C 89 dX8_isSuch_82 (by decide) (fun c17 => ?_) (fun c17 => ?_)
    · replace hf := itn hf c17
      refine jIconst C (0 : Int32) dX8_isSuch_89 ki_0 ?_
      cases hf
      exact jEndIZ C hQ rfl nar_z0 dX8_isSuch_90
    · replace hf := itp hf c17
      refine jIconst C (1 : Int32) dX8_isSuch_85 ki_1 ?_
      refine jGoto C 90 dX8_isSuch_86 (by decide) ?_
      cases hf
      exact jEndIZ C hQ rfl nar_z1 dX8_isSuch_90
  replace hf := itn hf c12
  by_cases c18 : p2 = (2 : Int32)
  · replace hf := itp hf c18
    refine jTabIn C 91 dX8_isSuch_1 (by rw [c18]; decide) (by rw [c18]; decide) (by rw [c18]; rfl) (by decide) ?_
    refine jAloadn C dX8_isSuch_91 rfl 0 rfl ?_
    refine jAloadn C dX8_isSuch_92 rfl 1 rfl ?_
    refine jIconst C (2 : Int32) dX8_isSuch_93 ki_2 ?_
    obtain ⟨q19, cP_20, cLo_21, cHi_22, e23, hf⟩ := bd4_some hf
    refine jVI C (X8_makesItself_ok hp1 e23) vb_X8_makesItself mk_RX8_354 rfl rc28 ⟨Nat.le_of_ble_eq_true rfl, Nat.le_of_ble_eq_true rfl⟩ rfl (Nat.le_of_ble_eq_true rfl) dX8_isSuch_94 ?_
    obtain ⟨z24, hf⟩ := gbo_some hf
    cases hf
    exact jEndIZ C hQ rfl z24 dX8_isSuch_97
  replace hf := itn hf c18
  by_cases c25 : p2 = (3 : Int32)
  · replace hf := itp hf c25
    refine jTabIn C 98 dX8_isSuch_1 (by rw [c25]; decide) (by rw [c25]; decide) (by rw [c25]; rfl) (by decide) ?_
    refine jAloadn C dX8_isSuch_98 rfl 0 rfl ?_
    refine jAloadn C dX8_isSuch_99 rfl 1 rfl ?_
    refine jIconst C (3 : Int32) dX8_isSuch_100 ki_3 ?_
    obtain ⟨q26, cP_27, cLo_28, cHi_29, e30, hf⟩ := bd4_some hf
    refine jVI C (X8_makesItself_ok hp1 e30) vb_X8_makesItself mk_RX8_354 rfl rc28 ⟨Nat.le_of_ble_eq_true rfl, Nat.le_of_ble_eq_true rfl⟩ rfl (Nat.le_of_ble_eq_true rfl) dX8_isSuch_101 ?_
    obtain ⟨z31, hf⟩ := gbo_some hf
    cases hf
    exact jEndIZ C hQ rfl z31 dX8_isSuch_104
  replace hf := itn hf c25
  by_cases c32 : p2 = (4 : Int32)
  · replace hf := itp hf c32
    refine jTabIn C 105 dX8_isSuch_1 (by rw [c32]; decide) (by rw [c32]; decide) (by rw [c32]; rfl) (by decide) ?_
    refine jAloadn C dX8_isSuch_105 rfl 0 rfl ?_
    refine jAloadn C dX8_isSuch_106 rfl 1 rfl ?_
    obtain ⟨q33, cP_34, cLo_35, cHi_36, e37, hf⟩ := bd4_some hf
    refine jVI C (X8_isChain_ok hp1 e37) vb_X8_isChain mk_RX8_357 rfl rc28 ⟨Nat.le_of_ble_eq_true rfl, Nat.le_of_ble_eq_true rfl⟩ rfl (Nat.le_of_ble_eq_true rfl) dX8_isSuch_107 ?_
    obtain ⟨z38, hf⟩ := gbo_some hf
    cases hf
    exact jEndIZ C hQ rfl z38 dX8_isSuch_110
  replace hf := itn hf c32
  by_cases c39 : p2 = (5 : Int32)
  · replace hf := itp hf c39
    refine jTabIn C 111 dX8_isSuch_1 (by rw [c39]; decide) (by rw [c39]; decide) (by rw [c39]; rfl) (by decide) ?_
    refine jAloadn C dX8_isSuch_111 rfl 0 rfl ?_
    refine jAloadn C dX8_isSuch_112 rfl 1 rfl ?_
    refine jBipush C (7 : Int32) dX8_isSuch_113 kb_7 ?_
    obtain ⟨q40, cP_41, cLo_42, cHi_43, e44, hf⟩ := bd4_some hf
    refine jVI C (X8_makesItself_ok hp1 e44) vb_X8_makesItself mk_RX8_354 rfl rc28 ⟨Nat.le_of_ble_eq_true rfl, Nat.le_of_ble_eq_true rfl⟩ rfl (Nat.le_of_ble_eq_true rfl) dX8_isSuch_115 ?_
    obtain ⟨z45, hf⟩ := gbo_some hf
    cases hf
    exact jEndIZ C hQ rfl z45 dX8_isSuch_118
  replace hf := itn hf c39
  by_cases c46 : p2 = (6 : Int32)
  · replace hf := itp hf c46
    refine jTabIn C 119 dX8_isSuch_1 (by rw [c46]; decide) (by rw [c46]; decide) (by rw [c46]; rfl) (by decide) ?_
    refine jAloadn C dX8_isSuch_119 rfl 1 rfl ?_
    obtain ⟨q47, e48, hf⟩ := bd1_some hf
    refine jVI C (X0_pointsOfAll_ok hp1 e48) vb_X0_pointsOfAll mk_RX8_347 rfl (rcF hp1) ⟨Nat.le_of_ble_eq_true rfl, Nat.le_of_ble_eq_true rfl⟩ rfl (Nat.le_of_ble_eq_true rfl) dX8_isSuch_120 ?_
    refine jIfEq C 130 dX8_isSuch_123 (by decide) (fun c49 => ?_) (fun c49 => ?_)
    · replace hf := itp hf c49
      refine jIconst C (0 : Int32) dX8_isSuch_130 ki_0 ?_
      cases hf
      exact jEndIZ C hQ rfl nar_z0 dX8_isSuch_131
    · replace hf := itn hf c49
      refine jIconst C (1 : Int32) dX8_isSuch_126 ki_1 ?_
      refine jGoto C 131 dX8_isSuch_127 (by decide) ?_
      cases hf
      exact jEndIZ C hQ rfl nar_z1 dX8_isSuch_131
  replace hf := itn hf c46
  by_cases c50 : p2 = (7 : Int32)
  · replace hf := itp hf c50
    refine jTabIn C 132 dX8_isSuch_1 (by rw [c50]; decide) (by rw [c50]; decide) (by rw [c50]; rfl) (by decide) ?_
    refine jAloadn C dX8_isSuch_132 rfl 0 rfl ?_
    refine jAloadn C dX8_isSuch_133 rfl 1 rfl ?_
    obtain ⟨q51, cP_52, cLo_53, cHi_54, e55, hf⟩ := bd4_some hf
    refine jVI C (X8_changingShifts_ok hp1 e55) vb_X8_changingShifts mk_RX8_313 rfl rc28 ⟨Nat.le_of_ble_eq_true rfl, Nat.le_of_ble_eq_true rfl⟩ rfl (Nat.le_of_ble_eq_true rfl) dX8_isSuch_134 ?_
    refine jIfNe C 144 dX8_isSuch_137 (by decide) (fun c56 => ?_) (fun c56 => ?_)
    · replace hf := itn hf c56
      refine jIconst C (0 : Int32) dX8_isSuch_144 ki_0 ?_
      cases hf
      exact jEndIZ C hQ rfl nar_z0 dX8_isSuch_145
    · replace hf := itp hf c56
      refine jIconst C (1 : Int32) dX8_isSuch_140 ki_1 ?_
      refine jGoto C 145 dX8_isSuch_141 (by decide) ?_
      cases hf
      exact jEndIZ C hQ rfl nar_z1 dX8_isSuch_145
  replace hf := itn hf c50
  by_cases c57 : p2 = (8 : Int32)
  · replace hf := itp hf c57
    refine jTabIn C 146 dX8_isSuch_1 (by rw [c57]; decide) (by rw [c57]; decide) (by rw [c57]; rfl) (by decide) ?_
    refine jAloadn C dX8_isSuch_146 rfl 0 rfl ?_
    refine jAloadn C dX8_isSuch_147 rfl 1 rfl ?_
    obtain ⟨cP_58, cLo_59, cHi_60, e61, hf⟩ := bd3_some hf
    refine jVV C (X8_collectMeets_ok hp1 e61) vb_X8_collectMeets mk_RX8_360 rfl rc28 ⟨Nat.le_of_ble_eq_true rfl, Nat.le_of_ble_eq_true rfl⟩ rfl (Nat.le_of_ble_eq_true rfl) dX8_isSuch_148 ?_
    refine jAloadn C dX8_isSuch_151 rfl 0 rfl ?_
    refine jAloadn C dX8_isSuch_152 rfl 0 rfl ?_
    refine gf_RX8_16 C dX8_isSuch_153 ?_
    refine jAloadn C dX8_isSuch_156 rfl 1 rfl ?_
    obtain ⟨q62, cP_63, cLo_64, cHi_65, e66, hf⟩ := bd4_some hf
    refine jVI C (X8_allAnswer_ok (by decide) hp1 e66) vb_X8_allAnswer mk_RX8_350 rfl rc28 ⟨Nat.le_of_ble_eq_true rfl, Nat.le_of_ble_eq_true rfl⟩ rfl (Nat.le_of_ble_eq_true rfl) dX8_isSuch_157 ?_
    obtain ⟨z67, hf⟩ := gbo_some hf
    cases hf
    exact jEndIZ C hQ rfl z67 dX8_isSuch_160
  replace hf := itn hf c57
  by_cases c68 : p2 = (9 : Int32)
  · replace hf := itp hf c68
    refine jTabIn C 161 dX8_isSuch_1 (by rw [c68]; decide) (by rw [c68]; decide) (by rw [c68]; rfl) (by decide) ?_
    refine jAloadn C dX8_isSuch_161 rfl 0 rfl ?_
    refine jAloadn C dX8_isSuch_162 rfl 1 rfl ?_
    refine jIconst C (5 : Int32) dX8_isSuch_163 ki_5 ?_
    obtain ⟨q69, cP_70, cLo_71, cHi_72, e73, hf⟩ := bd4_some hf
    refine jVI C (X8_makesItself_ok hp1 e73) vb_X8_makesItself mk_RX8_354 rfl rc28 ⟨Nat.le_of_ble_eq_true rfl, Nat.le_of_ble_eq_true rfl⟩ rfl (Nat.le_of_ble_eq_true rfl) dX8_isSuch_164 ?_
    obtain ⟨z74, hf⟩ := gbo_some hf
    cases hf
    exact jEndIZ C hQ rfl z74 dX8_isSuch_167
  replace hf := itn hf c68
  refine jTabOut C 168 dX8_isSuch_1 (by have ac1 := lv_neT (a := 0) c1 (by decide); have ac12 := lv_neT (a := 1) c12 (by decide); have ac18 := lv_neT (a := 2) c18 (by decide); have ac25 := lv_neT (a := 3) c25 (by decide); have ac32 := lv_neT (a := 4) c32 (by decide); have ac39 := lv_neT (a := 5) c39 (by decide); have ac46 := lv_neT (a := 6) c46 (by decide); have ac50 := lv_neT (a := 7) c50 (by decide); have ac57 := lv_neT (a := 8) c57 (by decide); have ac68 := lv_neT (a := 9) c68 (by decide); omega) (by decide) ?_
  refine jAloadn C dX8_isSuch_168 rfl 0 rfl ?_
  refine jAloadn C dX8_isSuch_169 rfl 1 rfl ?_
  refine jBipush C (6 : Int32) dX8_isSuch_170 kb_6 ?_
  obtain ⟨q75, cP_76, cLo_77, cHi_78, e79, hf⟩ := bd4_some hf
  refine jVI C (X8_makesItself_ok hp1 e79) vb_X8_makesItself mk_RX8_354 rfl rc28 ⟨Nat.le_of_ble_eq_true rfl, Nat.le_of_ble_eq_true rfl⟩ rfl (Nat.le_of_ble_eq_true rfl) dX8_isSuch_172 ?_
  obtain ⟨z80, hf⟩ := gbo_some hf
  cases hf
  exact jEndIZ C hQ rfl z80 dX8_isSuch_175
noncomputable def X8_is (cP : Nat → Int32) (cLo : Nat → Int64) (cHi : Nat → Int64) (p1 : Int32) (p2 : Int32) : Option (Int32 × (Nat → Int32) × (Nat → Int64) × (Nat → Int64)) := bdo (X8_familyAt cP p1) (some ((-2 : Int32), cP, cLo, cHi)) (fun f1 => (if p2 < (0 : Int32) then some ((-2 : Int32), cP, cLo, cHi) else (if p2 ≤ (10 : Int32) then bd4 (X8_isSuch cP cLo cHi f1 p2) (fun q5 cP_6 cLo_7 cHi_8 => (if q5 = (0 : Int32) then some ((0 : Int32), cP_6, cLo_7, cHi_8) else some ((1 : Int32), cP_6, cLo_7, cHi_8))) else some ((-2 : Int32), cP, cLo, cHi))))
set_option maxHeartbeats 4000000 in
set_option maxRecDepth 20000 in
theorem X8_is_ok {p1 : Int32} {p2 : Int32} {rr : Int32} {ocP : Nat → Int32} {ocLo : Nat → Int64} {ocHi : Nat → Int64}  (hf : X8_is cP cLo cHi p1 p2 = some (rr, ocP, ocLo, ocHi)) : MT yX8_is cX8_is 4 (some .int) 6 [.ref (g 28), .int p1, .int p2] D cy G (cw g cy cP cLo cHi cpl ctb ctl ctf ctp ctk cts cth cob col cso cha chs cbe ctr cgl cgh cll clh cta cme cps cwh cal cah) (cw g cy ocP ocLo ocHi cpl ctb ctl ctf ctp ctk cts cth cob col cso cha chs cbe ctr cgl cgh cll clh cta cme cps cwh cal cah) (some (.int rr)) := by
  refine MT.go (own := RX8) [(0, .ref (g 28)), (1, .int p1), (2, .int p2)] (by decide) rfl (Nat.le_of_ble_eq_true rfl) rfl (fun p l e s m args below meth c A Q C hQ => ?_)
  unfold X8_is at hf
  refine jAloadn C dX8_is_0 rfl 0 rfl ?_
  refine jIloadn C dX8_is_1 rfl 1 rfl ?_
  rcases bdo_some hf with ⟨q2, hf⟩ | ⟨f1, q2, hf⟩
  · refine jVN C (X8_familyAt_ok  q2) vb_X8_familyAt mk_RX8_102 rfl rc28 ⟨Nat.le_of_ble_eq_true rfl, Nat.le_of_ble_eq_true rfl⟩ rfl (Nat.le_of_ble_eq_true rfl) dX8_is_2 ?_
    refine jAstorenN C dX8_is_5 rfl (Nat.le_of_ble_eq_true rfl) [(3, .null), (0, .ref (g 28)), (1, .int p1), (2, .int p2)] rfl ?_
    refine jAloadnN C dX8_is_6 rfl 0 rfl ?_
    refine jIfnullN C 20 dX8_is_7 (by decide) ?_
    refine jBipush C (-2 : Int32) dX8_is_20 kb_m2 ?_
    cases hf
    exact jEndI C hQ rfl dX8_is_22
  · refine jVA C (X8_familyAt_ok  q2) vb_X8_familyAt mk_RX8_102 rfl rc28 ⟨Nat.le_of_ble_eq_true rfl, Nat.le_of_ble_eq_true rfl⟩ rfl (Nat.le_of_ble_eq_true rfl) dX8_is_2 ?_
    refine jAstoren C dX8_is_5 rfl (Nat.le_of_ble_eq_true rfl) [(3, .ref (g f1)), (0, .ref (g 28)), (1, .int p1), (2, .int p2)] rfl ?_
    refine jAloadn C dX8_is_6 rfl 0 rfl ?_
    refine jIfnull C dX8_is_7 ?_
    refine jIloadn C dX8_is_10 rfl 3 rfl ?_
    refine jIfLt C 20 dX8_is_11 (by decide) (fun c3 => ?_) (fun c3 => ?_)
    · replace hf := itp hf c3
      refine jBipush C (-2 : Int32) dX8_is_20 kb_m2 ?_
      cases hf
      exact jEndI C hQ rfl dX8_is_22
    · replace hf := itn hf c3
      refine jIloadn C dX8_is_14 rfl 3 rfl ?_
      refine jBipush C (10 : Int32) dX8_is_15 kb_10 ?_
      refine jCmpLe C 23 dX8_is_17 (by decide) (fun c4 => ?_) (fun c4 => ?_)
      · replace hf := itp hf c4
        refine jAloadn C dX8_is_23 rfl 1 rfl ?_
        refine jAloadn C dX8_is_24 rfl 0 rfl ?_
        refine jIloadn C dX8_is_25 rfl 3 rfl ?_
        obtain ⟨q5, cP_6, cLo_7, cHi_8, e9, hf⟩ := bd4_some hf
        refine jVI C (X8_isSuch_ok (X8_familyAt_lt q2) e9) vb_X8_isSuch mk_RX8_123 rfl rc28 ⟨Nat.le_of_ble_eq_true rfl, Nat.le_of_ble_eq_true rfl⟩ rfl (Nat.le_of_ble_eq_true rfl) dX8_is_26 ?_
        refine jIfEq C 36 dX8_is_29 (by decide) (fun c10 => ?_) (fun c10 => ?_)
        · replace hf := itp hf c10
          refine jIconst C (0 : Int32) dX8_is_36 ki_0 ?_
          cases hf
          exact jEndI C hQ rfl dX8_is_37
        · replace hf := itn hf c10
          refine jIconst C (1 : Int32) dX8_is_32 ki_1 ?_
          refine jGoto C 37 dX8_is_33 (by decide) ?_
          cases hf
          exact jEndI C hQ rfl dX8_is_37
      · replace hf := itn hf c4
        refine jBipush C (-2 : Int32) dX8_is_20 kb_m2 ?_
        cases hf
        exact jEndI C hQ rfl dX8_is_22
noncomputable def X8_degree (cP : Nat → Int32) (cLo : Nat → Int64) (cHi : Nat → Int64) (p1 : Int32) (p2 : Int32) : Option Int32 := bdo (X8_familyAt cP p1) (some (-2 : Int32)) (fun f1 => bd1 (X0_knowsPoint cP f1 p2) (fun q3 => (if q3 = (0 : Int32) then some (-2 : Int32) else bd1 (X0_degreeOf cLo cHi f1 p2) (fun q6 => some q6))))
set_option maxHeartbeats 4000000 in
set_option maxRecDepth 20000 in
theorem X8_degree_ok {p1 : Int32} {p2 : Int32} {rr : Int32}  (hf : X8_degree cP cLo cHi p1 p2 = some rr) : MT yX8_degree cX8_degree 4 (some .int) 2 [.ref (g 28), .int p1, .int p2] D cy G (cw g cy cP cLo cHi cpl ctb ctl ctf ctp ctk cts cth cob col cso cha chs cbe ctr cgl cgh cll clh cta cme cps cwh cal cah) (cw g cy cP cLo cHi cpl ctb ctl ctf ctp ctk cts cth cob col cso cha chs cbe ctr cgl cgh cll clh cta cme cps cwh cal cah) (some (.int rr)) := by
  refine MT.go (own := RX8) [(0, .ref (g 28)), (1, .int p1), (2, .int p2)] (by decide) rfl (Nat.le_of_ble_eq_true rfl) rfl (fun p l e s m args below meth c A Q C hQ => ?_)
  unfold X8_degree at hf
  refine jAloadn C dX8_degree_0 rfl 0 rfl ?_
  refine jIloadn C dX8_degree_1 rfl 1 rfl ?_
  rcases bdo_some hf with ⟨q2, hf⟩ | ⟨f1, q2, hf⟩
  · refine jVN C (X8_familyAt_ok  q2) vb_X8_familyAt mk_RX8_102 rfl rc28 ⟨Nat.le_of_ble_eq_true rfl, Nat.le_of_ble_eq_true rfl⟩ rfl (Nat.le_of_ble_eq_true rfl) dX8_degree_2 ?_
    refine jAstorenN C dX8_degree_5 rfl (Nat.le_of_ble_eq_true rfl) [(3, .null), (0, .ref (g 28)), (1, .int p1), (2, .int p2)] rfl ?_
    refine jAloadnN C dX8_degree_6 rfl 0 rfl ?_
    refine jIfnullN C 18 dX8_degree_7 (by decide) ?_
    refine jBipush C (-2 : Int32) dX8_degree_18 kb_m2 ?_
    cases hf
    exact jEndI C hQ rfl dX8_degree_20
  · refine jVA C (X8_familyAt_ok  q2) vb_X8_familyAt mk_RX8_102 rfl rc28 ⟨Nat.le_of_ble_eq_true rfl, Nat.le_of_ble_eq_true rfl⟩ rfl (Nat.le_of_ble_eq_true rfl) dX8_degree_2 ?_
    refine jAstoren C dX8_degree_5 rfl (Nat.le_of_ble_eq_true rfl) [(3, .ref (g f1)), (0, .ref (g 28)), (1, .int p1), (2, .int p2)] rfl ?_
    refine jAloadn C dX8_degree_6 rfl 0 rfl ?_
    refine jIfnull C dX8_degree_7 ?_
    refine jAloadn C dX8_degree_10 rfl 0 rfl ?_
    refine jIloadn C dX8_degree_11 rfl 3 rfl ?_
    obtain ⟨q3, e4, hf⟩ := bd1_some hf
    refine jVI C (X0_knowsPoint_ok (X8_familyAt_lt q2) e4) vb_X0_knowsPoint mk_RX8_127 rfl (rcF (X8_familyAt_lt q2)) ⟨Nat.le_of_ble_eq_true rfl, Nat.le_of_ble_eq_true rfl⟩ rfl (Nat.le_of_ble_eq_true rfl) dX8_degree_12 ?_
    refine jIfNe C 21 dX8_degree_15 (by decide) (fun c5 => ?_) (fun c5 => ?_)
    · replace hf := itn hf c5
      refine jAloadn C dX8_degree_21 rfl 0 rfl ?_
      refine jIloadn C dX8_degree_22 rfl 3 rfl ?_
      obtain ⟨q6, e7, hf⟩ := bd1_some hf
      refine jVI C (X0_degreeOf_ok (X8_familyAt_lt q2) e7) vb_X0_degreeOf mk_RX8_130 rfl (rcF (X8_familyAt_lt q2)) ⟨Nat.le_of_ble_eq_true rfl, Nat.le_of_ble_eq_true rfl⟩ rfl (Nat.le_of_ble_eq_true rfl) dX8_degree_23 ?_
      cases hf
      exact jEndI C hQ rfl dX8_degree_26
    · replace hf := itp hf c5
      refine jBipush C (-2 : Int32) dX8_degree_18 kb_m2 ?_
      cases hf
      exact jEndI C hQ rfl dX8_degree_20
noncomputable def X8_pointsAhead_h4 (cP : Nat → Int32) (p0 : Nat) (cLo : Nat → Int64) (cHi : Nat → Int64) (p1 : Int32) (r4 : Int32 → Int32 → Option Int32) (x2_1 : Int32) (x3_2 : Int32) : Option Int32 := (if (cP p0) ≤ x3_2 then some x2_1 else bd1 (X0_degreeOf cLo cHi p0 x3_2) (fun q6 => bd1 (X0_degreeOf cLo cHi p0 p1) (fun q8 => (if (0 : Int32) < (q6 - q8) then r4 (x2_1 + (1 : Int32)) (x3_2 + (1 : Int32)) else (if (q6 - q8) = (0 : Int32) then (if p1 ≤ x3_2 then r4 x2_1 (x3_2 + (1 : Int32)) else r4 (x2_1 + (1 : Int32)) (x3_2 + (1 : Int32))) else r4 x2_1 (x3_2 + (1 : Int32)))))))
noncomputable def X8_pointsAhead (cP : Nat → Int32) (cLo : Nat → Int64) (cHi : Nat → Int64) (p0 : Nat) (p1 : Int32) : Option Int32 := lfp2 (X8_pointsAhead_h4 cP p0 cLo cHi p1) (0 : Int32) (0 : Int32)
set_option maxHeartbeats 4000000 in
set_option maxRecDepth 20000 in
theorem X8_pointsAhead_ok {p0 : Nat} {p1 : Int32} {rr : Int32} (hp0 : p0 < 28) (hf : X8_pointsAhead cP cLo cHi p0 p1 = some rr) : MT yX8_pointsAhead cX8_pointsAhead 5 (some .int) 2 [.ref (g p0), .int p1] D cy G (cw g cy cP cLo cHi cpl ctb ctl ctf ctp ctk cts cth cob col cso cha chs cbe ctr cgl cgh cll clh cta cme cps cwh cal cah) (cw g cy cP cLo cHi cpl ctb ctl ctf ctp ctk cts cth cob col cso cha chs cbe ctr cgl cgh cll clh cta cme cps cwh cal cah) (some (.int rr)) := by
  refine MT.go (own := RX8) [(0, .ref (g p0)), (1, .int p1)] (by decide) rfl (Nat.le_of_ble_eq_true rfl) rfl (fun p l e s m args below meth c A Q C hQ => ?_)
  unfold X8_pointsAhead at hf
  refine jIconst C (0 : Int32) dX8_pointsAhead_0 ki_0 ?_
  refine jIstoren C dX8_pointsAhead_1 rfl (Nat.le_of_ble_eq_true rfl) [(2, .int (0 : Int32)), (0, .ref (g p0)), (1, .int p1)] rfl ?_
  refine jIconst C (0 : Int32) dX8_pointsAhead_2 ki_0 ?_
  refine jIstoren C dX8_pointsAhead_3 rfl (Nat.le_of_ble_eq_true rfl) [(3, .int (0 : Int32)), (2, .int (0 : Int32)), (0, .ref (g p0)), (1, .int p1)] rfl ?_
  have hL3 : ∀ (x2_1 : Int32) (x3_2 : Int32), lfp2 (X8_pointsAhead_h4 cP p0 cLo cHi p1) x2_1 x3_2 = some rr → J p l e (rmk 2) s m args below meth c D A Q 5 (cw g cy cP cLo cHi cpl ctb ctl ctf ctp ctk cts cth cob col cso cha chs cbe ctr cgl cgh cll clh cta cme cps cwh cal cah) 4 [(0, .ref (g p0)), (1, .int p1), (2, .int x2_1), (3, .int x3_2)] [] := by
    intro x2_1 x3_2 hw
    refine lfp2_walk (P := fun x2_1 x3_2 => J p l e (rmk 2) s m args below meth c D A Q 5 (cw g cy cP cLo cHi cpl ctb ctl ctf ctp ctk cts cth cob col cso cha chs cbe ctr cgl cgh cll clh cta cme cps cwh cal cah) 4 [(0, .ref (g p0)), (1, .int p1), (2, .int x2_1), (3, .int x3_2)] []) ?_ hw
    intro r4 ir4 x2_1 x3_2 hf
    unfold X8_pointsAhead_h4 at hf
    refine jIloadn C dX8_pointsAhead_4 rfl 3 rfl ?_
    refine jAloadn C dX8_pointsAhead_5 rfl 0 rfl ?_
    refine gf_RX8_133 C hp0 dX8_pointsAhead_6 ?_
    refine jCmpGe C 49 dX8_pointsAhead_9 (by decide) (fun c5 => ?_) (fun c5 => ?_)
    · replace hf := itp hf c5
      refine jIloadn C dX8_pointsAhead_49 rfl 2 rfl ?_
      cases hf
      exact jEndI C hQ rfl dX8_pointsAhead_50
    · replace hf := itn hf c5
      refine jAloadn C dX8_pointsAhead_12 rfl 0 rfl ?_
      refine jIloadn C dX8_pointsAhead_13 rfl 3 rfl ?_
      obtain ⟨q6, e7, hf⟩ := bd1_some hf
      refine jVI C (X0_degreeOf_ok hp0 e7) vb_X0_degreeOf mk_RX8_130 rfl (rcF hp0) ⟨Nat.le_of_ble_eq_true rfl, Nat.le_of_ble_eq_true rfl⟩ rfl (Nat.le_of_ble_eq_true rfl) dX8_pointsAhead_14 ?_
      refine jAloadn C dX8_pointsAhead_17 rfl 0 rfl ?_
      refine jIloadn C dX8_pointsAhead_18 rfl 1 rfl ?_
      obtain ⟨q8, e9, hf⟩ := bd1_some hf
      refine jVI C (X0_degreeOf_ok hp0 e9) vb_X0_degreeOf mk_RX8_130 rfl (rcF hp0) ⟨Nat.le_of_ble_eq_true rfl, Nat.le_of_ble_eq_true rfl⟩ rfl (Nat.le_of_ble_eq_true rfl) dX8_pointsAhead_19 ?_
      refine jIsub C dX8_pointsAhead_22 ?_
      refine jIstore C dX8_pointsAhead_23 (Nat.le_of_ble_eq_true rfl) [(4, .int (q6 - q8)), (0, .ref (g p0)), (1, .int p1), (2, .int x2_1), (3, .int x3_2)] rfl ?_
      refine jIload C dX8_pointsAhead_25 0 rfl ?_
      refine jIfGt C 40 dX8_pointsAhead_27 (by decide) (fun c10 => ?_) (fun c10 => ?_)
      · replace hf := itp hf c10
        refine jIinc C (x2_1 + (1 : Int32)) dX8_pointsAhead_40 3 rfl (congrArg (fun z : Int32 => x2_1 + z) ki_1) (Nat.le_of_ble_eq_true rfl) [(2, .int (x2_1 + (1 : Int32))), (4, .int (q6 - q8)), (0, .ref (g p0)), (1, .int p1), (3, .int x3_2)] rfl ?_
        refine jIinc C (x3_2 + (1 : Int32)) dX8_pointsAhead_43 4 rfl (congrArg (fun z : Int32 => x3_2 + z) ki_1) (Nat.le_of_ble_eq_true rfl) [(3, .int (x3_2 + (1 : Int32))), (2, .int (x2_1 + (1 : Int32))), (4, .int (q6 - q8)), (0, .ref (g p0)), (1, .int p1)] rfl ?_
        refine jGoto C 4 dX8_pointsAhead_46 (by decide) ?_
        refine jSub [3, 4, 1, 0] rfl ?_
        exact ir4 (x2_1 + (1 : Int32)) (x3_2 + (1 : Int32)) hf
      · replace hf := itn hf c10
        refine jIload C dX8_pointsAhead_30 0 rfl ?_
        refine jIfNe C 43 dX8_pointsAhead_32 (by decide) (fun c11 => ?_) (fun c11 => ?_)
        · replace hf := itn hf c11
          refine jIinc C (x3_2 + (1 : Int32)) dX8_pointsAhead_43 4 rfl (congrArg (fun z : Int32 => x3_2 + z) ki_1) (Nat.le_of_ble_eq_true rfl) [(3, .int (x3_2 + (1 : Int32))), (4, .int (q6 - q8)), (0, .ref (g p0)), (1, .int p1), (2, .int x2_1)] rfl ?_
          refine jGoto C 4 dX8_pointsAhead_46 (by decide) ?_
          refine jSub [2, 3, 4, 0] rfl ?_
          exact ir4 x2_1 (x3_2 + (1 : Int32)) hf
        · replace hf := itp hf c11
          refine jIloadn C dX8_pointsAhead_35 rfl 4 rfl ?_
          refine jIloadn C dX8_pointsAhead_36 rfl 2 rfl ?_
          refine jCmpGe C 43 dX8_pointsAhead_37 (by decide) (fun c12 => ?_) (fun c12 => ?_)
          · replace hf := itp hf c12
            refine jIinc C (x3_2 + (1 : Int32)) dX8_pointsAhead_43 4 rfl (congrArg (fun z : Int32 => x3_2 + z) ki_1) (Nat.le_of_ble_eq_true rfl) [(3, .int (x3_2 + (1 : Int32))), (4, .int (q6 - q8)), (0, .ref (g p0)), (1, .int p1), (2, .int x2_1)] rfl ?_
            refine jGoto C 4 dX8_pointsAhead_46 (by decide) ?_
            refine jSub [2, 3, 4, 0] rfl ?_
            exact ir4 x2_1 (x3_2 + (1 : Int32)) hf
          · replace hf := itn hf c12
            refine jIinc C (x2_1 + (1 : Int32)) dX8_pointsAhead_40 3 rfl (congrArg (fun z : Int32 => x2_1 + z) ki_1) (Nat.le_of_ble_eq_true rfl) [(2, .int (x2_1 + (1 : Int32))), (4, .int (q6 - q8)), (0, .ref (g p0)), (1, .int p1), (3, .int x3_2)] rfl ?_
            refine jIinc C (x3_2 + (1 : Int32)) dX8_pointsAhead_43 4 rfl (congrArg (fun z : Int32 => x3_2 + z) ki_1) (Nat.le_of_ble_eq_true rfl) [(3, .int (x3_2 + (1 : Int32))), (2, .int (x2_1 + (1 : Int32))), (4, .int (q6 - q8)), (0, .ref (g p0)), (1, .int p1)] rfl ?_
            refine jGoto C 4 dX8_pointsAhead_46 (by decide) ?_
            refine jSub [3, 4, 1, 0] rfl ?_
            exact ir4 (x2_1 + (1 : Int32)) (x3_2 + (1 : Int32)) hf
  refine jSub [2, 3, 1, 0] rfl ?_
  exact hL3 (0 : Int32) (0 : Int32) hf
noncomputable def X8_order_h24 (cP : Nat → Int32) (f1 : Nat) (cLo : Nat → Int64) (cHi : Nat → Int64) (p2 : Int32) (r8 : Int32 → Option Int32) (x4_6 : Int32) : Option Int32 := (if (cP f1) ≤ x4_6 then some (-2 : Int32) else bd1 (X8_pointsAhead cP cLo cHi f1 x4_6) (fun q10 => (if q10 = p2 then some x4_6 else r8 (x4_6 + (1 : Int32)))))
noncomputable def X8_order (cP : Nat → Int32) (cLo : Nat → Int64) (cHi : Nat → Int64) (p1 : Int32) (p2 : Int32) : Option Int32 := bdo (X8_familyAt cP p1) (some (-2 : Int32)) (fun f1 => bd1 (X0_knowsPoint cP f1 p2) (fun q3 => (if q3 = (0 : Int32) then some (-2 : Int32) else lfp1 (X8_order_h24 cP f1 cLo cHi p2) (0 : Int32))))
set_option maxHeartbeats 4000000 in
set_option maxRecDepth 20000 in
theorem X8_order_ok {p1 : Int32} {p2 : Int32} {rr : Int32}  (hf : X8_order cP cLo cHi p1 p2 = some rr) : MT yX8_order cX8_order 5 (some .int) 3 [.ref (g 28), .int p1, .int p2] D cy G (cw g cy cP cLo cHi cpl ctb ctl ctf ctp ctk cts cth cob col cso cha chs cbe ctr cgl cgh cll clh cta cme cps cwh cal cah) (cw g cy cP cLo cHi cpl ctb ctl ctf ctp ctk cts cth cob col cso cha chs cbe ctr cgl cgh cll clh cta cme cps cwh cal cah) (some (.int rr)) := by
  refine MT.go (own := RX8) [(0, .ref (g 28)), (1, .int p1), (2, .int p2)] (by decide) rfl (Nat.le_of_ble_eq_true rfl) rfl (fun p l e s m args below meth c A Q C hQ => ?_)
  unfold X8_order at hf
  refine jAloadn C dX8_order_0 rfl 0 rfl ?_
  refine jIloadn C dX8_order_1 rfl 1 rfl ?_
  rcases bdo_some hf with ⟨q2, hf⟩ | ⟨f1, q2, hf⟩
  · refine jVN C (X8_familyAt_ok  q2) vb_X8_familyAt mk_RX8_102 rfl rc28 ⟨Nat.le_of_ble_eq_true rfl, Nat.le_of_ble_eq_true rfl⟩ rfl (Nat.le_of_ble_eq_true rfl) dX8_order_2 ?_
    refine jAstorenN C dX8_order_5 rfl (Nat.le_of_ble_eq_true rfl) [(3, .null), (0, .ref (g 28)), (1, .int p1), (2, .int p2)] rfl ?_
    refine jAloadnN C dX8_order_6 rfl 0 rfl ?_
    refine jIfnullN C 18 dX8_order_7 (by decide) ?_
    refine jBipush C (-2 : Int32) dX8_order_18 kb_m2 ?_
    cases hf
    exact jEndI C hQ rfl dX8_order_20
  · refine jVA C (X8_familyAt_ok  q2) vb_X8_familyAt mk_RX8_102 rfl rc28 ⟨Nat.le_of_ble_eq_true rfl, Nat.le_of_ble_eq_true rfl⟩ rfl (Nat.le_of_ble_eq_true rfl) dX8_order_2 ?_
    refine jAstoren C dX8_order_5 rfl (Nat.le_of_ble_eq_true rfl) [(3, .ref (g f1)), (0, .ref (g 28)), (1, .int p1), (2, .int p2)] rfl ?_
    refine jAloadn C dX8_order_6 rfl 0 rfl ?_
    refine jIfnull C dX8_order_7 ?_
    refine jAloadn C dX8_order_10 rfl 0 rfl ?_
    refine jIloadn C dX8_order_11 rfl 3 rfl ?_
    obtain ⟨q3, e4, hf⟩ := bd1_some hf
    refine jVI C (X0_knowsPoint_ok (X8_familyAt_lt q2) e4) vb_X0_knowsPoint mk_RX8_127 rfl (rcF (X8_familyAt_lt q2)) ⟨Nat.le_of_ble_eq_true rfl, Nat.le_of_ble_eq_true rfl⟩ rfl (Nat.le_of_ble_eq_true rfl) dX8_order_12 ?_
    refine jIfNe C 21 dX8_order_15 (by decide) (fun c5 => ?_) (fun c5 => ?_)
    · replace hf := itn hf c5
      refine jIconst C (0 : Int32) dX8_order_21 ki_0 ?_
      refine jIstore C dX8_order_22 (Nat.le_of_ble_eq_true rfl) [(4, .int (0 : Int32)), (3, .ref (g f1)), (0, .ref (g 28)), (1, .int p1), (2, .int p2)] rfl ?_
      have hL7 : ∀ (x4_6 : Int32), lfp1 (X8_order_h24 cP f1 cLo cHi p2) x4_6 = some rr → J p l e (rmk 3) s m args below meth c D A Q 5 (cw g cy cP cLo cHi cpl ctb ctl ctf ctp ctk cts cth cob col cso cha chs cbe ctr cgl cgh cll clh cta cme cps cwh cal cah) 24 [(2, .int p2), (3, .ref (g f1)), (4, .int x4_6)] [] := by
        intro x4_6 hw
        refine lfp1_walk (P := fun x4_6 => J p l e (rmk 3) s m args below meth c D A Q 5 (cw g cy cP cLo cHi cpl ctb ctl ctf ctp ctk cts cth cob col cso cha chs cbe ctr cgl cgh cll clh cta cme cps cwh cal cah) 24 [(2, .int p2), (3, .ref (g f1)), (4, .int x4_6)] []) ?_ hw
        intro r8 ir8 x4_6 hf
        unfold X8_order_h24 at hf
        refine jIload C dX8_order_24 2 rfl ?_
        refine jAloadn C dX8_order_26 rfl 1 rfl ?_
        refine gf_RX8_133 C (X8_familyAt_lt q2) dX8_order_27 ?_
        refine jCmpGe C 52 dX8_order_30 (by decide) (fun c9 => ?_) (fun c9 => ?_)
        · replace hf := itp hf c9
          refine jBipush C (-2 : Int32) dX8_order_52 kb_m2 ?_
          cases hf
          exact jEndI C hQ rfl dX8_order_54
        · replace hf := itn hf c9
          refine jAloadn C dX8_order_33 rfl 1 rfl ?_
          refine jIload C dX8_order_34 2 rfl ?_
          obtain ⟨q10, e11, hf⟩ := bd1_some hf
          refine jSI C (X8_pointsAhead_ok (X8_familyAt_lt q2) e11) sb_X8_pointsAhead mk_RX8_136 rfl ⟨Nat.le_of_ble_eq_true rfl, Nat.le_of_ble_eq_true rfl⟩ rfl (Nat.le_of_ble_eq_true rfl) dX8_order_36 ?_
          refine jIloadn C dX8_order_39 rfl 0 rfl ?_
          refine jCmpNe C 46 dX8_order_40 (by decide) (fun c12 => ?_) (fun c12 => ?_)
          · replace hf := itn hf c12
            refine jIinc C (x4_6 + (1 : Int32)) dX8_order_46 2 rfl (congrArg (fun z : Int32 => x4_6 + z) ki_1) (Nat.le_of_ble_eq_true rfl) [(4, .int (x4_6 + (1 : Int32))), (2, .int p2), (3, .ref (g f1))] rfl ?_
            refine jGoto C 24 dX8_order_49 (by decide) ?_
            refine jSub [1, 2, 0] rfl ?_
            exact ir8 (x4_6 + (1 : Int32)) hf
          · replace hf := itp hf c12
            refine jIload C dX8_order_43 2 rfl ?_
            cases hf
            exact jEndI C hQ rfl dX8_order_45
      refine jSub [4, 1, 0] rfl ?_
      exact hL7 (0 : Int32) hf
    · replace hf := itp hf c5
      refine jBipush C (-2 : Int32) dX8_order_18 kb_m2 ?_
      cases hf
      exact jEndI C hQ rfl dX8_order_20
noncomputable def X8_level (cP : Nat → Int32) (cLo : Nat → Int64) (cHi : Nat → Int64) (p1 : Int32) (p2 : Int32) : Option Int32 := bdo (X8_familyAt cP p1) (some (-2 : Int32)) (fun f1 => (if p2 < (0 : Int32) then some (-2 : Int32) else (if p2 ≤ (cP f1) then bd1 (X0_sizeOfLevel cP cLo cHi f1 p2) (fun q5 => some q5) else some (-2 : Int32))))
set_option maxHeartbeats 4000000 in
set_option maxRecDepth 20000 in
theorem X8_level_ok {p1 : Int32} {p2 : Int32} {rr : Int32}  (hf : X8_level cP cLo cHi p1 p2 = some rr) : MT yX8_level cX8_level 4 (some .int) 2 [.ref (g 28), .int p1, .int p2] D cy G (cw g cy cP cLo cHi cpl ctb ctl ctf ctp ctk cts cth cob col cso cha chs cbe ctr cgl cgh cll clh cta cme cps cwh cal cah) (cw g cy cP cLo cHi cpl ctb ctl ctf ctp ctk cts cth cob col cso cha chs cbe ctr cgl cgh cll clh cta cme cps cwh cal cah) (some (.int rr)) := by
  refine MT.go (own := RX8) [(0, .ref (g 28)), (1, .int p1), (2, .int p2)] (by decide) rfl (Nat.le_of_ble_eq_true rfl) rfl (fun p l e s m args below meth c A Q C hQ => ?_)
  unfold X8_level at hf
  refine jAloadn C dX8_level_0 rfl 0 rfl ?_
  refine jIloadn C dX8_level_1 rfl 1 rfl ?_
  rcases bdo_some hf with ⟨q2, hf⟩ | ⟨f1, q2, hf⟩
  · refine jVN C (X8_familyAt_ok  q2) vb_X8_familyAt mk_RX8_102 rfl rc28 ⟨Nat.le_of_ble_eq_true rfl, Nat.le_of_ble_eq_true rfl⟩ rfl (Nat.le_of_ble_eq_true rfl) dX8_level_2 ?_
    refine jAstorenN C dX8_level_5 rfl (Nat.le_of_ble_eq_true rfl) [(3, .null), (0, .ref (g 28)), (1, .int p1), (2, .int p2)] rfl ?_
    refine jAloadnN C dX8_level_6 rfl 0 rfl ?_
    refine jIfnullN C 22 dX8_level_7 (by decide) ?_
    refine jBipush C (-2 : Int32) dX8_level_22 kb_m2 ?_
    cases hf
    exact jEndI C hQ rfl dX8_level_24
  · refine jVA C (X8_familyAt_ok  q2) vb_X8_familyAt mk_RX8_102 rfl rc28 ⟨Nat.le_of_ble_eq_true rfl, Nat.le_of_ble_eq_true rfl⟩ rfl (Nat.le_of_ble_eq_true rfl) dX8_level_2 ?_
    refine jAstoren C dX8_level_5 rfl (Nat.le_of_ble_eq_true rfl) [(3, .ref (g f1)), (0, .ref (g 28)), (1, .int p1), (2, .int p2)] rfl ?_
    refine jAloadn C dX8_level_6 rfl 0 rfl ?_
    refine jIfnull C dX8_level_7 ?_
    refine jIloadn C dX8_level_10 rfl 3 rfl ?_
    refine jIfLt C 22 dX8_level_11 (by decide) (fun c3 => ?_) (fun c3 => ?_)
    · replace hf := itp hf c3
      refine jBipush C (-2 : Int32) dX8_level_22 kb_m2 ?_
      cases hf
      exact jEndI C hQ rfl dX8_level_24
    · replace hf := itn hf c3
      refine jIloadn C dX8_level_14 rfl 3 rfl ?_
      refine jAloadn C dX8_level_15 rfl 0 rfl ?_
      refine gf_RX8_133 C (X8_familyAt_lt q2) dX8_level_16 ?_
      refine jCmpLe C 25 dX8_level_19 (by decide) (fun c4 => ?_) (fun c4 => ?_)
      · replace hf := itp hf c4
        refine jAloadn C dX8_level_25 rfl 0 rfl ?_
        refine jIloadn C dX8_level_26 rfl 3 rfl ?_
        obtain ⟨q5, e6, hf⟩ := bd1_some hf
        refine jVI C (X0_sizeOfLevel_ok (X8_familyAt_lt q2) e6) vb_X0_sizeOfLevel mk_RX8_139 rfl (rcF (X8_familyAt_lt q2)) ⟨Nat.le_of_ble_eq_true rfl, Nat.le_of_ble_eq_true rfl⟩ rfl (Nat.le_of_ble_eq_true rfl) dX8_level_27 ?_
        cases hf
        exact jEndI C hQ rfl dX8_level_30
      · replace hf := itn hf c4
        refine jBipush C (-2 : Int32) dX8_level_22 kb_m2 ?_
        cases hf
        exact jEndI C hQ rfl dX8_level_24
noncomputable def X8_makes (cP : Nat → Int32) (cLo : Nat → Int64) (cHi : Nat → Int64) (cso : Nat → Int32) (cha : Int32) (chs : Int32) (p1 : Int32) (p2 : Int32) (p3 : Int32) : Option (Int32 × (Nat → Int32) × (Nat → Int64) × (Nat → Int64) × (Nat → Int32) × Int32 × Int32) := bdo (X8_familyAt cP p1) (some ((-2 : Int32), cP, cLo, cHi, cso, cha, chs)) (fun f1 => (if p2 < (0 : Int32) then some ((-2 : Int32), cP, cLo, cHi, cso, cha, chs) else (if (9 : Int32) < p2 then some ((-2 : Int32), cP, cLo, cHi, cso, cha, chs) else bd1 (X8_isSlot p3) (fun q5 => (if q5 = (0 : Int32) then some ((-2 : Int32), cP, cLo, cHi, cso, cha, chs) else bd3 (X8_make cP cLo cHi f1 p2) (fun cP_8 cLo_9 cHi_10 => bd7 (X8_comesInto cP_8 cLo_9 cHi_10 cso cha chs p3 3) (fun q12 cP_13 cLo_14 cHi_15 cso_16 cha_17 chs_18 => some (q12, cP_13, cLo_14, cHi_15, cso_16, cha_17, chs_18))))))))
set_option maxHeartbeats 4000000 in
set_option maxRecDepth 20000 in
theorem X8_makes_ok {p1 : Int32} {p2 : Int32} {p3 : Int32} {rr : Int32} {ocP : Nat → Int32} {ocLo : Nat → Int64} {ocHi : Nat → Int64} {ocso : Nat → Int32} {ocha : Int32} {ochs : Int32}  (hf : X8_makes cP cLo cHi cso cha chs p1 p2 p3 = some (rr, ocP, ocLo, ocHi, ocso, ocha, ochs)) : MT yX8_makes cX8_makes 5 (some .int) 4 [.ref (g 28), .int p1, .int p2, .int p3] D cy G (cw g cy cP cLo cHi cpl ctb ctl ctf ctp ctk cts cth cob col cso cha chs cbe ctr cgl cgh cll clh cta cme cps cwh cal cah) (cw g cy ocP ocLo ocHi cpl ctb ctl ctf ctp ctk cts cth cob col ocso ocha ochs cbe ctr cgl cgh cll clh cta cme cps cwh cal cah) (some (.int rr)) := by
  refine MT.go (own := RX8) [(0, .ref (g 28)), (1, .int p1), (2, .int p2), (3, .int p3)] (by decide) rfl (Nat.le_of_ble_eq_true rfl) rfl (fun p l e s m args below meth c A Q C hQ => ?_)
  unfold X8_makes at hf
  refine jAloadn C dX8_makes_0 rfl 0 rfl ?_
  refine jIloadn C dX8_makes_1 rfl 1 rfl ?_
  rcases bdo_some hf with ⟨q2, hf⟩ | ⟨f1, q2, hf⟩
  · refine jVN C (X8_familyAt_ok  q2) vb_X8_familyAt mk_RX8_102 rfl rc28 ⟨Nat.le_of_ble_eq_true rfl, Nat.le_of_ble_eq_true rfl⟩ rfl (Nat.le_of_ble_eq_true rfl) dX8_makes_2 ?_
    refine jAstoreN C dX8_makes_5 (Nat.le_of_ble_eq_true rfl) [(4, .null), (0, .ref (g 28)), (1, .int p1), (2, .int p2), (3, .int p3)] rfl ?_
    refine jAloadN C dX8_makes_7 0 rfl ?_
    refine jIfnullN C 29 dX8_makes_9 (by decide) ?_
    refine jBipush C (-2 : Int32) dX8_makes_29 kb_m2 ?_
    cases hf
    exact jEndI C hQ rfl dX8_makes_31
  · refine jVA C (X8_familyAt_ok  q2) vb_X8_familyAt mk_RX8_102 rfl rc28 ⟨Nat.le_of_ble_eq_true rfl, Nat.le_of_ble_eq_true rfl⟩ rfl (Nat.le_of_ble_eq_true rfl) dX8_makes_2 ?_
    refine jAstore C dX8_makes_5 (Nat.le_of_ble_eq_true rfl) [(4, .ref (g f1)), (0, .ref (g 28)), (1, .int p1), (2, .int p2), (3, .int p3)] rfl ?_
    refine jAload C dX8_makes_7 0 rfl ?_
    refine jIfnull C dX8_makes_9 ?_
    refine jIloadn C dX8_makes_12 rfl 3 rfl ?_
    refine jIfLt C 29 dX8_makes_13 (by decide) (fun c3 => ?_) (fun c3 => ?_)
    · replace hf := itp hf c3
      refine jBipush C (-2 : Int32) dX8_makes_29 kb_m2 ?_
      cases hf
      exact jEndI C hQ rfl dX8_makes_31
    · replace hf := itn hf c3
      refine jIloadn C dX8_makes_16 rfl 3 rfl ?_
      refine jBipush C (9 : Int32) dX8_makes_17 kb_9 ?_
      refine jCmpGt C 29 dX8_makes_19 (by decide) (fun c4 => ?_) (fun c4 => ?_)
      · replace hf := itp hf c4
        refine jBipush C (-2 : Int32) dX8_makes_29 kb_m2 ?_
        cases hf
        exact jEndI C hQ rfl dX8_makes_31
      · replace hf := itn hf c4
        refine jIloadn C dX8_makes_22 rfl 4 rfl ?_
        obtain ⟨q5, e6, hf⟩ := bd1_some hf
        refine jSI C (X8_isSlot_ok  e6) sb_X8_isSlot mk_RX8_77 rfl ⟨Nat.le_of_ble_eq_true rfl, Nat.le_of_ble_eq_true rfl⟩ rfl (Nat.le_of_ble_eq_true rfl) dX8_makes_23 ?_
        refine jIfNe C 32 dX8_makes_26 (by decide) (fun c7 => ?_) (fun c7 => ?_)
        · replace hf := itn hf c7
          refine jAloadn C dX8_makes_32 rfl 1 rfl ?_
          refine jAload C dX8_makes_33 0 rfl ?_
          refine jIloadn C dX8_makes_35 rfl 3 rfl ?_
          obtain ⟨cP_8, cLo_9, cHi_10, e11, hf⟩ := bd3_some hf
          refine jVV C (X8_make_ok (X8_familyAt_lt q2) e11) vb_X8_make mk_RX8_142 rfl rc28 ⟨Nat.le_of_ble_eq_true rfl, Nat.le_of_ble_eq_true rfl⟩ rfl (Nat.le_of_ble_eq_true rfl) dX8_makes_36 ?_
          refine jAloadn C dX8_makes_39 rfl 1 rfl ?_
          refine jIloadn C dX8_makes_40 rfl 4 rfl ?_
          refine jAloadn C dX8_makes_41 rfl 1 rfl ?_
          refine gf_RX8_16 C dX8_makes_42 ?_
          obtain ⟨q12, cP_13, cLo_14, cHi_15, cso_16, cha_17, chs_18, e19, hf⟩ := bd7_some hf
          refine jVI C (X8_comesInto_ok (by decide) e19) vb_X8_comesInto mk_RX8_84 rfl rc28 ⟨Nat.le_of_ble_eq_true rfl, Nat.le_of_ble_eq_true rfl⟩ rfl (Nat.le_of_ble_eq_true rfl) dX8_makes_45 ?_
          cases hf
          exact jEndI C hQ rfl dX8_makes_48
        · replace hf := itp hf c7
          refine jBipush C (-2 : Int32) dX8_makes_29 kb_m2 ?_
          cases hf
          exact jEndI C hQ rfl dX8_makes_31
noncomputable def X8_part (cP : Nat → Int32) (cLo : Nat → Int64) (cHi : Nat → Int64) (cso : Nat → Int32) (cha : Int32) (chs : Int32) (p1 : Int32) (p2 : Int32) (p3 : Int32) (p4 : Int32) : Option (Int32 × (Nat → Int32) × (Nat → Int64) × (Nat → Int64) × (Nat → Int32) × Int32 × Int32) := bdo (X8_familyAt cP p1) (some ((-2 : Int32), cP, cLo, cHi, cso, cha, chs)) (fun f1 => bd1 (X0_knowsPoint cP f1 p2) (fun q3 => (if q3 = (0 : Int32) then some ((-2 : Int32), cP, cLo, cHi, cso, cha, chs) else (if p3 < (0 : Int32) then some ((-2 : Int32), cP, cLo, cHi, cso, cha, chs) else (if (1 : Int32) < p3 then some ((-2 : Int32), cP, cLo, cHi, cso, cha, chs) else bd1 (X8_isSlot p4) (fun q8 => (if q8 = (0 : Int32) then some ((-2 : Int32), cP, cLo, cHi, cso, cha, chs) else (if p3 = (0 : Int32) then bd3 (X0_clear cP cLo cHi 3 (cP f1)) (fun cP_27 cLo_28 cHi_29 => bd2 (X0_joinLink cLo_28 cHi_29 3 f1 p2) (fun cLo_31 cHi_32 => bd7 (X8_comesInto cP_27 cLo_31 cHi_32 cso cha chs p4 3) (fun q34 cP_35 cLo_36 cHi_37 cso_38 cha_39 chs_40 => some (q34, cP_35, cLo_36, cHi_37, cso_38, cha_39, chs_40)))) else bd3 (X0_become cP cLo cHi 3 f1) (fun cP_12 cLo_13 cHi_14 => bd2 (X0_keepLacking cLo_13 cHi_14 3 p2) (fun cLo_16 cHi_17 => bd7 (X8_comesInto cP_12 cLo_16 cHi_17 cso cha chs p4 3) (fun q19 cP_20 cLo_21 cHi_22 cso_23 cha_24 chs_25 => some (q19, cP_20, cLo_21, cHi_22, cso_23, cha_24, chs_25))))))))))))
set_option maxHeartbeats 4000000 in
set_option maxRecDepth 20000 in
theorem X8_part_ok {p1 : Int32} {p2 : Int32} {p3 : Int32} {p4 : Int32} {rr : Int32} {ocP : Nat → Int32} {ocLo : Nat → Int64} {ocHi : Nat → Int64} {ocso : Nat → Int32} {ocha : Int32} {ochs : Int32}  (hf : X8_part cP cLo cHi cso cha chs p1 p2 p3 p4 = some (rr, ocP, ocLo, ocHi, ocso, ocha, ochs)) : MT yX8_part cX8_part 6 (some .int) 3 [.ref (g 28), .int p1, .int p2, .int p3, .int p4] D cy G (cw g cy cP cLo cHi cpl ctb ctl ctf ctp ctk cts cth cob col cso cha chs cbe ctr cgl cgh cll clh cta cme cps cwh cal cah) (cw g cy ocP ocLo ocHi cpl ctb ctl ctf ctp ctk cts cth cob col ocso ocha ochs cbe ctr cgl cgh cll clh cta cme cps cwh cal cah) (some (.int rr)) := by
  refine MT.go (own := RX8) [(0, .ref (g 28)), (1, .int p1), (2, .int p2), (3, .int p3), (4, .int p4)] (by decide) rfl (Nat.le_of_ble_eq_true rfl) rfl (fun p l e s m args below meth c A Q C hQ => ?_)
  unfold X8_part at hf
  refine jAloadn C dX8_part_0 rfl 0 rfl ?_
  refine jIloadn C dX8_part_1 rfl 1 rfl ?_
  rcases bdo_some hf with ⟨q2, hf⟩ | ⟨f1, q2, hf⟩
  · refine jVN C (X8_familyAt_ok  q2) vb_X8_familyAt mk_RX8_102 rfl rc28 ⟨Nat.le_of_ble_eq_true rfl, Nat.le_of_ble_eq_true rfl⟩ rfl (Nat.le_of_ble_eq_true rfl) dX8_part_2 ?_
    refine jAstoreN C dX8_part_5 (Nat.le_of_ble_eq_true rfl) [(5, .null), (0, .ref (g 28)), (1, .int p1), (2, .int p2), (3, .int p3), (4, .int p4)] rfl ?_
    refine jAloadN C dX8_part_7 0 rfl ?_
    refine jIfnullN C 38 dX8_part_9 (by decide) ?_
    refine jBipush C (-2 : Int32) dX8_part_38 kb_m2 ?_
    cases hf
    exact jEndI C hQ rfl dX8_part_40
  · refine jVA C (X8_familyAt_ok  q2) vb_X8_familyAt mk_RX8_102 rfl rc28 ⟨Nat.le_of_ble_eq_true rfl, Nat.le_of_ble_eq_true rfl⟩ rfl (Nat.le_of_ble_eq_true rfl) dX8_part_2 ?_
    refine jAstore C dX8_part_5 (Nat.le_of_ble_eq_true rfl) [(5, .ref (g f1)), (0, .ref (g 28)), (1, .int p1), (2, .int p2), (3, .int p3), (4, .int p4)] rfl ?_
    refine jAload C dX8_part_7 0 rfl ?_
    refine jIfnull C dX8_part_9 ?_
    refine jAload C dX8_part_12 0 rfl ?_
    refine jIloadn C dX8_part_14 rfl 3 rfl ?_
    obtain ⟨q3, e4, hf⟩ := bd1_some hf
    refine jVI C (X0_knowsPoint_ok (X8_familyAt_lt q2) e4) vb_X0_knowsPoint mk_RX8_127 rfl (rcF (X8_familyAt_lt q2)) ⟨Nat.le_of_ble_eq_true rfl, Nat.le_of_ble_eq_true rfl⟩ rfl (Nat.le_of_ble_eq_true rfl) dX8_part_15 ?_
    refine jIfEq C 38 dX8_part_18 (by decide) (fun c5 => ?_) (fun c5 => ?_)
    · replace hf := itp hf c5
      refine jBipush C (-2 : Int32) dX8_part_38 kb_m2 ?_
      cases hf
      exact jEndI C hQ rfl dX8_part_40
    · replace hf := itn hf c5
      refine jIloadn C dX8_part_21 rfl 4 rfl ?_
      refine jIfLt C 38 dX8_part_22 (by decide) (fun c6 => ?_) (fun c6 => ?_)
      · replace hf := itp hf c6
        refine jBipush C (-2 : Int32) dX8_part_38 kb_m2 ?_
        cases hf
        exact jEndI C hQ rfl dX8_part_40
      · replace hf := itn hf c6
        refine jIloadn C dX8_part_25 rfl 4 rfl ?_
        refine jIconst C (1 : Int32) dX8_part_26 ki_1 ?_
        refine jCmpGt C 38 dX8_part_27 (by decide) (fun c7 => ?_) (fun c7 => ?_)
        · replace hf := itp hf c7
          refine jBipush C (-2 : Int32) dX8_part_38 kb_m2 ?_
          cases hf
          exact jEndI C hQ rfl dX8_part_40
        · replace hf := itn hf c7
          refine jIload C dX8_part_30 5 rfl ?_
          obtain ⟨q8, e9, hf⟩ := bd1_some hf
          refine jSI C (X8_isSlot_ok  e9) sb_X8_isSlot mk_RX8_77 rfl ⟨Nat.le_of_ble_eq_true rfl, Nat.le_of_ble_eq_true rfl⟩ rfl (Nat.le_of_ble_eq_true rfl) dX8_part_32 ?_
          refine jIfNe C 41 dX8_part_35 (by decide) (fun c10 => ?_) (fun c10 => ?_)
          · replace hf := itn hf c10
            refine jIloadn C dX8_part_41 rfl 4 rfl ?_
            refine jIfNe C 70 dX8_part_42 (by decide) (fun c11 => ?_) (fun c11 => ?_)
            · replace hf := itn hf c11
              refine jAloadn C dX8_part_70 rfl 1 rfl ?_
              refine gf_RX8_16 C dX8_part_71 ?_
              refine jAload C dX8_part_74 0 rfl ?_
              obtain ⟨cP_12, cLo_13, cHi_14, e15, hf⟩ := bd3_some hf
              refine jVV C (X0_become_ok (by decide) (X8_familyAt_lt q2) e15) vb_X0_become mk_RX8_152 rfl (rcF (by decide)) ⟨Nat.le_of_ble_eq_true rfl, Nat.le_of_ble_eq_true rfl⟩ rfl (Nat.le_of_ble_eq_true rfl) dX8_part_76 ?_
              refine jAloadn C dX8_part_79 rfl 1 rfl ?_
              refine gf_RX8_16 C dX8_part_80 ?_
              refine jIloadn C dX8_part_83 rfl 3 rfl ?_
              obtain ⟨cLo_16, cHi_17, e18, hf⟩ := bd2_some hf
              refine jVV C (X0_keepLacking_ok (by decide) e18) vb_X0_keepLacking mk_RX8_156 rfl (rcF (by decide)) ⟨Nat.le_of_ble_eq_true rfl, Nat.le_of_ble_eq_true rfl⟩ rfl (Nat.le_of_ble_eq_true rfl) dX8_part_84 ?_
              refine jAloadn C dX8_part_87 rfl 1 rfl ?_
              refine jIload C dX8_part_88 5 rfl ?_
              refine jAloadn C dX8_part_90 rfl 1 rfl ?_
              refine gf_RX8_16 C dX8_part_91 ?_
              obtain ⟨q19, cP_20, cLo_21, cHi_22, cso_23, cha_24, chs_25, e26, hf⟩ := bd7_some hf
              refine jVI C (X8_comesInto_ok (by decide) e26) vb_X8_comesInto mk_RX8_84 rfl rc28 ⟨Nat.le_of_ble_eq_true rfl, Nat.le_of_ble_eq_true rfl⟩ rfl (Nat.le_of_ble_eq_true rfl) dX8_part_94 ?_
              cases hf
              exact jEndI C hQ rfl dX8_part_97
            · replace hf := itp hf c11
              refine jAloadn C dX8_part_45 rfl 1 rfl ?_
              refine gf_RX8_16 C dX8_part_46 ?_
              refine jAload C dX8_part_49 0 rfl ?_
              refine gf_RX8_133 C (X8_familyAt_lt q2) dX8_part_51 ?_
              obtain ⟨cP_27, cLo_28, cHi_29, e30, hf⟩ := bd3_some hf
              refine jVV C (X0_clear_ok (by decide) e30) vb_X0_clear mk_RX8_146 rfl (rcF (by decide)) ⟨Nat.le_of_ble_eq_true rfl, Nat.le_of_ble_eq_true rfl⟩ rfl (Nat.le_of_ble_eq_true rfl) dX8_part_54 ?_
              refine jAloadn C dX8_part_57 rfl 1 rfl ?_
              refine gf_RX8_16 C dX8_part_58 ?_
              refine jAload C dX8_part_61 0 rfl ?_
              refine jIloadn C dX8_part_63 rfl 3 rfl ?_
              obtain ⟨cLo_31, cHi_32, e33, hf⟩ := bd2_some hf
              refine jVV C (X0_joinLink_ok (by decide) (X8_familyAt_lt q2) e33) vb_X0_joinLink mk_RX8_149 rfl (rcF (by decide)) ⟨Nat.le_of_ble_eq_true rfl, Nat.le_of_ble_eq_true rfl⟩ rfl (Nat.le_of_ble_eq_true rfl) dX8_part_64 ?_
              refine jGoto C 87 dX8_part_67 (by decide) ?_
              refine jAloadn C dX8_part_87 rfl 1 rfl ?_
              refine jIload C dX8_part_88 5 rfl ?_
              refine jAloadn C dX8_part_90 rfl 1 rfl ?_
              refine gf_RX8_16 C dX8_part_91 ?_
              obtain ⟨q34, cP_35, cLo_36, cHi_37, cso_38, cha_39, chs_40, e41, hf⟩ := bd7_some hf
              refine jVI C (X8_comesInto_ok (by decide) e41) vb_X8_comesInto mk_RX8_84 rfl rc28 ⟨Nat.le_of_ble_eq_true rfl, Nat.le_of_ble_eq_true rfl⟩ rfl (Nat.le_of_ble_eq_true rfl) dX8_part_94 ?_
              cases hf
              exact jEndI C hQ rfl dX8_part_97
          · replace hf := itp hf c10
            refine jBipush C (-2 : Int32) dX8_part_38 kb_m2 ?_
            cases hf
            exact jEndI C hQ rfl dX8_part_40
noncomputable def X8_isShift (cP : Nat → Int32) (p0 : Nat) (p1 : Int32) (p2 : Int32) : Option Int32 := bd1 (X0_knowsPoint cP p0 p1) (fun q1 => (if q1 = (0 : Int32) then some (0 : Int32) else bd1 (X0_knowsPoint cP p0 p2) (fun q4 => (if q4 = (0 : Int32) then some (0 : Int32) else (if p2 ≤ p1 then some (0 : Int32) else some (1 : Int32))))))
set_option maxHeartbeats 4000000 in
set_option maxRecDepth 20000 in
theorem X8_isShift_ok {p0 : Nat} {p1 : Int32} {p2 : Int32} {rr : Int32} (hp0 : p0 < 28) (hf : X8_isShift cP p0 p1 p2 = some rr) : MT yX8_isShift cX8_isShift 3 (some .boolean) 1 [.ref (g p0), .int p1, .int p2] D cy G (cw g cy cP cLo cHi cpl ctb ctl ctf ctp ctk cts cth cob col cso cha chs cbe ctr cgl cgh cll clh cta cme cps cwh cal cah) (cw g cy cP cLo cHi cpl ctb ctl ctf ctp ctk cts cth cob col cso cha chs cbe ctr cgl cgh cll clh cta cme cps cwh cal cah) (some (.int rr)) := by
  refine MT.go (own := RX8) [(0, .ref (g p0)), (1, .int p1), (2, .int p2)] (by decide) rfl (Nat.le_of_ble_eq_true rfl) rfl (fun p l e s m args below meth c A Q C hQ => ?_)
  unfold X8_isShift at hf
  refine jAloadn C dX8_isShift_0 rfl 0 rfl ?_
  refine jIloadn C dX8_isShift_1 rfl 1 rfl ?_
  obtain ⟨q1, e2, hf⟩ := bd1_some hf
  refine jVI C (X0_knowsPoint_ok hp0 e2) vb_X0_knowsPoint mk_RX8_127 rfl (rcF hp0) ⟨Nat.le_of_ble_eq_true rfl, Nat.le_of_ble_eq_true rfl⟩ rfl (Nat.le_of_ble_eq_true rfl) dX8_isShift_2 ?_
  refine jIfEq C 25 dX8_isShift_5 (by decide) (fun c3 => ?_) (fun c3 => ?_)
  · replace hf := itp hf c3
    refine jIconst C (0 : Int32) dX8_isShift_25 ki_0 ?_
    cases hf
    exact jEndIZ C hQ rfl nar_z0 dX8_isShift_26
  · replace hf := itn hf c3
    refine jAloadn C dX8_isShift_8 rfl 0 rfl ?_
    refine jIloadn C dX8_isShift_9 rfl 2 rfl ?_
    obtain ⟨q4, e5, hf⟩ := bd1_some hf
    refine jVI C (X0_knowsPoint_ok hp0 e5) vb_X0_knowsPoint mk_RX8_127 rfl (rcF hp0) ⟨Nat.le_of_ble_eq_true rfl, Nat.le_of_ble_eq_true rfl⟩ rfl (Nat.le_of_ble_eq_true rfl) dX8_isShift_10 ?_
    refine jIfEq C 25 dX8_isShift_13 (by decide) (fun c6 => ?_) (fun c6 => ?_)
    · replace hf := itp hf c6
      refine jIconst C (0 : Int32) dX8_isShift_25 ki_0 ?_
      cases hf
      exact jEndIZ C hQ rfl nar_z0 dX8_isShift_26
    · replace hf := itn hf c6
      refine jIloadn C dX8_isShift_16 rfl 1 rfl ?_
      refine jIloadn C dX8_isShift_17 rfl 2 rfl ?_
      refine jCmpGe C 25 dX8_isShift_18 (by decide) (fun c7 => ?_) (fun c7 => ?_)
      · replace hf := itp hf c7
        refine jIconst C (0 : Int32) dX8_isShift_25 ki_0 ?_
        cases hf
        exact jEndIZ C hQ rfl nar_z0 dX8_isShift_26
      · replace hf := itn hf c7
        refine jIconst C (1 : Int32) dX8_isShift_21 ki_1 ?_
        refine jGoto C 26 dX8_isShift_22 (by decide) ?_
        cases hf
        exact jEndIZ C hQ rfl nar_z1 dX8_isShift_26
noncomputable def X8_move (cP : Nat → Int32) (cLo : Nat → Int64) (cHi : Nat → Int64) (p1 : Nat) (p2 : Int32) (p3 : Int32) : Option (Int32 × (Nat → Int32) × (Nat → Int64) × (Nat → Int64)) := bd4 (X8_newcomers cP cLo cHi p1 p2 p3) (fun q1 cP_2 cLo_3 cHi_4 => bd3 (X0_becomeReplaced cP_2 cLo_3 cHi_4 4 3 p2 p3) (fun cP_6 cLo_7 cHi_8 => bd2 (X0_lose cLo_7 cHi_8 p1 4) (fun cLo_10 cHi_11 => bd2 (X0_join cLo_10 cHi_11 p1 3) (fun cLo_13 cHi_14 => some (q1, cP_6, cLo_13, cHi_14)))))
set_option maxHeartbeats 4000000 in
set_option maxRecDepth 20000 in
theorem X8_move_ok {p1 : Nat} {p2 : Int32} {p3 : Int32} {rr : Int32} {ocP : Nat → Int32} {ocLo : Nat → Int64} {ocHi : Nat → Int64} (hp1 : p1 < 28) (hf : X8_move cP cLo cHi p1 p2 p3 = some (rr, ocP, ocLo, ocHi)) : MT yX8_move cX8_move 5 (some .int) 3 [.ref (g 28), .ref (g p1), .int p2, .int p3] D cy G (cw g cy cP cLo cHi cpl ctb ctl ctf ctp ctk cts cth cob col cso cha chs cbe ctr cgl cgh cll clh cta cme cps cwh cal cah) (cw g cy ocP ocLo ocHi cpl ctb ctl ctf ctp ctk cts cth cob col cso cha chs cbe ctr cgl cgh cll clh cta cme cps cwh cal cah) (some (.int rr)) := by
  refine MT.go (own := RX8) [(0, .ref (g 28)), (1, .ref (g p1)), (2, .int p2), (3, .int p3)] (by decide) rfl (Nat.le_of_ble_eq_true rfl) rfl (fun p l e s m args below meth c A Q C hQ => ?_)
  unfold X8_move at hf
  refine jAloadn C dX8_move_0 rfl 0 rfl ?_
  refine jAloadn C dX8_move_1 rfl 1 rfl ?_
  refine jIloadn C dX8_move_2 rfl 2 rfl ?_
  refine jIloadn C dX8_move_3 rfl 3 rfl ?_
  obtain ⟨q1, cP_2, cLo_3, cHi_4, e5, hf⟩ := bd4_some hf
  refine jVI C (X8_newcomers_ok hp1 e5) vb_X8_newcomers mk_RX8_167 rfl rc28 ⟨Nat.le_of_ble_eq_true rfl, Nat.le_of_ble_eq_true rfl⟩ rfl (Nat.le_of_ble_eq_true rfl) dX8_move_4 ?_
  refine jIstore C dX8_move_7 (Nat.le_of_ble_eq_true rfl) [(4, .int q1), (0, .ref (g 28)), (1, .ref (g p1)), (2, .int p2), (3, .int p3)] rfl ?_
  refine jAloadn C dX8_move_9 rfl 1 rfl ?_
  refine gf_RX8_20 C dX8_move_10 ?_
  refine jAloadn C dX8_move_13 rfl 1 rfl ?_
  refine gf_RX8_16 C dX8_move_14 ?_
  refine jIloadn C dX8_move_17 rfl 3 rfl ?_
  refine jIloadn C dX8_move_18 rfl 4 rfl ?_
  obtain ⟨cP_6, cLo_7, cHi_8, e9, hf⟩ := bd3_some hf
  refine jVV C (X0_becomeReplaced_ok (by decide) (by decide) e9) vb_X0_becomeReplaced mk_RX8_394 rfl (rcF (by decide)) ⟨Nat.le_of_ble_eq_true rfl, Nat.le_of_ble_eq_true rfl⟩ rfl (Nat.le_of_ble_eq_true rfl) dX8_move_19 ?_
  refine jAloadn C dX8_move_22 rfl 2 rfl ?_
  refine jAloadn C dX8_move_23 rfl 1 rfl ?_
  refine gf_RX8_20 C dX8_move_24 ?_
  obtain ⟨cLo_10, cHi_11, e12, hf⟩ := bd2_some hf
  refine jVV C (X0_lose_ok hp1 (by decide) e12) vb_X0_lose mk_RX8_310 rfl (rcF hp1) ⟨Nat.le_of_ble_eq_true rfl, Nat.le_of_ble_eq_true rfl⟩ rfl (Nat.le_of_ble_eq_true rfl) dX8_move_27 ?_
  refine jAloadn C dX8_move_30 rfl 2 rfl ?_
  refine jAloadn C dX8_move_31 rfl 1 rfl ?_
  refine gf_RX8_16 C dX8_move_32 ?_
  obtain ⟨cLo_13, cHi_14, e15, hf⟩ := bd2_some hf
  refine jVV C (X0_join_ok hp1 (by decide) e15) vb_X0_join mk_RX8_286 rfl (rcF hp1) ⟨Nat.le_of_ble_eq_true rfl, Nat.le_of_ble_eq_true rfl⟩ rfl (Nat.le_of_ble_eq_true rfl) dX8_move_35 ?_
  refine jIload C dX8_move_38 0 rfl ?_
  cases hf
  exact jEndI C hQ rfl dX8_move_40
noncomputable def X8_shift (cP : Nat → Int32) (cLo : Nat → Int64) (cHi : Nat → Int64) (cso : Nat → Int32) (cha : Int32) (chs : Int32) (p1 : Int32) (p2 : Int32) (p3 : Int32) : Option (Int32 × (Nat → Int32) × (Nat → Int64) × (Nat → Int64) × (Nat → Int32) × Int32 × Int32) := bdo (X8_familyAt cP p1) (some ((-2 : Int32), cP, cLo, cHi, cso, cha, chs)) (fun f1 => bd1 (X8_isShift cP f1 p2 p3) (fun q3 => (if q3 = (0 : Int32) then some ((-2 : Int32), cP, cLo, cHi, cso, cha, chs) else bd3 (X0_become cP cLo cHi 5 f1) (fun cP_6 cLo_7 cHi_8 => bd4 (X8_move cP_6 cLo_7 cHi_8 5 p2 p3) (fun q10 cP_11 cLo_12 cHi_13 => bd7 (X8_comesInto cP_11 cLo_12 cHi_13 cso cha chs p1 5) (fun q15 cP_16 cLo_17 cHi_18 cso_19 cha_20 chs_21 => some (q10, cP_16, cLo_17, cHi_18, cso_19, cha_20, chs_21)))))))
set_option maxHeartbeats 4000000 in
set_option maxRecDepth 20000 in
theorem X8_shift_ok {p1 : Int32} {p2 : Int32} {p3 : Int32} {rr : Int32} {ocP : Nat → Int32} {ocLo : Nat → Int64} {ocHi : Nat → Int64} {ocso : Nat → Int32} {ocha : Int32} {ochs : Int32}  (hf : X8_shift cP cLo cHi cso cha chs p1 p2 p3 = some (rr, ocP, ocLo, ocHi, ocso, ocha, ochs)) : MT yX8_shift cX8_shift 6 (some .int) 4 [.ref (g 28), .int p1, .int p2, .int p3] D cy G (cw g cy cP cLo cHi cpl ctb ctl ctf ctp ctk cts cth cob col cso cha chs cbe ctr cgl cgh cll clh cta cme cps cwh cal cah) (cw g cy ocP ocLo ocHi cpl ctb ctl ctf ctp ctk cts cth cob col ocso ocha ochs cbe ctr cgl cgh cll clh cta cme cps cwh cal cah) (some (.int rr)) := by
  refine MT.go (own := RX8) [(0, .ref (g 28)), (1, .int p1), (2, .int p2), (3, .int p3)] (by decide) rfl (Nat.le_of_ble_eq_true rfl) rfl (fun p l e s m args below meth c A Q C hQ => ?_)
  unfold X8_shift at hf
  refine jAloadn C dX8_shift_0 rfl 0 rfl ?_
  refine jIloadn C dX8_shift_1 rfl 1 rfl ?_
  rcases bdo_some hf with ⟨q2, hf⟩ | ⟨f1, q2, hf⟩
  · refine jVN C (X8_familyAt_ok  q2) vb_X8_familyAt mk_RX8_102 rfl rc28 ⟨Nat.le_of_ble_eq_true rfl, Nat.le_of_ble_eq_true rfl⟩ rfl (Nat.le_of_ble_eq_true rfl) dX8_shift_2 ?_
    refine jAstoreN C dX8_shift_5 (Nat.le_of_ble_eq_true rfl) [(4, .null), (0, .ref (g 28)), (1, .int p1), (2, .int p2), (3, .int p3)] rfl ?_
    refine jAloadN C dX8_shift_7 0 rfl ?_
    refine jIfnullN C 22 dX8_shift_9 (by decide) ?_
    refine jBipush C (-2 : Int32) dX8_shift_22 kb_m2 ?_
    cases hf
    exact jEndI C hQ rfl dX8_shift_24
  · refine jVA C (X8_familyAt_ok  q2) vb_X8_familyAt mk_RX8_102 rfl rc28 ⟨Nat.le_of_ble_eq_true rfl, Nat.le_of_ble_eq_true rfl⟩ rfl (Nat.le_of_ble_eq_true rfl) dX8_shift_2 ?_
    refine jAstore C dX8_shift_5 (Nat.le_of_ble_eq_true rfl) [(4, .ref (g f1)), (0, .ref (g 28)), (1, .int p1), (2, .int p2), (3, .int p3)] rfl ?_
    refine jAload C dX8_shift_7 0 rfl ?_
    refine jIfnull C dX8_shift_9 ?_
    refine jAload C dX8_shift_12 0 rfl ?_
    refine jIloadn C dX8_shift_14 rfl 3 rfl ?_
    refine jIloadn C dX8_shift_15 rfl 4 rfl ?_
    obtain ⟨q3, e4, hf⟩ := bd1_some hf
    refine jSI C (X8_isShift_ok (X8_familyAt_lt q2) e4) sb_X8_isShift mk_RX8_159 rfl ⟨Nat.le_of_ble_eq_true rfl, Nat.le_of_ble_eq_true rfl⟩ rfl (Nat.le_of_ble_eq_true rfl) dX8_shift_16 ?_
    refine jIfNe C 25 dX8_shift_19 (by decide) (fun c5 => ?_) (fun c5 => ?_)
    · replace hf := itn hf c5
      refine jAloadn C dX8_shift_25 rfl 1 rfl ?_
      refine gf_RX8_23 C dX8_shift_26 ?_
      refine jAload C dX8_shift_29 0 rfl ?_
      obtain ⟨cP_6, cLo_7, cHi_8, e9, hf⟩ := bd3_some hf
      refine jVV C (X0_become_ok (by decide) (X8_familyAt_lt q2) e9) vb_X0_become mk_RX8_152 rfl (rcF (by decide)) ⟨Nat.le_of_ble_eq_true rfl, Nat.le_of_ble_eq_true rfl⟩ rfl (Nat.le_of_ble_eq_true rfl) dX8_shift_31 ?_
      refine jAloadn C dX8_shift_34 rfl 1 rfl ?_
      refine jAloadn C dX8_shift_35 rfl 1 rfl ?_
      refine gf_RX8_23 C dX8_shift_36 ?_
      refine jIloadn C dX8_shift_39 rfl 3 rfl ?_
      refine jIloadn C dX8_shift_40 rfl 4 rfl ?_
      obtain ⟨q10, cP_11, cLo_12, cHi_13, e14, hf⟩ := bd4_some hf
      refine jVI C (X8_move_ok (by decide) e14) vb_X8_move mk_RX8_163 rfl rc28 ⟨Nat.le_of_ble_eq_true rfl, Nat.le_of_ble_eq_true rfl⟩ rfl (Nat.le_of_ble_eq_true rfl) dX8_shift_41 ?_
      refine jIstore C dX8_shift_44 (Nat.le_of_ble_eq_true rfl) [(5, .int q10), (4, .ref (g f1)), (0, .ref (g 28)), (1, .int p1), (2, .int p2), (3, .int p3)] rfl ?_
      refine jAloadn C dX8_shift_46 rfl 2 rfl ?_
      refine jIloadn C dX8_shift_47 rfl 3 rfl ?_
      refine jAloadn C dX8_shift_48 rfl 2 rfl ?_
      refine gf_RX8_23 C dX8_shift_49 ?_
      obtain ⟨q15, cP_16, cLo_17, cHi_18, cso_19, cha_20, chs_21, e22, hf⟩ := bd7_some hf
      refine jVI C (X8_comesInto_ok (by decide) e22) vb_X8_comesInto mk_RX8_84 rfl rc28 ⟨Nat.le_of_ble_eq_true rfl, Nat.le_of_ble_eq_true rfl⟩ rfl (Nat.le_of_ble_eq_true rfl) dX8_shift_52 ?_
      refine jPop C dX8_shift_55 rfl ?_
      refine jIload C dX8_shift_56 0 rfl ?_
      cases hf
      exact jEndI C hQ rfl dX8_shift_58
    · replace hf := itp hf c5
      refine jBipush C (-2 : Int32) dX8_shift_22 kb_m2 ?_
      cases hf
      exact jEndI C hQ rfl dX8_shift_24
noncomputable def X8_would (cP : Nat → Int32) (cLo : Nat → Int64) (cHi : Nat → Int64) (p1 : Int32) (p2 : Int32) (p3 : Int32) : Option (Int32 × (Nat → Int32) × (Nat → Int64) × (Nat → Int64)) := bdo (X8_familyAt cP p1) (some ((-2 : Int32), cP, cLo, cHi)) (fun f1 => bd1 (X8_isShift cP f1 p2 p3) (fun q3 => (if q3 = (0 : Int32) then some ((-2 : Int32), cP, cLo, cHi) else bd4 (X8_newcomers cP cLo cHi f1 p2 p3) (fun q6 cP_7 cLo_8 cHi_9 => some (q6, cP_7, cLo_8, cHi_9)))))
set_option maxHeartbeats 4000000 in
set_option maxRecDepth 20000 in
theorem X8_would_ok {p1 : Int32} {p2 : Int32} {p3 : Int32} {rr : Int32} {ocP : Nat → Int32} {ocLo : Nat → Int64} {ocHi : Nat → Int64}  (hf : X8_would cP cLo cHi p1 p2 p3 = some (rr, ocP, ocLo, ocHi)) : MT yX8_would cX8_would 5 (some .int) 3 [.ref (g 28), .int p1, .int p2, .int p3] D cy G (cw g cy cP cLo cHi cpl ctb ctl ctf ctp ctk cts cth cob col cso cha chs cbe ctr cgl cgh cll clh cta cme cps cwh cal cah) (cw g cy ocP ocLo ocHi cpl ctb ctl ctf ctp ctk cts cth cob col cso cha chs cbe ctr cgl cgh cll clh cta cme cps cwh cal cah) (some (.int rr)) := by
  refine MT.go (own := RX8) [(0, .ref (g 28)), (1, .int p1), (2, .int p2), (3, .int p3)] (by decide) rfl (Nat.le_of_ble_eq_true rfl) rfl (fun p l e s m args below meth c A Q C hQ => ?_)
  unfold X8_would at hf
  refine jAloadn C dX8_would_0 rfl 0 rfl ?_
  refine jIloadn C dX8_would_1 rfl 1 rfl ?_
  rcases bdo_some hf with ⟨q2, hf⟩ | ⟨f1, q2, hf⟩
  · refine jVN C (X8_familyAt_ok  q2) vb_X8_familyAt mk_RX8_102 rfl rc28 ⟨Nat.le_of_ble_eq_true rfl, Nat.le_of_ble_eq_true rfl⟩ rfl (Nat.le_of_ble_eq_true rfl) dX8_would_2 ?_
    refine jAstoreN C dX8_would_5 (Nat.le_of_ble_eq_true rfl) [(4, .null), (0, .ref (g 28)), (1, .int p1), (2, .int p2), (3, .int p3)] rfl ?_
    refine jAloadN C dX8_would_7 0 rfl ?_
    refine jIfnullN C 22 dX8_would_9 (by decide) ?_
    refine jBipush C (-2 : Int32) dX8_would_22 kb_m2 ?_
    cases hf
    exact jEndI C hQ rfl dX8_would_24
  · refine jVA C (X8_familyAt_ok  q2) vb_X8_familyAt mk_RX8_102 rfl rc28 ⟨Nat.le_of_ble_eq_true rfl, Nat.le_of_ble_eq_true rfl⟩ rfl (Nat.le_of_ble_eq_true rfl) dX8_would_2 ?_
    refine jAstore C dX8_would_5 (Nat.le_of_ble_eq_true rfl) [(4, .ref (g f1)), (0, .ref (g 28)), (1, .int p1), (2, .int p2), (3, .int p3)] rfl ?_
    refine jAload C dX8_would_7 0 rfl ?_
    refine jIfnull C dX8_would_9 ?_
    refine jAload C dX8_would_12 0 rfl ?_
    refine jIloadn C dX8_would_14 rfl 3 rfl ?_
    refine jIloadn C dX8_would_15 rfl 4 rfl ?_
    obtain ⟨q3, e4, hf⟩ := bd1_some hf
    refine jSI C (X8_isShift_ok (X8_familyAt_lt q2) e4) sb_X8_isShift mk_RX8_159 rfl ⟨Nat.le_of_ble_eq_true rfl, Nat.le_of_ble_eq_true rfl⟩ rfl (Nat.le_of_ble_eq_true rfl) dX8_would_16 ?_
    refine jIfNe C 25 dX8_would_19 (by decide) (fun c5 => ?_) (fun c5 => ?_)
    · replace hf := itn hf c5
      refine jAloadn C dX8_would_25 rfl 1 rfl ?_
      refine jAload C dX8_would_26 0 rfl ?_
      refine jIloadn C dX8_would_28 rfl 3 rfl ?_
      refine jIloadn C dX8_would_29 rfl 4 rfl ?_
      obtain ⟨q6, cP_7, cLo_8, cHi_9, e10, hf⟩ := bd4_some hf
      refine jVI C (X8_newcomers_ok (X8_familyAt_lt q2) e10) vb_X8_newcomers mk_RX8_167 rfl rc28 ⟨Nat.le_of_ble_eq_true rfl, Nat.le_of_ble_eq_true rfl⟩ rfl (Nat.le_of_ble_eq_true rfl) dX8_would_30 ?_
      cases hf
      exact jEndI C hQ rfl dX8_would_33
    · replace hf := itp hf c5
      refine jBipush C (-2 : Int32) dX8_would_22 kb_m2 ?_
      cases hf
      exact jEndI C hQ rfl dX8_would_24
noncomputable def X8_settle_h32 (p1 : Nat) (r15 : Int32 → Int32 → (Nat → Int32) → (Nat → Int64) → (Nat → Int64) → Option (Int32 × (Nat → Int32) × (Nat → Int64) × (Nat → Int64))) (x5_10 : Int32) (r24 : Int32 → Int32 → (Nat → Int32) → (Nat → Int64) → (Nat → Int64) → Option (Int32 × (Nat → Int32) × (Nat → Int64) × (Nat → Int64))) (x2_18 : Int32) (x6_19 : Int32) (cP_20 : Nat → Int32) (cLo_21 : Nat → Int64) (cHi_22 : Nat → Int64) : Option (Int32 × (Nat → Int32) × (Nat → Int64) × (Nat → Int64)) := (if (cP_20 p1) ≤ x6_19 then r15 x2_18 (x5_10 + (1 : Int32)) cP_20 cLo_21 cHi_22 else bd4 (X8_move cP_20 cLo_21 cHi_22 p1 x5_10 x6_19) (fun q26 cP_27 cLo_28 cHi_29 => (if q26 ≤ (0 : Int32) then r24 x2_18 (x6_19 + (1 : Int32)) cP_27 cLo_28 cHi_29 else r24 (x2_18 + (1 : Int32)) (x6_19 + (1 : Int32)) cP_27 cLo_28 cHi_29)))
noncomputable def X8_settle_h17 (p1 : Nat) (x2_1 : Int32) (r7 : Int32 → Int32 → (Nat → Int32) → (Nat → Int64) → (Nat → Int64) → Option (Int32 × (Nat → Int32) × (Nat → Int64) × (Nat → Int64))) (x3_2 : Int32) (r15 : Int32 → Int32 → (Nat → Int32) → (Nat → Int64) → (Nat → Int64) → Option (Int32 × (Nat → Int32) × (Nat → Int64) × (Nat → Int64))) (x2_9 : Int32) (x5_10 : Int32) (cP_11 : Nat → Int32) (cLo_12 : Nat → Int64) (cHi_13 : Nat → Int64) : Option (Int32 × (Nat → Int32) × (Nat → Int64) × (Nat → Int64)) := (if (cP_11 p1) ≤ x5_10 then (if x2_9 = x2_1 then some (x2_9, cP_11, cLo_12, cHi_13) else r7 x2_9 (x3_2 + (1 : Int32)) cP_11 cLo_12 cHi_13) else lfp5 (X8_settle_h32 p1 r15 x5_10) x2_9 (x5_10 + (1 : Int32)) cP_11 cLo_12 cHi_13)
noncomputable def X8_settle_h4 (p1 : Nat) (r7 : Int32 → Int32 → (Nat → Int32) → (Nat → Int64) → (Nat → Int64) → Option (Int32 × (Nat → Int32) × (Nat → Int64) × (Nat → Int64))) (x2_1 : Int32) (x3_2 : Int32) (cP_3 : Nat → Int32) (cLo_4 : Nat → Int64) (cHi_5 : Nat → Int64) : Option (Int32 × (Nat → Int32) × (Nat → Int64) × (Nat → Int64)) := (if (16384 : Int32) ≤ x3_2 then some (x2_1, cP_3, cLo_4, cHi_5) else lfp5 (X8_settle_h17 p1 x2_1 r7 x3_2) x2_1 (0 : Int32) cP_3 cLo_4 cHi_5)
noncomputable def X8_settle (cP : Nat → Int32) (cLo : Nat → Int64) (cHi : Nat → Int64) (p1 : Nat) : Option (Int32 × (Nat → Int32) × (Nat → Int64) × (Nat → Int64)) := lfp5 (X8_settle_h4 p1) (0 : Int32) (0 : Int32) cP cLo cHi
set_option maxHeartbeats 4000000 in
set_option maxRecDepth 20000 in
theorem X8_settle_ok {p1 : Nat} {rr : Int32} {ocP : Nat → Int32} {ocLo : Nat → Int64} {ocHi : Nat → Int64} (hp1 : p1 < 28) (hf : X8_settle cP cLo cHi p1 = some (rr, ocP, ocLo, ocHi)) : MT yX8_settle cX8_settle 7 (some .int) 4 [.ref (g 28), .ref (g p1)] D cy G (cw g cy cP cLo cHi cpl ctb ctl ctf ctp ctk cts cth cob col cso cha chs cbe ctr cgl cgh cll clh cta cme cps cwh cal cah) (cw g cy ocP ocLo ocHi cpl ctb ctl ctf ctp ctk cts cth cob col cso cha chs cbe ctr cgl cgh cll clh cta cme cps cwh cal cah) (some (.int rr)) := by
  refine MT.go (own := RX8) [(0, .ref (g 28)), (1, .ref (g p1))] (by decide) rfl (Nat.le_of_ble_eq_true rfl) rfl (fun p l e s m args below meth c A Q C hQ => ?_)
  unfold X8_settle at hf
  refine jIconst C (0 : Int32) dX8_settle_0 ki_0 ?_
  refine jIstoren C dX8_settle_1 rfl (Nat.le_of_ble_eq_true rfl) [(2, .int (0 : Int32)), (0, .ref (g 28)), (1, .ref (g p1))] rfl ?_
  refine jIconst C (0 : Int32) dX8_settle_2 ki_0 ?_
  refine jIstoren C dX8_settle_3 rfl (Nat.le_of_ble_eq_true rfl) [(3, .int (0 : Int32)), (2, .int (0 : Int32)), (0, .ref (g 28)), (1, .ref (g p1))] rfl ?_
  have hL6 : ∀ (x2_1 : Int32) (x3_2 : Int32) (cP_3 : Nat → Int32) (cLo_4 : Nat → Int64) (cHi_5 : Nat → Int64), lfp5 (X8_settle_h4 p1) x2_1 x3_2 cP_3 cLo_4 cHi_5 = some (rr, ocP, ocLo, ocHi) → J p l e (rmk 4) s m args below meth c D A Q 7 (cw g cy cP_3 cLo_4 cHi_5 cpl ctb ctl ctf ctp ctk cts cth cob col cso cha chs cbe ctr cgl cgh cll clh cta cme cps cwh cal cah) 4 [(0, .ref (g 28)), (1, .ref (g p1)), (2, .int x2_1), (3, .int x3_2)] [] := by
    intro x2_1 x3_2 cP_3 cLo_4 cHi_5 hw
    refine lfp5_walk (P := fun x2_1 x3_2 cP_3 cLo_4 cHi_5 => J p l e (rmk 4) s m args below meth c D A Q 7 (cw g cy cP_3 cLo_4 cHi_5 cpl ctb ctl ctf ctp ctk cts cth cob col cso cha chs cbe ctr cgl cgh cll clh cta cme cps cwh cal cah) 4 [(0, .ref (g 28)), (1, .ref (g p1)), (2, .int x2_1), (3, .int x3_2)] []) ?_ hw
    intro r7 ir7 x2_1 x3_2 cP_3 cLo_4 cHi_5 hf
    unfold X8_settle_h4 at hf
    refine jIloadn C dX8_settle_4 rfl 3 rfl ?_
    refine jSipush C (16384 : Int32) dX8_settle_5 ks_16384 ?_
    refine jCmpGe C 83 dX8_settle_8 (by decide) (fun c8 => ?_) (fun c8 => ?_)
    · replace hf := itp hf c8
      refine jIloadn C dX8_settle_83 rfl 2 rfl ?_
      cases hf
      exact jEndI C hQ rfl dX8_settle_84
    · replace hf := itn hf c8
      refine jIloadn C dX8_settle_11 rfl 2 rfl ?_
      refine jIstore C dX8_settle_12 (Nat.le_of_ble_eq_true rfl) [(4, .int x2_1), (0, .ref (g 28)), (1, .ref (g p1)), (2, .int x2_1), (3, .int x3_2)] rfl ?_
      refine jIconst C (0 : Int32) dX8_settle_14 ki_0 ?_
      refine jIstore C dX8_settle_15 (Nat.le_of_ble_eq_true rfl) [(5, .int (0 : Int32)), (4, .int x2_1), (0, .ref (g 28)), (1, .ref (g p1)), (2, .int x2_1), (3, .int x3_2)] rfl ?_
      have hL14 : ∀ (x2_9 : Int32) (x5_10 : Int32) (cP_11 : Nat → Int32) (cLo_12 : Nat → Int64) (cHi_13 : Nat → Int64), lfp5 (X8_settle_h17 p1 x2_1 r7 x3_2) x2_9 x5_10 cP_11 cLo_12 cHi_13 = some (rr, ocP, ocLo, ocHi) → J p l e (rmk 4) s m args below meth c D A Q 7 (cw g cy cP_11 cLo_12 cHi_13 cpl ctb ctl ctf ctp ctk cts cth cob col cso cha chs cbe ctr cgl cgh cll clh cta cme cps cwh cal cah) 17 [(0, .ref (g 28)), (1, .ref (g p1)), (2, .int x2_9), (3, .int x3_2), (4, .int x2_1), (5, .int x5_10)] [] := by
        intro x2_9 x5_10 cP_11 cLo_12 cHi_13 hw
        refine lfp5_walk (P := fun x2_9 x5_10 cP_11 cLo_12 cHi_13 => J p l e (rmk 4) s m args below meth c D A Q 7 (cw g cy cP_11 cLo_12 cHi_13 cpl ctb ctl ctf ctp ctk cts cth cob col cso cha chs cbe ctr cgl cgh cll clh cta cme cps cwh cal cah) 17 [(0, .ref (g 28)), (1, .ref (g p1)), (2, .int x2_9), (3, .int x3_2), (4, .int x2_1), (5, .int x5_10)] []) ?_ hw
        intro r15 ir15 x2_9 x5_10 cP_11 cLo_12 cHi_13 hf
        unfold X8_settle_h17 at hf
        refine jIload C dX8_settle_17 5 rfl ?_
        refine jAloadn C dX8_settle_19 rfl 1 rfl ?_
        refine gf_RX8_133 C hp1 dX8_settle_20 ?_
        refine jCmpGe C 68 dX8_settle_23 (by decide) (fun c16 => ?_) (fun c16 => ?_)
        · replace hf := itp hf c16
          refine jIloadn C dX8_settle_68 rfl 2 rfl ?_
          refine jIload C dX8_settle_69 4 rfl ?_
          refine jCmpNe C 77 dX8_settle_71 (by decide) (fun c17 => ?_) (fun c17 => ?_)
          · replace hf := itn hf c17
            refine jIinc C (x3_2 + (1 : Int32)) dX8_settle_77 3 rfl (congrArg (fun z : Int32 => x3_2 + z) ki_1) (Nat.le_of_ble_eq_true rfl) [(3, .int (x3_2 + (1 : Int32))), (0, .ref (g 28)), (1, .ref (g p1)), (2, .int x2_9), (4, .int x2_1), (5, .int x5_10)] rfl ?_
            refine jGoto C 4 dX8_settle_80 (by decide) ?_
            refine jSub [1, 2, 3, 0] rfl ?_
            exact ir7 x2_9 (x3_2 + (1 : Int32)) cP_11 cLo_12 cHi_13 hf
          · replace hf := itp hf c17
            refine jGoto C 83 dX8_settle_74 (by decide) ?_
            refine jIloadn C dX8_settle_83 rfl 2 rfl ?_
            cases hf
            exact jEndI C hQ rfl dX8_settle_84
        · replace hf := itn hf c16
          refine jIload C dX8_settle_26 5 rfl ?_
          refine jIconst C (1 : Int32) dX8_settle_28 ki_1 ?_
          refine jIadd C dX8_settle_29 ?_
          refine jIstore C dX8_settle_30 (Nat.le_of_ble_eq_true rfl) [(6, .int (x5_10 + (1 : Int32))), (0, .ref (g 28)), (1, .ref (g p1)), (2, .int x2_9), (3, .int x3_2), (4, .int x2_1), (5, .int x5_10)] rfl ?_
          have hL23 : ∀ (x2_18 : Int32) (x6_19 : Int32) (cP_20 : Nat → Int32) (cLo_21 : Nat → Int64) (cHi_22 : Nat → Int64), lfp5 (X8_settle_h32 p1 r15 x5_10) x2_18 x6_19 cP_20 cLo_21 cHi_22 = some (rr, ocP, ocLo, ocHi) → J p l e (rmk 4) s m args below meth c D A Q 7 (cw g cy cP_20 cLo_21 cHi_22 cpl ctb ctl ctf ctp ctk cts cth cob col cso cha chs cbe ctr cgl cgh cll clh cta cme cps cwh cal cah) 32 [(0, .ref (g 28)), (1, .ref (g p1)), (2, .int x2_18), (3, .int x3_2), (4, .int x2_1), (5, .int x5_10), (6, .int x6_19)] [] := by
            intro x2_18 x6_19 cP_20 cLo_21 cHi_22 hw
            refine lfp5_walk (P := fun x2_18 x6_19 cP_20 cLo_21 cHi_22 => J p l e (rmk 4) s m args below meth c D A Q 7 (cw g cy cP_20 cLo_21 cHi_22 cpl ctb ctl ctf ctp ctk cts cth cob col cso cha chs cbe ctr cgl cgh cll clh cta cme cps cwh cal cah) 32 [(0, .ref (g 28)), (1, .ref (g p1)), (2, .int x2_18), (3, .int x3_2), (4, .int x2_1), (5, .int x5_10), (6, .int x6_19)] []) ?_ hw
            intro r24 ir24 x2_18 x6_19 cP_20 cLo_21 cHi_22 hf
            unfold X8_settle_h32 at hf
            refine jIload C dX8_settle_32 6 rfl ?_
            refine jAloadn C dX8_settle_34 rfl 1 rfl ?_
            refine gf_RX8_133 C hp1 dX8_settle_35 ?_
            refine jCmpGe C 62 dX8_settle_38 (by decide) (fun c25 => ?_) (fun c25 => ?_)
            · replace hf := itp hf c25
              refine jIinc C (x5_10 + (1 : Int32)) dX8_settle_62 5 rfl (congrArg (fun z : Int32 => x5_10 + z) ki_1) (Nat.le_of_ble_eq_true rfl) [(5, .int (x5_10 + (1 : Int32))), (0, .ref (g 28)), (1, .ref (g p1)), (2, .int x2_18), (3, .int x3_2), (4, .int x2_1), (6, .int x6_19)] rfl ?_
              refine jGoto C 17 dX8_settle_65 (by decide) ?_
              refine jSub [1, 2, 3, 4, 5, 0] rfl ?_
              exact ir15 x2_18 (x5_10 + (1 : Int32)) cP_20 cLo_21 cHi_22 hf
            · replace hf := itn hf c25
              refine jAloadn C dX8_settle_41 rfl 0 rfl ?_
              refine jAloadn C dX8_settle_42 rfl 1 rfl ?_
              refine jIload C dX8_settle_43 5 rfl ?_
              refine jIload C dX8_settle_45 6 rfl ?_
              obtain ⟨q26, cP_27, cLo_28, cHi_29, e30, hf⟩ := bd4_some hf
              refine jVI C (X8_move_ok hp1 e30) vb_X8_move mk_RX8_163 rfl rc28 ⟨Nat.le_of_ble_eq_true rfl, Nat.le_of_ble_eq_true rfl⟩ rfl (Nat.le_of_ble_eq_true rfl) dX8_settle_47 ?_
              refine jIfLe C 56 dX8_settle_50 (by decide) (fun c31 => ?_) (fun c31 => ?_)
              · replace hf := itp hf c31
                refine jIinc C (x6_19 + (1 : Int32)) dX8_settle_56 6 rfl (congrArg (fun z : Int32 => x6_19 + z) ki_1) (Nat.le_of_ble_eq_true rfl) [(6, .int (x6_19 + (1 : Int32))), (0, .ref (g 28)), (1, .ref (g p1)), (2, .int x2_18), (3, .int x3_2), (4, .int x2_1), (5, .int x5_10)] rfl ?_
                refine jGoto C 32 dX8_settle_59 (by decide) ?_
                refine jSub [1, 2, 3, 4, 5, 6, 0] rfl ?_
                exact ir24 x2_18 (x6_19 + (1 : Int32)) cP_27 cLo_28 cHi_29 hf
              · replace hf := itn hf c31
                refine jIinc C (x2_18 + (1 : Int32)) dX8_settle_53 2 rfl (congrArg (fun z : Int32 => x2_18 + z) ki_1) (Nat.le_of_ble_eq_true rfl) [(2, .int (x2_18 + (1 : Int32))), (0, .ref (g 28)), (1, .ref (g p1)), (3, .int x3_2), (4, .int x2_1), (5, .int x5_10), (6, .int x6_19)] rfl ?_
                refine jIinc C (x6_19 + (1 : Int32)) dX8_settle_56 6 rfl (congrArg (fun z : Int32 => x6_19 + z) ki_1) (Nat.le_of_ble_eq_true rfl) [(6, .int (x6_19 + (1 : Int32))), (2, .int (x2_18 + (1 : Int32))), (0, .ref (g 28)), (1, .ref (g p1)), (3, .int x3_2), (4, .int x2_1), (5, .int x5_10)] rfl ?_
                refine jGoto C 32 dX8_settle_59 (by decide) ?_
                refine jSub [2, 3, 1, 4, 5, 6, 0] rfl ?_
                exact ir24 (x2_18 + (1 : Int32)) (x6_19 + (1 : Int32)) cP_27 cLo_28 cHi_29 hf
          refine jSub [1, 2, 3, 4, 5, 6, 0] rfl ?_
          exact hL23 x2_9 (x5_10 + (1 : Int32)) cP_11 cLo_12 cHi_13 hf
      refine jSub [2, 3, 4, 5, 1, 0] rfl ?_
      exact hL14 x2_1 (0 : Int32) cP_3 cLo_4 cHi_5 hf
  refine jSub [2, 3, 1, 0] rfl ?_
  exact hL6 (0 : Int32) (0 : Int32) cP cLo cHi hf
noncomputable def X8_settles (cP : Nat → Int32) (cLo : Nat → Int64) (cHi : Nat → Int64) (cso : Nat → Int32) (cha : Int32) (chs : Int32) (p1 : Int32) : Option (Int32 × (Nat → Int32) × (Nat → Int64) × (Nat → Int64) × (Nat → Int32) × Int32 × Int32) := bdo (X8_familyAt cP p1) (some ((-2 : Int32), cP, cLo, cHi, cso, cha, chs)) (fun f1 => bd3 (X0_become cP cLo cHi 5 f1) (fun cP_3 cLo_4 cHi_5 => bd4 (X8_settle cP_3 cLo_4 cHi_5 5) (fun q7 cP_8 cLo_9 cHi_10 => bd7 (X8_comesInto cP_8 cLo_9 cHi_10 cso cha chs p1 5) (fun q12 cP_13 cLo_14 cHi_15 cso_16 cha_17 chs_18 => some (q7, cP_13, cLo_14, cHi_15, cso_16, cha_17, chs_18)))))
set_option maxHeartbeats 4000000 in
set_option maxRecDepth 20000 in
theorem X8_settles_ok {p1 : Int32} {rr : Int32} {ocP : Nat → Int32} {ocLo : Nat → Int64} {ocHi : Nat → Int64} {ocso : Nat → Int32} {ocha : Int32} {ochs : Int32}  (hf : X8_settles cP cLo cHi cso cha chs p1 = some (rr, ocP, ocLo, ocHi, ocso, ocha, ochs)) : MT yX8_settles cX8_settles 4 (some .int) 5 [.ref (g 28), .int p1] D cy G (cw g cy cP cLo cHi cpl ctb ctl ctf ctp ctk cts cth cob col cso cha chs cbe ctr cgl cgh cll clh cta cme cps cwh cal cah) (cw g cy ocP ocLo ocHi cpl ctb ctl ctf ctp ctk cts cth cob col ocso ocha ochs cbe ctr cgl cgh cll clh cta cme cps cwh cal cah) (some (.int rr)) := by
  refine MT.go (own := RX8) [(0, .ref (g 28)), (1, .int p1)] (by decide) rfl (Nat.le_of_ble_eq_true rfl) rfl (fun p l e s m args below meth c A Q C hQ => ?_)
  unfold X8_settles at hf
  refine jAloadn C dX8_settles_0 rfl 0 rfl ?_
  refine jIloadn C dX8_settles_1 rfl 1 rfl ?_
  rcases bdo_some hf with ⟨q2, hf⟩ | ⟨f1, q2, hf⟩
  · refine jVN C (X8_familyAt_ok  q2) vb_X8_familyAt mk_RX8_102 rfl rc28 ⟨Nat.le_of_ble_eq_true rfl, Nat.le_of_ble_eq_true rfl⟩ rfl (Nat.le_of_ble_eq_true rfl) dX8_settles_2 ?_
    refine jAstorenN C dX8_settles_5 rfl (Nat.le_of_ble_eq_true rfl) [(2, .null), (0, .ref (g 28)), (1, .int p1)] rfl ?_
    refine jAloadnN C dX8_settles_6 rfl 0 rfl ?_
    refine jIfnonnullN C dX8_settles_7 ?_
    refine jBipush C (-2 : Int32) dX8_settles_10 kb_m2 ?_
    cases hf
    exact jEndI C hQ rfl dX8_settles_12
  · refine jVA C (X8_familyAt_ok  q2) vb_X8_familyAt mk_RX8_102 rfl rc28 ⟨Nat.le_of_ble_eq_true rfl, Nat.le_of_ble_eq_true rfl⟩ rfl (Nat.le_of_ble_eq_true rfl) dX8_settles_2 ?_
    refine jAstoren C dX8_settles_5 rfl (Nat.le_of_ble_eq_true rfl) [(2, .ref (g f1)), (0, .ref (g 28)), (1, .int p1)] rfl ?_
    refine jAloadn C dX8_settles_6 rfl 0 rfl ?_
    refine jIfnonnull C 13 dX8_settles_7 (by decide) ?_
    refine jAloadn C dX8_settles_13 rfl 1 rfl ?_
    refine gf_RX8_23 C dX8_settles_14 ?_
    refine jAloadn C dX8_settles_17 rfl 0 rfl ?_
    obtain ⟨cP_3, cLo_4, cHi_5, e6, hf⟩ := bd3_some hf
    refine jVV C (X0_become_ok (by decide) (X8_familyAt_lt q2) e6) vb_X0_become mk_RX8_152 rfl (rcF (by decide)) ⟨Nat.le_of_ble_eq_true rfl, Nat.le_of_ble_eq_true rfl⟩ rfl (Nat.le_of_ble_eq_true rfl) dX8_settles_18 ?_
    refine jAloadn C dX8_settles_21 rfl 1 rfl ?_
    refine jAloadn C dX8_settles_22 rfl 1 rfl ?_
    refine gf_RX8_23 C dX8_settles_23 ?_
    obtain ⟨q7, cP_8, cLo_9, cHi_10, e11, hf⟩ := bd4_some hf
    refine jVI C (X8_settle_ok (by decide) e11) vb_X8_settle mk_RX8_170 rfl rc28 ⟨Nat.le_of_ble_eq_true rfl, Nat.le_of_ble_eq_true rfl⟩ rfl (Nat.le_of_ble_eq_true rfl) dX8_settles_26 ?_
    refine jIstoren C dX8_settles_29 rfl (Nat.le_of_ble_eq_true rfl) [(3, .int q7), (2, .ref (g f1)), (0, .ref (g 28)), (1, .int p1)] rfl ?_
    refine jAloadn C dX8_settles_30 rfl 2 rfl ?_
    refine jIloadn C dX8_settles_31 rfl 3 rfl ?_
    refine jAloadn C dX8_settles_32 rfl 2 rfl ?_
    refine gf_RX8_23 C dX8_settles_33 ?_
    obtain ⟨q12, cP_13, cLo_14, cHi_15, cso_16, cha_17, chs_18, e19, hf⟩ := bd7_some hf
    refine jVI C (X8_comesInto_ok (by decide) e19) vb_X8_comesInto mk_RX8_84 rfl rc28 ⟨Nat.le_of_ble_eq_true rfl, Nat.le_of_ble_eq_true rfl⟩ rfl (Nat.le_of_ble_eq_true rfl) dX8_settles_36 ?_
    refine jPop C dX8_settles_39 rfl ?_
    refine jIloadn C dX8_settles_40 rfl 0 rfl ?_
    cases hf
    exact jEndI C hQ rfl dX8_settles_41
noncomputable def X8_row_h60 (p4 : Int32) (cP_13 : Nat → Int32) (cso : Nat → Int32) (cha : Int32) (chs : Int32) (p1 : Int32) (p3 : Int32) (p2 : Int32) (r22 : Int32 → Int32 → (Nat → Int64) → (Nat → Int64) → Option (Int32 × (Nat → Int32) × (Nat → Int64) × (Nat → Int64) × (Nat → Int32) × Int32 × Int32)) (x5_17 : Int32) (x6_18 : Int32) (cLo_19 : Nat → Int64) (cHi_20 : Nat → Int64) : Option (Int32 × (Nat → Int32) × (Nat → Int64) × (Nat → Int64) × (Nat → Int32) × Int32 × Int32) := (if p4 ≤ x6_18 then bd7 (X8_comesInto cP_13 cLo_19 cHi_20 cso cha chs p1 3) (fun q24 cP_25 cLo_26 cHi_27 cso_28 cha_29 chs_30 => some (x5_17, cP_25, cLo_26, cHi_27, cso_28, cha_29, chs_30)) else bd1 (X2_nextOfLevel x5_17 p3 p2) (fun q32 => bd2 (X0_put cLo_19 cHi_20 3 q32) (fun cLo_34 cHi_35 => r22 q32 (x6_18 + (1 : Int32)) cLo_34 cHi_35)))
noncomputable def X8_row (cP : Nat → Int32) (cLo : Nat → Int64) (cHi : Nat → Int64) (cso : Nat → Int32) (cha : Int32) (chs : Int32) (p1 : Int32) (p2 : Int32) (p3 : Int32) (p4 : Int32) : Option (Int32 × (Nat → Int32) × (Nat → Int64) × (Nat → Int64) × (Nat → Int32) × Int32 × Int32) := bd1 (X8_isSlot p1) (fun q1 => (if q1 = (0 : Int32) then some ((-2 : Int32), cP, cLo, cHi, cso, cha, chs) else bd1 (X8_isPointCount p2) (fun q4 => (if q4 = (0 : Int32) then some ((-2 : Int32), cP, cLo, cHi, cso, cha, chs) else (if p3 < (0 : Int32) then some ((-2 : Int32), cP, cLo, cHi, cso, cha, chs) else (if p3 ≤ p2 then (if p4 < (0 : Int32) then some ((-2 : Int32), cP, cLo, cHi, cso, cha, chs) else bd1 (X2_binomial p2 p3) (fun q10 => (if (lg_cmp (p4.toInt64) q10) ≤ (0 : Int32) then bd3 (X0_clear cP cLo cHi 3 p2) (fun cP_13 cLo_14 cHi_15 => lfp4 (X8_row_h60 p4 cP_13 cso cha chs p1 p3 p2) (-1 : Int32) (0 : Int32) cLo_14 cHi_15) else some ((-2 : Int32), cP, cLo, cHi, cso, cha, chs)))) else some ((-2 : Int32), cP, cLo, cHi, cso, cha, chs)))))))
set_option maxHeartbeats 4000000 in
set_option maxRecDepth 20000 in
theorem X8_row_ok {p1 : Int32} {p2 : Int32} {p3 : Int32} {p4 : Int32} {rr : Int32} {ocP : Nat → Int32} {ocLo : Nat → Int64} {ocHi : Nat → Int64} {ocso : Nat → Int32} {ocha : Int32} {ochs : Int32}  (hf : X8_row cP cLo cHi cso cha chs p1 p2 p3 p4 = some (rr, ocP, ocLo, ocHi, ocso, ocha, ochs)) : MT yX8_row cX8_row 7 (some .int) 3 [.ref (g 28), .int p1, .int p2, .int p3, .int p4] D cy G (cw g cy cP cLo cHi cpl ctb ctl ctf ctp ctk cts cth cob col cso cha chs cbe ctr cgl cgh cll clh cta cme cps cwh cal cah) (cw g cy ocP ocLo ocHi cpl ctb ctl ctf ctp ctk cts cth cob col ocso ocha ochs cbe ctr cgl cgh cll clh cta cme cps cwh cal cah) (some (.int rr)) := by
  refine MT.go (own := RX8) [(0, .ref (g 28)), (1, .int p1), (2, .int p2), (3, .int p3), (4, .int p4)] (by decide) rfl (Nat.le_of_ble_eq_true rfl) rfl (fun p l e s m args below meth c A Q C hQ => ?_)
  unfold X8_row at hf
  refine jIloadn C dX8_row_0 rfl 1 rfl ?_
  obtain ⟨q1, e2, hf⟩ := bd1_some hf
  refine jSI C (X8_isSlot_ok  e2) sb_X8_isSlot mk_RX8_77 rfl ⟨Nat.le_of_ble_eq_true rfl, Nat.le_of_ble_eq_true rfl⟩ rfl (Nat.le_of_ble_eq_true rfl) dX8_row_1 ?_
  refine jIfEq C 23 dX8_row_4 (by decide) (fun c3 => ?_) (fun c3 => ?_)
  · replace hf := itp hf c3
    refine jBipush C (-2 : Int32) dX8_row_23 kb_m2 ?_
    cases hf
    exact jEndI C hQ rfl dX8_row_25
  · replace hf := itn hf c3
    refine jIloadn C dX8_row_7 rfl 2 rfl ?_
    obtain ⟨q4, e5, hf⟩ := bd1_some hf
    refine jSI C (X8_isPointCount_ok  e5) sb_X8_isPointCount mk_RX8_174 rfl ⟨Nat.le_of_ble_eq_true rfl, Nat.le_of_ble_eq_true rfl⟩ rfl (Nat.le_of_ble_eq_true rfl) dX8_row_8 ?_
    refine jIfEq C 23 dX8_row_11 (by decide) (fun c6 => ?_) (fun c6 => ?_)
    · replace hf := itp hf c6
      refine jBipush C (-2 : Int32) dX8_row_23 kb_m2 ?_
      cases hf
      exact jEndI C hQ rfl dX8_row_25
    · replace hf := itn hf c6
      refine jIloadn C dX8_row_14 rfl 3 rfl ?_
      refine jIfLt C 23 dX8_row_15 (by decide) (fun c7 => ?_) (fun c7 => ?_)
      · replace hf := itp hf c7
        refine jBipush C (-2 : Int32) dX8_row_23 kb_m2 ?_
        cases hf
        exact jEndI C hQ rfl dX8_row_25
      · replace hf := itn hf c7
        refine jIloadn C dX8_row_18 rfl 3 rfl ?_
        refine jIloadn C dX8_row_19 rfl 2 rfl ?_
        refine jCmpLe C 26 dX8_row_20 (by decide) (fun c8 => ?_) (fun c8 => ?_)
        · replace hf := itp hf c8
          refine jIload C dX8_row_26 4 rfl ?_
          refine jIfLt C 43 dX8_row_28 (by decide) (fun c9 => ?_) (fun c9 => ?_)
          · replace hf := itp hf c9
            refine jBipush C (-2 : Int32) dX8_row_43 kb_m2 ?_
            cases hf
            exact jEndI C hQ rfl dX8_row_45
          · replace hf := itn hf c9
            refine jIload C dX8_row_31 4 rfl ?_
            refine jI2l C dX8_row_33 ?_
            refine jIloadn C dX8_row_34 rfl 2 rfl ?_
            refine jIloadn C dX8_row_35 rfl 3 rfl ?_
            obtain ⟨q10, e11, hf⟩ := bd1_some hf
            refine jSL C (X2_binomial_ok  e11) sb_X2_binomial mk_RX8_177 rfl ⟨Nat.le_of_ble_eq_true rfl, Nat.le_of_ble_eq_true rfl⟩ rfl (Nat.le_of_ble_eq_true rfl) dX8_row_36 ?_
            refine jLcmp C dX8_row_39 ?_
            refine jIfLe C 46 dX8_row_40 (by decide) (fun c12 => ?_) (fun c12 => ?_)
            · replace hf := itp hf c12
              refine jAloadn C dX8_row_46 rfl 0 rfl ?_
              refine gf_RX8_16 C dX8_row_47 ?_
              refine jIloadn C dX8_row_50 rfl 2 rfl ?_
              obtain ⟨cP_13, cLo_14, cHi_15, e16, hf⟩ := bd3_some hf
              refine jVV C (X0_clear_ok (by decide) e16) vb_X0_clear mk_RX8_146 rfl (rcF (by decide)) ⟨Nat.le_of_ble_eq_true rfl, Nat.le_of_ble_eq_true rfl⟩ rfl (Nat.le_of_ble_eq_true rfl) dX8_row_51 ?_
              refine jIconst C (-1 : Int32) dX8_row_54 ki_m1 ?_
              refine jIstore C dX8_row_55 (Nat.le_of_ble_eq_true rfl) [(5, .int (-1 : Int32)), (0, .ref (g 28)), (1, .int p1), (2, .int p2), (3, .int p3), (4, .int p4)] rfl ?_
              refine jIconst C (0 : Int32) dX8_row_57 ki_0 ?_
              refine jIstore C dX8_row_58 (Nat.le_of_ble_eq_true rfl) [(6, .int (0 : Int32)), (5, .int (-1 : Int32)), (0, .ref (g 28)), (1, .int p1), (2, .int p2), (3, .int p3), (4, .int p4)] rfl ?_
              have hL21 : ∀ (x5_17 : Int32) (x6_18 : Int32) (cLo_19 : Nat → Int64) (cHi_20 : Nat → Int64), lfp4 (X8_row_h60 p4 cP_13 cso cha chs p1 p3 p2) x5_17 x6_18 cLo_19 cHi_20 = some (rr, ocP, ocLo, ocHi, ocso, ocha, ochs) → J p l e (rmk 3) s m args below meth c D A Q 7 (cw g cy cP_13 cLo_19 cHi_20 cpl ctb ctl ctf ctp ctk cts cth cob col cso cha chs cbe ctr cgl cgh cll clh cta cme cps cwh cal cah) 60 [(0, .ref (g 28)), (1, .int p1), (2, .int p2), (3, .int p3), (4, .int p4), (5, .int x5_17), (6, .int x6_18)] [] := by
                intro x5_17 x6_18 cLo_19 cHi_20 hw
                refine lfp4_walk (P := fun x5_17 x6_18 cLo_19 cHi_20 => J p l e (rmk 3) s m args below meth c D A Q 7 (cw g cy cP_13 cLo_19 cHi_20 cpl ctb ctl ctf ctp ctk cts cth cob col cso cha chs cbe ctr cgl cgh cll clh cta cme cps cwh cal cah) 60 [(0, .ref (g 28)), (1, .int p1), (2, .int p2), (3, .int p3), (4, .int p4), (5, .int x5_17), (6, .int x6_18)] []) ?_ hw
                intro r22 ir22 x5_17 x6_18 cLo_19 cHi_20 hf
                unfold X8_row_h60 at hf
                refine jIload C dX8_row_60 6 rfl ?_
                refine jIload C dX8_row_62 4 rfl ?_
                refine jCmpGe C 91 dX8_row_64 (by decide) (fun c23 => ?_) (fun c23 => ?_)
                · replace hf := itp hf c23
                  refine jAloadn C dX8_row_91 rfl 0 rfl ?_
                  refine jIloadn C dX8_row_92 rfl 1 rfl ?_
                  refine jAloadn C dX8_row_93 rfl 0 rfl ?_
                  refine gf_RX8_16 C dX8_row_94 ?_
                  obtain ⟨q24, cP_25, cLo_26, cHi_27, cso_28, cha_29, chs_30, e31, hf⟩ := bd7_some hf
                  refine jVI C (X8_comesInto_ok (by decide) e31) vb_X8_comesInto mk_RX8_84 rfl rc28 ⟨Nat.le_of_ble_eq_true rfl, Nat.le_of_ble_eq_true rfl⟩ rfl (Nat.le_of_ble_eq_true rfl) dX8_row_97 ?_
                  refine jPop C dX8_row_100 rfl ?_
                  refine jIload C dX8_row_101 5 rfl ?_
                  cases hf
                  exact jEndI C hQ rfl dX8_row_103
                · replace hf := itn hf c23
                  refine jIload C dX8_row_67 5 rfl ?_
                  refine jIloadn C dX8_row_69 rfl 3 rfl ?_
                  refine jIloadn C dX8_row_70 rfl 2 rfl ?_
                  obtain ⟨q32, e33, hf⟩ := bd1_some hf
                  refine jSI C (X2_nextOfLevel_ok  e33) sb_X2_nextOfLevel mk_RX8_183 rfl ⟨Nat.le_of_ble_eq_true rfl, Nat.le_of_ble_eq_true rfl⟩ rfl (Nat.le_of_ble_eq_true rfl) dX8_row_71 ?_
                  refine jIstore C dX8_row_74 (Nat.le_of_ble_eq_true rfl) [(5, .int q32), (0, .ref (g 28)), (1, .int p1), (2, .int p2), (3, .int p3), (4, .int p4), (6, .int x6_18)] rfl ?_
                  refine jAloadn C dX8_row_76 rfl 1 rfl ?_
                  refine gf_RX8_16 C dX8_row_77 ?_
                  refine jIload C dX8_row_80 0 rfl ?_
                  obtain ⟨cLo_34, cHi_35, e36, hf⟩ := bd2_some hf
                  refine jVV C (X0_put_ok (by decide) e36) vb_X0_put mk_RX8_187 rfl (rcF (by decide)) ⟨Nat.le_of_ble_eq_true rfl, Nat.le_of_ble_eq_true rfl⟩ rfl (Nat.le_of_ble_eq_true rfl) dX8_row_82 ?_
                  refine jIinc C (x6_18 + (1 : Int32)) dX8_row_85 6 rfl (congrArg (fun z : Int32 => x6_18 + z) ki_1) (Nat.le_of_ble_eq_true rfl) [(6, .int (x6_18 + (1 : Int32))), (5, .int q32), (0, .ref (g 28)), (1, .int p1), (2, .int p2), (3, .int p3), (4, .int p4)] rfl ?_
                  refine jGoto C 60 dX8_row_88 (by decide) ?_
                  refine jSub [2, 3, 4, 5, 6, 1, 0] rfl ?_
                  exact ir22 q32 (x6_18 + (1 : Int32)) cLo_34 cHi_35 hf
              refine jSub [2, 3, 4, 5, 6, 1, 0] rfl ?_
              exact hL21 (-1 : Int32) (0 : Int32) cLo_14 cHi_15 hf
            · replace hf := itn hf c12
              refine jBipush C (-2 : Int32) dX8_row_43 kb_m2 ?_
              cases hf
              exact jEndI C hQ rfl dX8_row_45
        · replace hf := itn hf c8
          refine jBipush C (-2 : Int32) dX8_row_23 kb_m2 ?_
          cases hf
          exact jEndI C hQ rfl dX8_row_25
noncomputable def X8_all_h49 (p2 : Int32) (cP_11 : Nat → Int32) (cso : Nat → Int32) (cha : Int32) (chs : Int32) (p1 : Int32) (p3 : Int32) (p4 : Int32) (r19 : Int32 → (Nat → Int64) → (Nat → Int64) → Option (Int32 × (Nat → Int32) × (Nat → Int64) × (Nat → Int64) × (Nat → Int32) × Int32 × Int32)) (x5_15 : Int32) (cLo_16 : Nat → Int64) (cHi_17 : Nat → Int64) : Option (Int32 × (Nat → Int32) × (Nat → Int64) × (Nat → Int64) × (Nat → Int32) × Int32 × Int32) := (if ((1 : Int32) <<< (p2 &&& 31)) ≤ x5_15 then bd7 (X8_comesInto cP_11 cLo_16 cHi_17 cso cha chs p1 3) (fun q21 cP_22 cLo_23 cHi_24 cso_25 cha_26 chs_27 => some (q21, cP_22, cLo_23, cHi_24, cso_25, cha_26, chs_27)) else bd1 (J6_bitCount_0f7a4 x5_15) (fun q29 => (if q29 = p3 then (if p4 = (-1 : Int32) then bd2 (X0_put cLo_16 cHi_17 3 x5_15) (fun cLo_33 cHi_34 => r19 (x5_15 + (1 : Int32)) cLo_33 cHi_34) else (if ((x5_15 >>> (p4 &&& 31)) &&& (1 : Int32)) = (1 : Int32) then bd2 (X0_put cLo_16 cHi_17 3 x5_15) (fun cLo_37 cHi_38 => r19 (x5_15 + (1 : Int32)) cLo_37 cHi_38) else r19 (x5_15 + (1 : Int32)) cLo_16 cHi_17)) else r19 (x5_15 + (1 : Int32)) cLo_16 cHi_17)))
noncomputable def X8_all (cP : Nat → Int32) (cLo : Nat → Int64) (cHi : Nat → Int64) (cso : Nat → Int32) (cha : Int32) (chs : Int32) (p1 : Int32) (p2 : Int32) (p3 : Int32) (p4 : Int32) : Option (Int32 × (Nat → Int32) × (Nat → Int64) × (Nat → Int64) × (Nat → Int32) × Int32 × Int32) := bd1 (X8_isSlot p1) (fun q1 => (if q1 = (0 : Int32) then some ((-2 : Int32), cP, cLo, cHi, cso, cha, chs) else bd1 (X8_isPointCount p2) (fun q4 => (if q4 = (0 : Int32) then some ((-2 : Int32), cP, cLo, cHi, cso, cha, chs) else (if p3 < (0 : Int32) then some ((-2 : Int32), cP, cLo, cHi, cso, cha, chs) else (if p2 < p3 then some ((-2 : Int32), cP, cLo, cHi, cso, cha, chs) else (if p4 < (-1 : Int32) then some ((-2 : Int32), cP, cLo, cHi, cso, cha, chs) else (if p4 < p2 then bd3 (X0_clear cP cLo cHi 3 p2) (fun cP_11 cLo_12 cHi_13 => lfp3 (X8_all_h49 p2 cP_11 cso cha chs p1 p3 p4) (0 : Int32) cLo_12 cHi_13) else some ((-2 : Int32), cP, cLo, cHi, cso, cha, chs)))))))))
set_option maxHeartbeats 4000000 in
set_option maxRecDepth 20000 in
theorem X8_all_ok {p1 : Int32} {p2 : Int32} {p3 : Int32} {p4 : Int32} {rr : Int32} {ocP : Nat → Int32} {ocLo : Nat → Int64} {ocHi : Nat → Int64} {ocso : Nat → Int32} {ocha : Int32} {ochs : Int32}  (hf : X8_all cP cLo cHi cso cha chs p1 p2 p3 p4 = some (rr, ocP, ocLo, ocHi, ocso, ocha, ochs)) : MT yX8_all cX8_all 6 (some .int) 3 [.ref (g 28), .int p1, .int p2, .int p3, .int p4] D cy G (cw g cy cP cLo cHi cpl ctb ctl ctf ctp ctk cts cth cob col cso cha chs cbe ctr cgl cgh cll clh cta cme cps cwh cal cah) (cw g cy ocP ocLo ocHi cpl ctb ctl ctf ctp ctk cts cth cob col ocso ocha ochs cbe ctr cgl cgh cll clh cta cme cps cwh cal cah) (some (.int rr)) := by
  refine MT.go (own := RX8) [(0, .ref (g 28)), (1, .int p1), (2, .int p2), (3, .int p3), (4, .int p4)] (by decide) rfl (Nat.le_of_ble_eq_true rfl) rfl (fun p l e s m args below meth c A Q C hQ => ?_)
  unfold X8_all at hf
  refine jIloadn C dX8_all_0 rfl 1 rfl ?_
  obtain ⟨q1, e2, hf⟩ := bd1_some hf
  refine jSI C (X8_isSlot_ok  e2) sb_X8_isSlot mk_RX8_77 rfl ⟨Nat.le_of_ble_eq_true rfl, Nat.le_of_ble_eq_true rfl⟩ rfl (Nat.le_of_ble_eq_true rfl) dX8_all_1 ?_
  refine jIfEq C 35 dX8_all_4 (by decide) (fun c3 => ?_) (fun c3 => ?_)
  · replace hf := itp hf c3
    refine jBipush C (-2 : Int32) dX8_all_35 kb_m2 ?_
    cases hf
    exact jEndI C hQ rfl dX8_all_37
  · replace hf := itn hf c3
    refine jIloadn C dX8_all_7 rfl 2 rfl ?_
    obtain ⟨q4, e5, hf⟩ := bd1_some hf
    refine jSI C (X8_isPointCount_ok  e5) sb_X8_isPointCount mk_RX8_174 rfl ⟨Nat.le_of_ble_eq_true rfl, Nat.le_of_ble_eq_true rfl⟩ rfl (Nat.le_of_ble_eq_true rfl) dX8_all_8 ?_
    refine jIfEq C 35 dX8_all_11 (by decide) (fun c6 => ?_) (fun c6 => ?_)
    · replace hf := itp hf c6
      refine jBipush C (-2 : Int32) dX8_all_35 kb_m2 ?_
      cases hf
      exact jEndI C hQ rfl dX8_all_37
    · replace hf := itn hf c6
      refine jIloadn C dX8_all_14 rfl 3 rfl ?_
      refine jIfLt C 35 dX8_all_15 (by decide) (fun c7 => ?_) (fun c7 => ?_)
      · replace hf := itp hf c7
        refine jBipush C (-2 : Int32) dX8_all_35 kb_m2 ?_
        cases hf
        exact jEndI C hQ rfl dX8_all_37
      · replace hf := itn hf c7
        refine jIloadn C dX8_all_18 rfl 3 rfl ?_
        refine jIloadn C dX8_all_19 rfl 2 rfl ?_
        refine jCmpGt C 35 dX8_all_20 (by decide) (fun c8 => ?_) (fun c8 => ?_)
        · replace hf := itp hf c8
          refine jBipush C (-2 : Int32) dX8_all_35 kb_m2 ?_
          cases hf
          exact jEndI C hQ rfl dX8_all_37
        · replace hf := itn hf c8
          refine jIload C dX8_all_23 4 rfl ?_
          refine jIconst C (-1 : Int32) dX8_all_25 ki_m1 ?_
          refine jCmpLt C 35 dX8_all_26 (by decide) (fun c9 => ?_) (fun c9 => ?_)
          · replace hf := itp hf c9
            refine jBipush C (-2 : Int32) dX8_all_35 kb_m2 ?_
            cases hf
            exact jEndI C hQ rfl dX8_all_37
          · replace hf := itn hf c9
            refine jIload C dX8_all_29 4 rfl ?_
            refine jIloadn C dX8_all_31 rfl 2 rfl ?_
            refine jCmpLt C 38 dX8_all_32 (by decide) (fun c10 => ?_) (fun c10 => ?_)
            · replace hf := itp hf c10
              refine jAloadn C dX8_all_38 rfl 0 rfl ?_
              refine gf_RX8_16 C dX8_all_39 ?_
              refine jIloadn C dX8_all_42 rfl 2 rfl ?_
              obtain ⟨cP_11, cLo_12, cHi_13, e14, hf⟩ := bd3_some hf
              refine jVV C (X0_clear_ok (by decide) e14) vb_X0_clear mk_RX8_146 rfl (rcF (by decide)) ⟨Nat.le_of_ble_eq_true rfl, Nat.le_of_ble_eq_true rfl⟩ rfl (Nat.le_of_ble_eq_true rfl) dX8_all_43 ?_
              refine jIconst C (0 : Int32) dX8_all_46 ki_0 ?_
              refine jIstore C dX8_all_47 (Nat.le_of_ble_eq_true rfl) [(5, .int (0 : Int32)), (0, .ref (g 28)), (1, .int p1), (2, .int p2), (3, .int p3), (4, .int p4)] rfl ?_
              have hL18 : ∀ (x5_15 : Int32) (cLo_16 : Nat → Int64) (cHi_17 : Nat → Int64), lfp3 (X8_all_h49 p2 cP_11 cso cha chs p1 p3 p4) x5_15 cLo_16 cHi_17 = some (rr, ocP, ocLo, ocHi, ocso, ocha, ochs) → J p l e (rmk 3) s m args below meth c D A Q 6 (cw g cy cP_11 cLo_16 cHi_17 cpl ctb ctl ctf ctp ctk cts cth cob col cso cha chs cbe ctr cgl cgh cll clh cta cme cps cwh cal cah) 49 [(0, .ref (g 28)), (1, .int p1), (2, .int p2), (3, .int p3), (4, .int p4), (5, .int x5_15)] [] := by
                intro x5_15 cLo_16 cHi_17 hw
                refine lfp3_walk (P := fun x5_15 cLo_16 cHi_17 => J p l e (rmk 3) s m args below meth c D A Q 6 (cw g cy cP_11 cLo_16 cHi_17 cpl ctb ctl ctf ctp ctk cts cth cob col cso cha chs cbe ctr cgl cgh cll clh cta cme cps cwh cal cah) 49 [(0, .ref (g 28)), (1, .int p1), (2, .int p2), (3, .int p3), (4, .int p4), (5, .int x5_15)] []) ?_ hw
                intro r19 ir19 x5_15 cLo_16 cHi_17 hf
                unfold X8_all_h49 at hf
                refine jIload C dX8_all_49 5 rfl ?_
                refine jIconst C (1 : Int32) dX8_all_51 ki_1 ?_
                refine jIloadn C dX8_all_52 rfl 2 rfl ?_
                refine jIshl C dX8_all_53 ?_
                refine jCmpGe C 98 dX8_all_54 (by decide) (fun c20 => ?_) (fun c20 => ?_)
                · replace hf := itp hf c20
                  refine jAloadn C dX8_all_98 rfl 0 rfl ?_
                  refine jIloadn C dX8_all_99 rfl 1 rfl ?_
                  refine jAloadn C dX8_all_100 rfl 0 rfl ?_
                  refine gf_RX8_16 C dX8_all_101 ?_
                  obtain ⟨q21, cP_22, cLo_23, cHi_24, cso_25, cha_26, chs_27, e28, hf⟩ := bd7_some hf
                  refine jVI C (X8_comesInto_ok (by decide) e28) vb_X8_comesInto mk_RX8_84 rfl rc28 ⟨Nat.le_of_ble_eq_true rfl, Nat.le_of_ble_eq_true rfl⟩ rfl (Nat.le_of_ble_eq_true rfl) dX8_all_104 ?_
                  cases hf
                  exact jEndI C hQ rfl dX8_all_107
                · replace hf := itn hf c20
                  refine jIload C dX8_all_57 5 rfl ?_
                  obtain ⟨q29, e30, hf⟩ := bd1_some hf
                  refine jSI C (J6_bitCount_0f7a4_ok  e30) sb_J6_bitCount_0f7a4 mk_RX8_190 rfl ⟨Nat.le_of_ble_eq_true rfl, Nat.le_of_ble_eq_true rfl⟩ rfl (Nat.le_of_ble_eq_true rfl) dX8_all_59 ?_
                  refine jIloadn C dX8_all_62 rfl 3 rfl ?_
                  refine jCmpNe C 92 dX8_all_63 (by decide) (fun c31 => ?_) (fun c31 => ?_)
                  · replace hf := itn hf c31
                    refine jIinc C (x5_15 + (1 : Int32)) dX8_all_92 5 rfl (congrArg (fun z : Int32 => x5_15 + z) ki_1) (Nat.le_of_ble_eq_true rfl) [(5, .int (x5_15 + (1 : Int32))), (0, .ref (g 28)), (1, .int p1), (2, .int p2), (3, .int p3), (4, .int p4)] rfl ?_
                    refine jGoto C 49 dX8_all_95 (by decide) ?_
                    refine jSub [1, 2, 3, 4, 5, 0] rfl ?_
                    exact ir19 (x5_15 + (1 : Int32)) cLo_16 cHi_17 hf
                  · replace hf := itp hf c31
                    refine jIload C dX8_all_66 4 rfl ?_
                    refine jIconst C (-1 : Int32) dX8_all_68 ki_m1 ?_
                    refine jCmpEq C 83 dX8_all_69 (by decide) (fun c32 => ?_) (fun c32 => ?_)
                    · replace hf := itp hf c32
                      refine jAloadn C dX8_all_83 rfl 0 rfl ?_
                      refine gf_RX8_16 C dX8_all_84 ?_
                      refine jIload C dX8_all_87 5 rfl ?_
                      obtain ⟨cLo_33, cHi_34, e35, hf⟩ := bd2_some hf
                      refine jVV C (X0_put_ok (by decide) e35) vb_X0_put mk_RX8_187 rfl (rcF (by decide)) ⟨Nat.le_of_ble_eq_true rfl, Nat.le_of_ble_eq_true rfl⟩ rfl (Nat.le_of_ble_eq_true rfl) dX8_all_89 ?_
                      refine jIinc C (x5_15 + (1 : Int32)) dX8_all_92 5 rfl (congrArg (fun z : Int32 => x5_15 + z) ki_1) (Nat.le_of_ble_eq_true rfl) [(5, .int (x5_15 + (1 : Int32))), (0, .ref (g 28)), (1, .int p1), (2, .int p2), (3, .int p3), (4, .int p4)] rfl ?_
                      refine jGoto C 49 dX8_all_95 (by decide) ?_
                      refine jSub [1, 2, 3, 4, 5, 0] rfl ?_
                      exact ir19 (x5_15 + (1 : Int32)) cLo_33 cHi_34 hf
                    · replace hf := itn hf c32
                      refine jIload C dX8_all_72 5 rfl ?_
                      refine jIload C dX8_all_74 4 rfl ?_
                      refine jIshr C dX8_all_76 ?_
                      refine jIconst C (1 : Int32) dX8_all_77 ki_1 ?_
                      refine jIand C dX8_all_78 ?_
                      refine jIconst C (1 : Int32) dX8_all_79 ki_1 ?_
                      refine jCmpNe C 92 dX8_all_80 (by decide) (fun c36 => ?_) (fun c36 => ?_)
                      · replace hf := itn hf c36
                        refine jIinc C (x5_15 + (1 : Int32)) dX8_all_92 5 rfl (congrArg (fun z : Int32 => x5_15 + z) ki_1) (Nat.le_of_ble_eq_true rfl) [(5, .int (x5_15 + (1 : Int32))), (0, .ref (g 28)), (1, .int p1), (2, .int p2), (3, .int p3), (4, .int p4)] rfl ?_
                        refine jGoto C 49 dX8_all_95 (by decide) ?_
                        refine jSub [1, 2, 3, 4, 5, 0] rfl ?_
                        exact ir19 (x5_15 + (1 : Int32)) cLo_16 cHi_17 hf
                      · replace hf := itp hf c36
                        refine jAloadn C dX8_all_83 rfl 0 rfl ?_
                        refine gf_RX8_16 C dX8_all_84 ?_
                        refine jIload C dX8_all_87 5 rfl ?_
                        obtain ⟨cLo_37, cHi_38, e39, hf⟩ := bd2_some hf
                        refine jVV C (X0_put_ok (by decide) e39) vb_X0_put mk_RX8_187 rfl (rcF (by decide)) ⟨Nat.le_of_ble_eq_true rfl, Nat.le_of_ble_eq_true rfl⟩ rfl (Nat.le_of_ble_eq_true rfl) dX8_all_89 ?_
                        refine jIinc C (x5_15 + (1 : Int32)) dX8_all_92 5 rfl (congrArg (fun z : Int32 => x5_15 + z) ki_1) (Nat.le_of_ble_eq_true rfl) [(5, .int (x5_15 + (1 : Int32))), (0, .ref (g 28)), (1, .int p1), (2, .int p2), (3, .int p3), (4, .int p4)] rfl ?_
                        refine jGoto C 49 dX8_all_95 (by decide) ?_
                        refine jSub [1, 2, 3, 4, 5, 0] rfl ?_
                        exact ir19 (x5_15 + (1 : Int32)) cLo_37 cHi_38 hf
              refine jSub [1, 2, 3, 4, 5, 0] rfl ?_
              exact hL18 (0 : Int32) cLo_12 cHi_13 hf
            · replace hf := itn hf c10
              refine jBipush C (-2 : Int32) dX8_all_35 kb_m2 ?_
              cases hf
              exact jEndI C hQ rfl dX8_all_37
noncomputable def X8_isRowSize (p0 : Int32) (p1 : Int32) : Option Int32 := (if p0 < (0 : Int32) then some (0 : Int32) else (if (100000 : Int32) < p0 then some (0 : Int32) else (if p1 < (1 : Int32) then some (0 : Int32) else (if (7 : Int32) < p1 then some (0 : Int32) else some (1 : Int32)))))
set_option maxHeartbeats 4000000 in
set_option maxRecDepth 20000 in
theorem X8_isRowSize_ok {D : va_G} {cy : Nat → ClassId} {G : Nat → Nat} {ws : va_W} {p0 : Int32} {p1 : Int32} {rr : Int32}  (hf : X8_isRowSize p0 p1 = some rr) : MT yX8_isRowSize cX8_isRowSize 2 (some .boolean) 0 [.int p0, .int p1] D cy G ws ws (some (.int rr)) := by
  refine MT.go (own := RX8) [(0, .int p0), (1, .int p1)] (by decide) rfl (Nat.le_of_ble_eq_true rfl) rfl (fun p l e s m args below meth c A Q C hQ => ?_)
  unfold X8_isRowSize at hf
  refine jIloadn C dX8_isRowSize_0 rfl 0 rfl ?_
  refine jIfLt C 26 dX8_isRowSize_1 (by decide) (fun c1 => ?_) (fun c1 => ?_)
  · replace hf := itp hf c1
    refine jIconst C (0 : Int32) dX8_isRowSize_26 ki_0 ?_
    cases hf
    exact jEndIZ C hQ rfl nar_z0 dX8_isRowSize_27
  · replace hf := itn hf c1
    refine jIloadn C dX8_isRowSize_4 rfl 0 rfl ?_
    refine jLdcw C (x := (100000 : Int32)) ik_RX8_333 dX8_isRowSize_5 ?_
    refine jCmpGt C 26 dX8_isRowSize_8 (by decide) (fun c2 => ?_) (fun c2 => ?_)
    · replace hf := itp hf c2
      refine jIconst C (0 : Int32) dX8_isRowSize_26 ki_0 ?_
      cases hf
      exact jEndIZ C hQ rfl nar_z0 dX8_isRowSize_27
    · replace hf := itn hf c2
      refine jIloadn C dX8_isRowSize_11 rfl 1 rfl ?_
      refine jIconst C (1 : Int32) dX8_isRowSize_12 ki_1 ?_
      refine jCmpLt C 26 dX8_isRowSize_13 (by decide) (fun c3 => ?_) (fun c3 => ?_)
      · replace hf := itp hf c3
        refine jIconst C (0 : Int32) dX8_isRowSize_26 ki_0 ?_
        cases hf
        exact jEndIZ C hQ rfl nar_z0 dX8_isRowSize_27
      · replace hf := itn hf c3
        refine jIloadn C dX8_isRowSize_16 rfl 1 rfl ?_
        refine jBipush C (7 : Int32) dX8_isRowSize_17 kb_7 ?_
        refine jCmpGt C 26 dX8_isRowSize_19 (by decide) (fun c4 => ?_) (fun c4 => ?_)
        · replace hf := itp hf c4
          refine jIconst C (0 : Int32) dX8_isRowSize_26 ki_0 ?_
          cases hf
          exact jEndIZ C hQ rfl nar_z0 dX8_isRowSize_27
        · replace hf := itn hf c4
          refine jIconst C (1 : Int32) dX8_isRowSize_22 ki_1 ?_
          refine jGoto C 27 dX8_isRowSize_23 (by decide) ?_
          cases hf
          exact jEndIZ C hQ rfl nar_z1 dX8_isRowSize_27
noncomputable def X8_least_h27 (q4 : Int32) (cpl_5 : Nat → Int32) (p2 : Int32) (r10 : Int64 → Int32 → Option (Int32 × (Nat → Int32))) (x4_7 : Int64) (x6_8 : Int32) : Option (Int32 × (Nat → Int32)) := (if q4 ≤ x6_8 then some ((x4_7.toInt32), cpl_5) else gin x6_8 7 (bd1 (X2_binomial (cpl_5 x6_8.toNatClampNeg) ((p2 - x6_8) - (1 : Int32))) (fun q13 => r10 (x4_7 + q13) (x6_8 + (1 : Int32)))))
noncomputable def X8_least (cpl : Nat → Int32) (p1 : Int32) (p2 : Int32) : Option (Int32 × (Nat → Int32)) := bd1 (X8_isRowSize p1 p2) (fun q1 => (if q1 = (0 : Int32) then some ((-2 : Int32), cpl) else bd2 (X2_tops cpl p1 p2) (fun q4 cpl_5 => lfp2 (X8_least_h27 q4 cpl_5 p2) (0 : Int64) (0 : Int32))))
set_option maxHeartbeats 4000000 in
set_option maxRecDepth 20000 in
theorem X8_least_ok {p1 : Int32} {p2 : Int32} {rr : Int32} {ocpl : Nat → Int32}  (hf : X8_least cpl p1 p2 = some (rr, ocpl)) : MT yX8_least cX8_least 7 (some .int) 3 [.ref (g 28), .int p1, .int p2] D cy G (cw g cy cP cLo cHi cpl ctb ctl ctf ctp ctk cts cth cob col cso cha chs cbe ctr cgl cgh cll clh cta cme cps cwh cal cah) (cw g cy cP cLo cHi ocpl ctb ctl ctf ctp ctk cts cth cob col cso cha chs cbe ctr cgl cgh cll clh cta cme cps cwh cal cah) (some (.int rr)) := by
  refine MT.go (own := RX8) [(0, .ref (g 28)), (1, .int p1), (2, .int p2)] (by decide) rfl (Nat.le_of_ble_eq_true rfl) rfl (fun p l e s m args below meth c A Q C hQ => ?_)
  unfold X8_least at hf
  refine jIloadn C dX8_least_0 rfl 1 rfl ?_
  refine jIloadn C dX8_least_1 rfl 2 rfl ?_
  obtain ⟨q1, e2, hf⟩ := bd1_some hf
  refine jSI C (X8_isRowSize_ok  e2) sb_X8_isRowSize mk_RX8_195 rfl ⟨Nat.le_of_ble_eq_true rfl, Nat.le_of_ble_eq_true rfl⟩ rfl (Nat.le_of_ble_eq_true rfl) dX8_least_2 ?_
  refine jIfNe C 11 dX8_least_5 (by decide) (fun c3 => ?_) (fun c3 => ?_)
  · replace hf := itn hf c3
    refine jIloadn C dX8_least_11 rfl 1 rfl ?_
    refine jIloadn C dX8_least_12 rfl 2 rfl ?_
    refine jAloadn C dX8_least_13 rfl 0 rfl ?_
    refine gf_RX8_26 C dX8_least_14 ?_
    obtain ⟨q4, cpl_5, e6, hf⟩ := bd2_some hf
    refine jSI C (X2_tops_ok  e6) sb_X2_tops mk_RX8_199 rfl ⟨Nat.le_of_ble_eq_true rfl, Nat.le_of_ble_eq_true rfl⟩ rfl (Nat.le_of_ble_eq_true rfl) dX8_least_17 ?_
    refine jIstoren C dX8_least_20 rfl (Nat.le_of_ble_eq_true rfl) [(3, .int q4), (0, .ref (g 28)), (1, .int p1), (2, .int p2)] rfl ?_
    refine jLconst C (0 : Int64) dX8_least_21 rfl ?_
    refine jLstore C dX8_least_22 (Nat.le_of_ble_eq_true rfl) [(4, .long (0 : Int64)), (3, .int q4), (0, .ref (g 28)), (1, .int p1), (2, .int p2)] rfl ?_
    refine jIconst C (0 : Int32) dX8_least_24 ki_0 ?_
    refine jIstore C dX8_least_25 (Nat.le_of_ble_eq_true rfl) [(6, .int (0 : Int32)), (4, .long (0 : Int64)), (3, .int q4), (0, .ref (g 28)), (1, .int p1), (2, .int p2)] rfl ?_
    have hL9 : ∀ (x4_7 : Int64) (x6_8 : Int32), lfp2 (X8_least_h27 q4 cpl_5 p2) x4_7 x6_8 = some (rr, ocpl) → J p l e (rmk 3) s m args below meth c D A Q 7 (cw g cy cP cLo cHi cpl_5 ctb ctl ctf ctp ctk cts cth cob col cso cha chs cbe ctr cgl cgh cll clh cta cme cps cwh cal cah) 27 [(0, .ref (g 28)), (2, .int p2), (3, .int q4), (4, .long x4_7), (6, .int x6_8)] [] := by
      intro x4_7 x6_8 hw
      refine lfp2_walk (P := fun x4_7 x6_8 => J p l e (rmk 3) s m args below meth c D A Q 7 (cw g cy cP cLo cHi cpl_5 ctb ctl ctf ctp ctk cts cth cob col cso cha chs cbe ctr cgl cgh cll clh cta cme cps cwh cal cah) 27 [(0, .ref (g 28)), (2, .int p2), (3, .int q4), (4, .long x4_7), (6, .int x6_8)] []) ?_ hw
      intro r10 ir10 x4_7 x6_8 hf
      unfold X8_least_h27 at hf
      refine jIload C dX8_least_27 4 rfl ?_
      refine jIloadn C dX8_least_29 rfl 2 rfl ?_
      refine jCmpGe C 60 dX8_least_30 (by decide) (fun c11 => ?_) (fun c11 => ?_)
      · replace hf := itp hf c11
        refine jLload C dX8_least_60 3 rfl ?_
        refine jL2i C dX8_least_62 ?_
        cases hf
        exact jEndI C hQ rfl dX8_least_63
      · replace hf := itn hf c11
        refine jLload C dX8_least_33 3 rfl ?_
        refine jAloadn C dX8_least_35 rfl 0 rfl ?_
        refine gf_RX8_26 C dX8_least_36 ?_
        refine jIload C dX8_least_39 4 rfl ?_
        obtain ⟨z12, hf⟩ := gin_some hf
        refine al_cpl C z12 dX8_least_41 ?_
        refine jIloadn C dX8_least_42 rfl 1 rfl ?_
        refine jIload C dX8_least_43 4 rfl ?_
        refine jIsub C dX8_least_45 ?_
        refine jIconst C (1 : Int32) dX8_least_46 ki_1 ?_
        refine jIsub C dX8_least_47 ?_
        obtain ⟨q13, e14, hf⟩ := bd1_some hf
        refine jSL C (X2_binomial_ok  e14) sb_X2_binomial mk_RX8_177 rfl ⟨Nat.le_of_ble_eq_true rfl, Nat.le_of_ble_eq_true rfl⟩ rfl (Nat.le_of_ble_eq_true rfl) dX8_least_48 ?_
        refine jLadd C dX8_least_51 ?_
        refine jLstore C dX8_least_52 (Nat.le_of_ble_eq_true rfl) [(4, .long (x4_7 + q13)), (0, .ref (g 28)), (2, .int p2), (3, .int q4), (6, .int x6_8)] rfl ?_
        refine jIinc C (x6_8 + (1 : Int32)) dX8_least_54 4 rfl (congrArg (fun z : Int32 => x6_8 + z) ki_1) (Nat.le_of_ble_eq_true rfl) [(6, .int (x6_8 + (1 : Int32))), (4, .long (x4_7 + q13)), (0, .ref (g 28)), (2, .int p2), (3, .int q4)] rfl ?_
        refine jGoto C 27 dX8_least_57 (by decide) ?_
        refine jSub [2, 3, 4, 1, 0] rfl ?_
        exact ir10 (x4_7 + q13) (x6_8 + (1 : Int32)) hf
    refine jSub [3, 5, 2, 1, 0] rfl ?_
    exact hL9 (0 : Int64) (0 : Int32) hf
  · replace hf := itp hf c3
    refine jBipush C (-2 : Int32) dX8_least_8 kb_m2 ?_
    cases hf
    exact jEndI C hQ rfl dX8_least_10
noncomputable def X8_cascade (cpl : Nat → Int32) (p1 : Int32) (p2 : Int32) (p3 : Int32) : Option (Int32 × (Nat → Int32)) := bd1 (X8_isRowSize p1 p2) (fun q1 => (if q1 = (0 : Int32) then some ((-2 : Int32), cpl) else (if (0 : Int32) ≤ p3 then bd2 (X2_tops cpl p1 p2) (fun q5 cpl_6 => (if q5 ≤ p3 then some ((-1 : Int32), cpl_6) else gin p3 7 (some ((cpl_6 p3.toNatClampNeg), cpl_6)))) else some ((-2 : Int32), cpl))))
set_option maxHeartbeats 4000000 in
set_option maxRecDepth 20000 in
theorem X8_cascade_ok {p1 : Int32} {p2 : Int32} {p3 : Int32} {rr : Int32} {ocpl : Nat → Int32}  (hf : X8_cascade cpl p1 p2 p3 = some (rr, ocpl)) : MT yX8_cascade cX8_cascade 5 (some .int) 3 [.ref (g 28), .int p1, .int p2, .int p3] D cy G (cw g cy cP cLo cHi cpl ctb ctl ctf ctp ctk cts cth cob col cso cha chs cbe ctr cgl cgh cll clh cta cme cps cwh cal cah) (cw g cy cP cLo cHi ocpl ctb ctl ctf ctp ctk cts cth cob col cso cha chs cbe ctr cgl cgh cll clh cta cme cps cwh cal cah) (some (.int rr)) := by
  refine MT.go (own := RX8) [(0, .ref (g 28)), (1, .int p1), (2, .int p2), (3, .int p3)] (by decide) rfl (Nat.le_of_ble_eq_true rfl) rfl (fun p l e s m args below meth c A Q C hQ => ?_)
  unfold X8_cascade at hf
  refine jIloadn C dX8_cascade_0 rfl 1 rfl ?_
  refine jIloadn C dX8_cascade_1 rfl 2 rfl ?_
  obtain ⟨q1, e2, hf⟩ := bd1_some hf
  refine jSI C (X8_isRowSize_ok  e2) sb_X8_isRowSize mk_RX8_195 rfl ⟨Nat.le_of_ble_eq_true rfl, Nat.le_of_ble_eq_true rfl⟩ rfl (Nat.le_of_ble_eq_true rfl) dX8_cascade_2 ?_
  refine jIfEq C 12 dX8_cascade_5 (by decide) (fun c3 => ?_) (fun c3 => ?_)
  · replace hf := itp hf c3
    refine jBipush C (-2 : Int32) dX8_cascade_12 kb_m2 ?_
    cases hf
    exact jEndI C hQ rfl dX8_cascade_14
  · replace hf := itn hf c3
    refine jIloadn C dX8_cascade_8 rfl 3 rfl ?_
    refine jIfGe C 15 dX8_cascade_9 (by decide) (fun c4 => ?_) (fun c4 => ?_)
    · replace hf := itp hf c4
      refine jIloadn C dX8_cascade_15 rfl 1 rfl ?_
      refine jIloadn C dX8_cascade_16 rfl 2 rfl ?_
      refine jAloadn C dX8_cascade_17 rfl 0 rfl ?_
      refine gf_RX8_26 C dX8_cascade_18 ?_
      obtain ⟨q5, cpl_6, e7, hf⟩ := bd2_some hf
      refine jSI C (X2_tops_ok  e7) sb_X2_tops mk_RX8_199 rfl ⟨Nat.le_of_ble_eq_true rfl, Nat.le_of_ble_eq_true rfl⟩ rfl (Nat.le_of_ble_eq_true rfl) dX8_cascade_21 ?_
      refine jIstore C dX8_cascade_24 (Nat.le_of_ble_eq_true rfl) [(4, .int q5), (0, .ref (g 28)), (1, .int p1), (2, .int p2), (3, .int p3)] rfl ?_
      refine jIloadn C dX8_cascade_26 rfl 4 rfl ?_
      refine jIload C dX8_cascade_27 0 rfl ?_
      refine jCmpGe C 41 dX8_cascade_29 (by decide) (fun c8 => ?_) (fun c8 => ?_)
      · replace hf := itp hf c8
        refine jIconst C (-1 : Int32) dX8_cascade_41 ki_m1 ?_
        cases hf
        exact jEndI C hQ rfl dX8_cascade_42
      · replace hf := itn hf c8
        refine jAloadn C dX8_cascade_32 rfl 1 rfl ?_
        refine gf_RX8_26 C dX8_cascade_33 ?_
        refine jIloadn C dX8_cascade_36 rfl 4 rfl ?_
        obtain ⟨z9, hf⟩ := gin_some hf
        refine al_cpl C z9 dX8_cascade_37 ?_
        refine jGoto C 42 dX8_cascade_38 (by decide) ?_
        cases hf
        exact jEndI C hQ rfl dX8_cascade_42
    · replace hf := itn hf c4
      refine jBipush C (-2 : Int32) dX8_cascade_12 kb_m2 ?_
      cases hf
      exact jEndI C hQ rfl dX8_cascade_14
noncomputable def X8_choose (p1 : Int32) (p2 : Int32) : Option Int32 := (if p1 < (0 : Int32) then some (-2 : Int32) else (if p1 ≤ (20 : Int32) then bd1 (X2_binomial p1 p2) (fun q3 => some (q3.toInt32)) else some (-2 : Int32)))
set_option maxHeartbeats 4000000 in
set_option maxRecDepth 20000 in
theorem X8_choose_ok {p1 : Int32} {p2 : Int32} {rr : Int32}  (hf : X8_choose p1 p2 = some rr) : MT yX8_choose cX8_choose 3 (some .int) 1 [.ref (g 28), .int p1, .int p2] D cy G (cw g cy cP cLo cHi cpl ctb ctl ctf ctp ctk cts cth cob col cso cha chs cbe ctr cgl cgh cll clh cta cme cps cwh cal cah) (cw g cy cP cLo cHi cpl ctb ctl ctf ctp ctk cts cth cob col cso cha chs cbe ctr cgl cgh cll clh cta cme cps cwh cal cah) (some (.int rr)) := by
  refine MT.go (own := RX8) [(0, .ref (g 28)), (1, .int p1), (2, .int p2)] (by decide) rfl (Nat.le_of_ble_eq_true rfl) rfl (fun p l e s m args below meth c A Q C hQ => ?_)
  unfold X8_choose at hf
  refine jIloadn C dX8_choose_0 rfl 1 rfl ?_
  refine jIfLt C 10 dX8_choose_1 (by decide) (fun c1 => ?_) (fun c1 => ?_)
  · replace hf := itp hf c1
    refine jBipush C (-2 : Int32) dX8_choose_10 kb_m2 ?_
    cases hf
    exact jEndI C hQ rfl dX8_choose_12
  · replace hf := itn hf c1
    refine jIloadn C dX8_choose_4 rfl 1 rfl ?_
    refine jBipush C (20 : Int32) dX8_choose_5 kb_20 ?_
    refine jCmpLe C 13 dX8_choose_7 (by decide) (fun c2 => ?_) (fun c2 => ?_)
    · replace hf := itp hf c2
      refine jIloadn C dX8_choose_13 rfl 1 rfl ?_
      refine jIloadn C dX8_choose_14 rfl 2 rfl ?_
      obtain ⟨q3, e4, hf⟩ := bd1_some hf
      refine jSL C (X2_binomial_ok  e4) sb_X2_binomial mk_RX8_177 rfl ⟨Nat.le_of_ble_eq_true rfl, Nat.le_of_ble_eq_true rfl⟩ rfl (Nat.le_of_ble_eq_true rfl) dX8_choose_15 ?_
      refine jL2i C dX8_choose_18 ?_
      cases hf
      exact jEndI C hQ rfl dX8_choose_19
    · replace hf := itn hf c2
      refine jBipush C (-2 : Int32) dX8_choose_10 kb_m2 ?_
      cases hf
      exact jEndI C hQ rfl dX8_choose_12
noncomputable def X8_isTries (p0 : Int32) : Option Int32 := (if p0 < (1 : Int32) then some (0 : Int32) else (if (50000 : Int32) < p0 then some (0 : Int32) else some (1 : Int32)))
set_option maxHeartbeats 4000000 in
set_option maxRecDepth 20000 in
theorem X8_isTries_ok {D : va_G} {cy : Nat → ClassId} {G : Nat → Nat} {ws : va_W} {p0 : Int32} {rr : Int32}  (hf : X8_isTries p0 = some rr) : MT yX8_isTries cX8_isTries 1 (some .boolean) 0 [.int p0] D cy G ws ws (some (.int rr)) := by
  refine MT.go (own := RX8) [(0, .int p0)] (by decide) rfl (Nat.le_of_ble_eq_true rfl) rfl (fun p l e s m args below meth c A Q C hQ => ?_)
  unfold X8_isTries at hf
  refine jIloadn C dX8_isTries_0 rfl 0 rfl ?_
  refine jIconst C (1 : Int32) dX8_isTries_1 ki_1 ?_
  refine jCmpLt C 16 dX8_isTries_2 (by decide) (fun c1 => ?_) (fun c1 => ?_)
  · replace hf := itp hf c1
    refine jIconst C (0 : Int32) dX8_isTries_16 ki_0 ?_
    cases hf
    exact jEndIZ C hQ rfl nar_z0 dX8_isTries_17
  · replace hf := itn hf c1
    refine jIloadn C dX8_isTries_5 rfl 0 rfl ?_
    refine jLdcw C (x := (50000 : Int32)) ik_RX8_332 dX8_isTries_6 ?_
    refine jCmpGt C 16 dX8_isTries_9 (by decide) (fun c2 => ?_) (fun c2 => ?_)
    · replace hf := itp hf c2
      refine jIconst C (0 : Int32) dX8_isTries_16 ki_0 ?_
      cases hf
      exact jEndIZ C hQ rfl nar_z0 dX8_isTries_17
    · replace hf := itn hf c2
      refine jIconst C (1 : Int32) dX8_isTries_12 ki_1 ?_
      refine jGoto C 17 dX8_isTries_13 (by decide) ?_
      cases hf
      exact jEndIZ C hQ rfl nar_z1 dX8_isTries_17
noncomputable def X8_isSearch (p0 : Int32) (p1 : Int32) : Option Int32 := (if p0 < (0 : Int32) then some (0 : Int32) else (if (3 : Int32) < p0 then some (0 : Int32) else bd1 (X8_isTries p1) (fun q3 => (if q3 = (0 : Int32) then some (0 : Int32) else some (1 : Int32)))))
set_option maxHeartbeats 4000000 in
set_option maxRecDepth 20000 in
theorem X8_isSearch_ok {D : va_G} {cy : Nat → ClassId} {G : Nat → Nat} {ws : va_W} {p0 : Int32} {p1 : Int32} {rr : Int32}  (hf : X8_isSearch p0 p1 = some rr) : MT yX8_isSearch cX8_isSearch 2 (some .boolean) 1 [.int p0, .int p1] D cy G ws ws (some (.int rr)) := by
  refine MT.go (own := RX8) [(0, .int p0), (1, .int p1)] (by decide) rfl (Nat.le_of_ble_eq_true rfl) rfl (fun p l e s m args below meth c A Q C hQ => ?_)
  unfold X8_isSearch at hf
  refine jIloadn C dX8_isSearch_0 rfl 0 rfl ?_
  refine jIfLt C 20 dX8_isSearch_1 (by decide) (fun c1 => ?_) (fun c1 => ?_)
  · replace hf := itp hf c1
    refine jIconst C (0 : Int32) dX8_isSearch_20 ki_0 ?_
    cases hf
    exact jEndIZ C hQ rfl nar_z0 dX8_isSearch_21
  · replace hf := itn hf c1
    refine jIloadn C dX8_isSearch_4 rfl 0 rfl ?_
    refine jIconst C (3 : Int32) dX8_isSearch_5 ki_3 ?_
    refine jCmpGt C 20 dX8_isSearch_6 (by decide) (fun c2 => ?_) (fun c2 => ?_)
    · replace hf := itp hf c2
      refine jIconst C (0 : Int32) dX8_isSearch_20 ki_0 ?_
      cases hf
      exact jEndIZ C hQ rfl nar_z0 dX8_isSearch_21
    · replace hf := itn hf c2
      refine jIloadn C dX8_isSearch_9 rfl 1 rfl ?_
      obtain ⟨q3, e4, hf⟩ := bd1_some hf
      refine jSI C (X8_isTries_ok  e4) sb_X8_isTries mk_RX8_227 rfl ⟨Nat.le_of_ble_eq_true rfl, Nat.le_of_ble_eq_true rfl⟩ rfl (Nat.le_of_ble_eq_true rfl) dX8_isSearch_10 ?_
      refine jIfEq C 20 dX8_isSearch_13 (by decide) (fun c5 => ?_) (fun c5 => ?_)
      · replace hf := itp hf c5
        refine jIconst C (0 : Int32) dX8_isSearch_20 ki_0 ?_
        cases hf
        exact jEndIZ C hQ rfl nar_z0 dX8_isSearch_21
      · replace hf := itn hf c5
        refine jIconst C (1 : Int32) dX8_isSearch_16 ki_1 ?_
        refine jGoto C 21 dX8_isSearch_17 (by decide) ?_
        cases hf
        exact jEndIZ C hQ rfl nar_z1 dX8_isSearch_21
noncomputable def X8_most (cP : Nat → Int32) (cLo : Nat → Int64) (cHi : Nat → Int64) (cbe : Int32) (ctr : Int32) (cgl : Nat → Int64) (cgh : Nat → Int64) (cll : Nat → Int64) (clh : Nat → Int64) (cta : Nat → Int32) (p1 : Int32) (p2 : Int32) (p3 : Int32) : Option (Int32 × (Nat → Int32) × (Nat → Int64) × (Nat → Int64) × Int32 × Int32 × (Nat → Int64) × (Nat → Int64) × (Nat → Int64) × (Nat → Int64) × (Nat → Int32)) := bdo (X8_familyAt cP p1) (some ((-2 : Int32), cP, cLo, cHi, cbe, ctr, cgl, cgh, cll, clh, cta)) (fun f1 => bd1 (X8_isSearch p2 p3) (fun q3 => (if q3 = (0 : Int32) then some ((-2 : Int32), cP, cLo, cHi, cbe, ctr, cgl, cgh, cll, clh, cta) else bd11 (X5_run cP cLo cHi cgl cgh cll clh cta f1 p2 p3) (fun q6 cP_7 cLo_8 cHi_9 cbe_10 ctr_11 cgl_12 cgh_13 cll_14 clh_15 cta_16 => (if q6 = (0 : Int32) then some ((-3 : Int32), cP_7, cLo_8, cHi_9, cbe_10, ctr_11, cgl_12, cgh_13, cll_14, clh_15, cta_16) else some (cbe_10, cP_7, cLo_8, cHi_9, cbe_10, ctr_11, cgl_12, cgh_13, cll_14, clh_15, cta_16))))))
set_option maxHeartbeats 4000000 in
set_option maxRecDepth 20000 in
theorem X8_most_ok {p1 : Int32} {p2 : Int32} {p3 : Int32} {rr : Int32} {ocP : Nat → Int32} {ocLo : Nat → Int64} {ocHi : Nat → Int64} {ocbe : Int32} {octr : Int32} {ocgl : Nat → Int64} {ocgh : Nat → Int64} {ocll : Nat → Int64} {oclh : Nat → Int64} {octa : Nat → Int32}  (hf : X8_most cP cLo cHi cbe ctr cgl cgh cll clh cta p1 p2 p3 = some (rr, ocP, ocLo, ocHi, ocbe, octr, ocgl, ocgh, ocll, oclh, octa)) : MT yX8_most cX8_most 5 (some .int) 6 [.ref (g 28), .int p1, .int p2, .int p3] D cy G (cw g cy cP cLo cHi cpl ctb ctl ctf ctp ctk cts cth cob col cso cha chs cbe ctr cgl cgh cll clh cta cme cps cwh cal cah) (cw g cy ocP ocLo ocHi cpl ctb ctl ctf ctp ctk cts cth cob col cso cha chs ocbe octr ocgl ocgh ocll oclh octa cme cps cwh cal cah) (some (.int rr)) := by
  refine MT.go (own := RX8) [(0, .ref (g 28)), (1, .int p1), (2, .int p2), (3, .int p3)] (by decide) rfl (Nat.le_of_ble_eq_true rfl) rfl (fun p l e s m args below meth c A Q C hQ => ?_)
  unfold X8_most at hf
  refine jAloadn C dX8_most_0 rfl 0 rfl ?_
  refine jIloadn C dX8_most_1 rfl 1 rfl ?_
  rcases bdo_some hf with ⟨q2, hf⟩ | ⟨f1, q2, hf⟩
  · refine jVN C (X8_familyAt_ok  q2) vb_X8_familyAt mk_RX8_102 rfl rc28 ⟨Nat.le_of_ble_eq_true rfl, Nat.le_of_ble_eq_true rfl⟩ rfl (Nat.le_of_ble_eq_true rfl) dX8_most_2 ?_
    refine jAstoreN C dX8_most_5 (Nat.le_of_ble_eq_true rfl) [(4, .null), (0, .ref (g 28)), (1, .int p1), (2, .int p2), (3, .int p3)] rfl ?_
    refine jAloadN C dX8_most_7 0 rfl ?_
    refine jIfnullN C 20 dX8_most_9 (by decide) ?_
    refine jBipush C (-2 : Int32) dX8_most_20 kb_m2 ?_
    cases hf
    exact jEndI C hQ rfl dX8_most_22
  · refine jVA C (X8_familyAt_ok  q2) vb_X8_familyAt mk_RX8_102 rfl rc28 ⟨Nat.le_of_ble_eq_true rfl, Nat.le_of_ble_eq_true rfl⟩ rfl (Nat.le_of_ble_eq_true rfl) dX8_most_2 ?_
    refine jAstore C dX8_most_5 (Nat.le_of_ble_eq_true rfl) [(4, .ref (g f1)), (0, .ref (g 28)), (1, .int p1), (2, .int p2), (3, .int p3)] rfl ?_
    refine jAload C dX8_most_7 0 rfl ?_
    refine jIfnull C dX8_most_9 ?_
    refine jIloadn C dX8_most_12 rfl 3 rfl ?_
    refine jIloadn C dX8_most_13 rfl 4 rfl ?_
    obtain ⟨q3, e4, hf⟩ := bd1_some hf
    refine jSI C (X8_isSearch_ok  e4) sb_X8_isSearch mk_RX8_203 rfl ⟨Nat.le_of_ble_eq_true rfl, Nat.le_of_ble_eq_true rfl⟩ rfl (Nat.le_of_ble_eq_true rfl) dX8_most_14 ?_
    refine jIfNe C 23 dX8_most_17 (by decide) (fun c5 => ?_) (fun c5 => ?_)
    · replace hf := itn hf c5
      refine jAloadn C dX8_most_23 rfl 1 rfl ?_
      refine gf_RX8_54 C dX8_most_24 ?_
      refine jAload C dX8_most_27 0 rfl ?_
      refine jIloadn C dX8_most_29 rfl 3 rfl ?_
      refine jIloadn C dX8_most_30 rfl 4 rfl ?_
      obtain ⟨q6, cP_7, cLo_8, cHi_9, cbe_10, ctr_11, cgl_12, cgh_13, cll_14, clh_15, cta_16, e17, hf⟩ := bd11_some hf
      refine jVI C (X5_run_ok (X8_familyAt_lt q2) e17) vb_X5_run mk_RX8_206 rfl rc38 ⟨Nat.le_of_ble_eq_true rfl, Nat.le_of_ble_eq_true rfl⟩ rfl (Nat.le_of_ble_eq_true rfl) dX8_most_31 ?_
      refine jIfEq C 47 dX8_most_34 (by decide) (fun c18 => ?_) (fun c18 => ?_)
      · replace hf := itp hf c18
        refine jBipush C (-3 : Int32) dX8_most_47 kb_m3 ?_
        cases hf
        exact jEndI C hQ rfl dX8_most_49
      · replace hf := itn hf c18
        refine jAloadn C dX8_most_37 rfl 1 rfl ?_
        refine gf_RX8_54 C dX8_most_38 ?_
        refine gf_RX8_209 C dX8_most_41 ?_
        refine jGoto C 49 dX8_most_44 (by decide) ?_
        cases hf
        exact jEndI C hQ rfl dX8_most_49
    · replace hf := itp hf c5
      refine jBipush C (-2 : Int32) dX8_most_20 kb_m2 ?_
      cases hf
      exact jEndI C hQ rfl dX8_most_22
end WK
