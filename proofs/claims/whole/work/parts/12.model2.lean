section WK
variable {g h : Nat → Nat} {cP : Nat → Int32} {cLo : Nat → Int64} {cHi : Nat → Int64} {cpl : Nat → Int32} {ctb : Nat → Int32} {ctl : Int32} {ctf : Int32} {ctp : Int32} {ctk : Int32} {cts : Int32} {cth : Int32} {cob : Nat → Int32} {col : Int32} {cso : Nat → Int32} {cha : Int32} {chs : Int32} {cbe : Int32} {ctr : Int32} {cgl : Nat → Int64} {cgh : Nat → Int64} {cll : Nat → Int64} {clh : Nat → Int64} {cta : Nat → Int32} {cme : Nat → Int32} {cps : Int32} {cwh : Nat → Int32} {cal : Nat → Int64} {cah : Nat → Int64} {mthr : Int32} {mfrp : Int32} {mact : Int32} {mtpd : Int32} {msiz : Int32} {matx : Int32} {mfrm : Int32} {mtok : Int32} {mval : Int32} {mfk : Int32} {mfpl : Int32} {mbem : Int32} {mtrs : Int32} {mtrl : Int32} {mrom : Int32} {mtom : Int32} {mnow : Nat → Int32} {mfre : Nat → Int32} {mkep : Nat → Int32} {mtap : Nat → Int32} {mlef : Nat → Int32} {mtak : Nat → Int32} {mbes : Nat → Int32} {mrow : Nat → Int32} {mint : Nat → Int32} {mrnd : Nat → Int32} {mplo : Nat → Int32} {mhio : Nat → Int32} {mtox : Nat → Int32} {mtol : Nat → Int32}
variable {D : va_G} {cy : Nat → ClassId} {G : Nat → Nat}
noncomputable def X9_told (mfrp : Int32) (mact : Int32) (mtpd : Int32) (msiz : Int32) (matx : Int32) (mfrm : Int32) (mtok : Int32) (mval : Int32) (mfk : Int32) (mfpl : Int32) (mnow : Nat → Int32) (mfre : Nat → Int32) (mkep : Nat → Int32) (mtap : Nat → Int32) (p1 : Int32) : Option (Int32 × Int32 × Int32 × Int32 × Int32 × Int32 × Int32 × Int32 × Int32 × Int32 × Int32 × (Nat → Int32) × (Nat → Int32) × (Nat → Int32)) := bd1 (X9_isSlot p1) (fun q1 => (if q1 = (0 : Int32) then some ((-2 : Int32), mfrp, mact, mtpd, msiz, matx, mfrm, mtok, mval, mfk, mfpl, mnow, mfre, mkep) else bd8 (X9_read mtpd (0 : Int32) mval (0 : Int32) (-1 : Int32) mfre mtap) (fun mfrp_4 matx_5 mfrm_6 mtok_7 mval_8 mfk_9 mfpl_10 mfre_11 => bd1 (X9_good mfk_9) (fun q13 => (if q13 = (0 : Int32) then some ((-4 : Int32), mfrp_4, mact, (0 : Int32), mtpd, matx_5, mfrm_6, mtok_7, mval_8, mfk_9, mfpl_10, mnow, mfre_11, mkep) else bd4 (X9_comes mfrp_4 mact mnow mfre_11 mkep p1) (fun q16 mact_17 mnow_18 mkep_19 => some (q16, mfrp_4, mact_17, (0 : Int32), mtpd, matx_5, mfrm_6, mtok_7, mval_8, mfk_9, mfpl_10, mnow_18, mfre_11, mkep_19)))))))
set_option maxHeartbeats 4000000 in
set_option maxRecDepth 20000 in
theorem X9_told_ok {p1 : Int32} {rr : Int32} {omfrp : Int32} {omact : Int32} {omtpd : Int32} {omsiz : Int32} {omatx : Int32} {omfrm : Int32} {omtok : Int32} {omval : Int32} {omfk : Int32} {omfpl : Int32} {omnow : Nat → Int32} {omfre : Nat → Int32} {omkep : Nat → Int32}  (hf : X9_told mfrp mact mtpd msiz matx mfrm mtok mval mfk mfpl mnow mfre mkep mtap p1 = some (rr, omfrp, omact, omtpd, omsiz, omatx, omfrm, omtok, omval, omfk, omfpl, omnow, omfre, omkep)) : MT yX9_told cX9_told 2 (some .int) 7 [.ref (h 0), .int p1] D cy G (mw h cy mthr mfrp mact mtpd msiz matx mfrm mtok mval mfk mfpl mbem mtrs mtrl mrom mtom mnow mfre mkep mtap mlef mtak mbes mrow mint mrnd mplo mhio mtox mtol) (mw h cy mthr omfrp omact omtpd omsiz omatx omfrm omtok omval omfk omfpl mbem mtrs mtrl mrom mtom omnow omfre omkep mtap mlef mtak mbes mrow mint mrnd mplo mhio mtox mtol) (some (.int rr)) := by
  refine MT.go (own := RX9) [(0, .ref (h 0)), (1, .int p1)] (by decide) rfl (Nat.le_of_ble_eq_true rfl) rfl (fun p l e s m args below meth c A Q C hQ => ?_)
  unfold X9_told at hf
  refine jIloadn C dX9_told_0 rfl 1 rfl ?_
  obtain ⟨q1, e2, hf⟩ := bd1_some hf
  refine jSI C (X9_isSlot_ok  e2) sb_X9_isSlot mk_RX9_67 rfl ⟨Nat.le_of_ble_eq_true rfl, Nat.le_of_ble_eq_true rfl⟩ rfl (Nat.le_of_ble_eq_true rfl) dX9_told_1 ?_
  refine jIfNe C 10 dX9_told_4 (by decide) (fun c3 => ?_) (fun c3 => ?_)
  · replace hf := itn hf c3
    refine jAloadn C dX9_told_10 rfl 0 rfl ?_
    refine jAloadn C dX9_told_11 rfl 0 rfl ?_
    refine gf_RX9_100 C dX9_told_12 ?_
    refine pf_RX9_114 C dX9_told_15 ?_
    refine jAloadn C dX9_told_18 rfl 0 rfl ?_
    refine jIconst C (0 : Int32) dX9_told_19 ki_0 ?_
    refine pf_RX9_100 C dX9_told_20 ?_
    refine jAloadn C dX9_told_23 rfl 0 rfl ?_
    refine jIconst C (0 : Int32) dX9_told_24 ki_0 ?_
    refine pf_RX9_117 C dX9_told_25 ?_
    refine jAloadn C dX9_told_28 rfl 0 rfl ?_
    refine jIconst C (0 : Int32) dX9_told_29 ki_0 ?_
    refine pf_RX9_107 C dX9_told_30 ?_
    refine jAloadn C dX9_told_33 rfl 0 rfl ?_
    refine jIconst C (-1 : Int32) dX9_told_34 ki_m1 ?_
    refine pf_RX9_24 C dX9_told_35 ?_
    refine jAloadn C dX9_told_38 rfl 0 rfl ?_
    obtain ⟨mfrp_4, matx_5, mfrm_6, mtok_7, mval_8, mfk_9, mfpl_10, mfre_11, e12, hf⟩ := bd8_some hf
    refine jVV C (X9_read_ok  e12) vb_X9_read mk_RX9_185 rfl rcM ⟨Nat.le_of_ble_eq_true rfl, Nat.le_of_ble_eq_true rfl⟩ rfl (Nat.le_of_ble_eq_true rfl) dX9_told_39 ?_
    refine jAloadn C dX9_told_42 rfl 0 rfl ?_
    obtain ⟨q13, e14, hf⟩ := bd1_some hf
    refine jVI C (X9_good_ok  e14) vb_X9_good mk_RX9_110 rfl rcM ⟨Nat.le_of_ble_eq_true rfl, Nat.le_of_ble_eq_true rfl⟩ rfl (Nat.le_of_ble_eq_true rfl) dX9_told_43 ?_
    refine jIfEq C 57 dX9_told_46 (by decide) (fun c15 => ?_) (fun c15 => ?_)
    · replace hf := itp hf c15
      refine jBipush C (-4 : Int32) dX9_told_57 kb_m4 ?_
      cases hf
      exact jEndI C hQ rfl dX9_told_59
    · replace hf := itn hf c15
      refine jAloadn C dX9_told_49 rfl 0 rfl ?_
      refine jIloadn C dX9_told_50 rfl 1 rfl ?_
      obtain ⟨q16, mact_17, mnow_18, mkep_19, e20, hf⟩ := bd4_some hf
      refine jVI C (X9_comes_ok  e20) vb_X9_comes mk_RX9_188 rfl rcM ⟨Nat.le_of_ble_eq_true rfl, Nat.le_of_ble_eq_true rfl⟩ rfl (Nat.le_of_ble_eq_true rfl) dX9_told_51 ?_
      refine jGoto C 59 dX9_told_54 (by decide) ?_
      cases hf
      exact jEndI C hQ rfl dX9_told_59
  · replace hf := itp hf c3
    refine jBipush C (-2 : Int32) dX9_told_7 kb_m2 ?_
    cases hf
    exact jEndI C hQ rfl dX9_told_9
noncomputable def X9_fault (mfk : Int32) (mfpl : Int32) (p1 : Int32) : Option Int32 := (if p1 = (0 : Int32) then some mfk else (if p1 = (1 : Int32) then some mfpl else some (-1 : Int32)))
set_option maxHeartbeats 4000000 in
set_option maxRecDepth 20000 in
theorem X9_fault_ok {p1 : Int32} {rr : Int32}  (hf : X9_fault mfk mfpl p1 = some rr) : MT yX9_fault cX9_fault 2 (some .int) 0 [.ref (h 0), .int p1] D cy G (mw h cy mthr mfrp mact mtpd msiz matx mfrm mtok mval mfk mfpl mbem mtrs mtrl mrom mtom mnow mfre mkep mtap mlef mtak mbes mrow mint mrnd mplo mhio mtox mtol) (mw h cy mthr mfrp mact mtpd msiz matx mfrm mtok mval mfk mfpl mbem mtrs mtrl mrom mtom mnow mfre mkep mtap mlef mtak mbes mrow mint mrnd mplo mhio mtox mtol) (some (.int rr)) := by
  refine MT.go (own := RX9) [(0, .ref (h 0)), (1, .int p1)] (by decide) rfl (Nat.le_of_ble_eq_true rfl) rfl (fun p l e s m args below meth c A Q C hQ => ?_)
  unfold X9_fault at hf
  refine jIloadn C dX9_fault_0 rfl 1 rfl ?_
  refine jIfNe C 11 dX9_fault_1 (by decide) (fun c1 => ?_) (fun c1 => ?_)
  · replace hf := itn hf c1
    refine jIloadn C dX9_fault_11 rfl 1 rfl ?_
    refine jIconst C (1 : Int32) dX9_fault_12 ki_1 ?_
    refine jCmpNe C 23 dX9_fault_13 (by decide) (fun c2 => ?_) (fun c2 => ?_)
    · replace hf := itn hf c2
      refine jIconst C (-1 : Int32) dX9_fault_23 ki_m1 ?_
      cases hf
      exact jEndI C hQ rfl dX9_fault_24
    · replace hf := itp hf c2
      refine jAloadn C dX9_fault_16 rfl 0 rfl ?_
      refine gf_RX9_24 C dX9_fault_17 ?_
      refine jGoto C 24 dX9_fault_20 (by decide) ?_
      cases hf
      exact jEndI C hQ rfl dX9_fault_24
  · replace hf := itp hf c1
    refine jAloadn C dX9_fault_4 rfl 0 rfl ?_
    refine gf_RX9_107 C dX9_fault_5 ?_
    refine jGoto C 24 dX9_fault_8 (by decide) ?_
    cases hf
    exact jEndI C hQ rfl dX9_fault_24
noncomputable def X9_count_h4 (p1 : Int32) (mact : Int32) (mtpd : Int32) (mtom : Int32) (mnow : Nat → Int32) (r4 : Int32 → Int32 → Option Int32) (x2_1 : Int32) (x3_2 : Int32) : Option Int32 := (if (3 : Int32) ≤ x3_2 then (if p1 = (0 : Int32) then some x2_1 else (if p1 = (1 : Int32) then some mact else (if p1 = (2 : Int32) then some mtpd else (if p1 = (3 : Int32) then some mtom else some (-1 : Int32))))) else bd1 (X9_hasOne mnow x3_2) (fun q10 => (if q10 = (0 : Int32) then r4 (x2_1 ||| (0 : Int32)) (x3_2 + (1 : Int32)) else r4 (x2_1 ||| ((1 : Int32) <<< (x3_2 &&& 31))) (x3_2 + (1 : Int32)))))
noncomputable def X9_count (mact : Int32) (mtpd : Int32) (mtom : Int32) (mnow : Nat → Int32) (p1 : Int32) : Option Int32 := lfp2 (X9_count_h4 p1 mact mtpd mtom mnow) (0 : Int32) (0 : Int32)
set_option maxHeartbeats 4000000 in
set_option maxRecDepth 20000 in
theorem X9_count_ok {p1 : Int32} {rr : Int32}  (hf : X9_count mact mtpd mtom mnow p1 = some rr) : MT yX9_count cX9_count 4 (some .int) 3 [.ref (h 0), .int p1] D cy G (mw h cy mthr mfrp mact mtpd msiz matx mfrm mtok mval mfk mfpl mbem mtrs mtrl mrom mtom mnow mfre mkep mtap mlef mtak mbes mrow mint mrnd mplo mhio mtox mtol) (mw h cy mthr mfrp mact mtpd msiz matx mfrm mtok mval mfk mfpl mbem mtrs mtrl mrom mtom mnow mfre mkep mtap mlef mtak mbes mrow mint mrnd mplo mhio mtox mtol) (some (.int rr)) := by
  refine MT.go (own := RX9) [(0, .ref (h 0)), (1, .int p1)] (by decide) rfl (Nat.le_of_ble_eq_true rfl) rfl (fun p l e s m args below meth c A Q C hQ => ?_)
  unfold X9_count at hf
  refine jIconst C (0 : Int32) dX9_count_0 ki_0 ?_
  refine jIstoren C dX9_count_1 rfl (Nat.le_of_ble_eq_true rfl) [(2, .int (0 : Int32)), (0, .ref (h 0)), (1, .int p1)] rfl ?_
  refine jIconst C (0 : Int32) dX9_count_2 ki_0 ?_
  refine jIstoren C dX9_count_3 rfl (Nat.le_of_ble_eq_true rfl) [(3, .int (0 : Int32)), (2, .int (0 : Int32)), (0, .ref (h 0)), (1, .int p1)] rfl ?_
  have hL3 : ∀ (x2_1 : Int32) (x3_2 : Int32), lfp2 (X9_count_h4 p1 mact mtpd mtom mnow) x2_1 x3_2 = some rr → J p l e (rmk 3) s m args below meth c D A Q 4 (mw h cy mthr mfrp mact mtpd msiz matx mfrm mtok mval mfk mfpl mbem mtrs mtrl mrom mtom mnow mfre mkep mtap mlef mtak mbes mrow mint mrnd mplo mhio mtox mtol) 4 [(0, .ref (h 0)), (1, .int p1), (2, .int x2_1), (3, .int x3_2)] [] := by
    intro x2_1 x3_2 hw
    refine lfp2_walk (P := fun x2_1 x3_2 => J p l e (rmk 3) s m args below meth c D A Q 4 (mw h cy mthr mfrp mact mtpd msiz matx mfrm mtok mval mfk mfpl mbem mtrs mtrl mrom mtom mnow mfre mkep mtap mlef mtak mbes mrow mint mrnd mplo mhio mtox mtol) 4 [(0, .ref (h 0)), (1, .int p1), (2, .int x2_1), (3, .int x3_2)] []) ?_ hw
    intro r4 ir4 x2_1 x3_2 hf
    unfold X9_count_h4 at hf
    refine jIloadn C dX9_count_4 rfl 3 rfl ?_
    refine jIconst C (3 : Int32) dX9_count_5 ki_3 ?_
    refine jCmpGe C 33 dX9_count_6 (by decide) (fun c5 => ?_) (fun c5 => ?_)
    · replace hf := itp hf c5
      refine jIloadn C dX9_count_33 rfl 1 rfl ?_
      by_cases c6 : p1 = (0 : Int32)
      · replace hf := itp hf c6
        refine jTabIn C 64 dX9_count_34 (by rw [c6]; decide) (by rw [c6]; decide) (by rw [c6]; rfl) (by decide) ?_
        refine jIloadn C dX9_count_64 rfl 2 rfl ?_
        cases hf
        exact jEndI C hQ rfl dX9_count_65
      replace hf := itn hf c6
      by_cases c7 : p1 = (1 : Int32)
      · replace hf := itp hf c7
        refine jTabIn C 66 dX9_count_34 (by rw [c7]; decide) (by rw [c7]; decide) (by rw [c7]; rfl) (by decide) ?_
        refine jAloadn C dX9_count_66 rfl 0 rfl ?_
        refine gf_RX9_85 C dX9_count_67 ?_
        cases hf
        exact jEndI C hQ rfl dX9_count_70
      replace hf := itn hf c7
      by_cases c8 : p1 = (2 : Int32)
      · replace hf := itp hf c8
        refine jTabIn C 71 dX9_count_34 (by rw [c8]; decide) (by rw [c8]; decide) (by rw [c8]; rfl) (by decide) ?_
        refine jAloadn C dX9_count_71 rfl 0 rfl ?_
        refine gf_RX9_100 C dX9_count_72 ?_
        cases hf
        exact jEndI C hQ rfl dX9_count_75
      replace hf := itn hf c8
      by_cases c9 : p1 = (3 : Int32)
      · replace hf := itp hf c9
        refine jTabIn C 76 dX9_count_34 (by rw [c9]; decide) (by rw [c9]; decide) (by rw [c9]; rfl) (by decide) ?_
        refine jAloadn C dX9_count_76 rfl 0 rfl ?_
        refine gf_RX9_191 C dX9_count_77 ?_
        cases hf
        exact jEndI C hQ rfl dX9_count_80
      replace hf := itn hf c9
      refine jTabOut C 81 dX9_count_34 (by have ac6 := lv_neT (a := 0) c6 (by decide); have ac7 := lv_neT (a := 1) c7 (by decide); have ac8 := lv_neT (a := 2) c8 (by decide); have ac9 := lv_neT (a := 3) c9 (by decide); omega) (by decide) ?_
      refine jIconst C (-1 : Int32) dX9_count_81 ki_m1 ?_
      cases hf
      exact jEndI C hQ rfl dX9_count_82
    · replace hf := itn hf c5
      refine jIloadn C dX9_count_9 rfl 2 rfl ?_
      refine jAloadn C dX9_count_10 rfl 0 rfl ?_
      refine jIloadn C dX9_count_11 rfl 3 rfl ?_
      obtain ⟨q10, e11, hf⟩ := bd1_some hf
      refine jVI C (X9_hasOne_ok  e11) vb_X9_hasOne mk_RX9_75 rfl rcM ⟨Nat.le_of_ble_eq_true rfl, Nat.le_of_ble_eq_true rfl⟩ rfl (Nat.le_of_ble_eq_true rfl) dX9_count_12 ?_
      refine jIfEq C 24 dX9_count_15 (by decide) (fun c12 => ?_) (fun c12 => ?_)
      · replace hf := itp hf c12
        refine jIconst C (0 : Int32) dX9_count_24 ki_0 ?_
        refine jIor C dX9_count_25 ?_
        refine jIstoren C dX9_count_26 rfl (Nat.le_of_ble_eq_true rfl) [(2, .int (x2_1 ||| (0 : Int32))), (0, .ref (h 0)), (1, .int p1), (3, .int x3_2)] rfl ?_
        refine jIinc C (x3_2 + (1 : Int32)) dX9_count_27 3 rfl (congrArg (fun z : Int32 => x3_2 + z) ki_1) (Nat.le_of_ble_eq_true rfl) [(3, .int (x3_2 + (1 : Int32))), (2, .int (x2_1 ||| (0 : Int32))), (0, .ref (h 0)), (1, .int p1)] rfl ?_
        refine jGoto C 4 dX9_count_30 (by decide) ?_
        refine jSub [2, 3, 1, 0] rfl ?_
        exact ir4 (x2_1 ||| (0 : Int32)) (x3_2 + (1 : Int32)) hf
      · replace hf := itn hf c12
        refine jIconst C (1 : Int32) dX9_count_18 ki_1 ?_
        refine jIloadn C dX9_count_19 rfl 3 rfl ?_
        refine jIshl C dX9_count_20 ?_
        refine jGoto C 25 dX9_count_21 (by decide) ?_
        refine jIor C dX9_count_25 ?_
        refine jIstoren C dX9_count_26 rfl (Nat.le_of_ble_eq_true rfl) [(2, .int (x2_1 ||| ((1 : Int32) <<< (x3_2 &&& 31)))), (0, .ref (h 0)), (1, .int p1), (3, .int x3_2)] rfl ?_
        refine jIinc C (x3_2 + (1 : Int32)) dX9_count_27 3 rfl (congrArg (fun z : Int32 => x3_2 + z) ki_1) (Nat.le_of_ble_eq_true rfl) [(3, .int (x3_2 + (1 : Int32))), (2, .int (x2_1 ||| ((1 : Int32) <<< (x3_2 &&& 31)))), (0, .ref (h 0)), (1, .int p1)] rfl ?_
        refine jGoto C 4 dX9_count_30 (by decide) ?_
        refine jSub [2, 3, 1, 0] rfl ?_
        exact ir4 (x2_1 ||| ((1 : Int32) <<< (x3_2 &&& 31))) (x3_2 + (1 : Int32)) hf
  refine jSub [2, 3, 1, 0] rfl ?_
  exact hL3 (0 : Int32) (0 : Int32) hf
noncomputable def X9_isBut (mnow : Nat → Int32) (p1 : Int32) (p2 : Int32) (p3 : Int32) : Option Int32 := (if p2 = p3 then some (0 : Int32) else bd1 (X9_isIn mnow p1 p2) (fun q2 => (if q2 = (0 : Int32) then some (0 : Int32) else some (1 : Int32))))
set_option maxHeartbeats 4000000 in
set_option maxRecDepth 20000 in
theorem X9_isBut_ok {p1 : Int32} {p2 : Int32} {p3 : Int32} {rr : Int32}  (hf : X9_isBut mnow p1 p2 p3 = some rr) : MT yX9_isBut cX9_isBut 4 (some .boolean) 2 [.ref (h 0), .int p1, .int p2, .int p3] D cy G (mw h cy mthr mfrp mact mtpd msiz matx mfrm mtok mval mfk mfpl mbem mtrs mtrl mrom mtom mnow mfre mkep mtap mlef mtak mbes mrow mint mrnd mplo mhio mtox mtol) (mw h cy mthr mfrp mact mtpd msiz matx mfrm mtok mval mfk mfpl mbem mtrs mtrl mrom mtom mnow mfre mkep mtap mlef mtak mbes mrow mint mrnd mplo mhio mtox mtol) (some (.int rr)) := by
  refine MT.go (own := RX9) [(0, .ref (h 0)), (1, .int p1), (2, .int p2), (3, .int p3)] (by decide) rfl (Nat.le_of_ble_eq_true rfl) rfl (fun p l e s m args below meth c A Q C hQ => ?_)
  unfold X9_isBut at hf
  refine jIloadn C dX9_isBut_0 rfl 2 rfl ?_
  refine jIloadn C dX9_isBut_1 rfl 3 rfl ?_
  refine jCmpEq C 18 dX9_isBut_2 (by decide) (fun c1 => ?_) (fun c1 => ?_)
  · replace hf := itp hf c1
    refine jIconst C (0 : Int32) dX9_isBut_18 ki_0 ?_
    cases hf
    exact jEndIZ C hQ rfl nar_z0 dX9_isBut_19
  · replace hf := itn hf c1
    refine jAloadn C dX9_isBut_5 rfl 0 rfl ?_
    refine jIloadn C dX9_isBut_6 rfl 1 rfl ?_
    refine jIloadn C dX9_isBut_7 rfl 2 rfl ?_
    obtain ⟨q2, e3, hf⟩ := bd1_some hf
    refine jVI C (X9_isIn_ok  e3) vb_X9_isIn mk_RX9_81 rfl rcM ⟨Nat.le_of_ble_eq_true rfl, Nat.le_of_ble_eq_true rfl⟩ rfl (Nat.le_of_ble_eq_true rfl) dX9_isBut_8 ?_
    refine jIfEq C 18 dX9_isBut_11 (by decide) (fun c4 => ?_) (fun c4 => ?_)
    · replace hf := itp hf c4
      refine jIconst C (0 : Int32) dX9_isBut_18 ki_0 ?_
      cases hf
      exact jEndIZ C hQ rfl nar_z0 dX9_isBut_19
    · replace hf := itn hf c4
      refine jIconst C (1 : Int32) dX9_isBut_14 ki_1 ?_
      refine jGoto C 19 dX9_isBut_15 (by decide) ?_
      cases hf
      exact jEndIZ C hQ rfl nar_z1 dX9_isBut_19
noncomputable def X9_looked_h109 (x10_9 : Int32) (r11 : Int32 → Int32 → Int32 → Int32 → Int32 → Int32 → Int32 → Option Int32) (x4_3 : Int32) (y24 : Int32) (x6_5 : Int32) (q26 : Int32) (x7_6 : Int32) (x8_7 : Int32) (mnow : Nat → Int32) (p1 : Int32) (p3 : Int32) (r31 : Int32 → Int32 → Option Int32) (x9_28 : Int32) (x11_29 : Int32) : Option Int32 := (if x10_9 ≤ x11_29 then r11 (x4_3 + (1 : Int32)) y24 (imax x6_5 q26) (x7_6 ||| x10_9) (x8_7 &&& x10_9) x9_28 (x10_9 + (1 : Int32)) else bd1 (X9_isBut mnow p1 x11_29 p3) (fun q33 => (if q33 = (0 : Int32) then r31 (x9_28 + (0 : Int32)) (x11_29 + (1 : Int32)) else (if (x10_9 &&& x11_29) = (0 : Int32) then r31 (x9_28 + (1 : Int32)) (x11_29 + (1 : Int32)) else r31 (x9_28 + (0 : Int32)) (x11_29 + (1 : Int32))))))
noncomputable def X9_looked_j78 (x10_9 : Int32) (r11 : Int32 → Int32 → Int32 → Int32 → Int32 → Int32 → Int32 → Option Int32) (x4_3 : Int32) (x6_5 : Int32) (x7_6 : Int32) (x8_7 : Int32) (mnow : Nat → Int32) (p1 : Int32) (p3 : Int32) (x9_8 : Int32) (y24 : Int32) : Option Int32 := bd1 (X9_bits x10_9) (fun q26 => lfp2 (X9_looked_h109 x10_9 r11 x4_3 y24 x6_5 q26 x7_6 x8_7 mnow p1 p3) x9_8 (0 : Int32))
noncomputable def X9_looked_h29 (p2 : Int32) (mnow : Nat → Int32) (p1 : Int32) (p3 : Int32) (r11 : Int32 → Int32 → Int32 → Int32 → Int32 → Int32 → Int32 → Option Int32) (x4_3 : Int32) (x5_4 : Int32) (x6_5 : Int32) (x7_6 : Int32) (x8_7 : Int32) (x9_8 : Int32) (x10_9 : Int32) : Option Int32 := (if (128 : Int32) ≤ x10_9 then (if p2 = (0 : Int32) then bd1 (X9_points mnow p1) (fun q14 => some q14) else (if p2 = (1 : Int32) then some x4_3 else (if p2 = (2 : Int32) then some x5_4 else (if p2 = (3 : Int32) then some x6_5 else (if p2 = (4 : Int32) then some x7_6 else (if p2 = (5 : Int32) then some x8_7 else some x9_8)))))) else bd1 (X9_isBut mnow p1 x10_9 p3) (fun q21 => (if q21 = (0 : Int32) then r11 x4_3 x5_4 x6_5 x7_6 x8_7 x9_8 (x10_9 + (1 : Int32)) else (if x5_4 = (-1 : Int32) then bd1 (X9_bits x10_9) (fun q40 => X9_looked_j78 x10_9 r11 x4_3 x6_5 x7_6 x8_7 mnow p1 p3 x9_8 q40) else bd1 (X9_bits x10_9) (fun q38 => X9_looked_j78 x10_9 r11 x4_3 x6_5 x7_6 x8_7 mnow p1 p3 x9_8 (imin x5_4 q38))))))
noncomputable def X9_looked (mnow : Nat → Int32) (p1 : Int32) (p2 : Int32) (p3 : Int32) : Option Int32 := bd1 (X9_points mnow p1) (fun q1 => lfp7 (X9_looked_h29 p2 mnow p1 p3) (0 : Int32) (-1 : Int32) (-1 : Int32) (0 : Int32) (((1 : Int32) <<< (q1 &&& 31)) - (1 : Int32)) (0 : Int32) (0 : Int32))
set_option maxHeartbeats 4000000 in
set_option maxRecDepth 20000 in
theorem X9_looked_ok {p1 : Int32} {p2 : Int32} {p3 : Int32} {rr : Int32}  (hf : X9_looked mnow p1 p2 p3 = some rr) : MT yX9_looked cX9_looked 12 (some .int) 3 [.ref (h 0), .int p1, .int p2, .int p3] D cy G (mw h cy mthr mfrp mact mtpd msiz matx mfrm mtok mval mfk mfpl mbem mtrs mtrl mrom mtom mnow mfre mkep mtap mlef mtak mbes mrow mint mrnd mplo mhio mtox mtol) (mw h cy mthr mfrp mact mtpd msiz matx mfrm mtok mval mfk mfpl mbem mtrs mtrl mrom mtom mnow mfre mkep mtap mlef mtak mbes mrow mint mrnd mplo mhio mtox mtol) (some (.int rr)) := by
  refine MT.go (own := RX9) [(0, .ref (h 0)), (1, .int p1), (2, .int p2), (3, .int p3)] (by decide) rfl (Nat.le_of_ble_eq_true rfl) rfl (fun p l e s m args below meth c A Q C hQ => ?_)
  unfold X9_looked at hf
  refine jIconst C (0 : Int32) dX9_looked_0 ki_0 ?_
  refine jIstore C dX9_looked_1 (Nat.le_of_ble_eq_true rfl) [(4, .int (0 : Int32)), (0, .ref (h 0)), (1, .int p1), (2, .int p2), (3, .int p3)] rfl ?_
  refine jIconst C (-1 : Int32) dX9_looked_3 ki_m1 ?_
  refine jIstore C dX9_looked_4 (Nat.le_of_ble_eq_true rfl) [(5, .int (-1 : Int32)), (4, .int (0 : Int32)), (0, .ref (h 0)), (1, .int p1), (2, .int p2), (3, .int p3)] rfl ?_
  refine jIconst C (-1 : Int32) dX9_looked_6 ki_m1 ?_
  refine jIstore C dX9_looked_7 (Nat.le_of_ble_eq_true rfl) [(6, .int (-1 : Int32)), (5, .int (-1 : Int32)), (4, .int (0 : Int32)), (0, .ref (h 0)), (1, .int p1), (2, .int p2), (3, .int p3)] rfl ?_
  refine jIconst C (0 : Int32) dX9_looked_9 ki_0 ?_
  refine jIstore C dX9_looked_10 (Nat.le_of_ble_eq_true rfl) [(7, .int (0 : Int32)), (6, .int (-1 : Int32)), (5, .int (-1 : Int32)), (4, .int (0 : Int32)), (0, .ref (h 0)), (1, .int p1), (2, .int p2), (3, .int p3)] rfl ?_
  refine jIconst C (1 : Int32) dX9_looked_12 ki_1 ?_
  refine jAloadn C dX9_looked_13 rfl 4 rfl ?_
  refine jIloadn C dX9_looked_14 rfl 5 rfl ?_
  obtain ⟨q1, e2, hf⟩ := bd1_some hf
  refine jVI C (X9_points_ok  e2) vb_X9_points mk_RX9_78 rfl rcM ⟨Nat.le_of_ble_eq_true rfl, Nat.le_of_ble_eq_true rfl⟩ rfl (Nat.le_of_ble_eq_true rfl) dX9_looked_15 ?_
  refine jIshl C dX9_looked_18 ?_
  refine jIconst C (1 : Int32) dX9_looked_19 ki_1 ?_
  refine jIsub C dX9_looked_20 ?_
  refine jIstore C dX9_looked_21 (Nat.le_of_ble_eq_true rfl) [(8, .int (((1 : Int32) <<< (q1 &&& 31)) - (1 : Int32))), (7, .int (0 : Int32)), (6, .int (-1 : Int32)), (5, .int (-1 : Int32)), (4, .int (0 : Int32)), (0, .ref (h 0)), (1, .int p1), (2, .int p2), (3, .int p3)] rfl ?_
  refine jIconst C (0 : Int32) dX9_looked_23 ki_0 ?_
  refine jIstore C dX9_looked_24 (Nat.le_of_ble_eq_true rfl) [(9, .int (0 : Int32)), (8, .int (((1 : Int32) <<< (q1 &&& 31)) - (1 : Int32))), (7, .int (0 : Int32)), (6, .int (-1 : Int32)), (5, .int (-1 : Int32)), (4, .int (0 : Int32)), (0, .ref (h 0)), (1, .int p1), (2, .int p2), (3, .int p3)] rfl ?_
  refine jIconst C (0 : Int32) dX9_looked_26 ki_0 ?_
  refine jIstore C dX9_looked_27 (Nat.le_of_ble_eq_true rfl) [(10, .int (0 : Int32)), (9, .int (0 : Int32)), (8, .int (((1 : Int32) <<< (q1 &&& 31)) - (1 : Int32))), (7, .int (0 : Int32)), (6, .int (-1 : Int32)), (5, .int (-1 : Int32)), (4, .int (0 : Int32)), (0, .ref (h 0)), (1, .int p1), (2, .int p2), (3, .int p3)] rfl ?_
  have hL10 : ∀ (x4_3 : Int32) (x5_4 : Int32) (x6_5 : Int32) (x7_6 : Int32) (x8_7 : Int32) (x9_8 : Int32) (x10_9 : Int32), lfp7 (X9_looked_h29 p2 mnow p1 p3) x4_3 x5_4 x6_5 x7_6 x8_7 x9_8 x10_9 = some rr → J p l e (rmk 3) s m args below meth c D A Q 12 (mw h cy mthr mfrp mact mtpd msiz matx mfrm mtok mval mfk mfpl mbem mtrs mtrl mrom mtom mnow mfre mkep mtap mlef mtak mbes mrow mint mrnd mplo mhio mtox mtol) 29 [(0, .ref (h 0)), (1, .int p1), (2, .int p2), (3, .int p3), (4, .int x4_3), (5, .int x5_4), (6, .int x6_5), (7, .int x7_6), (8, .int x8_7), (9, .int x9_8), (10, .int x10_9)] [] := by
    intro x4_3 x5_4 x6_5 x7_6 x8_7 x9_8 x10_9 hw
    refine lfp7_walk (P := fun x4_3 x5_4 x6_5 x7_6 x8_7 x9_8 x10_9 => J p l e (rmk 3) s m args below meth c D A Q 12 (mw h cy mthr mfrp mact mtpd msiz matx mfrm mtok mval mfk mfpl mbem mtrs mtrl mrom mtom mnow mfre mkep mtap mlef mtak mbes mrow mint mrnd mplo mhio mtox mtol) 29 [(0, .ref (h 0)), (1, .int p1), (2, .int p2), (3, .int p3), (4, .int x4_3), (5, .int x5_4), (6, .int x6_5), (7, .int x7_6), (8, .int x8_7), (9, .int x9_8), (10, .int x10_9)] []) ?_ hw
    intro r11 ir11 x4_3 x5_4 x6_5 x7_6 x8_7 x9_8 x10_9 hf
    unfold X9_looked_h29 at hf
    refine jIload C dX9_looked_29 10 rfl ?_
    refine jSipush C (128 : Int32) dX9_looked_31 ks_128 ?_
    refine jCmpGe C 157 dX9_looked_34 (by decide) (fun c12 => ?_) (fun c12 => ?_)
    · replace hf := itp hf c12
      refine jIloadn C dX9_looked_157 rfl 2 rfl ?_
      by_cases c13 : p2 = (0 : Int32)
      · replace hf := itp hf c13
        refine jTabIn C 196 dX9_looked_158 (by rw [c13]; decide) (by rw [c13]; decide) (by rw [c13]; rfl) (by decide) ?_
        refine jAloadn C dX9_looked_196 rfl 0 rfl ?_
        refine jIloadn C dX9_looked_197 rfl 1 rfl ?_
        obtain ⟨q14, e15, hf⟩ := bd1_some hf
        refine jVI C (X9_points_ok  e15) vb_X9_points mk_RX9_78 rfl rcM ⟨Nat.le_of_ble_eq_true rfl, Nat.le_of_ble_eq_true rfl⟩ rfl (Nat.le_of_ble_eq_true rfl) dX9_looked_198 ?_
        cases hf
        exact jEndI C hQ rfl dX9_looked_201
      replace hf := itn hf c13
      by_cases c16 : p2 = (1 : Int32)
      · replace hf := itp hf c16
        refine jTabIn C 202 dX9_looked_158 (by rw [c16]; decide) (by rw [c16]; decide) (by rw [c16]; rfl) (by decide) ?_
        refine jIload C dX9_looked_202 4 rfl ?_
        cases hf
        exact jEndI C hQ rfl dX9_looked_204
      replace hf := itn hf c16
      by_cases c17 : p2 = (2 : Int32)
      · replace hf := itp hf c17
        refine jTabIn C 205 dX9_looked_158 (by rw [c17]; decide) (by rw [c17]; decide) (by rw [c17]; rfl) (by decide) ?_
        refine jIload C dX9_looked_205 5 rfl ?_
        cases hf
        exact jEndI C hQ rfl dX9_looked_207
      replace hf := itn hf c17
      by_cases c18 : p2 = (3 : Int32)
      · replace hf := itp hf c18
        refine jTabIn C 208 dX9_looked_158 (by rw [c18]; decide) (by rw [c18]; decide) (by rw [c18]; rfl) (by decide) ?_
        refine jIload C dX9_looked_208 6 rfl ?_
        cases hf
        exact jEndI C hQ rfl dX9_looked_210
      replace hf := itn hf c18
      by_cases c19 : p2 = (4 : Int32)
      · replace hf := itp hf c19
        refine jTabIn C 211 dX9_looked_158 (by rw [c19]; decide) (by rw [c19]; decide) (by rw [c19]; rfl) (by decide) ?_
        refine jIload C dX9_looked_211 7 rfl ?_
        cases hf
        exact jEndI C hQ rfl dX9_looked_213
      replace hf := itn hf c19
      by_cases c20 : p2 = (5 : Int32)
      · replace hf := itp hf c20
        refine jTabIn C 214 dX9_looked_158 (by rw [c20]; decide) (by rw [c20]; decide) (by rw [c20]; rfl) (by decide) ?_
        refine jIload C dX9_looked_214 8 rfl ?_
        cases hf
        exact jEndI C hQ rfl dX9_looked_216
      replace hf := itn hf c20
      refine jTabOut C 217 dX9_looked_158 (by have ac13 := lv_neT (a := 0) c13 (by decide); have ac16 := lv_neT (a := 1) c16 (by decide); have ac17 := lv_neT (a := 2) c17 (by decide); have ac18 := lv_neT (a := 3) c18 (by decide); have ac19 := lv_neT (a := 4) c19 (by decide); have ac20 := lv_neT (a := 5) c20 (by decide); omega) (by decide) ?_
      refine jIload C dX9_looked_217 9 rfl ?_
      cases hf
      exact jEndI C hQ rfl dX9_looked_219
    · replace hf := itn hf c12
      refine jAloadn C dX9_looked_37 rfl 0 rfl ?_
      refine jIloadn C dX9_looked_38 rfl 1 rfl ?_
      refine jIload C dX9_looked_39 10 rfl ?_
      refine jIloadn C dX9_looked_41 rfl 3 rfl ?_
      obtain ⟨q21, e22, hf⟩ := bd1_some hf
      refine jVI C (X9_isBut_ok  e22) vb_X9_isBut mk_RX9_194 rfl rcM ⟨Nat.le_of_ble_eq_true rfl, Nat.le_of_ble_eq_true rfl⟩ rfl (Nat.le_of_ble_eq_true rfl) dX9_looked_42 ?_
      refine jIfNe C 51 dX9_looked_45 (by decide) (fun c23 => ?_) (fun c23 => ?_)
      · replace hf := itn hf c23
        refine jIinc C (x4_3 + (1 : Int32)) dX9_looked_51 4 rfl (congrArg (fun z : Int32 => x4_3 + z) ki_1) (Nat.le_of_ble_eq_true rfl) [(4, .int (x4_3 + (1 : Int32))), (0, .ref (h 0)), (1, .int p1), (2, .int p2), (3, .int p3), (5, .int x5_4), (6, .int x6_5), (7, .int x7_6), (8, .int x8_7), (9, .int x9_8), (10, .int x10_9)] rfl ?_
        refine jIload C dX9_looked_54 5 rfl ?_
        refine jIconst C (-1 : Int32) dX9_looked_56 ki_m1 ?_
        have hL25 : ∀ (y24 : Int32), X9_looked_j78 x10_9 r11 x4_3 x6_5 x7_6 x8_7 mnow p1 p3 x9_8 y24 = some rr → J p l e (rmk 3) s m args below meth c D A Q 12 (mw h cy mthr mfrp mact mtpd msiz matx mfrm mtok mval mfk mfpl mbem mtrs mtrl mrom mtom mnow mfre mkep mtap mlef mtak mbes mrow mint mrnd mplo mhio mtox mtol) 78 [(0, .ref (h 0)), (1, .int p1), (2, .int p2), (3, .int p3), (4, .int (x4_3 + (1 : Int32))), (6, .int x6_5), (7, .int x7_6), (8, .int x8_7), (9, .int x9_8), (10, .int x10_9)] [.int y24] := by
          intro y24 hf
          unfold X9_looked_j78 at hf
          refine jIstore C dX9_looked_78 (Nat.le_of_ble_eq_true rfl) [(5, .int y24), (0, .ref (h 0)), (1, .int p1), (2, .int p2), (3, .int p3), (4, .int (x4_3 + (1 : Int32))), (6, .int x6_5), (7, .int x7_6), (8, .int x8_7), (9, .int x9_8), (10, .int x10_9)] rfl ?_
          refine jIload C dX9_looked_80 6 rfl ?_
          refine jIload C dX9_looked_82 10 rfl ?_
          obtain ⟨q26, e27, hf⟩ := bd1_some hf
          refine jSI C (X9_bits_ok  e27) sb_X9_bits mk_RX9_198 rfl ⟨Nat.le_of_ble_eq_true rfl, Nat.le_of_ble_eq_true rfl⟩ rfl (Nat.le_of_ble_eq_true rfl) dX9_looked_84 ?_
          refine jMax C mk_RX9_201 ⟨Nat.le_of_ble_eq_true rfl, Nat.le_of_ble_eq_true rfl⟩ dX9_looked_87 ?_
          refine jIstore C dX9_looked_90 (Nat.le_of_ble_eq_true rfl) [(6, .int (imax x6_5 q26)), (5, .int y24), (0, .ref (h 0)), (1, .int p1), (2, .int p2), (3, .int p3), (4, .int (x4_3 + (1 : Int32))), (7, .int x7_6), (8, .int x8_7), (9, .int x9_8), (10, .int x10_9)] rfl ?_
          refine jIload C dX9_looked_92 7 rfl ?_
          refine jIload C dX9_looked_94 10 rfl ?_
          refine jIor C dX9_looked_96 ?_
          refine jIstore C dX9_looked_97 (Nat.le_of_ble_eq_true rfl) [(7, .int (x7_6 ||| x10_9)), (6, .int (imax x6_5 q26)), (5, .int y24), (0, .ref (h 0)), (1, .int p1), (2, .int p2), (3, .int p3), (4, .int (x4_3 + (1 : Int32))), (8, .int x8_7), (9, .int x9_8), (10, .int x10_9)] rfl ?_
          refine jIload C dX9_looked_99 8 rfl ?_
          refine jIload C dX9_looked_101 10 rfl ?_
          refine jIand C dX9_looked_103 ?_
          refine jIstore C dX9_looked_104 (Nat.le_of_ble_eq_true rfl) [(8, .int (x8_7 &&& x10_9)), (7, .int (x7_6 ||| x10_9)), (6, .int (imax x6_5 q26)), (5, .int y24), (0, .ref (h 0)), (1, .int p1), (2, .int p2), (3, .int p3), (4, .int (x4_3 + (1 : Int32))), (9, .int x9_8), (10, .int x10_9)] rfl ?_
          refine jIconst C (0 : Int32) dX9_looked_106 ki_0 ?_
          refine jIstore C dX9_looked_107 (Nat.le_of_ble_eq_true rfl) [(11, .int (0 : Int32)), (8, .int (x8_7 &&& x10_9)), (7, .int (x7_6 ||| x10_9)), (6, .int (imax x6_5 q26)), (5, .int y24), (0, .ref (h 0)), (1, .int p1), (2, .int p2), (3, .int p3), (4, .int (x4_3 + (1 : Int32))), (9, .int x9_8), (10, .int x10_9)] rfl ?_
          have hL30 : ∀ (x9_28 : Int32) (x11_29 : Int32), lfp2 (X9_looked_h109 x10_9 r11 x4_3 y24 x6_5 q26 x7_6 x8_7 mnow p1 p3) x9_28 x11_29 = some rr → J p l e (rmk 3) s m args below meth c D A Q 12 (mw h cy mthr mfrp mact mtpd msiz matx mfrm mtok mval mfk mfpl mbem mtrs mtrl mrom mtom mnow mfre mkep mtap mlef mtak mbes mrow mint mrnd mplo mhio mtox mtol) 109 [(0, .ref (h 0)), (1, .int p1), (2, .int p2), (3, .int p3), (4, .int (x4_3 + (1 : Int32))), (5, .int y24), (6, .int (imax x6_5 q26)), (7, .int (x7_6 ||| x10_9)), (8, .int (x8_7 &&& x10_9)), (9, .int x9_28), (10, .int x10_9), (11, .int x11_29)] [] := by
            intro x9_28 x11_29 hw
            refine lfp2_walk (P := fun x9_28 x11_29 => J p l e (rmk 3) s m args below meth c D A Q 12 (mw h cy mthr mfrp mact mtpd msiz matx mfrm mtok mval mfk mfpl mbem mtrs mtrl mrom mtom mnow mfre mkep mtap mlef mtak mbes mrow mint mrnd mplo mhio mtox mtol) 109 [(0, .ref (h 0)), (1, .int p1), (2, .int p2), (3, .int p3), (4, .int (x4_3 + (1 : Int32))), (5, .int y24), (6, .int (imax x6_5 q26)), (7, .int (x7_6 ||| x10_9)), (8, .int (x8_7 &&& x10_9)), (9, .int x9_28), (10, .int x10_9), (11, .int x11_29)] []) ?_ hw
            intro r31 ir31 x9_28 x11_29 hf
            unfold X9_looked_h109 at hf
            refine jIload C dX9_looked_109 11 rfl ?_
            refine jIload C dX9_looked_111 10 rfl ?_
            refine jCmpGe C 151 dX9_looked_113 (by decide) (fun c32 => ?_) (fun c32 => ?_)
            · replace hf := itp hf c32
              refine jIinc C (x10_9 + (1 : Int32)) dX9_looked_151 10 rfl (congrArg (fun z : Int32 => x10_9 + z) ki_1) (Nat.le_of_ble_eq_true rfl) [(10, .int (x10_9 + (1 : Int32))), (0, .ref (h 0)), (1, .int p1), (2, .int p2), (3, .int p3), (4, .int (x4_3 + (1 : Int32))), (5, .int y24), (6, .int (imax x6_5 q26)), (7, .int (x7_6 ||| x10_9)), (8, .int (x8_7 &&& x10_9)), (9, .int x9_28), (11, .int x11_29)] rfl ?_
              refine jGoto C 29 dX9_looked_154 (by decide) ?_
              refine jSub [1, 2, 3, 4, 5, 6, 7, 8, 9, 10, 0] rfl ?_
              exact ir11 (x4_3 + (1 : Int32)) y24 (imax x6_5 q26) (x7_6 ||| x10_9) (x8_7 &&& x10_9) x9_28 (x10_9 + (1 : Int32)) hf
            · replace hf := itn hf c32
              refine jIload C dX9_looked_116 9 rfl ?_
              refine jAloadn C dX9_looked_118 rfl 0 rfl ?_
              refine jIloadn C dX9_looked_119 rfl 1 rfl ?_
              refine jIload C dX9_looked_120 11 rfl ?_
              refine jIloadn C dX9_looked_122 rfl 3 rfl ?_
              obtain ⟨q33, e34, hf⟩ := bd1_some hf
              refine jVI C (X9_isBut_ok  e34) vb_X9_isBut mk_RX9_194 rfl rcM ⟨Nat.le_of_ble_eq_true rfl, Nat.le_of_ble_eq_true rfl⟩ rfl (Nat.le_of_ble_eq_true rfl) dX9_looked_123 ?_
              refine jIfEq C 141 dX9_looked_126 (by decide) (fun c35 => ?_) (fun c35 => ?_)
              · replace hf := itp hf c35
                refine jIconst C (0 : Int32) dX9_looked_141 ki_0 ?_
                refine jIadd C dX9_looked_142 ?_
                refine jIstore C dX9_looked_143 (Nat.le_of_ble_eq_true rfl) [(9, .int (x9_28 + (0 : Int32))), (0, .ref (h 0)), (1, .int p1), (2, .int p2), (3, .int p3), (4, .int (x4_3 + (1 : Int32))), (5, .int y24), (6, .int (imax x6_5 q26)), (7, .int (x7_6 ||| x10_9)), (8, .int (x8_7 &&& x10_9)), (10, .int x10_9), (11, .int x11_29)] rfl ?_
                refine jIinc C (x11_29 + (1 : Int32)) dX9_looked_145 11 rfl (congrArg (fun z : Int32 => x11_29 + z) ki_1) (Nat.le_of_ble_eq_true rfl) [(11, .int (x11_29 + (1 : Int32))), (9, .int (x9_28 + (0 : Int32))), (0, .ref (h 0)), (1, .int p1), (2, .int p2), (3, .int p3), (4, .int (x4_3 + (1 : Int32))), (5, .int y24), (6, .int (imax x6_5 q26)), (7, .int (x7_6 ||| x10_9)), (8, .int (x8_7 &&& x10_9)), (10, .int x10_9)] rfl ?_
                refine jGoto C 109 dX9_looked_148 (by decide) ?_
                refine jSub [2, 3, 4, 5, 6, 7, 8, 9, 10, 1, 11, 0] rfl ?_
                exact ir31 (x9_28 + (0 : Int32)) (x11_29 + (1 : Int32)) hf
              · replace hf := itn hf c35
                refine jIload C dX9_looked_129 10 rfl ?_
                refine jIload C dX9_looked_131 11 rfl ?_
                refine jIand C dX9_looked_133 ?_
                refine jIfNe C 141 dX9_looked_134 (by decide) (fun c36 => ?_) (fun c36 => ?_)
                · replace hf := itn hf c36
                  refine jIconst C (0 : Int32) dX9_looked_141 ki_0 ?_
                  refine jIadd C dX9_looked_142 ?_
                  refine jIstore C dX9_looked_143 (Nat.le_of_ble_eq_true rfl) [(9, .int (x9_28 + (0 : Int32))), (0, .ref (h 0)), (1, .int p1), (2, .int p2), (3, .int p3), (4, .int (x4_3 + (1 : Int32))), (5, .int y24), (6, .int (imax x6_5 q26)), (7, .int (x7_6 ||| x10_9)), (8, .int (x8_7 &&& x10_9)), (10, .int x10_9), (11, .int x11_29)] rfl ?_
                  refine jIinc C (x11_29 + (1 : Int32)) dX9_looked_145 11 rfl (congrArg (fun z : Int32 => x11_29 + z) ki_1) (Nat.le_of_ble_eq_true rfl) [(11, .int (x11_29 + (1 : Int32))), (9, .int (x9_28 + (0 : Int32))), (0, .ref (h 0)), (1, .int p1), (2, .int p2), (3, .int p3), (4, .int (x4_3 + (1 : Int32))), (5, .int y24), (6, .int (imax x6_5 q26)), (7, .int (x7_6 ||| x10_9)), (8, .int (x8_7 &&& x10_9)), (10, .int x10_9)] rfl ?_
                  refine jGoto C 109 dX9_looked_148 (by decide) ?_
                  refine jSub [2, 3, 4, 5, 6, 7, 8, 9, 10, 1, 11, 0] rfl ?_
                  exact ir31 (x9_28 + (0 : Int32)) (x11_29 + (1 : Int32)) hf
                · replace hf := itp hf c36
                  refine jIconst C (1 : Int32) dX9_looked_137 ki_1 ?_
                  refine jGoto C 142 dX9_looked_138 (by decide) ?_
                  refine jIadd C dX9_looked_142 ?_
                  refine jIstore C dX9_looked_143 (Nat.le_of_ble_eq_true rfl) [(9, .int (x9_28 + (1 : Int32))), (0, .ref (h 0)), (1, .int p1), (2, .int p2), (3, .int p3), (4, .int (x4_3 + (1 : Int32))), (5, .int y24), (6, .int (imax x6_5 q26)), (7, .int (x7_6 ||| x10_9)), (8, .int (x8_7 &&& x10_9)), (10, .int x10_9), (11, .int x11_29)] rfl ?_
                  refine jIinc C (x11_29 + (1 : Int32)) dX9_looked_145 11 rfl (congrArg (fun z : Int32 => x11_29 + z) ki_1) (Nat.le_of_ble_eq_true rfl) [(11, .int (x11_29 + (1 : Int32))), (9, .int (x9_28 + (1 : Int32))), (0, .ref (h 0)), (1, .int p1), (2, .int p2), (3, .int p3), (4, .int (x4_3 + (1 : Int32))), (5, .int y24), (6, .int (imax x6_5 q26)), (7, .int (x7_6 ||| x10_9)), (8, .int (x8_7 &&& x10_9)), (10, .int x10_9)] rfl ?_
                  refine jGoto C 109 dX9_looked_148 (by decide) ?_
                  refine jSub [2, 3, 4, 5, 6, 7, 8, 9, 10, 1, 11, 0] rfl ?_
                  exact ir31 (x9_28 + (1 : Int32)) (x11_29 + (1 : Int32)) hf
          refine jSub [5, 6, 7, 8, 9, 4, 3, 2, 1, 10, 11, 0] rfl ?_
          exact hL30 x9_8 (0 : Int32) hf
        refine jCmpNe C 68 dX9_looked_57 (by decide) (fun c37 => ?_) (fun c37 => ?_)
        · replace hf := itn hf c37
          refine jIload C dX9_looked_68 5 rfl ?_
          refine jIload C dX9_looked_70 10 rfl ?_
          obtain ⟨q38, e39, hf⟩ := bd1_some hf
          refine jSI C (X9_bits_ok  e39) sb_X9_bits mk_RX9_198 rfl ⟨Nat.le_of_ble_eq_true rfl, Nat.le_of_ble_eq_true rfl⟩ rfl (Nat.le_of_ble_eq_true rfl) dX9_looked_72 ?_
          refine jMin C mk_RX9_140 ⟨Nat.le_of_ble_eq_true rfl, Nat.le_of_ble_eq_true rfl⟩ dX9_looked_75 ?_
          refine jSub [1, 2, 3, 4, 0, 6, 7, 8, 9, 10] rfl ?_
          exact hL25 (imin x5_4 q38) hf
        · replace hf := itp hf c37
          refine jIload C dX9_looked_60 10 rfl ?_
          obtain ⟨q40, e41, hf⟩ := bd1_some hf
          refine jSI C (X9_bits_ok  e41) sb_X9_bits mk_RX9_198 rfl ⟨Nat.le_of_ble_eq_true rfl, Nat.le_of_ble_eq_true rfl⟩ rfl (Nat.le_of_ble_eq_true rfl) dX9_looked_62 ?_
          refine jGoto C 78 dX9_looked_65 (by decide) ?_
          refine jSub [1, 2, 3, 4, 0, 6, 7, 8, 9, 10] rfl ?_
          exact hL25 q40 hf
      · replace hf := itp hf c23
        refine jGoto C 151 dX9_looked_48 (by decide) ?_
        refine jIinc C (x10_9 + (1 : Int32)) dX9_looked_151 10 rfl (congrArg (fun z : Int32 => x10_9 + z) ki_1) (Nat.le_of_ble_eq_true rfl) [(10, .int (x10_9 + (1 : Int32))), (0, .ref (h 0)), (1, .int p1), (2, .int p2), (3, .int p3), (4, .int x4_3), (5, .int x5_4), (6, .int x6_5), (7, .int x7_6), (8, .int x8_7), (9, .int x9_8)] rfl ?_
        refine jGoto C 29 dX9_looked_154 (by decide) ?_
        refine jSub [1, 2, 3, 4, 5, 6, 7, 8, 9, 10, 0] rfl ?_
        exact ir11 x4_3 x5_4 x6_5 x7_6 x8_7 x9_8 (x10_9 + (1 : Int32)) hf
  refine jSub [7, 8, 9, 10, 6, 5, 4, 3, 2, 1, 0] rfl ?_
  exact hL10 (0 : Int32) (-1 : Int32) (-1 : Int32) (0 : Int32) (((1 : Int32) <<< (q1 &&& 31)) - (1 : Int32)) (0 : Int32) (0 : Int32) hf
noncomputable def X9_look (mnow : Nat → Int32) (p1 : Int32) (p2 : Int32) : Option Int32 := bd1 (X9_hasOne mnow p1) (fun q1 => (if q1 = (0 : Int32) then some (-2 : Int32) else bd1 (X9_in (p2.toInt64) (0 : Int64) (6 : Int64)) (fun q4 => (if q4 = (0 : Int32) then some (-2 : Int32) else bd1 (X9_looked mnow p1 p2 (-1 : Int32)) (fun q7 => some q7)))))
set_option maxHeartbeats 4000000 in
set_option maxRecDepth 20000 in
theorem X9_look_ok {p1 : Int32} {p2 : Int32} {rr : Int32}  (hf : X9_look mnow p1 p2 = some rr) : MT yX9_look cX9_look 3 (some .int) 4 [.ref (h 0), .int p1, .int p2] D cy G (mw h cy mthr mfrp mact mtpd msiz matx mfrm mtok mval mfk mfpl mbem mtrs mtrl mrom mtom mnow mfre mkep mtap mlef mtak mbes mrow mint mrnd mplo mhio mtox mtol) (mw h cy mthr mfrp mact mtpd msiz matx mfrm mtok mval mfk mfpl mbem mtrs mtrl mrom mtom mnow mfre mkep mtap mlef mtak mbes mrow mint mrnd mplo mhio mtox mtol) (some (.int rr)) := by
  refine MT.go (own := RX9) [(0, .ref (h 0)), (1, .int p1), (2, .int p2)] (by decide) rfl (Nat.le_of_ble_eq_true rfl) rfl (fun p l e s m args below meth c A Q C hQ => ?_)
  unfold X9_look at hf
  refine jAloadn C dX9_look_0 rfl 0 rfl ?_
  refine jIloadn C dX9_look_1 rfl 1 rfl ?_
  obtain ⟨q1, e2, hf⟩ := bd1_some hf
  refine jVI C (X9_hasOne_ok  e2) vb_X9_hasOne mk_RX9_75 rfl rcM ⟨Nat.le_of_ble_eq_true rfl, Nat.le_of_ble_eq_true rfl⟩ rfl (Nat.le_of_ble_eq_true rfl) dX9_look_2 ?_
  refine jIfEq C 30 dX9_look_5 (by decide) (fun c3 => ?_) (fun c3 => ?_)
  · replace hf := itp hf c3
    refine jBipush C (-2 : Int32) dX9_look_30 kb_m2 ?_
    cases hf
    exact jEndI C hQ rfl dX9_look_32
  · replace hf := itn hf c3
    refine jIloadn C dX9_look_8 rfl 2 rfl ?_
    refine jI2l C dX9_look_9 ?_
    refine jLconst C (0 : Int64) dX9_look_10 rfl ?_
    refine jLdc2 C (x := (6 : Int64)) lk_RX9_204 dX9_look_11 ?_
    obtain ⟨q4, e5, hf⟩ := bd1_some hf
    refine jSI C (X9_in_ok  e5) sb_X9_in mk_RX9_63 rfl ⟨Nat.le_of_ble_eq_true rfl, Nat.le_of_ble_eq_true rfl⟩ rfl (Nat.le_of_ble_eq_true rfl) dX9_look_14 ?_
    refine jIfEq C 30 dX9_look_17 (by decide) (fun c6 => ?_) (fun c6 => ?_)
    · replace hf := itp hf c6
      refine jBipush C (-2 : Int32) dX9_look_30 kb_m2 ?_
      cases hf
      exact jEndI C hQ rfl dX9_look_32
    · replace hf := itn hf c6
      refine jAloadn C dX9_look_20 rfl 0 rfl ?_
      refine jIloadn C dX9_look_21 rfl 1 rfl ?_
      refine jIloadn C dX9_look_22 rfl 2 rfl ?_
      refine jIconst C (-1 : Int32) dX9_look_23 ki_m1 ?_
      obtain ⟨q7, e8, hf⟩ := bd1_some hf
      refine jVI C (X9_looked_ok  e8) vb_X9_looked mk_RX9_206 rfl rcM ⟨Nat.le_of_ble_eq_true rfl, Nat.le_of_ble_eq_true rfl⟩ rfl (Nat.le_of_ble_eq_true rfl) dX9_look_24 ?_
      refine jGoto C 32 dX9_look_27 (by decide) ?_
      cases hf
      exact jEndI C hQ rfl dX9_look_32
noncomputable def X9_without (mnow : Nat → Int32) (p1 : Int32) (p2 : Int32) (p3 : Int32) : Option Int32 := bd1 (X9_isSet mnow p1 p2) (fun q1 => (if q1 = (0 : Int32) then some (-2 : Int32) else bd1 (X9_in (p3.toInt64) (0 : Int64) (6 : Int64)) (fun q4 => (if q4 = (0 : Int32) then some (-2 : Int32) else bd1 (X9_isIn mnow p1 p2) (fun q7 => (if q7 = (0 : Int32) then some (-6 : Int32) else bd1 (X9_looked mnow p1 p3 p2) (fun q10 => some q10)))))))
set_option maxHeartbeats 4000000 in
set_option maxRecDepth 20000 in
theorem X9_without_ok {p1 : Int32} {p2 : Int32} {p3 : Int32} {rr : Int32}  (hf : X9_without mnow p1 p2 p3 = some rr) : MT yX9_without cX9_without 4 (some .int) 4 [.ref (h 0), .int p1, .int p2, .int p3] D cy G (mw h cy mthr mfrp mact mtpd msiz matx mfrm mtok mval mfk mfpl mbem mtrs mtrl mrom mtom mnow mfre mkep mtap mlef mtak mbes mrow mint mrnd mplo mhio mtox mtol) (mw h cy mthr mfrp mact mtpd msiz matx mfrm mtok mval mfk mfpl mbem mtrs mtrl mrom mtom mnow mfre mkep mtap mlef mtak mbes mrow mint mrnd mplo mhio mtox mtol) (some (.int rr)) := by
  refine MT.go (own := RX9) [(0, .ref (h 0)), (1, .int p1), (2, .int p2), (3, .int p3)] (by decide) rfl (Nat.le_of_ble_eq_true rfl) rfl (fun p l e s m args below meth c A Q C hQ => ?_)
  unfold X9_without at hf
  refine jAloadn C dX9_without_0 rfl 0 rfl ?_
  refine jIloadn C dX9_without_1 rfl 1 rfl ?_
  refine jIloadn C dX9_without_2 rfl 2 rfl ?_
  obtain ⟨q1, e2, hf⟩ := bd1_some hf
  refine jVI C (X9_isSet_ok  e2) vb_X9_isSet mk_RX9_210 rfl rcM ⟨Nat.le_of_ble_eq_true rfl, Nat.le_of_ble_eq_true rfl⟩ rfl (Nat.le_of_ble_eq_true rfl) dX9_without_3 ?_
  refine jIfEq C 21 dX9_without_6 (by decide) (fun c3 => ?_) (fun c3 => ?_)
  · replace hf := itp hf c3
    refine jBipush C (-2 : Int32) dX9_without_21 kb_m2 ?_
    cases hf
    exact jEndI C hQ rfl dX9_without_23
  · replace hf := itn hf c3
    refine jIloadn C dX9_without_9 rfl 3 rfl ?_
    refine jI2l C dX9_without_10 ?_
    refine jLconst C (0 : Int64) dX9_without_11 rfl ?_
    refine jLdc2 C (x := (6 : Int64)) lk_RX9_204 dX9_without_12 ?_
    obtain ⟨q4, e5, hf⟩ := bd1_some hf
    refine jSI C (X9_in_ok  e5) sb_X9_in mk_RX9_63 rfl ⟨Nat.le_of_ble_eq_true rfl, Nat.le_of_ble_eq_true rfl⟩ rfl (Nat.le_of_ble_eq_true rfl) dX9_without_15 ?_
    refine jIfNe C 24 dX9_without_18 (by decide) (fun c6 => ?_) (fun c6 => ?_)
    · replace hf := itn hf c6
      refine jAloadn C dX9_without_24 rfl 0 rfl ?_
      refine jIloadn C dX9_without_25 rfl 1 rfl ?_
      refine jIloadn C dX9_without_26 rfl 2 rfl ?_
      obtain ⟨q7, e8, hf⟩ := bd1_some hf
      refine jVI C (X9_isIn_ok  e8) vb_X9_isIn mk_RX9_81 rfl rcM ⟨Nat.le_of_ble_eq_true rfl, Nat.le_of_ble_eq_true rfl⟩ rfl (Nat.le_of_ble_eq_true rfl) dX9_without_27 ?_
      refine jIfEq C 43 dX9_without_30 (by decide) (fun c9 => ?_) (fun c9 => ?_)
      · replace hf := itp hf c9
        refine jBipush C (-6 : Int32) dX9_without_43 kb_m6 ?_
        cases hf
        exact jEndI C hQ rfl dX9_without_45
      · replace hf := itn hf c9
        refine jAloadn C dX9_without_33 rfl 0 rfl ?_
        refine jIloadn C dX9_without_34 rfl 1 rfl ?_
        refine jIloadn C dX9_without_35 rfl 3 rfl ?_
        refine jIloadn C dX9_without_36 rfl 2 rfl ?_
        obtain ⟨q10, e11, hf⟩ := bd1_some hf
        refine jVI C (X9_looked_ok  e11) vb_X9_looked mk_RX9_206 rfl rcM ⟨Nat.le_of_ble_eq_true rfl, Nat.le_of_ble_eq_true rfl⟩ rfl (Nat.le_of_ble_eq_true rfl) dX9_without_37 ?_
        refine jGoto C 45 dX9_without_40 (by decide) ?_
        cases hf
        exact jEndI C hQ rfl dX9_without_45
    · replace hf := itp hf c6
      refine jBipush C (-2 : Int32) dX9_without_21 kb_m2 ?_
      cases hf
      exact jEndI C hQ rfl dX9_without_23
noncomputable def X9_set (mnow : Nat → Int32) (p1 : Int32) (p2 : Int32) : Option Int32 := bd1 (X9_hasOne mnow p1) (fun q1 => (if q1 = (0 : Int32) then some (-2 : Int32) else (if (0 : Int32) ≤ p2 then bd1 (X9_kth mnow p1 p2) (fun q5 => some q5) else some (-2 : Int32))))
set_option maxHeartbeats 4000000 in
set_option maxRecDepth 20000 in
theorem X9_set_ok {p1 : Int32} {p2 : Int32} {rr : Int32}  (hf : X9_set mnow p1 p2 = some rr) : MT yX9_set cX9_set 3 (some .int) 3 [.ref (h 0), .int p1, .int p2] D cy G (mw h cy mthr mfrp mact mtpd msiz matx mfrm mtok mval mfk mfpl mbem mtrs mtrl mrom mtom mnow mfre mkep mtap mlef mtak mbes mrow mint mrnd mplo mhio mtox mtol) (mw h cy mthr mfrp mact mtpd msiz matx mfrm mtok mval mfk mfpl mbem mtrs mtrl mrom mtom mnow mfre mkep mtap mlef mtak mbes mrow mint mrnd mplo mhio mtox mtol) (some (.int rr)) := by
  refine MT.go (own := RX9) [(0, .ref (h 0)), (1, .int p1), (2, .int p2)] (by decide) rfl (Nat.le_of_ble_eq_true rfl) rfl (fun p l e s m args below meth c A Q C hQ => ?_)
  unfold X9_set at hf
  refine jAloadn C dX9_set_0 rfl 0 rfl ?_
  refine jIloadn C dX9_set_1 rfl 1 rfl ?_
  obtain ⟨q1, e2, hf⟩ := bd1_some hf
  refine jVI C (X9_hasOne_ok  e2) vb_X9_hasOne mk_RX9_75 rfl rcM ⟨Nat.le_of_ble_eq_true rfl, Nat.le_of_ble_eq_true rfl⟩ rfl (Nat.le_of_ble_eq_true rfl) dX9_set_2 ?_
  refine jIfEq C 12 dX9_set_5 (by decide) (fun c3 => ?_) (fun c3 => ?_)
  · replace hf := itp hf c3
    refine jBipush C (-2 : Int32) dX9_set_12 kb_m2 ?_
    refine jGoto C 23 dX9_set_14 (by decide) ?_
    cases hf
    exact jEndI C hQ rfl dX9_set_23
  · replace hf := itn hf c3
    refine jIloadn C dX9_set_8 rfl 2 rfl ?_
    refine jIfGe C 17 dX9_set_9 (by decide) (fun c4 => ?_) (fun c4 => ?_)
    · replace hf := itp hf c4
      refine jAloadn C dX9_set_17 rfl 0 rfl ?_
      refine jIloadn C dX9_set_18 rfl 1 rfl ?_
      refine jIloadn C dX9_set_19 rfl 2 rfl ?_
      obtain ⟨q5, e6, hf⟩ := bd1_some hf
      refine jVI C (X9_kth_ok  e6) vb_X9_kth mk_RX9_213 rfl rcM ⟨Nat.le_of_ble_eq_true rfl, Nat.le_of_ble_eq_true rfl⟩ rfl (Nat.le_of_ble_eq_true rfl) dX9_set_20 ?_
      cases hf
      exact jEndI C hQ rfl dX9_set_23
    · replace hf := itn hf c4
      refine jBipush C (-2 : Int32) dX9_set_12 kb_m2 ?_
      refine jGoto C 23 dX9_set_14 (by decide) ?_
      cases hf
      exact jEndI C hQ rfl dX9_set_23
noncomputable def X9_has (mnow : Nat → Int32) (p1 : Int32) (p2 : Int32) : Option Int32 := bd1 (X9_isSet mnow p1 p2) (fun q1 => (if q1 = (0 : Int32) then some (-2 : Int32) else bd1 (X9_base p1) (fun q4 => gin ((q4 + (1 : Int32)) + p2) 387 (some (mnow ((q4 + (1 : Int32)) + p2).toNatClampNeg)))))
set_option maxHeartbeats 4000000 in
set_option maxRecDepth 20000 in
theorem X9_has_ok {p1 : Int32} {p2 : Int32} {rr : Int32}  (hf : X9_has mnow p1 p2 = some rr) : MT yX9_has cX9_has 3 (some .int) 4 [.ref (h 0), .int p1, .int p2] D cy G (mw h cy mthr mfrp mact mtpd msiz matx mfrm mtok mval mfk mfpl mbem mtrs mtrl mrom mtom mnow mfre mkep mtap mlef mtak mbes mrow mint mrnd mplo mhio mtox mtol) (mw h cy mthr mfrp mact mtpd msiz matx mfrm mtok mval mfk mfpl mbem mtrs mtrl mrom mtom mnow mfre mkep mtap mlef mtak mbes mrow mint mrnd mplo mhio mtox mtol) (some (.int rr)) := by
  refine MT.go (own := RX9) [(0, .ref (h 0)), (1, .int p1), (2, .int p2)] (by decide) rfl (Nat.le_of_ble_eq_true rfl) rfl (fun p l e s m args below meth c A Q C hQ => ?_)
  unfold X9_has at hf
  refine jAloadn C dX9_has_0 rfl 0 rfl ?_
  refine jIloadn C dX9_has_1 rfl 1 rfl ?_
  refine jIloadn C dX9_has_2 rfl 2 rfl ?_
  obtain ⟨q1, e2, hf⟩ := bd1_some hf
  refine jVI C (X9_isSet_ok  e2) vb_X9_isSet mk_RX9_210 rfl rcM ⟨Nat.le_of_ble_eq_true rfl, Nat.le_of_ble_eq_true rfl⟩ rfl (Nat.le_of_ble_eq_true rfl) dX9_has_3 ?_
  refine jIfEq C 25 dX9_has_6 (by decide) (fun c3 => ?_) (fun c3 => ?_)
  · replace hf := itp hf c3
    refine jBipush C (-2 : Int32) dX9_has_25 kb_m2 ?_
    cases hf
    exact jEndI C hQ rfl dX9_has_27
  · replace hf := itn hf c3
    refine jAloadn C dX9_has_9 rfl 0 rfl ?_
    refine gf_RX9_9 C dX9_has_10 ?_
    refine jIloadn C dX9_has_13 rfl 1 rfl ?_
    obtain ⟨q4, e5, hf⟩ := bd1_some hf
    refine jSI C (X9_base_ok  e5) sb_X9_base mk_RX9_71 rfl ⟨Nat.le_of_ble_eq_true rfl, Nat.le_of_ble_eq_true rfl⟩ rfl (Nat.le_of_ble_eq_true rfl) dX9_has_14 ?_
    refine jIconst C (1 : Int32) dX9_has_17 ki_1 ?_
    refine jIadd C dX9_has_18 ?_
    refine jIloadn C dX9_has_19 rfl 2 rfl ?_
    refine jIadd C dX9_has_20 ?_
    obtain ⟨z6, hf⟩ := gin_some hf
    refine al_mnow C z6 dX9_has_21 ?_
    refine jGoto C 27 dX9_has_22 (by decide) ?_
    cases hf
    exact jEndI C hQ rfl dX9_has_27
noncomputable def X9_goTogether (p1 : Int32) (p2 : Int32) (p3 : Int32) : Option Int32 := (if p3 = (0 : Int32) then (if (p1 &&& p2) = (0 : Int32) then some (0 : Int32) else some (1 : Int32)) else (if p3 = (1 : Int32) then bd1 (X9_bits p1) (fun q4 => bd1 (X9_bits p2) (fun q6 => (if q4 = q6 then some (1 : Int32) else some (0 : Int32)))) else (if p3 = (2 : Int32) then (if p1 = p2 then some (1 : Int32) else (if (p1 &&& p2) = p1 then some (0 : Int32) else (if (p1 &&& p2) = p2 then some (0 : Int32) else some (1 : Int32)))) else (if p3 = (3 : Int32) then (if p1 = p2 then some (1 : Int32) else (if (p1 &&& p2) = p1 then some (0 : Int32) else (if (p1 &&& p2) = p2 then some (0 : Int32) else some (1 : Int32)))) else (if p3 = (4 : Int32) then (if (p1 &&& p2) = p1 then some (1 : Int32) else (if (p1 &&& p2) = p2 then some (1 : Int32) else some (0 : Int32))) else (if p1 = p2 then some (1 : Int32) else (if (p1 &&& p2) = p1 then some (0 : Int32) else (if (p1 &&& p2) = p2 then some (0 : Int32) else some (1 : Int32)))))))))
set_option maxHeartbeats 4000000 in
set_option maxRecDepth 20000 in
theorem X9_goTogether_ok {p1 : Int32} {p2 : Int32} {p3 : Int32} {rr : Int32}  (hf : X9_goTogether p1 p2 p3 = some rr) : MT yX9_goTogether cX9_goTogether 4 (some .boolean) 1 [.ref (h 0), .int p1, .int p2, .int p3] D cy G (mw h cy mthr mfrp mact mtpd msiz matx mfrm mtok mval mfk mfpl mbem mtrs mtrl mrom mtom mnow mfre mkep mtap mlef mtak mbes mrow mint mrnd mplo mhio mtox mtol) (mw h cy mthr mfrp mact mtpd msiz matx mfrm mtok mval mfk mfpl mbem mtrs mtrl mrom mtom mnow mfre mkep mtap mlef mtak mbes mrow mint mrnd mplo mhio mtox mtol) (some (.int rr)) := by
  refine MT.go (own := RX9) [(0, .ref (h 0)), (1, .int p1), (2, .int p2), (3, .int p3)] (by decide) rfl (Nat.le_of_ble_eq_true rfl) rfl (fun p l e s m args below meth c A Q C hQ => ?_)
  unfold X9_goTogether at hf
  refine jIloadn C dX9_goTogether_0 rfl 3 rfl ?_
  by_cases c1 : p3 = (0 : Int32)
  · replace hf := itp hf c1
    refine jTabIn C 36 dX9_goTogether_1 (by rw [c1]; decide) (by rw [c1]; decide) (by rw [c1]; rfl) (by decide) ?_
    refine jIloadn C dX9_goTogether_36 rfl 1 rfl ?_
    refine jIloadn C dX9_goTogether_37 rfl 2 rfl ?_
    refine jIand C dX9_goTogether_38 ?_
    refine jIfEq C 46 dX9_goTogether_39 (by decide) (fun c2 => ?_) (fun c2 => ?_)
    · replace hf := itp hf c2
      refine jIconst C (0 : Int32) dX9_goTogether_46 ki_0 ?_
      cases hf
      exact jEndIZ C hQ rfl nar_z0 dX9_goTogether_47
    · replace hf := itn hf c2
      refine jIconst C (1 : Int32) dX9_goTogether_42 ki_1 ?_
      refine jGoto C 47 dX9_goTogether_43 (by decide) ?_
      cases hf
      exact jEndIZ C hQ rfl nar_z1 dX9_goTogether_47
  replace hf := itn hf c1
  by_cases c3 : p3 = (1 : Int32)
  · replace hf := itp hf c3
    refine jTabIn C 48 dX9_goTogether_1 (by rw [c3]; decide) (by rw [c3]; decide) (by rw [c3]; rfl) (by decide) ?_
    refine jIloadn C dX9_goTogether_48 rfl 1 rfl ?_
    obtain ⟨q4, e5, hf⟩ := bd1_some hf
    refine jSI C (X9_bits_ok  e5) sb_X9_bits mk_RX9_198 rfl ⟨Nat.le_of_ble_eq_true rfl, Nat.le_of_ble_eq_true rfl⟩ rfl (Nat.le_of_ble_eq_true rfl) dX9_goTogether_49 ?_
    refine jIloadn C dX9_goTogether_52 rfl 2 rfl ?_
    obtain ⟨q6, e7, hf⟩ := bd1_some hf
    refine jSI C (X9_bits_ok  e7) sb_X9_bits mk_RX9_198 rfl ⟨Nat.le_of_ble_eq_true rfl, Nat.le_of_ble_eq_true rfl⟩ rfl (Nat.le_of_ble_eq_true rfl) dX9_goTogether_53 ?_
    refine jCmpNe C 63 dX9_goTogether_56 (by decide) (fun c8 => ?_) (fun c8 => ?_)
    · replace hf := itn hf c8
      refine jIconst C (0 : Int32) dX9_goTogether_63 ki_0 ?_
      cases hf
      exact jEndIZ C hQ rfl nar_z0 dX9_goTogether_64
    · replace hf := itp hf c8
      refine jIconst C (1 : Int32) dX9_goTogether_59 ki_1 ?_
      refine jGoto C 64 dX9_goTogether_60 (by decide) ?_
      cases hf
      exact jEndIZ C hQ rfl nar_z1 dX9_goTogether_64
  replace hf := itn hf c3
  by_cases c9 : p3 = (2 : Int32)
  · replace hf := itp hf c9
    refine jTabIn C 85 dX9_goTogether_1 (by rw [c9]; decide) (by rw [c9]; decide) (by rw [c9]; rfl) (by decide) ?_
    refine jIloadn C dX9_goTogether_85 rfl 1 rfl ?_
    refine jIloadn C dX9_goTogether_86 rfl 2 rfl ?_
    refine jCmpEq C 104 dX9_goTogether_87 (by decide) (fun c10 => ?_) (fun c10 => ?_)
    · replace hf := itp hf c10
      refine jIconst C (1 : Int32) dX9_goTogether_104 ki_1 ?_
      refine jGoto C 109 dX9_goTogether_105 (by decide) ?_
      cases hf
      exact jEndIZ C hQ rfl nar_z1 dX9_goTogether_109
    · replace hf := itn hf c10
      refine jIloadn C dX9_goTogether_90 rfl 1 rfl ?_
      refine jIloadn C dX9_goTogether_91 rfl 2 rfl ?_
      refine jIand C dX9_goTogether_92 ?_
      refine jIloadn C dX9_goTogether_93 rfl 1 rfl ?_
      refine jCmpEq C 108 dX9_goTogether_94 (by decide) (fun c11 => ?_) (fun c11 => ?_)
      · replace hf := itp hf c11
        refine jIconst C (0 : Int32) dX9_goTogether_108 ki_0 ?_
        cases hf
        exact jEndIZ C hQ rfl nar_z0 dX9_goTogether_109
      · replace hf := itn hf c11
        refine jIloadn C dX9_goTogether_97 rfl 1 rfl ?_
        refine jIloadn C dX9_goTogether_98 rfl 2 rfl ?_
        refine jIand C dX9_goTogether_99 ?_
        refine jIloadn C dX9_goTogether_100 rfl 2 rfl ?_
        refine jCmpEq C 108 dX9_goTogether_101 (by decide) (fun c12 => ?_) (fun c12 => ?_)
        · replace hf := itp hf c12
          refine jIconst C (0 : Int32) dX9_goTogether_108 ki_0 ?_
          cases hf
          exact jEndIZ C hQ rfl nar_z0 dX9_goTogether_109
        · replace hf := itn hf c12
          refine jIconst C (1 : Int32) dX9_goTogether_104 ki_1 ?_
          refine jGoto C 109 dX9_goTogether_105 (by decide) ?_
          cases hf
          exact jEndIZ C hQ rfl nar_z1 dX9_goTogether_109
  replace hf := itn hf c9
  by_cases c13 : p3 = (3 : Int32)
  · replace hf := itp hf c13
    refine jTabIn C 85 dX9_goTogether_1 (by rw [c13]; decide) (by rw [c13]; decide) (by rw [c13]; rfl) (by decide) ?_
    refine jIloadn C dX9_goTogether_85 rfl 1 rfl ?_
    refine jIloadn C dX9_goTogether_86 rfl 2 rfl ?_
    refine jCmpEq C 104 dX9_goTogether_87 (by decide) (fun c14 => ?_) (fun c14 => ?_)
    · replace hf := itp hf c14
      refine jIconst C (1 : Int32) dX9_goTogether_104 ki_1 ?_
      refine jGoto C 109 dX9_goTogether_105 (by decide) ?_
      cases hf
      exact jEndIZ C hQ rfl nar_z1 dX9_goTogether_109
    · replace hf := itn hf c14
      refine jIloadn C dX9_goTogether_90 rfl 1 rfl ?_
      refine jIloadn C dX9_goTogether_91 rfl 2 rfl ?_
      refine jIand C dX9_goTogether_92 ?_
      refine jIloadn C dX9_goTogether_93 rfl 1 rfl ?_
      refine jCmpEq C 108 dX9_goTogether_94 (by decide) (fun c15 => ?_) (fun c15 => ?_)
      · replace hf := itp hf c15
        refine jIconst C (0 : Int32) dX9_goTogether_108 ki_0 ?_
        cases hf
        exact jEndIZ C hQ rfl nar_z0 dX9_goTogether_109
      · replace hf := itn hf c15
        refine jIloadn C dX9_goTogether_97 rfl 1 rfl ?_
        refine jIloadn C dX9_goTogether_98 rfl 2 rfl ?_
        refine jIand C dX9_goTogether_99 ?_
        refine jIloadn C dX9_goTogether_100 rfl 2 rfl ?_
        refine jCmpEq C 108 dX9_goTogether_101 (by decide) (fun c16 => ?_) (fun c16 => ?_)
        · replace hf := itp hf c16
          refine jIconst C (0 : Int32) dX9_goTogether_108 ki_0 ?_
          cases hf
          exact jEndIZ C hQ rfl nar_z0 dX9_goTogether_109
        · replace hf := itn hf c16
          refine jIconst C (1 : Int32) dX9_goTogether_104 ki_1 ?_
          refine jGoto C 109 dX9_goTogether_105 (by decide) ?_
          cases hf
          exact jEndIZ C hQ rfl nar_z1 dX9_goTogether_109
  replace hf := itn hf c13
  by_cases c17 : p3 = (4 : Int32)
  · replace hf := itp hf c17
    refine jTabIn C 65 dX9_goTogether_1 (by rw [c17]; decide) (by rw [c17]; decide) (by rw [c17]; rfl) (by decide) ?_
    refine jIloadn C dX9_goTogether_65 rfl 1 rfl ?_
    refine jIloadn C dX9_goTogether_66 rfl 2 rfl ?_
    refine jIand C dX9_goTogether_67 ?_
    refine jIloadn C dX9_goTogether_68 rfl 1 rfl ?_
    refine jCmpEq C 79 dX9_goTogether_69 (by decide) (fun c18 => ?_) (fun c18 => ?_)
    · replace hf := itp hf c18
      refine jIconst C (1 : Int32) dX9_goTogether_79 ki_1 ?_
      refine jGoto C 84 dX9_goTogether_80 (by decide) ?_
      cases hf
      exact jEndIZ C hQ rfl nar_z1 dX9_goTogether_84
    · replace hf := itn hf c18
      refine jIloadn C dX9_goTogether_72 rfl 1 rfl ?_
      refine jIloadn C dX9_goTogether_73 rfl 2 rfl ?_
      refine jIand C dX9_goTogether_74 ?_
      refine jIloadn C dX9_goTogether_75 rfl 2 rfl ?_
      refine jCmpNe C 83 dX9_goTogether_76 (by decide) (fun c19 => ?_) (fun c19 => ?_)
      · replace hf := itn hf c19
        refine jIconst C (0 : Int32) dX9_goTogether_83 ki_0 ?_
        cases hf
        exact jEndIZ C hQ rfl nar_z0 dX9_goTogether_84
      · replace hf := itp hf c19
        refine jIconst C (1 : Int32) dX9_goTogether_79 ki_1 ?_
        refine jGoto C 84 dX9_goTogether_80 (by decide) ?_
        cases hf
        exact jEndIZ C hQ rfl nar_z1 dX9_goTogether_84
  replace hf := itn hf c17
  refine jTabOut C 85 dX9_goTogether_1 (by have ac1 := lv_neT (a := 0) c1 (by decide); have ac3 := lv_neT (a := 1) c3 (by decide); have ac9 := lv_neT (a := 2) c9 (by decide); have ac13 := lv_neT (a := 3) c13 (by decide); have ac17 := lv_neT (a := 4) c17 (by decide); omega) (by decide) ?_
  refine jIloadn C dX9_goTogether_85 rfl 1 rfl ?_
  refine jIloadn C dX9_goTogether_86 rfl 2 rfl ?_
  refine jCmpEq C 104 dX9_goTogether_87 (by decide) (fun c20 => ?_) (fun c20 => ?_)
  · replace hf := itp hf c20
    refine jIconst C (1 : Int32) dX9_goTogether_104 ki_1 ?_
    refine jGoto C 109 dX9_goTogether_105 (by decide) ?_
    cases hf
    exact jEndIZ C hQ rfl nar_z1 dX9_goTogether_109
  · replace hf := itn hf c20
    refine jIloadn C dX9_goTogether_90 rfl 1 rfl ?_
    refine jIloadn C dX9_goTogether_91 rfl 2 rfl ?_
    refine jIand C dX9_goTogether_92 ?_
    refine jIloadn C dX9_goTogether_93 rfl 1 rfl ?_
    refine jCmpEq C 108 dX9_goTogether_94 (by decide) (fun c21 => ?_) (fun c21 => ?_)
    · replace hf := itp hf c21
      refine jIconst C (0 : Int32) dX9_goTogether_108 ki_0 ?_
      cases hf
      exact jEndIZ C hQ rfl nar_z0 dX9_goTogether_109
    · replace hf := itn hf c21
      refine jIloadn C dX9_goTogether_97 rfl 1 rfl ?_
      refine jIloadn C dX9_goTogether_98 rfl 2 rfl ?_
      refine jIand C dX9_goTogether_99 ?_
      refine jIloadn C dX9_goTogether_100 rfl 2 rfl ?_
      refine jCmpEq C 108 dX9_goTogether_101 (by decide) (fun c22 => ?_) (fun c22 => ?_)
      · replace hf := itp hf c22
        refine jIconst C (0 : Int32) dX9_goTogether_108 ki_0 ?_
        cases hf
        exact jEndIZ C hQ rfl nar_z0 dX9_goTogether_109
      · replace hf := itn hf c22
        refine jIconst C (1 : Int32) dX9_goTogether_104 ki_1 ?_
        refine jGoto C 109 dX9_goTogether_105 (by decide) ?_
        cases hf
        exact jEndIZ C hQ rfl nar_z1 dX9_goTogether_109
noncomputable def X9_areAll_h12 (x3_1 : Int32) (r3 : Int32 → Option Int32) (mnow : Nat → Int32) (p1 : Int32) (p2 : Int32) (r7 : Int32 → Option Int32) (x4_5 : Int32) : Option Int32 := (if x3_1 < x4_5 then r3 (x3_1 + (1 : Int32)) else bd1 (X9_isIn mnow p1 x3_1) (fun q9 => (if q9 = (0 : Int32) then r7 (x4_5 + (1 : Int32)) else bd1 (X9_isIn mnow p1 x4_5) (fun q12 => (if q12 = (0 : Int32) then r7 (x4_5 + (1 : Int32)) else bd1 (X9_goTogether x3_1 x4_5 p2) (fun q15 => (if q15 = (0 : Int32) then some (0 : Int32) else r7 (x4_5 + (1 : Int32)))))))))
noncomputable def X9_areAll_h2 (mnow : Nat → Int32) (p1 : Int32) (p2 : Int32) (r3 : Int32 → Option Int32) (x3_1 : Int32) : Option Int32 := (if (128 : Int32) ≤ x3_1 then some (1 : Int32) else lfp1 (X9_areAll_h12 x3_1 r3 mnow p1 p2) (0 : Int32))
noncomputable def X9_areAll (mnow : Nat → Int32) (p1 : Int32) (p2 : Int32) : Option Int32 := lfp1 (X9_areAll_h2 mnow p1 p2) (0 : Int32)
set_option maxHeartbeats 4000000 in
set_option maxRecDepth 20000 in
theorem X9_areAll_ok {p1 : Int32} {p2 : Int32} {rr : Int32}  (hf : X9_areAll mnow p1 p2 = some rr) : MT yX9_areAll cX9_areAll 5 (some .boolean) 2 [.ref (h 0), .int p1, .int p2] D cy G (mw h cy mthr mfrp mact mtpd msiz matx mfrm mtok mval mfk mfpl mbem mtrs mtrl mrom mtom mnow mfre mkep mtap mlef mtak mbes mrow mint mrnd mplo mhio mtox mtol) (mw h cy mthr mfrp mact mtpd msiz matx mfrm mtok mval mfk mfpl mbem mtrs mtrl mrom mtom mnow mfre mkep mtap mlef mtak mbes mrow mint mrnd mplo mhio mtox mtol) (some (.int rr)) := by
  refine MT.go (own := RX9) [(0, .ref (h 0)), (1, .int p1), (2, .int p2)] (by decide) rfl (Nat.le_of_ble_eq_true rfl) rfl (fun p l e s m args below meth c A Q C hQ => ?_)
  unfold X9_areAll at hf
  refine jIconst C (0 : Int32) dX9_areAll_0 ki_0 ?_
  refine jIstoren C dX9_areAll_1 rfl (Nat.le_of_ble_eq_true rfl) [(3, .int (0 : Int32)), (0, .ref (h 0)), (1, .int p1), (2, .int p2)] rfl ?_
  have hL2 : ∀ (x3_1 : Int32), lfp1 (X9_areAll_h2 mnow p1 p2) x3_1 = some rr → J p l e (rmk 2) s m args below meth c D A Q 5 (mw h cy mthr mfrp mact mtpd msiz matx mfrm mtok mval mfk mfpl mbem mtrs mtrl mrom mtom mnow mfre mkep mtap mlef mtak mbes mrow mint mrnd mplo mhio mtox mtol) 2 [(0, .ref (h 0)), (1, .int p1), (2, .int p2), (3, .int x3_1)] [] := by
    intro x3_1 hw
    refine lfp1_walk (P := fun x3_1 => J p l e (rmk 2) s m args below meth c D A Q 5 (mw h cy mthr mfrp mact mtpd msiz matx mfrm mtok mval mfk mfpl mbem mtrs mtrl mrom mtom mnow mfre mkep mtap mlef mtak mbes mrow mint mrnd mplo mhio mtox mtol) 2 [(0, .ref (h 0)), (1, .int p1), (2, .int p2), (3, .int x3_1)] []) ?_ hw
    intro r3 ir3 x3_1 hf
    unfold X9_areAll_h2 at hf
    refine jIloadn C dX9_areAll_2 rfl 3 rfl ?_
    refine jSipush C (128 : Int32) dX9_areAll_3 ks_128 ?_
    refine jCmpGe C 62 dX9_areAll_6 (by decide) (fun c4 => ?_) (fun c4 => ?_)
    · replace hf := itp hf c4
      refine jIconst C (1 : Int32) dX9_areAll_62 ki_1 ?_
      cases hf
      exact jEndIZ C hQ rfl nar_z1 dX9_areAll_63
    · replace hf := itn hf c4
      refine jIconst C (0 : Int32) dX9_areAll_9 ki_0 ?_
      refine jIstore C dX9_areAll_10 (Nat.le_of_ble_eq_true rfl) [(4, .int (0 : Int32)), (0, .ref (h 0)), (1, .int p1), (2, .int p2), (3, .int x3_1)] rfl ?_
      have hL6 : ∀ (x4_5 : Int32), lfp1 (X9_areAll_h12 x3_1 r3 mnow p1 p2) x4_5 = some rr → J p l e (rmk 2) s m args below meth c D A Q 5 (mw h cy mthr mfrp mact mtpd msiz matx mfrm mtok mval mfk mfpl mbem mtrs mtrl mrom mtom mnow mfre mkep mtap mlef mtak mbes mrow mint mrnd mplo mhio mtox mtol) 12 [(0, .ref (h 0)), (1, .int p1), (2, .int p2), (3, .int x3_1), (4, .int x4_5)] [] := by
        intro x4_5 hw
        refine lfp1_walk (P := fun x4_5 => J p l e (rmk 2) s m args below meth c D A Q 5 (mw h cy mthr mfrp mact mtpd msiz matx mfrm mtok mval mfk mfpl mbem mtrs mtrl mrom mtom mnow mfre mkep mtap mlef mtak mbes mrow mint mrnd mplo mhio mtox mtol) 12 [(0, .ref (h 0)), (1, .int p1), (2, .int p2), (3, .int x3_1), (4, .int x4_5)] []) ?_ hw
        intro r7 ir7 x4_5 hf
        unfold X9_areAll_h12 at hf
        refine jIload C dX9_areAll_12 4 rfl ?_
        refine jIloadn C dX9_areAll_14 rfl 3 rfl ?_
        refine jCmpGt C 56 dX9_areAll_15 (by decide) (fun c8 => ?_) (fun c8 => ?_)
        · replace hf := itp hf c8
          refine jIinc C (x3_1 + (1 : Int32)) dX9_areAll_56 3 rfl (congrArg (fun z : Int32 => x3_1 + z) ki_1) (Nat.le_of_ble_eq_true rfl) [(3, .int (x3_1 + (1 : Int32))), (0, .ref (h 0)), (1, .int p1), (2, .int p2), (4, .int x4_5)] rfl ?_
          refine jGoto C 2 dX9_areAll_59 (by decide) ?_
          refine jSub [1, 2, 3, 0] rfl ?_
          exact ir3 (x3_1 + (1 : Int32)) hf
        · replace hf := itn hf c8
          refine jAloadn C dX9_areAll_18 rfl 0 rfl ?_
          refine jIloadn C dX9_areAll_19 rfl 1 rfl ?_
          refine jIloadn C dX9_areAll_20 rfl 3 rfl ?_
          obtain ⟨q9, e10, hf⟩ := bd1_some hf
          refine jVI C (X9_isIn_ok  e10) vb_X9_isIn mk_RX9_81 rfl rcM ⟨Nat.le_of_ble_eq_true rfl, Nat.le_of_ble_eq_true rfl⟩ rfl (Nat.le_of_ble_eq_true rfl) dX9_areAll_21 ?_
          refine jIfEq C 50 dX9_areAll_24 (by decide) (fun c11 => ?_) (fun c11 => ?_)
          · replace hf := itp hf c11
            refine jIinc C (x4_5 + (1 : Int32)) dX9_areAll_50 4 rfl (congrArg (fun z : Int32 => x4_5 + z) ki_1) (Nat.le_of_ble_eq_true rfl) [(4, .int (x4_5 + (1 : Int32))), (0, .ref (h 0)), (1, .int p1), (2, .int p2), (3, .int x3_1)] rfl ?_
            refine jGoto C 12 dX9_areAll_53 (by decide) ?_
            refine jSub [1, 2, 3, 4, 0] rfl ?_
            exact ir7 (x4_5 + (1 : Int32)) hf
          · replace hf := itn hf c11
            refine jAloadn C dX9_areAll_27 rfl 0 rfl ?_
            refine jIloadn C dX9_areAll_28 rfl 1 rfl ?_
            refine jIload C dX9_areAll_29 4 rfl ?_
            obtain ⟨q12, e13, hf⟩ := bd1_some hf
            refine jVI C (X9_isIn_ok  e13) vb_X9_isIn mk_RX9_81 rfl rcM ⟨Nat.le_of_ble_eq_true rfl, Nat.le_of_ble_eq_true rfl⟩ rfl (Nat.le_of_ble_eq_true rfl) dX9_areAll_31 ?_
            refine jIfEq C 50 dX9_areAll_34 (by decide) (fun c14 => ?_) (fun c14 => ?_)
            · replace hf := itp hf c14
              refine jIinc C (x4_5 + (1 : Int32)) dX9_areAll_50 4 rfl (congrArg (fun z : Int32 => x4_5 + z) ki_1) (Nat.le_of_ble_eq_true rfl) [(4, .int (x4_5 + (1 : Int32))), (0, .ref (h 0)), (1, .int p1), (2, .int p2), (3, .int x3_1)] rfl ?_
              refine jGoto C 12 dX9_areAll_53 (by decide) ?_
              refine jSub [1, 2, 3, 4, 0] rfl ?_
              exact ir7 (x4_5 + (1 : Int32)) hf
            · replace hf := itn hf c14
              refine jAloadn C dX9_areAll_37 rfl 0 rfl ?_
              refine jIloadn C dX9_areAll_38 rfl 3 rfl ?_
              refine jIload C dX9_areAll_39 4 rfl ?_
              refine jIloadn C dX9_areAll_41 rfl 2 rfl ?_
              obtain ⟨q15, e16, hf⟩ := bd1_some hf
              refine jVI C (X9_goTogether_ok  e16) vb_X9_goTogether mk_RX9_216 rfl rcM ⟨Nat.le_of_ble_eq_true rfl, Nat.le_of_ble_eq_true rfl⟩ rfl (Nat.le_of_ble_eq_true rfl) dX9_areAll_42 ?_
              refine jIfNe C 50 dX9_areAll_45 (by decide) (fun c17 => ?_) (fun c17 => ?_)
              · replace hf := itn hf c17
                refine jIinc C (x4_5 + (1 : Int32)) dX9_areAll_50 4 rfl (congrArg (fun z : Int32 => x4_5 + z) ki_1) (Nat.le_of_ble_eq_true rfl) [(4, .int (x4_5 + (1 : Int32))), (0, .ref (h 0)), (1, .int p1), (2, .int p2), (3, .int x3_1)] rfl ?_
                refine jGoto C 12 dX9_areAll_53 (by decide) ?_
                refine jSub [1, 2, 3, 4, 0] rfl ?_
                exact ir7 (x4_5 + (1 : Int32)) hf
              · replace hf := itp hf c17
                refine jIconst C (0 : Int32) dX9_areAll_48 ki_0 ?_
                cases hf
                exact jEndIZ C hQ rfl nar_z0 dX9_areAll_49
      refine jSub [1, 2, 3, 4, 0] rfl ?_
      exact hL6 (0 : Int32) hf
  refine jSub [1, 2, 3, 0] rfl ?_
  exact hL2 (0 : Int32) hf
noncomputable def X9_isShut_h16 (mnow : Nat → Int32) (p1 : Int32) (r3 : Int32 → Option Int32) (x3_1 : Int32) (p2 : Int32) (r9 : Int32 → Option Int32) (x4_7 : Int32) : Option Int32 := bd1 (X9_points mnow p1) (fun q10 => (if q10 ≤ x4_7 then r3 (x3_1 + (1 : Int32)) else bd1 (X9_isIn mnow p1 x3_1) (fun q13 => (if q13 = (0 : Int32) then r9 (x4_7 + (1 : Int32)) else bd1 (X9_hasBit x3_1 x4_7) (fun q16 => (if q16 = p2 then r9 (x4_7 + (1 : Int32)) else bd1 (X9_isIn mnow p1 (x3_1 ^^^ ((1 : Int32) <<< (x4_7 &&& 31)))) (fun q19 => (if q19 = (0 : Int32) then some (0 : Int32) else r9 (x4_7 + (1 : Int32))))))))))
noncomputable def X9_isShut_h2 (mnow : Nat → Int32) (p1 : Int32) (p2 : Int32) (r3 : Int32 → Option Int32) (x3_1 : Int32) : Option Int32 := bd1 (X9_points mnow p1) (fun q4 => (if ((1 : Int32) <<< (q4 &&& 31)) ≤ x3_1 then some (1 : Int32) else lfp1 (X9_isShut_h16 mnow p1 r3 x3_1 p2) (0 : Int32)))
noncomputable def X9_isShut (mnow : Nat → Int32) (p1 : Int32) (p2 : Int32) : Option Int32 := lfp1 (X9_isShut_h2 mnow p1 p2) (0 : Int32)
set_option maxHeartbeats 4000000 in
set_option maxRecDepth 20000 in
theorem X9_isShut_ok {p1 : Int32} {p2 : Int32} {rr : Int32}  (hf : X9_isShut mnow p1 p2 = some rr) : MT yX9_isShut cX9_isShut 5 (some .boolean) 2 [.ref (h 0), .int p1, .int p2] D cy G (mw h cy mthr mfrp mact mtpd msiz matx mfrm mtok mval mfk mfpl mbem mtrs mtrl mrom mtom mnow mfre mkep mtap mlef mtak mbes mrow mint mrnd mplo mhio mtox mtol) (mw h cy mthr mfrp mact mtpd msiz matx mfrm mtok mval mfk mfpl mbem mtrs mtrl mrom mtom mnow mfre mkep mtap mlef mtak mbes mrow mint mrnd mplo mhio mtox mtol) (some (.int rr)) := by
  refine MT.go (own := RX9) [(0, .ref (h 0)), (1, .int p1), (2, .int p2)] (by decide) rfl (Nat.le_of_ble_eq_true rfl) rfl (fun p l e s m args below meth c A Q C hQ => ?_)
  unfold X9_isShut at hf
  refine jIconst C (0 : Int32) dX9_isShut_0 ki_0 ?_
  refine jIstoren C dX9_isShut_1 rfl (Nat.le_of_ble_eq_true rfl) [(3, .int (0 : Int32)), (0, .ref (h 0)), (1, .int p1), (2, .int p2)] rfl ?_
  have hL2 : ∀ (x3_1 : Int32), lfp1 (X9_isShut_h2 mnow p1 p2) x3_1 = some rr → J p l e (rmk 2) s m args below meth c D A Q 5 (mw h cy mthr mfrp mact mtpd msiz matx mfrm mtok mval mfk mfpl mbem mtrs mtrl mrom mtom mnow mfre mkep mtap mlef mtak mbes mrow mint mrnd mplo mhio mtox mtol) 2 [(0, .ref (h 0)), (1, .int p1), (2, .int p2), (3, .int x3_1)] [] := by
    intro x3_1 hw
    refine lfp1_walk (P := fun x3_1 => J p l e (rmk 2) s m args below meth c D A Q 5 (mw h cy mthr mfrp mact mtpd msiz matx mfrm mtok mval mfk mfpl mbem mtrs mtrl mrom mtom mnow mfre mkep mtap mlef mtak mbes mrow mint mrnd mplo mhio mtox mtol) 2 [(0, .ref (h 0)), (1, .int p1), (2, .int p2), (3, .int x3_1)] []) ?_ hw
    intro r3 ir3 x3_1 hf
    unfold X9_isShut_h2 at hf
    refine jIloadn C dX9_isShut_2 rfl 3 rfl ?_
    refine jIconst C (1 : Int32) dX9_isShut_3 ki_1 ?_
    refine jAloadn C dX9_isShut_4 rfl 0 rfl ?_
    refine jIloadn C dX9_isShut_5 rfl 1 rfl ?_
    obtain ⟨q4, e5, hf⟩ := bd1_some hf
    refine jVI C (X9_points_ok  e5) vb_X9_points mk_RX9_78 rfl rcM ⟨Nat.le_of_ble_eq_true rfl, Nat.le_of_ble_eq_true rfl⟩ rfl (Nat.le_of_ble_eq_true rfl) dX9_isShut_6 ?_
    refine jIshl C dX9_isShut_9 ?_
    refine jCmpGe C 73 dX9_isShut_10 (by decide) (fun c6 => ?_) (fun c6 => ?_)
    · replace hf := itp hf c6
      refine jIconst C (1 : Int32) dX9_isShut_73 ki_1 ?_
      cases hf
      exact jEndIZ C hQ rfl nar_z1 dX9_isShut_74
    · replace hf := itn hf c6
      refine jIconst C (0 : Int32) dX9_isShut_13 ki_0 ?_
      refine jIstore C dX9_isShut_14 (Nat.le_of_ble_eq_true rfl) [(4, .int (0 : Int32)), (0, .ref (h 0)), (1, .int p1), (2, .int p2), (3, .int x3_1)] rfl ?_
      have hL8 : ∀ (x4_7 : Int32), lfp1 (X9_isShut_h16 mnow p1 r3 x3_1 p2) x4_7 = some rr → J p l e (rmk 2) s m args below meth c D A Q 5 (mw h cy mthr mfrp mact mtpd msiz matx mfrm mtok mval mfk mfpl mbem mtrs mtrl mrom mtom mnow mfre mkep mtap mlef mtak mbes mrow mint mrnd mplo mhio mtox mtol) 16 [(0, .ref (h 0)), (1, .int p1), (2, .int p2), (3, .int x3_1), (4, .int x4_7)] [] := by
        intro x4_7 hw
        refine lfp1_walk (P := fun x4_7 => J p l e (rmk 2) s m args below meth c D A Q 5 (mw h cy mthr mfrp mact mtpd msiz matx mfrm mtok mval mfk mfpl mbem mtrs mtrl mrom mtom mnow mfre mkep mtap mlef mtak mbes mrow mint mrnd mplo mhio mtox mtol) 16 [(0, .ref (h 0)), (1, .int p1), (2, .int p2), (3, .int x3_1), (4, .int x4_7)] []) ?_ hw
        intro r9 ir9 x4_7 hf
        unfold X9_isShut_h16 at hf
        refine jIload C dX9_isShut_16 4 rfl ?_
        refine jAloadn C dX9_isShut_18 rfl 0 rfl ?_
        refine jIloadn C dX9_isShut_19 rfl 1 rfl ?_
        obtain ⟨q10, e11, hf⟩ := bd1_some hf
        refine jVI C (X9_points_ok  e11) vb_X9_points mk_RX9_78 rfl rcM ⟨Nat.le_of_ble_eq_true rfl, Nat.le_of_ble_eq_true rfl⟩ rfl (Nat.le_of_ble_eq_true rfl) dX9_isShut_20 ?_
        refine jCmpGe C 67 dX9_isShut_23 (by decide) (fun c12 => ?_) (fun c12 => ?_)
        · replace hf := itp hf c12
          refine jIinc C (x3_1 + (1 : Int32)) dX9_isShut_67 3 rfl (congrArg (fun z : Int32 => x3_1 + z) ki_1) (Nat.le_of_ble_eq_true rfl) [(3, .int (x3_1 + (1 : Int32))), (0, .ref (h 0)), (1, .int p1), (2, .int p2), (4, .int x4_7)] rfl ?_
          refine jGoto C 2 dX9_isShut_70 (by decide) ?_
          refine jSub [1, 2, 3, 0] rfl ?_
          exact ir3 (x3_1 + (1 : Int32)) hf
        · replace hf := itn hf c12
          refine jAloadn C dX9_isShut_26 rfl 0 rfl ?_
          refine jIloadn C dX9_isShut_27 rfl 1 rfl ?_
          refine jIloadn C dX9_isShut_28 rfl 3 rfl ?_
          obtain ⟨q13, e14, hf⟩ := bd1_some hf
          refine jVI C (X9_isIn_ok  e14) vb_X9_isIn mk_RX9_81 rfl rcM ⟨Nat.le_of_ble_eq_true rfl, Nat.le_of_ble_eq_true rfl⟩ rfl (Nat.le_of_ble_eq_true rfl) dX9_isShut_29 ?_
          refine jIfEq C 61 dX9_isShut_32 (by decide) (fun c15 => ?_) (fun c15 => ?_)
          · replace hf := itp hf c15
            refine jIinc C (x4_7 + (1 : Int32)) dX9_isShut_61 4 rfl (congrArg (fun z : Int32 => x4_7 + z) ki_1) (Nat.le_of_ble_eq_true rfl) [(4, .int (x4_7 + (1 : Int32))), (0, .ref (h 0)), (1, .int p1), (2, .int p2), (3, .int x3_1)] rfl ?_
            refine jGoto C 16 dX9_isShut_64 (by decide) ?_
            refine jSub [1, 2, 3, 4, 0] rfl ?_
            exact ir9 (x4_7 + (1 : Int32)) hf
          · replace hf := itn hf c15
            refine jIloadn C dX9_isShut_35 rfl 3 rfl ?_
            refine jIload C dX9_isShut_36 4 rfl ?_
            obtain ⟨q16, e17, hf⟩ := bd1_some hf
            refine jSI C (X9_hasBit_ok  e17) sb_X9_hasBit mk_RX9_169 rfl ⟨Nat.le_of_ble_eq_true rfl, Nat.le_of_ble_eq_true rfl⟩ rfl (Nat.le_of_ble_eq_true rfl) dX9_isShut_38 ?_
            refine jIloadn C dX9_isShut_41 rfl 2 rfl ?_
            refine jCmpEq C 61 dX9_isShut_42 (by decide) (fun c18 => ?_) (fun c18 => ?_)
            · replace hf := itp hf c18
              refine jIinc C (x4_7 + (1 : Int32)) dX9_isShut_61 4 rfl (congrArg (fun z : Int32 => x4_7 + z) ki_1) (Nat.le_of_ble_eq_true rfl) [(4, .int (x4_7 + (1 : Int32))), (0, .ref (h 0)), (1, .int p1), (2, .int p2), (3, .int x3_1)] rfl ?_
              refine jGoto C 16 dX9_isShut_64 (by decide) ?_
              refine jSub [1, 2, 3, 4, 0] rfl ?_
              exact ir9 (x4_7 + (1 : Int32)) hf
            · replace hf := itn hf c18
              refine jAloadn C dX9_isShut_45 rfl 0 rfl ?_
              refine jIloadn C dX9_isShut_46 rfl 1 rfl ?_
              refine jIloadn C dX9_isShut_47 rfl 3 rfl ?_
              refine jIconst C (1 : Int32) dX9_isShut_48 ki_1 ?_
              refine jIload C dX9_isShut_49 4 rfl ?_
              refine jIshl C dX9_isShut_51 ?_
              refine jIxor C dX9_isShut_52 ?_
              obtain ⟨q19, e20, hf⟩ := bd1_some hf
              refine jVI C (X9_isIn_ok  e20) vb_X9_isIn mk_RX9_81 rfl rcM ⟨Nat.le_of_ble_eq_true rfl, Nat.le_of_ble_eq_true rfl⟩ rfl (Nat.le_of_ble_eq_true rfl) dX9_isShut_53 ?_
              refine jIfNe C 61 dX9_isShut_56 (by decide) (fun c21 => ?_) (fun c21 => ?_)
              · replace hf := itn hf c21
                refine jIinc C (x4_7 + (1 : Int32)) dX9_isShut_61 4 rfl (congrArg (fun z : Int32 => x4_7 + z) ki_1) (Nat.le_of_ble_eq_true rfl) [(4, .int (x4_7 + (1 : Int32))), (0, .ref (h 0)), (1, .int p1), (2, .int p2), (3, .int x3_1)] rfl ?_
                refine jGoto C 16 dX9_isShut_64 (by decide) ?_
                refine jSub [1, 2, 3, 4, 0] rfl ?_
                exact ir9 (x4_7 + (1 : Int32)) hf
              · replace hf := itp hf c21
                refine jIconst C (0 : Int32) dX9_isShut_59 ki_0 ?_
                cases hf
                exact jEndIZ C hQ rfl nar_z0 dX9_isShut_60
      refine jSub [1, 2, 3, 4, 0] rfl ?_
      exact hL8 (0 : Int32) hf
  refine jSub [1, 2, 3, 0] rfl ?_
  exact hL2 (0 : Int32) hf
noncomputable def X9_wouldShift_h6 (mnow : Nat → Int32) (p1 : Int32) (p3 : Int32) (p2 : Int32) (r4 : Int32 → Int32 → Option Int32) (x4_1 : Int32) (x5_2 : Int32) : Option Int32 := (if (128 : Int32) ≤ x5_2 then some x4_1 else bd1 (X9_isIn mnow p1 x5_2) (fun q6 => (if q6 = (0 : Int32) then r4 (x4_1 + (0 : Int32)) (x5_2 + (1 : Int32)) else bd1 (X9_hasBit x5_2 p3) (fun q9 => (if q9 = (0 : Int32) then r4 (x4_1 + (0 : Int32)) (x5_2 + (1 : Int32)) else bd1 (X9_hasBit x5_2 p2) (fun q12 => (if q12 = (0 : Int32) then bd1 (X9_isIn mnow p1 ((x5_2 ^^^ ((1 : Int32) <<< (p3 &&& 31))) ^^^ ((1 : Int32) <<< (p2 &&& 31)))) (fun q15 => (if q15 = (0 : Int32) then r4 (x4_1 + (1 : Int32)) (x5_2 + (1 : Int32)) else r4 (x4_1 + (0 : Int32)) (x5_2 + (1 : Int32)))) else r4 (x4_1 + (0 : Int32)) (x5_2 + (1 : Int32)))))))))
noncomputable def X9_wouldShift (mnow : Nat → Int32) (p1 : Int32) (p2 : Int32) (p3 : Int32) : Option Int32 := lfp2 (X9_wouldShift_h6 mnow p1 p3 p2) (0 : Int32) (0 : Int32)
set_option maxHeartbeats 4000000 in
set_option maxRecDepth 20000 in
theorem X9_wouldShift_ok {p1 : Int32} {p2 : Int32} {p3 : Int32} {rr : Int32}  (hf : X9_wouldShift mnow p1 p2 p3 = some rr) : MT yX9_wouldShift cX9_wouldShift 6 (some .int) 2 [.ref (h 0), .int p1, .int p2, .int p3] D cy G (mw h cy mthr mfrp mact mtpd msiz matx mfrm mtok mval mfk mfpl mbem mtrs mtrl mrom mtom mnow mfre mkep mtap mlef mtak mbes mrow mint mrnd mplo mhio mtox mtol) (mw h cy mthr mfrp mact mtpd msiz matx mfrm mtok mval mfk mfpl mbem mtrs mtrl mrom mtom mnow mfre mkep mtap mlef mtak mbes mrow mint mrnd mplo mhio mtox mtol) (some (.int rr)) := by
  refine MT.go (own := RX9) [(0, .ref (h 0)), (1, .int p1), (2, .int p2), (3, .int p3)] (by decide) rfl (Nat.le_of_ble_eq_true rfl) rfl (fun p l e s m args below meth c A Q C hQ => ?_)
  unfold X9_wouldShift at hf
  refine jIconst C (0 : Int32) dX9_wouldShift_0 ki_0 ?_
  refine jIstore C dX9_wouldShift_1 (Nat.le_of_ble_eq_true rfl) [(4, .int (0 : Int32)), (0, .ref (h 0)), (1, .int p1), (2, .int p2), (3, .int p3)] rfl ?_
  refine jIconst C (0 : Int32) dX9_wouldShift_3 ki_0 ?_
  refine jIstore C dX9_wouldShift_4 (Nat.le_of_ble_eq_true rfl) [(5, .int (0 : Int32)), (4, .int (0 : Int32)), (0, .ref (h 0)), (1, .int p1), (2, .int p2), (3, .int p3)] rfl ?_
  have hL3 : ∀ (x4_1 : Int32) (x5_2 : Int32), lfp2 (X9_wouldShift_h6 mnow p1 p3 p2) x4_1 x5_2 = some rr → J p l e (rmk 2) s m args below meth c D A Q 6 (mw h cy mthr mfrp mact mtpd msiz matx mfrm mtok mval mfk mfpl mbem mtrs mtrl mrom mtom mnow mfre mkep mtap mlef mtak mbes mrow mint mrnd mplo mhio mtox mtol) 6 [(0, .ref (h 0)), (1, .int p1), (2, .int p2), (3, .int p3), (4, .int x4_1), (5, .int x5_2)] [] := by
    intro x4_1 x5_2 hw
    refine lfp2_walk (P := fun x4_1 x5_2 => J p l e (rmk 2) s m args below meth c D A Q 6 (mw h cy mthr mfrp mact mtpd msiz matx mfrm mtok mval mfk mfpl mbem mtrs mtrl mrom mtom mnow mfre mkep mtap mlef mtak mbes mrow mint mrnd mplo mhio mtox mtol) 6 [(0, .ref (h 0)), (1, .int p1), (2, .int p2), (3, .int p3), (4, .int x4_1), (5, .int x5_2)] []) ?_ hw
    intro r4 ir4 x4_1 x5_2 hf
    unfold X9_wouldShift_h6 at hf
    refine jIload C dX9_wouldShift_6 5 rfl ?_
    refine jSipush C (128 : Int32) dX9_wouldShift_8 ks_128 ?_
    refine jCmpGe C 76 dX9_wouldShift_11 (by decide) (fun c5 => ?_) (fun c5 => ?_)
    · replace hf := itp hf c5
      refine jIload C dX9_wouldShift_76 4 rfl ?_
      cases hf
      exact jEndI C hQ rfl dX9_wouldShift_78
    · replace hf := itn hf c5
      refine jIload C dX9_wouldShift_14 4 rfl ?_
      refine jAloadn C dX9_wouldShift_16 rfl 0 rfl ?_
      refine jIloadn C dX9_wouldShift_17 rfl 1 rfl ?_
      refine jIload C dX9_wouldShift_18 5 rfl ?_
      obtain ⟨q6, e7, hf⟩ := bd1_some hf
      refine jVI C (X9_isIn_ok  e7) vb_X9_isIn mk_RX9_81 rfl rcM ⟨Nat.le_of_ble_eq_true rfl, Nat.le_of_ble_eq_true rfl⟩ rfl (Nat.le_of_ble_eq_true rfl) dX9_wouldShift_20 ?_
      refine jIfEq C 66 dX9_wouldShift_23 (by decide) (fun c8 => ?_) (fun c8 => ?_)
      · replace hf := itp hf c8
        refine jIconst C (0 : Int32) dX9_wouldShift_66 ki_0 ?_
        refine jIadd C dX9_wouldShift_67 ?_
        refine jIstore C dX9_wouldShift_68 (Nat.le_of_ble_eq_true rfl) [(4, .int (x4_1 + (0 : Int32))), (0, .ref (h 0)), (1, .int p1), (2, .int p2), (3, .int p3), (5, .int x5_2)] rfl ?_
        refine jIinc C (x5_2 + (1 : Int32)) dX9_wouldShift_70 5 rfl (congrArg (fun z : Int32 => x5_2 + z) ki_1) (Nat.le_of_ble_eq_true rfl) [(5, .int (x5_2 + (1 : Int32))), (4, .int (x4_1 + (0 : Int32))), (0, .ref (h 0)), (1, .int p1), (2, .int p2), (3, .int p3)] rfl ?_
        refine jGoto C 6 dX9_wouldShift_73 (by decide) ?_
        refine jSub [2, 3, 4, 5, 1, 0] rfl ?_
        exact ir4 (x4_1 + (0 : Int32)) (x5_2 + (1 : Int32)) hf
      · replace hf := itn hf c8
        refine jIload C dX9_wouldShift_26 5 rfl ?_
        refine jIloadn C dX9_wouldShift_28 rfl 3 rfl ?_
        obtain ⟨q9, e10, hf⟩ := bd1_some hf
        refine jSI C (X9_hasBit_ok  e10) sb_X9_hasBit mk_RX9_169 rfl ⟨Nat.le_of_ble_eq_true rfl, Nat.le_of_ble_eq_true rfl⟩ rfl (Nat.le_of_ble_eq_true rfl) dX9_wouldShift_29 ?_
        refine jIfEq C 66 dX9_wouldShift_32 (by decide) (fun c11 => ?_) (fun c11 => ?_)
        · replace hf := itp hf c11
          refine jIconst C (0 : Int32) dX9_wouldShift_66 ki_0 ?_
          refine jIadd C dX9_wouldShift_67 ?_
          refine jIstore C dX9_wouldShift_68 (Nat.le_of_ble_eq_true rfl) [(4, .int (x4_1 + (0 : Int32))), (0, .ref (h 0)), (1, .int p1), (2, .int p2), (3, .int p3), (5, .int x5_2)] rfl ?_
          refine jIinc C (x5_2 + (1 : Int32)) dX9_wouldShift_70 5 rfl (congrArg (fun z : Int32 => x5_2 + z) ki_1) (Nat.le_of_ble_eq_true rfl) [(5, .int (x5_2 + (1 : Int32))), (4, .int (x4_1 + (0 : Int32))), (0, .ref (h 0)), (1, .int p1), (2, .int p2), (3, .int p3)] rfl ?_
          refine jGoto C 6 dX9_wouldShift_73 (by decide) ?_
          refine jSub [2, 3, 4, 5, 1, 0] rfl ?_
          exact ir4 (x4_1 + (0 : Int32)) (x5_2 + (1 : Int32)) hf
        · replace hf := itn hf c11
          refine jIload C dX9_wouldShift_35 5 rfl ?_
          refine jIloadn C dX9_wouldShift_37 rfl 2 rfl ?_
          obtain ⟨q12, e13, hf⟩ := bd1_some hf
          refine jSI C (X9_hasBit_ok  e13) sb_X9_hasBit mk_RX9_169 rfl ⟨Nat.le_of_ble_eq_true rfl, Nat.le_of_ble_eq_true rfl⟩ rfl (Nat.le_of_ble_eq_true rfl) dX9_wouldShift_38 ?_
          refine jIfNe C 66 dX9_wouldShift_41 (by decide) (fun c14 => ?_) (fun c14 => ?_)
          · replace hf := itn hf c14
            refine jIconst C (0 : Int32) dX9_wouldShift_66 ki_0 ?_
            refine jIadd C dX9_wouldShift_67 ?_
            refine jIstore C dX9_wouldShift_68 (Nat.le_of_ble_eq_true rfl) [(4, .int (x4_1 + (0 : Int32))), (0, .ref (h 0)), (1, .int p1), (2, .int p2), (3, .int p3), (5, .int x5_2)] rfl ?_
            refine jIinc C (x5_2 + (1 : Int32)) dX9_wouldShift_70 5 rfl (congrArg (fun z : Int32 => x5_2 + z) ki_1) (Nat.le_of_ble_eq_true rfl) [(5, .int (x5_2 + (1 : Int32))), (4, .int (x4_1 + (0 : Int32))), (0, .ref (h 0)), (1, .int p1), (2, .int p2), (3, .int p3)] rfl ?_
            refine jGoto C 6 dX9_wouldShift_73 (by decide) ?_
            refine jSub [2, 3, 4, 5, 1, 0] rfl ?_
            exact ir4 (x4_1 + (0 : Int32)) (x5_2 + (1 : Int32)) hf
          · replace hf := itp hf c14
            refine jAloadn C dX9_wouldShift_44 rfl 0 rfl ?_
            refine jIloadn C dX9_wouldShift_45 rfl 1 rfl ?_
            refine jIload C dX9_wouldShift_46 5 rfl ?_
            refine jIconst C (1 : Int32) dX9_wouldShift_48 ki_1 ?_
            refine jIloadn C dX9_wouldShift_49 rfl 3 rfl ?_
            refine jIshl C dX9_wouldShift_50 ?_
            refine jIxor C dX9_wouldShift_51 ?_
            refine jIconst C (1 : Int32) dX9_wouldShift_52 ki_1 ?_
            refine jIloadn C dX9_wouldShift_53 rfl 2 rfl ?_
            refine jIshl C dX9_wouldShift_54 ?_
            refine jIxor C dX9_wouldShift_55 ?_
            obtain ⟨q15, e16, hf⟩ := bd1_some hf
            refine jVI C (X9_isIn_ok  e16) vb_X9_isIn mk_RX9_81 rfl rcM ⟨Nat.le_of_ble_eq_true rfl, Nat.le_of_ble_eq_true rfl⟩ rfl (Nat.le_of_ble_eq_true rfl) dX9_wouldShift_56 ?_
            refine jIfNe C 66 dX9_wouldShift_59 (by decide) (fun c17 => ?_) (fun c17 => ?_)
            · replace hf := itn hf c17
              refine jIconst C (0 : Int32) dX9_wouldShift_66 ki_0 ?_
              refine jIadd C dX9_wouldShift_67 ?_
              refine jIstore C dX9_wouldShift_68 (Nat.le_of_ble_eq_true rfl) [(4, .int (x4_1 + (0 : Int32))), (0, .ref (h 0)), (1, .int p1), (2, .int p2), (3, .int p3), (5, .int x5_2)] rfl ?_
              refine jIinc C (x5_2 + (1 : Int32)) dX9_wouldShift_70 5 rfl (congrArg (fun z : Int32 => x5_2 + z) ki_1) (Nat.le_of_ble_eq_true rfl) [(5, .int (x5_2 + (1 : Int32))), (4, .int (x4_1 + (0 : Int32))), (0, .ref (h 0)), (1, .int p1), (2, .int p2), (3, .int p3)] rfl ?_
              refine jGoto C 6 dX9_wouldShift_73 (by decide) ?_
              refine jSub [2, 3, 4, 5, 1, 0] rfl ?_
              exact ir4 (x4_1 + (0 : Int32)) (x5_2 + (1 : Int32)) hf
            · replace hf := itp hf c17
              refine jIconst C (1 : Int32) dX9_wouldShift_62 ki_1 ?_
              refine jGoto C 67 dX9_wouldShift_63 (by decide) ?_
              refine jIadd C dX9_wouldShift_67 ?_
              refine jIstore C dX9_wouldShift_68 (Nat.le_of_ble_eq_true rfl) [(4, .int (x4_1 + (1 : Int32))), (0, .ref (h 0)), (1, .int p1), (2, .int p2), (3, .int p3), (5, .int x5_2)] rfl ?_
              refine jIinc C (x5_2 + (1 : Int32)) dX9_wouldShift_70 5 rfl (congrArg (fun z : Int32 => x5_2 + z) ki_1) (Nat.le_of_ble_eq_true rfl) [(5, .int (x5_2 + (1 : Int32))), (4, .int (x4_1 + (1 : Int32))), (0, .ref (h 0)), (1, .int p1), (2, .int p2), (3, .int p3)] rfl ?_
              refine jGoto C 6 dX9_wouldShift_73 (by decide) ?_
              refine jSub [2, 3, 4, 5, 1, 0] rfl ?_
              exact ir4 (x4_1 + (1 : Int32)) (x5_2 + (1 : Int32)) hf
  refine jSub [2, 3, 4, 5, 1, 0] rfl ?_
  exact hL3 (0 : Int32) (0 : Int32) hf
noncomputable def X9_isShifted_h15 (mnow : Nat → Int32) (p1 : Int32) (r3 : Int32 → Option Int32) (x2_1 : Int32) (r9 : Int32 → Option Int32) (x3_7 : Int32) : Option Int32 := bd1 (X9_points mnow p1) (fun q10 => (if q10 ≤ x3_7 then r3 (x2_1 + (1 : Int32)) else bd1 (X9_wouldShift mnow p1 x2_1 x3_7) (fun q13 => (if q13 ≤ (0 : Int32) then r9 (x3_7 + (1 : Int32)) else some (0 : Int32)))))
noncomputable def X9_isShifted_h2 (mnow : Nat → Int32) (p1 : Int32) (r3 : Int32 → Option Int32) (x2_1 : Int32) : Option Int32 := bd1 (X9_points mnow p1) (fun q4 => (if q4 ≤ x2_1 then some (1 : Int32) else lfp1 (X9_isShifted_h15 mnow p1 r3 x2_1) (x2_1 + (1 : Int32))))
noncomputable def X9_isShifted (mnow : Nat → Int32) (p1 : Int32) : Option Int32 := lfp1 (X9_isShifted_h2 mnow p1) (0 : Int32)
set_option maxHeartbeats 4000000 in
set_option maxRecDepth 20000 in
theorem X9_isShifted_ok {p1 : Int32} {rr : Int32}  (hf : X9_isShifted mnow p1 = some rr) : MT yX9_isShifted cX9_isShifted 4 (some .boolean) 3 [.ref (h 0), .int p1] D cy G (mw h cy mthr mfrp mact mtpd msiz matx mfrm mtok mval mfk mfpl mbem mtrs mtrl mrom mtom mnow mfre mkep mtap mlef mtak mbes mrow mint mrnd mplo mhio mtox mtol) (mw h cy mthr mfrp mact mtpd msiz matx mfrm mtok mval mfk mfpl mbem mtrs mtrl mrom mtom mnow mfre mkep mtap mlef mtak mbes mrow mint mrnd mplo mhio mtox mtol) (some (.int rr)) := by
  refine MT.go (own := RX9) [(0, .ref (h 0)), (1, .int p1)] (by decide) rfl (Nat.le_of_ble_eq_true rfl) rfl (fun p l e s m args below meth c A Q C hQ => ?_)
  unfold X9_isShifted at hf
  refine jIconst C (0 : Int32) dX9_isShifted_0 ki_0 ?_
  refine jIstoren C dX9_isShifted_1 rfl (Nat.le_of_ble_eq_true rfl) [(2, .int (0 : Int32)), (0, .ref (h 0)), (1, .int p1)] rfl ?_
  have hL2 : ∀ (x2_1 : Int32), lfp1 (X9_isShifted_h2 mnow p1) x2_1 = some rr → J p l e (rmk 3) s m args below meth c D A Q 4 (mw h cy mthr mfrp mact mtpd msiz matx mfrm mtok mval mfk mfpl mbem mtrs mtrl mrom mtom mnow mfre mkep mtap mlef mtak mbes mrow mint mrnd mplo mhio mtox mtol) 2 [(0, .ref (h 0)), (1, .int p1), (2, .int x2_1)] [] := by
    intro x2_1 hw
    refine lfp1_walk (P := fun x2_1 => J p l e (rmk 3) s m args below meth c D A Q 4 (mw h cy mthr mfrp mact mtpd msiz matx mfrm mtok mval mfk mfpl mbem mtrs mtrl mrom mtom mnow mfre mkep mtap mlef mtak mbes mrow mint mrnd mplo mhio mtox mtol) 2 [(0, .ref (h 0)), (1, .int p1), (2, .int x2_1)] []) ?_ hw
    intro r3 ir3 x2_1 hf
    unfold X9_isShifted_h2 at hf
    refine jIloadn C dX9_isShifted_2 rfl 2 rfl ?_
    refine jAloadn C dX9_isShifted_3 rfl 0 rfl ?_
    refine jIloadn C dX9_isShifted_4 rfl 1 rfl ?_
    obtain ⟨q4, e5, hf⟩ := bd1_some hf
    refine jVI C (X9_points_ok  e5) vb_X9_points mk_RX9_78 rfl rcM ⟨Nat.le_of_ble_eq_true rfl, Nat.le_of_ble_eq_true rfl⟩ rfl (Nat.le_of_ble_eq_true rfl) dX9_isShifted_5 ?_
    refine jCmpGe C 48 dX9_isShifted_8 (by decide) (fun c6 => ?_) (fun c6 => ?_)
    · replace hf := itp hf c6
      refine jIconst C (1 : Int32) dX9_isShifted_48 ki_1 ?_
      cases hf
      exact jEndIZ C hQ rfl nar_z1 dX9_isShifted_49
    · replace hf := itn hf c6
      refine jIloadn C dX9_isShifted_11 rfl 2 rfl ?_
      refine jIconst C (1 : Int32) dX9_isShifted_12 ki_1 ?_
      refine jIadd C dX9_isShifted_13 ?_
      refine jIstoren C dX9_isShifted_14 rfl (Nat.le_of_ble_eq_true rfl) [(3, .int (x2_1 + (1 : Int32))), (0, .ref (h 0)), (1, .int p1), (2, .int x2_1)] rfl ?_
      have hL8 : ∀ (x3_7 : Int32), lfp1 (X9_isShifted_h15 mnow p1 r3 x2_1) x3_7 = some rr → J p l e (rmk 3) s m args below meth c D A Q 4 (mw h cy mthr mfrp mact mtpd msiz matx mfrm mtok mval mfk mfpl mbem mtrs mtrl mrom mtom mnow mfre mkep mtap mlef mtak mbes mrow mint mrnd mplo mhio mtox mtol) 15 [(0, .ref (h 0)), (1, .int p1), (2, .int x2_1), (3, .int x3_7)] [] := by
        intro x3_7 hw
        refine lfp1_walk (P := fun x3_7 => J p l e (rmk 3) s m args below meth c D A Q 4 (mw h cy mthr mfrp mact mtpd msiz matx mfrm mtok mval mfk mfpl mbem mtrs mtrl mrom mtom mnow mfre mkep mtap mlef mtak mbes mrow mint mrnd mplo mhio mtox mtol) 15 [(0, .ref (h 0)), (1, .int p1), (2, .int x2_1), (3, .int x3_7)] []) ?_ hw
        intro r9 ir9 x3_7 hf
        unfold X9_isShifted_h15 at hf
        refine jIloadn C dX9_isShifted_15 rfl 3 rfl ?_
        refine jAloadn C dX9_isShifted_16 rfl 0 rfl ?_
        refine jIloadn C dX9_isShifted_17 rfl 1 rfl ?_
        obtain ⟨q10, e11, hf⟩ := bd1_some hf
        refine jVI C (X9_points_ok  e11) vb_X9_points mk_RX9_78 rfl rcM ⟨Nat.le_of_ble_eq_true rfl, Nat.le_of_ble_eq_true rfl⟩ rfl (Nat.le_of_ble_eq_true rfl) dX9_isShifted_18 ?_
        refine jCmpGe C 42 dX9_isShifted_21 (by decide) (fun c12 => ?_) (fun c12 => ?_)
        · replace hf := itp hf c12
          refine jIinc C (x2_1 + (1 : Int32)) dX9_isShifted_42 2 rfl (congrArg (fun z : Int32 => x2_1 + z) ki_1) (Nat.le_of_ble_eq_true rfl) [(2, .int (x2_1 + (1 : Int32))), (0, .ref (h 0)), (1, .int p1), (3, .int x3_7)] rfl ?_
          refine jGoto C 2 dX9_isShifted_45 (by decide) ?_
          refine jSub [1, 2, 0] rfl ?_
          exact ir3 (x2_1 + (1 : Int32)) hf
        · replace hf := itn hf c12
          refine jAloadn C dX9_isShifted_24 rfl 0 rfl ?_
          refine jIloadn C dX9_isShifted_25 rfl 1 rfl ?_
          refine jIloadn C dX9_isShifted_26 rfl 2 rfl ?_
          refine jIloadn C dX9_isShifted_27 rfl 3 rfl ?_
          obtain ⟨q13, e14, hf⟩ := bd1_some hf
          refine jVI C (X9_wouldShift_ok  e14) vb_X9_wouldShift mk_RX9_219 rfl rcM ⟨Nat.le_of_ble_eq_true rfl, Nat.le_of_ble_eq_true rfl⟩ rfl (Nat.le_of_ble_eq_true rfl) dX9_isShifted_28 ?_
          refine jIfLe C 36 dX9_isShifted_31 (by decide) (fun c15 => ?_) (fun c15 => ?_)
          · replace hf := itp hf c15
            refine jIinc C (x3_7 + (1 : Int32)) dX9_isShifted_36 3 rfl (congrArg (fun z : Int32 => x3_7 + z) ki_1) (Nat.le_of_ble_eq_true rfl) [(3, .int (x3_7 + (1 : Int32))), (0, .ref (h 0)), (1, .int p1), (2, .int x2_1)] rfl ?_
            refine jGoto C 15 dX9_isShifted_39 (by decide) ?_
            refine jSub [1, 2, 3, 0] rfl ?_
            exact ir9 (x3_7 + (1 : Int32)) hf
          · replace hf := itn hf c15
            refine jIconst C (0 : Int32) dX9_isShifted_34 ki_0 ?_
            cases hf
            exact jEndIZ C hQ rfl nar_z0 dX9_isShifted_35
      refine jSub [1, 2, 3, 0] rfl ?_
      exact hL8 (x2_1 + (1 : Int32)) hf
  refine jSub [1, 2, 0] rfl ?_
  exact hL2 (0 : Int32) hf
noncomputable def X9_meetByThree_h19 (x3_5 : Int32) (r7 : Int32 → Option Int32) (mnow : Nat → Int32) (p1 : Int32) (x2_1 : Int32) (r11 : Int32 → Option Int32) (x4_9 : Int32) : Option Int32 := (if x3_5 < x4_9 then r7 (x3_5 + (1 : Int32)) else bd1 (X9_isIn mnow p1 x2_1) (fun q13 => (if q13 = (0 : Int32) then r7 (x3_5 + (1 : Int32)) else bd1 (X9_isIn mnow p1 x3_5) (fun q16 => (if q16 = (0 : Int32) then r7 (x3_5 + (1 : Int32)) else bd1 (X9_isIn mnow p1 x4_9) (fun q19 => (if q19 = (0 : Int32) then r11 (x4_9 + (1 : Int32)) else (if ((x2_1 &&& x3_5) &&& x4_9) = (0 : Int32) then some (0 : Int32) else r11 (x4_9 + (1 : Int32))))))))))
noncomputable def X9_meetByThree_h11 (x2_1 : Int32) (r3 : Int32 → Option Int32) (mnow : Nat → Int32) (p1 : Int32) (r7 : Int32 → Option Int32) (x3_5 : Int32) : Option Int32 := (if x2_1 < x3_5 then r3 (x2_1 + (1 : Int32)) else lfp1 (X9_meetByThree_h19 x3_5 r7 mnow p1 x2_1) (0 : Int32))
noncomputable def X9_meetByThree_h2 (mnow : Nat → Int32) (p1 : Int32) (r3 : Int32 → Option Int32) (x2_1 : Int32) : Option Int32 := (if (128 : Int32) ≤ x2_1 then some (1 : Int32) else lfp1 (X9_meetByThree_h11 x2_1 r3 mnow p1) (0 : Int32))
noncomputable def X9_meetByThree (mnow : Nat → Int32) (p1 : Int32) : Option Int32 := lfp1 (X9_meetByThree_h2 mnow p1) (0 : Int32)
set_option maxHeartbeats 4000000 in
set_option maxRecDepth 20000 in
theorem X9_meetByThree_ok {p1 : Int32} {rr : Int32}  (hf : X9_meetByThree mnow p1 = some rr) : MT yX9_meetByThree cX9_meetByThree 5 (some .boolean) 2 [.ref (h 0), .int p1] D cy G (mw h cy mthr mfrp mact mtpd msiz matx mfrm mtok mval mfk mfpl mbem mtrs mtrl mrom mtom mnow mfre mkep mtap mlef mtak mbes mrow mint mrnd mplo mhio mtox mtol) (mw h cy mthr mfrp mact mtpd msiz matx mfrm mtok mval mfk mfpl mbem mtrs mtrl mrom mtom mnow mfre mkep mtap mlef mtak mbes mrow mint mrnd mplo mhio mtox mtol) (some (.int rr)) := by
  refine MT.go (own := RX9) [(0, .ref (h 0)), (1, .int p1)] (by decide) rfl (Nat.le_of_ble_eq_true rfl) rfl (fun p l e s m args below meth c A Q C hQ => ?_)
  unfold X9_meetByThree at hf
  refine jIconst C (0 : Int32) dX9_meetByThree_0 ki_0 ?_
  refine jIstoren C dX9_meetByThree_1 rfl (Nat.le_of_ble_eq_true rfl) [(2, .int (0 : Int32)), (0, .ref (h 0)), (1, .int p1)] rfl ?_
  have hL2 : ∀ (x2_1 : Int32), lfp1 (X9_meetByThree_h2 mnow p1) x2_1 = some rr → J p l e (rmk 2) s m args below meth c D A Q 5 (mw h cy mthr mfrp mact mtpd msiz matx mfrm mtok mval mfk mfpl mbem mtrs mtrl mrom mtom mnow mfre mkep mtap mlef mtak mbes mrow mint mrnd mplo mhio mtox mtol) 2 [(0, .ref (h 0)), (1, .int p1), (2, .int x2_1)] [] := by
    intro x2_1 hw
    refine lfp1_walk (P := fun x2_1 => J p l e (rmk 2) s m args below meth c D A Q 5 (mw h cy mthr mfrp mact mtpd msiz matx mfrm mtok mval mfk mfpl mbem mtrs mtrl mrom mtom mnow mfre mkep mtap mlef mtak mbes mrow mint mrnd mplo mhio mtox mtol) 2 [(0, .ref (h 0)), (1, .int p1), (2, .int x2_1)] []) ?_ hw
    intro r3 ir3 x2_1 hf
    unfold X9_meetByThree_h2 at hf
    refine jIloadn C dX9_meetByThree_2 rfl 2 rfl ?_
    refine jSipush C (128 : Int32) dX9_meetByThree_3 ks_128 ?_
    refine jCmpGe C 82 dX9_meetByThree_6 (by decide) (fun c4 => ?_) (fun c4 => ?_)
    · replace hf := itp hf c4
      refine jIconst C (1 : Int32) dX9_meetByThree_82 ki_1 ?_
      cases hf
      exact jEndIZ C hQ rfl nar_z1 dX9_meetByThree_83
    · replace hf := itn hf c4
      refine jIconst C (0 : Int32) dX9_meetByThree_9 ki_0 ?_
      refine jIstoren C dX9_meetByThree_10 rfl (Nat.le_of_ble_eq_true rfl) [(3, .int (0 : Int32)), (0, .ref (h 0)), (1, .int p1), (2, .int x2_1)] rfl ?_
      have hL6 : ∀ (x3_5 : Int32), lfp1 (X9_meetByThree_h11 x2_1 r3 mnow p1) x3_5 = some rr → J p l e (rmk 2) s m args below meth c D A Q 5 (mw h cy mthr mfrp mact mtpd msiz matx mfrm mtok mval mfk mfpl mbem mtrs mtrl mrom mtom mnow mfre mkep mtap mlef mtak mbes mrow mint mrnd mplo mhio mtox mtol) 11 [(0, .ref (h 0)), (1, .int p1), (2, .int x2_1), (3, .int x3_5)] [] := by
        intro x3_5 hw
        refine lfp1_walk (P := fun x3_5 => J p l e (rmk 2) s m args below meth c D A Q 5 (mw h cy mthr mfrp mact mtpd msiz matx mfrm mtok mval mfk mfpl mbem mtrs mtrl mrom mtom mnow mfre mkep mtap mlef mtak mbes mrow mint mrnd mplo mhio mtox mtol) 11 [(0, .ref (h 0)), (1, .int p1), (2, .int x2_1), (3, .int x3_5)] []) ?_ hw
        intro r7 ir7 x3_5 hf
        unfold X9_meetByThree_h11 at hf
        refine jIloadn C dX9_meetByThree_11 rfl 3 rfl ?_
        refine jIloadn C dX9_meetByThree_12 rfl 2 rfl ?_
        refine jCmpGt C 76 dX9_meetByThree_13 (by decide) (fun c8 => ?_) (fun c8 => ?_)
        · replace hf := itp hf c8
          refine jIinc C (x2_1 + (1 : Int32)) dX9_meetByThree_76 2 rfl (congrArg (fun z : Int32 => x2_1 + z) ki_1) (Nat.le_of_ble_eq_true rfl) [(2, .int (x2_1 + (1 : Int32))), (0, .ref (h 0)), (1, .int p1), (3, .int x3_5)] rfl ?_
          refine jGoto C 2 dX9_meetByThree_79 (by decide) ?_
          refine jSub [1, 2, 0] rfl ?_
          exact ir3 (x2_1 + (1 : Int32)) hf
        · replace hf := itn hf c8
          refine jIconst C (0 : Int32) dX9_meetByThree_16 ki_0 ?_
          refine jIstore C dX9_meetByThree_17 (Nat.le_of_ble_eq_true rfl) [(4, .int (0 : Int32)), (0, .ref (h 0)), (1, .int p1), (2, .int x2_1), (3, .int x3_5)] rfl ?_
          have hL10 : ∀ (x4_9 : Int32), lfp1 (X9_meetByThree_h19 x3_5 r7 mnow p1 x2_1) x4_9 = some rr → J p l e (rmk 2) s m args below meth c D A Q 5 (mw h cy mthr mfrp mact mtpd msiz matx mfrm mtok mval mfk mfpl mbem mtrs mtrl mrom mtom mnow mfre mkep mtap mlef mtak mbes mrow mint mrnd mplo mhio mtox mtol) 19 [(0, .ref (h 0)), (1, .int p1), (2, .int x2_1), (3, .int x3_5), (4, .int x4_9)] [] := by
            intro x4_9 hw
            refine lfp1_walk (P := fun x4_9 => J p l e (rmk 2) s m args below meth c D A Q 5 (mw h cy mthr mfrp mact mtpd msiz matx mfrm mtok mval mfk mfpl mbem mtrs mtrl mrom mtom mnow mfre mkep mtap mlef mtak mbes mrow mint mrnd mplo mhio mtox mtol) 19 [(0, .ref (h 0)), (1, .int p1), (2, .int x2_1), (3, .int x3_5), (4, .int x4_9)] []) ?_ hw
            intro r11 ir11 x4_9 hf
            unfold X9_meetByThree_h19 at hf
            refine jIload C dX9_meetByThree_19 4 rfl ?_
            refine jIloadn C dX9_meetByThree_21 rfl 3 rfl ?_
            refine jCmpGt C 70 dX9_meetByThree_22 (by decide) (fun c12 => ?_) (fun c12 => ?_)
            · replace hf := itp hf c12
              refine jIinc C (x3_5 + (1 : Int32)) dX9_meetByThree_70 3 rfl (congrArg (fun z : Int32 => x3_5 + z) ki_1) (Nat.le_of_ble_eq_true rfl) [(3, .int (x3_5 + (1 : Int32))), (0, .ref (h 0)), (1, .int p1), (2, .int x2_1), (4, .int x4_9)] rfl ?_
              refine jGoto C 11 dX9_meetByThree_73 (by decide) ?_
              refine jSub [1, 2, 3, 0] rfl ?_
              exact ir7 (x3_5 + (1 : Int32)) hf
            · replace hf := itn hf c12
              refine jAloadn C dX9_meetByThree_25 rfl 0 rfl ?_
              refine jIloadn C dX9_meetByThree_26 rfl 1 rfl ?_
              refine jIloadn C dX9_meetByThree_27 rfl 2 rfl ?_
              obtain ⟨q13, e14, hf⟩ := bd1_some hf
              refine jVI C (X9_isIn_ok  e14) vb_X9_isIn mk_RX9_81 rfl rcM ⟨Nat.le_of_ble_eq_true rfl, Nat.le_of_ble_eq_true rfl⟩ rfl (Nat.le_of_ble_eq_true rfl) dX9_meetByThree_28 ?_
              refine jIfEq C 70 dX9_meetByThree_31 (by decide) (fun c15 => ?_) (fun c15 => ?_)
              · replace hf := itp hf c15
                refine jIinc C (x3_5 + (1 : Int32)) dX9_meetByThree_70 3 rfl (congrArg (fun z : Int32 => x3_5 + z) ki_1) (Nat.le_of_ble_eq_true rfl) [(3, .int (x3_5 + (1 : Int32))), (0, .ref (h 0)), (1, .int p1), (2, .int x2_1), (4, .int x4_9)] rfl ?_
                refine jGoto C 11 dX9_meetByThree_73 (by decide) ?_
                refine jSub [1, 2, 3, 0] rfl ?_
                exact ir7 (x3_5 + (1 : Int32)) hf
              · replace hf := itn hf c15
                refine jAloadn C dX9_meetByThree_34 rfl 0 rfl ?_
                refine jIloadn C dX9_meetByThree_35 rfl 1 rfl ?_
                refine jIloadn C dX9_meetByThree_36 rfl 3 rfl ?_
                obtain ⟨q16, e17, hf⟩ := bd1_some hf
                refine jVI C (X9_isIn_ok  e17) vb_X9_isIn mk_RX9_81 rfl rcM ⟨Nat.le_of_ble_eq_true rfl, Nat.le_of_ble_eq_true rfl⟩ rfl (Nat.le_of_ble_eq_true rfl) dX9_meetByThree_37 ?_
                refine jIfEq C 70 dX9_meetByThree_40 (by decide) (fun c18 => ?_) (fun c18 => ?_)
                · replace hf := itp hf c18
                  refine jIinc C (x3_5 + (1 : Int32)) dX9_meetByThree_70 3 rfl (congrArg (fun z : Int32 => x3_5 + z) ki_1) (Nat.le_of_ble_eq_true rfl) [(3, .int (x3_5 + (1 : Int32))), (0, .ref (h 0)), (1, .int p1), (2, .int x2_1), (4, .int x4_9)] rfl ?_
                  refine jGoto C 11 dX9_meetByThree_73 (by decide) ?_
                  refine jSub [1, 2, 3, 0] rfl ?_
                  exact ir7 (x3_5 + (1 : Int32)) hf
                · replace hf := itn hf c18
                  refine jAloadn C dX9_meetByThree_43 rfl 0 rfl ?_
                  refine jIloadn C dX9_meetByThree_44 rfl 1 rfl ?_
                  refine jIload C dX9_meetByThree_45 4 rfl ?_
                  obtain ⟨q19, e20, hf⟩ := bd1_some hf
                  refine jVI C (X9_isIn_ok  e20) vb_X9_isIn mk_RX9_81 rfl rcM ⟨Nat.le_of_ble_eq_true rfl, Nat.le_of_ble_eq_true rfl⟩ rfl (Nat.le_of_ble_eq_true rfl) dX9_meetByThree_47 ?_
                  refine jIfEq C 64 dX9_meetByThree_50 (by decide) (fun c21 => ?_) (fun c21 => ?_)
                  · replace hf := itp hf c21
                    refine jIinc C (x4_9 + (1 : Int32)) dX9_meetByThree_64 4 rfl (congrArg (fun z : Int32 => x4_9 + z) ki_1) (Nat.le_of_ble_eq_true rfl) [(4, .int (x4_9 + (1 : Int32))), (0, .ref (h 0)), (1, .int p1), (2, .int x2_1), (3, .int x3_5)] rfl ?_
                    refine jGoto C 19 dX9_meetByThree_67 (by decide) ?_
                    refine jSub [1, 2, 3, 4, 0] rfl ?_
                    exact ir11 (x4_9 + (1 : Int32)) hf
                  · replace hf := itn hf c21
                    refine jIloadn C dX9_meetByThree_53 rfl 2 rfl ?_
                    refine jIloadn C dX9_meetByThree_54 rfl 3 rfl ?_
                    refine jIand C dX9_meetByThree_55 ?_
                    refine jIload C dX9_meetByThree_56 4 rfl ?_
                    refine jIand C dX9_meetByThree_58 ?_
                    refine jIfNe C 64 dX9_meetByThree_59 (by decide) (fun c22 => ?_) (fun c22 => ?_)
                    · replace hf := itn hf c22
                      refine jIinc C (x4_9 + (1 : Int32)) dX9_meetByThree_64 4 rfl (congrArg (fun z : Int32 => x4_9 + z) ki_1) (Nat.le_of_ble_eq_true rfl) [(4, .int (x4_9 + (1 : Int32))), (0, .ref (h 0)), (1, .int p1), (2, .int x2_1), (3, .int x3_5)] rfl ?_
                      refine jGoto C 19 dX9_meetByThree_67 (by decide) ?_
                      refine jSub [1, 2, 3, 4, 0] rfl ?_
                      exact ir11 (x4_9 + (1 : Int32)) hf
                    · replace hf := itp hf c22
                      refine jIconst C (0 : Int32) dX9_meetByThree_62 ki_0 ?_
                      cases hf
                      exact jEndIZ C hQ rfl nar_z0 dX9_meetByThree_63
          refine jSub [1, 2, 3, 4, 0] rfl ?_
          exact hL10 (0 : Int32) hf
      refine jSub [1, 2, 3, 0] rfl ?_
      exact hL6 (0 : Int32) hf
  refine jSub [1, 2, 0] rfl ?_
  exact hL2 (0 : Int32) hf
noncomputable def X9_isClosed_h12 (x3_1 : Int32) (r3 : Int32 → Option Int32) (mnow : Nat → Int32) (p1 : Int32) (p2 : Int32) (r7 : Int32 → Option Int32) (x4_5 : Int32) : Option Int32 := (if x3_1 ≤ x4_5 then r3 (x3_1 + (1 : Int32)) else bd1 (X9_isIn mnow p1 x3_1) (fun q9 => (if q9 = (0 : Int32) then r7 (x4_5 + (1 : Int32)) else bd1 (X9_isIn mnow p1 x4_5) (fun q12 => (if q12 = (0 : Int32) then r7 (x4_5 + (1 : Int32)) else (if p2 = (0 : Int32) then bd1 (X9_isIn mnow p1 (x3_1 &&& x4_5)) (fun q16 => (if q16 = (0 : Int32) then some (0 : Int32) else r7 (x4_5 + (1 : Int32)))) else bd1 (X9_isIn mnow p1 (x3_1 ||| x4_5)) (fun q19 => (if q19 = (0 : Int32) then some (0 : Int32) else r7 (x4_5 + (1 : Int32))))))))))
noncomputable def X9_isClosed_h2 (mnow : Nat → Int32) (p1 : Int32) (p2 : Int32) (r3 : Int32 → Option Int32) (x3_1 : Int32) : Option Int32 := (if (128 : Int32) ≤ x3_1 then some (1 : Int32) else lfp1 (X9_isClosed_h12 x3_1 r3 mnow p1 p2) (0 : Int32))
noncomputable def X9_isClosed (mnow : Nat → Int32) (p1 : Int32) (p2 : Int32) : Option Int32 := lfp1 (X9_isClosed_h2 mnow p1 p2) (0 : Int32)
set_option maxHeartbeats 4000000 in
set_option maxRecDepth 20000 in
theorem X9_isClosed_ok {p1 : Int32} {p2 : Int32} {rr : Int32}  (hf : X9_isClosed mnow p1 p2 = some rr) : MT yX9_isClosed cX9_isClosed 5 (some .boolean) 2 [.ref (h 0), .int p1, .int p2] D cy G (mw h cy mthr mfrp mact mtpd msiz matx mfrm mtok mval mfk mfpl mbem mtrs mtrl mrom mtom mnow mfre mkep mtap mlef mtak mbes mrow mint mrnd mplo mhio mtox mtol) (mw h cy mthr mfrp mact mtpd msiz matx mfrm mtok mval mfk mfpl mbem mtrs mtrl mrom mtom mnow mfre mkep mtap mlef mtak mbes mrow mint mrnd mplo mhio mtox mtol) (some (.int rr)) := by
  refine MT.go (own := RX9) [(0, .ref (h 0)), (1, .int p1), (2, .int p2)] (by decide) rfl (Nat.le_of_ble_eq_true rfl) rfl (fun p l e s m args below meth c A Q C hQ => ?_)
  unfold X9_isClosed at hf
  refine jIconst C (0 : Int32) dX9_isClosed_0 ki_0 ?_
  refine jIstoren C dX9_isClosed_1 rfl (Nat.le_of_ble_eq_true rfl) [(3, .int (0 : Int32)), (0, .ref (h 0)), (1, .int p1), (2, .int p2)] rfl ?_
  have hL2 : ∀ (x3_1 : Int32), lfp1 (X9_isClosed_h2 mnow p1 p2) x3_1 = some rr → J p l e (rmk 2) s m args below meth c D A Q 5 (mw h cy mthr mfrp mact mtpd msiz matx mfrm mtok mval mfk mfpl mbem mtrs mtrl mrom mtom mnow mfre mkep mtap mlef mtak mbes mrow mint mrnd mplo mhio mtox mtol) 2 [(0, .ref (h 0)), (1, .int p1), (2, .int p2), (3, .int x3_1)] [] := by
    intro x3_1 hw
    refine lfp1_walk (P := fun x3_1 => J p l e (rmk 2) s m args below meth c D A Q 5 (mw h cy mthr mfrp mact mtpd msiz matx mfrm mtok mval mfk mfpl mbem mtrs mtrl mrom mtom mnow mfre mkep mtap mlef mtak mbes mrow mint mrnd mplo mhio mtox mtol) 2 [(0, .ref (h 0)), (1, .int p1), (2, .int p2), (3, .int x3_1)] []) ?_ hw
    intro r3 ir3 x3_1 hf
    unfold X9_isClosed_h2 at hf
    refine jIloadn C dX9_isClosed_2 rfl 3 rfl ?_
    refine jSipush C (128 : Int32) dX9_isClosed_3 ks_128 ?_
    refine jCmpGe C 74 dX9_isClosed_6 (by decide) (fun c4 => ?_) (fun c4 => ?_)
    · replace hf := itp hf c4
      refine jIconst C (1 : Int32) dX9_isClosed_74 ki_1 ?_
      cases hf
      exact jEndIZ C hQ rfl nar_z1 dX9_isClosed_75
    · replace hf := itn hf c4
      refine jIconst C (0 : Int32) dX9_isClosed_9 ki_0 ?_
      refine jIstore C dX9_isClosed_10 (Nat.le_of_ble_eq_true rfl) [(4, .int (0 : Int32)), (0, .ref (h 0)), (1, .int p1), (2, .int p2), (3, .int x3_1)] rfl ?_
      have hL6 : ∀ (x4_5 : Int32), lfp1 (X9_isClosed_h12 x3_1 r3 mnow p1 p2) x4_5 = some rr → J p l e (rmk 2) s m args below meth c D A Q 5 (mw h cy mthr mfrp mact mtpd msiz matx mfrm mtok mval mfk mfpl mbem mtrs mtrl mrom mtom mnow mfre mkep mtap mlef mtak mbes mrow mint mrnd mplo mhio mtox mtol) 12 [(0, .ref (h 0)), (1, .int p1), (2, .int p2), (3, .int x3_1), (4, .int x4_5)] [] := by
        intro x4_5 hw
        refine lfp1_walk (P := fun x4_5 => J p l e (rmk 2) s m args below meth c D A Q 5 (mw h cy mthr mfrp mact mtpd msiz matx mfrm mtok mval mfk mfpl mbem mtrs mtrl mrom mtom mnow mfre mkep mtap mlef mtak mbes mrow mint mrnd mplo mhio mtox mtol) 12 [(0, .ref (h 0)), (1, .int p1), (2, .int p2), (3, .int x3_1), (4, .int x4_5)] []) ?_ hw
        intro r7 ir7 x4_5 hf
        unfold X9_isClosed_h12 at hf
        refine jIload C dX9_isClosed_12 4 rfl ?_
        refine jIloadn C dX9_isClosed_14 rfl 3 rfl ?_
        refine jCmpGe C 68 dX9_isClosed_15 (by decide) (fun c8 => ?_) (fun c8 => ?_)
        · replace hf := itp hf c8
          refine jIinc C (x3_1 + (1 : Int32)) dX9_isClosed_68 3 rfl (congrArg (fun z : Int32 => x3_1 + z) ki_1) (Nat.le_of_ble_eq_true rfl) [(3, .int (x3_1 + (1 : Int32))), (0, .ref (h 0)), (1, .int p1), (2, .int p2), (4, .int x4_5)] rfl ?_
          refine jGoto C 2 dX9_isClosed_71 (by decide) ?_
          refine jSub [1, 2, 3, 0] rfl ?_
          exact ir3 (x3_1 + (1 : Int32)) hf
        · replace hf := itn hf c8
          refine jAloadn C dX9_isClosed_18 rfl 0 rfl ?_
          refine jIloadn C dX9_isClosed_19 rfl 1 rfl ?_
          refine jIloadn C dX9_isClosed_20 rfl 3 rfl ?_
          obtain ⟨q9, e10, hf⟩ := bd1_some hf
          refine jVI C (X9_isIn_ok  e10) vb_X9_isIn mk_RX9_81 rfl rcM ⟨Nat.le_of_ble_eq_true rfl, Nat.le_of_ble_eq_true rfl⟩ rfl (Nat.le_of_ble_eq_true rfl) dX9_isClosed_21 ?_
          refine jIfEq C 62 dX9_isClosed_24 (by decide) (fun c11 => ?_) (fun c11 => ?_)
          · replace hf := itp hf c11
            refine jIinc C (x4_5 + (1 : Int32)) dX9_isClosed_62 4 rfl (congrArg (fun z : Int32 => x4_5 + z) ki_1) (Nat.le_of_ble_eq_true rfl) [(4, .int (x4_5 + (1 : Int32))), (0, .ref (h 0)), (1, .int p1), (2, .int p2), (3, .int x3_1)] rfl ?_
            refine jGoto C 12 dX9_isClosed_65 (by decide) ?_
            refine jSub [1, 2, 3, 4, 0] rfl ?_
            exact ir7 (x4_5 + (1 : Int32)) hf
          · replace hf := itn hf c11
            refine jAloadn C dX9_isClosed_27 rfl 0 rfl ?_
            refine jIloadn C dX9_isClosed_28 rfl 1 rfl ?_
            refine jIload C dX9_isClosed_29 4 rfl ?_
            obtain ⟨q12, e13, hf⟩ := bd1_some hf
            refine jVI C (X9_isIn_ok  e13) vb_X9_isIn mk_RX9_81 rfl rcM ⟨Nat.le_of_ble_eq_true rfl, Nat.le_of_ble_eq_true rfl⟩ rfl (Nat.le_of_ble_eq_true rfl) dX9_isClosed_31 ?_
            refine jIfEq C 62 dX9_isClosed_34 (by decide) (fun c14 => ?_) (fun c14 => ?_)
            · replace hf := itp hf c14
              refine jIinc C (x4_5 + (1 : Int32)) dX9_isClosed_62 4 rfl (congrArg (fun z : Int32 => x4_5 + z) ki_1) (Nat.le_of_ble_eq_true rfl) [(4, .int (x4_5 + (1 : Int32))), (0, .ref (h 0)), (1, .int p1), (2, .int p2), (3, .int x3_1)] rfl ?_
              refine jGoto C 12 dX9_isClosed_65 (by decide) ?_
              refine jSub [1, 2, 3, 4, 0] rfl ?_
              exact ir7 (x4_5 + (1 : Int32)) hf
            · replace hf := itn hf c14
              refine jAloadn C dX9_isClosed_37 rfl 0 rfl ?_
              refine jIloadn C dX9_isClosed_38 rfl 1 rfl ?_
              refine jIloadn C dX9_isClosed_39 rfl 2 rfl ?_
              refine jIfEq C 50 dX9_isClosed_40 (by decide) (fun c15 => ?_) (fun c15 => ?_)
              · replace hf := itp hf c15
                refine jIloadn C dX9_isClosed_50 rfl 3 rfl ?_
                refine jIload C dX9_isClosed_51 4 rfl ?_
                refine jIand C dX9_isClosed_53 ?_
                obtain ⟨q16, e17, hf⟩ := bd1_some hf
                refine jVI C (X9_isIn_ok  e17) vb_X9_isIn mk_RX9_81 rfl rcM ⟨Nat.le_of_ble_eq_true rfl, Nat.le_of_ble_eq_true rfl⟩ rfl (Nat.le_of_ble_eq_true rfl) dX9_isClosed_54 ?_
                refine jIfNe C 62 dX9_isClosed_57 (by decide) (fun c18 => ?_) (fun c18 => ?_)
                · replace hf := itn hf c18
                  refine jIinc C (x4_5 + (1 : Int32)) dX9_isClosed_62 4 rfl (congrArg (fun z : Int32 => x4_5 + z) ki_1) (Nat.le_of_ble_eq_true rfl) [(4, .int (x4_5 + (1 : Int32))), (0, .ref (h 0)), (1, .int p1), (2, .int p2), (3, .int x3_1)] rfl ?_
                  refine jGoto C 12 dX9_isClosed_65 (by decide) ?_
                  refine jSub [1, 2, 3, 4, 0] rfl ?_
                  exact ir7 (x4_5 + (1 : Int32)) hf
                · replace hf := itp hf c18
                  refine jIconst C (0 : Int32) dX9_isClosed_60 ki_0 ?_
                  cases hf
                  exact jEndIZ C hQ rfl nar_z0 dX9_isClosed_61
              · replace hf := itn hf c15
                refine jIloadn C dX9_isClosed_43 rfl 3 rfl ?_
                refine jIload C dX9_isClosed_44 4 rfl ?_
                refine jIor C dX9_isClosed_46 ?_
                refine jGoto C 54 dX9_isClosed_47 (by decide) ?_
                obtain ⟨q19, e20, hf⟩ := bd1_some hf
                refine jVI C (X9_isIn_ok  e20) vb_X9_isIn mk_RX9_81 rfl rcM ⟨Nat.le_of_ble_eq_true rfl, Nat.le_of_ble_eq_true rfl⟩ rfl (Nat.le_of_ble_eq_true rfl) dX9_isClosed_54 ?_
                refine jIfNe C 62 dX9_isClosed_57 (by decide) (fun c21 => ?_) (fun c21 => ?_)
                · replace hf := itn hf c21
                  refine jIinc C (x4_5 + (1 : Int32)) dX9_isClosed_62 4 rfl (congrArg (fun z : Int32 => x4_5 + z) ki_1) (Nat.le_of_ble_eq_true rfl) [(4, .int (x4_5 + (1 : Int32))), (0, .ref (h 0)), (1, .int p1), (2, .int p2), (3, .int x3_1)] rfl ?_
                  refine jGoto C 12 dX9_isClosed_65 (by decide) ?_
                  refine jSub [1, 2, 3, 4, 0] rfl ?_
                  exact ir7 (x4_5 + (1 : Int32)) hf
                · replace hf := itp hf c21
                  refine jIconst C (0 : Int32) dX9_isClosed_60 ki_0 ?_
                  cases hf
                  exact jEndIZ C hQ rfl nar_z0 dX9_isClosed_61
      refine jSub [1, 2, 3, 4, 0] rfl ?_
      exact hL6 (0 : Int32) hf
  refine jSub [1, 2, 3, 0] rfl ?_
  exact hL2 (0 : Int32) hf
noncomputable def X9_isSo (mnow : Nat → Int32) (p1 : Int32) (p2 : Int32) : Option Int32 := (if p2 = (2 : Int32) then bd1 (X9_isShut mnow p1 (0 : Int32)) (fun q2 => gbo q2 (some q2)) else (if p2 = (3 : Int32) then bd1 (X9_isShut mnow p1 (1 : Int32)) (fun q6 => gbo q6 (some q6)) else (if p2 = (4 : Int32) then bd1 (X9_areAll mnow p1 p2) (fun q10 => gbo q10 (some q10)) else (if p2 = (5 : Int32) then bd1 (X9_areAll mnow p1 p2) (fun q14 => gbo q14 (some q14)) else (if p2 = (6 : Int32) then bd1 (X9_many mnow p1) (fun q18 => (if q18 = (0 : Int32) then some (1 : Int32) else bd1 (X9_looked mnow p1 (5 : Int32) (-1 : Int32)) (fun q21 => (if q21 = (0 : Int32) then some (0 : Int32) else some (1 : Int32))))) else (if p2 = (7 : Int32) then bd1 (X9_isShifted mnow p1) (fun q25 => gbo q25 (some q25)) else (if p2 = (8 : Int32) then bd1 (X9_meetByThree mnow p1) (fun q29 => gbo q29 (some q29)) else (if p2 = (9 : Int32) then bd1 (X9_isClosed mnow p1 (0 : Int32)) (fun q33 => gbo q33 (some q33)) else (if p2 = (10 : Int32) then bd1 (X9_isClosed mnow p1 (1 : Int32)) (fun q37 => gbo q37 (some q37)) else bd1 (X9_areAll mnow p1 p2) (fun q40 => gbo q40 (some q40)))))))))))
set_option maxHeartbeats 4000000 in
set_option maxRecDepth 20000 in
theorem X9_isSo_ok {p1 : Int32} {p2 : Int32} {rr : Int32}  (hf : X9_isSo mnow p1 p2 = some rr) : MT yX9_isSo cX9_isSo 3 (some .boolean) 4 [.ref (h 0), .int p1, .int p2] D cy G (mw h cy mthr mfrp mact mtpd msiz matx mfrm mtok mval mfk mfpl mbem mtrs mtrl mrom mtom mnow mfre mkep mtap mlef mtak mbes mrow mint mrnd mplo mhio mtox mtol) (mw h cy mthr mfrp mact mtpd msiz matx mfrm mtok mval mfk mfpl mbem mtrs mtrl mrom mtom mnow mfre mkep mtap mlef mtak mbes mrow mint mrnd mplo mhio mtox mtol) (some (.int rr)) := by
  refine MT.go (own := RX9) [(0, .ref (h 0)), (1, .int p1), (2, .int p2)] (by decide) rfl (Nat.le_of_ble_eq_true rfl) rfl (fun p l e s m args below meth c A Q C hQ => ?_)
  unfold X9_isSo at hf
  refine jIloadn C dX9_isSo_0 rfl 2 rfl ?_
  by_cases c1 : p2 = (2 : Int32)
  · replace hf := itp hf c1
    refine jTabIn C 52 dX9_isSo_1 (by rw [c1]; decide) (by rw [c1]; decide) (by rw [c1]; rfl) (by decide) ?_
    refine jAloadn C dX9_isSo_52 rfl 0 rfl ?_
    refine jIloadn C dX9_isSo_53 rfl 1 rfl ?_
    refine jIconst C (0 : Int32) dX9_isSo_54 ki_0 ?_
    obtain ⟨q2, e3, hf⟩ := bd1_some hf
    refine jVI C (X9_isShut_ok  e3) vb_X9_isShut mk_RX9_222 rfl rcM ⟨Nat.le_of_ble_eq_true rfl, Nat.le_of_ble_eq_true rfl⟩ rfl (Nat.le_of_ble_eq_true rfl) dX9_isSo_55 ?_
    obtain ⟨z4, hf⟩ := gbo_some hf
    cases hf
    exact jEndIZ C hQ rfl z4 dX9_isSo_58
  replace hf := itn hf c1
  by_cases c5 : p2 = (3 : Int32)
  · replace hf := itp hf c5
    refine jTabIn C 59 dX9_isSo_1 (by rw [c5]; decide) (by rw [c5]; decide) (by rw [c5]; rfl) (by decide) ?_
    refine jAloadn C dX9_isSo_59 rfl 0 rfl ?_
    refine jIloadn C dX9_isSo_60 rfl 1 rfl ?_
    refine jIconst C (1 : Int32) dX9_isSo_61 ki_1 ?_
    obtain ⟨q6, e7, hf⟩ := bd1_some hf
    refine jVI C (X9_isShut_ok  e7) vb_X9_isShut mk_RX9_222 rfl rcM ⟨Nat.le_of_ble_eq_true rfl, Nat.le_of_ble_eq_true rfl⟩ rfl (Nat.le_of_ble_eq_true rfl) dX9_isSo_62 ?_
    obtain ⟨z8, hf⟩ := gbo_some hf
    cases hf
    exact jEndIZ C hQ rfl z8 dX9_isSo_65
  replace hf := itn hf c5
  by_cases c9 : p2 = (4 : Int32)
  · replace hf := itp hf c9
    refine jTabIn C 116 dX9_isSo_1 (by rw [c9]; decide) (by rw [c9]; decide) (by rw [c9]; rfl) (by decide) ?_
    refine jAloadn C dX9_isSo_116 rfl 0 rfl ?_
    refine jIloadn C dX9_isSo_117 rfl 1 rfl ?_
    refine jIloadn C dX9_isSo_118 rfl 2 rfl ?_
    obtain ⟨q10, e11, hf⟩ := bd1_some hf
    refine jVI C (X9_areAll_ok  e11) vb_X9_areAll mk_RX9_235 rfl rcM ⟨Nat.le_of_ble_eq_true rfl, Nat.le_of_ble_eq_true rfl⟩ rfl (Nat.le_of_ble_eq_true rfl) dX9_isSo_119 ?_
    obtain ⟨z12, hf⟩ := gbo_some hf
    cases hf
    exact jEndIZ C hQ rfl z12 dX9_isSo_122
  replace hf := itn hf c9
  by_cases c13 : p2 = (5 : Int32)
  · replace hf := itp hf c13
    refine jTabIn C 116 dX9_isSo_1 (by rw [c13]; decide) (by rw [c13]; decide) (by rw [c13]; rfl) (by decide) ?_
    refine jAloadn C dX9_isSo_116 rfl 0 rfl ?_
    refine jIloadn C dX9_isSo_117 rfl 1 rfl ?_
    refine jIloadn C dX9_isSo_118 rfl 2 rfl ?_
    obtain ⟨q14, e15, hf⟩ := bd1_some hf
    refine jVI C (X9_areAll_ok  e15) vb_X9_areAll mk_RX9_235 rfl rcM ⟨Nat.le_of_ble_eq_true rfl, Nat.le_of_ble_eq_true rfl⟩ rfl (Nat.le_of_ble_eq_true rfl) dX9_isSo_119 ?_
    obtain ⟨z16, hf⟩ := gbo_some hf
    cases hf
    exact jEndIZ C hQ rfl z16 dX9_isSo_122
  replace hf := itn hf c13
  by_cases c17 : p2 = (6 : Int32)
  · replace hf := itp hf c17
    refine jTabIn C 66 dX9_isSo_1 (by rw [c17]; decide) (by rw [c17]; decide) (by rw [c17]; rfl) (by decide) ?_
    refine jAloadn C dX9_isSo_66 rfl 0 rfl ?_
    refine jIloadn C dX9_isSo_67 rfl 1 rfl ?_
    obtain ⟨q18, e19, hf⟩ := bd1_some hf
    refine jVI C (X9_many_ok  e19) vb_X9_many mk_RX9_97 rfl rcM ⟨Nat.le_of_ble_eq_true rfl, Nat.le_of_ble_eq_true rfl⟩ rfl (Nat.le_of_ble_eq_true rfl) dX9_isSo_68 ?_
    refine jIfEq C 84 dX9_isSo_71 (by decide) (fun c20 => ?_) (fun c20 => ?_)
    · replace hf := itp hf c20
      refine jIconst C (1 : Int32) dX9_isSo_84 ki_1 ?_
      refine jGoto C 89 dX9_isSo_85 (by decide) ?_
      cases hf
      exact jEndIZ C hQ rfl nar_z1 dX9_isSo_89
    · replace hf := itn hf c20
      refine jAloadn C dX9_isSo_74 rfl 0 rfl ?_
      refine jIloadn C dX9_isSo_75 rfl 1 rfl ?_
      refine jIconst C (5 : Int32) dX9_isSo_76 ki_5 ?_
      refine jIconst C (-1 : Int32) dX9_isSo_77 ki_m1 ?_
      obtain ⟨q21, e22, hf⟩ := bd1_some hf
      refine jVI C (X9_looked_ok  e22) vb_X9_looked mk_RX9_206 rfl rcM ⟨Nat.le_of_ble_eq_true rfl, Nat.le_of_ble_eq_true rfl⟩ rfl (Nat.le_of_ble_eq_true rfl) dX9_isSo_78 ?_
      refine jIfEq C 88 dX9_isSo_81 (by decide) (fun c23 => ?_) (fun c23 => ?_)
      · replace hf := itp hf c23
        refine jIconst C (0 : Int32) dX9_isSo_88 ki_0 ?_
        cases hf
        exact jEndIZ C hQ rfl nar_z0 dX9_isSo_89
      · replace hf := itn hf c23
        refine jIconst C (1 : Int32) dX9_isSo_84 ki_1 ?_
        refine jGoto C 89 dX9_isSo_85 (by decide) ?_
        cases hf
        exact jEndIZ C hQ rfl nar_z1 dX9_isSo_89
  replace hf := itn hf c17
  by_cases c24 : p2 = (7 : Int32)
  · replace hf := itp hf c24
    refine jTabIn C 90 dX9_isSo_1 (by rw [c24]; decide) (by rw [c24]; decide) (by rw [c24]; rfl) (by decide) ?_
    refine jAloadn C dX9_isSo_90 rfl 0 rfl ?_
    refine jIloadn C dX9_isSo_91 rfl 1 rfl ?_
    obtain ⟨q25, e26, hf⟩ := bd1_some hf
    refine jVI C (X9_isShifted_ok  e26) vb_X9_isShifted mk_RX9_226 rfl rcM ⟨Nat.le_of_ble_eq_true rfl, Nat.le_of_ble_eq_true rfl⟩ rfl (Nat.le_of_ble_eq_true rfl) dX9_isSo_92 ?_
    obtain ⟨z27, hf⟩ := gbo_some hf
    cases hf
    exact jEndIZ C hQ rfl z27 dX9_isSo_95
  replace hf := itn hf c24
  by_cases c28 : p2 = (8 : Int32)
  · replace hf := itp hf c28
    refine jTabIn C 96 dX9_isSo_1 (by rw [c28]; decide) (by rw [c28]; decide) (by rw [c28]; rfl) (by decide) ?_
    refine jAloadn C dX9_isSo_96 rfl 0 rfl ?_
    refine jIloadn C dX9_isSo_97 rfl 1 rfl ?_
    obtain ⟨q29, e30, hf⟩ := bd1_some hf
    refine jVI C (X9_meetByThree_ok  e30) vb_X9_meetByThree mk_RX9_229 rfl rcM ⟨Nat.le_of_ble_eq_true rfl, Nat.le_of_ble_eq_true rfl⟩ rfl (Nat.le_of_ble_eq_true rfl) dX9_isSo_98 ?_
    obtain ⟨z31, hf⟩ := gbo_some hf
    cases hf
    exact jEndIZ C hQ rfl z31 dX9_isSo_101
  replace hf := itn hf c28
  by_cases c32 : p2 = (9 : Int32)
  · replace hf := itp hf c32
    refine jTabIn C 102 dX9_isSo_1 (by rw [c32]; decide) (by rw [c32]; decide) (by rw [c32]; rfl) (by decide) ?_
    refine jAloadn C dX9_isSo_102 rfl 0 rfl ?_
    refine jIloadn C dX9_isSo_103 rfl 1 rfl ?_
    refine jIconst C (0 : Int32) dX9_isSo_104 ki_0 ?_
    obtain ⟨q33, e34, hf⟩ := bd1_some hf
    refine jVI C (X9_isClosed_ok  e34) vb_X9_isClosed mk_RX9_232 rfl rcM ⟨Nat.le_of_ble_eq_true rfl, Nat.le_of_ble_eq_true rfl⟩ rfl (Nat.le_of_ble_eq_true rfl) dX9_isSo_105 ?_
    obtain ⟨z35, hf⟩ := gbo_some hf
    cases hf
    exact jEndIZ C hQ rfl z35 dX9_isSo_108
  replace hf := itn hf c32
  by_cases c36 : p2 = (10 : Int32)
  · replace hf := itp hf c36
    refine jTabIn C 109 dX9_isSo_1 (by rw [c36]; decide) (by rw [c36]; decide) (by rw [c36]; rfl) (by decide) ?_
    refine jAloadn C dX9_isSo_109 rfl 0 rfl ?_
    refine jIloadn C dX9_isSo_110 rfl 1 rfl ?_
    refine jIconst C (1 : Int32) dX9_isSo_111 ki_1 ?_
    obtain ⟨q37, e38, hf⟩ := bd1_some hf
    refine jVI C (X9_isClosed_ok  e38) vb_X9_isClosed mk_RX9_232 rfl rcM ⟨Nat.le_of_ble_eq_true rfl, Nat.le_of_ble_eq_true rfl⟩ rfl (Nat.le_of_ble_eq_true rfl) dX9_isSo_112 ?_
    obtain ⟨z39, hf⟩ := gbo_some hf
    cases hf
    exact jEndIZ C hQ rfl z39 dX9_isSo_115
  replace hf := itn hf c36
  refine jTabOut C 116 dX9_isSo_1 (by have ac1 := lv_neT (a := 2) c1 (by decide); have ac5 := lv_neT (a := 3) c5 (by decide); have ac9 := lv_neT (a := 4) c9 (by decide); have ac13 := lv_neT (a := 5) c13 (by decide); have ac17 := lv_neT (a := 6) c17 (by decide); have ac24 := lv_neT (a := 7) c24 (by decide); have ac28 := lv_neT (a := 8) c28 (by decide); have ac32 := lv_neT (a := 9) c32 (by decide); have ac36 := lv_neT (a := 10) c36 (by decide); omega) (by decide) ?_
  refine jAloadn C dX9_isSo_116 rfl 0 rfl ?_
  refine jIloadn C dX9_isSo_117 rfl 1 rfl ?_
  refine jIloadn C dX9_isSo_118 rfl 2 rfl ?_
  obtain ⟨q40, e41, hf⟩ := bd1_some hf
  refine jVI C (X9_areAll_ok  e41) vb_X9_areAll mk_RX9_235 rfl rcM ⟨Nat.le_of_ble_eq_true rfl, Nat.le_of_ble_eq_true rfl⟩ rfl (Nat.le_of_ble_eq_true rfl) dX9_isSo_119 ?_
  obtain ⟨z42, hf⟩ := gbo_some hf
  cases hf
  exact jEndIZ C hQ rfl z42 dX9_isSo_122
noncomputable def X9_is (mnow : Nat → Int32) (p1 : Int32) (p2 : Int32) : Option Int32 := bd1 (X9_hasOne mnow p1) (fun q1 => (if q1 = (0 : Int32) then some (-2 : Int32) else bd1 (X9_in (p2.toInt64) (0 : Int64) (10 : Int64)) (fun q4 => (if q4 = (0 : Int32) then some (-2 : Int32) else bd1 (X9_isSo mnow p1 p2) (fun q7 => (if q7 = (0 : Int32) then some (0 : Int32) else some (1 : Int32)))))))
set_option maxHeartbeats 4000000 in
set_option maxRecDepth 20000 in
theorem X9_is_ok {p1 : Int32} {p2 : Int32} {rr : Int32}  (hf : X9_is mnow p1 p2 = some rr) : MT yX9_is cX9_is 3 (some .int) 5 [.ref (h 0), .int p1, .int p2] D cy G (mw h cy mthr mfrp mact mtpd msiz matx mfrm mtok mval mfk mfpl mbem mtrs mtrl mrom mtom mnow mfre mkep mtap mlef mtak mbes mrow mint mrnd mplo mhio mtox mtol) (mw h cy mthr mfrp mact mtpd msiz matx mfrm mtok mval mfk mfpl mbem mtrs mtrl mrom mtom mnow mfre mkep mtap mlef mtak mbes mrow mint mrnd mplo mhio mtox mtol) (some (.int rr)) := by
  refine MT.go (own := RX9) [(0, .ref (h 0)), (1, .int p1), (2, .int p2)] (by decide) rfl (Nat.le_of_ble_eq_true rfl) rfl (fun p l e s m args below meth c A Q C hQ => ?_)
  unfold X9_is at hf
  refine jAloadn C dX9_is_0 rfl 0 rfl ?_
  refine jIloadn C dX9_is_1 rfl 1 rfl ?_
  obtain ⟨q1, e2, hf⟩ := bd1_some hf
  refine jVI C (X9_hasOne_ok  e2) vb_X9_hasOne mk_RX9_75 rfl rcM ⟨Nat.le_of_ble_eq_true rfl, Nat.le_of_ble_eq_true rfl⟩ rfl (Nat.le_of_ble_eq_true rfl) dX9_is_2 ?_
  refine jIfEq C 20 dX9_is_5 (by decide) (fun c3 => ?_) (fun c3 => ?_)
  · replace hf := itp hf c3
    refine jBipush C (-2 : Int32) dX9_is_20 kb_m2 ?_
    cases hf
    exact jEndI C hQ rfl dX9_is_22
  · replace hf := itn hf c3
    refine jIloadn C dX9_is_8 rfl 2 rfl ?_
    refine jI2l C dX9_is_9 ?_
    refine jLconst C (0 : Int64) dX9_is_10 rfl ?_
    refine jLdc2 C (x := (10 : Int64)) lk_RX9_238 dX9_is_11 ?_
    obtain ⟨q4, e5, hf⟩ := bd1_some hf
    refine jSI C (X9_in_ok  e5) sb_X9_in mk_RX9_63 rfl ⟨Nat.le_of_ble_eq_true rfl, Nat.le_of_ble_eq_true rfl⟩ rfl (Nat.le_of_ble_eq_true rfl) dX9_is_14 ?_
    refine jIfNe C 23 dX9_is_17 (by decide) (fun c6 => ?_) (fun c6 => ?_)
    · replace hf := itn hf c6
      refine jAloadn C dX9_is_23 rfl 0 rfl ?_
      refine jIloadn C dX9_is_24 rfl 1 rfl ?_
      refine jIloadn C dX9_is_25 rfl 2 rfl ?_
      obtain ⟨q7, e8, hf⟩ := bd1_some hf
      refine jVI C (X9_isSo_ok  e8) vb_X9_isSo mk_RX9_240 rfl rcM ⟨Nat.le_of_ble_eq_true rfl, Nat.le_of_ble_eq_true rfl⟩ rfl (Nat.le_of_ble_eq_true rfl) dX9_is_26 ?_
      refine jIfEq C 36 dX9_is_29 (by decide) (fun c9 => ?_) (fun c9 => ?_)
      · replace hf := itp hf c9
        refine jIconst C (0 : Int32) dX9_is_36 ki_0 ?_
        cases hf
        exact jEndI C hQ rfl dX9_is_37
      · replace hf := itn hf c9
        refine jIconst C (1 : Int32) dX9_is_32 ki_1 ?_
        refine jGoto C 37 dX9_is_33 (by decide) ?_
        cases hf
        exact jEndI C hQ rfl dX9_is_37
    · replace hf := itp hf c6
      refine jBipush C (-2 : Int32) dX9_is_20 kb_m2 ?_
      cases hf
      exact jEndI C hQ rfl dX9_is_22
noncomputable def X9_degreeOf_h5 (mnow : Nat → Int32) (p1 : Int32) (p2 : Int32) (r4 : Int32 → Int32 → Option Int32) (x3_1 : Int32) (x4_2 : Int32) : Option Int32 := (if (128 : Int32) ≤ x4_2 then some x3_1 else bd1 (X9_isIn mnow p1 x4_2) (fun q6 => (if q6 = (0 : Int32) then r4 (x3_1 + (0 : Int32)) (x4_2 + (1 : Int32)) else bd1 (X9_hasBit x4_2 p2) (fun q9 => (if q9 = (0 : Int32) then r4 (x3_1 + (0 : Int32)) (x4_2 + (1 : Int32)) else r4 (x3_1 + (1 : Int32)) (x4_2 + (1 : Int32)))))))
noncomputable def X9_degreeOf (mnow : Nat → Int32) (p1 : Int32) (p2 : Int32) : Option Int32 := lfp2 (X9_degreeOf_h5 mnow p1 p2) (0 : Int32) (0 : Int32)
set_option maxHeartbeats 4000000 in
set_option maxRecDepth 20000 in
theorem X9_degreeOf_ok {p1 : Int32} {p2 : Int32} {rr : Int32}  (hf : X9_degreeOf mnow p1 p2 = some rr) : MT yX9_degreeOf cX9_degreeOf 5 (some .int) 2 [.ref (h 0), .int p1, .int p2] D cy G (mw h cy mthr mfrp mact mtpd msiz matx mfrm mtok mval mfk mfpl mbem mtrs mtrl mrom mtom mnow mfre mkep mtap mlef mtak mbes mrow mint mrnd mplo mhio mtox mtol) (mw h cy mthr mfrp mact mtpd msiz matx mfrm mtok mval mfk mfpl mbem mtrs mtrl mrom mtom mnow mfre mkep mtap mlef mtak mbes mrow mint mrnd mplo mhio mtox mtol) (some (.int rr)) := by
  refine MT.go (own := RX9) [(0, .ref (h 0)), (1, .int p1), (2, .int p2)] (by decide) rfl (Nat.le_of_ble_eq_true rfl) rfl (fun p l e s m args below meth c A Q C hQ => ?_)
  unfold X9_degreeOf at hf
  refine jIconst C (0 : Int32) dX9_degreeOf_0 ki_0 ?_
  refine jIstoren C dX9_degreeOf_1 rfl (Nat.le_of_ble_eq_true rfl) [(3, .int (0 : Int32)), (0, .ref (h 0)), (1, .int p1), (2, .int p2)] rfl ?_
  refine jIconst C (0 : Int32) dX9_degreeOf_2 ki_0 ?_
  refine jIstore C dX9_degreeOf_3 (Nat.le_of_ble_eq_true rfl) [(4, .int (0 : Int32)), (3, .int (0 : Int32)), (0, .ref (h 0)), (1, .int p1), (2, .int p2)] rfl ?_
  have hL3 : ∀ (x3_1 : Int32) (x4_2 : Int32), lfp2 (X9_degreeOf_h5 mnow p1 p2) x3_1 x4_2 = some rr → J p l e (rmk 2) s m args below meth c D A Q 5 (mw h cy mthr mfrp mact mtpd msiz matx mfrm mtok mval mfk mfpl mbem mtrs mtrl mrom mtom mnow mfre mkep mtap mlef mtak mbes mrow mint mrnd mplo mhio mtox mtol) 5 [(0, .ref (h 0)), (1, .int p1), (2, .int p2), (3, .int x3_1), (4, .int x4_2)] [] := by
    intro x3_1 x4_2 hw
    refine lfp2_walk (P := fun x3_1 x4_2 => J p l e (rmk 2) s m args below meth c D A Q 5 (mw h cy mthr mfrp mact mtpd msiz matx mfrm mtok mval mfk mfpl mbem mtrs mtrl mrom mtom mnow mfre mkep mtap mlef mtak mbes mrow mint mrnd mplo mhio mtox mtol) 5 [(0, .ref (h 0)), (1, .int p1), (2, .int p2), (3, .int x3_1), (4, .int x4_2)] []) ?_ hw
    intro r4 ir4 x3_1 x4_2 hf
    unfold X9_degreeOf_h5 at hf
    refine jIload C dX9_degreeOf_5 4 rfl ?_
    refine jSipush C (128 : Int32) dX9_degreeOf_7 ks_128 ?_
    refine jCmpGe C 46 dX9_degreeOf_10 (by decide) (fun c5 => ?_) (fun c5 => ?_)
    · replace hf := itp hf c5
      refine jIloadn C dX9_degreeOf_46 rfl 3 rfl ?_
      cases hf
      exact jEndI C hQ rfl dX9_degreeOf_47
    · replace hf := itn hf c5
      refine jIloadn C dX9_degreeOf_13 rfl 3 rfl ?_
      refine jAloadn C dX9_degreeOf_14 rfl 0 rfl ?_
      refine jIloadn C dX9_degreeOf_15 rfl 1 rfl ?_
      refine jIload C dX9_degreeOf_16 4 rfl ?_
      obtain ⟨q6, e7, hf⟩ := bd1_some hf
      refine jVI C (X9_isIn_ok  e7) vb_X9_isIn mk_RX9_81 rfl rcM ⟨Nat.le_of_ble_eq_true rfl, Nat.le_of_ble_eq_true rfl⟩ rfl (Nat.le_of_ble_eq_true rfl) dX9_degreeOf_18 ?_
      refine jIfEq C 37 dX9_degreeOf_21 (by decide) (fun c8 => ?_) (fun c8 => ?_)
      · replace hf := itp hf c8
        refine jIconst C (0 : Int32) dX9_degreeOf_37 ki_0 ?_
        refine jIadd C dX9_degreeOf_38 ?_
        refine jIstoren C dX9_degreeOf_39 rfl (Nat.le_of_ble_eq_true rfl) [(3, .int (x3_1 + (0 : Int32))), (0, .ref (h 0)), (1, .int p1), (2, .int p2), (4, .int x4_2)] rfl ?_
        refine jIinc C (x4_2 + (1 : Int32)) dX9_degreeOf_40 4 rfl (congrArg (fun z : Int32 => x4_2 + z) ki_1) (Nat.le_of_ble_eq_true rfl) [(4, .int (x4_2 + (1 : Int32))), (3, .int (x3_1 + (0 : Int32))), (0, .ref (h 0)), (1, .int p1), (2, .int p2)] rfl ?_
        refine jGoto C 5 dX9_degreeOf_43 (by decide) ?_
        refine jSub [2, 3, 4, 1, 0] rfl ?_
        exact ir4 (x3_1 + (0 : Int32)) (x4_2 + (1 : Int32)) hf
      · replace hf := itn hf c8
        refine jIload C dX9_degreeOf_24 4 rfl ?_
        refine jIloadn C dX9_degreeOf_26 rfl 2 rfl ?_
        obtain ⟨q9, e10, hf⟩ := bd1_some hf
        refine jSI C (X9_hasBit_ok  e10) sb_X9_hasBit mk_RX9_169 rfl ⟨Nat.le_of_ble_eq_true rfl, Nat.le_of_ble_eq_true rfl⟩ rfl (Nat.le_of_ble_eq_true rfl) dX9_degreeOf_27 ?_
        refine jIfEq C 37 dX9_degreeOf_30 (by decide) (fun c11 => ?_) (fun c11 => ?_)
        · replace hf := itp hf c11
          refine jIconst C (0 : Int32) dX9_degreeOf_37 ki_0 ?_
          refine jIadd C dX9_degreeOf_38 ?_
          refine jIstoren C dX9_degreeOf_39 rfl (Nat.le_of_ble_eq_true rfl) [(3, .int (x3_1 + (0 : Int32))), (0, .ref (h 0)), (1, .int p1), (2, .int p2), (4, .int x4_2)] rfl ?_
          refine jIinc C (x4_2 + (1 : Int32)) dX9_degreeOf_40 4 rfl (congrArg (fun z : Int32 => x4_2 + z) ki_1) (Nat.le_of_ble_eq_true rfl) [(4, .int (x4_2 + (1 : Int32))), (3, .int (x3_1 + (0 : Int32))), (0, .ref (h 0)), (1, .int p1), (2, .int p2)] rfl ?_
          refine jGoto C 5 dX9_degreeOf_43 (by decide) ?_
          refine jSub [2, 3, 4, 1, 0] rfl ?_
          exact ir4 (x3_1 + (0 : Int32)) (x4_2 + (1 : Int32)) hf
        · replace hf := itn hf c11
          refine jIconst C (1 : Int32) dX9_degreeOf_33 ki_1 ?_
          refine jGoto C 38 dX9_degreeOf_34 (by decide) ?_
          refine jIadd C dX9_degreeOf_38 ?_
          refine jIstoren C dX9_degreeOf_39 rfl (Nat.le_of_ble_eq_true rfl) [(3, .int (x3_1 + (1 : Int32))), (0, .ref (h 0)), (1, .int p1), (2, .int p2), (4, .int x4_2)] rfl ?_
          refine jIinc C (x4_2 + (1 : Int32)) dX9_degreeOf_40 4 rfl (congrArg (fun z : Int32 => x4_2 + z) ki_1) (Nat.le_of_ble_eq_true rfl) [(4, .int (x4_2 + (1 : Int32))), (3, .int (x3_1 + (1 : Int32))), (0, .ref (h 0)), (1, .int p1), (2, .int p2)] rfl ?_
          refine jGoto C 5 dX9_degreeOf_43 (by decide) ?_
          refine jSub [2, 3, 4, 1, 0] rfl ?_
          exact ir4 (x3_1 + (1 : Int32)) (x4_2 + (1 : Int32)) hf
  refine jSub [2, 3, 4, 1, 0] rfl ?_
  exact hL3 (0 : Int32) (0 : Int32) hf
noncomputable def X9_degree (mnow : Nat → Int32) (p1 : Int32) (p2 : Int32) : Option Int32 := bd1 (X9_isPoint mnow p1 p2) (fun q1 => (if q1 = (0 : Int32) then some (-2 : Int32) else bd1 (X9_degreeOf mnow p1 p2) (fun q4 => some q4)))
set_option maxHeartbeats 4000000 in
set_option maxRecDepth 20000 in
theorem X9_degree_ok {p1 : Int32} {p2 : Int32} {rr : Int32}  (hf : X9_degree mnow p1 p2 = some rr) : MT yX9_degree cX9_degree 3 (some .int) 4 [.ref (h 0), .int p1, .int p2] D cy G (mw h cy mthr mfrp mact mtpd msiz matx mfrm mtok mval mfk mfpl mbem mtrs mtrl mrom mtom mnow mfre mkep mtap mlef mtak mbes mrow mint mrnd mplo mhio mtox mtol) (mw h cy mthr mfrp mact mtpd msiz matx mfrm mtok mval mfk mfpl mbem mtrs mtrl mrom mtom mnow mfre mkep mtap mlef mtak mbes mrow mint mrnd mplo mhio mtox mtol) (some (.int rr)) := by
  refine MT.go (own := RX9) [(0, .ref (h 0)), (1, .int p1), (2, .int p2)] (by decide) rfl (Nat.le_of_ble_eq_true rfl) rfl (fun p l e s m args below meth c A Q C hQ => ?_)
  unfold X9_degree at hf
  refine jAloadn C dX9_degree_0 rfl 0 rfl ?_
  refine jIloadn C dX9_degree_1 rfl 1 rfl ?_
  refine jIloadn C dX9_degree_2 rfl 2 rfl ?_
  obtain ⟨q1, e2, hf⟩ := bd1_some hf
  refine jVI C (X9_isPoint_ok  e2) vb_X9_isPoint mk_RX9_243 rfl rcM ⟨Nat.le_of_ble_eq_true rfl, Nat.le_of_ble_eq_true rfl⟩ rfl (Nat.le_of_ble_eq_true rfl) dX9_degree_3 ?_
  refine jIfEq C 18 dX9_degree_6 (by decide) (fun c3 => ?_) (fun c3 => ?_)
  · replace hf := itp hf c3
    refine jBipush C (-2 : Int32) dX9_degree_18 kb_m2 ?_
    cases hf
    exact jEndI C hQ rfl dX9_degree_20
  · replace hf := itn hf c3
    refine jAloadn C dX9_degree_9 rfl 0 rfl ?_
    refine jIloadn C dX9_degree_10 rfl 1 rfl ?_
    refine jIloadn C dX9_degree_11 rfl 2 rfl ?_
    obtain ⟨q4, e5, hf⟩ := bd1_some hf
    refine jVI C (X9_degreeOf_ok  e5) vb_X9_degreeOf mk_RX9_246 rfl rcM ⟨Nat.le_of_ble_eq_true rfl, Nat.le_of_ble_eq_true rfl⟩ rfl (Nat.le_of_ble_eq_true rfl) dX9_degree_12 ?_
    refine jGoto C 20 dX9_degree_15 (by decide) ?_
    cases hf
    exact jEndI C hQ rfl dX9_degree_20
noncomputable def X9_order_h33 (mnow : Nat → Int32) (p1 : Int32) (p2 : Int32) (r7 : Int32 → Int32 → Option Int32) (x4_5 : Int32) (x3_4 : Int32) (r14 : Int32 → Int32 → Option Int32) (x5_11 : Int32) (x6_12 : Int32) : Option Int32 := bd1 (X9_points mnow p1) (fun q15 => (if q15 ≤ x6_12 then (if x5_11 = p2 then r7 x4_5 (x4_5 + (1 : Int32)) else r7 x3_4 (x4_5 + (1 : Int32))) else bd1 (X9_degreeOf mnow p1 x6_12) (fun q19 => bd1 (X9_degreeOf mnow p1 x4_5) (fun q21 => (if q21 < q19 then r14 (x5_11 + (1 : Int32)) (x6_12 + (1 : Int32)) else bd1 (X9_degreeOf mnow p1 x6_12) (fun q24 => bd1 (X9_degreeOf mnow p1 x4_5) (fun q26 => (if q24 = q26 then (if x4_5 ≤ x6_12 then r14 (x5_11 + (0 : Int32)) (x6_12 + (1 : Int32)) else r14 (x5_11 + (1 : Int32)) (x6_12 + (1 : Int32))) else r14 (x5_11 + (0 : Int32)) (x6_12 + (1 : Int32))))))))))
noncomputable def X9_order_h17 (mnow : Nat → Int32) (p1 : Int32) (p2 : Int32) (r7 : Int32 → Int32 → Option Int32) (x3_4 : Int32) (x4_5 : Int32) : Option Int32 := bd1 (X9_points mnow p1) (fun q8 => (if q8 ≤ x4_5 then some x3_4 else lfp2 (X9_order_h33 mnow p1 p2 r7 x4_5 x3_4) (0 : Int32) (0 : Int32)))
noncomputable def X9_order (mnow : Nat → Int32) (p1 : Int32) (p2 : Int32) : Option Int32 := bd1 (X9_isPoint mnow p1 p2) (fun q1 => (if q1 = (0 : Int32) then some (-2 : Int32) else lfp2 (X9_order_h17 mnow p1 p2) (-1 : Int32) (0 : Int32)))
set_option maxHeartbeats 4000000 in
set_option maxRecDepth 20000 in
theorem X9_order_ok {p1 : Int32} {p2 : Int32} {rr : Int32}  (hf : X9_order mnow p1 p2 = some rr) : MT yX9_order cX9_order 7 (some .int) 4 [.ref (h 0), .int p1, .int p2] D cy G (mw h cy mthr mfrp mact mtpd msiz matx mfrm mtok mval mfk mfpl mbem mtrs mtrl mrom mtom mnow mfre mkep mtap mlef mtak mbes mrow mint mrnd mplo mhio mtox mtol) (mw h cy mthr mfrp mact mtpd msiz matx mfrm mtok mval mfk mfpl mbem mtrs mtrl mrom mtom mnow mfre mkep mtap mlef mtak mbes mrow mint mrnd mplo mhio mtox mtol) (some (.int rr)) := by
  refine MT.go (own := RX9) [(0, .ref (h 0)), (1, .int p1), (2, .int p2)] (by decide) rfl (Nat.le_of_ble_eq_true rfl) rfl (fun p l e s m args below meth c A Q C hQ => ?_)
  unfold X9_order at hf
  refine jAloadn C dX9_order_0 rfl 0 rfl ?_
  refine jIloadn C dX9_order_1 rfl 1 rfl ?_
  refine jIloadn C dX9_order_2 rfl 2 rfl ?_
  obtain ⟨q1, e2, hf⟩ := bd1_some hf
  refine jVI C (X9_isPoint_ok  e2) vb_X9_isPoint mk_RX9_243 rfl rcM ⟨Nat.le_of_ble_eq_true rfl, Nat.le_of_ble_eq_true rfl⟩ rfl (Nat.le_of_ble_eq_true rfl) dX9_order_3 ?_
  refine jIfNe C 12 dX9_order_6 (by decide) (fun c3 => ?_) (fun c3 => ?_)
  · replace hf := itn hf c3
    refine jIconst C (-1 : Int32) dX9_order_12 ki_m1 ?_
    refine jIstoren C dX9_order_13 rfl (Nat.le_of_ble_eq_true rfl) [(3, .int (-1 : Int32)), (0, .ref (h 0)), (1, .int p1), (2, .int p2)] rfl ?_
    refine jIconst C (0 : Int32) dX9_order_14 ki_0 ?_
    refine jIstore C dX9_order_15 (Nat.le_of_ble_eq_true rfl) [(4, .int (0 : Int32)), (3, .int (-1 : Int32)), (0, .ref (h 0)), (1, .int p1), (2, .int p2)] rfl ?_
    have hL6 : ∀ (x3_4 : Int32) (x4_5 : Int32), lfp2 (X9_order_h17 mnow p1 p2) x3_4 x4_5 = some rr → J p l e (rmk 4) s m args below meth c D A Q 7 (mw h cy mthr mfrp mact mtpd msiz matx mfrm mtok mval mfk mfpl mbem mtrs mtrl mrom mtom mnow mfre mkep mtap mlef mtak mbes mrow mint mrnd mplo mhio mtox mtol) 17 [(0, .ref (h 0)), (1, .int p1), (2, .int p2), (3, .int x3_4), (4, .int x4_5)] [] := by
      intro x3_4 x4_5 hw
      refine lfp2_walk (P := fun x3_4 x4_5 => J p l e (rmk 4) s m args below meth c D A Q 7 (mw h cy mthr mfrp mact mtpd msiz matx mfrm mtok mval mfk mfpl mbem mtrs mtrl mrom mtom mnow mfre mkep mtap mlef mtak mbes mrow mint mrnd mplo mhio mtox mtol) 17 [(0, .ref (h 0)), (1, .int p1), (2, .int p2), (3, .int x3_4), (4, .int x4_5)] []) ?_ hw
      intro r7 ir7 x3_4 x4_5 hf
      unfold X9_order_h17 at hf
      refine jIload C dX9_order_17 4 rfl ?_
      refine jAloadn C dX9_order_19 rfl 0 rfl ?_
      refine jIloadn C dX9_order_20 rfl 1 rfl ?_
      obtain ⟨q8, e9, hf⟩ := bd1_some hf
      refine jVI C (X9_points_ok  e9) vb_X9_points mk_RX9_78 rfl rcM ⟨Nat.le_of_ble_eq_true rfl, Nat.le_of_ble_eq_true rfl⟩ rfl (Nat.le_of_ble_eq_true rfl) dX9_order_21 ?_
      refine jCmpGe C 115 dX9_order_24 (by decide) (fun c10 => ?_) (fun c10 => ?_)
      · replace hf := itp hf c10
        refine jIloadn C dX9_order_115 rfl 3 rfl ?_
        cases hf
        exact jEndI C hQ rfl dX9_order_116
      · replace hf := itn hf c10
        refine jIconst C (0 : Int32) dX9_order_27 ki_0 ?_
        refine jIstore C dX9_order_28 (Nat.le_of_ble_eq_true rfl) [(5, .int (0 : Int32)), (0, .ref (h 0)), (1, .int p1), (2, .int p2), (3, .int x3_4), (4, .int x4_5)] rfl ?_
        refine jIconst C (0 : Int32) dX9_order_30 ki_0 ?_
        refine jIstore C dX9_order_31 (Nat.le_of_ble_eq_true rfl) [(6, .int (0 : Int32)), (5, .int (0 : Int32)), (0, .ref (h 0)), (1, .int p1), (2, .int p2), (3, .int x3_4), (4, .int x4_5)] rfl ?_
        have hL13 : ∀ (x5_11 : Int32) (x6_12 : Int32), lfp2 (X9_order_h33 mnow p1 p2 r7 x4_5 x3_4) x5_11 x6_12 = some rr → J p l e (rmk 4) s m args below meth c D A Q 7 (mw h cy mthr mfrp mact mtpd msiz matx mfrm mtok mval mfk mfpl mbem mtrs mtrl mrom mtom mnow mfre mkep mtap mlef mtak mbes mrow mint mrnd mplo mhio mtox mtol) 33 [(0, .ref (h 0)), (1, .int p1), (2, .int p2), (3, .int x3_4), (4, .int x4_5), (5, .int x5_11), (6, .int x6_12)] [] := by
          intro x5_11 x6_12 hw
          refine lfp2_walk (P := fun x5_11 x6_12 => J p l e (rmk 4) s m args below meth c D A Q 7 (mw h cy mthr mfrp mact mtpd msiz matx mfrm mtok mval mfk mfpl mbem mtrs mtrl mrom mtom mnow mfre mkep mtap mlef mtak mbes mrow mint mrnd mplo mhio mtox mtol) 33 [(0, .ref (h 0)), (1, .int p1), (2, .int p2), (3, .int x3_4), (4, .int x4_5), (5, .int x5_11), (6, .int x6_12)] []) ?_ hw
          intro r14 ir14 x5_11 x6_12 hf
          unfold X9_order_h33 at hf
          refine jIload C dX9_order_33 6 rfl ?_
          refine jAloadn C dX9_order_35 rfl 0 rfl ?_
          refine jIloadn C dX9_order_36 rfl 1 rfl ?_
          obtain ⟨q15, e16, hf⟩ := bd1_some hf
          refine jVI C (X9_points_ok  e16) vb_X9_points mk_RX9_78 rfl rcM ⟨Nat.le_of_ble_eq_true rfl, Nat.le_of_ble_eq_true rfl⟩ rfl (Nat.le_of_ble_eq_true rfl) dX9_order_37 ?_
          refine jCmpGe C 100 dX9_order_40 (by decide) (fun c17 => ?_) (fun c17 => ?_)
          · replace hf := itp hf c17
            refine jIload C dX9_order_100 5 rfl ?_
            refine jIloadn C dX9_order_102 rfl 2 rfl ?_
            refine jCmpNe C 109 dX9_order_103 (by decide) (fun c18 => ?_) (fun c18 => ?_)
            · replace hf := itn hf c18
              refine jIinc C (x4_5 + (1 : Int32)) dX9_order_109 4 rfl (congrArg (fun z : Int32 => x4_5 + z) ki_1) (Nat.le_of_ble_eq_true rfl) [(4, .int (x4_5 + (1 : Int32))), (0, .ref (h 0)), (1, .int p1), (2, .int p2), (3, .int x3_4), (5, .int x5_11), (6, .int x6_12)] rfl ?_
              refine jGoto C 17 dX9_order_112 (by decide) ?_
              refine jSub [1, 2, 3, 4, 0] rfl ?_
              exact ir7 x3_4 (x4_5 + (1 : Int32)) hf
            · replace hf := itp hf c18
              refine jIload C dX9_order_106 4 rfl ?_
              refine jIstoren C dX9_order_108 rfl (Nat.le_of_ble_eq_true rfl) [(3, .int x4_5), (0, .ref (h 0)), (1, .int p1), (2, .int p2), (4, .int x4_5), (5, .int x5_11), (6, .int x6_12)] rfl ?_
              refine jIinc C (x4_5 + (1 : Int32)) dX9_order_109 4 rfl (congrArg (fun z : Int32 => x4_5 + z) ki_1) (Nat.le_of_ble_eq_true rfl) [(4, .int (x4_5 + (1 : Int32))), (3, .int x4_5), (0, .ref (h 0)), (1, .int p1), (2, .int p2), (5, .int x5_11), (6, .int x6_12)] rfl ?_
              refine jGoto C 17 dX9_order_112 (by decide) ?_
              refine jSub [2, 3, 4, 1, 0] rfl ?_
              exact ir7 x4_5 (x4_5 + (1 : Int32)) hf
          · replace hf := itn hf c17
            refine jIload C dX9_order_43 5 rfl ?_
            refine jAloadn C dX9_order_45 rfl 0 rfl ?_
            refine jIloadn C dX9_order_46 rfl 1 rfl ?_
            refine jIload C dX9_order_47 6 rfl ?_
            obtain ⟨q19, e20, hf⟩ := bd1_some hf
            refine jVI C (X9_degreeOf_ok  e20) vb_X9_degreeOf mk_RX9_246 rfl rcM ⟨Nat.le_of_ble_eq_true rfl, Nat.le_of_ble_eq_true rfl⟩ rfl (Nat.le_of_ble_eq_true rfl) dX9_order_49 ?_
            refine jAloadn C dX9_order_52 rfl 0 rfl ?_
            refine jIloadn C dX9_order_53 rfl 1 rfl ?_
            refine jIload C dX9_order_54 4 rfl ?_
            obtain ⟨q21, e22, hf⟩ := bd1_some hf
            refine jVI C (X9_degreeOf_ok  e22) vb_X9_degreeOf mk_RX9_246 rfl rcM ⟨Nat.le_of_ble_eq_true rfl, Nat.le_of_ble_eq_true rfl⟩ rfl (Nat.le_of_ble_eq_true rfl) dX9_order_56 ?_
            refine jCmpGt C 86 dX9_order_59 (by decide) (fun c23 => ?_) (fun c23 => ?_)
            · replace hf := itp hf c23
              refine jIconst C (1 : Int32) dX9_order_86 ki_1 ?_
              refine jGoto C 91 dX9_order_87 (by decide) ?_
              refine jIadd C dX9_order_91 ?_
              refine jIstore C dX9_order_92 (Nat.le_of_ble_eq_true rfl) [(5, .int (x5_11 + (1 : Int32))), (0, .ref (h 0)), (1, .int p1), (2, .int p2), (3, .int x3_4), (4, .int x4_5), (6, .int x6_12)] rfl ?_
              refine jIinc C (x6_12 + (1 : Int32)) dX9_order_94 6 rfl (congrArg (fun z : Int32 => x6_12 + z) ki_1) (Nat.le_of_ble_eq_true rfl) [(6, .int (x6_12 + (1 : Int32))), (5, .int (x5_11 + (1 : Int32))), (0, .ref (h 0)), (1, .int p1), (2, .int p2), (3, .int x3_4), (4, .int x4_5)] rfl ?_
              refine jGoto C 33 dX9_order_97 (by decide) ?_
              refine jSub [2, 3, 4, 5, 6, 1, 0] rfl ?_
              exact ir14 (x5_11 + (1 : Int32)) (x6_12 + (1 : Int32)) hf
            · replace hf := itn hf c23
              refine jAloadn C dX9_order_62 rfl 0 rfl ?_
              refine jIloadn C dX9_order_63 rfl 1 rfl ?_
              refine jIload C dX9_order_64 6 rfl ?_
              obtain ⟨q24, e25, hf⟩ := bd1_some hf
              refine jVI C (X9_degreeOf_ok  e25) vb_X9_degreeOf mk_RX9_246 rfl rcM ⟨Nat.le_of_ble_eq_true rfl, Nat.le_of_ble_eq_true rfl⟩ rfl (Nat.le_of_ble_eq_true rfl) dX9_order_66 ?_
              refine jAloadn C dX9_order_69 rfl 0 rfl ?_
              refine jIloadn C dX9_order_70 rfl 1 rfl ?_
              refine jIload C dX9_order_71 4 rfl ?_
              obtain ⟨q26, e27, hf⟩ := bd1_some hf
              refine jVI C (X9_degreeOf_ok  e27) vb_X9_degreeOf mk_RX9_246 rfl rcM ⟨Nat.le_of_ble_eq_true rfl, Nat.le_of_ble_eq_true rfl⟩ rfl (Nat.le_of_ble_eq_true rfl) dX9_order_73 ?_
              refine jCmpNe C 90 dX9_order_76 (by decide) (fun c28 => ?_) (fun c28 => ?_)
              · replace hf := itn hf c28
                refine jIconst C (0 : Int32) dX9_order_90 ki_0 ?_
                refine jIadd C dX9_order_91 ?_
                refine jIstore C dX9_order_92 (Nat.le_of_ble_eq_true rfl) [(5, .int (x5_11 + (0 : Int32))), (0, .ref (h 0)), (1, .int p1), (2, .int p2), (3, .int x3_4), (4, .int x4_5), (6, .int x6_12)] rfl ?_
                refine jIinc C (x6_12 + (1 : Int32)) dX9_order_94 6 rfl (congrArg (fun z : Int32 => x6_12 + z) ki_1) (Nat.le_of_ble_eq_true rfl) [(6, .int (x6_12 + (1 : Int32))), (5, .int (x5_11 + (0 : Int32))), (0, .ref (h 0)), (1, .int p1), (2, .int p2), (3, .int x3_4), (4, .int x4_5)] rfl ?_
                refine jGoto C 33 dX9_order_97 (by decide) ?_
                refine jSub [2, 3, 4, 5, 6, 1, 0] rfl ?_
                exact ir14 (x5_11 + (0 : Int32)) (x6_12 + (1 : Int32)) hf
              · replace hf := itp hf c28
                refine jIload C dX9_order_79 6 rfl ?_
                refine jIload C dX9_order_81 4 rfl ?_
                refine jCmpGe C 90 dX9_order_83 (by decide) (fun c29 => ?_) (fun c29 => ?_)
                · replace hf := itp hf c29
                  refine jIconst C (0 : Int32) dX9_order_90 ki_0 ?_
                  refine jIadd C dX9_order_91 ?_
                  refine jIstore C dX9_order_92 (Nat.le_of_ble_eq_true rfl) [(5, .int (x5_11 + (0 : Int32))), (0, .ref (h 0)), (1, .int p1), (2, .int p2), (3, .int x3_4), (4, .int x4_5), (6, .int x6_12)] rfl ?_
                  refine jIinc C (x6_12 + (1 : Int32)) dX9_order_94 6 rfl (congrArg (fun z : Int32 => x6_12 + z) ki_1) (Nat.le_of_ble_eq_true rfl) [(6, .int (x6_12 + (1 : Int32))), (5, .int (x5_11 + (0 : Int32))), (0, .ref (h 0)), (1, .int p1), (2, .int p2), (3, .int x3_4), (4, .int x4_5)] rfl ?_
                  refine jGoto C 33 dX9_order_97 (by decide) ?_
                  refine jSub [2, 3, 4, 5, 6, 1, 0] rfl ?_
                  exact ir14 (x5_11 + (0 : Int32)) (x6_12 + (1 : Int32)) hf
                · replace hf := itn hf c29
                  refine jIconst C (1 : Int32) dX9_order_86 ki_1 ?_
                  refine jGoto C 91 dX9_order_87 (by decide) ?_
                  refine jIadd C dX9_order_91 ?_
                  refine jIstore C dX9_order_92 (Nat.le_of_ble_eq_true rfl) [(5, .int (x5_11 + (1 : Int32))), (0, .ref (h 0)), (1, .int p1), (2, .int p2), (3, .int x3_4), (4, .int x4_5), (6, .int x6_12)] rfl ?_
                  refine jIinc C (x6_12 + (1 : Int32)) dX9_order_94 6 rfl (congrArg (fun z : Int32 => x6_12 + z) ki_1) (Nat.le_of_ble_eq_true rfl) [(6, .int (x6_12 + (1 : Int32))), (5, .int (x5_11 + (1 : Int32))), (0, .ref (h 0)), (1, .int p1), (2, .int p2), (3, .int x3_4), (4, .int x4_5)] rfl ?_
                  refine jGoto C 33 dX9_order_97 (by decide) ?_
                  refine jSub [2, 3, 4, 5, 6, 1, 0] rfl ?_
                  exact ir14 (x5_11 + (1 : Int32)) (x6_12 + (1 : Int32)) hf
        refine jSub [2, 3, 4, 5, 6, 1, 0] rfl ?_
        exact hL13 (0 : Int32) (0 : Int32) hf
    refine jSub [2, 3, 4, 1, 0] rfl ?_
    exact hL6 (-1 : Int32) (0 : Int32) hf
  · replace hf := itp hf c3
    refine jBipush C (-2 : Int32) dX9_order_9 kb_m2 ?_
    cases hf
    exact jEndI C hQ rfl dX9_order_11
noncomputable def X9_level_h31 (mnow : Nat → Int32) (p1 : Int32) (p2 : Int32) (r12 : Int32 → Int32 → Option Int32) (x3_9 : Int32) (x4_10 : Int32) : Option Int32 := (if (128 : Int32) ≤ x4_10 then some x3_9 else bd1 (X9_isIn mnow p1 x4_10) (fun q14 => (if q14 = (0 : Int32) then r12 (x3_9 + (0 : Int32)) (x4_10 + (1 : Int32)) else bd1 (X9_bits x4_10) (fun q17 => (if q17 = p2 then r12 (x3_9 + (1 : Int32)) (x4_10 + (1 : Int32)) else r12 (x3_9 + (0 : Int32)) (x4_10 + (1 : Int32)))))))
noncomputable def X9_level (mnow : Nat → Int32) (p1 : Int32) (p2 : Int32) : Option Int32 := bd1 (X9_hasOne mnow p1) (fun q1 => (if q1 = (0 : Int32) then some (-2 : Int32) else bd1 (X9_points mnow p1) (fun q4 => bd1 (X9_in (p2.toInt64) (0 : Int64) (q4.toInt64)) (fun q6 => (if q6 = (0 : Int32) then some (-2 : Int32) else lfp2 (X9_level_h31 mnow p1 p2) (0 : Int32) (0 : Int32))))))
set_option maxHeartbeats 4000000 in
set_option maxRecDepth 20000 in
theorem X9_level_ok {p1 : Int32} {p2 : Int32} {rr : Int32}  (hf : X9_level mnow p1 p2 = some rr) : MT yX9_level cX9_level 5 (some .int) 3 [.ref (h 0), .int p1, .int p2] D cy G (mw h cy mthr mfrp mact mtpd msiz matx mfrm mtok mval mfk mfpl mbem mtrs mtrl mrom mtom mnow mfre mkep mtap mlef mtak mbes mrow mint mrnd mplo mhio mtox mtol) (mw h cy mthr mfrp mact mtpd msiz matx mfrm mtok mval mfk mfpl mbem mtrs mtrl mrom mtom mnow mfre mkep mtap mlef mtak mbes mrow mint mrnd mplo mhio mtox mtol) (some (.int rr)) := by
  refine MT.go (own := RX9) [(0, .ref (h 0)), (1, .int p1), (2, .int p2)] (by decide) rfl (Nat.le_of_ble_eq_true rfl) rfl (fun p l e s m args below meth c A Q C hQ => ?_)
  unfold X9_level at hf
  refine jAloadn C dX9_level_0 rfl 0 rfl ?_
  refine jIloadn C dX9_level_1 rfl 1 rfl ?_
  obtain ⟨q1, e2, hf⟩ := bd1_some hf
  refine jVI C (X9_hasOne_ok  e2) vb_X9_hasOne mk_RX9_75 rfl rcM ⟨Nat.le_of_ble_eq_true rfl, Nat.le_of_ble_eq_true rfl⟩ rfl (Nat.le_of_ble_eq_true rfl) dX9_level_2 ?_
  refine jIfEq C 23 dX9_level_5 (by decide) (fun c3 => ?_) (fun c3 => ?_)
  · replace hf := itp hf c3
    refine jBipush C (-2 : Int32) dX9_level_23 kb_m2 ?_
    cases hf
    exact jEndI C hQ rfl dX9_level_25
  · replace hf := itn hf c3
    refine jIloadn C dX9_level_8 rfl 2 rfl ?_
    refine jI2l C dX9_level_9 ?_
    refine jLconst C (0 : Int64) dX9_level_10 rfl ?_
    refine jAloadn C dX9_level_11 rfl 0 rfl ?_
    refine jIloadn C dX9_level_12 rfl 1 rfl ?_
    obtain ⟨q4, e5, hf⟩ := bd1_some hf
    refine jVI C (X9_points_ok  e5) vb_X9_points mk_RX9_78 rfl rcM ⟨Nat.le_of_ble_eq_true rfl, Nat.le_of_ble_eq_true rfl⟩ rfl (Nat.le_of_ble_eq_true rfl) dX9_level_13 ?_
    refine jI2l C dX9_level_16 ?_
    obtain ⟨q6, e7, hf⟩ := bd1_some hf
    refine jSI C (X9_in_ok  e7) sb_X9_in mk_RX9_63 rfl ⟨Nat.le_of_ble_eq_true rfl, Nat.le_of_ble_eq_true rfl⟩ rfl (Nat.le_of_ble_eq_true rfl) dX9_level_17 ?_
    refine jIfNe C 26 dX9_level_20 (by decide) (fun c8 => ?_) (fun c8 => ?_)
    · replace hf := itn hf c8
      refine jIconst C (0 : Int32) dX9_level_26 ki_0 ?_
      refine jIstoren C dX9_level_27 rfl (Nat.le_of_ble_eq_true rfl) [(3, .int (0 : Int32)), (0, .ref (h 0)), (1, .int p1), (2, .int p2)] rfl ?_
      refine jIconst C (0 : Int32) dX9_level_28 ki_0 ?_
      refine jIstore C dX9_level_29 (Nat.le_of_ble_eq_true rfl) [(4, .int (0 : Int32)), (3, .int (0 : Int32)), (0, .ref (h 0)), (1, .int p1), (2, .int p2)] rfl ?_
      have hL11 : ∀ (x3_9 : Int32) (x4_10 : Int32), lfp2 (X9_level_h31 mnow p1 p2) x3_9 x4_10 = some rr → J p l e (rmk 3) s m args below meth c D A Q 5 (mw h cy mthr mfrp mact mtpd msiz matx mfrm mtok mval mfk mfpl mbem mtrs mtrl mrom mtom mnow mfre mkep mtap mlef mtak mbes mrow mint mrnd mplo mhio mtox mtol) 31 [(0, .ref (h 0)), (1, .int p1), (2, .int p2), (3, .int x3_9), (4, .int x4_10)] [] := by
        intro x3_9 x4_10 hw
        refine lfp2_walk (P := fun x3_9 x4_10 => J p l e (rmk 3) s m args below meth c D A Q 5 (mw h cy mthr mfrp mact mtpd msiz matx mfrm mtok mval mfk mfpl mbem mtrs mtrl mrom mtom mnow mfre mkep mtap mlef mtak mbes mrow mint mrnd mplo mhio mtox mtol) 31 [(0, .ref (h 0)), (1, .int p1), (2, .int p2), (3, .int x3_9), (4, .int x4_10)] []) ?_ hw
        intro r12 ir12 x3_9 x4_10 hf
        unfold X9_level_h31 at hf
        refine jIload C dX9_level_31 4 rfl ?_
        refine jSipush C (128 : Int32) dX9_level_33 ks_128 ?_
        refine jCmpGe C 72 dX9_level_36 (by decide) (fun c13 => ?_) (fun c13 => ?_)
        · replace hf := itp hf c13
          refine jIloadn C dX9_level_72 rfl 3 rfl ?_
          cases hf
          exact jEndI C hQ rfl dX9_level_73
        · replace hf := itn hf c13
          refine jIloadn C dX9_level_39 rfl 3 rfl ?_
          refine jAloadn C dX9_level_40 rfl 0 rfl ?_
          refine jIloadn C dX9_level_41 rfl 1 rfl ?_
          refine jIload C dX9_level_42 4 rfl ?_
          obtain ⟨q14, e15, hf⟩ := bd1_some hf
          refine jVI C (X9_isIn_ok  e15) vb_X9_isIn mk_RX9_81 rfl rcM ⟨Nat.le_of_ble_eq_true rfl, Nat.le_of_ble_eq_true rfl⟩ rfl (Nat.le_of_ble_eq_true rfl) dX9_level_44 ?_
          refine jIfEq C 63 dX9_level_47 (by decide) (fun c16 => ?_) (fun c16 => ?_)
          · replace hf := itp hf c16
            refine jIconst C (0 : Int32) dX9_level_63 ki_0 ?_
            refine jIadd C dX9_level_64 ?_
            refine jIstoren C dX9_level_65 rfl (Nat.le_of_ble_eq_true rfl) [(3, .int (x3_9 + (0 : Int32))), (0, .ref (h 0)), (1, .int p1), (2, .int p2), (4, .int x4_10)] rfl ?_
            refine jIinc C (x4_10 + (1 : Int32)) dX9_level_66 4 rfl (congrArg (fun z : Int32 => x4_10 + z) ki_1) (Nat.le_of_ble_eq_true rfl) [(4, .int (x4_10 + (1 : Int32))), (3, .int (x3_9 + (0 : Int32))), (0, .ref (h 0)), (1, .int p1), (2, .int p2)] rfl ?_
            refine jGoto C 31 dX9_level_69 (by decide) ?_
            refine jSub [2, 3, 4, 1, 0] rfl ?_
            exact ir12 (x3_9 + (0 : Int32)) (x4_10 + (1 : Int32)) hf
          · replace hf := itn hf c16
            refine jIload C dX9_level_50 4 rfl ?_
            obtain ⟨q17, e18, hf⟩ := bd1_some hf
            refine jSI C (X9_bits_ok  e18) sb_X9_bits mk_RX9_198 rfl ⟨Nat.le_of_ble_eq_true rfl, Nat.le_of_ble_eq_true rfl⟩ rfl (Nat.le_of_ble_eq_true rfl) dX9_level_52 ?_
            refine jIloadn C dX9_level_55 rfl 2 rfl ?_
            refine jCmpNe C 63 dX9_level_56 (by decide) (fun c19 => ?_) (fun c19 => ?_)
            · replace hf := itn hf c19
              refine jIconst C (0 : Int32) dX9_level_63 ki_0 ?_
              refine jIadd C dX9_level_64 ?_
              refine jIstoren C dX9_level_65 rfl (Nat.le_of_ble_eq_true rfl) [(3, .int (x3_9 + (0 : Int32))), (0, .ref (h 0)), (1, .int p1), (2, .int p2), (4, .int x4_10)] rfl ?_
              refine jIinc C (x4_10 + (1 : Int32)) dX9_level_66 4 rfl (congrArg (fun z : Int32 => x4_10 + z) ki_1) (Nat.le_of_ble_eq_true rfl) [(4, .int (x4_10 + (1 : Int32))), (3, .int (x3_9 + (0 : Int32))), (0, .ref (h 0)), (1, .int p1), (2, .int p2)] rfl ?_
              refine jGoto C 31 dX9_level_69 (by decide) ?_
              refine jSub [2, 3, 4, 1, 0] rfl ?_
              exact ir12 (x3_9 + (0 : Int32)) (x4_10 + (1 : Int32)) hf
            · replace hf := itp hf c19
              refine jIconst C (1 : Int32) dX9_level_59 ki_1 ?_
              refine jGoto C 64 dX9_level_60 (by decide) ?_
              refine jIadd C dX9_level_64 ?_
              refine jIstoren C dX9_level_65 rfl (Nat.le_of_ble_eq_true rfl) [(3, .int (x3_9 + (1 : Int32))), (0, .ref (h 0)), (1, .int p1), (2, .int p2), (4, .int x4_10)] rfl ?_
              refine jIinc C (x4_10 + (1 : Int32)) dX9_level_66 4 rfl (congrArg (fun z : Int32 => x4_10 + z) ki_1) (Nat.le_of_ble_eq_true rfl) [(4, .int (x4_10 + (1 : Int32))), (3, .int (x3_9 + (1 : Int32))), (0, .ref (h 0)), (1, .int p1), (2, .int p2)] rfl ?_
              refine jGoto C 31 dX9_level_69 (by decide) ?_
              refine jSub [2, 3, 4, 1, 0] rfl ?_
              exact ir12 (x3_9 + (1 : Int32)) (x4_10 + (1 : Int32)) hf
      refine jSub [2, 3, 4, 1, 0] rfl ?_
      exact hL11 (0 : Int32) (0 : Int32) hf
    · replace hf := itp hf c8
      refine jBipush C (-2 : Int32) dX9_level_23 kb_m2 ?_
      cases hf
      exact jEndI C hQ rfl dX9_level_25
noncomputable def X9_laysShadow_h16 (mnow : Nat → Int32) (p1 : Int32) (r4 : Int32 → (Nat → Int32) → Option (Nat → Int32)) (x3_1 : Int32) (p2 : Int32) (r11 : Int32 → (Nat → Int32) → Option (Nat → Int32)) (x4_8 : Int32) (mfre_9 : Nat → Int32) : Option (Nat → Int32) := bd1 (X9_points mnow p1) (fun q12 => (if q12 ≤ x4_8 then r4 (x3_1 + (1 : Int32)) mfre_9 else bd1 (X9_isIn mnow p1 x3_1) (fun q15 => (if q15 = (0 : Int32) then r11 (x4_8 + (1 : Int32)) mfre_9 else bd1 (X9_hasBit x3_1 x4_8) (fun q18 => (if q18 = p2 then r11 (x4_8 + (1 : Int32)) mfre_9 else gin (x3_1 ^^^ ((1 : Int32) <<< (x4_8 &&& 31))) 128 (r11 (x4_8 + (1 : Int32)) (upd mfre_9 (x3_1 ^^^ ((1 : Int32) <<< (x4_8 &&& 31))).toNatClampNeg (vp_nar .boolean (1 : Int32))))))))))
noncomputable def X9_laysShadow_h2 (mnow : Nat → Int32) (p1 : Int32) (p2 : Int32) (r4 : Int32 → (Nat → Int32) → Option (Nat → Int32)) (x3_1 : Int32) (mfre_2 : Nat → Int32) : Option (Nat → Int32) := bd1 (X9_points mnow p1) (fun q5 => (if ((1 : Int32) <<< (q5 &&& 31)) ≤ x3_1 then some mfre_2 else lfp2 (X9_laysShadow_h16 mnow p1 r4 x3_1 p2) (0 : Int32) mfre_2))
noncomputable def X9_laysShadow (mnow : Nat → Int32) (mfre : Nat → Int32) (p1 : Int32) (p2 : Int32) : Option (Nat → Int32) := lfp2 (X9_laysShadow_h2 mnow p1 p2) (0 : Int32) mfre
set_option maxHeartbeats 4000000 in
set_option maxRecDepth 20000 in
theorem X9_laysShadow_ok {p1 : Int32} {p2 : Int32} {omfre : Nat → Int32}  (hf : X9_laysShadow mnow mfre p1 p2 = some omfre) : MT yX9_laysShadow cX9_laysShadow 5 none 2 [.ref (h 0), .int p1, .int p2] D cy G (mw h cy mthr mfrp mact mtpd msiz matx mfrm mtok mval mfk mfpl mbem mtrs mtrl mrom mtom mnow mfre mkep mtap mlef mtak mbes mrow mint mrnd mplo mhio mtox mtol) (mw h cy mthr mfrp mact mtpd msiz matx mfrm mtok mval mfk mfpl mbem mtrs mtrl mrom mtom mnow omfre mkep mtap mlef mtak mbes mrow mint mrnd mplo mhio mtox mtol) none := by
  refine MT.go (own := RX9) [(0, .ref (h 0)), (1, .int p1), (2, .int p2)] (by decide) rfl (Nat.le_of_ble_eq_true rfl) rfl (fun p l e s m args below meth c A Q C hQ => ?_)
  unfold X9_laysShadow at hf
  refine jIconst C (0 : Int32) dX9_laysShadow_0 ki_0 ?_
  refine jIstoren C dX9_laysShadow_1 rfl (Nat.le_of_ble_eq_true rfl) [(3, .int (0 : Int32)), (0, .ref (h 0)), (1, .int p1), (2, .int p2)] rfl ?_
  have hL3 : ∀ (x3_1 : Int32) (mfre_2 : Nat → Int32), lfp2 (X9_laysShadow_h2 mnow p1 p2) x3_1 mfre_2 = some omfre → J p l e (rmk 2) s m args below meth c D A Q 5 (mw h cy mthr mfrp mact mtpd msiz matx mfrm mtok mval mfk mfpl mbem mtrs mtrl mrom mtom mnow mfre_2 mkep mtap mlef mtak mbes mrow mint mrnd mplo mhio mtox mtol) 2 [(0, .ref (h 0)), (1, .int p1), (2, .int p2), (3, .int x3_1)] [] := by
    intro x3_1 mfre_2 hw
    refine lfp2_walk (P := fun x3_1 mfre_2 => J p l e (rmk 2) s m args below meth c D A Q 5 (mw h cy mthr mfrp mact mtpd msiz matx mfrm mtok mval mfk mfpl mbem mtrs mtrl mrom mtom mnow mfre_2 mkep mtap mlef mtak mbes mrow mint mrnd mplo mhio mtox mtol) 2 [(0, .ref (h 0)), (1, .int p1), (2, .int p2), (3, .int x3_1)] []) ?_ hw
    intro r4 ir4 x3_1 mfre_2 hf
    unfold X9_laysShadow_h2 at hf
    refine jIloadn C dX9_laysShadow_2 rfl 3 rfl ?_
    refine jIconst C (1 : Int32) dX9_laysShadow_3 ki_1 ?_
    refine jAloadn C dX9_laysShadow_4 rfl 0 rfl ?_
    refine jIloadn C dX9_laysShadow_5 rfl 1 rfl ?_
    obtain ⟨q5, e6, hf⟩ := bd1_some hf
    refine jVI C (X9_points_ok  e6) vb_X9_points mk_RX9_78 rfl rcM ⟨Nat.le_of_ble_eq_true rfl, Nat.le_of_ble_eq_true rfl⟩ rfl (Nat.le_of_ble_eq_true rfl) dX9_laysShadow_6 ?_
    refine jIshl C dX9_laysShadow_9 ?_
    refine jCmpGe C 69 dX9_laysShadow_10 (by decide) (fun c7 => ?_) (fun c7 => ?_)
    · replace hf := itp hf c7
      cases hf
      exact jEndV C hQ rfl dX9_laysShadow_69
    · replace hf := itn hf c7
      refine jIconst C (0 : Int32) dX9_laysShadow_13 ki_0 ?_
      refine jIstore C dX9_laysShadow_14 (Nat.le_of_ble_eq_true rfl) [(4, .int (0 : Int32)), (0, .ref (h 0)), (1, .int p1), (2, .int p2), (3, .int x3_1)] rfl ?_
      have hL10 : ∀ (x4_8 : Int32) (mfre_9 : Nat → Int32), lfp2 (X9_laysShadow_h16 mnow p1 r4 x3_1 p2) x4_8 mfre_9 = some omfre → J p l e (rmk 2) s m args below meth c D A Q 5 (mw h cy mthr mfrp mact mtpd msiz matx mfrm mtok mval mfk mfpl mbem mtrs mtrl mrom mtom mnow mfre_9 mkep mtap mlef mtak mbes mrow mint mrnd mplo mhio mtox mtol) 16 [(0, .ref (h 0)), (1, .int p1), (2, .int p2), (3, .int x3_1), (4, .int x4_8)] [] := by
        intro x4_8 mfre_9 hw
        refine lfp2_walk (P := fun x4_8 mfre_9 => J p l e (rmk 2) s m args below meth c D A Q 5 (mw h cy mthr mfrp mact mtpd msiz matx mfrm mtok mval mfk mfpl mbem mtrs mtrl mrom mtom mnow mfre_9 mkep mtap mlef mtak mbes mrow mint mrnd mplo mhio mtox mtol) 16 [(0, .ref (h 0)), (1, .int p1), (2, .int p2), (3, .int x3_1), (4, .int x4_8)] []) ?_ hw
        intro r11 ir11 x4_8 mfre_9 hf
        unfold X9_laysShadow_h16 at hf
        refine jIload C dX9_laysShadow_16 4 rfl ?_
        refine jAloadn C dX9_laysShadow_18 rfl 0 rfl ?_
        refine jIloadn C dX9_laysShadow_19 rfl 1 rfl ?_
        obtain ⟨q12, e13, hf⟩ := bd1_some hf
        refine jVI C (X9_points_ok  e13) vb_X9_points mk_RX9_78 rfl rcM ⟨Nat.le_of_ble_eq_true rfl, Nat.le_of_ble_eq_true rfl⟩ rfl (Nat.le_of_ble_eq_true rfl) dX9_laysShadow_20 ?_
        refine jCmpGe C 63 dX9_laysShadow_23 (by decide) (fun c14 => ?_) (fun c14 => ?_)
        · replace hf := itp hf c14
          refine jIinc C (x3_1 + (1 : Int32)) dX9_laysShadow_63 3 rfl (congrArg (fun z : Int32 => x3_1 + z) ki_1) (Nat.le_of_ble_eq_true rfl) [(3, .int (x3_1 + (1 : Int32))), (0, .ref (h 0)), (1, .int p1), (2, .int p2), (4, .int x4_8)] rfl ?_
          refine jGoto C 2 dX9_laysShadow_66 (by decide) ?_
          refine jSub [1, 2, 3, 0] rfl ?_
          exact ir4 (x3_1 + (1 : Int32)) mfre_9 hf
        · replace hf := itn hf c14
          refine jAloadn C dX9_laysShadow_26 rfl 0 rfl ?_
          refine jIloadn C dX9_laysShadow_27 rfl 1 rfl ?_
          refine jIloadn C dX9_laysShadow_28 rfl 3 rfl ?_
          obtain ⟨q15, e16, hf⟩ := bd1_some hf
          refine jVI C (X9_isIn_ok  e16) vb_X9_isIn mk_RX9_81 rfl rcM ⟨Nat.le_of_ble_eq_true rfl, Nat.le_of_ble_eq_true rfl⟩ rfl (Nat.le_of_ble_eq_true rfl) dX9_laysShadow_29 ?_
          refine jIfEq C 57 dX9_laysShadow_32 (by decide) (fun c17 => ?_) (fun c17 => ?_)
          · replace hf := itp hf c17
            refine jIinc C (x4_8 + (1 : Int32)) dX9_laysShadow_57 4 rfl (congrArg (fun z : Int32 => x4_8 + z) ki_1) (Nat.le_of_ble_eq_true rfl) [(4, .int (x4_8 + (1 : Int32))), (0, .ref (h 0)), (1, .int p1), (2, .int p2), (3, .int x3_1)] rfl ?_
            refine jGoto C 16 dX9_laysShadow_60 (by decide) ?_
            refine jSub [1, 2, 3, 4, 0] rfl ?_
            exact ir11 (x4_8 + (1 : Int32)) mfre_9 hf
          · replace hf := itn hf c17
            refine jIloadn C dX9_laysShadow_35 rfl 3 rfl ?_
            refine jIload C dX9_laysShadow_36 4 rfl ?_
            obtain ⟨q18, e19, hf⟩ := bd1_some hf
            refine jSI C (X9_hasBit_ok  e19) sb_X9_hasBit mk_RX9_169 rfl ⟨Nat.le_of_ble_eq_true rfl, Nat.le_of_ble_eq_true rfl⟩ rfl (Nat.le_of_ble_eq_true rfl) dX9_laysShadow_38 ?_
            refine jIloadn C dX9_laysShadow_41 rfl 2 rfl ?_
            refine jCmpEq C 57 dX9_laysShadow_42 (by decide) (fun c20 => ?_) (fun c20 => ?_)
            · replace hf := itp hf c20
              refine jIinc C (x4_8 + (1 : Int32)) dX9_laysShadow_57 4 rfl (congrArg (fun z : Int32 => x4_8 + z) ki_1) (Nat.le_of_ble_eq_true rfl) [(4, .int (x4_8 + (1 : Int32))), (0, .ref (h 0)), (1, .int p1), (2, .int p2), (3, .int x3_1)] rfl ?_
              refine jGoto C 16 dX9_laysShadow_60 (by decide) ?_
              refine jSub [1, 2, 3, 4, 0] rfl ?_
              exact ir11 (x4_8 + (1 : Int32)) mfre_9 hf
            · replace hf := itn hf c20
              refine jAloadn C dX9_laysShadow_45 rfl 0 rfl ?_
              refine gf_RX9_13 C dX9_laysShadow_46 ?_
              refine jIloadn C dX9_laysShadow_49 rfl 3 rfl ?_
              refine jIconst C (1 : Int32) dX9_laysShadow_50 ki_1 ?_
              refine jIload C dX9_laysShadow_51 4 rfl ?_
              refine jIshl C dX9_laysShadow_53 ?_
              refine jIxor C dX9_laysShadow_54 ?_
              refine jIconst C (1 : Int32) dX9_laysShadow_55 ki_1 ?_
              obtain ⟨z21, hf⟩ := gin_some hf
              refine as_mfre C z21 dX9_laysShadow_56 ?_
              refine jIinc C (x4_8 + (1 : Int32)) dX9_laysShadow_57 4 rfl (congrArg (fun z : Int32 => x4_8 + z) ki_1) (Nat.le_of_ble_eq_true rfl) [(4, .int (x4_8 + (1 : Int32))), (0, .ref (h 0)), (1, .int p1), (2, .int p2), (3, .int x3_1)] rfl ?_
              refine jGoto C 16 dX9_laysShadow_60 (by decide) ?_
              refine jSub [1, 2, 3, 4, 0] rfl ?_
              exact ir11 (x4_8 + (1 : Int32)) (upd mfre_9 (x3_1 ^^^ ((1 : Int32) <<< (x4_8 &&& 31))).toNatClampNeg (vp_nar .boolean (1 : Int32))) hf
      refine jSub [1, 2, 3, 4, 0] rfl ?_
      exact hL10 (0 : Int32) mfre_2 hf
  refine jSub [1, 2, 3, 0] rfl ?_
  exact hL3 (0 : Int32) mfre hf
noncomputable def X9_laysWithin_h16 (mnow : Nat → Int32) (p1 : Int32) (r4 : Int32 → (Nat → Int32) → Option (Nat → Int32)) (x3_1 : Int32) (p2 : Int32) (r11 : Int32 → (Nat → Int32) → Option (Nat → Int32)) (x4_8 : Int32) (mfre_9 : Nat → Int32) : Option (Nat → Int32) := bd1 (X9_points mnow p1) (fun q12 => (if ((1 : Int32) <<< (q12 &&& 31)) ≤ x4_8 then r4 (x3_1 + (1 : Int32)) mfre_9 else bd1 (X9_isIn mnow p1 x3_1) (fun q15 => (if q15 = (0 : Int32) then r11 (x4_8 + (1 : Int32)) mfre_9 else (if p2 = (0 : Int32) then (if (x3_1 &&& x4_8) = x4_8 then gin x4_8 128 (r11 (x4_8 + (1 : Int32)) (upd mfre_9 x4_8.toNatClampNeg (vp_nar .boolean (1 : Int32)))) else r11 (x4_8 + (1 : Int32)) mfre_9) else (if (x3_1 &&& x4_8) = x3_1 then gin x4_8 128 (r11 (x4_8 + (1 : Int32)) (upd mfre_9 x4_8.toNatClampNeg (vp_nar .boolean (1 : Int32)))) else r11 (x4_8 + (1 : Int32)) mfre_9))))))
noncomputable def X9_laysWithin_h2 (mnow : Nat → Int32) (p1 : Int32) (p2 : Int32) (r4 : Int32 → (Nat → Int32) → Option (Nat → Int32)) (x3_1 : Int32) (mfre_2 : Nat → Int32) : Option (Nat → Int32) := bd1 (X9_points mnow p1) (fun q5 => (if ((1 : Int32) <<< (q5 &&& 31)) ≤ x3_1 then some mfre_2 else lfp2 (X9_laysWithin_h16 mnow p1 r4 x3_1 p2) (0 : Int32) mfre_2))
noncomputable def X9_laysWithin (mnow : Nat → Int32) (mfre : Nat → Int32) (p1 : Int32) (p2 : Int32) : Option (Nat → Int32) := lfp2 (X9_laysWithin_h2 mnow p1 p2) (0 : Int32) mfre
set_option maxHeartbeats 4000000 in
set_option maxRecDepth 20000 in
theorem X9_laysWithin_ok {p1 : Int32} {p2 : Int32} {omfre : Nat → Int32}  (hf : X9_laysWithin mnow mfre p1 p2 = some omfre) : MT yX9_laysWithin cX9_laysWithin 5 none 2 [.ref (h 0), .int p1, .int p2] D cy G (mw h cy mthr mfrp mact mtpd msiz matx mfrm mtok mval mfk mfpl mbem mtrs mtrl mrom mtom mnow mfre mkep mtap mlef mtak mbes mrow mint mrnd mplo mhio mtox mtol) (mw h cy mthr mfrp mact mtpd msiz matx mfrm mtok mval mfk mfpl mbem mtrs mtrl mrom mtom mnow omfre mkep mtap mlef mtak mbes mrow mint mrnd mplo mhio mtox mtol) none := by
  refine MT.go (own := RX9) [(0, .ref (h 0)), (1, .int p1), (2, .int p2)] (by decide) rfl (Nat.le_of_ble_eq_true rfl) rfl (fun p l e s m args below meth c A Q C hQ => ?_)
  unfold X9_laysWithin at hf
  refine jIconst C (0 : Int32) dX9_laysWithin_0 ki_0 ?_
  refine jIstoren C dX9_laysWithin_1 rfl (Nat.le_of_ble_eq_true rfl) [(3, .int (0 : Int32)), (0, .ref (h 0)), (1, .int p1), (2, .int p2)] rfl ?_
  have hL3 : ∀ (x3_1 : Int32) (mfre_2 : Nat → Int32), lfp2 (X9_laysWithin_h2 mnow p1 p2) x3_1 mfre_2 = some omfre → J p l e (rmk 2) s m args below meth c D A Q 5 (mw h cy mthr mfrp mact mtpd msiz matx mfrm mtok mval mfk mfpl mbem mtrs mtrl mrom mtom mnow mfre_2 mkep mtap mlef mtak mbes mrow mint mrnd mplo mhio mtox mtol) 2 [(0, .ref (h 0)), (1, .int p1), (2, .int p2), (3, .int x3_1)] [] := by
    intro x3_1 mfre_2 hw
    refine lfp2_walk (P := fun x3_1 mfre_2 => J p l e (rmk 2) s m args below meth c D A Q 5 (mw h cy mthr mfrp mact mtpd msiz matx mfrm mtok mval mfk mfpl mbem mtrs mtrl mrom mtom mnow mfre_2 mkep mtap mlef mtak mbes mrow mint mrnd mplo mhio mtox mtol) 2 [(0, .ref (h 0)), (1, .int p1), (2, .int p2), (3, .int x3_1)] []) ?_ hw
    intro r4 ir4 x3_1 mfre_2 hf
    unfold X9_laysWithin_h2 at hf
    refine jIloadn C dX9_laysWithin_2 rfl 3 rfl ?_
    refine jIconst C (1 : Int32) dX9_laysWithin_3 ki_1 ?_
    refine jAloadn C dX9_laysWithin_4 rfl 0 rfl ?_
    refine jIloadn C dX9_laysWithin_5 rfl 1 rfl ?_
    obtain ⟨q5, e6, hf⟩ := bd1_some hf
    refine jVI C (X9_points_ok  e6) vb_X9_points mk_RX9_78 rfl rcM ⟨Nat.le_of_ble_eq_true rfl, Nat.le_of_ble_eq_true rfl⟩ rfl (Nat.le_of_ble_eq_true rfl) dX9_laysWithin_6 ?_
    refine jIshl C dX9_laysWithin_9 ?_
    refine jCmpGe C 74 dX9_laysWithin_10 (by decide) (fun c7 => ?_) (fun c7 => ?_)
    · replace hf := itp hf c7
      cases hf
      exact jEndV C hQ rfl dX9_laysWithin_74
    · replace hf := itn hf c7
      refine jIconst C (0 : Int32) dX9_laysWithin_13 ki_0 ?_
      refine jIstore C dX9_laysWithin_14 (Nat.le_of_ble_eq_true rfl) [(4, .int (0 : Int32)), (0, .ref (h 0)), (1, .int p1), (2, .int p2), (3, .int x3_1)] rfl ?_
      have hL10 : ∀ (x4_8 : Int32) (mfre_9 : Nat → Int32), lfp2 (X9_laysWithin_h16 mnow p1 r4 x3_1 p2) x4_8 mfre_9 = some omfre → J p l e (rmk 2) s m args below meth c D A Q 5 (mw h cy mthr mfrp mact mtpd msiz matx mfrm mtok mval mfk mfpl mbem mtrs mtrl mrom mtom mnow mfre_9 mkep mtap mlef mtak mbes mrow mint mrnd mplo mhio mtox mtol) 16 [(0, .ref (h 0)), (1, .int p1), (2, .int p2), (3, .int x3_1), (4, .int x4_8)] [] := by
        intro x4_8 mfre_9 hw
        refine lfp2_walk (P := fun x4_8 mfre_9 => J p l e (rmk 2) s m args below meth c D A Q 5 (mw h cy mthr mfrp mact mtpd msiz matx mfrm mtok mval mfk mfpl mbem mtrs mtrl mrom mtom mnow mfre_9 mkep mtap mlef mtak mbes mrow mint mrnd mplo mhio mtox mtol) 16 [(0, .ref (h 0)), (1, .int p1), (2, .int p2), (3, .int x3_1), (4, .int x4_8)] []) ?_ hw
        intro r11 ir11 x4_8 mfre_9 hf
        unfold X9_laysWithin_h16 at hf
        refine jIload C dX9_laysWithin_16 4 rfl ?_
        refine jIconst C (1 : Int32) dX9_laysWithin_18 ki_1 ?_
        refine jAloadn C dX9_laysWithin_19 rfl 0 rfl ?_
        refine jIloadn C dX9_laysWithin_20 rfl 1 rfl ?_
        obtain ⟨q12, e13, hf⟩ := bd1_some hf
        refine jVI C (X9_points_ok  e13) vb_X9_points mk_RX9_78 rfl rcM ⟨Nat.le_of_ble_eq_true rfl, Nat.le_of_ble_eq_true rfl⟩ rfl (Nat.le_of_ble_eq_true rfl) dX9_laysWithin_21 ?_
        refine jIshl C dX9_laysWithin_24 ?_
        refine jCmpGe C 68 dX9_laysWithin_25 (by decide) (fun c14 => ?_) (fun c14 => ?_)
        · replace hf := itp hf c14
          refine jIinc C (x3_1 + (1 : Int32)) dX9_laysWithin_68 3 rfl (congrArg (fun z : Int32 => x3_1 + z) ki_1) (Nat.le_of_ble_eq_true rfl) [(3, .int (x3_1 + (1 : Int32))), (0, .ref (h 0)), (1, .int p1), (2, .int p2), (4, .int x4_8)] rfl ?_
          refine jGoto C 2 dX9_laysWithin_71 (by decide) ?_
          refine jSub [1, 2, 3, 0] rfl ?_
          exact ir4 (x3_1 + (1 : Int32)) mfre_9 hf
        · replace hf := itn hf c14
          refine jAloadn C dX9_laysWithin_28 rfl 0 rfl ?_
          refine jIloadn C dX9_laysWithin_29 rfl 1 rfl ?_
          refine jIloadn C dX9_laysWithin_30 rfl 3 rfl ?_
          obtain ⟨q15, e16, hf⟩ := bd1_some hf
          refine jVI C (X9_isIn_ok  e16) vb_X9_isIn mk_RX9_81 rfl rcM ⟨Nat.le_of_ble_eq_true rfl, Nat.le_of_ble_eq_true rfl⟩ rfl (Nat.le_of_ble_eq_true rfl) dX9_laysWithin_31 ?_
          refine jIfEq C 62 dX9_laysWithin_34 (by decide) (fun c17 => ?_) (fun c17 => ?_)
          · replace hf := itp hf c17
            refine jIinc C (x4_8 + (1 : Int32)) dX9_laysWithin_62 4 rfl (congrArg (fun z : Int32 => x4_8 + z) ki_1) (Nat.le_of_ble_eq_true rfl) [(4, .int (x4_8 + (1 : Int32))), (0, .ref (h 0)), (1, .int p1), (2, .int p2), (3, .int x3_1)] rfl ?_
            refine jGoto C 16 dX9_laysWithin_65 (by decide) ?_
            refine jSub [1, 2, 3, 4, 0] rfl ?_
            exact ir11 (x4_8 + (1 : Int32)) mfre_9 hf
          · replace hf := itn hf c17
            refine jIloadn C dX9_laysWithin_37 rfl 3 rfl ?_
            refine jIload C dX9_laysWithin_38 4 rfl ?_
            refine jIand C dX9_laysWithin_40 ?_
            refine jIloadn C dX9_laysWithin_41 rfl 2 rfl ?_
            refine jIfEq C 49 dX9_laysWithin_42 (by decide) (fun c18 => ?_) (fun c18 => ?_)
            · replace hf := itp hf c18
              refine jIload C dX9_laysWithin_49 4 rfl ?_
              refine jCmpNe C 62 dX9_laysWithin_51 (by decide) (fun c19 => ?_) (fun c19 => ?_)
              · replace hf := itn hf c19
                refine jIinc C (x4_8 + (1 : Int32)) dX9_laysWithin_62 4 rfl (congrArg (fun z : Int32 => x4_8 + z) ki_1) (Nat.le_of_ble_eq_true rfl) [(4, .int (x4_8 + (1 : Int32))), (0, .ref (h 0)), (1, .int p1), (2, .int p2), (3, .int x3_1)] rfl ?_
                refine jGoto C 16 dX9_laysWithin_65 (by decide) ?_
                refine jSub [1, 2, 3, 4, 0] rfl ?_
                exact ir11 (x4_8 + (1 : Int32)) mfre_9 hf
              · replace hf := itp hf c19
                refine jAloadn C dX9_laysWithin_54 rfl 0 rfl ?_
                refine gf_RX9_13 C dX9_laysWithin_55 ?_
                refine jIload C dX9_laysWithin_58 4 rfl ?_
                refine jIconst C (1 : Int32) dX9_laysWithin_60 ki_1 ?_
                obtain ⟨z20, hf⟩ := gin_some hf
                refine as_mfre C z20 dX9_laysWithin_61 ?_
                refine jIinc C (x4_8 + (1 : Int32)) dX9_laysWithin_62 4 rfl (congrArg (fun z : Int32 => x4_8 + z) ki_1) (Nat.le_of_ble_eq_true rfl) [(4, .int (x4_8 + (1 : Int32))), (0, .ref (h 0)), (1, .int p1), (2, .int p2), (3, .int x3_1)] rfl ?_
                refine jGoto C 16 dX9_laysWithin_65 (by decide) ?_
                refine jSub [1, 2, 3, 4, 0] rfl ?_
                exact ir11 (x4_8 + (1 : Int32)) (upd mfre_9 x4_8.toNatClampNeg (vp_nar .boolean (1 : Int32))) hf
            · replace hf := itn hf c18
              refine jIloadn C dX9_laysWithin_45 rfl 3 rfl ?_
              refine jGoto C 51 dX9_laysWithin_46 (by decide) ?_
              refine jCmpNe C 62 dX9_laysWithin_51 (by decide) (fun c21 => ?_) (fun c21 => ?_)
              · replace hf := itn hf c21
                refine jIinc C (x4_8 + (1 : Int32)) dX9_laysWithin_62 4 rfl (congrArg (fun z : Int32 => x4_8 + z) ki_1) (Nat.le_of_ble_eq_true rfl) [(4, .int (x4_8 + (1 : Int32))), (0, .ref (h 0)), (1, .int p1), (2, .int p2), (3, .int x3_1)] rfl ?_
                refine jGoto C 16 dX9_laysWithin_65 (by decide) ?_
                refine jSub [1, 2, 3, 4, 0] rfl ?_
                exact ir11 (x4_8 + (1 : Int32)) mfre_9 hf
              · replace hf := itp hf c21
                refine jAloadn C dX9_laysWithin_54 rfl 0 rfl ?_
                refine gf_RX9_13 C dX9_laysWithin_55 ?_
                refine jIload C dX9_laysWithin_58 4 rfl ?_
                refine jIconst C (1 : Int32) dX9_laysWithin_60 ki_1 ?_
                obtain ⟨z22, hf⟩ := gin_some hf
                refine as_mfre C z22 dX9_laysWithin_61 ?_
                refine jIinc C (x4_8 + (1 : Int32)) dX9_laysWithin_62 4 rfl (congrArg (fun z : Int32 => x4_8 + z) ki_1) (Nat.le_of_ble_eq_true rfl) [(4, .int (x4_8 + (1 : Int32))), (0, .ref (h 0)), (1, .int p1), (2, .int p2), (3, .int x3_1)] rfl ?_
                refine jGoto C 16 dX9_laysWithin_65 (by decide) ?_
                refine jSub [1, 2, 3, 4, 0] rfl ?_
                exact ir11 (x4_8 + (1 : Int32)) (upd mfre_9 x4_8.toNatClampNeg (vp_nar .boolean (1 : Int32))) hf
      refine jSub [1, 2, 3, 4, 0] rfl ?_
      exact hL10 (0 : Int32) mfre_2 hf
  refine jSub [1, 2, 3, 0] rfl ?_
  exact hL3 (0 : Int32) mfre hf
noncomputable def X9_laysClosed_j51 (x4_10 : Int32) (mfre_17 : Nat → Int32) (r19 : Int32 → Int32 → (Nat → Int32) → Option (Int32 × (Nat → Int32))) (x3_15 : Int32) (x5_16 : Int32) (y21 : Int32) : Option (Int32 × (Nat → Int32)) := gin x4_10 128 ((if (mfre_17 x4_10.toNatClampNeg) = (0 : Int32) then r19 x3_15 (x5_16 + (1 : Int32)) mfre_17 else gin x5_16 128 ((if (mfre_17 x5_16.toNatClampNeg) = (0 : Int32) then r19 x3_15 (x5_16 + (1 : Int32)) mfre_17 else gin y21 128 ((if (mfre_17 y21.toNatClampNeg) = (0 : Int32) then gin y21 128 (r19 (1 : Int32) (x5_16 + (1 : Int32)) (upd mfre_17 y21.toNatClampNeg (vp_nar .boolean (1 : Int32)))) else r19 x3_15 (x5_16 + (1 : Int32)) mfre_17))))))
noncomputable def X9_laysClosed_h27 (x4_10 : Int32) (r13 : Int32 → Int32 → (Nat → Int32) → Option (Int32 × (Nat → Int32))) (p2 : Int32) (r19 : Int32 → Int32 → (Nat → Int32) → Option (Int32 × (Nat → Int32))) (x3_15 : Int32) (x5_16 : Int32) (mfre_17 : Nat → Int32) : Option (Int32 × (Nat → Int32)) := (if x4_10 ≤ x5_16 then r13 x3_15 (x4_10 + (1 : Int32)) mfre_17 else (if p2 = (0 : Int32) then X9_laysClosed_j51 x4_10 mfre_17 r19 x3_15 x5_16 (x4_10 &&& x5_16) else X9_laysClosed_j51 x4_10 mfre_17 r19 x3_15 x5_16 (x4_10 ||| x5_16)))
noncomputable def X9_laysClosed_h16 (r7 : Int32 → (Nat → Int32) → Option (Int32 × (Nat → Int32))) (p2 : Int32) (r13 : Int32 → Int32 → (Nat → Int32) → Option (Int32 × (Nat → Int32))) (x3_9 : Int32) (x4_10 : Int32) (mfre_11 : Nat → Int32) : Option (Int32 × (Nat → Int32)) := (if (128 : Int32) ≤ x4_10 then r7 x3_9 mfre_11 else lfp3 (X9_laysClosed_h27 x4_10 r13 p2) x3_9 (0 : Int32) mfre_11)
noncomputable def X9_laysClosed_h7 (mfrp_1 : Int32) (p2 : Int32) (r7 : Int32 → (Nat → Int32) → Option (Int32 × (Nat → Int32))) (x3_4 : Int32) (mfre_5 : Nat → Int32) : Option (Int32 × (Nat → Int32)) := (if x3_4 = (0 : Int32) then some (mfrp_1, mfre_5) else lfp3 (X9_laysClosed_h16 r7 p2) (0 : Int32) (0 : Int32) mfre_5)
noncomputable def X9_laysClosed (mnow : Nat → Int32) (mfre : Nat → Int32) (p1 : Int32) (p2 : Int32) : Option (Int32 × (Nat → Int32)) := bd2 (X9_copiesFresh mnow mfre p1) (fun mfrp_1 mfre_2 => lfp2 (X9_laysClosed_h7 mfrp_1 p2) (1 : Int32) mfre_2)
set_option maxHeartbeats 4000000 in
set_option maxRecDepth 20000 in
theorem X9_laysClosed_ok {p1 : Int32} {p2 : Int32} {omfrp : Int32} {omfre : Nat → Int32}  (hf : X9_laysClosed mnow mfre p1 p2 = some (omfrp, omfre)) : MT yX9_laysClosed cX9_laysClosed 7 none 3 [.ref (h 0), .int p1, .int p2] D cy G (mw h cy mthr mfrp mact mtpd msiz matx mfrm mtok mval mfk mfpl mbem mtrs mtrl mrom mtom mnow mfre mkep mtap mlef mtak mbes mrow mint mrnd mplo mhio mtox mtol) (mw h cy mthr omfrp mact mtpd msiz matx mfrm mtok mval mfk mfpl mbem mtrs mtrl mrom mtom mnow omfre mkep mtap mlef mtak mbes mrow mint mrnd mplo mhio mtox mtol) none := by
  refine MT.go (own := RX9) [(0, .ref (h 0)), (1, .int p1), (2, .int p2)] (by decide) rfl (Nat.le_of_ble_eq_true rfl) rfl (fun p l e s m args below meth c A Q C hQ => ?_)
  unfold X9_laysClosed at hf
  refine jAloadn C dX9_laysClosed_0 rfl 0 rfl ?_
  refine jIloadn C dX9_laysClosed_1 rfl 1 rfl ?_
  obtain ⟨mfrp_1, mfre_2, e3, hf⟩ := bd2_some hf
  refine jVV C (X9_copiesFresh_ok  e3) vb_X9_copiesFresh mk_RX9_249 rfl rcM ⟨Nat.le_of_ble_eq_true rfl, Nat.le_of_ble_eq_true rfl⟩ rfl (Nat.le_of_ble_eq_true rfl) dX9_laysClosed_2 ?_
  refine jIconst C (1 : Int32) dX9_laysClosed_5 ki_1 ?_
  refine jIstoren C dX9_laysClosed_6 rfl (Nat.le_of_ble_eq_true rfl) [(3, .int (1 : Int32)), (0, .ref (h 0)), (1, .int p1), (2, .int p2)] rfl ?_
  have hL6 : ∀ (x3_4 : Int32) (mfre_5 : Nat → Int32), lfp2 (X9_laysClosed_h7 mfrp_1 p2) x3_4 mfre_5 = some (omfrp, omfre) → J p l e (rmk 3) s m args below meth c D A Q 7 (mw h cy mthr mfrp_1 mact mtpd msiz matx mfrm mtok mval mfk mfpl mbem mtrs mtrl mrom mtom mnow mfre_5 mkep mtap mlef mtak mbes mrow mint mrnd mplo mhio mtox mtol) 7 [(0, .ref (h 0)), (2, .int p2), (3, .int x3_4)] [] := by
    intro x3_4 mfre_5 hw
    refine lfp2_walk (P := fun x3_4 mfre_5 => J p l e (rmk 3) s m args below meth c D A Q 7 (mw h cy mthr mfrp_1 mact mtpd msiz matx mfrm mtok mval mfk mfpl mbem mtrs mtrl mrom mtom mnow mfre_5 mkep mtap mlef mtak mbes mrow mint mrnd mplo mhio mtox mtol) 7 [(0, .ref (h 0)), (2, .int p2), (3, .int x3_4)] []) ?_ hw
    intro r7 ir7 x3_4 mfre_5 hf
    unfold X9_laysClosed_h7 at hf
    refine jIloadn C dX9_laysClosed_7 rfl 2 rfl ?_
    refine jIfEq C 111 dX9_laysClosed_8 (by decide) (fun c8 => ?_) (fun c8 => ?_)
    · replace hf := itp hf c8
      cases hf
      exact jEndV C hQ rfl dX9_laysClosed_111
    · replace hf := itn hf c8
      refine jIconst C (0 : Int32) dX9_laysClosed_11 ki_0 ?_
      refine jIstoren C dX9_laysClosed_12 rfl (Nat.le_of_ble_eq_true rfl) [(3, .int (0 : Int32)), (0, .ref (h 0)), (2, .int p2)] rfl ?_
      refine jIconst C (0 : Int32) dX9_laysClosed_13 ki_0 ?_
      refine jIstore C dX9_laysClosed_14 (Nat.le_of_ble_eq_true rfl) [(4, .int (0 : Int32)), (3, .int (0 : Int32)), (0, .ref (h 0)), (2, .int p2)] rfl ?_
      have hL12 : ∀ (x3_9 : Int32) (x4_10 : Int32) (mfre_11 : Nat → Int32), lfp3 (X9_laysClosed_h16 r7 p2) x3_9 x4_10 mfre_11 = some (omfrp, omfre) → J p l e (rmk 3) s m args below meth c D A Q 7 (mw h cy mthr mfrp_1 mact mtpd msiz matx mfrm mtok mval mfk mfpl mbem mtrs mtrl mrom mtom mnow mfre_11 mkep mtap mlef mtak mbes mrow mint mrnd mplo mhio mtox mtol) 16 [(0, .ref (h 0)), (2, .int p2), (3, .int x3_9), (4, .int x4_10)] [] := by
        intro x3_9 x4_10 mfre_11 hw
        refine lfp3_walk (P := fun x3_9 x4_10 mfre_11 => J p l e (rmk 3) s m args below meth c D A Q 7 (mw h cy mthr mfrp_1 mact mtpd msiz matx mfrm mtok mval mfk mfpl mbem mtrs mtrl mrom mtom mnow mfre_11 mkep mtap mlef mtak mbes mrow mint mrnd mplo mhio mtox mtol) 16 [(0, .ref (h 0)), (2, .int p2), (3, .int x3_9), (4, .int x4_10)] []) ?_ hw
        intro r13 ir13 x3_9 x4_10 mfre_11 hf
        unfold X9_laysClosed_h16 at hf
        refine jIload C dX9_laysClosed_16 3 rfl ?_
        refine jSipush C (128 : Int32) dX9_laysClosed_18 ks_128 ?_
        refine jCmpGe C 108 dX9_laysClosed_21 (by decide) (fun c14 => ?_) (fun c14 => ?_)
        · replace hf := itp hf c14
          refine jGoto C 7 dX9_laysClosed_108 (by decide) ?_
          refine jSub [0, 1, 2] rfl ?_
          exact ir7 x3_9 mfre_11 hf
        · replace hf := itn hf c14
          refine jIconst C (0 : Int32) dX9_laysClosed_24 ki_0 ?_
          refine jIstore C dX9_laysClosed_25 (Nat.le_of_ble_eq_true rfl) [(5, .int (0 : Int32)), (0, .ref (h 0)), (2, .int p2), (3, .int x3_9), (4, .int x4_10)] rfl ?_
          have hL18 : ∀ (x3_15 : Int32) (x5_16 : Int32) (mfre_17 : Nat → Int32), lfp3 (X9_laysClosed_h27 x4_10 r13 p2) x3_15 x5_16 mfre_17 = some (omfrp, omfre) → J p l e (rmk 3) s m args below meth c D A Q 7 (mw h cy mthr mfrp_1 mact mtpd msiz matx mfrm mtok mval mfk mfpl mbem mtrs mtrl mrom mtom mnow mfre_17 mkep mtap mlef mtak mbes mrow mint mrnd mplo mhio mtox mtol) 27 [(0, .ref (h 0)), (2, .int p2), (3, .int x3_15), (4, .int x4_10), (5, .int x5_16)] [] := by
            intro x3_15 x5_16 mfre_17 hw
            refine lfp3_walk (P := fun x3_15 x5_16 mfre_17 => J p l e (rmk 3) s m args below meth c D A Q 7 (mw h cy mthr mfrp_1 mact mtpd msiz matx mfrm mtok mval mfk mfpl mbem mtrs mtrl mrom mtom mnow mfre_17 mkep mtap mlef mtak mbes mrow mint mrnd mplo mhio mtox mtol) 27 [(0, .ref (h 0)), (2, .int p2), (3, .int x3_15), (4, .int x4_10), (5, .int x5_16)] []) ?_ hw
            intro r19 ir19 x3_15 x5_16 mfre_17 hf
            unfold X9_laysClosed_h27 at hf
            refine jIload C dX9_laysClosed_27 4 rfl ?_
            refine jIload C dX9_laysClosed_29 3 rfl ?_
            refine jCmpGe C 102 dX9_laysClosed_31 (by decide) (fun c20 => ?_) (fun c20 => ?_)
            · replace hf := itp hf c20
              refine jIinc C (x4_10 + (1 : Int32)) dX9_laysClosed_102 3 rfl (congrArg (fun z : Int32 => x4_10 + z) ki_1) (Nat.le_of_ble_eq_true rfl) [(4, .int (x4_10 + (1 : Int32))), (0, .ref (h 0)), (2, .int p2), (3, .int x3_15), (5, .int x5_16)] rfl ?_
              refine jGoto C 16 dX9_laysClosed_105 (by decide) ?_
              refine jSub [1, 2, 3, 0] rfl ?_
              exact ir13 x3_15 (x4_10 + (1 : Int32)) mfre_17 hf
            · replace hf := itn hf c20
              refine jIloadn C dX9_laysClosed_34 rfl 1 rfl ?_
              have hL22 : ∀ (y21 : Int32), X9_laysClosed_j51 x4_10 mfre_17 r19 x3_15 x5_16 y21 = some (omfrp, omfre) → J p l e (rmk 3) s m args below meth c D A Q 7 (mw h cy mthr mfrp_1 mact mtpd msiz matx mfrm mtok mval mfk mfpl mbem mtrs mtrl mrom mtom mnow mfre_17 mkep mtap mlef mtak mbes mrow mint mrnd mplo mhio mtox mtol) 51 [(0, .ref (h 0)), (2, .int p2), (3, .int x3_15), (4, .int x4_10), (5, .int x5_16)] [.int y21] := by
                intro y21 hf
                unfold X9_laysClosed_j51 at hf
                refine jIstore C dX9_laysClosed_51 (Nat.le_of_ble_eq_true rfl) [(6, .int y21), (0, .ref (h 0)), (2, .int p2), (3, .int x3_15), (4, .int x4_10), (5, .int x5_16)] rfl ?_
                refine jAloadn C dX9_laysClosed_53 rfl 1 rfl ?_
                refine gf_RX9_13 C dX9_laysClosed_54 ?_
                refine jIload C dX9_laysClosed_57 4 rfl ?_
                obtain ⟨z23, hf⟩ := gin_some hf
                refine al_mfre C z23 dX9_laysClosed_59 ?_
                refine jIfEq C 96 dX9_laysClosed_60 (by decide) (fun c24 => ?_) (fun c24 => ?_)
                · replace hf := itp hf c24
                  refine jIinc C (x5_16 + (1 : Int32)) dX9_laysClosed_96 5 rfl (congrArg (fun z : Int32 => x5_16 + z) ki_1) (Nat.le_of_ble_eq_true rfl) [(5, .int (x5_16 + (1 : Int32))), (6, .int y21), (0, .ref (h 0)), (2, .int p2), (3, .int x3_15), (4, .int x4_10)] rfl ?_
                  refine jGoto C 27 dX9_laysClosed_99 (by decide) ?_
                  refine jSub [2, 3, 4, 5, 0] rfl ?_
                  exact ir19 x3_15 (x5_16 + (1 : Int32)) mfre_17 hf
                · replace hf := itn hf c24
                  refine jAloadn C dX9_laysClosed_63 rfl 1 rfl ?_
                  refine gf_RX9_13 C dX9_laysClosed_64 ?_
                  refine jIload C dX9_laysClosed_67 5 rfl ?_
                  obtain ⟨z25, hf⟩ := gin_some hf
                  refine al_mfre C z25 dX9_laysClosed_69 ?_
                  refine jIfEq C 96 dX9_laysClosed_70 (by decide) (fun c26 => ?_) (fun c26 => ?_)
                  · replace hf := itp hf c26
                    refine jIinc C (x5_16 + (1 : Int32)) dX9_laysClosed_96 5 rfl (congrArg (fun z : Int32 => x5_16 + z) ki_1) (Nat.le_of_ble_eq_true rfl) [(5, .int (x5_16 + (1 : Int32))), (6, .int y21), (0, .ref (h 0)), (2, .int p2), (3, .int x3_15), (4, .int x4_10)] rfl ?_
                    refine jGoto C 27 dX9_laysClosed_99 (by decide) ?_
                    refine jSub [2, 3, 4, 5, 0] rfl ?_
                    exact ir19 x3_15 (x5_16 + (1 : Int32)) mfre_17 hf
                  · replace hf := itn hf c26
                    refine jAloadn C dX9_laysClosed_73 rfl 1 rfl ?_
                    refine gf_RX9_13 C dX9_laysClosed_74 ?_
                    refine jIload C dX9_laysClosed_77 0 rfl ?_
                    obtain ⟨z27, hf⟩ := gin_some hf
                    refine al_mfre C z27 dX9_laysClosed_79 ?_
                    refine jIfEq C 86 dX9_laysClosed_80 (by decide) (fun c28 => ?_) (fun c28 => ?_)
                    · replace hf := itp hf c28
                      refine jAloadn C dX9_laysClosed_86 rfl 1 rfl ?_
                      refine gf_RX9_13 C dX9_laysClosed_87 ?_
                      refine jIload C dX9_laysClosed_90 0 rfl ?_
                      refine jIconst C (1 : Int32) dX9_laysClosed_92 ki_1 ?_
                      obtain ⟨z29, hf⟩ := gin_some hf
                      refine as_mfre C z29 dX9_laysClosed_93 ?_
                      refine jIconst C (1 : Int32) dX9_laysClosed_94 ki_1 ?_
                      refine jIstoren C dX9_laysClosed_95 rfl (Nat.le_of_ble_eq_true rfl) [(3, .int (1 : Int32)), (6, .int y21), (0, .ref (h 0)), (2, .int p2), (4, .int x4_10), (5, .int x5_16)] rfl ?_
                      refine jIinc C (x5_16 + (1 : Int32)) dX9_laysClosed_96 5 rfl (congrArg (fun z : Int32 => x5_16 + z) ki_1) (Nat.le_of_ble_eq_true rfl) [(5, .int (x5_16 + (1 : Int32))), (3, .int (1 : Int32)), (6, .int y21), (0, .ref (h 0)), (2, .int p2), (4, .int x4_10)] rfl ?_
                      refine jGoto C 27 dX9_laysClosed_99 (by decide) ?_
                      refine jSub [3, 4, 1, 5, 0] rfl ?_
                      exact ir19 (1 : Int32) (x5_16 + (1 : Int32)) (upd mfre_17 y21.toNatClampNeg (vp_nar .boolean (1 : Int32))) hf
                    · replace hf := itn hf c28
                      refine jGoto C 96 dX9_laysClosed_83 (by decide) ?_
                      refine jIinc C (x5_16 + (1 : Int32)) dX9_laysClosed_96 5 rfl (congrArg (fun z : Int32 => x5_16 + z) ki_1) (Nat.le_of_ble_eq_true rfl) [(5, .int (x5_16 + (1 : Int32))), (6, .int y21), (0, .ref (h 0)), (2, .int p2), (3, .int x3_15), (4, .int x4_10)] rfl ?_
                      refine jGoto C 27 dX9_laysClosed_99 (by decide) ?_
                      refine jSub [2, 3, 4, 5, 0] rfl ?_
                      exact ir19 x3_15 (x5_16 + (1 : Int32)) mfre_17 hf
              refine jIfEq C 46 dX9_laysClosed_35 (by decide) (fun c30 => ?_) (fun c30 => ?_)
              · replace hf := itp hf c30
                refine jIload C dX9_laysClosed_46 3 rfl ?_
                refine jIload C dX9_laysClosed_48 4 rfl ?_
                refine jIand C dX9_laysClosed_50 ?_
                exact hL22 (x4_10 &&& x5_16) hf
              · replace hf := itn hf c30
                refine jIload C dX9_laysClosed_38 3 rfl ?_
                refine jIload C dX9_laysClosed_40 4 rfl ?_
                refine jIor C dX9_laysClosed_42 ?_
                refine jGoto C 51 dX9_laysClosed_43 (by decide) ?_
                exact hL22 (x4_10 ||| x5_16) hf
          refine jSub [1, 2, 3, 4, 0] rfl ?_
          exact hL18 x3_9 (0 : Int32) mfre_11 hf
      refine jSub [2, 3, 1, 0] rfl ?_
      exact hL12 (0 : Int32) (0 : Int32) mfre_5 hf
  refine jSub [1, 3, 0] rfl ?_
  exact hL6 (1 : Int32) mfre_2 hf
noncomputable def X9_laysEnds_h20 (x3_1 : Int32) (r4 : Int32 → (Nat → Int32) → Option (Nat → Int32)) (mfre_2 : Nat → Int32) (mnow : Nat → Int32) (p1 : Int32) (p2 : Int32) (r11 : Int32 → Int32 → Option (Nat → Int32)) (x4_8 : Int32) (x5_9 : Int32) : Option (Nat → Int32) := (if (128 : Int32) ≤ x5_9 then gin x3_1 128 (r4 (x3_1 + (1 : Int32)) (upd mfre_2 x3_1.toNatClampNeg (vp_nar .boolean x4_8))) else (if x4_8 = (0 : Int32) then gin x3_1 128 (r4 (x3_1 + (1 : Int32)) (upd mfre_2 x3_1.toNatClampNeg (vp_nar .boolean x4_8))) else (if x5_9 = x3_1 then r11 (1 : Int32) (x5_9 + (1 : Int32)) else bd1 (X9_isIn mnow p1 x5_9) (fun q17 => (if q17 = (0 : Int32) then r11 (1 : Int32) (x5_9 + (1 : Int32)) else (if p2 = (0 : Int32) then (if (x3_1 &&& x5_9) = x5_9 then r11 (0 : Int32) (x5_9 + (1 : Int32)) else r11 (1 : Int32) (x5_9 + (1 : Int32))) else (if (x3_1 &&& x5_9) = x3_1 then r11 (0 : Int32) (x5_9 + (1 : Int32)) else r11 (1 : Int32) (x5_9 + (1 : Int32)))))))))
noncomputable def X9_laysEnds_h2 (mnow : Nat → Int32) (p1 : Int32) (p2 : Int32) (r4 : Int32 → (Nat → Int32) → Option (Nat → Int32)) (x3_1 : Int32) (mfre_2 : Nat → Int32) : Option (Nat → Int32) := (if (128 : Int32) ≤ x3_1 then some mfre_2 else bd1 (X9_isIn mnow p1 x3_1) (fun q6 => lfp2 (X9_laysEnds_h20 x3_1 r4 mfre_2 mnow p1 p2) q6 (0 : Int32)))
noncomputable def X9_laysEnds (mnow : Nat → Int32) (mfre : Nat → Int32) (p1 : Int32) (p2 : Int32) : Option (Nat → Int32) := lfp2 (X9_laysEnds_h2 mnow p1 p2) (0 : Int32) mfre
set_option maxHeartbeats 4000000 in
set_option maxRecDepth 20000 in
theorem X9_laysEnds_ok {p1 : Int32} {p2 : Int32} {omfre : Nat → Int32}  (hf : X9_laysEnds mnow mfre p1 p2 = some omfre) : MT yX9_laysEnds cX9_laysEnds 6 none 2 [.ref (h 0), .int p1, .int p2] D cy G (mw h cy mthr mfrp mact mtpd msiz matx mfrm mtok mval mfk mfpl mbem mtrs mtrl mrom mtom mnow mfre mkep mtap mlef mtak mbes mrow mint mrnd mplo mhio mtox mtol) (mw h cy mthr mfrp mact mtpd msiz matx mfrm mtok mval mfk mfpl mbem mtrs mtrl mrom mtom mnow omfre mkep mtap mlef mtak mbes mrow mint mrnd mplo mhio mtox mtol) none := by
  refine MT.go (own := RX9) [(0, .ref (h 0)), (1, .int p1), (2, .int p2)] (by decide) rfl (Nat.le_of_ble_eq_true rfl) rfl (fun p l e s m args below meth c A Q C hQ => ?_)
  unfold X9_laysEnds at hf
  refine jIconst C (0 : Int32) dX9_laysEnds_0 ki_0 ?_
  refine jIstoren C dX9_laysEnds_1 rfl (Nat.le_of_ble_eq_true rfl) [(3, .int (0 : Int32)), (0, .ref (h 0)), (1, .int p1), (2, .int p2)] rfl ?_
  have hL3 : ∀ (x3_1 : Int32) (mfre_2 : Nat → Int32), lfp2 (X9_laysEnds_h2 mnow p1 p2) x3_1 mfre_2 = some omfre → J p l e (rmk 2) s m args below meth c D A Q 6 (mw h cy mthr mfrp mact mtpd msiz matx mfrm mtok mval mfk mfpl mbem mtrs mtrl mrom mtom mnow mfre_2 mkep mtap mlef mtak mbes mrow mint mrnd mplo mhio mtox mtol) 2 [(0, .ref (h 0)), (1, .int p1), (2, .int p2), (3, .int x3_1)] [] := by
    intro x3_1 mfre_2 hw
    refine lfp2_walk (P := fun x3_1 mfre_2 => J p l e (rmk 2) s m args below meth c D A Q 6 (mw h cy mthr mfrp mact mtpd msiz matx mfrm mtok mval mfk mfpl mbem mtrs mtrl mrom mtom mnow mfre_2 mkep mtap mlef mtak mbes mrow mint mrnd mplo mhio mtox mtol) 2 [(0, .ref (h 0)), (1, .int p1), (2, .int p2), (3, .int x3_1)] []) ?_ hw
    intro r4 ir4 x3_1 mfre_2 hf
    unfold X9_laysEnds_h2 at hf
    refine jIloadn C dX9_laysEnds_2 rfl 3 rfl ?_
    refine jSipush C (128 : Int32) dX9_laysEnds_3 ks_128 ?_
    refine jCmpGe C 93 dX9_laysEnds_6 (by decide) (fun c5 => ?_) (fun c5 => ?_)
    · replace hf := itp hf c5
      cases hf
      exact jEndV C hQ rfl dX9_laysEnds_93
    · replace hf := itn hf c5
      refine jAloadn C dX9_laysEnds_9 rfl 0 rfl ?_
      refine jIloadn C dX9_laysEnds_10 rfl 1 rfl ?_
      refine jIloadn C dX9_laysEnds_11 rfl 3 rfl ?_
      obtain ⟨q6, e7, hf⟩ := bd1_some hf
      refine jVI C (X9_isIn_ok  e7) vb_X9_isIn mk_RX9_81 rfl rcM ⟨Nat.le_of_ble_eq_true rfl, Nat.le_of_ble_eq_true rfl⟩ rfl (Nat.le_of_ble_eq_true rfl) dX9_laysEnds_12 ?_
      refine jIstore C dX9_laysEnds_15 (Nat.le_of_ble_eq_true rfl) [(4, .int q6), (0, .ref (h 0)), (1, .int p1), (2, .int p2), (3, .int x3_1)] rfl ?_
      refine jIconst C (0 : Int32) dX9_laysEnds_17 ki_0 ?_
      refine jIstore C dX9_laysEnds_18 (Nat.le_of_ble_eq_true rfl) [(5, .int (0 : Int32)), (4, .int q6), (0, .ref (h 0)), (1, .int p1), (2, .int p2), (3, .int x3_1)] rfl ?_
      have hL10 : ∀ (x4_8 : Int32) (x5_9 : Int32), lfp2 (X9_laysEnds_h20 x3_1 r4 mfre_2 mnow p1 p2) x4_8 x5_9 = some omfre → J p l e (rmk 2) s m args below meth c D A Q 6 (mw h cy mthr mfrp mact mtpd msiz matx mfrm mtok mval mfk mfpl mbem mtrs mtrl mrom mtom mnow mfre_2 mkep mtap mlef mtak mbes mrow mint mrnd mplo mhio mtox mtol) 20 [(0, .ref (h 0)), (1, .int p1), (2, .int p2), (3, .int x3_1), (4, .int x4_8), (5, .int x5_9)] [] := by
        intro x4_8 x5_9 hw
        refine lfp2_walk (P := fun x4_8 x5_9 => J p l e (rmk 2) s m args below meth c D A Q 6 (mw h cy mthr mfrp mact mtpd msiz matx mfrm mtok mval mfk mfpl mbem mtrs mtrl mrom mtom mnow mfre_2 mkep mtap mlef mtak mbes mrow mint mrnd mplo mhio mtox mtol) 20 [(0, .ref (h 0)), (1, .int p1), (2, .int p2), (3, .int x3_1), (4, .int x4_8), (5, .int x5_9)] []) ?_ hw
        intro r11 ir11 x4_8 x5_9 hf
        unfold X9_laysEnds_h20 at hf
        refine jIload C dX9_laysEnds_20 5 rfl ?_
        refine jSipush C (128 : Int32) dX9_laysEnds_22 ks_128 ?_
        refine jCmpGe C 79 dX9_laysEnds_25 (by decide) (fun c12 => ?_) (fun c12 => ?_)
        · replace hf := itp hf c12
          refine jAloadn C dX9_laysEnds_79 rfl 0 rfl ?_
          refine gf_RX9_13 C dX9_laysEnds_80 ?_
          refine jIloadn C dX9_laysEnds_83 rfl 3 rfl ?_
          refine jIload C dX9_laysEnds_84 4 rfl ?_
          obtain ⟨z13, hf⟩ := gin_some hf
          refine as_mfre C z13 dX9_laysEnds_86 ?_
          refine jIinc C (x3_1 + (1 : Int32)) dX9_laysEnds_87 3 rfl (congrArg (fun z : Int32 => x3_1 + z) ki_1) (Nat.le_of_ble_eq_true rfl) [(3, .int (x3_1 + (1 : Int32))), (0, .ref (h 0)), (1, .int p1), (2, .int p2), (4, .int x4_8), (5, .int x5_9)] rfl ?_
          refine jGoto C 2 dX9_laysEnds_90 (by decide) ?_
          refine jSub [1, 2, 3, 0] rfl ?_
          exact ir4 (x3_1 + (1 : Int32)) (upd mfre_2 x3_1.toNatClampNeg (vp_nar .boolean x4_8)) hf
        · replace hf := itn hf c12
          refine jIload C dX9_laysEnds_28 4 rfl ?_
          refine jIfEq C 79 dX9_laysEnds_30 (by decide) (fun c14 => ?_) (fun c14 => ?_)
          · replace hf := itp hf c14
            refine jAloadn C dX9_laysEnds_79 rfl 0 rfl ?_
            refine gf_RX9_13 C dX9_laysEnds_80 ?_
            refine jIloadn C dX9_laysEnds_83 rfl 3 rfl ?_
            refine jIload C dX9_laysEnds_84 4 rfl ?_
            obtain ⟨z15, hf⟩ := gin_some hf
            refine as_mfre C z15 dX9_laysEnds_86 ?_
            refine jIinc C (x3_1 + (1 : Int32)) dX9_laysEnds_87 3 rfl (congrArg (fun z : Int32 => x3_1 + z) ki_1) (Nat.le_of_ble_eq_true rfl) [(3, .int (x3_1 + (1 : Int32))), (0, .ref (h 0)), (1, .int p1), (2, .int p2), (4, .int x4_8), (5, .int x5_9)] rfl ?_
            refine jGoto C 2 dX9_laysEnds_90 (by decide) ?_
            refine jSub [1, 2, 3, 0] rfl ?_
            exact ir4 (x3_1 + (1 : Int32)) (upd mfre_2 x3_1.toNatClampNeg (vp_nar .boolean x4_8)) hf
          · replace hf := itn hf c14
            refine jIload C dX9_laysEnds_33 5 rfl ?_
            refine jIloadn C dX9_laysEnds_35 rfl 3 rfl ?_
            refine jCmpEq C 66 dX9_laysEnds_36 (by decide) (fun c16 => ?_) (fun c16 => ?_)
            · replace hf := itp hf c16
              refine jIconst C (1 : Int32) dX9_laysEnds_66 ki_1 ?_
              refine jGoto C 71 dX9_laysEnds_67 (by decide) ?_
              refine jIstore C dX9_laysEnds_71 (Nat.le_of_ble_eq_true rfl) [(4, .int (1 : Int32)), (0, .ref (h 0)), (1, .int p1), (2, .int p2), (3, .int x3_1), (5, .int x5_9)] rfl ?_
              refine jIinc C (x5_9 + (1 : Int32)) dX9_laysEnds_73 5 rfl (congrArg (fun z : Int32 => x5_9 + z) ki_1) (Nat.le_of_ble_eq_true rfl) [(5, .int (x5_9 + (1 : Int32))), (4, .int (1 : Int32)), (0, .ref (h 0)), (1, .int p1), (2, .int p2), (3, .int x3_1)] rfl ?_
              refine jGoto C 20 dX9_laysEnds_76 (by decide) ?_
              refine jSub [2, 3, 4, 5, 1, 0] rfl ?_
              exact ir11 (1 : Int32) (x5_9 + (1 : Int32)) hf
            · replace hf := itn hf c16
              refine jAloadn C dX9_laysEnds_39 rfl 0 rfl ?_
              refine jIloadn C dX9_laysEnds_40 rfl 1 rfl ?_
              refine jIload C dX9_laysEnds_41 5 rfl ?_
              obtain ⟨q17, e18, hf⟩ := bd1_some hf
              refine jVI C (X9_isIn_ok  e18) vb_X9_isIn mk_RX9_81 rfl rcM ⟨Nat.le_of_ble_eq_true rfl, Nat.le_of_ble_eq_true rfl⟩ rfl (Nat.le_of_ble_eq_true rfl) dX9_laysEnds_43 ?_
              refine jIfEq C 66 dX9_laysEnds_46 (by decide) (fun c19 => ?_) (fun c19 => ?_)
              · replace hf := itp hf c19
                refine jIconst C (1 : Int32) dX9_laysEnds_66 ki_1 ?_
                refine jGoto C 71 dX9_laysEnds_67 (by decide) ?_
                refine jIstore C dX9_laysEnds_71 (Nat.le_of_ble_eq_true rfl) [(4, .int (1 : Int32)), (0, .ref (h 0)), (1, .int p1), (2, .int p2), (3, .int x3_1), (5, .int x5_9)] rfl ?_
                refine jIinc C (x5_9 + (1 : Int32)) dX9_laysEnds_73 5 rfl (congrArg (fun z : Int32 => x5_9 + z) ki_1) (Nat.le_of_ble_eq_true rfl) [(5, .int (x5_9 + (1 : Int32))), (4, .int (1 : Int32)), (0, .ref (h 0)), (1, .int p1), (2, .int p2), (3, .int x3_1)] rfl ?_
                refine jGoto C 20 dX9_laysEnds_76 (by decide) ?_
                refine jSub [2, 3, 4, 5, 1, 0] rfl ?_
                exact ir11 (1 : Int32) (x5_9 + (1 : Int32)) hf
              · replace hf := itn hf c19
                refine jIloadn C dX9_laysEnds_49 rfl 3 rfl ?_
                refine jIload C dX9_laysEnds_50 5 rfl ?_
                refine jIand C dX9_laysEnds_52 ?_
                refine jIloadn C dX9_laysEnds_53 rfl 2 rfl ?_
                refine jIfEq C 61 dX9_laysEnds_54 (by decide) (fun c20 => ?_) (fun c20 => ?_)
                · replace hf := itp hf c20
                  refine jIload C dX9_laysEnds_61 5 rfl ?_
                  refine jCmpEq C 70 dX9_laysEnds_63 (by decide) (fun c21 => ?_) (fun c21 => ?_)
                  · replace hf := itp hf c21
                    refine jIconst C (0 : Int32) dX9_laysEnds_70 ki_0 ?_
                    refine jIstore C dX9_laysEnds_71 (Nat.le_of_ble_eq_true rfl) [(4, .int (0 : Int32)), (0, .ref (h 0)), (1, .int p1), (2, .int p2), (3, .int x3_1), (5, .int x5_9)] rfl ?_
                    refine jIinc C (x5_9 + (1 : Int32)) dX9_laysEnds_73 5 rfl (congrArg (fun z : Int32 => x5_9 + z) ki_1) (Nat.le_of_ble_eq_true rfl) [(5, .int (x5_9 + (1 : Int32))), (4, .int (0 : Int32)), (0, .ref (h 0)), (1, .int p1), (2, .int p2), (3, .int x3_1)] rfl ?_
                    refine jGoto C 20 dX9_laysEnds_76 (by decide) ?_
                    refine jSub [2, 3, 4, 5, 1, 0] rfl ?_
                    exact ir11 (0 : Int32) (x5_9 + (1 : Int32)) hf
                  · replace hf := itn hf c21
                    refine jIconst C (1 : Int32) dX9_laysEnds_66 ki_1 ?_
                    refine jGoto C 71 dX9_laysEnds_67 (by decide) ?_
                    refine jIstore C dX9_laysEnds_71 (Nat.le_of_ble_eq_true rfl) [(4, .int (1 : Int32)), (0, .ref (h 0)), (1, .int p1), (2, .int p2), (3, .int x3_1), (5, .int x5_9)] rfl ?_
                    refine jIinc C (x5_9 + (1 : Int32)) dX9_laysEnds_73 5 rfl (congrArg (fun z : Int32 => x5_9 + z) ki_1) (Nat.le_of_ble_eq_true rfl) [(5, .int (x5_9 + (1 : Int32))), (4, .int (1 : Int32)), (0, .ref (h 0)), (1, .int p1), (2, .int p2), (3, .int x3_1)] rfl ?_
                    refine jGoto C 20 dX9_laysEnds_76 (by decide) ?_
                    refine jSub [2, 3, 4, 5, 1, 0] rfl ?_
                    exact ir11 (1 : Int32) (x5_9 + (1 : Int32)) hf
                · replace hf := itn hf c20
                  refine jIloadn C dX9_laysEnds_57 rfl 3 rfl ?_
                  refine jGoto C 63 dX9_laysEnds_58 (by decide) ?_
                  refine jCmpEq C 70 dX9_laysEnds_63 (by decide) (fun c22 => ?_) (fun c22 => ?_)
                  · replace hf := itp hf c22
                    refine jIconst C (0 : Int32) dX9_laysEnds_70 ki_0 ?_
                    refine jIstore C dX9_laysEnds_71 (Nat.le_of_ble_eq_true rfl) [(4, .int (0 : Int32)), (0, .ref (h 0)), (1, .int p1), (2, .int p2), (3, .int x3_1), (5, .int x5_9)] rfl ?_
                    refine jIinc C (x5_9 + (1 : Int32)) dX9_laysEnds_73 5 rfl (congrArg (fun z : Int32 => x5_9 + z) ki_1) (Nat.le_of_ble_eq_true rfl) [(5, .int (x5_9 + (1 : Int32))), (4, .int (0 : Int32)), (0, .ref (h 0)), (1, .int p1), (2, .int p2), (3, .int x3_1)] rfl ?_
                    refine jGoto C 20 dX9_laysEnds_76 (by decide) ?_
                    refine jSub [2, 3, 4, 5, 1, 0] rfl ?_
                    exact ir11 (0 : Int32) (x5_9 + (1 : Int32)) hf
                  · replace hf := itn hf c22
                    refine jIconst C (1 : Int32) dX9_laysEnds_66 ki_1 ?_
                    refine jGoto C 71 dX9_laysEnds_67 (by decide) ?_
                    refine jIstore C dX9_laysEnds_71 (Nat.le_of_ble_eq_true rfl) [(4, .int (1 : Int32)), (0, .ref (h 0)), (1, .int p1), (2, .int p2), (3, .int x3_1), (5, .int x5_9)] rfl ?_
                    refine jIinc C (x5_9 + (1 : Int32)) dX9_laysEnds_73 5 rfl (congrArg (fun z : Int32 => x5_9 + z) ki_1) (Nat.le_of_ble_eq_true rfl) [(5, .int (x5_9 + (1 : Int32))), (4, .int (1 : Int32)), (0, .ref (h 0)), (1, .int p1), (2, .int p2), (3, .int x3_1)] rfl ?_
                    refine jGoto C 20 dX9_laysEnds_76 (by decide) ?_
                    refine jSub [2, 3, 4, 5, 1, 0] rfl ?_
                    exact ir11 (1 : Int32) (x5_9 + (1 : Int32)) hf
      refine jSub [2, 3, 4, 5, 1, 0] rfl ?_
      exact hL10 q6 (0 : Int32) hf
  refine jSub [1, 2, 3, 0] rfl ?_
  exact hL3 (0 : Int32) mfre hf
noncomputable def X9_meetsAll_h2 (mnow : Nat → Int32) (p1 : Int32) (p2 : Int32) (r3 : Int32 → Option Int32) (x3_1 : Int32) : Option Int32 := (if (128 : Int32) ≤ x3_1 then some (1 : Int32) else bd1 (X9_isIn mnow p1 x3_1) (fun q5 => (if q5 = (0 : Int32) then r3 (x3_1 + (1 : Int32)) else (if (x3_1 &&& p2) = (0 : Int32) then some (0 : Int32) else r3 (x3_1 + (1 : Int32))))))
noncomputable def X9_meetsAll (mnow : Nat → Int32) (p1 : Int32) (p2 : Int32) : Option Int32 := lfp1 (X9_meetsAll_h2 mnow p1 p2) (0 : Int32)
set_option maxHeartbeats 4000000 in
set_option maxRecDepth 20000 in
theorem X9_meetsAll_ok {p1 : Int32} {p2 : Int32} {rr : Int32}  (hf : X9_meetsAll mnow p1 p2 = some rr) : MT yX9_meetsAll cX9_meetsAll 4 (some .boolean) 2 [.ref (h 0), .int p1, .int p2] D cy G (mw h cy mthr mfrp mact mtpd msiz matx mfrm mtok mval mfk mfpl mbem mtrs mtrl mrom mtom mnow mfre mkep mtap mlef mtak mbes mrow mint mrnd mplo mhio mtox mtol) (mw h cy mthr mfrp mact mtpd msiz matx mfrm mtok mval mfk mfpl mbem mtrs mtrl mrom mtom mnow mfre mkep mtap mlef mtak mbes mrow mint mrnd mplo mhio mtox mtol) (some (.int rr)) := by
  refine MT.go (own := RX9) [(0, .ref (h 0)), (1, .int p1), (2, .int p2)] (by decide) rfl (Nat.le_of_ble_eq_true rfl) rfl (fun p l e s m args below meth c A Q C hQ => ?_)
  unfold X9_meetsAll at hf
  refine jIconst C (0 : Int32) dX9_meetsAll_0 ki_0 ?_
  refine jIstoren C dX9_meetsAll_1 rfl (Nat.le_of_ble_eq_true rfl) [(3, .int (0 : Int32)), (0, .ref (h 0)), (1, .int p1), (2, .int p2)] rfl ?_
  have hL2 : ∀ (x3_1 : Int32), lfp1 (X9_meetsAll_h2 mnow p1 p2) x3_1 = some rr → J p l e (rmk 2) s m args below meth c D A Q 4 (mw h cy mthr mfrp mact mtpd msiz matx mfrm mtok mval mfk mfpl mbem mtrs mtrl mrom mtom mnow mfre mkep mtap mlef mtak mbes mrow mint mrnd mplo mhio mtox mtol) 2 [(0, .ref (h 0)), (1, .int p1), (2, .int p2), (3, .int x3_1)] [] := by
    intro x3_1 hw
    refine lfp1_walk (P := fun x3_1 => J p l e (rmk 2) s m args below meth c D A Q 4 (mw h cy mthr mfrp mact mtpd msiz matx mfrm mtok mval mfk mfpl mbem mtrs mtrl mrom mtom mnow mfre mkep mtap mlef mtak mbes mrow mint mrnd mplo mhio mtox mtol) 2 [(0, .ref (h 0)), (1, .int p1), (2, .int p2), (3, .int x3_1)] []) ?_ hw
    intro r3 ir3 x3_1 hf
    unfold X9_meetsAll_h2 at hf
    refine jIloadn C dX9_meetsAll_2 rfl 3 rfl ?_
    refine jSipush C (128 : Int32) dX9_meetsAll_3 ks_128 ?_
    refine jCmpGe C 32 dX9_meetsAll_6 (by decide) (fun c4 => ?_) (fun c4 => ?_)
    · replace hf := itp hf c4
      refine jIconst C (1 : Int32) dX9_meetsAll_32 ki_1 ?_
      cases hf
      exact jEndIZ C hQ rfl nar_z1 dX9_meetsAll_33
    · replace hf := itn hf c4
      refine jAloadn C dX9_meetsAll_9 rfl 0 rfl ?_
      refine jIloadn C dX9_meetsAll_10 rfl 1 rfl ?_
      refine jIloadn C dX9_meetsAll_11 rfl 3 rfl ?_
      obtain ⟨q5, e6, hf⟩ := bd1_some hf
      refine jVI C (X9_isIn_ok  e6) vb_X9_isIn mk_RX9_81 rfl rcM ⟨Nat.le_of_ble_eq_true rfl, Nat.le_of_ble_eq_true rfl⟩ rfl (Nat.le_of_ble_eq_true rfl) dX9_meetsAll_12 ?_
      refine jIfEq C 26 dX9_meetsAll_15 (by decide) (fun c7 => ?_) (fun c7 => ?_)
      · replace hf := itp hf c7
        refine jIinc C (x3_1 + (1 : Int32)) dX9_meetsAll_26 3 rfl (congrArg (fun z : Int32 => x3_1 + z) ki_1) (Nat.le_of_ble_eq_true rfl) [(3, .int (x3_1 + (1 : Int32))), (0, .ref (h 0)), (1, .int p1), (2, .int p2)] rfl ?_
        refine jGoto C 2 dX9_meetsAll_29 (by decide) ?_
        refine jSub [1, 2, 3, 0] rfl ?_
        exact ir3 (x3_1 + (1 : Int32)) hf
      · replace hf := itn hf c7
        refine jIloadn C dX9_meetsAll_18 rfl 3 rfl ?_
        refine jIloadn C dX9_meetsAll_19 rfl 2 rfl ?_
        refine jIand C dX9_meetsAll_20 ?_
        refine jIfNe C 26 dX9_meetsAll_21 (by decide) (fun c8 => ?_) (fun c8 => ?_)
        · replace hf := itn hf c8
          refine jIinc C (x3_1 + (1 : Int32)) dX9_meetsAll_26 3 rfl (congrArg (fun z : Int32 => x3_1 + z) ki_1) (Nat.le_of_ble_eq_true rfl) [(3, .int (x3_1 + (1 : Int32))), (0, .ref (h 0)), (1, .int p1), (2, .int p2)] rfl ?_
          refine jGoto C 2 dX9_meetsAll_29 (by decide) ?_
          refine jSub [1, 2, 3, 0] rfl ?_
          exact ir3 (x3_1 + (1 : Int32)) hf
        · replace hf := itp hf c8
          refine jIconst C (0 : Int32) dX9_meetsAll_24 ki_0 ?_
          cases hf
          exact jEndIZ C hQ rfl nar_z0 dX9_meetsAll_25
  refine jSub [1, 2, 3, 0] rfl ?_
  exact hL2 (0 : Int32) hf
noncomputable def X9_laysMeeting_h23 (mnow : Nat → Int32) (p1 : Int32) (x2_1 : Int32) (r4 : Int32 → (Nat → Int32) → Option (Nat → Int32)) (mfre_2 : Nat → Int32) (r13 : Int32 → Int32 → Option (Nat → Int32)) (x3_10 : Int32) (x4_11 : Int32) : Option (Nat → Int32) := bd1 (X9_points mnow p1) (fun q14 => (if q14 ≤ x4_11 then gin x2_1 128 (r4 (x2_1 + (1 : Int32)) (upd mfre_2 x2_1.toNatClampNeg (vp_nar .boolean x3_10))) else (if x3_10 = (0 : Int32) then gin x2_1 128 (r4 (x2_1 + (1 : Int32)) (upd mfre_2 x2_1.toNatClampNeg (vp_nar .boolean x3_10))) else bd1 (X9_hasBit x2_1 x4_11) (fun q20 => (if q20 = (0 : Int32) then r13 (1 : Int32) (x4_11 + (1 : Int32)) else bd1 (X9_meetsAll mnow p1 (x2_1 ^^^ ((1 : Int32) <<< (x4_11 &&& 31)))) (fun q23 => (if q23 = (0 : Int32) then r13 (1 : Int32) (x4_11 + (1 : Int32)) else r13 (0 : Int32) (x4_11 + (1 : Int32)))))))))
noncomputable def X9_laysMeeting_h2 (mnow : Nat → Int32) (p1 : Int32) (r4 : Int32 → (Nat → Int32) → Option (Nat → Int32)) (x2_1 : Int32) (mfre_2 : Nat → Int32) : Option (Nat → Int32) := bd1 (X9_points mnow p1) (fun q5 => (if ((1 : Int32) <<< (q5 &&& 31)) ≤ x2_1 then some mfre_2 else bd1 (X9_meetsAll mnow p1 x2_1) (fun q8 => lfp2 (X9_laysMeeting_h23 mnow p1 x2_1 r4 mfre_2) q8 (0 : Int32))))
noncomputable def X9_laysMeeting (mnow : Nat → Int32) (mfre : Nat → Int32) (p1 : Int32) : Option (Nat → Int32) := lfp2 (X9_laysMeeting_h2 mnow p1) (0 : Int32) mfre
set_option maxHeartbeats 4000000 in
set_option maxRecDepth 20000 in
theorem X9_laysMeeting_ok {p1 : Int32} {omfre : Nat → Int32}  (hf : X9_laysMeeting mnow mfre p1 = some omfre) : MT yX9_laysMeeting cX9_laysMeeting 5 none 3 [.ref (h 0), .int p1] D cy G (mw h cy mthr mfrp mact mtpd msiz matx mfrm mtok mval mfk mfpl mbem mtrs mtrl mrom mtom mnow mfre mkep mtap mlef mtak mbes mrow mint mrnd mplo mhio mtox mtol) (mw h cy mthr mfrp mact mtpd msiz matx mfrm mtok mval mfk mfpl mbem mtrs mtrl mrom mtom mnow omfre mkep mtap mlef mtak mbes mrow mint mrnd mplo mhio mtox mtol) none := by
  refine MT.go (own := RX9) [(0, .ref (h 0)), (1, .int p1)] (by decide) rfl (Nat.le_of_ble_eq_true rfl) rfl (fun p l e s m args below meth c A Q C hQ => ?_)
  unfold X9_laysMeeting at hf
  refine jIconst C (0 : Int32) dX9_laysMeeting_0 ki_0 ?_
  refine jIstoren C dX9_laysMeeting_1 rfl (Nat.le_of_ble_eq_true rfl) [(2, .int (0 : Int32)), (0, .ref (h 0)), (1, .int p1)] rfl ?_
  have hL3 : ∀ (x2_1 : Int32) (mfre_2 : Nat → Int32), lfp2 (X9_laysMeeting_h2 mnow p1) x2_1 mfre_2 = some omfre → J p l e (rmk 3) s m args below meth c D A Q 5 (mw h cy mthr mfrp mact mtpd msiz matx mfrm mtok mval mfk mfpl mbem mtrs mtrl mrom mtom mnow mfre_2 mkep mtap mlef mtak mbes mrow mint mrnd mplo mhio mtox mtol) 2 [(0, .ref (h 0)), (1, .int p1), (2, .int x2_1)] [] := by
    intro x2_1 mfre_2 hw
    refine lfp2_walk (P := fun x2_1 mfre_2 => J p l e (rmk 3) s m args below meth c D A Q 5 (mw h cy mthr mfrp mact mtpd msiz matx mfrm mtok mval mfk mfpl mbem mtrs mtrl mrom mtom mnow mfre_2 mkep mtap mlef mtak mbes mrow mint mrnd mplo mhio mtox mtol) 2 [(0, .ref (h 0)), (1, .int p1), (2, .int x2_1)] []) ?_ hw
    intro r4 ir4 x2_1 mfre_2 hf
    unfold X9_laysMeeting_h2 at hf
    refine jIloadn C dX9_laysMeeting_2 rfl 2 rfl ?_
    refine jIconst C (1 : Int32) dX9_laysMeeting_3 ki_1 ?_
    refine jAloadn C dX9_laysMeeting_4 rfl 0 rfl ?_
    refine jIloadn C dX9_laysMeeting_5 rfl 1 rfl ?_
    obtain ⟨q5, e6, hf⟩ := bd1_some hf
    refine jVI C (X9_points_ok  e6) vb_X9_points mk_RX9_78 rfl rcM ⟨Nat.le_of_ble_eq_true rfl, Nat.le_of_ble_eq_true rfl⟩ rfl (Nat.le_of_ble_eq_true rfl) dX9_laysMeeting_6 ?_
    refine jIshl C dX9_laysMeeting_9 ?_
    refine jCmpGe C 85 dX9_laysMeeting_10 (by decide) (fun c7 => ?_) (fun c7 => ?_)
    · replace hf := itp hf c7
      cases hf
      exact jEndV C hQ rfl dX9_laysMeeting_85
    · replace hf := itn hf c7
      refine jAloadn C dX9_laysMeeting_13 rfl 0 rfl ?_
      refine jIloadn C dX9_laysMeeting_14 rfl 1 rfl ?_
      refine jIloadn C dX9_laysMeeting_15 rfl 2 rfl ?_
      obtain ⟨q8, e9, hf⟩ := bd1_some hf
      refine jVI C (X9_meetsAll_ok  e9) vb_X9_meetsAll mk_RX9_252 rfl rcM ⟨Nat.le_of_ble_eq_true rfl, Nat.le_of_ble_eq_true rfl⟩ rfl (Nat.le_of_ble_eq_true rfl) dX9_laysMeeting_16 ?_
      refine jIstoren C dX9_laysMeeting_19 rfl (Nat.le_of_ble_eq_true rfl) [(3, .int q8), (0, .ref (h 0)), (1, .int p1), (2, .int x2_1)] rfl ?_
      refine jIconst C (0 : Int32) dX9_laysMeeting_20 ki_0 ?_
      refine jIstore C dX9_laysMeeting_21 (Nat.le_of_ble_eq_true rfl) [(4, .int (0 : Int32)), (3, .int q8), (0, .ref (h 0)), (1, .int p1), (2, .int x2_1)] rfl ?_
      have hL12 : ∀ (x3_10 : Int32) (x4_11 : Int32), lfp2 (X9_laysMeeting_h23 mnow p1 x2_1 r4 mfre_2) x3_10 x4_11 = some omfre → J p l e (rmk 3) s m args below meth c D A Q 5 (mw h cy mthr mfrp mact mtpd msiz matx mfrm mtok mval mfk mfpl mbem mtrs mtrl mrom mtom mnow mfre_2 mkep mtap mlef mtak mbes mrow mint mrnd mplo mhio mtox mtol) 23 [(0, .ref (h 0)), (1, .int p1), (2, .int x2_1), (3, .int x3_10), (4, .int x4_11)] [] := by
        intro x3_10 x4_11 hw
        refine lfp2_walk (P := fun x3_10 x4_11 => J p l e (rmk 3) s m args below meth c D A Q 5 (mw h cy mthr mfrp mact mtpd msiz matx mfrm mtok mval mfk mfpl mbem mtrs mtrl mrom mtom mnow mfre_2 mkep mtap mlef mtak mbes mrow mint mrnd mplo mhio mtox mtol) 23 [(0, .ref (h 0)), (1, .int p1), (2, .int x2_1), (3, .int x3_10), (4, .int x4_11)] []) ?_ hw
        intro r13 ir13 x3_10 x4_11 hf
        unfold X9_laysMeeting_h23 at hf
        refine jIload C dX9_laysMeeting_23 4 rfl ?_
        refine jAloadn C dX9_laysMeeting_25 rfl 0 rfl ?_
        refine jIloadn C dX9_laysMeeting_26 rfl 1 rfl ?_
        obtain ⟨q14, e15, hf⟩ := bd1_some hf
        refine jVI C (X9_points_ok  e15) vb_X9_points mk_RX9_78 rfl rcM ⟨Nat.le_of_ble_eq_true rfl, Nat.le_of_ble_eq_true rfl⟩ rfl (Nat.le_of_ble_eq_true rfl) dX9_laysMeeting_27 ?_
        refine jCmpGe C 72 dX9_laysMeeting_30 (by decide) (fun c16 => ?_) (fun c16 => ?_)
        · replace hf := itp hf c16
          refine jAloadn C dX9_laysMeeting_72 rfl 0 rfl ?_
          refine gf_RX9_13 C dX9_laysMeeting_73 ?_
          refine jIloadn C dX9_laysMeeting_76 rfl 2 rfl ?_
          refine jIloadn C dX9_laysMeeting_77 rfl 3 rfl ?_
          obtain ⟨z17, hf⟩ := gin_some hf
          refine as_mfre C z17 dX9_laysMeeting_78 ?_
          refine jIinc C (x2_1 + (1 : Int32)) dX9_laysMeeting_79 2 rfl (congrArg (fun z : Int32 => x2_1 + z) ki_1) (Nat.le_of_ble_eq_true rfl) [(2, .int (x2_1 + (1 : Int32))), (0, .ref (h 0)), (1, .int p1), (3, .int x3_10), (4, .int x4_11)] rfl ?_
          refine jGoto C 2 dX9_laysMeeting_82 (by decide) ?_
          refine jSub [1, 2, 0] rfl ?_
          exact ir4 (x2_1 + (1 : Int32)) (upd mfre_2 x2_1.toNatClampNeg (vp_nar .boolean x3_10)) hf
        · replace hf := itn hf c16
          refine jIloadn C dX9_laysMeeting_33 rfl 3 rfl ?_
          refine jIfEq C 72 dX9_laysMeeting_34 (by decide) (fun c18 => ?_) (fun c18 => ?_)
          · replace hf := itp hf c18
            refine jAloadn C dX9_laysMeeting_72 rfl 0 rfl ?_
            refine gf_RX9_13 C dX9_laysMeeting_73 ?_
            refine jIloadn C dX9_laysMeeting_76 rfl 2 rfl ?_
            refine jIloadn C dX9_laysMeeting_77 rfl 3 rfl ?_
            obtain ⟨z19, hf⟩ := gin_some hf
            refine as_mfre C z19 dX9_laysMeeting_78 ?_
            refine jIinc C (x2_1 + (1 : Int32)) dX9_laysMeeting_79 2 rfl (congrArg (fun z : Int32 => x2_1 + z) ki_1) (Nat.le_of_ble_eq_true rfl) [(2, .int (x2_1 + (1 : Int32))), (0, .ref (h 0)), (1, .int p1), (3, .int x3_10), (4, .int x4_11)] rfl ?_
            refine jGoto C 2 dX9_laysMeeting_82 (by decide) ?_
            refine jSub [1, 2, 0] rfl ?_
            exact ir4 (x2_1 + (1 : Int32)) (upd mfre_2 x2_1.toNatClampNeg (vp_nar .boolean x3_10)) hf
          · replace hf := itn hf c18
            refine jIloadn C dX9_laysMeeting_37 rfl 2 rfl ?_
            refine jIload C dX9_laysMeeting_38 4 rfl ?_
            obtain ⟨q20, e21, hf⟩ := bd1_some hf
            refine jSI C (X9_hasBit_ok  e21) sb_X9_hasBit mk_RX9_169 rfl ⟨Nat.le_of_ble_eq_true rfl, Nat.le_of_ble_eq_true rfl⟩ rfl (Nat.le_of_ble_eq_true rfl) dX9_laysMeeting_40 ?_
            refine jIfEq C 60 dX9_laysMeeting_43 (by decide) (fun c22 => ?_) (fun c22 => ?_)
            · replace hf := itp hf c22
              refine jIconst C (1 : Int32) dX9_laysMeeting_60 ki_1 ?_
              refine jGoto C 65 dX9_laysMeeting_61 (by decide) ?_
              refine jIstoren C dX9_laysMeeting_65 rfl (Nat.le_of_ble_eq_true rfl) [(3, .int (1 : Int32)), (0, .ref (h 0)), (1, .int p1), (2, .int x2_1), (4, .int x4_11)] rfl ?_
              refine jIinc C (x4_11 + (1 : Int32)) dX9_laysMeeting_66 4 rfl (congrArg (fun z : Int32 => x4_11 + z) ki_1) (Nat.le_of_ble_eq_true rfl) [(4, .int (x4_11 + (1 : Int32))), (3, .int (1 : Int32)), (0, .ref (h 0)), (1, .int p1), (2, .int x2_1)] rfl ?_
              refine jGoto C 23 dX9_laysMeeting_69 (by decide) ?_
              refine jSub [2, 3, 4, 1, 0] rfl ?_
              exact ir13 (1 : Int32) (x4_11 + (1 : Int32)) hf
            · replace hf := itn hf c22
              refine jAloadn C dX9_laysMeeting_46 rfl 0 rfl ?_
              refine jIloadn C dX9_laysMeeting_47 rfl 1 rfl ?_
              refine jIloadn C dX9_laysMeeting_48 rfl 2 rfl ?_
              refine jIconst C (1 : Int32) dX9_laysMeeting_49 ki_1 ?_
              refine jIload C dX9_laysMeeting_50 4 rfl ?_
              refine jIshl C dX9_laysMeeting_52 ?_
              refine jIxor C dX9_laysMeeting_53 ?_
              obtain ⟨q23, e24, hf⟩ := bd1_some hf
              refine jVI C (X9_meetsAll_ok  e24) vb_X9_meetsAll mk_RX9_252 rfl rcM ⟨Nat.le_of_ble_eq_true rfl, Nat.le_of_ble_eq_true rfl⟩ rfl (Nat.le_of_ble_eq_true rfl) dX9_laysMeeting_54 ?_
              refine jIfNe C 64 dX9_laysMeeting_57 (by decide) (fun c25 => ?_) (fun c25 => ?_)
              · replace hf := itn hf c25
                refine jIconst C (0 : Int32) dX9_laysMeeting_64 ki_0 ?_
                refine jIstoren C dX9_laysMeeting_65 rfl (Nat.le_of_ble_eq_true rfl) [(3, .int (0 : Int32)), (0, .ref (h 0)), (1, .int p1), (2, .int x2_1), (4, .int x4_11)] rfl ?_
                refine jIinc C (x4_11 + (1 : Int32)) dX9_laysMeeting_66 4 rfl (congrArg (fun z : Int32 => x4_11 + z) ki_1) (Nat.le_of_ble_eq_true rfl) [(4, .int (x4_11 + (1 : Int32))), (3, .int (0 : Int32)), (0, .ref (h 0)), (1, .int p1), (2, .int x2_1)] rfl ?_
                refine jGoto C 23 dX9_laysMeeting_69 (by decide) ?_
                refine jSub [2, 3, 4, 1, 0] rfl ?_
                exact ir13 (0 : Int32) (x4_11 + (1 : Int32)) hf
              · replace hf := itp hf c25
                refine jIconst C (1 : Int32) dX9_laysMeeting_60 ki_1 ?_
                refine jGoto C 65 dX9_laysMeeting_61 (by decide) ?_
                refine jIstoren C dX9_laysMeeting_65 rfl (Nat.le_of_ble_eq_true rfl) [(3, .int (1 : Int32)), (0, .ref (h 0)), (1, .int p1), (2, .int x2_1), (4, .int x4_11)] rfl ?_
                refine jIinc C (x4_11 + (1 : Int32)) dX9_laysMeeting_66 4 rfl (congrArg (fun z : Int32 => x4_11 + z) ki_1) (Nat.le_of_ble_eq_true rfl) [(4, .int (x4_11 + (1 : Int32))), (3, .int (1 : Int32)), (0, .ref (h 0)), (1, .int p1), (2, .int x2_1)] rfl ?_
                refine jGoto C 23 dX9_laysMeeting_69 (by decide) ?_
                refine jSub [2, 3, 4, 1, 0] rfl ?_
                exact ir13 (1 : Int32) (x4_11 + (1 : Int32)) hf
      refine jSub [2, 3, 4, 1, 0] rfl ?_
      exact hL12 q8 (0 : Int32) hf
  refine jSub [1, 2, 0] rfl ?_
  exact hL3 (0 : Int32) mfre hf
noncomputable def X9_makes_h165 (q18 : Int32) (mfrp_15 : Int32) (mact : Int32) (mnow : Nat → Int32) (mkep : Nat → Int32) (p3 : Int32) (p2 : Int32) (p1 : Int32) (r23 : Int32 → (Nat → Int32) → Option (Int32 × Int32 × Int32 × (Nat → Int32) × (Nat → Int32) × (Nat → Int32))) (x5_20 : Int32) (mfre_21 : Nat → Int32) : Option (Int32 × Int32 × Int32 × (Nat → Int32) × (Nat → Int32) × (Nat → Int32)) := (if (((1 : Int32) <<< (q18 &&& 31)) - (1 : Int32)) < x5_20 then bd4 (X9_comes mfrp_15 mact mnow mfre_21 mkep p3) (fun q25 mact_26 mnow_27 mkep_28 => some (q25, mfrp_15, mact_26, mnow_27, mfre_21, mkep_28)) else (if p2 = (4 : Int32) then bd1 (X9_isIn mnow p1 x5_20) (fun q36 => gin ((((1 : Int32) <<< (q18 &&& 31)) - (1 : Int32)) &&& (x5_20 ^^^ (-1 : Int32))) 128 (r23 (x5_20 + (1 : Int32)) (upd mfre_21 ((((1 : Int32) <<< (q18 &&& 31)) - (1 : Int32)) &&& (x5_20 ^^^ (-1 : Int32))).toNatClampNeg (vp_nar .boolean q36)))) else bd4 (X9_comes mfrp_15 mact mnow mfre_21 mkep p3) (fun q31 mact_32 mnow_33 mkep_34 => some (q31, mfrp_15, mact_32, mnow_33, mfre_21, mkep_34))))
noncomputable def X9_makes_j151 (mnow : Nat → Int32) (p1 : Int32) (mact : Int32) (mkep : Nat → Int32) (p3 : Int32) (p2 : Int32) (mfrp_15 : Int32) (mfre_16 : Nat → Int32) : Option (Int32 × Int32 × Int32 × (Nat → Int32) × (Nat → Int32) × (Nat → Int32)) := bd1 (X9_points mnow p1) (fun q18 => lfp2 (X9_makes_h165 q18 mfrp_15 mact mnow mkep p3 p2 p1) (0 : Int32) mfre_16)
noncomputable def X9_makes_j109 (mnow : Nat → Int32) (mfre_13 : Nat → Int32) (p1 : Int32) (mact : Int32) (mkep : Nat → Int32) (p3 : Int32) (p2 : Int32) (y42 : Int32) : Option (Int32 × Int32 × Int32 × (Nat → Int32) × (Nat → Int32) × (Nat → Int32)) := bd2 (X9_laysClosed mnow mfre_13 p1 y42) (fun mfrp_44 mfre_45 => X9_makes_j151 mnow p1 mact mkep p3 p2 mfrp_44 mfre_45)
noncomputable def X9_makes_j96 (p2 : Int32) (mnow : Nat → Int32) (mfre_13 : Nat → Int32) (p1 : Int32) (mact : Int32) (mkep : Nat → Int32) (p3 : Int32)  : Option (Int32 × Int32 × Int32 × (Nat → Int32) × (Nat → Int32) × (Nat → Int32)) := (if p2 = (6 : Int32) then X9_makes_j109 mnow mfre_13 p1 mact mkep p3 p2 (1 : Int32) else X9_makes_j109 mnow mfre_13 p1 mact mkep p3 p2 (0 : Int32))
noncomputable def X9_makes_j148 (mnow : Nat → Int32) (mfre_13 : Nat → Int32) (p1 : Int32) (mact : Int32) (mkep : Nat → Int32) (p3 : Int32) (p2 : Int32) (mfrp_12 : Int32) (y52 : Int32) : Option (Int32 × Int32 × Int32 × (Nat → Int32) × (Nat → Int32) × (Nat → Int32)) := bd1 (X9_laysEnds mnow mfre_13 p1 y52) (fun mfre_54 => X9_makes_j151 mnow p1 mact mkep p3 p2 mfrp_12 mfre_54)
noncomputable def X9_makes_j79 (mnow : Nat → Int32) (mfre_13 : Nat → Int32) (p1 : Int32) (mact : Int32) (mkep : Nat → Int32) (p3 : Int32) (p2 : Int32) (mfrp_12 : Int32) (y59 : Int32) : Option (Int32 × Int32 × Int32 × (Nat → Int32) × (Nat → Int32) × (Nat → Int32)) := bd1 (X9_laysWithin mnow mfre_13 p1 y59) (fun mfre_61 => X9_makes_j151 mnow p1 mact mkep p3 p2 mfrp_12 mfre_61)
noncomputable def X9_makes_j56 (mnow : Nat → Int32) (mfre_13 : Nat → Int32) (p1 : Int32) (mact : Int32) (mkep : Nat → Int32) (p3 : Int32) (p2 : Int32) (mfrp_12 : Int32) (y64 : Int32) : Option (Int32 × Int32 × Int32 × (Nat → Int32) × (Nat → Int32) × (Nat → Int32)) := bd1 (X9_laysShadow mnow mfre_13 p1 y64) (fun mfre_66 => X9_makes_j151 mnow p1 mact mkep p3 p2 mfrp_12 mfre_66)
noncomputable def X9_makes (mfrp : Int32) (mact : Int32) (mnow : Nat → Int32) (mfre : Nat → Int32) (mkep : Nat → Int32) (p1 : Int32) (p2 : Int32) (p3 : Int32) : Option (Int32 × Int32 × Int32 × (Nat → Int32) × (Nat → Int32) × (Nat → Int32)) := bd1 (X9_hasOne mnow p1) (fun q1 => (if q1 = (0 : Int32) then some ((-2 : Int32), mfrp, mact, mnow, mfre, mkep) else bd1 (X9_in (p2.toInt64) (0 : Int64) (9 : Int64)) (fun q4 => (if q4 = (0 : Int32) then some ((-2 : Int32), mfrp, mact, mnow, mfre, mkep) else bd1 (X9_isSlot p3) (fun q7 => (if q7 = (0 : Int32) then some ((-2 : Int32), mfrp, mact, mnow, mfre, mkep) else bd1 (X9_points mnow p1) (fun q10 => bd2 (X9_clearsFresh mfre q10) (fun mfrp_12 mfre_13 => (if (2 : Int32) ≤ p2 then (if (4 : Int32) ≤ p2 then (if p2 = (5 : Int32) then X9_makes_j96 p2 mnow mfre_13 p1 mact mkep p3 else (if p2 = (6 : Int32) then X9_makes_j96 p2 mnow mfre_13 p1 mact mkep p3 else (if p2 = (9 : Int32) then bd1 (X9_laysMeeting mnow mfre_13 p1) (fun mfre_57 => X9_makes_j151 mnow p1 mact mkep p3 p2 mfrp_12 mfre_57) else (if p2 ≤ (6 : Int32) then X9_makes_j151 mnow p1 mact mkep p3 p2 mfrp_12 mfre_13 else (if p2 = (8 : Int32) then X9_makes_j148 mnow mfre_13 p1 mact mkep p3 p2 mfrp_12 (1 : Int32) else X9_makes_j148 mnow mfre_13 p1 mact mkep p3 p2 mfrp_12 (0 : Int32)))))) else (if p2 = (3 : Int32) then X9_makes_j79 mnow mfre_13 p1 mact mkep p3 p2 mfrp_12 (1 : Int32) else X9_makes_j79 mnow mfre_13 p1 mact mkep p3 p2 mfrp_12 (0 : Int32))) else (if p2 = (1 : Int32) then X9_makes_j56 mnow mfre_13 p1 mact mkep p3 p2 mfrp_12 (1 : Int32) else X9_makes_j56 mnow mfre_13 p1 mact mkep p3 p2 mfrp_12 (0 : Int32)))))))))))
set_option maxHeartbeats 4000000 in
set_option maxRecDepth 20000 in
theorem X9_makes_ok {p1 : Int32} {p2 : Int32} {p3 : Int32} {rr : Int32} {omfrp : Int32} {omact : Int32} {omnow : Nat → Int32} {omfre : Nat → Int32} {omkep : Nat → Int32}  (hf : X9_makes mfrp mact mnow mfre mkep p1 p2 p3 = some (rr, omfrp, omact, omnow, omfre, omkep)) : MT yX9_makes cX9_makes 6 (some .int) 4 [.ref (h 0), .int p1, .int p2, .int p3] D cy G (mw h cy mthr mfrp mact mtpd msiz matx mfrm mtok mval mfk mfpl mbem mtrs mtrl mrom mtom mnow mfre mkep mtap mlef mtak mbes mrow mint mrnd mplo mhio mtox mtol) (mw h cy mthr omfrp omact mtpd msiz matx mfrm mtok mval mfk mfpl mbem mtrs mtrl mrom mtom omnow omfre omkep mtap mlef mtak mbes mrow mint mrnd mplo mhio mtox mtol) (some (.int rr)) := by
  refine MT.go (own := RX9) [(0, .ref (h 0)), (1, .int p1), (2, .int p2), (3, .int p3)] (by decide) rfl (Nat.le_of_ble_eq_true rfl) rfl (fun p l e s m args below meth c A Q C hQ => ?_)
  unfold X9_makes at hf
  refine jAloadn C dX9_makes_0 rfl 0 rfl ?_
  refine jIloadn C dX9_makes_1 rfl 1 rfl ?_
  obtain ⟨q1, e2, hf⟩ := bd1_some hf
  refine jVI C (X9_hasOne_ok  e2) vb_X9_hasOne mk_RX9_75 rfl rcM ⟨Nat.le_of_ble_eq_true rfl, Nat.le_of_ble_eq_true rfl⟩ rfl (Nat.le_of_ble_eq_true rfl) dX9_makes_2 ?_
  refine jIfEq C 27 dX9_makes_5 (by decide) (fun c3 => ?_) (fun c3 => ?_)
  · replace hf := itp hf c3
    refine jBipush C (-2 : Int32) dX9_makes_27 kb_m2 ?_
    cases hf
    exact jEndI C hQ rfl dX9_makes_29
  · replace hf := itn hf c3
    refine jIloadn C dX9_makes_8 rfl 2 rfl ?_
    refine jI2l C dX9_makes_9 ?_
    refine jLconst C (0 : Int64) dX9_makes_10 rfl ?_
    refine jLdc2 C (x := (9 : Int64)) lk_RX9_255 dX9_makes_11 ?_
    obtain ⟨q4, e5, hf⟩ := bd1_some hf
    refine jSI C (X9_in_ok  e5) sb_X9_in mk_RX9_63 rfl ⟨Nat.le_of_ble_eq_true rfl, Nat.le_of_ble_eq_true rfl⟩ rfl (Nat.le_of_ble_eq_true rfl) dX9_makes_14 ?_
    refine jIfEq C 27 dX9_makes_17 (by decide) (fun c6 => ?_) (fun c6 => ?_)
    · replace hf := itp hf c6
      refine jBipush C (-2 : Int32) dX9_makes_27 kb_m2 ?_
      cases hf
      exact jEndI C hQ rfl dX9_makes_29
    · replace hf := itn hf c6
      refine jIloadn C dX9_makes_20 rfl 3 rfl ?_
      obtain ⟨q7, e8, hf⟩ := bd1_some hf
      refine jSI C (X9_isSlot_ok  e8) sb_X9_isSlot mk_RX9_67 rfl ⟨Nat.le_of_ble_eq_true rfl, Nat.le_of_ble_eq_true rfl⟩ rfl (Nat.le_of_ble_eq_true rfl) dX9_makes_21 ?_
      refine jIfNe C 30 dX9_makes_24 (by decide) (fun c9 => ?_) (fun c9 => ?_)
      · replace hf := itn hf c9
        refine jAloadn C dX9_makes_30 rfl 0 rfl ?_
        refine jAloadn C dX9_makes_31 rfl 0 rfl ?_
        refine jIloadn C dX9_makes_32 rfl 1 rfl ?_
        obtain ⟨q10, e11, hf⟩ := bd1_some hf
        refine jVI C (X9_points_ok  e11) vb_X9_points mk_RX9_78 rfl rcM ⟨Nat.le_of_ble_eq_true rfl, Nat.le_of_ble_eq_true rfl⟩ rfl (Nat.le_of_ble_eq_true rfl) dX9_makes_33 ?_
        obtain ⟨mfrp_12, mfre_13, e14, hf⟩ := bd2_some hf
        refine jVV C (X9_clearsFresh_ok  e14) vb_X9_clearsFresh mk_RX9_176 rfl rcM ⟨Nat.le_of_ble_eq_true rfl, Nat.le_of_ble_eq_true rfl⟩ rfl (Nat.le_of_ble_eq_true rfl) dX9_makes_36 ?_
        refine jIloadn C dX9_makes_39 rfl 2 rfl ?_
        refine jIconst C (2 : Int32) dX9_makes_40 ki_2 ?_
        have hL17 : ∀ (mfrp_15 : Int32) (mfre_16 : Nat → Int32), X9_makes_j151 mnow p1 mact mkep p3 p2 mfrp_15 mfre_16 = some (rr, omfrp, omact, omnow, omfre, omkep) → J p l e (rmk 4) s m args below meth c D A Q 6 (mw h cy mthr mfrp_15 mact mtpd msiz matx mfrm mtok mval mfk mfpl mbem mtrs mtrl mrom mtom mnow mfre_16 mkep mtap mlef mtak mbes mrow mint mrnd mplo mhio mtox mtol) 151 [(0, .ref (h 0)), (1, .int p1), (2, .int p2), (3, .int p3)] [] := by
          intro mfrp_15 mfre_16 hf
          unfold X9_makes_j151 at hf
          refine jIconst C (1 : Int32) dX9_makes_151 ki_1 ?_
          refine jAloadn C dX9_makes_152 rfl 0 rfl ?_
          refine jIloadn C dX9_makes_153 rfl 1 rfl ?_
          obtain ⟨q18, e19, hf⟩ := bd1_some hf
          refine jVI C (X9_points_ok  e19) vb_X9_points mk_RX9_78 rfl rcM ⟨Nat.le_of_ble_eq_true rfl, Nat.le_of_ble_eq_true rfl⟩ rfl (Nat.le_of_ble_eq_true rfl) dX9_makes_154 ?_
          refine jIshl C dX9_makes_157 ?_
          refine jIconst C (1 : Int32) dX9_makes_158 ki_1 ?_
          refine jIsub C dX9_makes_159 ?_
          refine jIstore C dX9_makes_160 (Nat.le_of_ble_eq_true rfl) [(4, .int (((1 : Int32) <<< (q18 &&& 31)) - (1 : Int32))), (0, .ref (h 0)), (1, .int p1), (2, .int p2), (3, .int p3)] rfl ?_
          refine jIconst C (0 : Int32) dX9_makes_162 ki_0 ?_
          refine jIstore C dX9_makes_163 (Nat.le_of_ble_eq_true rfl) [(5, .int (0 : Int32)), (4, .int (((1 : Int32) <<< (q18 &&& 31)) - (1 : Int32))), (0, .ref (h 0)), (1, .int p1), (2, .int p2), (3, .int p3)] rfl ?_
          have hL22 : ∀ (x5_20 : Int32) (mfre_21 : Nat → Int32), lfp2 (X9_makes_h165 q18 mfrp_15 mact mnow mkep p3 p2 p1) x5_20 mfre_21 = some (rr, omfrp, omact, omnow, omfre, omkep) → J p l e (rmk 4) s m args below meth c D A Q 6 (mw h cy mthr mfrp_15 mact mtpd msiz matx mfrm mtok mval mfk mfpl mbem mtrs mtrl mrom mtom mnow mfre_21 mkep mtap mlef mtak mbes mrow mint mrnd mplo mhio mtox mtol) 165 [(0, .ref (h 0)), (1, .int p1), (2, .int p2), (3, .int p3), (4, .int (((1 : Int32) <<< (q18 &&& 31)) - (1 : Int32))), (5, .int x5_20)] [] := by
            intro x5_20 mfre_21 hw
            refine lfp2_walk (P := fun x5_20 mfre_21 => J p l e (rmk 4) s m args below meth c D A Q 6 (mw h cy mthr mfrp_15 mact mtpd msiz matx mfrm mtok mval mfk mfpl mbem mtrs mtrl mrom mtom mnow mfre_21 mkep mtap mlef mtak mbes mrow mint mrnd mplo mhio mtox mtol) 165 [(0, .ref (h 0)), (1, .int p1), (2, .int p2), (3, .int p3), (4, .int (((1 : Int32) <<< (q18 &&& 31)) - (1 : Int32))), (5, .int x5_20)] []) ?_ hw
            intro r23 ir23 x5_20 mfre_21 hf
            unfold X9_makes_h165 at hf
            refine jIload C dX9_makes_165 5 rfl ?_
            refine jIload C dX9_makes_167 4 rfl ?_
            refine jCmpGt C 202 dX9_makes_169 (by decide) (fun c24 => ?_) (fun c24 => ?_)
            · replace hf := itp hf c24
              refine jAloadn C dX9_makes_202 rfl 0 rfl ?_
              refine jIloadn C dX9_makes_203 rfl 3 rfl ?_
              obtain ⟨q25, mact_26, mnow_27, mkep_28, e29, hf⟩ := bd4_some hf
              refine jVI C (X9_comes_ok  e29) vb_X9_comes mk_RX9_188 rfl rcM ⟨Nat.le_of_ble_eq_true rfl, Nat.le_of_ble_eq_true rfl⟩ rfl (Nat.le_of_ble_eq_true rfl) dX9_makes_204 ?_
              cases hf
              exact jEndI C hQ rfl dX9_makes_207
            · replace hf := itn hf c24
              refine jIloadn C dX9_makes_172 rfl 2 rfl ?_
              refine jIconst C (4 : Int32) dX9_makes_173 ki_4 ?_
              refine jCmpNe C 202 dX9_makes_174 (by decide) (fun c30 => ?_) (fun c30 => ?_)
              · replace hf := itn hf c30
                refine jAloadn C dX9_makes_202 rfl 0 rfl ?_
                refine jIloadn C dX9_makes_203 rfl 3 rfl ?_
                obtain ⟨q31, mact_32, mnow_33, mkep_34, e35, hf⟩ := bd4_some hf
                refine jVI C (X9_comes_ok  e35) vb_X9_comes mk_RX9_188 rfl rcM ⟨Nat.le_of_ble_eq_true rfl, Nat.le_of_ble_eq_true rfl⟩ rfl (Nat.le_of_ble_eq_true rfl) dX9_makes_204 ?_
                cases hf
                exact jEndI C hQ rfl dX9_makes_207
              · replace hf := itp hf c30
                refine jAloadn C dX9_makes_177 rfl 0 rfl ?_
                refine gf_RX9_13 C dX9_makes_178 ?_
                refine jIload C dX9_makes_181 4 rfl ?_
                refine jIload C dX9_makes_183 5 rfl ?_
                refine jIconst C (-1 : Int32) dX9_makes_185 ki_m1 ?_
                refine jIxor C dX9_makes_186 ?_
                refine jIand C dX9_makes_187 ?_
                refine jAloadn C dX9_makes_188 rfl 0 rfl ?_
                refine jIloadn C dX9_makes_189 rfl 1 rfl ?_
                refine jIload C dX9_makes_190 5 rfl ?_
                obtain ⟨q36, e37, hf⟩ := bd1_some hf
                refine jVI C (X9_isIn_ok  e37) vb_X9_isIn mk_RX9_81 rfl rcM ⟨Nat.le_of_ble_eq_true rfl, Nat.le_of_ble_eq_true rfl⟩ rfl (Nat.le_of_ble_eq_true rfl) dX9_makes_192 ?_
                obtain ⟨z38, hf⟩ := gin_some hf
                refine as_mfre C z38 dX9_makes_195 ?_
                refine jIinc C (x5_20 + (1 : Int32)) dX9_makes_196 5 rfl (congrArg (fun z : Int32 => x5_20 + z) ki_1) (Nat.le_of_ble_eq_true rfl) [(5, .int (x5_20 + (1 : Int32))), (0, .ref (h 0)), (1, .int p1), (2, .int p2), (3, .int p3), (4, .int (((1 : Int32) <<< (q18 &&& 31)) - (1 : Int32)))] rfl ?_
                refine jGoto C 165 dX9_makes_199 (by decide) ?_
                refine jSub [1, 2, 3, 4, 5, 0] rfl ?_
                exact ir23 (x5_20 + (1 : Int32)) (upd mfre_21 ((((1 : Int32) <<< (q18 &&& 31)) - (1 : Int32)) &&& (x5_20 ^^^ (-1 : Int32))).toNatClampNeg (vp_nar .boolean q36)) hf
          refine jSub [2, 3, 4, 5, 1, 0] rfl ?_
          exact hL22 (0 : Int32) mfre_16 hf
        refine jCmpGe C 62 dX9_makes_41 (by decide) (fun c39 => ?_) (fun c39 => ?_)
        · replace hf := itp hf c39
          refine jIloadn C dX9_makes_62 rfl 2 rfl ?_
          refine jIconst C (4 : Int32) dX9_makes_63 ki_4 ?_
          refine jCmpGe C 85 dX9_makes_64 (by decide) (fun c40 => ?_) (fun c40 => ?_)
          · replace hf := itp hf c40
            refine jIloadn C dX9_makes_85 rfl 2 rfl ?_
            refine jIconst C (5 : Int32) dX9_makes_86 ki_5 ?_
            have hL41 : X9_makes_j96 p2 mnow mfre_13 p1 mact mkep p3  = some (rr, omfrp, omact, omnow, omfre, omkep) → J p l e (rmk 4) s m args below meth c D A Q 6 (mw h cy mthr mfrp_12 mact mtpd msiz matx mfrm mtok mval mfk mfpl mbem mtrs mtrl mrom mtom mnow mfre_13 mkep mtap mlef mtak mbes mrow mint mrnd mplo mhio mtox mtol) 96 [(0, .ref (h 0)), (1, .int p1), (2, .int p2), (3, .int p3)] [] := by
              intro  hf
              unfold X9_makes_j96 at hf
              refine jAloadn C dX9_makes_96 rfl 0 rfl ?_
              refine jIloadn C dX9_makes_97 rfl 1 rfl ?_
              refine jIloadn C dX9_makes_98 rfl 2 rfl ?_
              refine jBipush C (6 : Int32) dX9_makes_99 kb_6 ?_
              have hL43 : ∀ (y42 : Int32), X9_makes_j109 mnow mfre_13 p1 mact mkep p3 p2 y42 = some (rr, omfrp, omact, omnow, omfre, omkep) → J p l e (rmk 4) s m args below meth c D A Q 6 (mw h cy mthr mfrp_12 mact mtpd msiz matx mfrm mtok mval mfk mfpl mbem mtrs mtrl mrom mtom mnow mfre_13 mkep mtap mlef mtak mbes mrow mint mrnd mplo mhio mtox mtol) 109 [(0, .ref (h 0)), (1, .int p1), (2, .int p2), (3, .int p3)] [.int y42, .int p1, .ref (h 0)] := by
                intro y42 hf
                unfold X9_makes_j109 at hf
                obtain ⟨mfrp_44, mfre_45, e46, hf⟩ := bd2_some hf
                refine jVV C (X9_laysClosed_ok  e46) vb_X9_laysClosed mk_RX9_264 rfl rcM ⟨Nat.le_of_ble_eq_true rfl, Nat.le_of_ble_eq_true rfl⟩ rfl (Nat.le_of_ble_eq_true rfl) dX9_makes_109 ?_
                refine jGoto C 151 dX9_makes_112 (by decide) ?_
                exact hL17 mfrp_44 mfre_45 hf
              refine jCmpNe C 108 dX9_makes_101 (by decide) (fun c47 => ?_) (fun c47 => ?_)
              · replace hf := itn hf c47
                refine jIconst C (0 : Int32) dX9_makes_108 ki_0 ?_
                exact hL43 (0 : Int32) hf
              · replace hf := itp hf c47
                refine jIconst C (1 : Int32) dX9_makes_104 ki_1 ?_
                refine jGoto C 109 dX9_makes_105 (by decide) ?_
                exact hL43 (1 : Int32) hf
            refine jCmpEq C 96 dX9_makes_87 (by decide) (fun c48 => ?_) (fun c48 => ?_)
            · replace hf := itp hf c48
              exact hL41  hf
            · replace hf := itn hf c48
              refine jIloadn C dX9_makes_90 rfl 2 rfl ?_
              refine jBipush C (6 : Int32) dX9_makes_91 kb_6 ?_
              refine jCmpNe C 115 dX9_makes_93 (by decide) (fun c49 => ?_) (fun c49 => ?_)
              · replace hf := itn hf c49
                refine jIloadn C dX9_makes_115 rfl 2 rfl ?_
                refine jBipush C (9 : Int32) dX9_makes_116 kb_9 ?_
                refine jCmpNe C 129 dX9_makes_118 (by decide) (fun c50 => ?_) (fun c50 => ?_)
                · replace hf := itn hf c50
                  refine jIloadn C dX9_makes_129 rfl 2 rfl ?_
                  refine jBipush C (6 : Int32) dX9_makes_130 kb_6 ?_
                  refine jCmpLe C 151 dX9_makes_132 (by decide) (fun c51 => ?_) (fun c51 => ?_)
                  · replace hf := itp hf c51
                    exact hL17 mfrp_12 mfre_13 hf
                  · replace hf := itn hf c51
                    refine jAloadn C dX9_makes_135 rfl 0 rfl ?_
                    refine jIloadn C dX9_makes_136 rfl 1 rfl ?_
                    refine jIloadn C dX9_makes_137 rfl 2 rfl ?_
                    refine jBipush C (8 : Int32) dX9_makes_138 kb_8 ?_
                    have hL53 : ∀ (y52 : Int32), X9_makes_j148 mnow mfre_13 p1 mact mkep p3 p2 mfrp_12 y52 = some (rr, omfrp, omact, omnow, omfre, omkep) → J p l e (rmk 4) s m args below meth c D A Q 6 (mw h cy mthr mfrp_12 mact mtpd msiz matx mfrm mtok mval mfk mfpl mbem mtrs mtrl mrom mtom mnow mfre_13 mkep mtap mlef mtak mbes mrow mint mrnd mplo mhio mtox mtol) 148 [(0, .ref (h 0)), (1, .int p1), (2, .int p2), (3, .int p3)] [.int y52, .int p1, .ref (h 0)] := by
                      intro y52 hf
                      unfold X9_makes_j148 at hf
                      obtain ⟨mfre_54, e55, hf⟩ := bd1_some hf
                      refine jVV C (X9_laysEnds_ok  e55) vb_X9_laysEnds mk_RX9_270 rfl rcM ⟨Nat.le_of_ble_eq_true rfl, Nat.le_of_ble_eq_true rfl⟩ rfl (Nat.le_of_ble_eq_true rfl) dX9_makes_148 ?_
                      exact hL17 mfrp_12 mfre_54 hf
                    refine jCmpNe C 147 dX9_makes_140 (by decide) (fun c56 => ?_) (fun c56 => ?_)
                    · replace hf := itn hf c56
                      refine jIconst C (0 : Int32) dX9_makes_147 ki_0 ?_
                      exact hL53 (0 : Int32) hf
                    · replace hf := itp hf c56
                      refine jIconst C (1 : Int32) dX9_makes_143 ki_1 ?_
                      refine jGoto C 148 dX9_makes_144 (by decide) ?_
                      exact hL53 (1 : Int32) hf
                · replace hf := itp hf c50
                  refine jAloadn C dX9_makes_121 rfl 0 rfl ?_
                  refine jIloadn C dX9_makes_122 rfl 1 rfl ?_
                  obtain ⟨mfre_57, e58, hf⟩ := bd1_some hf
                  refine jVV C (X9_laysMeeting_ok  e58) vb_X9_laysMeeting mk_RX9_267 rfl rcM ⟨Nat.le_of_ble_eq_true rfl, Nat.le_of_ble_eq_true rfl⟩ rfl (Nat.le_of_ble_eq_true rfl) dX9_makes_123 ?_
                  refine jGoto C 151 dX9_makes_126 (by decide) ?_
                  exact hL17 mfrp_12 mfre_57 hf
              · replace hf := itp hf c49
                exact hL41  hf
          · replace hf := itn hf c40
            refine jAloadn C dX9_makes_67 rfl 0 rfl ?_
            refine jIloadn C dX9_makes_68 rfl 1 rfl ?_
            refine jIloadn C dX9_makes_69 rfl 2 rfl ?_
            refine jIconst C (3 : Int32) dX9_makes_70 ki_3 ?_
            have hL60 : ∀ (y59 : Int32), X9_makes_j79 mnow mfre_13 p1 mact mkep p3 p2 mfrp_12 y59 = some (rr, omfrp, omact, omnow, omfre, omkep) → J p l e (rmk 4) s m args below meth c D A Q 6 (mw h cy mthr mfrp_12 mact mtpd msiz matx mfrm mtok mval mfk mfpl mbem mtrs mtrl mrom mtom mnow mfre_13 mkep mtap mlef mtak mbes mrow mint mrnd mplo mhio mtox mtol) 79 [(0, .ref (h 0)), (1, .int p1), (2, .int p2), (3, .int p3)] [.int y59, .int p1, .ref (h 0)] := by
              intro y59 hf
              unfold X9_makes_j79 at hf
              obtain ⟨mfre_61, e62, hf⟩ := bd1_some hf
              refine jVV C (X9_laysWithin_ok  e62) vb_X9_laysWithin mk_RX9_261 rfl rcM ⟨Nat.le_of_ble_eq_true rfl, Nat.le_of_ble_eq_true rfl⟩ rfl (Nat.le_of_ble_eq_true rfl) dX9_makes_79 ?_
              refine jGoto C 151 dX9_makes_82 (by decide) ?_
              exact hL17 mfrp_12 mfre_61 hf
            refine jCmpNe C 78 dX9_makes_71 (by decide) (fun c63 => ?_) (fun c63 => ?_)
            · replace hf := itn hf c63
              refine jIconst C (0 : Int32) dX9_makes_78 ki_0 ?_
              exact hL60 (0 : Int32) hf
            · replace hf := itp hf c63
              refine jIconst C (1 : Int32) dX9_makes_74 ki_1 ?_
              refine jGoto C 79 dX9_makes_75 (by decide) ?_
              exact hL60 (1 : Int32) hf
        · replace hf := itn hf c39
          refine jAloadn C dX9_makes_44 rfl 0 rfl ?_
          refine jIloadn C dX9_makes_45 rfl 1 rfl ?_
          refine jIloadn C dX9_makes_46 rfl 2 rfl ?_
          refine jIconst C (1 : Int32) dX9_makes_47 ki_1 ?_
          have hL65 : ∀ (y64 : Int32), X9_makes_j56 mnow mfre_13 p1 mact mkep p3 p2 mfrp_12 y64 = some (rr, omfrp, omact, omnow, omfre, omkep) → J p l e (rmk 4) s m args below meth c D A Q 6 (mw h cy mthr mfrp_12 mact mtpd msiz matx mfrm mtok mval mfk mfpl mbem mtrs mtrl mrom mtom mnow mfre_13 mkep mtap mlef mtak mbes mrow mint mrnd mplo mhio mtox mtol) 56 [(0, .ref (h 0)), (1, .int p1), (2, .int p2), (3, .int p3)] [.int y64, .int p1, .ref (h 0)] := by
            intro y64 hf
            unfold X9_makes_j56 at hf
            obtain ⟨mfre_66, e67, hf⟩ := bd1_some hf
            refine jVV C (X9_laysShadow_ok  e67) vb_X9_laysShadow mk_RX9_257 rfl rcM ⟨Nat.le_of_ble_eq_true rfl, Nat.le_of_ble_eq_true rfl⟩ rfl (Nat.le_of_ble_eq_true rfl) dX9_makes_56 ?_
            refine jGoto C 151 dX9_makes_59 (by decide) ?_
            exact hL17 mfrp_12 mfre_66 hf
          refine jCmpNe C 55 dX9_makes_48 (by decide) (fun c68 => ?_) (fun c68 => ?_)
          · replace hf := itn hf c68
            refine jIconst C (0 : Int32) dX9_makes_55 ki_0 ?_
            exact hL65 (0 : Int32) hf
          · replace hf := itp hf c68
            refine jIconst C (1 : Int32) dX9_makes_51 ki_1 ?_
            refine jGoto C 56 dX9_makes_52 (by decide) ?_
            exact hL65 (1 : Int32) hf
      · replace hf := itp hf c9
        refine jBipush C (-2 : Int32) dX9_makes_27 kb_m2 ?_
        cases hf
        exact jEndI C hQ rfl dX9_makes_29
end WK
