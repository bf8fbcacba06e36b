section WK
variable {g h : Nat → Nat} {cP : Nat → Int32} {cLo : Nat → Int64} {cHi : Nat → Int64} {cpl : Nat → Int32} {ctb : Nat → Int32} {ctl : Int32} {ctf : Int32} {ctp : Int32} {ctk : Int32} {cts : Int32} {cth : Int32} {cob : Nat → Int32} {col : Int32} {cso : Nat → Int32} {cha : Int32} {chs : Int32} {cbe : Int32} {ctr : Int32} {cgl : Nat → Int64} {cgh : Nat → Int64} {cll : Nat → Int64} {clh : Nat → Int64} {cta : Nat → Int32} {cme : Nat → Int32} {cps : Int32} {cwh : Nat → Int32} {cal : Nat → Int64} {cah : Nat → Int64} {mthr : Int32} {mfrp : Int32} {mact : Int32} {mtpd : Int32} {msiz : Int32} {matx : Int32} {mfrm : Int32} {mtok : Int32} {mval : Int32} {mfk : Int32} {mfpl : Int32} {mbem : Int32} {mtrs : Int32} {mtrl : Int32} {mrom : Int32} {mtom : Int32} {mnow : Nat → Int32} {mfre : Nat → Int32} {mkep : Nat → Int32} {mtap : Nat → Int32} {mlef : Nat → Int32} {mtak : Nat → Int32} {mbes : Nat → Int32} {mrow : Nat → Int32} {mint : Nat → Int32} {mrnd : Nat → Int32} {mplo : Nat → Int32} {mhio : Nat → Int32} {mtox : Nat → Int32} {mtol : Nat → Int32}
variable {D : va_G} {cy : Nat → ClassId} {G : Nat → Nat}
noncomputable def X9_shatters_h29 (mnow : Nat → Int32) (p1 : Int32) (p2 : Int32) (r11 : Int32 → Int32 → Int32 → Option Int32) (x3_7 : Int32) (x4_8 : Int32) (x5_9 : Int32) : Option Int32 := bd1 (X9_points mnow p1) (fun q12 => (if ((1 : Int32) <<< (q12 &&& 31)) ≤ x5_9 then (if p2 = (0 : Int32) then some x3_7 else some x4_8) else bd1 (X9_isShattered mnow p1 x5_9) (fun q16 => (if q16 = (0 : Int32) then r11 x3_7 x4_8 (x5_9 + (1 : Int32)) else bd1 (X9_bits x5_9) (fun q19 => r11 (x3_7 + (1 : Int32)) (imax x4_8 q19) (x5_9 + (1 : Int32)))))))
noncomputable def X9_shatters (mnow : Nat → Int32) (p1 : Int32) (p2 : Int32) : Option Int32 := bd1 (X9_hasOne mnow p1) (fun q1 => (if q1 = (0 : Int32) then some (-2 : Int32) else bd1 (X9_in (p2.toInt64) (0 : Int64) (1 : Int64)) (fun q4 => (if q4 = (0 : Int32) then some (-2 : Int32) else lfp3 (X9_shatters_h29 mnow p1 p2) (0 : Int32) (-1 : Int32) (0 : Int32)))))
set_option maxHeartbeats 4000000 in
set_option maxRecDepth 20000 in
theorem X9_shatters_ok {p1 : Int32} {p2 : Int32} {rr : Int32}  (hf : X9_shatters mnow p1 p2 = some rr) : MT yX9_shatters cX9_shatters 6 (some .int) 3 [.ref (h 0), .int p1, .int p2] D cy G (mw h cy mthr mfrp mact mtpd msiz matx mfrm mtok mval mfk mfpl mbem mtrs mtrl mrom mtom mnow mfre mkep mtap mlef mtak mbes mrow mint mrnd mplo mhio mtox mtol) (mw h cy mthr mfrp mact mtpd msiz matx mfrm mtok mval mfk mfpl mbem mtrs mtrl mrom mtom mnow mfre mkep mtap mlef mtak mbes mrow mint mrnd mplo mhio mtox mtol) (some (.int rr)) := by
  refine MT.go (own := RX9) [(0, .ref (h 0)), (1, .int p1), (2, .int p2)] (by decide) rfl (Nat.le_of_ble_eq_true rfl) rfl (fun p l e s m args below meth c A Q C hQ => ?_)
  unfold X9_shatters at hf
  refine jAloadn C dX9_shatters_0 rfl 0 rfl ?_
  refine jIloadn C dX9_shatters_1 rfl 1 rfl ?_
  obtain ⟨q1, e2, hf⟩ := bd1_some hf
  refine jVI C (X9_hasOne_ok  e2) vb_X9_hasOne mk_RX9_75 rfl rcM ⟨Nat.le_of_ble_eq_true rfl, Nat.le_of_ble_eq_true rfl⟩ rfl (Nat.le_of_ble_eq_true rfl) dX9_shatters_2 ?_
  refine jIfEq C 18 dX9_shatters_5 (by decide) (fun c3 => ?_) (fun c3 => ?_)
  · replace hf := itp hf c3
    refine jBipush C (-2 : Int32) dX9_shatters_18 kb_m2 ?_
    cases hf
    exact jEndI C hQ rfl dX9_shatters_20
  · replace hf := itn hf c3
    refine jIloadn C dX9_shatters_8 rfl 2 rfl ?_
    refine jI2l C dX9_shatters_9 ?_
    refine jLconst C (0 : Int64) dX9_shatters_10 rfl ?_
    refine jLconst C (1 : Int64) dX9_shatters_11 rfl ?_
    obtain ⟨q4, e5, hf⟩ := bd1_some hf
    refine jSI C (X9_in_ok  e5) sb_X9_in mk_RX9_63 rfl ⟨Nat.le_of_ble_eq_true rfl, Nat.le_of_ble_eq_true rfl⟩ rfl (Nat.le_of_ble_eq_true rfl) dX9_shatters_12 ?_
    refine jIfNe C 21 dX9_shatters_15 (by decide) (fun c6 => ?_) (fun c6 => ?_)
    · replace hf := itn hf c6
      refine jIconst C (0 : Int32) dX9_shatters_21 ki_0 ?_
      refine jIstoren C dX9_shatters_22 rfl (Nat.le_of_ble_eq_true rfl) [(3, .int (0 : Int32)), (0, .ref (h 0)), (1, .int p1), (2, .int p2)] rfl ?_
      refine jIconst C (-1 : Int32) dX9_shatters_23 ki_m1 ?_
      refine jIstore C dX9_shatters_24 (Nat.le_of_ble_eq_true rfl) [(4, .int (-1 : Int32)), (3, .int (0 : Int32)), (0, .ref (h 0)), (1, .int p1), (2, .int p2)] rfl ?_
      refine jIconst C (0 : Int32) dX9_shatters_26 ki_0 ?_
      refine jIstore C dX9_shatters_27 (Nat.le_of_ble_eq_true rfl) [(5, .int (0 : Int32)), (4, .int (-1 : Int32)), (3, .int (0 : Int32)), (0, .ref (h 0)), (1, .int p1), (2, .int p2)] rfl ?_
      have hL10 : ∀ (x3_7 : Int32) (x4_8 : Int32) (x5_9 : Int32), lfp3 (X9_shatters_h29 mnow p1 p2) x3_7 x4_8 x5_9 = some rr → J p l e (rmk 3) s m args below meth c D A Q 6 (mw h cy mthr mfrp mact mtpd msiz matx mfrm mtok mval mfk mfpl mbem mtrs mtrl mrom mtom mnow mfre mkep mtap mlef mtak mbes mrow mint mrnd mplo mhio mtox mtol) 29 [(0, .ref (h 0)), (1, .int p1), (2, .int p2), (3, .int x3_7), (4, .int x4_8), (5, .int x5_9)] [] := by
        intro x3_7 x4_8 x5_9 hw
        refine lfp3_walk (P := fun x3_7 x4_8 x5_9 => J p l e (rmk 3) s m args below meth c D A Q 6 (mw h cy mthr mfrp mact mtpd msiz matx mfrm mtok mval mfk mfpl mbem mtrs mtrl mrom mtom mnow mfre mkep mtap mlef mtak mbes mrow mint mrnd mplo mhio mtox mtol) 29 [(0, .ref (h 0)), (1, .int p1), (2, .int p2), (3, .int x3_7), (4, .int x4_8), (5, .int x5_9)] []) ?_ hw
        intro r11 ir11 x3_7 x4_8 x5_9 hf
        unfold X9_shatters_h29 at hf
        refine jIload C dX9_shatters_29 5 rfl ?_
        refine jIconst C (1 : Int32) dX9_shatters_31 ki_1 ?_
        refine jAloadn C dX9_shatters_32 rfl 0 rfl ?_
        refine jIloadn C dX9_shatters_33 rfl 1 rfl ?_
        obtain ⟨q12, e13, hf⟩ := bd1_some hf
        refine jVI C (X9_points_ok  e13) vb_X9_points mk_RX9_78 rfl rcM ⟨Nat.le_of_ble_eq_true rfl, Nat.le_of_ble_eq_true rfl⟩ rfl (Nat.le_of_ble_eq_true rfl) dX9_shatters_34 ?_
        refine jIshl C dX9_shatters_37 ?_
        refine jCmpGe C 75 dX9_shatters_38 (by decide) (fun c14 => ?_) (fun c14 => ?_)
        · replace hf := itp hf c14
          refine jIloadn C dX9_shatters_75 rfl 2 rfl ?_
          refine jIfNe C 83 dX9_shatters_76 (by decide) (fun c15 => ?_) (fun c15 => ?_)
          · replace hf := itn hf c15
            refine jIload C dX9_shatters_83 4 rfl ?_
            cases hf
            exact jEndI C hQ rfl dX9_shatters_85
          · replace hf := itp hf c15
            refine jIloadn C dX9_shatters_79 rfl 3 rfl ?_
            refine jGoto C 85 dX9_shatters_80 (by decide) ?_
            cases hf
            exact jEndI C hQ rfl dX9_shatters_85
        · replace hf := itn hf c14
          refine jAloadn C dX9_shatters_41 rfl 0 rfl ?_
          refine jIloadn C dX9_shatters_42 rfl 1 rfl ?_
          refine jIload C dX9_shatters_43 5 rfl ?_
          obtain ⟨q16, e17, hf⟩ := bd1_some hf
          refine jVI C (X9_isShattered_ok  e17) vb_X9_isShattered mk_RX9_339 rfl rcM ⟨Nat.le_of_ble_eq_true rfl, Nat.le_of_ble_eq_true rfl⟩ rfl (Nat.le_of_ble_eq_true rfl) dX9_shatters_45 ?_
          refine jIfNe C 54 dX9_shatters_48 (by decide) (fun c18 => ?_) (fun c18 => ?_)
          · replace hf := itn hf c18
            refine jIinc C (x3_7 + (1 : Int32)) dX9_shatters_54 3 rfl (congrArg (fun z : Int32 => x3_7 + z) ki_1) (Nat.le_of_ble_eq_true rfl) [(3, .int (x3_7 + (1 : Int32))), (0, .ref (h 0)), (1, .int p1), (2, .int p2), (4, .int x4_8), (5, .int x5_9)] rfl ?_
            refine jIload C dX9_shatters_57 4 rfl ?_
            refine jIload C dX9_shatters_59 5 rfl ?_
            obtain ⟨q19, e20, hf⟩ := bd1_some hf
            refine jSI C (X9_bits_ok  e20) sb_X9_bits mk_RX9_198 rfl ⟨Nat.le_of_ble_eq_true rfl, Nat.le_of_ble_eq_true rfl⟩ rfl (Nat.le_of_ble_eq_true rfl) dX9_shatters_61 ?_
            refine jMax C mk_RX9_201 ⟨Nat.le_of_ble_eq_true rfl, Nat.le_of_ble_eq_true rfl⟩ dX9_shatters_64 ?_
            refine jIstore C dX9_shatters_67 (Nat.le_of_ble_eq_true rfl) [(4, .int (imax x4_8 q19)), (3, .int (x3_7 + (1 : Int32))), (0, .ref (h 0)), (1, .int p1), (2, .int p2), (5, .int x5_9)] rfl ?_
            refine jIinc C (x5_9 + (1 : Int32)) dX9_shatters_69 5 rfl (congrArg (fun z : Int32 => x5_9 + z) ki_1) (Nat.le_of_ble_eq_true rfl) [(5, .int (x5_9 + (1 : Int32))), (4, .int (imax x4_8 q19)), (3, .int (x3_7 + (1 : Int32))), (0, .ref (h 0)), (1, .int p1), (2, .int p2)] rfl ?_
            refine jGoto C 29 dX9_shatters_72 (by decide) ?_
            refine jSub [3, 4, 5, 2, 1, 0] rfl ?_
            exact ir11 (x3_7 + (1 : Int32)) (imax x4_8 q19) (x5_9 + (1 : Int32)) hf
          · replace hf := itp hf c18
            refine jGoto C 69 dX9_shatters_51 (by decide) ?_
            refine jIinc C (x5_9 + (1 : Int32)) dX9_shatters_69 5 rfl (congrArg (fun z : Int32 => x5_9 + z) ki_1) (Nat.le_of_ble_eq_true rfl) [(5, .int (x5_9 + (1 : Int32))), (0, .ref (h 0)), (1, .int p1), (2, .int p2), (3, .int x3_7), (4, .int x4_8)] rfl ?_
            refine jGoto C 29 dX9_shatters_72 (by decide) ?_
            refine jSub [1, 2, 3, 4, 5, 0] rfl ?_
            exact ir11 x3_7 x4_8 (x5_9 + (1 : Int32)) hf
      refine jSub [3, 4, 5, 2, 1, 0] rfl ?_
      exact hL10 (0 : Int32) (-1 : Int32) (0 : Int32) hf
    · replace hf := itp hf c6
      refine jBipush C (-2 : Int32) dX9_shatters_18 kb_m2 ?_
      cases hf
      exact jEndI C hQ rfl dX9_shatters_20
noncomputable def X9_flower_h59 (r14 : Int32 → Int32 → Option Int32) (x5_12 : Int32) (mnow : Nat → Int32) (p1 : Int32) (x4_6 : Int32) (p2 : Int32) (r22 : Int32 → Int32 → Option Int32) (x3_19 : Int32) (x6_20 : Int32) : Option Int32 := (if (128 : Int32) ≤ x6_20 then r14 x3_19 (x5_12 + (1 : Int32)) else bd1 (X9_isIn mnow p1 x5_12) (fun q24 => (if q24 = (0 : Int32) then r14 x3_19 (x5_12 + (1 : Int32)) else bd1 (X9_isIn mnow p1 x6_20) (fun q27 => (if q27 = (0 : Int32) then r22 x3_19 (x6_20 + (1 : Int32)) else (if (x4_6 &&& x5_12) = (x4_6 &&& x6_20) then (if (x4_6 &&& x5_12) = (x5_12 &&& x6_20) then (if x3_19 = p2 then some ((((1000000 : Int32) * x4_6) + ((1000 : Int32) * x5_12)) + x6_20) else r22 (x3_19 + (1 : Int32)) (x6_20 + (1 : Int32))) else r22 x3_19 (x6_20 + (1 : Int32))) else r22 x3_19 (x6_20 + (1 : Int32))))))))
noncomputable def X9_flower_h35 (r8 : Int32 → Int32 → Option Int32) (x4_6 : Int32) (mnow : Nat → Int32) (p1 : Int32) (p2 : Int32) (r14 : Int32 → Int32 → Option Int32) (x3_11 : Int32) (x5_12 : Int32) : Option Int32 := (if (128 : Int32) ≤ x5_12 then r8 x3_11 (x4_6 + (1 : Int32)) else bd1 (X9_isIn mnow p1 x4_6) (fun q16 => (if q16 = (0 : Int32) then r8 x3_11 (x4_6 + (1 : Int32)) else lfp2 (X9_flower_h59 r14 x5_12 mnow p1 x4_6 p2) x3_11 (x5_12 + (1 : Int32)))))
noncomputable def X9_flower_h21 (p2 : Int32) (mnow : Nat → Int32) (p1 : Int32) (r8 : Int32 → Int32 → Option Int32) (x3_5 : Int32) (x4_6 : Int32) : Option Int32 := (if (128 : Int32) ≤ x4_6 then (if p2 = (-1 : Int32) then some x3_5 else some (-1 : Int32)) else lfp2 (X9_flower_h35 r8 x4_6 mnow p1 p2) x3_5 (x4_6 + (1 : Int32)))
noncomputable def X9_flower (mnow : Nat → Int32) (p1 : Int32) (p2 : Int32) : Option Int32 := bd1 (X9_hasOne mnow p1) (fun q1 => (if q1 = (0 : Int32) then some (-2 : Int32) else (if (-1 : Int32) ≤ p2 then lfp2 (X9_flower_h21 p2 mnow p1) (0 : Int32) (0 : Int32) else some (-2 : Int32))))
set_option maxHeartbeats 4000000 in
set_option maxRecDepth 20000 in
theorem X9_flower_ok {p1 : Int32} {p2 : Int32} {rr : Int32}  (hf : X9_flower mnow p1 p2 = some rr) : MT yX9_flower cX9_flower 7 (some .int) 3 [.ref (h 0), .int p1, .int p2] D cy G (mw h cy mthr mfrp mact mtpd msiz matx mfrm mtok mval mfk mfpl mbem mtrs mtrl mrom mtom mnow mfre mkep mtap mlef mtak mbes mrow mint mrnd mplo mhio mtox mtol) (mw h cy mthr mfrp mact mtpd msiz matx mfrm mtok mval mfk mfpl mbem mtrs mtrl mrom mtom mnow mfre mkep mtap mlef mtak mbes mrow mint mrnd mplo mhio mtox mtol) (some (.int rr)) := by
  refine MT.go (own := RX9) [(0, .ref (h 0)), (1, .int p1), (2, .int p2)] (by decide) rfl (Nat.le_of_ble_eq_true rfl) rfl (fun p l e s m args below meth c A Q C hQ => ?_)
  unfold X9_flower at hf
  refine jAloadn C dX9_flower_0 rfl 0 rfl ?_
  refine jIloadn C dX9_flower_1 rfl 1 rfl ?_
  obtain ⟨q1, e2, hf⟩ := bd1_some hf
  refine jVI C (X9_hasOne_ok  e2) vb_X9_hasOne mk_RX9_75 rfl rcM ⟨Nat.le_of_ble_eq_true rfl, Nat.le_of_ble_eq_true rfl⟩ rfl (Nat.le_of_ble_eq_true rfl) dX9_flower_2 ?_
  refine jIfEq C 13 dX9_flower_5 (by decide) (fun c3 => ?_) (fun c3 => ?_)
  · replace hf := itp hf c3
    refine jBipush C (-2 : Int32) dX9_flower_13 kb_m2 ?_
    cases hf
    exact jEndI C hQ rfl dX9_flower_15
  · replace hf := itn hf c3
    refine jIloadn C dX9_flower_8 rfl 2 rfl ?_
    refine jIconst C (-1 : Int32) dX9_flower_9 ki_m1 ?_
    refine jCmpGe C 16 dX9_flower_10 (by decide) (fun c4 => ?_) (fun c4 => ?_)
    · replace hf := itp hf c4
      refine jIconst C (0 : Int32) dX9_flower_16 ki_0 ?_
      refine jIstoren C dX9_flower_17 rfl (Nat.le_of_ble_eq_true rfl) [(3, .int (0 : Int32)), (0, .ref (h 0)), (1, .int p1), (2, .int p2)] rfl ?_
      refine jIconst C (0 : Int32) dX9_flower_18 ki_0 ?_
      refine jIstore C dX9_flower_19 (Nat.le_of_ble_eq_true rfl) [(4, .int (0 : Int32)), (3, .int (0 : Int32)), (0, .ref (h 0)), (1, .int p1), (2, .int p2)] rfl ?_
      have hL7 : ∀ (x3_5 : Int32) (x4_6 : Int32), lfp2 (X9_flower_h21 p2 mnow p1) x3_5 x4_6 = some rr → J p l e (rmk 3) s m args below meth c D A Q 7 (mw h cy mthr mfrp mact mtpd msiz matx mfrm mtok mval mfk mfpl mbem mtrs mtrl mrom mtom mnow mfre mkep mtap mlef mtak mbes mrow mint mrnd mplo mhio mtox mtol) 21 [(0, .ref (h 0)), (1, .int p1), (2, .int p2), (3, .int x3_5), (4, .int x4_6)] [] := by
        intro x3_5 x4_6 hw
        refine lfp2_walk (P := fun x3_5 x4_6 => J p l e (rmk 3) s m args below meth c D A Q 7 (mw h cy mthr mfrp mact mtpd msiz matx mfrm mtok mval mfk mfpl mbem mtrs mtrl mrom mtom mnow mfre mkep mtap mlef mtak mbes mrow mint mrnd mplo mhio mtox mtol) 21 [(0, .ref (h 0)), (1, .int p1), (2, .int p2), (3, .int x3_5), (4, .int x4_6)] []) ?_ hw
        intro r8 ir8 x3_5 x4_6 hf
        unfold X9_flower_h21 at hf
        refine jIload C dX9_flower_21 4 rfl ?_
        refine jSipush C (128 : Int32) dX9_flower_23 ks_128 ?_
        refine jCmpGe C 159 dX9_flower_26 (by decide) (fun c9 => ?_) (fun c9 => ?_)
        · replace hf := itp hf c9
          refine jIloadn C dX9_flower_159 rfl 2 rfl ?_
          refine jIconst C (-1 : Int32) dX9_flower_160 ki_m1 ?_
          refine jCmpNe C 168 dX9_flower_161 (by decide) (fun c10 => ?_) (fun c10 => ?_)
          · replace hf := itn hf c10
            refine jIconst C (-1 : Int32) dX9_flower_168 ki_m1 ?_
            cases hf
            exact jEndI C hQ rfl dX9_flower_169
          · replace hf := itp hf c10
            refine jIloadn C dX9_flower_164 rfl 3 rfl ?_
            refine jGoto C 169 dX9_flower_165 (by decide) ?_
            cases hf
            exact jEndI C hQ rfl dX9_flower_169
        · replace hf := itn hf c9
          refine jIload C dX9_flower_29 4 rfl ?_
          refine jIconst C (1 : Int32) dX9_flower_31 ki_1 ?_
          refine jIadd C dX9_flower_32 ?_
          refine jIstore C dX9_flower_33 (Nat.le_of_ble_eq_true rfl) [(5, .int (x4_6 + (1 : Int32))), (0, .ref (h 0)), (1, .int p1), (2, .int p2), (3, .int x3_5), (4, .int x4_6)] rfl ?_
          have hL13 : ∀ (x3_11 : Int32) (x5_12 : Int32), lfp2 (X9_flower_h35 r8 x4_6 mnow p1 p2) x3_11 x5_12 = some rr → J p l e (rmk 3) s m args below meth c D A Q 7 (mw h cy mthr mfrp mact mtpd msiz matx mfrm mtok mval mfk mfpl mbem mtrs mtrl mrom mtom mnow mfre mkep mtap mlef mtak mbes mrow mint mrnd mplo mhio mtox mtol) 35 [(0, .ref (h 0)), (1, .int p1), (2, .int p2), (3, .int x3_11), (4, .int x4_6), (5, .int x5_12)] [] := by
            intro x3_11 x5_12 hw
            refine lfp2_walk (P := fun x3_11 x5_12 => J p l e (rmk 3) s m args below meth c D A Q 7 (mw h cy mthr mfrp mact mtpd msiz matx mfrm mtok mval mfk mfpl mbem mtrs mtrl mrom mtom mnow mfre mkep mtap mlef mtak mbes mrow mint mrnd mplo mhio mtox mtol) 35 [(0, .ref (h 0)), (1, .int p1), (2, .int p2), (3, .int x3_11), (4, .int x4_6), (5, .int x5_12)] []) ?_ hw
            intro r14 ir14 x3_11 x5_12 hf
            unfold X9_flower_h35 at hf
            refine jIload C dX9_flower_35 5 rfl ?_
            refine jSipush C (128 : Int32) dX9_flower_37 ks_128 ?_
            refine jCmpGe C 153 dX9_flower_40 (by decide) (fun c15 => ?_) (fun c15 => ?_)
            · replace hf := itp hf c15
              refine jIinc C (x4_6 + (1 : Int32)) dX9_flower_153 4 rfl (congrArg (fun z : Int32 => x4_6 + z) ki_1) (Nat.le_of_ble_eq_true rfl) [(4, .int (x4_6 + (1 : Int32))), (0, .ref (h 0)), (1, .int p1), (2, .int p2), (3, .int x3_11), (5, .int x5_12)] rfl ?_
              refine jGoto C 21 dX9_flower_156 (by decide) ?_
              refine jSub [1, 2, 3, 4, 0] rfl ?_
              exact ir8 x3_11 (x4_6 + (1 : Int32)) hf
            · replace hf := itn hf c15
              refine jAloadn C dX9_flower_43 rfl 0 rfl ?_
              refine jIloadn C dX9_flower_44 rfl 1 rfl ?_
              refine jIload C dX9_flower_45 4 rfl ?_
              obtain ⟨q16, e17, hf⟩ := bd1_some hf
              refine jVI C (X9_isIn_ok  e17) vb_X9_isIn mk_RX9_81 rfl rcM ⟨Nat.le_of_ble_eq_true rfl, Nat.le_of_ble_eq_true rfl⟩ rfl (Nat.le_of_ble_eq_true rfl) dX9_flower_47 ?_
              refine jIfEq C 153 dX9_flower_50 (by decide) (fun c18 => ?_) (fun c18 => ?_)
              · replace hf := itp hf c18
                refine jIinc C (x4_6 + (1 : Int32)) dX9_flower_153 4 rfl (congrArg (fun z : Int32 => x4_6 + z) ki_1) (Nat.le_of_ble_eq_true rfl) [(4, .int (x4_6 + (1 : Int32))), (0, .ref (h 0)), (1, .int p1), (2, .int p2), (3, .int x3_11), (5, .int x5_12)] rfl ?_
                refine jGoto C 21 dX9_flower_156 (by decide) ?_
                refine jSub [1, 2, 3, 4, 0] rfl ?_
                exact ir8 x3_11 (x4_6 + (1 : Int32)) hf
              · replace hf := itn hf c18
                refine jIload C dX9_flower_53 5 rfl ?_
                refine jIconst C (1 : Int32) dX9_flower_55 ki_1 ?_
                refine jIadd C dX9_flower_56 ?_
                refine jIstore C dX9_flower_57 (Nat.le_of_ble_eq_true rfl) [(6, .int (x5_12 + (1 : Int32))), (0, .ref (h 0)), (1, .int p1), (2, .int p2), (3, .int x3_11), (4, .int x4_6), (5, .int x5_12)] rfl ?_
                have hL21 : ∀ (x3_19 : Int32) (x6_20 : Int32), lfp2 (X9_flower_h59 r14 x5_12 mnow p1 x4_6 p2) x3_19 x6_20 = some rr → J p l e (rmk 3) s m args below meth c D A Q 7 (mw h cy mthr mfrp mact mtpd msiz matx mfrm mtok mval mfk mfpl mbem mtrs mtrl mrom mtom mnow mfre mkep mtap mlef mtak mbes mrow mint mrnd mplo mhio mtox mtol) 59 [(0, .ref (h 0)), (1, .int p1), (2, .int p2), (3, .int x3_19), (4, .int x4_6), (5, .int x5_12), (6, .int x6_20)] [] := by
                  intro x3_19 x6_20 hw
                  refine lfp2_walk (P := fun x3_19 x6_20 => J p l e (rmk 3) s m args below meth c D A Q 7 (mw h cy mthr mfrp mact mtpd msiz matx mfrm mtok mval mfk mfpl mbem mtrs mtrl mrom mtom mnow mfre mkep mtap mlef mtak mbes mrow mint mrnd mplo mhio mtox mtol) 59 [(0, .ref (h 0)), (1, .int p1), (2, .int p2), (3, .int x3_19), (4, .int x4_6), (5, .int x5_12), (6, .int x6_20)] []) ?_ hw
                  intro r22 ir22 x3_19 x6_20 hf
                  unfold X9_flower_h59 at hf
                  refine jIload C dX9_flower_59 6 rfl ?_
                  refine jSipush C (128 : Int32) dX9_flower_61 ks_128 ?_
                  refine jCmpGe C 147 dX9_flower_64 (by decide) (fun c23 => ?_) (fun c23 => ?_)
                  · replace hf := itp hf c23
                    refine jIinc C (x5_12 + (1 : Int32)) dX9_flower_147 5 rfl (congrArg (fun z : Int32 => x5_12 + z) ki_1) (Nat.le_of_ble_eq_true rfl) [(5, .int (x5_12 + (1 : Int32))), (0, .ref (h 0)), (1, .int p1), (2, .int p2), (3, .int x3_19), (4, .int x4_6), (6, .int x6_20)] rfl ?_
                    refine jGoto C 35 dX9_flower_150 (by decide) ?_
                    refine jSub [1, 2, 3, 4, 5, 0] rfl ?_
                    exact ir14 x3_19 (x5_12 + (1 : Int32)) hf
                  · replace hf := itn hf c23
                    refine jAloadn C dX9_flower_67 rfl 0 rfl ?_
                    refine jIloadn C dX9_flower_68 rfl 1 rfl ?_
                    refine jIload C dX9_flower_69 5 rfl ?_
                    obtain ⟨q24, e25, hf⟩ := bd1_some hf
                    refine jVI C (X9_isIn_ok  e25) vb_X9_isIn mk_RX9_81 rfl rcM ⟨Nat.le_of_ble_eq_true rfl, Nat.le_of_ble_eq_true rfl⟩ rfl (Nat.le_of_ble_eq_true rfl) dX9_flower_71 ?_
                    refine jIfEq C 147 dX9_flower_74 (by decide) (fun c26 => ?_) (fun c26 => ?_)
                    · replace hf := itp hf c26
                      refine jIinc C (x5_12 + (1 : Int32)) dX9_flower_147 5 rfl (congrArg (fun z : Int32 => x5_12 + z) ki_1) (Nat.le_of_ble_eq_true rfl) [(5, .int (x5_12 + (1 : Int32))), (0, .ref (h 0)), (1, .int p1), (2, .int p2), (3, .int x3_19), (4, .int x4_6), (6, .int x6_20)] rfl ?_
                      refine jGoto C 35 dX9_flower_150 (by decide) ?_
                      refine jSub [1, 2, 3, 4, 5, 0] rfl ?_
                      exact ir14 x3_19 (x5_12 + (1 : Int32)) hf
                    · replace hf := itn hf c26
                      refine jAloadn C dX9_flower_77 rfl 0 rfl ?_
                      refine jIloadn C dX9_flower_78 rfl 1 rfl ?_
                      refine jIload C dX9_flower_79 6 rfl ?_
                      obtain ⟨q27, e28, hf⟩ := bd1_some hf
                      refine jVI C (X9_isIn_ok  e28) vb_X9_isIn mk_RX9_81 rfl rcM ⟨Nat.le_of_ble_eq_true rfl, Nat.le_of_ble_eq_true rfl⟩ rfl (Nat.le_of_ble_eq_true rfl) dX9_flower_81 ?_
                      refine jIfEq C 141 dX9_flower_84 (by decide) (fun c29 => ?_) (fun c29 => ?_)
                      · replace hf := itp hf c29
                        refine jIinc C (x6_20 + (1 : Int32)) dX9_flower_141 6 rfl (congrArg (fun z : Int32 => x6_20 + z) ki_1) (Nat.le_of_ble_eq_true rfl) [(6, .int (x6_20 + (1 : Int32))), (0, .ref (h 0)), (1, .int p1), (2, .int p2), (3, .int x3_19), (4, .int x4_6), (5, .int x5_12)] rfl ?_
                        refine jGoto C 59 dX9_flower_144 (by decide) ?_
                        refine jSub [1, 2, 3, 4, 5, 6, 0] rfl ?_
                        exact ir22 x3_19 (x6_20 + (1 : Int32)) hf
                      · replace hf := itn hf c29
                        refine jIload C dX9_flower_87 4 rfl ?_
                        refine jIload C dX9_flower_89 5 rfl ?_
                        refine jIand C dX9_flower_91 ?_
                        refine jIload C dX9_flower_92 4 rfl ?_
                        refine jIload C dX9_flower_94 6 rfl ?_
                        refine jIand C dX9_flower_96 ?_
                        refine jCmpNe C 141 dX9_flower_97 (by decide) (fun c30 => ?_) (fun c30 => ?_)
                        · replace hf := itn hf c30
                          refine jIinc C (x6_20 + (1 : Int32)) dX9_flower_141 6 rfl (congrArg (fun z : Int32 => x6_20 + z) ki_1) (Nat.le_of_ble_eq_true rfl) [(6, .int (x6_20 + (1 : Int32))), (0, .ref (h 0)), (1, .int p1), (2, .int p2), (3, .int x3_19), (4, .int x4_6), (5, .int x5_12)] rfl ?_
                          refine jGoto C 59 dX9_flower_144 (by decide) ?_
                          refine jSub [1, 2, 3, 4, 5, 6, 0] rfl ?_
                          exact ir22 x3_19 (x6_20 + (1 : Int32)) hf
                        · replace hf := itp hf c30
                          refine jIload C dX9_flower_100 4 rfl ?_
                          refine jIload C dX9_flower_102 5 rfl ?_
                          refine jIand C dX9_flower_104 ?_
                          refine jIload C dX9_flower_105 5 rfl ?_
                          refine jIload C dX9_flower_107 6 rfl ?_
                          refine jIand C dX9_flower_109 ?_
                          refine jCmpEq C 116 dX9_flower_110 (by decide) (fun c31 => ?_) (fun c31 => ?_)
                          · replace hf := itp hf c31
                            refine jIloadn C dX9_flower_116 rfl 3 rfl ?_
                            refine jIloadn C dX9_flower_117 rfl 2 rfl ?_
                            refine jCmpNe C 138 dX9_flower_118 (by decide) (fun c32 => ?_) (fun c32 => ?_)
                            · replace hf := itn hf c32
                              refine jIinc C (x3_19 + (1 : Int32)) dX9_flower_138 3 rfl (congrArg (fun z : Int32 => x3_19 + z) ki_1) (Nat.le_of_ble_eq_true rfl) [(3, .int (x3_19 + (1 : Int32))), (0, .ref (h 0)), (1, .int p1), (2, .int p2), (4, .int x4_6), (5, .int x5_12), (6, .int x6_20)] rfl ?_
                              refine jIinc C (x6_20 + (1 : Int32)) dX9_flower_141 6 rfl (congrArg (fun z : Int32 => x6_20 + z) ki_1) (Nat.le_of_ble_eq_true rfl) [(6, .int (x6_20 + (1 : Int32))), (3, .int (x3_19 + (1 : Int32))), (0, .ref (h 0)), (1, .int p1), (2, .int p2), (4, .int x4_6), (5, .int x5_12)] rfl ?_
                              refine jGoto C 59 dX9_flower_144 (by decide) ?_
                              refine jSub [2, 3, 4, 1, 5, 6, 0] rfl ?_
                              exact ir22 (x3_19 + (1 : Int32)) (x6_20 + (1 : Int32)) hf
                            · replace hf := itp hf c32
                              refine jLdcw C (x := (1000000 : Int32)) ik_RX9_342 dX9_flower_121 ?_
                              refine jIload C dX9_flower_124 4 rfl ?_
                              refine jImul C dX9_flower_126 ?_
                              refine jSipush C (1000 : Int32) dX9_flower_127 ks_1000 ?_
                              refine jIload C dX9_flower_130 5 rfl ?_
                              refine jImul C dX9_flower_132 ?_
                              refine jIadd C dX9_flower_133 ?_
                              refine jIload C dX9_flower_134 6 rfl ?_
                              refine jIadd C dX9_flower_136 ?_
                              cases hf
                              exact jEndI C hQ rfl dX9_flower_137
                          · replace hf := itn hf c31
                            refine jGoto C 141 dX9_flower_113 (by decide) ?_
                            refine jIinc C (x6_20 + (1 : Int32)) dX9_flower_141 6 rfl (congrArg (fun z : Int32 => x6_20 + z) ki_1) (Nat.le_of_ble_eq_true rfl) [(6, .int (x6_20 + (1 : Int32))), (0, .ref (h 0)), (1, .int p1), (2, .int p2), (3, .int x3_19), (4, .int x4_6), (5, .int x5_12)] rfl ?_
                            refine jGoto C 59 dX9_flower_144 (by decide) ?_
                            refine jSub [1, 2, 3, 4, 5, 6, 0] rfl ?_
                            exact ir22 x3_19 (x6_20 + (1 : Int32)) hf
                refine jSub [1, 2, 3, 4, 5, 6, 0] rfl ?_
                exact hL21 x3_11 (x5_12 + (1 : Int32)) hf
          refine jSub [1, 2, 3, 4, 5, 0] rfl ?_
          exact hL13 x3_5 (x4_6 + (1 : Int32)) hf
      refine jSub [2, 3, 4, 1, 0] rfl ?_
      exact hL7 (0 : Int32) (0 : Int32) hf
    · replace hf := itn hf c4
      refine jBipush C (-2 : Int32) dX9_flower_13 kb_m2 ?_
      cases hf
      exact jEndI C hQ rfl dX9_flower_15
noncomputable def X9_across_h84 (r14 : Int32 → Int32 → Int32 → Option Int32) (x5_11 : Int32) (y32 : Int32) (x6_12 : Int32) (mnow : Nat → Int32) (p2 : Int32) (r37 : Int32 → Int32 → Option Int32) (x4_34 : Int32) (x7_35 : Int32) : Option Int32 := (if (128 : Int32) ≤ x7_35 then r14 x4_34 (x5_11 + y32) (x6_12 + (1 : Int32)) else bd1 (X9_isIn mnow p2 x7_35) (fun q39 => (if q39 = (0 : Int32) then r37 (x4_34 + (0 : Int32)) (x7_35 + (1 : Int32)) else (if (x6_12 &&& x7_35) = (0 : Int32) then r37 (x4_34 + (0 : Int32)) (x7_35 + (1 : Int32)) else r37 (x4_34 + (1 : Int32)) (x7_35 + (1 : Int32))))))
noncomputable def X9_across_j78 (r14 : Int32 → Int32 → Int32 → Option Int32) (x5_11 : Int32) (x6_12 : Int32) (mnow : Nat → Int32) (p2 : Int32) (x4_10 : Int32) (y32 : Int32) : Option Int32 := lfp2 (X9_across_h84 r14 x5_11 y32 x6_12 mnow p2) x4_10 (0 : Int32)
noncomputable def X9_across_h40 (p3 : Int32) (mnow : Nat → Int32) (p1 : Int32) (p2 : Int32) (r14 : Int32 → Int32 → Int32 → Option Int32) (x4_10 : Int32) (x5_11 : Int32) (x6_12 : Int32) : Option Int32 := (if (128 : Int32) ≤ x6_12 then (if p3 = (0 : Int32) then some x4_10 else (if p3 = (1 : Int32) then bd1 (X9_many mnow p1) (fun q23 => bd1 (X9_many mnow p2) (fun q25 => some ((q23 * q25) - x4_10))) else (if p3 = (2 : Int32) then some x5_11 else bd1 (X9_many mnow p1) (fun q19 => bd1 (X9_many mnow p2) (fun q21 => some ((q19 + q21) - x5_11)))))) else bd1 (X9_isIn mnow p1 x6_12) (fun q27 => (if q27 = (0 : Int32) then r14 x4_10 x5_11 (x6_12 + (1 : Int32)) else bd1 (X9_isIn mnow p2 x6_12) (fun q30 => (if q30 = (0 : Int32) then X9_across_j78 r14 x5_11 x6_12 mnow p2 x4_10 (0 : Int32) else X9_across_j78 r14 x5_11 x6_12 mnow p2 x4_10 (1 : Int32))))))
noncomputable def X9_across (mnow : Nat → Int32) (p1 : Int32) (p2 : Int32) (p3 : Int32) : Option Int32 := bd1 (X9_hasOne mnow p1) (fun q1 => (if q1 = (0 : Int32) then some (-2 : Int32) else bd1 (X9_hasOne mnow p2) (fun q4 => (if q4 = (0 : Int32) then some (-2 : Int32) else bd1 (X9_in (p3.toInt64) (0 : Int64) (3 : Int64)) (fun q7 => (if q7 = (0 : Int32) then some (-2 : Int32) else lfp3 (X9_across_h40 p3 mnow p1 p2) (0 : Int32) (0 : Int32) (0 : Int32)))))))
set_option maxHeartbeats 4000000 in
set_option maxRecDepth 20000 in
theorem X9_across_ok {p1 : Int32} {p2 : Int32} {p3 : Int32} {rr : Int32}  (hf : X9_across mnow p1 p2 p3 = some rr) : MT yX9_across cX9_across 8 (some .int) 3 [.ref (h 0), .int p1, .int p2, .int p3] D cy G (mw h cy mthr mfrp mact mtpd msiz matx mfrm mtok mval mfk mfpl mbem mtrs mtrl mrom mtom mnow mfre mkep mtap mlef mtak mbes mrow mint mrnd mplo mhio mtox mtol) (mw h cy mthr mfrp mact mtpd msiz matx mfrm mtok mval mfk mfpl mbem mtrs mtrl mrom mtom mnow mfre mkep mtap mlef mtak mbes mrow mint mrnd mplo mhio mtox mtol) (some (.int rr)) := by
  refine MT.go (own := RX9) [(0, .ref (h 0)), (1, .int p1), (2, .int p2), (3, .int p3)] (by decide) rfl (Nat.le_of_ble_eq_true rfl) rfl (fun p l e s m args below meth c A Q C hQ => ?_)
  unfold X9_across at hf
  refine jAloadn C dX9_across_0 rfl 0 rfl ?_
  refine jIloadn C dX9_across_1 rfl 1 rfl ?_
  obtain ⟨q1, e2, hf⟩ := bd1_some hf
  refine jVI C (X9_hasOne_ok  e2) vb_X9_hasOne mk_RX9_75 rfl rcM ⟨Nat.le_of_ble_eq_true rfl, Nat.le_of_ble_eq_true rfl⟩ rfl (Nat.le_of_ble_eq_true rfl) dX9_across_2 ?_
  refine jIfEq C 28 dX9_across_5 (by decide) (fun c3 => ?_) (fun c3 => ?_)
  · replace hf := itp hf c3
    refine jBipush C (-2 : Int32) dX9_across_28 kb_m2 ?_
    cases hf
    exact jEndI C hQ rfl dX9_across_30
  · replace hf := itn hf c3
    refine jAloadn C dX9_across_8 rfl 0 rfl ?_
    refine jIloadn C dX9_across_9 rfl 2 rfl ?_
    obtain ⟨q4, e5, hf⟩ := bd1_some hf
    refine jVI C (X9_hasOne_ok  e5) vb_X9_hasOne mk_RX9_75 rfl rcM ⟨Nat.le_of_ble_eq_true rfl, Nat.le_of_ble_eq_true rfl⟩ rfl (Nat.le_of_ble_eq_true rfl) dX9_across_10 ?_
    refine jIfEq C 28 dX9_across_13 (by decide) (fun c6 => ?_) (fun c6 => ?_)
    · replace hf := itp hf c6
      refine jBipush C (-2 : Int32) dX9_across_28 kb_m2 ?_
      cases hf
      exact jEndI C hQ rfl dX9_across_30
    · replace hf := itn hf c6
      refine jIloadn C dX9_across_16 rfl 3 rfl ?_
      refine jI2l C dX9_across_17 ?_
      refine jLconst C (0 : Int64) dX9_across_18 rfl ?_
      refine jLdc2 C (x := (3 : Int64)) lk_RX9_308 dX9_across_19 ?_
      obtain ⟨q7, e8, hf⟩ := bd1_some hf
      refine jSI C (X9_in_ok  e8) sb_X9_in mk_RX9_63 rfl ⟨Nat.le_of_ble_eq_true rfl, Nat.le_of_ble_eq_true rfl⟩ rfl (Nat.le_of_ble_eq_true rfl) dX9_across_22 ?_
      refine jIfNe C 31 dX9_across_25 (by decide) (fun c9 => ?_) (fun c9 => ?_)
      · replace hf := itn hf c9
        refine jIconst C (0 : Int32) dX9_across_31 ki_0 ?_
        refine jIstore C dX9_across_32 (Nat.le_of_ble_eq_true rfl) [(4, .int (0 : Int32)), (0, .ref (h 0)), (1, .int p1), (2, .int p2), (3, .int p3)] rfl ?_
        refine jIconst C (0 : Int32) dX9_across_34 ki_0 ?_
        refine jIstore C dX9_across_35 (Nat.le_of_ble_eq_true rfl) [(5, .int (0 : Int32)), (4, .int (0 : Int32)), (0, .ref (h 0)), (1, .int p1), (2, .int p2), (3, .int p3)] rfl ?_
        refine jIconst C (0 : Int32) dX9_across_37 ki_0 ?_
        refine jIstore C dX9_across_38 (Nat.le_of_ble_eq_true rfl) [(6, .int (0 : Int32)), (5, .int (0 : Int32)), (4, .int (0 : Int32)), (0, .ref (h 0)), (1, .int p1), (2, .int p2), (3, .int p3)] rfl ?_
        have hL13 : ∀ (x4_10 : Int32) (x5_11 : Int32) (x6_12 : Int32), lfp3 (X9_across_h40 p3 mnow p1 p2) x4_10 x5_11 x6_12 = some rr → J p l e (rmk 3) s m args below meth c D A Q 8 (mw h cy mthr mfrp mact mtpd msiz matx mfrm mtok mval mfk mfpl mbem mtrs mtrl mrom mtom mnow mfre mkep mtap mlef mtak mbes mrow mint mrnd mplo mhio mtox mtol) 40 [(0, .ref (h 0)), (1, .int p1), (2, .int p2), (3, .int p3), (4, .int x4_10), (5, .int x5_11), (6, .int x6_12)] [] := by
          intro x4_10 x5_11 x6_12 hw
          refine lfp3_walk (P := fun x4_10 x5_11 x6_12 => J p l e (rmk 3) s m args below meth c D A Q 8 (mw h cy mthr mfrp mact mtpd msiz matx mfrm mtok mval mfk mfpl mbem mtrs mtrl mrom mtom mnow mfre mkep mtap mlef mtak mbes mrow mint mrnd mplo mhio mtox mtol) 40 [(0, .ref (h 0)), (1, .int p1), (2, .int p2), (3, .int p3), (4, .int x4_10), (5, .int x5_11), (6, .int x6_12)] []) ?_ hw
          intro r14 ir14 x4_10 x5_11 x6_12 hf
          unfold X9_across_h40 at hf
          refine jIload C dX9_across_40 6 rfl ?_
          refine jSipush C (128 : Int32) dX9_across_42 ks_128 ?_
          refine jCmpGe C 132 dX9_across_45 (by decide) (fun c15 => ?_) (fun c15 => ?_)
          · replace hf := itp hf c15
            refine jIloadn C dX9_across_132 rfl 3 rfl ?_
            refine jIfNe C 141 dX9_across_133 (by decide) (fun c16 => ?_) (fun c16 => ?_)
            · replace hf := itn hf c16
              refine jIloadn C dX9_across_141 rfl 3 rfl ?_
              refine jIconst C (1 : Int32) dX9_across_142 ki_1 ?_
              refine jCmpNe C 163 dX9_across_143 (by decide) (fun c17 => ?_) (fun c17 => ?_)
              · replace hf := itn hf c17
                refine jIloadn C dX9_across_163 rfl 3 rfl ?_
                refine jIconst C (2 : Int32) dX9_across_164 ki_2 ?_
                refine jCmpNe C 173 dX9_across_165 (by decide) (fun c18 => ?_) (fun c18 => ?_)
                · replace hf := itn hf c18
                  refine jAloadn C dX9_across_173 rfl 0 rfl ?_
                  refine jIloadn C dX9_across_174 rfl 1 rfl ?_
                  obtain ⟨q19, e20, hf⟩ := bd1_some hf
                  refine jVI C (X9_many_ok  e20) vb_X9_many mk_RX9_97 rfl rcM ⟨Nat.le_of_ble_eq_true rfl, Nat.le_of_ble_eq_true rfl⟩ rfl (Nat.le_of_ble_eq_true rfl) dX9_across_175 ?_
                  refine jAloadn C dX9_across_178 rfl 0 rfl ?_
                  refine jIloadn C dX9_across_179 rfl 2 rfl ?_
                  obtain ⟨q21, e22, hf⟩ := bd1_some hf
                  refine jVI C (X9_many_ok  e22) vb_X9_many mk_RX9_97 rfl rcM ⟨Nat.le_of_ble_eq_true rfl, Nat.le_of_ble_eq_true rfl⟩ rfl (Nat.le_of_ble_eq_true rfl) dX9_across_180 ?_
                  refine jIadd C dX9_across_183 ?_
                  refine jIload C dX9_across_184 5 rfl ?_
                  refine jIsub C dX9_across_186 ?_
                  cases hf
                  exact jEndI C hQ rfl dX9_across_187
                · replace hf := itp hf c18
                  refine jIload C dX9_across_168 5 rfl ?_
                  refine jGoto C 187 dX9_across_170 (by decide) ?_
                  cases hf
                  exact jEndI C hQ rfl dX9_across_187
              · replace hf := itp hf c17
                refine jAloadn C dX9_across_146 rfl 0 rfl ?_
                refine jIloadn C dX9_across_147 rfl 1 rfl ?_
                obtain ⟨q23, e24, hf⟩ := bd1_some hf
                refine jVI C (X9_many_ok  e24) vb_X9_many mk_RX9_97 rfl rcM ⟨Nat.le_of_ble_eq_true rfl, Nat.le_of_ble_eq_true rfl⟩ rfl (Nat.le_of_ble_eq_true rfl) dX9_across_148 ?_
                refine jAloadn C dX9_across_151 rfl 0 rfl ?_
                refine jIloadn C dX9_across_152 rfl 2 rfl ?_
                obtain ⟨q25, e26, hf⟩ := bd1_some hf
                refine jVI C (X9_many_ok  e26) vb_X9_many mk_RX9_97 rfl rcM ⟨Nat.le_of_ble_eq_true rfl, Nat.le_of_ble_eq_true rfl⟩ rfl (Nat.le_of_ble_eq_true rfl) dX9_across_153 ?_
                refine jImul C dX9_across_156 ?_
                refine jIload C dX9_across_157 4 rfl ?_
                refine jIsub C dX9_across_159 ?_
                refine jGoto C 187 dX9_across_160 (by decide) ?_
                cases hf
                exact jEndI C hQ rfl dX9_across_187
            · replace hf := itp hf c16
              refine jIload C dX9_across_136 4 rfl ?_
              refine jGoto C 187 dX9_across_138 (by decide) ?_
              cases hf
              exact jEndI C hQ rfl dX9_across_187
          · replace hf := itn hf c15
            refine jAloadn C dX9_across_48 rfl 0 rfl ?_
            refine jIloadn C dX9_across_49 rfl 1 rfl ?_
            refine jIload C dX9_across_50 6 rfl ?_
            obtain ⟨q27, e28, hf⟩ := bd1_some hf
            refine jVI C (X9_isIn_ok  e28) vb_X9_isIn mk_RX9_81 rfl rcM ⟨Nat.le_of_ble_eq_true rfl, Nat.le_of_ble_eq_true rfl⟩ rfl (Nat.le_of_ble_eq_true rfl) dX9_across_52 ?_
            refine jIfNe C 61 dX9_across_55 (by decide) (fun c29 => ?_) (fun c29 => ?_)
            · replace hf := itn hf c29
              refine jIload C dX9_across_61 5 rfl ?_
              refine jAloadn C dX9_across_63 rfl 0 rfl ?_
              refine jIloadn C dX9_across_64 rfl 2 rfl ?_
              refine jIload C dX9_across_65 6 rfl ?_
              obtain ⟨q30, e31, hf⟩ := bd1_some hf
              refine jVI C (X9_isIn_ok  e31) vb_X9_isIn mk_RX9_81 rfl rcM ⟨Nat.le_of_ble_eq_true rfl, Nat.le_of_ble_eq_true rfl⟩ rfl (Nat.le_of_ble_eq_true rfl) dX9_across_67 ?_
              have hL33 : ∀ (y32 : Int32), X9_across_j78 r14 x5_11 x6_12 mnow p2 x4_10 y32 = some rr → J p l e (rmk 3) s m args below meth c D A Q 8 (mw h cy mthr mfrp mact mtpd msiz matx mfrm mtok mval mfk mfpl mbem mtrs mtrl mrom mtom mnow mfre mkep mtap mlef mtak mbes mrow mint mrnd mplo mhio mtox mtol) 78 [(0, .ref (h 0)), (1, .int p1), (2, .int p2), (3, .int p3), (4, .int x4_10), (6, .int x6_12)] [.int y32, .int x5_11] := by
                intro y32 hf
                unfold X9_across_j78 at hf
                refine jIadd C dX9_across_78 ?_
                refine jIstore C dX9_across_79 (Nat.le_of_ble_eq_true rfl) [(5, .int (x5_11 + y32)), (0, .ref (h 0)), (1, .int p1), (2, .int p2), (3, .int p3), (4, .int x4_10), (6, .int x6_12)] rfl ?_
                refine jIconst C (0 : Int32) dX9_across_81 ki_0 ?_
                refine jIstore C dX9_across_82 (Nat.le_of_ble_eq_true rfl) [(7, .int (0 : Int32)), (5, .int (x5_11 + y32)), (0, .ref (h 0)), (1, .int p1), (2, .int p2), (3, .int p3), (4, .int x4_10), (6, .int x6_12)] rfl ?_
                have hL36 : ∀ (x4_34 : Int32) (x7_35 : Int32), lfp2 (X9_across_h84 r14 x5_11 y32 x6_12 mnow p2) x4_34 x7_35 = some rr → J p l e (rmk 3) s m args below meth c D A Q 8 (mw h cy mthr mfrp mact mtpd msiz matx mfrm mtok mval mfk mfpl mbem mtrs mtrl mrom mtom mnow mfre mkep mtap mlef mtak mbes mrow mint mrnd mplo mhio mtox mtol) 84 [(0, .ref (h 0)), (1, .int p1), (2, .int p2), (3, .int p3), (4, .int x4_34), (5, .int (x5_11 + y32)), (6, .int x6_12), (7, .int x7_35)] [] := by
                  intro x4_34 x7_35 hw
                  refine lfp2_walk (P := fun x4_34 x7_35 => J p l e (rmk 3) s m args below meth c D A Q 8 (mw h cy mthr mfrp mact mtpd msiz matx mfrm mtok mval mfk mfpl mbem mtrs mtrl mrom mtom mnow mfre mkep mtap mlef mtak mbes mrow mint mrnd mplo mhio mtox mtol) 84 [(0, .ref (h 0)), (1, .int p1), (2, .int p2), (3, .int p3), (4, .int x4_34), (5, .int (x5_11 + y32)), (6, .int x6_12), (7, .int x7_35)] []) ?_ hw
                  intro r37 ir37 x4_34 x7_35 hf
                  unfold X9_across_h84 at hf
                  refine jIload C dX9_across_84 7 rfl ?_
                  refine jSipush C (128 : Int32) dX9_across_86 ks_128 ?_
                  refine jCmpGe C 126 dX9_across_89 (by decide) (fun c38 => ?_) (fun c38 => ?_)
                  · replace hf := itp hf c38
                    refine jIinc C (x6_12 + (1 : Int32)) dX9_across_126 6 rfl (congrArg (fun z : Int32 => x6_12 + z) ki_1) (Nat.le_of_ble_eq_true rfl) [(6, .int (x6_12 + (1 : Int32))), (0, .ref (h 0)), (1, .int p1), (2, .int p2), (3, .int p3), (4, .int x4_34), (5, .int (x5_11 + y32)), (7, .int x7_35)] rfl ?_
                    refine jGoto C 40 dX9_across_129 (by decide) ?_
                    refine jSub [1, 2, 3, 4, 5, 6, 0] rfl ?_
                    exact ir14 x4_34 (x5_11 + y32) (x6_12 + (1 : Int32)) hf
                  · replace hf := itn hf c38
                    refine jIload C dX9_across_92 4 rfl ?_
                    refine jAloadn C dX9_across_94 rfl 0 rfl ?_
                    refine jIloadn C dX9_across_95 rfl 2 rfl ?_
                    refine jIload C dX9_across_96 7 rfl ?_
                    obtain ⟨q39, e40, hf⟩ := bd1_some hf
                    refine jVI C (X9_isIn_ok  e40) vb_X9_isIn mk_RX9_81 rfl rcM ⟨Nat.le_of_ble_eq_true rfl, Nat.le_of_ble_eq_true rfl⟩ rfl (Nat.le_of_ble_eq_true rfl) dX9_across_98 ?_
                    refine jIfEq C 116 dX9_across_101 (by decide) (fun c41 => ?_) (fun c41 => ?_)
                    · replace hf := itp hf c41
                      refine jIconst C (0 : Int32) dX9_across_116 ki_0 ?_
                      refine jIadd C dX9_across_117 ?_
                      refine jIstore C dX9_across_118 (Nat.le_of_ble_eq_true rfl) [(4, .int (x4_34 + (0 : Int32))), (0, .ref (h 0)), (1, .int p1), (2, .int p2), (3, .int p3), (5, .int (x5_11 + y32)), (6, .int x6_12), (7, .int x7_35)] rfl ?_
                      refine jIinc C (x7_35 + (1 : Int32)) dX9_across_120 7 rfl (congrArg (fun z : Int32 => x7_35 + z) ki_1) (Nat.le_of_ble_eq_true rfl) [(7, .int (x7_35 + (1 : Int32))), (4, .int (x4_34 + (0 : Int32))), (0, .ref (h 0)), (1, .int p1), (2, .int p2), (3, .int p3), (5, .int (x5_11 + y32)), (6, .int x6_12)] rfl ?_
                      refine jGoto C 84 dX9_across_123 (by decide) ?_
                      refine jSub [2, 3, 4, 5, 1, 6, 7, 0] rfl ?_
                      exact ir37 (x4_34 + (0 : Int32)) (x7_35 + (1 : Int32)) hf
                    · replace hf := itn hf c41
                      refine jIload C dX9_across_104 6 rfl ?_
                      refine jIload C dX9_across_106 7 rfl ?_
                      refine jIand C dX9_across_108 ?_
                      refine jIfEq C 116 dX9_across_109 (by decide) (fun c42 => ?_) (fun c42 => ?_)
                      · replace hf := itp hf c42
                        refine jIconst C (0 : Int32) dX9_across_116 ki_0 ?_
                        refine jIadd C dX9_across_117 ?_
                        refine jIstore C dX9_across_118 (Nat.le_of_ble_eq_true rfl) [(4, .int (x4_34 + (0 : Int32))), (0, .ref (h 0)), (1, .int p1), (2, .int p2), (3, .int p3), (5, .int (x5_11 + y32)), (6, .int x6_12), (7, .int x7_35)] rfl ?_
                        refine jIinc C (x7_35 + (1 : Int32)) dX9_across_120 7 rfl (congrArg (fun z : Int32 => x7_35 + z) ki_1) (Nat.le_of_ble_eq_true rfl) [(7, .int (x7_35 + (1 : Int32))), (4, .int (x4_34 + (0 : Int32))), (0, .ref (h 0)), (1, .int p1), (2, .int p2), (3, .int p3), (5, .int (x5_11 + y32)), (6, .int x6_12)] rfl ?_
                        refine jGoto C 84 dX9_across_123 (by decide) ?_
                        refine jSub [2, 3, 4, 5, 1, 6, 7, 0] rfl ?_
                        exact ir37 (x4_34 + (0 : Int32)) (x7_35 + (1 : Int32)) hf
                      · replace hf := itn hf c42
                        refine jIconst C (1 : Int32) dX9_across_112 ki_1 ?_
                        refine jGoto C 117 dX9_across_113 (by decide) ?_
                        refine jIadd C dX9_across_117 ?_
                        refine jIstore C dX9_across_118 (Nat.le_of_ble_eq_true rfl) [(4, .int (x4_34 + (1 : Int32))), (0, .ref (h 0)), (1, .int p1), (2, .int p2), (3, .int p3), (5, .int (x5_11 + y32)), (6, .int x6_12), (7, .int x7_35)] rfl ?_
                        refine jIinc C (x7_35 + (1 : Int32)) dX9_across_120 7 rfl (congrArg (fun z : Int32 => x7_35 + z) ki_1) (Nat.le_of_ble_eq_true rfl) [(7, .int (x7_35 + (1 : Int32))), (4, .int (x4_34 + (1 : Int32))), (0, .ref (h 0)), (1, .int p1), (2, .int p2), (3, .int p3), (5, .int (x5_11 + y32)), (6, .int x6_12)] rfl ?_
                        refine jGoto C 84 dX9_across_123 (by decide) ?_
                        refine jSub [2, 3, 4, 5, 1, 6, 7, 0] rfl ?_
                        exact ir37 (x4_34 + (1 : Int32)) (x7_35 + (1 : Int32)) hf
                refine jSub [2, 3, 4, 5, 6, 1, 7, 0] rfl ?_
                exact hL36 x4_10 (0 : Int32) hf
              refine jIfEq C 77 dX9_across_70 (by decide) (fun c43 => ?_) (fun c43 => ?_)
              · replace hf := itp hf c43
                refine jIconst C (0 : Int32) dX9_across_77 ki_0 ?_
                refine jSub [0, 1, 2, 3, 4, 6] rfl ?_
                exact hL33 (0 : Int32) hf
              · replace hf := itn hf c43
                refine jIconst C (1 : Int32) dX9_across_73 ki_1 ?_
                refine jGoto C 78 dX9_across_74 (by decide) ?_
                refine jSub [0, 1, 2, 3, 4, 6] rfl ?_
                exact hL33 (1 : Int32) hf
            · replace hf := itp hf c29
              refine jGoto C 126 dX9_across_58 (by decide) ?_
              refine jIinc C (x6_12 + (1 : Int32)) dX9_across_126 6 rfl (congrArg (fun z : Int32 => x6_12 + z) ki_1) (Nat.le_of_ble_eq_true rfl) [(6, .int (x6_12 + (1 : Int32))), (0, .ref (h 0)), (1, .int p1), (2, .int p2), (3, .int p3), (4, .int x4_10), (5, .int x5_11)] rfl ?_
              refine jGoto C 40 dX9_across_129 (by decide) ?_
              refine jSub [1, 2, 3, 4, 5, 6, 0] rfl ?_
              exact ir14 x4_10 x5_11 (x6_12 + (1 : Int32)) hf
        refine jSub [3, 4, 5, 6, 2, 1, 0] rfl ?_
        exact hL13 (0 : Int32) (0 : Int32) (0 : Int32) hf
      · replace hf := itp hf c9
        refine jBipush C (-2 : Int32) dX9_across_28 kb_m2 ?_
        cases hf
        exact jEndI C hQ rfl dX9_across_30
noncomputable def X9_answers_j106 (x5_20 : Int32) (r12 : Int32 → Int32 → Option Int32) (x3_9 : Int32) (x4_10 : Int32)  : Option Int32 := (if x5_20 = (0 : Int32) then r12 (x3_9 + (0 : Int32)) (x4_10 + (1 : Int32)) else r12 (x3_9 + (1 : Int32)) (x4_10 + (1 : Int32)))
noncomputable def X9_answers_h62 (r12 : Int32 → Int32 → Option Int32) (x3_9 : Int32) (x4_10 : Int32) (mnow : Nat → Int32) (p1 : Int32) (r23 : Int32 → Int32 → Option Int32) (x5_20 : Int32) (x6_21 : Int32) : Option Int32 := (if (128 : Int32) ≤ x6_21 then X9_answers_j106 x5_20 r12 x3_9 x4_10 else (if x5_20 = (0 : Int32) then X9_answers_j106 x5_20 r12 x3_9 x4_10 else bd1 (X9_isIn mnow p1 x6_21) (fun q28 => (if q28 = (0 : Int32) then r23 (1 : Int32) (x6_21 + (1 : Int32)) else (if (x6_21 &&& x4_10) = (0 : Int32) then r23 (0 : Int32) (x6_21 + (1 : Int32)) else r23 (1 : Int32) (x6_21 + (1 : Int32)))))))
noncomputable def X9_answers_j57 (r12 : Int32 → Int32 → Option Int32) (x3_9 : Int32) (x4_10 : Int32) (mnow : Nat → Int32) (p1 : Int32) (y18 : Int32) : Option Int32 := lfp2 (X9_answers_h62 r12 x3_9 x4_10 mnow p1) y18 (0 : Int32)
noncomputable def X9_answers_h31 (mnow : Nat → Int32) (p1 : Int32) (p2 : Int32) (r12 : Int32 → Int32 → Option Int32) (x3_9 : Int32) (x4_10 : Int32) : Option Int32 := bd1 (X9_points mnow p1) (fun q13 => (if ((1 : Int32) <<< (q13 &&& 31)) ≤ x4_10 then some x3_9 else bd1 (X9_bits x4_10) (fun q16 => (if q16 = p2 then X9_answers_j57 r12 x3_9 x4_10 mnow p1 (1 : Int32) else X9_answers_j57 r12 x3_9 x4_10 mnow p1 (0 : Int32)))))
noncomputable def X9_answers (mnow : Nat → Int32) (p1 : Int32) (p2 : Int32) : Option Int32 := bd1 (X9_hasOne mnow p1) (fun q1 => (if q1 = (0 : Int32) then some (-2 : Int32) else bd1 (X9_points mnow p1) (fun q4 => bd1 (X9_in (p2.toInt64) (0 : Int64) (q4.toInt64)) (fun q6 => (if q6 = (0 : Int32) then some (-2 : Int32) else lfp2 (X9_answers_h31 mnow p1 p2) (0 : Int32) (0 : Int32))))))
set_option maxHeartbeats 4000000 in
set_option maxRecDepth 20000 in
theorem X9_answers_ok {p1 : Int32} {p2 : Int32} {rr : Int32}  (hf : X9_answers mnow p1 p2 = some rr) : MT yX9_answers cX9_answers 7 (some .int) 3 [.ref (h 0), .int p1, .int p2] D cy G (mw h cy mthr mfrp mact mtpd msiz matx mfrm mtok mval mfk mfpl mbem mtrs mtrl mrom mtom mnow mfre mkep mtap mlef mtak mbes mrow mint mrnd mplo mhio mtox mtol) (mw h cy mthr mfrp mact mtpd msiz matx mfrm mtok mval mfk mfpl mbem mtrs mtrl mrom mtom mnow mfre mkep mtap mlef mtak mbes mrow mint mrnd mplo mhio mtox mtol) (some (.int rr)) := by
  refine MT.go (own := RX9) [(0, .ref (h 0)), (1, .int p1), (2, .int p2)] (by decide) rfl (Nat.le_of_ble_eq_true rfl) rfl (fun p l e s m args below meth c A Q C hQ => ?_)
  unfold X9_answers at hf
  refine jAloadn C dX9_answers_0 rfl 0 rfl ?_
  refine jIloadn C dX9_answers_1 rfl 1 rfl ?_
  obtain ⟨q1, e2, hf⟩ := bd1_some hf
  refine jVI C (X9_hasOne_ok  e2) vb_X9_hasOne mk_RX9_75 rfl rcM ⟨Nat.le_of_ble_eq_true rfl, Nat.le_of_ble_eq_true rfl⟩ rfl (Nat.le_of_ble_eq_true rfl) dX9_answers_2 ?_
  refine jIfEq C 23 dX9_answers_5 (by decide) (fun c3 => ?_) (fun c3 => ?_)
  · replace hf := itp hf c3
    refine jBipush C (-2 : Int32) dX9_answers_23 kb_m2 ?_
    cases hf
    exact jEndI C hQ rfl dX9_answers_25
  · replace hf := itn hf c3
    refine jIloadn C dX9_answers_8 rfl 2 rfl ?_
    refine jI2l C dX9_answers_9 ?_
    refine jLconst C (0 : Int64) dX9_answers_10 rfl ?_
    refine jAloadn C dX9_answers_11 rfl 0 rfl ?_
    refine jIloadn C dX9_answers_12 rfl 1 rfl ?_
    obtain ⟨q4, e5, hf⟩ := bd1_some hf
    refine jVI C (X9_points_ok  e5) vb_X9_points mk_RX9_78 rfl rcM ⟨Nat.le_of_ble_eq_true rfl, Nat.le_of_ble_eq_true rfl⟩ rfl (Nat.le_of_ble_eq_true rfl) dX9_answers_13 ?_
    refine jI2l C dX9_answers_16 ?_
    obtain ⟨q6, e7, hf⟩ := bd1_some hf
    refine jSI C (X9_in_ok  e7) sb_X9_in mk_RX9_63 rfl ⟨Nat.le_of_ble_eq_true rfl, Nat.le_of_ble_eq_true rfl⟩ rfl (Nat.le_of_ble_eq_true rfl) dX9_answers_17 ?_
    refine jIfNe C 26 dX9_answers_20 (by decide) (fun c8 => ?_) (fun c8 => ?_)
    · replace hf := itn hf c8
      refine jIconst C (0 : Int32) dX9_answers_26 ki_0 ?_
      refine jIstoren C dX9_answers_27 rfl (Nat.le_of_ble_eq_true rfl) [(3, .int (0 : Int32)), (0, .ref (h 0)), (1, .int p1), (2, .int p2)] rfl ?_
      refine jIconst C (0 : Int32) dX9_answers_28 ki_0 ?_
      refine jIstore C dX9_answers_29 (Nat.le_of_ble_eq_true rfl) [(4, .int (0 : Int32)), (3, .int (0 : Int32)), (0, .ref (h 0)), (1, .int p1), (2, .int p2)] rfl ?_
      have hL11 : ∀ (x3_9 : Int32) (x4_10 : Int32), lfp2 (X9_answers_h31 mnow p1 p2) x3_9 x4_10 = some rr → J p l e (rmk 3) s m args below meth c D A Q 7 (mw h cy mthr mfrp mact mtpd msiz matx mfrm mtok mval mfk mfpl mbem mtrs mtrl mrom mtom mnow mfre mkep mtap mlef mtak mbes mrow mint mrnd mplo mhio mtox mtol) 31 [(0, .ref (h 0)), (1, .int p1), (2, .int p2), (3, .int x3_9), (4, .int x4_10)] [] := by
        intro x3_9 x4_10 hw
        refine lfp2_walk (P := fun x3_9 x4_10 => J p l e (rmk 3) s m args below meth c D A Q 7 (mw h cy mthr mfrp mact mtpd msiz matx mfrm mtok mval mfk mfpl mbem mtrs mtrl mrom mtom mnow mfre mkep mtap mlef mtak mbes mrow mint mrnd mplo mhio mtox mtol) 31 [(0, .ref (h 0)), (1, .int p1), (2, .int p2), (3, .int x3_9), (4, .int x4_10)] []) ?_ hw
        intro r12 ir12 x3_9 x4_10 hf
        unfold X9_answers_h31 at hf
        refine jIload C dX9_answers_31 4 rfl ?_
        refine jIconst C (1 : Int32) dX9_answers_33 ki_1 ?_
        refine jAloadn C dX9_answers_34 rfl 0 rfl ?_
        refine jIloadn C dX9_answers_35 rfl 1 rfl ?_
        obtain ⟨q13, e14, hf⟩ := bd1_some hf
        refine jVI C (X9_points_ok  e14) vb_X9_points mk_RX9_78 rfl rcM ⟨Nat.le_of_ble_eq_true rfl, Nat.le_of_ble_eq_true rfl⟩ rfl (Nat.le_of_ble_eq_true rfl) dX9_answers_36 ?_
        refine jIshl C dX9_answers_39 ?_
        refine jCmpGe C 125 dX9_answers_40 (by decide) (fun c15 => ?_) (fun c15 => ?_)
        · replace hf := itp hf c15
          refine jIloadn C dX9_answers_125 rfl 3 rfl ?_
          cases hf
          exact jEndI C hQ rfl dX9_answers_126
        · replace hf := itn hf c15
          refine jIload C dX9_answers_43 4 rfl ?_
          obtain ⟨q16, e17, hf⟩ := bd1_some hf
          refine jSI C (X9_bits_ok  e17) sb_X9_bits mk_RX9_198 rfl ⟨Nat.le_of_ble_eq_true rfl, Nat.le_of_ble_eq_true rfl⟩ rfl (Nat.le_of_ble_eq_true rfl) dX9_answers_45 ?_
          refine jIloadn C dX9_answers_48 rfl 2 rfl ?_
          have hL19 : ∀ (y18 : Int32), X9_answers_j57 r12 x3_9 x4_10 mnow p1 y18 = some rr → J p l e (rmk 3) s m args below meth c D A Q 7 (mw h cy mthr mfrp mact mtpd msiz matx mfrm mtok mval mfk mfpl mbem mtrs mtrl mrom mtom mnow mfre mkep mtap mlef mtak mbes mrow mint mrnd mplo mhio mtox mtol) 57 [(0, .ref (h 0)), (1, .int p1), (2, .int p2), (3, .int x3_9), (4, .int x4_10)] [.int y18] := by
            intro y18 hf
            unfold X9_answers_j57 at hf
            refine jIstore C dX9_answers_57 (Nat.le_of_ble_eq_true rfl) [(5, .int y18), (0, .ref (h 0)), (1, .int p1), (2, .int p2), (3, .int x3_9), (4, .int x4_10)] rfl ?_
            refine jIconst C (0 : Int32) dX9_answers_59 ki_0 ?_
            refine jIstore C dX9_answers_60 (Nat.le_of_ble_eq_true rfl) [(6, .int (0 : Int32)), (5, .int y18), (0, .ref (h 0)), (1, .int p1), (2, .int p2), (3, .int x3_9), (4, .int x4_10)] rfl ?_
            have hL22 : ∀ (x5_20 : Int32) (x6_21 : Int32), lfp2 (X9_answers_h62 r12 x3_9 x4_10 mnow p1) x5_20 x6_21 = some rr → J p l e (rmk 3) s m args below meth c D A Q 7 (mw h cy mthr mfrp mact mtpd msiz matx mfrm mtok mval mfk mfpl mbem mtrs mtrl mrom mtom mnow mfre mkep mtap mlef mtak mbes mrow mint mrnd mplo mhio mtox mtol) 62 [(0, .ref (h 0)), (1, .int p1), (2, .int p2), (3, .int x3_9), (4, .int x4_10), (5, .int x5_20), (6, .int x6_21)] [] := by
              intro x5_20 x6_21 hw
              refine lfp2_walk (P := fun x5_20 x6_21 => J p l e (rmk 3) s m args below meth c D A Q 7 (mw h cy mthr mfrp mact mtpd msiz matx mfrm mtok mval mfk mfpl mbem mtrs mtrl mrom mtom mnow mfre mkep mtap mlef mtak mbes mrow mint mrnd mplo mhio mtox mtol) 62 [(0, .ref (h 0)), (1, .int p1), (2, .int p2), (3, .int x3_9), (4, .int x4_10), (5, .int x5_20), (6, .int x6_21)] []) ?_ hw
              intro r23 ir23 x5_20 x6_21 hf
              unfold X9_answers_h62 at hf
              refine jIload C dX9_answers_62 6 rfl ?_
              refine jSipush C (128 : Int32) dX9_answers_64 ks_128 ?_
              have hL24 : X9_answers_j106 x5_20 r12 x3_9 x4_10  = some rr → J p l e (rmk 3) s m args below meth c D A Q 7 (mw h cy mthr mfrp mact mtpd msiz matx mfrm mtok mval mfk mfpl mbem mtrs mtrl mrom mtom mnow mfre mkep mtap mlef mtak mbes mrow mint mrnd mplo mhio mtox mtol) 106 [(0, .ref (h 0)), (1, .int p1), (2, .int p2), (3, .int x3_9), (4, .int x4_10), (5, .int x5_20)] [] := by
                intro  hf
                unfold X9_answers_j106 at hf
                refine jIloadn C dX9_answers_106 rfl 3 rfl ?_
                refine jIload C dX9_answers_107 5 rfl ?_
                refine jIfEq C 116 dX9_answers_109 (by decide) (fun c25 => ?_) (fun c25 => ?_)
                · replace hf := itp hf c25
                  refine jIconst C (0 : Int32) dX9_answers_116 ki_0 ?_
                  refine jIadd C dX9_answers_117 ?_
                  refine jIstoren C dX9_answers_118 rfl (Nat.le_of_ble_eq_true rfl) [(3, .int (x3_9 + (0 : Int32))), (0, .ref (h 0)), (1, .int p1), (2, .int p2), (4, .int x4_10), (5, .int x5_20)] rfl ?_
                  refine jIinc C (x4_10 + (1 : Int32)) dX9_answers_119 4 rfl (congrArg (fun z : Int32 => x4_10 + z) ki_1) (Nat.le_of_ble_eq_true rfl) [(4, .int (x4_10 + (1 : Int32))), (3, .int (x3_9 + (0 : Int32))), (0, .ref (h 0)), (1, .int p1), (2, .int p2), (5, .int x5_20)] rfl ?_
                  refine jGoto C 31 dX9_answers_122 (by decide) ?_
                  refine jSub [2, 3, 4, 1, 0] rfl ?_
                  exact ir12 (x3_9 + (0 : Int32)) (x4_10 + (1 : Int32)) hf
                · replace hf := itn hf c25
                  refine jIconst C (1 : Int32) dX9_answers_112 ki_1 ?_
                  refine jGoto C 117 dX9_answers_113 (by decide) ?_
                  refine jIadd C dX9_answers_117 ?_
                  refine jIstoren C dX9_answers_118 rfl (Nat.le_of_ble_eq_true rfl) [(3, .int (x3_9 + (1 : Int32))), (0, .ref (h 0)), (1, .int p1), (2, .int p2), (4, .int x4_10), (5, .int x5_20)] rfl ?_
                  refine jIinc C (x4_10 + (1 : Int32)) dX9_answers_119 4 rfl (congrArg (fun z : Int32 => x4_10 + z) ki_1) (Nat.le_of_ble_eq_true rfl) [(4, .int (x4_10 + (1 : Int32))), (3, .int (x3_9 + (1 : Int32))), (0, .ref (h 0)), (1, .int p1), (2, .int p2), (5, .int x5_20)] rfl ?_
                  refine jGoto C 31 dX9_answers_122 (by decide) ?_
                  refine jSub [2, 3, 4, 1, 0] rfl ?_
                  exact ir12 (x3_9 + (1 : Int32)) (x4_10 + (1 : Int32)) hf
              refine jCmpGe C 106 dX9_answers_67 (by decide) (fun c26 => ?_) (fun c26 => ?_)
              · replace hf := itp hf c26
                refine jSub [0, 1, 2, 3, 4, 5] rfl ?_
                exact hL24  hf
              · replace hf := itn hf c26
                refine jIload C dX9_answers_70 5 rfl ?_
                refine jIfEq C 106 dX9_answers_72 (by decide) (fun c27 => ?_) (fun c27 => ?_)
                · replace hf := itp hf c27
                  refine jSub [0, 1, 2, 3, 4, 5] rfl ?_
                  exact hL24  hf
                · replace hf := itn hf c27
                  refine jAloadn C dX9_answers_75 rfl 0 rfl ?_
                  refine jIloadn C dX9_answers_76 rfl 1 rfl ?_
                  refine jIload C dX9_answers_77 6 rfl ?_
                  obtain ⟨q28, e29, hf⟩ := bd1_some hf
                  refine jVI C (X9_isIn_ok  e29) vb_X9_isIn mk_RX9_81 rfl rcM ⟨Nat.le_of_ble_eq_true rfl, Nat.le_of_ble_eq_true rfl⟩ rfl (Nat.le_of_ble_eq_true rfl) dX9_answers_79 ?_
                  refine jIfEq C 93 dX9_answers_82 (by decide) (fun c30 => ?_) (fun c30 => ?_)
                  · replace hf := itp hf c30
                    refine jIconst C (1 : Int32) dX9_answers_93 ki_1 ?_
                    refine jGoto C 98 dX9_answers_94 (by decide) ?_
                    refine jIstore C dX9_answers_98 (Nat.le_of_ble_eq_true rfl) [(5, .int (1 : Int32)), (0, .ref (h 0)), (1, .int p1), (2, .int p2), (3, .int x3_9), (4, .int x4_10), (6, .int x6_21)] rfl ?_
                    refine jIinc C (x6_21 + (1 : Int32)) dX9_answers_100 6 rfl (congrArg (fun z : Int32 => x6_21 + z) ki_1) (Nat.le_of_ble_eq_true rfl) [(6, .int (x6_21 + (1 : Int32))), (5, .int (1 : Int32)), (0, .ref (h 0)), (1, .int p1), (2, .int p2), (3, .int x3_9), (4, .int x4_10)] rfl ?_
                    refine jGoto C 62 dX9_answers_103 (by decide) ?_
                    refine jSub [2, 3, 4, 5, 6, 1, 0] rfl ?_
                    exact ir23 (1 : Int32) (x6_21 + (1 : Int32)) hf
                  · replace hf := itn hf c30
                    refine jIload C dX9_answers_85 6 rfl ?_
                    refine jIload C dX9_answers_87 4 rfl ?_
                    refine jIand C dX9_answers_89 ?_
                    refine jIfEq C 97 dX9_answers_90 (by decide) (fun c31 => ?_) (fun c31 => ?_)
                    · replace hf := itp hf c31
                      refine jIconst C (0 : Int32) dX9_answers_97 ki_0 ?_
                      refine jIstore C dX9_answers_98 (Nat.le_of_ble_eq_true rfl) [(5, .int (0 : Int32)), (0, .ref (h 0)), (1, .int p1), (2, .int p2), (3, .int x3_9), (4, .int x4_10), (6, .int x6_21)] rfl ?_
                      refine jIinc C (x6_21 + (1 : Int32)) dX9_answers_100 6 rfl (congrArg (fun z : Int32 => x6_21 + z) ki_1) (Nat.le_of_ble_eq_true rfl) [(6, .int (x6_21 + (1 : Int32))), (5, .int (0 : Int32)), (0, .ref (h 0)), (1, .int p1), (2, .int p2), (3, .int x3_9), (4, .int x4_10)] rfl ?_
                      refine jGoto C 62 dX9_answers_103 (by decide) ?_
                      refine jSub [2, 3, 4, 5, 6, 1, 0] rfl ?_
                      exact ir23 (0 : Int32) (x6_21 + (1 : Int32)) hf
                    · replace hf := itn hf c31
                      refine jIconst C (1 : Int32) dX9_answers_93 ki_1 ?_
                      refine jGoto C 98 dX9_answers_94 (by decide) ?_
                      refine jIstore C dX9_answers_98 (Nat.le_of_ble_eq_true rfl) [(5, .int (1 : Int32)), (0, .ref (h 0)), (1, .int p1), (2, .int p2), (3, .int x3_9), (4, .int x4_10), (6, .int x6_21)] rfl ?_
                      refine jIinc C (x6_21 + (1 : Int32)) dX9_answers_100 6 rfl (congrArg (fun z : Int32 => x6_21 + z) ki_1) (Nat.le_of_ble_eq_true rfl) [(6, .int (x6_21 + (1 : Int32))), (5, .int (1 : Int32)), (0, .ref (h 0)), (1, .int p1), (2, .int p2), (3, .int x3_9), (4, .int x4_10)] rfl ?_
                      refine jGoto C 62 dX9_answers_103 (by decide) ?_
                      refine jSub [2, 3, 4, 5, 6, 1, 0] rfl ?_
                      exact ir23 (1 : Int32) (x6_21 + (1 : Int32)) hf
            refine jSub [2, 3, 4, 5, 6, 1, 0] rfl ?_
            exact hL22 y18 (0 : Int32) hf
          refine jCmpNe C 56 dX9_answers_49 (by decide) (fun c32 => ?_) (fun c32 => ?_)
          · replace hf := itn hf c32
            refine jIconst C (0 : Int32) dX9_answers_56 ki_0 ?_
            exact hL19 (0 : Int32) hf
          · replace hf := itp hf c32
            refine jIconst C (1 : Int32) dX9_answers_52 ki_1 ?_
            refine jGoto C 57 dX9_answers_53 (by decide) ?_
            exact hL19 (1 : Int32) hf
      refine jSub [2, 3, 4, 1, 0] rfl ?_
      exact hL11 (0 : Int32) (0 : Int32) hf
    · replace hf := itp hf c8
      refine jBipush C (-2 : Int32) dX9_answers_23 kb_m2 ?_
      cases hf
      exact jEndI C hQ rfl dX9_answers_25
noncomputable def X9_common_h33 (mnow : Nat → Int32) (p1 : Int32) (p2 : Int32) (p3 : Int32) (r12 : Int32 → Int32 → Option Int32) (x4_9 : Int32) (x5_10 : Int32) : Option Int32 := (if (128 : Int32) ≤ x5_10 then some x4_9 else bd1 (X9_isIn mnow p1 x5_10) (fun q14 => (if q14 = (0 : Int32) then r12 (x4_9 + (0 : Int32)) (x5_10 + (1 : Int32)) else bd1 (X9_bits (x5_10 &&& p2)) (fun q17 => (if q17 = p3 then r12 (x4_9 + (1 : Int32)) (x5_10 + (1 : Int32)) else r12 (x4_9 + (0 : Int32)) (x5_10 + (1 : Int32)))))))
noncomputable def X9_common (mnow : Nat → Int32) (p1 : Int32) (p2 : Int32) (p3 : Int32) : Option Int32 := bd1 (X9_isSet mnow p1 p2) (fun q1 => (if q1 = (0 : Int32) then some (-2 : Int32) else bd1 (X9_points mnow p1) (fun q4 => bd1 (X9_in (p3.toInt64) (0 : Int64) (q4.toInt64)) (fun q6 => (if q6 = (0 : Int32) then some (-2 : Int32) else lfp2 (X9_common_h33 mnow p1 p2 p3) (0 : Int32) (0 : Int32))))))
set_option maxHeartbeats 4000000 in
set_option maxRecDepth 20000 in
theorem X9_common_ok {p1 : Int32} {p2 : Int32} {p3 : Int32} {rr : Int32}  (hf : X9_common mnow p1 p2 p3 = some rr) : MT yX9_common cX9_common 6 (some .int) 4 [.ref (h 0), .int p1, .int p2, .int p3] D cy G (mw h cy mthr mfrp mact mtpd msiz matx mfrm mtok mval mfk mfpl mbem mtrs mtrl mrom mtom mnow mfre mkep mtap mlef mtak mbes mrow mint mrnd mplo mhio mtox mtol) (mw h cy mthr mfrp mact mtpd msiz matx mfrm mtok mval mfk mfpl mbem mtrs mtrl mrom mtom mnow mfre mkep mtap mlef mtak mbes mrow mint mrnd mplo mhio mtox mtol) (some (.int rr)) := by
  refine MT.go (own := RX9) [(0, .ref (h 0)), (1, .int p1), (2, .int p2), (3, .int p3)] (by decide) rfl (Nat.le_of_ble_eq_true rfl) rfl (fun p l e s m args below meth c A Q C hQ => ?_)
  unfold X9_common at hf
  refine jAloadn C dX9_common_0 rfl 0 rfl ?_
  refine jIloadn C dX9_common_1 rfl 1 rfl ?_
  refine jIloadn C dX9_common_2 rfl 2 rfl ?_
  obtain ⟨q1, e2, hf⟩ := bd1_some hf
  refine jVI C (X9_isSet_ok  e2) vb_X9_isSet mk_RX9_210 rfl rcM ⟨Nat.le_of_ble_eq_true rfl, Nat.le_of_ble_eq_true rfl⟩ rfl (Nat.le_of_ble_eq_true rfl) dX9_common_3 ?_
  refine jIfEq C 24 dX9_common_6 (by decide) (fun c3 => ?_) (fun c3 => ?_)
  · replace hf := itp hf c3
    refine jBipush C (-2 : Int32) dX9_common_24 kb_m2 ?_
    cases hf
    exact jEndI C hQ rfl dX9_common_26
  · replace hf := itn hf c3
    refine jIloadn C dX9_common_9 rfl 3 rfl ?_
    refine jI2l C dX9_common_10 ?_
    refine jLconst C (0 : Int64) dX9_common_11 rfl ?_
    refine jAloadn C dX9_common_12 rfl 0 rfl ?_
    refine jIloadn C dX9_common_13 rfl 1 rfl ?_
    obtain ⟨q4, e5, hf⟩ := bd1_some hf
    refine jVI C (X9_points_ok  e5) vb_X9_points mk_RX9_78 rfl rcM ⟨Nat.le_of_ble_eq_true rfl, Nat.le_of_ble_eq_true rfl⟩ rfl (Nat.le_of_ble_eq_true rfl) dX9_common_14 ?_
    refine jI2l C dX9_common_17 ?_
    obtain ⟨q6, e7, hf⟩ := bd1_some hf
    refine jSI C (X9_in_ok  e7) sb_X9_in mk_RX9_63 rfl ⟨Nat.le_of_ble_eq_true rfl, Nat.le_of_ble_eq_true rfl⟩ rfl (Nat.le_of_ble_eq_true rfl) dX9_common_18 ?_
    refine jIfNe C 27 dX9_common_21 (by decide) (fun c8 => ?_) (fun c8 => ?_)
    · replace hf := itn hf c8
      refine jIconst C (0 : Int32) dX9_common_27 ki_0 ?_
      refine jIstore C dX9_common_28 (Nat.le_of_ble_eq_true rfl) [(4, .int (0 : Int32)), (0, .ref (h 0)), (1, .int p1), (2, .int p2), (3, .int p3)] rfl ?_
      refine jIconst C (0 : Int32) dX9_common_30 ki_0 ?_
      refine jIstore C dX9_common_31 (Nat.le_of_ble_eq_true rfl) [(5, .int (0 : Int32)), (4, .int (0 : Int32)), (0, .ref (h 0)), (1, .int p1), (2, .int p2), (3, .int p3)] rfl ?_
      have hL11 : ∀ (x4_9 : Int32) (x5_10 : Int32), lfp2 (X9_common_h33 mnow p1 p2 p3) x4_9 x5_10 = some rr → J p l e (rmk 4) s m args below meth c D A Q 6 (mw h cy mthr mfrp mact mtpd msiz matx mfrm mtok mval mfk mfpl mbem mtrs mtrl mrom mtom mnow mfre mkep mtap mlef mtak mbes mrow mint mrnd mplo mhio mtox mtol) 33 [(0, .ref (h 0)), (1, .int p1), (2, .int p2), (3, .int p3), (4, .int x4_9), (5, .int x5_10)] [] := by
        intro x4_9 x5_10 hw
        refine lfp2_walk (P := fun x4_9 x5_10 => J p l e (rmk 4) s m args below meth c D A Q 6 (mw h cy mthr mfrp mact mtpd msiz matx mfrm mtok mval mfk mfpl mbem mtrs mtrl mrom mtom mnow mfre mkep mtap mlef mtak mbes mrow mint mrnd mplo mhio mtox mtol) 33 [(0, .ref (h 0)), (1, .int p1), (2, .int p2), (3, .int p3), (4, .int x4_9), (5, .int x5_10)] []) ?_ hw
        intro r12 ir12 x4_9 x5_10 hf
        unfold X9_common_h33 at hf
        refine jIload C dX9_common_33 5 rfl ?_
        refine jSipush C (128 : Int32) dX9_common_35 ks_128 ?_
        refine jCmpGe C 78 dX9_common_38 (by decide) (fun c13 => ?_) (fun c13 => ?_)
        · replace hf := itp hf c13
          refine jIload C dX9_common_78 4 rfl ?_
          cases hf
          exact jEndI C hQ rfl dX9_common_80
        · replace hf := itn hf c13
          refine jIload C dX9_common_41 4 rfl ?_
          refine jAloadn C dX9_common_43 rfl 0 rfl ?_
          refine jIloadn C dX9_common_44 rfl 1 rfl ?_
          refine jIload C dX9_common_45 5 rfl ?_
          obtain ⟨q14, e15, hf⟩ := bd1_some hf
          refine jVI C (X9_isIn_ok  e15) vb_X9_isIn mk_RX9_81 rfl rcM ⟨Nat.le_of_ble_eq_true rfl, Nat.le_of_ble_eq_true rfl⟩ rfl (Nat.le_of_ble_eq_true rfl) dX9_common_47 ?_
          refine jIfEq C 68 dX9_common_50 (by decide) (fun c16 => ?_) (fun c16 => ?_)
          · replace hf := itp hf c16
            refine jIconst C (0 : Int32) dX9_common_68 ki_0 ?_
            refine jIadd C dX9_common_69 ?_
            refine jIstore C dX9_common_70 (Nat.le_of_ble_eq_true rfl) [(4, .int (x4_9 + (0 : Int32))), (0, .ref (h 0)), (1, .int p1), (2, .int p2), (3, .int p3), (5, .int x5_10)] rfl ?_
            refine jIinc C (x5_10 + (1 : Int32)) dX9_common_72 5 rfl (congrArg (fun z : Int32 => x5_10 + z) ki_1) (Nat.le_of_ble_eq_true rfl) [(5, .int (x5_10 + (1 : Int32))), (4, .int (x4_9 + (0 : Int32))), (0, .ref (h 0)), (1, .int p1), (2, .int p2), (3, .int p3)] rfl ?_
            refine jGoto C 33 dX9_common_75 (by decide) ?_
            refine jSub [2, 3, 4, 5, 1, 0] rfl ?_
            exact ir12 (x4_9 + (0 : Int32)) (x5_10 + (1 : Int32)) hf
          · replace hf := itn hf c16
            refine jIload C dX9_common_53 5 rfl ?_
            refine jIloadn C dX9_common_55 rfl 2 rfl ?_
            refine jIand C dX9_common_56 ?_
            obtain ⟨q17, e18, hf⟩ := bd1_some hf
            refine jSI C (X9_bits_ok  e18) sb_X9_bits mk_RX9_198 rfl ⟨Nat.le_of_ble_eq_true rfl, Nat.le_of_ble_eq_true rfl⟩ rfl (Nat.le_of_ble_eq_true rfl) dX9_common_57 ?_
            refine jIloadn C dX9_common_60 rfl 3 rfl ?_
            refine jCmpNe C 68 dX9_common_61 (by decide) (fun c19 => ?_) (fun c19 => ?_)
            · replace hf := itn hf c19
              refine jIconst C (0 : Int32) dX9_common_68 ki_0 ?_
              refine jIadd C dX9_common_69 ?_
              refine jIstore C dX9_common_70 (Nat.le_of_ble_eq_true rfl) [(4, .int (x4_9 + (0 : Int32))), (0, .ref (h 0)), (1, .int p1), (2, .int p2), (3, .int p3), (5, .int x5_10)] rfl ?_
              refine jIinc C (x5_10 + (1 : Int32)) dX9_common_72 5 rfl (congrArg (fun z : Int32 => x5_10 + z) ki_1) (Nat.le_of_ble_eq_true rfl) [(5, .int (x5_10 + (1 : Int32))), (4, .int (x4_9 + (0 : Int32))), (0, .ref (h 0)), (1, .int p1), (2, .int p2), (3, .int p3)] rfl ?_
              refine jGoto C 33 dX9_common_75 (by decide) ?_
              refine jSub [2, 3, 4, 5, 1, 0] rfl ?_
              exact ir12 (x4_9 + (0 : Int32)) (x5_10 + (1 : Int32)) hf
            · replace hf := itp hf c19
              refine jIconst C (1 : Int32) dX9_common_64 ki_1 ?_
              refine jGoto C 69 dX9_common_65 (by decide) ?_
              refine jIadd C dX9_common_69 ?_
              refine jIstore C dX9_common_70 (Nat.le_of_ble_eq_true rfl) [(4, .int (x4_9 + (1 : Int32))), (0, .ref (h 0)), (1, .int p1), (2, .int p2), (3, .int p3), (5, .int x5_10)] rfl ?_
              refine jIinc C (x5_10 + (1 : Int32)) dX9_common_72 5 rfl (congrArg (fun z : Int32 => x5_10 + z) ki_1) (Nat.le_of_ble_eq_true rfl) [(5, .int (x5_10 + (1 : Int32))), (4, .int (x4_9 + (1 : Int32))), (0, .ref (h 0)), (1, .int p1), (2, .int p2), (3, .int p3)] rfl ?_
              refine jGoto C 33 dX9_common_75 (by decide) ?_
              refine jSub [2, 3, 4, 5, 1, 0] rfl ?_
              exact ir12 (x4_9 + (1 : Int32)) (x5_10 + (1 : Int32)) hf
      refine jSub [2, 3, 4, 5, 1, 0] rfl ?_
      exact hL11 (0 : Int32) (0 : Int32) hf
    · replace hf := itp hf c8
      refine jBipush C (-2 : Int32) dX9_common_24 kb_m2 ?_
      cases hf
      exact jEndI C hQ rfl dX9_common_26
noncomputable def X9_lacks_h20 (mnow : Nat → Int32) (p1 : Int32) (p2 : Int32) (r8 : Int32 → Int32 → Option Int32) (x3_5 : Int32) (x4_6 : Int32) : Option Int32 := bd1 (X9_points mnow p1) (fun q9 => (if ((1 : Int32) <<< (q9 &&& 31)) ≤ x4_6 then some (-1 : Int32) else bd1 (X9_isIn mnow p1 x4_6) (fun q12 => (if q12 = (0 : Int32) then (if x3_5 = p2 then some x4_6 else r8 (x3_5 + (1 : Int32)) (x4_6 + (1 : Int32))) else r8 x3_5 (x4_6 + (1 : Int32))))))
noncomputable def X9_lacks (mnow : Nat → Int32) (p1 : Int32) (p2 : Int32) : Option Int32 := bd1 (X9_hasOne mnow p1) (fun q1 => (if q1 = (0 : Int32) then some (-2 : Int32) else (if (0 : Int32) ≤ p2 then lfp2 (X9_lacks_h20 mnow p1 p2) (0 : Int32) (0 : Int32) else some (-2 : Int32))))
set_option maxHeartbeats 4000000 in
set_option maxRecDepth 20000 in
theorem X9_lacks_ok {p1 : Int32} {p2 : Int32} {rr : Int32}  (hf : X9_lacks mnow p1 p2 = some rr) : MT yX9_lacks cX9_lacks 5 (some .int) 3 [.ref (h 0), .int p1, .int p2] D cy G (mw h cy mthr mfrp mact mtpd msiz matx mfrm mtok mval mfk mfpl mbem mtrs mtrl mrom mtom mnow mfre mkep mtap mlef mtak mbes mrow mint mrnd mplo mhio mtox mtol) (mw h cy mthr mfrp mact mtpd msiz matx mfrm mtok mval mfk mfpl mbem mtrs mtrl mrom mtom mnow mfre mkep mtap mlef mtak mbes mrow mint mrnd mplo mhio mtox mtol) (some (.int rr)) := by
  refine MT.go (own := RX9) [(0, .ref (h 0)), (1, .int p1), (2, .int p2)] (by decide) rfl (Nat.le_of_ble_eq_true rfl) rfl (fun p l e s m args below meth c A Q C hQ => ?_)
  unfold X9_lacks at hf
  refine jAloadn C dX9_lacks_0 rfl 0 rfl ?_
  refine jIloadn C dX9_lacks_1 rfl 1 rfl ?_
  obtain ⟨q1, e2, hf⟩ := bd1_some hf
  refine jVI C (X9_hasOne_ok  e2) vb_X9_hasOne mk_RX9_75 rfl rcM ⟨Nat.le_of_ble_eq_true rfl, Nat.le_of_ble_eq_true rfl⟩ rfl (Nat.le_of_ble_eq_true rfl) dX9_lacks_2 ?_
  refine jIfEq C 12 dX9_lacks_5 (by decide) (fun c3 => ?_) (fun c3 => ?_)
  · replace hf := itp hf c3
    refine jBipush C (-2 : Int32) dX9_lacks_12 kb_m2 ?_
    cases hf
    exact jEndI C hQ rfl dX9_lacks_14
  · replace hf := itn hf c3
    refine jIloadn C dX9_lacks_8 rfl 2 rfl ?_
    refine jIfGe C 15 dX9_lacks_9 (by decide) (fun c4 => ?_) (fun c4 => ?_)
    · replace hf := itp hf c4
      refine jIconst C (0 : Int32) dX9_lacks_15 ki_0 ?_
      refine jIstoren C dX9_lacks_16 rfl (Nat.le_of_ble_eq_true rfl) [(3, .int (0 : Int32)), (0, .ref (h 0)), (1, .int p1), (2, .int p2)] rfl ?_
      refine jIconst C (0 : Int32) dX9_lacks_17 ki_0 ?_
      refine jIstore C dX9_lacks_18 (Nat.le_of_ble_eq_true rfl) [(4, .int (0 : Int32)), (3, .int (0 : Int32)), (0, .ref (h 0)), (1, .int p1), (2, .int p2)] rfl ?_
      have hL7 : ∀ (x3_5 : Int32) (x4_6 : Int32), lfp2 (X9_lacks_h20 mnow p1 p2) x3_5 x4_6 = some rr → J p l e (rmk 3) s m args below meth c D A Q 5 (mw h cy mthr mfrp mact mtpd msiz matx mfrm mtok mval mfk mfpl mbem mtrs mtrl mrom mtom mnow mfre mkep mtap mlef mtak mbes mrow mint mrnd mplo mhio mtox mtol) 20 [(0, .ref (h 0)), (1, .int p1), (2, .int p2), (3, .int x3_5), (4, .int x4_6)] [] := by
        intro x3_5 x4_6 hw
        refine lfp2_walk (P := fun x3_5 x4_6 => J p l e (rmk 3) s m args below meth c D A Q 5 (mw h cy mthr mfrp mact mtpd msiz matx mfrm mtok mval mfk mfpl mbem mtrs mtrl mrom mtom mnow mfre mkep mtap mlef mtak mbes mrow mint mrnd mplo mhio mtox mtol) 20 [(0, .ref (h 0)), (1, .int p1), (2, .int p2), (3, .int x3_5), (4, .int x4_6)] []) ?_ hw
        intro r8 ir8 x3_5 x4_6 hf
        unfold X9_lacks_h20 at hf
        refine jIload C dX9_lacks_20 4 rfl ?_
        refine jIconst C (1 : Int32) dX9_lacks_22 ki_1 ?_
        refine jAloadn C dX9_lacks_23 rfl 0 rfl ?_
        refine jIloadn C dX9_lacks_24 rfl 1 rfl ?_
        obtain ⟨q9, e10, hf⟩ := bd1_some hf
        refine jVI C (X9_points_ok  e10) vb_X9_points mk_RX9_78 rfl rcM ⟨Nat.le_of_ble_eq_true rfl, Nat.le_of_ble_eq_true rfl⟩ rfl (Nat.le_of_ble_eq_true rfl) dX9_lacks_25 ?_
        refine jIshl C dX9_lacks_28 ?_
        refine jCmpGe C 62 dX9_lacks_29 (by decide) (fun c11 => ?_) (fun c11 => ?_)
        · replace hf := itp hf c11
          refine jIconst C (-1 : Int32) dX9_lacks_62 ki_m1 ?_
          cases hf
          exact jEndI C hQ rfl dX9_lacks_63
        · replace hf := itn hf c11
          refine jAloadn C dX9_lacks_32 rfl 0 rfl ?_
          refine jIloadn C dX9_lacks_33 rfl 1 rfl ?_
          refine jIload C dX9_lacks_34 4 rfl ?_
          obtain ⟨q12, e13, hf⟩ := bd1_some hf
          refine jVI C (X9_isIn_ok  e13) vb_X9_isIn mk_RX9_81 rfl rcM ⟨Nat.le_of_ble_eq_true rfl, Nat.le_of_ble_eq_true rfl⟩ rfl (Nat.le_of_ble_eq_true rfl) dX9_lacks_36 ?_
          refine jIfEq C 45 dX9_lacks_39 (by decide) (fun c14 => ?_) (fun c14 => ?_)
          · replace hf := itp hf c14
            refine jIloadn C dX9_lacks_45 rfl 3 rfl ?_
            refine jIloadn C dX9_lacks_46 rfl 2 rfl ?_
            refine jCmpNe C 53 dX9_lacks_47 (by decide) (fun c15 => ?_) (fun c15 => ?_)
            · replace hf := itn hf c15
              refine jIinc C (x3_5 + (1 : Int32)) dX9_lacks_53 3 rfl (congrArg (fun z : Int32 => x3_5 + z) ki_1) (Nat.le_of_ble_eq_true rfl) [(3, .int (x3_5 + (1 : Int32))), (0, .ref (h 0)), (1, .int p1), (2, .int p2), (4, .int x4_6)] rfl ?_
              refine jIinc C (x4_6 + (1 : Int32)) dX9_lacks_56 4 rfl (congrArg (fun z : Int32 => x4_6 + z) ki_1) (Nat.le_of_ble_eq_true rfl) [(4, .int (x4_6 + (1 : Int32))), (3, .int (x3_5 + (1 : Int32))), (0, .ref (h 0)), (1, .int p1), (2, .int p2)] rfl ?_
              refine jGoto C 20 dX9_lacks_59 (by decide) ?_
              refine jSub [2, 3, 4, 1, 0] rfl ?_
              exact ir8 (x3_5 + (1 : Int32)) (x4_6 + (1 : Int32)) hf
            · replace hf := itp hf c15
              refine jIload C dX9_lacks_50 4 rfl ?_
              cases hf
              exact jEndI C hQ rfl dX9_lacks_52
          · replace hf := itn hf c14
            refine jGoto C 56 dX9_lacks_42 (by decide) ?_
            refine jIinc C (x4_6 + (1 : Int32)) dX9_lacks_56 4 rfl (congrArg (fun z : Int32 => x4_6 + z) ki_1) (Nat.le_of_ble_eq_true rfl) [(4, .int (x4_6 + (1 : Int32))), (0, .ref (h 0)), (1, .int p1), (2, .int p2), (3, .int x3_5)] rfl ?_
            refine jGoto C 20 dX9_lacks_59 (by decide) ?_
            refine jSub [1, 2, 3, 4, 0] rfl ?_
            exact ir8 x3_5 (x4_6 + (1 : Int32)) hf
      refine jSub [2, 3, 4, 1, 0] rfl ?_
      exact hL7 (0 : Int32) (0 : Int32) hf
    · replace hf := itn hf c4
      refine jBipush C (-2 : Int32) dX9_lacks_12 kb_m2 ?_
      cases hf
      exact jEndI C hQ rfl dX9_lacks_14
noncomputable def X9_moved_h29 (mnow : Nat → Int32) (p1 : Int32) (r7 : Int32 → Int32 → Option Int32) (x3_5 : Int32) (r14 : Int32 → Int32 → Option Int32) (x2_11 : Int32) (x4_12 : Int32) : Option Int32 := bd1 (X9_points mnow p1) (fun q15 => (if q15 ≤ x4_12 then r7 x2_11 (x3_5 + (1 : Int32)) else bd1 (X9_wouldShift mnow p1 x3_5 x4_12) (fun q18 => (if q18 ≤ (0 : Int32) then r14 (x2_11 + (0 : Int32)) (x4_12 + (1 : Int32)) else r14 (x2_11 + (1 : Int32)) (x4_12 + (1 : Int32))))))
noncomputable def X9_moved_h15 (mnow : Nat → Int32) (p1 : Int32) (r7 : Int32 → Int32 → Option Int32) (x2_4 : Int32) (x3_5 : Int32) : Option Int32 := bd1 (X9_points mnow p1) (fun q8 => (if q8 ≤ x3_5 then some x2_4 else lfp2 (X9_moved_h29 mnow p1 r7 x3_5) x2_4 (x3_5 + (1 : Int32))))
noncomputable def X9_moved (mnow : Nat → Int32) (p1 : Int32) : Option Int32 := bd1 (X9_hasOne mnow p1) (fun q1 => (if q1 = (0 : Int32) then some (-2 : Int32) else lfp2 (X9_moved_h15 mnow p1) (0 : Int32) (0 : Int32)))
set_option maxHeartbeats 4000000 in
set_option maxRecDepth 20000 in
theorem X9_moved_ok {p1 : Int32} {rr : Int32}  (hf : X9_moved mnow p1 = some rr) : MT yX9_moved cX9_moved 5 (some .int) 3 [.ref (h 0), .int p1] D cy G (mw h cy mthr mfrp mact mtpd msiz matx mfrm mtok mval mfk mfpl mbem mtrs mtrl mrom mtom mnow mfre mkep mtap mlef mtak mbes mrow mint mrnd mplo mhio mtox mtol) (mw h cy mthr mfrp mact mtpd msiz matx mfrm mtok mval mfk mfpl mbem mtrs mtrl mrom mtom mnow mfre mkep mtap mlef mtak mbes mrow mint mrnd mplo mhio mtox mtol) (some (.int rr)) := by
  refine MT.go (own := RX9) [(0, .ref (h 0)), (1, .int p1)] (by decide) rfl (Nat.le_of_ble_eq_true rfl) rfl (fun p l e s m args below meth c A Q C hQ => ?_)
  unfold X9_moved at hf
  refine jAloadn C dX9_moved_0 rfl 0 rfl ?_
  refine jIloadn C dX9_moved_1 rfl 1 rfl ?_
  obtain ⟨q1, e2, hf⟩ := bd1_some hf
  refine jVI C (X9_hasOne_ok  e2) vb_X9_hasOne mk_RX9_75 rfl rcM ⟨Nat.le_of_ble_eq_true rfl, Nat.le_of_ble_eq_true rfl⟩ rfl (Nat.le_of_ble_eq_true rfl) dX9_moved_2 ?_
  refine jIfNe C 11 dX9_moved_5 (by decide) (fun c3 => ?_) (fun c3 => ?_)
  · replace hf := itn hf c3
    refine jIconst C (0 : Int32) dX9_moved_11 ki_0 ?_
    refine jIstoren C dX9_moved_12 rfl (Nat.le_of_ble_eq_true rfl) [(2, .int (0 : Int32)), (0, .ref (h 0)), (1, .int p1)] rfl ?_
    refine jIconst C (0 : Int32) dX9_moved_13 ki_0 ?_
    refine jIstoren C dX9_moved_14 rfl (Nat.le_of_ble_eq_true rfl) [(3, .int (0 : Int32)), (2, .int (0 : Int32)), (0, .ref (h 0)), (1, .int p1)] rfl ?_
    have hL6 : ∀ (x2_4 : Int32) (x3_5 : Int32), lfp2 (X9_moved_h15 mnow p1) x2_4 x3_5 = some rr → J p l e (rmk 3) s m args below meth c D A Q 5 (mw h cy mthr mfrp mact mtpd msiz matx mfrm mtok mval mfk mfpl mbem mtrs mtrl mrom mtom mnow mfre mkep mtap mlef mtak mbes mrow mint mrnd mplo mhio mtox mtol) 15 [(0, .ref (h 0)), (1, .int p1), (2, .int x2_4), (3, .int x3_5)] [] := by
      intro x2_4 x3_5 hw
      refine lfp2_walk (P := fun x2_4 x3_5 => J p l e (rmk 3) s m args below meth c D A Q 5 (mw h cy mthr mfrp mact mtpd msiz matx mfrm mtok mval mfk mfpl mbem mtrs mtrl mrom mtom mnow mfre mkep mtap mlef mtak mbes mrow mint mrnd mplo mhio mtox mtol) 15 [(0, .ref (h 0)), (1, .int p1), (2, .int x2_4), (3, .int x3_5)] []) ?_ hw
      intro r7 ir7 x2_4 x3_5 hf
      unfold X9_moved_h15 at hf
      refine jIloadn C dX9_moved_15 rfl 3 rfl ?_
      refine jAloadn C dX9_moved_16 rfl 0 rfl ?_
      refine jIloadn C dX9_moved_17 rfl 1 rfl ?_
      obtain ⟨q8, e9, hf⟩ := bd1_some hf
      refine jVI C (X9_points_ok  e9) vb_X9_points mk_RX9_78 rfl rcM ⟨Nat.le_of_ble_eq_true rfl, Nat.le_of_ble_eq_true rfl⟩ rfl (Nat.le_of_ble_eq_true rfl) dX9_moved_18 ?_
      refine jCmpGe C 70 dX9_moved_21 (by decide) (fun c10 => ?_) (fun c10 => ?_)
      · replace hf := itp hf c10
        refine jIloadn C dX9_moved_70 rfl 2 rfl ?_
        cases hf
        exact jEndI C hQ rfl dX9_moved_71
      · replace hf := itn hf c10
        refine jIloadn C dX9_moved_24 rfl 3 rfl ?_
        refine jIconst C (1 : Int32) dX9_moved_25 ki_1 ?_
        refine jIadd C dX9_moved_26 ?_
        refine jIstore C dX9_moved_27 (Nat.le_of_ble_eq_true rfl) [(4, .int (x3_5 + (1 : Int32))), (0, .ref (h 0)), (1, .int p1), (2, .int x2_4), (3, .int x3_5)] rfl ?_
        have hL13 : ∀ (x2_11 : Int32) (x4_12 : Int32), lfp2 (X9_moved_h29 mnow p1 r7 x3_5) x2_11 x4_12 = some rr → J p l e (rmk 3) s m args below meth c D A Q 5 (mw h cy mthr mfrp mact mtpd msiz matx mfrm mtok mval mfk mfpl mbem mtrs mtrl mrom mtom mnow mfre mkep mtap mlef mtak mbes mrow mint mrnd mplo mhio mtox mtol) 29 [(0, .ref (h 0)), (1, .int p1), (2, .int x2_11), (3, .int x3_5), (4, .int x4_12)] [] := by
          intro x2_11 x4_12 hw
          refine lfp2_walk (P := fun x2_11 x4_12 => J p l e (rmk 3) s m args below meth c D A Q 5 (mw h cy mthr mfrp mact mtpd msiz matx mfrm mtok mval mfk mfpl mbem mtrs mtrl mrom mtom mnow mfre mkep mtap mlef mtak mbes mrow mint mrnd mplo mhio mtox mtol) 29 [(0, .ref (h 0)), (1, .int p1), (2, .int x2_11), (3, .int x3_5), (4, .int x4_12)] []) ?_ hw
          intro r14 ir14 x2_11 x4_12 hf
          unfold X9_moved_h29 at hf
          refine jIload C dX9_moved_29 4 rfl ?_
          refine jAloadn C dX9_moved_31 rfl 0 rfl ?_
          refine jIloadn C dX9_moved_32 rfl 1 rfl ?_
          obtain ⟨q15, e16, hf⟩ := bd1_some hf
          refine jVI C (X9_points_ok  e16) vb_X9_points mk_RX9_78 rfl rcM ⟨Nat.le_of_ble_eq_true rfl, Nat.le_of_ble_eq_true rfl⟩ rfl (Nat.le_of_ble_eq_true rfl) dX9_moved_33 ?_
          refine jCmpGe C 64 dX9_moved_36 (by decide) (fun c17 => ?_) (fun c17 => ?_)
          · replace hf := itp hf c17
            refine jIinc C (x3_5 + (1 : Int32)) dX9_moved_64 3 rfl (congrArg (fun z : Int32 => x3_5 + z) ki_1) (Nat.le_of_ble_eq_true rfl) [(3, .int (x3_5 + (1 : Int32))), (0, .ref (h 0)), (1, .int p1), (2, .int x2_11), (4, .int x4_12)] rfl ?_
            refine jGoto C 15 dX9_moved_67 (by decide) ?_
            refine jSub [1, 2, 3, 0] rfl ?_
            exact ir7 x2_11 (x3_5 + (1 : Int32)) hf
          · replace hf := itn hf c17
            refine jIloadn C dX9_moved_39 rfl 2 rfl ?_
            refine jAloadn C dX9_moved_40 rfl 0 rfl ?_
            refine jIloadn C dX9_moved_41 rfl 1 rfl ?_
            refine jIloadn C dX9_moved_42 rfl 3 rfl ?_
            refine jIload C dX9_moved_43 4 rfl ?_
            obtain ⟨q18, e19, hf⟩ := bd1_some hf
            refine jVI C (X9_wouldShift_ok  e19) vb_X9_wouldShift mk_RX9_219 rfl rcM ⟨Nat.le_of_ble_eq_true rfl, Nat.le_of_ble_eq_true rfl⟩ rfl (Nat.le_of_ble_eq_true rfl) dX9_moved_45 ?_
            refine jIfLe C 55 dX9_moved_48 (by decide) (fun c20 => ?_) (fun c20 => ?_)
            · replace hf := itp hf c20
              refine jIconst C (0 : Int32) dX9_moved_55 ki_0 ?_
              refine jIadd C dX9_moved_56 ?_
              refine jIstoren C dX9_moved_57 rfl (Nat.le_of_ble_eq_true rfl) [(2, .int (x2_11 + (0 : Int32))), (0, .ref (h 0)), (1, .int p1), (3, .int x3_5), (4, .int x4_12)] rfl ?_
              refine jIinc C (x4_12 + (1 : Int32)) dX9_moved_58 4 rfl (congrArg (fun z : Int32 => x4_12 + z) ki_1) (Nat.le_of_ble_eq_true rfl) [(4, .int (x4_12 + (1 : Int32))), (2, .int (x2_11 + (0 : Int32))), (0, .ref (h 0)), (1, .int p1), (3, .int x3_5)] rfl ?_
              refine jGoto C 29 dX9_moved_61 (by decide) ?_
              refine jSub [2, 3, 1, 4, 0] rfl ?_
              exact ir14 (x2_11 + (0 : Int32)) (x4_12 + (1 : Int32)) hf
            · replace hf := itn hf c20
              refine jIconst C (1 : Int32) dX9_moved_51 ki_1 ?_
              refine jGoto C 56 dX9_moved_52 (by decide) ?_
              refine jIadd C dX9_moved_56 ?_
              refine jIstoren C dX9_moved_57 rfl (Nat.le_of_ble_eq_true rfl) [(2, .int (x2_11 + (1 : Int32))), (0, .ref (h 0)), (1, .int p1), (3, .int x3_5), (4, .int x4_12)] rfl ?_
              refine jIinc C (x4_12 + (1 : Int32)) dX9_moved_58 4 rfl (congrArg (fun z : Int32 => x4_12 + z) ki_1) (Nat.le_of_ble_eq_true rfl) [(4, .int (x4_12 + (1 : Int32))), (2, .int (x2_11 + (1 : Int32))), (0, .ref (h 0)), (1, .int p1), (3, .int x3_5)] rfl ?_
              refine jGoto C 29 dX9_moved_61 (by decide) ?_
              refine jSub [2, 3, 1, 4, 0] rfl ?_
              exact ir14 (x2_11 + (1 : Int32)) (x4_12 + (1 : Int32)) hf
        refine jSub [1, 2, 3, 4, 0] rfl ?_
        exact hL13 x2_4 (x3_5 + (1 : Int32)) hf
    refine jSub [2, 3, 1, 0] rfl ?_
    exact hL6 (0 : Int32) (0 : Int32) hf
  · replace hf := itp hf c3
    refine jBipush C (-2 : Int32) dX9_moved_8 kb_m2 ?_
    cases hf
    exact jEndI C hQ rfl dX9_moved_10
noncomputable def X9_together_h38 (mnow : Nat → Int32) (p1 : Int32) (p4 : Int32) (p2 : Int32) (p3 : Int32) (r13 : Int32 → Int32 → Option Int32) (x5_10 : Int32) (x6_11 : Int32) : Option Int32 := (if (128 : Int32) ≤ x6_11 then some x5_10 else bd1 (X9_isIn mnow p1 x6_11) (fun q15 => (if q15 = (0 : Int32) then r13 x5_10 (x6_11 + (1 : Int32)) else (if p4 = (0 : Int32) then bd1 (X9_hasBit x6_11 p2) (fun q24 => (if q24 = (0 : Int32) then r13 (x5_10 + (0 : Int32)) (x6_11 + (1 : Int32)) else bd1 (X9_hasBit x6_11 p3) (fun q27 => (if q27 = (0 : Int32) then r13 (x5_10 + (0 : Int32)) (x6_11 + (1 : Int32)) else r13 (x5_10 + (1 : Int32)) (x6_11 + (1 : Int32)))))) else bd1 (X9_hasBit x6_11 p2) (fun q19 => bd1 (X9_hasBit x6_11 p3) (fun q21 => (if q19 = q21 then r13 (x5_10 + (0 : Int32)) (x6_11 + (1 : Int32)) else r13 (x5_10 + (1 : Int32)) (x6_11 + (1 : Int32)))))))))
noncomputable def X9_together (mnow : Nat → Int32) (p1 : Int32) (p2 : Int32) (p3 : Int32) (p4 : Int32) : Option Int32 := bd1 (X9_isPoint mnow p1 p2) (fun q1 => (if q1 = (0 : Int32) then some (-2 : Int32) else bd1 (X9_isPoint mnow p1 p3) (fun q4 => (if q4 = (0 : Int32) then some (-2 : Int32) else bd1 (X9_in (p4.toInt64) (0 : Int64) (1 : Int64)) (fun q7 => (if q7 = (0 : Int32) then some (-2 : Int32) else lfp2 (X9_together_h38 mnow p1 p4 p2 p3) (0 : Int32) (0 : Int32)))))))
set_option maxHeartbeats 4000000 in
set_option maxRecDepth 20000 in
theorem X9_together_ok {p1 : Int32} {p2 : Int32} {p3 : Int32} {p4 : Int32} {rr : Int32}  (hf : X9_together mnow p1 p2 p3 p4 = some rr) : MT yX9_together cX9_together 7 (some .int) 4 [.ref (h 0), .int p1, .int p2, .int p3, .int p4] D cy G (mw h cy mthr mfrp mact mtpd msiz matx mfrm mtok mval mfk mfpl mbem mtrs mtrl mrom mtom mnow mfre mkep mtap mlef mtak mbes mrow mint mrnd mplo mhio mtox mtol) (mw h cy mthr mfrp mact mtpd msiz matx mfrm mtok mval mfk mfpl mbem mtrs mtrl mrom mtom mnow mfre mkep mtap mlef mtak mbes mrow mint mrnd mplo mhio mtox mtol) (some (.int rr)) := by
  refine MT.go (own := RX9) [(0, .ref (h 0)), (1, .int p1), (2, .int p2), (3, .int p3), (4, .int p4)] (by decide) rfl (Nat.le_of_ble_eq_true rfl) rfl (fun p l e s m args below meth c A Q C hQ => ?_)
  unfold X9_together at hf
  refine jAloadn C dX9_together_0 rfl 0 rfl ?_
  refine jIloadn C dX9_together_1 rfl 1 rfl ?_
  refine jIloadn C dX9_together_2 rfl 2 rfl ?_
  obtain ⟨q1, e2, hf⟩ := bd1_some hf
  refine jVI C (X9_isPoint_ok  e2) vb_X9_isPoint mk_RX9_243 rfl rcM ⟨Nat.le_of_ble_eq_true rfl, Nat.le_of_ble_eq_true rfl⟩ rfl (Nat.le_of_ble_eq_true rfl) dX9_together_3 ?_
  refine jIfEq C 29 dX9_together_6 (by decide) (fun c3 => ?_) (fun c3 => ?_)
  · replace hf := itp hf c3
    refine jBipush C (-2 : Int32) dX9_together_29 kb_m2 ?_
    cases hf
    exact jEndI C hQ rfl dX9_together_31
  · replace hf := itn hf c3
    refine jAloadn C dX9_together_9 rfl 0 rfl ?_
    refine jIloadn C dX9_together_10 rfl 1 rfl ?_
    refine jIloadn C dX9_together_11 rfl 3 rfl ?_
    obtain ⟨q4, e5, hf⟩ := bd1_some hf
    refine jVI C (X9_isPoint_ok  e5) vb_X9_isPoint mk_RX9_243 rfl rcM ⟨Nat.le_of_ble_eq_true rfl, Nat.le_of_ble_eq_true rfl⟩ rfl (Nat.le_of_ble_eq_true rfl) dX9_together_12 ?_
    refine jIfEq C 29 dX9_together_15 (by decide) (fun c6 => ?_) (fun c6 => ?_)
    · replace hf := itp hf c6
      refine jBipush C (-2 : Int32) dX9_together_29 kb_m2 ?_
      cases hf
      exact jEndI C hQ rfl dX9_together_31
    · replace hf := itn hf c6
      refine jIload C dX9_together_18 4 rfl ?_
      refine jI2l C dX9_together_20 ?_
      refine jLconst C (0 : Int64) dX9_together_21 rfl ?_
      refine jLconst C (1 : Int64) dX9_together_22 rfl ?_
      obtain ⟨q7, e8, hf⟩ := bd1_some hf
      refine jSI C (X9_in_ok  e8) sb_X9_in mk_RX9_63 rfl ⟨Nat.le_of_ble_eq_true rfl, Nat.le_of_ble_eq_true rfl⟩ rfl (Nat.le_of_ble_eq_true rfl) dX9_together_23 ?_
      refine jIfNe C 32 dX9_together_26 (by decide) (fun c9 => ?_) (fun c9 => ?_)
      · replace hf := itn hf c9
        refine jIconst C (0 : Int32) dX9_together_32 ki_0 ?_
        refine jIstore C dX9_together_33 (Nat.le_of_ble_eq_true rfl) [(5, .int (0 : Int32)), (0, .ref (h 0)), (1, .int p1), (2, .int p2), (3, .int p3), (4, .int p4)] rfl ?_
        refine jIconst C (0 : Int32) dX9_together_35 ki_0 ?_
        refine jIstore C dX9_together_36 (Nat.le_of_ble_eq_true rfl) [(6, .int (0 : Int32)), (5, .int (0 : Int32)), (0, .ref (h 0)), (1, .int p1), (2, .int p2), (3, .int p3), (4, .int p4)] rfl ?_
        have hL12 : ∀ (x5_10 : Int32) (x6_11 : Int32), lfp2 (X9_together_h38 mnow p1 p4 p2 p3) x5_10 x6_11 = some rr → J p l e (rmk 4) s m args below meth c D A Q 7 (mw h cy mthr mfrp mact mtpd msiz matx mfrm mtok mval mfk mfpl mbem mtrs mtrl mrom mtom mnow mfre mkep mtap mlef mtak mbes mrow mint mrnd mplo mhio mtox mtol) 38 [(0, .ref (h 0)), (1, .int p1), (2, .int p2), (3, .int p3), (4, .int p4), (5, .int x5_10), (6, .int x6_11)] [] := by
          intro x5_10 x6_11 hw
          refine lfp2_walk (P := fun x5_10 x6_11 => J p l e (rmk 4) s m args below meth c D A Q 7 (mw h cy mthr mfrp mact mtpd msiz matx mfrm mtok mval mfk mfpl mbem mtrs mtrl mrom mtom mnow mfre mkep mtap mlef mtak mbes mrow mint mrnd mplo mhio mtox mtol) 38 [(0, .ref (h 0)), (1, .int p1), (2, .int p2), (3, .int p3), (4, .int p4), (5, .int x5_10), (6, .int x6_11)] []) ?_ hw
          intro r13 ir13 x5_10 x6_11 hf
          unfold X9_together_h38 at hf
          refine jIload C dX9_together_38 6 rfl ?_
          refine jSipush C (128 : Int32) dX9_together_40 ks_128 ?_
          refine jCmpGe C 116 dX9_together_43 (by decide) (fun c14 => ?_) (fun c14 => ?_)
          · replace hf := itp hf c14
            refine jIload C dX9_together_116 5 rfl ?_
            cases hf
            exact jEndI C hQ rfl dX9_together_118
          · replace hf := itn hf c14
            refine jAloadn C dX9_together_46 rfl 0 rfl ?_
            refine jIloadn C dX9_together_47 rfl 1 rfl ?_
            refine jIload C dX9_together_48 6 rfl ?_
            obtain ⟨q15, e16, hf⟩ := bd1_some hf
            refine jVI C (X9_isIn_ok  e16) vb_X9_isIn mk_RX9_81 rfl rcM ⟨Nat.le_of_ble_eq_true rfl, Nat.le_of_ble_eq_true rfl⟩ rfl (Nat.le_of_ble_eq_true rfl) dX9_together_50 ?_
            refine jIfNe C 59 dX9_together_53 (by decide) (fun c17 => ?_) (fun c17 => ?_)
            · replace hf := itn hf c17
              refine jIload C dX9_together_59 5 rfl ?_
              refine jIload C dX9_together_61 4 rfl ?_
              refine jIfNe C 87 dX9_together_63 (by decide) (fun c18 => ?_) (fun c18 => ?_)
              · replace hf := itn hf c18
                refine jIload C dX9_together_87 6 rfl ?_
                refine jIloadn C dX9_together_89 rfl 2 rfl ?_
                obtain ⟨q19, e20, hf⟩ := bd1_some hf
                refine jSI C (X9_hasBit_ok  e20) sb_X9_hasBit mk_RX9_169 rfl ⟨Nat.le_of_ble_eq_true rfl, Nat.le_of_ble_eq_true rfl⟩ rfl (Nat.le_of_ble_eq_true rfl) dX9_together_90 ?_
                refine jIload C dX9_together_93 6 rfl ?_
                refine jIloadn C dX9_together_95 rfl 3 rfl ?_
                obtain ⟨q21, e22, hf⟩ := bd1_some hf
                refine jSI C (X9_hasBit_ok  e22) sb_X9_hasBit mk_RX9_169 rfl ⟨Nat.le_of_ble_eq_true rfl, Nat.le_of_ble_eq_true rfl⟩ rfl (Nat.le_of_ble_eq_true rfl) dX9_together_96 ?_
                refine jCmpEq C 106 dX9_together_99 (by decide) (fun c23 => ?_) (fun c23 => ?_)
                · replace hf := itp hf c23
                  refine jIconst C (0 : Int32) dX9_together_106 ki_0 ?_
                  refine jIadd C dX9_together_107 ?_
                  refine jIstore C dX9_together_108 (Nat.le_of_ble_eq_true rfl) [(5, .int (x5_10 + (0 : Int32))), (0, .ref (h 0)), (1, .int p1), (2, .int p2), (3, .int p3), (4, .int p4), (6, .int x6_11)] rfl ?_
                  refine jIinc C (x6_11 + (1 : Int32)) dX9_together_110 6 rfl (congrArg (fun z : Int32 => x6_11 + z) ki_1) (Nat.le_of_ble_eq_true rfl) [(6, .int (x6_11 + (1 : Int32))), (5, .int (x5_10 + (0 : Int32))), (0, .ref (h 0)), (1, .int p1), (2, .int p2), (3, .int p3), (4, .int p4)] rfl ?_
                  refine jGoto C 38 dX9_together_113 (by decide) ?_
                  refine jSub [2, 3, 4, 5, 6, 1, 0] rfl ?_
                  exact ir13 (x5_10 + (0 : Int32)) (x6_11 + (1 : Int32)) hf
                · replace hf := itn hf c23
                  refine jIconst C (1 : Int32) dX9_together_102 ki_1 ?_
                  refine jGoto C 107 dX9_together_103 (by decide) ?_
                  refine jIadd C dX9_together_107 ?_
                  refine jIstore C dX9_together_108 (Nat.le_of_ble_eq_true rfl) [(5, .int (x5_10 + (1 : Int32))), (0, .ref (h 0)), (1, .int p1), (2, .int p2), (3, .int p3), (4, .int p4), (6, .int x6_11)] rfl ?_
                  refine jIinc C (x6_11 + (1 : Int32)) dX9_together_110 6 rfl (congrArg (fun z : Int32 => x6_11 + z) ki_1) (Nat.le_of_ble_eq_true rfl) [(6, .int (x6_11 + (1 : Int32))), (5, .int (x5_10 + (1 : Int32))), (0, .ref (h 0)), (1, .int p1), (2, .int p2), (3, .int p3), (4, .int p4)] rfl ?_
                  refine jGoto C 38 dX9_together_113 (by decide) ?_
                  refine jSub [2, 3, 4, 5, 6, 1, 0] rfl ?_
                  exact ir13 (x5_10 + (1 : Int32)) (x6_11 + (1 : Int32)) hf
              · replace hf := itp hf c18
                refine jIload C dX9_together_66 6 rfl ?_
                refine jIloadn C dX9_together_68 rfl 2 rfl ?_
                obtain ⟨q24, e25, hf⟩ := bd1_some hf
                refine jSI C (X9_hasBit_ok  e25) sb_X9_hasBit mk_RX9_169 rfl ⟨Nat.le_of_ble_eq_true rfl, Nat.le_of_ble_eq_true rfl⟩ rfl (Nat.le_of_ble_eq_true rfl) dX9_together_69 ?_
                refine jIfEq C 106 dX9_together_72 (by decide) (fun c26 => ?_) (fun c26 => ?_)
                · replace hf := itp hf c26
                  refine jIconst C (0 : Int32) dX9_together_106 ki_0 ?_
                  refine jIadd C dX9_together_107 ?_
                  refine jIstore C dX9_together_108 (Nat.le_of_ble_eq_true rfl) [(5, .int (x5_10 + (0 : Int32))), (0, .ref (h 0)), (1, .int p1), (2, .int p2), (3, .int p3), (4, .int p4), (6, .int x6_11)] rfl ?_
                  refine jIinc C (x6_11 + (1 : Int32)) dX9_together_110 6 rfl (congrArg (fun z : Int32 => x6_11 + z) ki_1) (Nat.le_of_ble_eq_true rfl) [(6, .int (x6_11 + (1 : Int32))), (5, .int (x5_10 + (0 : Int32))), (0, .ref (h 0)), (1, .int p1), (2, .int p2), (3, .int p3), (4, .int p4)] rfl ?_
                  refine jGoto C 38 dX9_together_113 (by decide) ?_
                  refine jSub [2, 3, 4, 5, 6, 1, 0] rfl ?_
                  exact ir13 (x5_10 + (0 : Int32)) (x6_11 + (1 : Int32)) hf
                · replace hf := itn hf c26
                  refine jIload C dX9_together_75 6 rfl ?_
                  refine jIloadn C dX9_together_77 rfl 3 rfl ?_
                  obtain ⟨q27, e28, hf⟩ := bd1_some hf
                  refine jSI C (X9_hasBit_ok  e28) sb_X9_hasBit mk_RX9_169 rfl ⟨Nat.le_of_ble_eq_true rfl, Nat.le_of_ble_eq_true rfl⟩ rfl (Nat.le_of_ble_eq_true rfl) dX9_together_78 ?_
                  refine jIfEq C 106 dX9_together_81 (by decide) (fun c29 => ?_) (fun c29 => ?_)
                  · replace hf := itp hf c29
                    refine jIconst C (0 : Int32) dX9_together_106 ki_0 ?_
                    refine jIadd C dX9_together_107 ?_
                    refine jIstore C dX9_together_108 (Nat.le_of_ble_eq_true rfl) [(5, .int (x5_10 + (0 : Int32))), (0, .ref (h 0)), (1, .int p1), (2, .int p2), (3, .int p3), (4, .int p4), (6, .int x6_11)] rfl ?_
                    refine jIinc C (x6_11 + (1 : Int32)) dX9_together_110 6 rfl (congrArg (fun z : Int32 => x6_11 + z) ki_1) (Nat.le_of_ble_eq_true rfl) [(6, .int (x6_11 + (1 : Int32))), (5, .int (x5_10 + (0 : Int32))), (0, .ref (h 0)), (1, .int p1), (2, .int p2), (3, .int p3), (4, .int p4)] rfl ?_
                    refine jGoto C 38 dX9_together_113 (by decide) ?_
                    refine jSub [2, 3, 4, 5, 6, 1, 0] rfl ?_
                    exact ir13 (x5_10 + (0 : Int32)) (x6_11 + (1 : Int32)) hf
                  · replace hf := itn hf c29
                    refine jGoto C 102 dX9_together_84 (by decide) ?_
                    refine jIconst C (1 : Int32) dX9_together_102 ki_1 ?_
                    refine jGoto C 107 dX9_together_103 (by decide) ?_
                    refine jIadd C dX9_together_107 ?_
                    refine jIstore C dX9_together_108 (Nat.le_of_ble_eq_true rfl) [(5, .int (x5_10 + (1 : Int32))), (0, .ref (h 0)), (1, .int p1), (2, .int p2), (3, .int p3), (4, .int p4), (6, .int x6_11)] rfl ?_
                    refine jIinc C (x6_11 + (1 : Int32)) dX9_together_110 6 rfl (congrArg (fun z : Int32 => x6_11 + z) ki_1) (Nat.le_of_ble_eq_true rfl) [(6, .int (x6_11 + (1 : Int32))), (5, .int (x5_10 + (1 : Int32))), (0, .ref (h 0)), (1, .int p1), (2, .int p2), (3, .int p3), (4, .int p4)] rfl ?_
                    refine jGoto C 38 dX9_together_113 (by decide) ?_
                    refine jSub [2, 3, 4, 5, 6, 1, 0] rfl ?_
                    exact ir13 (x5_10 + (1 : Int32)) (x6_11 + (1 : Int32)) hf
            · replace hf := itp hf c17
              refine jGoto C 110 dX9_together_56 (by decide) ?_
              refine jIinc C (x6_11 + (1 : Int32)) dX9_together_110 6 rfl (congrArg (fun z : Int32 => x6_11 + z) ki_1) (Nat.le_of_ble_eq_true rfl) [(6, .int (x6_11 + (1 : Int32))), (0, .ref (h 0)), (1, .int p1), (2, .int p2), (3, .int p3), (4, .int p4), (5, .int x5_10)] rfl ?_
              refine jGoto C 38 dX9_together_113 (by decide) ?_
              refine jSub [1, 2, 3, 4, 5, 6, 0] rfl ?_
              exact ir13 x5_10 (x6_11 + (1 : Int32)) hf
        refine jSub [2, 3, 4, 5, 6, 1, 0] rfl ?_
        exact hL12 (0 : Int32) (0 : Int32) hf
      · replace hf := itp hf c9
        refine jBipush C (-2 : Int32) dX9_together_29 kb_m2 ?_
        cases hf
        exact jEndI C hQ rfl dX9_together_31
noncomputable def X9_half_h15 (mnow : Nat → Int32) (p1 : Int32) (r7 : Int32 → Int32 → Option Int32) (x2_4 : Int32) (x3_5 : Int32) : Option Int32 := bd1 (X9_points mnow p1) (fun q8 => (if q8 ≤ x3_5 then some x2_4 else bd1 (X9_degreeOf mnow p1 x3_5) (fun q11 => bd1 (X9_many mnow p1) (fun q13 => (if ((2 : Int32) * q11) < q13 then r7 (x2_4 ||| (0 : Int32)) (x3_5 + (1 : Int32)) else r7 (x2_4 ||| ((1 : Int32) <<< (x3_5 &&& 31))) (x3_5 + (1 : Int32)))))))
noncomputable def X9_half (mnow : Nat → Int32) (p1 : Int32) : Option Int32 := bd1 (X9_hasOne mnow p1) (fun q1 => (if q1 = (0 : Int32) then some (-2 : Int32) else lfp2 (X9_half_h15 mnow p1) (0 : Int32) (0 : Int32)))
set_option maxHeartbeats 4000000 in
set_option maxRecDepth 20000 in
theorem X9_half_ok {p1 : Int32} {rr : Int32}  (hf : X9_half mnow p1 = some rr) : MT yX9_half cX9_half 4 (some .int) 3 [.ref (h 0), .int p1] D cy G (mw h cy mthr mfrp mact mtpd msiz matx mfrm mtok mval mfk mfpl mbem mtrs mtrl mrom mtom mnow mfre mkep mtap mlef mtak mbes mrow mint mrnd mplo mhio mtox mtol) (mw h cy mthr mfrp mact mtpd msiz matx mfrm mtok mval mfk mfpl mbem mtrs mtrl mrom mtom mnow mfre mkep mtap mlef mtak mbes mrow mint mrnd mplo mhio mtox mtol) (some (.int rr)) := by
  refine MT.go (own := RX9) [(0, .ref (h 0)), (1, .int p1)] (by decide) rfl (Nat.le_of_ble_eq_true rfl) rfl (fun p l e s m args below meth c A Q C hQ => ?_)
  unfold X9_half at hf
  refine jAloadn C dX9_half_0 rfl 0 rfl ?_
  refine jIloadn C dX9_half_1 rfl 1 rfl ?_
  obtain ⟨q1, e2, hf⟩ := bd1_some hf
  refine jVI C (X9_hasOne_ok  e2) vb_X9_hasOne mk_RX9_75 rfl rcM ⟨Nat.le_of_ble_eq_true rfl, Nat.le_of_ble_eq_true rfl⟩ rfl (Nat.le_of_ble_eq_true rfl) dX9_half_2 ?_
  refine jIfNe C 11 dX9_half_5 (by decide) (fun c3 => ?_) (fun c3 => ?_)
  · replace hf := itn hf c3
    refine jIconst C (0 : Int32) dX9_half_11 ki_0 ?_
    refine jIstoren C dX9_half_12 rfl (Nat.le_of_ble_eq_true rfl) [(2, .int (0 : Int32)), (0, .ref (h 0)), (1, .int p1)] rfl ?_
    refine jIconst C (0 : Int32) dX9_half_13 ki_0 ?_
    refine jIstoren C dX9_half_14 rfl (Nat.le_of_ble_eq_true rfl) [(3, .int (0 : Int32)), (2, .int (0 : Int32)), (0, .ref (h 0)), (1, .int p1)] rfl ?_
    have hL6 : ∀ (x2_4 : Int32) (x3_5 : Int32), lfp2 (X9_half_h15 mnow p1) x2_4 x3_5 = some rr → J p l e (rmk 3) s m args below meth c D A Q 4 (mw h cy mthr mfrp mact mtpd msiz matx mfrm mtok mval mfk mfpl mbem mtrs mtrl mrom mtom mnow mfre mkep mtap mlef mtak mbes mrow mint mrnd mplo mhio mtox mtol) 15 [(0, .ref (h 0)), (1, .int p1), (2, .int x2_4), (3, .int x3_5)] [] := by
      intro x2_4 x3_5 hw
      refine lfp2_walk (P := fun x2_4 x3_5 => J p l e (rmk 3) s m args below meth c D A Q 4 (mw h cy mthr mfrp mact mtpd msiz matx mfrm mtok mval mfk mfpl mbem mtrs mtrl mrom mtom mnow mfre mkep mtap mlef mtak mbes mrow mint mrnd mplo mhio mtox mtol) 15 [(0, .ref (h 0)), (1, .int p1), (2, .int x2_4), (3, .int x3_5)] []) ?_ hw
      intro r7 ir7 x2_4 x3_5 hf
      unfold X9_half_h15 at hf
      refine jIloadn C dX9_half_15 rfl 3 rfl ?_
      refine jAloadn C dX9_half_16 rfl 0 rfl ?_
      refine jIloadn C dX9_half_17 rfl 1 rfl ?_
      obtain ⟨q8, e9, hf⟩ := bd1_some hf
      refine jVI C (X9_points_ok  e9) vb_X9_points mk_RX9_78 rfl rcM ⟨Nat.le_of_ble_eq_true rfl, Nat.le_of_ble_eq_true rfl⟩ rfl (Nat.le_of_ble_eq_true rfl) dX9_half_18 ?_
      refine jCmpGe C 56 dX9_half_21 (by decide) (fun c10 => ?_) (fun c10 => ?_)
      · replace hf := itp hf c10
        refine jIloadn C dX9_half_56 rfl 2 rfl ?_
        cases hf
        exact jEndI C hQ rfl dX9_half_57
      · replace hf := itn hf c10
        refine jIloadn C dX9_half_24 rfl 2 rfl ?_
        refine jIconst C (2 : Int32) dX9_half_25 ki_2 ?_
        refine jAloadn C dX9_half_26 rfl 0 rfl ?_
        refine jIloadn C dX9_half_27 rfl 1 rfl ?_
        refine jIloadn C dX9_half_28 rfl 3 rfl ?_
        obtain ⟨q11, e12, hf⟩ := bd1_some hf
        refine jVI C (X9_degreeOf_ok  e12) vb_X9_degreeOf mk_RX9_246 rfl rcM ⟨Nat.le_of_ble_eq_true rfl, Nat.le_of_ble_eq_true rfl⟩ rfl (Nat.le_of_ble_eq_true rfl) dX9_half_29 ?_
        refine jImul C dX9_half_32 ?_
        refine jAloadn C dX9_half_33 rfl 0 rfl ?_
        refine jIloadn C dX9_half_34 rfl 1 rfl ?_
        obtain ⟨q13, e14, hf⟩ := bd1_some hf
        refine jVI C (X9_many_ok  e14) vb_X9_many mk_RX9_97 rfl rcM ⟨Nat.le_of_ble_eq_true rfl, Nat.le_of_ble_eq_true rfl⟩ rfl (Nat.le_of_ble_eq_true rfl) dX9_half_35 ?_
        refine jCmpLt C 47 dX9_half_38 (by decide) (fun c15 => ?_) (fun c15 => ?_)
        · replace hf := itp hf c15
          refine jIconst C (0 : Int32) dX9_half_47 ki_0 ?_
          refine jIor C dX9_half_48 ?_
          refine jIstoren C dX9_half_49 rfl (Nat.le_of_ble_eq_true rfl) [(2, .int (x2_4 ||| (0 : Int32))), (0, .ref (h 0)), (1, .int p1), (3, .int x3_5)] rfl ?_
          refine jIinc C (x3_5 + (1 : Int32)) dX9_half_50 3 rfl (congrArg (fun z : Int32 => x3_5 + z) ki_1) (Nat.le_of_ble_eq_true rfl) [(3, .int (x3_5 + (1 : Int32))), (2, .int (x2_4 ||| (0 : Int32))), (0, .ref (h 0)), (1, .int p1)] rfl ?_
          refine jGoto C 15 dX9_half_53 (by decide) ?_
          refine jSub [2, 3, 1, 0] rfl ?_
          exact ir7 (x2_4 ||| (0 : Int32)) (x3_5 + (1 : Int32)) hf
        · replace hf := itn hf c15
          refine jIconst C (1 : Int32) dX9_half_41 ki_1 ?_
          refine jIloadn C dX9_half_42 rfl 3 rfl ?_
          refine jIshl C dX9_half_43 ?_
          refine jGoto C 48 dX9_half_44 (by decide) ?_
          refine jIor C dX9_half_48 ?_
          refine jIstoren C dX9_half_49 rfl (Nat.le_of_ble_eq_true rfl) [(2, .int (x2_4 ||| ((1 : Int32) <<< (x3_5 &&& 31)))), (0, .ref (h 0)), (1, .int p1), (3, .int x3_5)] rfl ?_
          refine jIinc C (x3_5 + (1 : Int32)) dX9_half_50 3 rfl (congrArg (fun z : Int32 => x3_5 + z) ki_1) (Nat.le_of_ble_eq_true rfl) [(3, .int (x3_5 + (1 : Int32))), (2, .int (x2_4 ||| ((1 : Int32) <<< (x3_5 &&& 31)))), (0, .ref (h 0)), (1, .int p1)] rfl ?_
          refine jGoto C 15 dX9_half_53 (by decide) ?_
          refine jSub [2, 3, 1, 0] rfl ?_
          exact ir7 (x2_4 ||| ((1 : Int32) <<< (x3_5 &&& 31))) (x3_5 + (1 : Int32)) hf
    refine jSub [2, 3, 1, 0] rfl ?_
    exact hL6 (0 : Int32) (0 : Int32) hf
  · replace hf := itp hf c3
    refine jBipush C (-2 : Int32) dX9_half_8 kb_m2 ?_
    cases hf
    exact jEndI C hQ rfl dX9_half_10
noncomputable def X9_next_h16 (mnow : Nat → Int32) (p1 : Int32) (p2 : Int32) (r6 : Int32 → Option Int32) (x3_4 : Int32) : Option Int32 := bd1 (X9_points mnow p1) (fun q7 => (if ((1 : Int32) <<< (q7 &&& 31)) ≤ x3_4 then some (-1 : Int32) else bd1 (X9_bits x3_4) (fun q10 => bd1 (X9_bits p2) (fun q12 => (if q10 = q12 then some x3_4 else r6 (x3_4 + (1 : Int32)))))))
noncomputable def X9_next (mnow : Nat → Int32) (p1 : Int32) (p2 : Int32) : Option Int32 := bd1 (X9_isSet mnow p1 p2) (fun q1 => (if q1 = (0 : Int32) then some (-2 : Int32) else lfp1 (X9_next_h16 mnow p1 p2) (p2 + (1 : Int32))))
set_option maxHeartbeats 4000000 in
set_option maxRecDepth 20000 in
theorem X9_next_ok {p1 : Int32} {p2 : Int32} {rr : Int32}  (hf : X9_next mnow p1 p2 = some rr) : MT yX9_next cX9_next 4 (some .int) 4 [.ref (h 0), .int p1, .int p2] D cy G (mw h cy mthr mfrp mact mtpd msiz matx mfrm mtok mval mfk mfpl mbem mtrs mtrl mrom mtom mnow mfre mkep mtap mlef mtak mbes mrow mint mrnd mplo mhio mtox mtol) (mw h cy mthr mfrp mact mtpd msiz matx mfrm mtok mval mfk mfpl mbem mtrs mtrl mrom mtom mnow mfre mkep mtap mlef mtak mbes mrow mint mrnd mplo mhio mtox mtol) (some (.int rr)) := by
  refine MT.go (own := RX9) [(0, .ref (h 0)), (1, .int p1), (2, .int p2)] (by decide) rfl (Nat.le_of_ble_eq_true rfl) rfl (fun p l e s m args below meth c A Q C hQ => ?_)
  unfold X9_next at hf
  refine jAloadn C dX9_next_0 rfl 0 rfl ?_
  refine jIloadn C dX9_next_1 rfl 1 rfl ?_
  refine jIloadn C dX9_next_2 rfl 2 rfl ?_
  obtain ⟨q1, e2, hf⟩ := bd1_some hf
  refine jVI C (X9_isSet_ok  e2) vb_X9_isSet mk_RX9_210 rfl rcM ⟨Nat.le_of_ble_eq_true rfl, Nat.le_of_ble_eq_true rfl⟩ rfl (Nat.le_of_ble_eq_true rfl) dX9_next_3 ?_
  refine jIfNe C 12 dX9_next_6 (by decide) (fun c3 => ?_) (fun c3 => ?_)
  · replace hf := itn hf c3
    refine jIloadn C dX9_next_12 rfl 2 rfl ?_
    refine jIconst C (1 : Int32) dX9_next_13 ki_1 ?_
    refine jIadd C dX9_next_14 ?_
    refine jIstoren C dX9_next_15 rfl (Nat.le_of_ble_eq_true rfl) [(3, .int (p2 + (1 : Int32))), (0, .ref (h 0)), (1, .int p1), (2, .int p2)] rfl ?_
    have hL5 : ∀ (x3_4 : Int32), lfp1 (X9_next_h16 mnow p1 p2) x3_4 = some rr → J p l e (rmk 4) s m args below meth c D A Q 4 (mw h cy mthr mfrp mact mtpd msiz matx mfrm mtok mval mfk mfpl mbem mtrs mtrl mrom mtom mnow mfre mkep mtap mlef mtak mbes mrow mint mrnd mplo mhio mtox mtol) 16 [(0, .ref (h 0)), (1, .int p1), (2, .int p2), (3, .int x3_4)] [] := by
      intro x3_4 hw
      refine lfp1_walk (P := fun x3_4 => J p l e (rmk 4) s m args below meth c D A Q 4 (mw h cy mthr mfrp mact mtpd msiz matx mfrm mtok mval mfk mfpl mbem mtrs mtrl mrom mtom mnow mfre mkep mtap mlef mtak mbes mrow mint mrnd mplo mhio mtox mtol) 16 [(0, .ref (h 0)), (1, .int p1), (2, .int p2), (3, .int x3_4)] []) ?_ hw
      intro r6 ir6 x3_4 hf
      unfold X9_next_h16 at hf
      refine jIloadn C dX9_next_16 rfl 3 rfl ?_
      refine jIconst C (1 : Int32) dX9_next_17 ki_1 ?_
      refine jAloadn C dX9_next_18 rfl 0 rfl ?_
      refine jIloadn C dX9_next_19 rfl 1 rfl ?_
      obtain ⟨q7, e8, hf⟩ := bd1_some hf
      refine jVI C (X9_points_ok  e8) vb_X9_points mk_RX9_78 rfl rcM ⟨Nat.le_of_ble_eq_true rfl, Nat.le_of_ble_eq_true rfl⟩ rfl (Nat.le_of_ble_eq_true rfl) dX9_next_20 ?_
      refine jIshl C dX9_next_23 ?_
      refine jCmpGe C 46 dX9_next_24 (by decide) (fun c9 => ?_) (fun c9 => ?_)
      · replace hf := itp hf c9
        refine jIconst C (-1 : Int32) dX9_next_46 ki_m1 ?_
        cases hf
        exact jEndI C hQ rfl dX9_next_47
      · replace hf := itn hf c9
        refine jIloadn C dX9_next_27 rfl 3 rfl ?_
        obtain ⟨q10, e11, hf⟩ := bd1_some hf
        refine jSI C (X9_bits_ok  e11) sb_X9_bits mk_RX9_198 rfl ⟨Nat.le_of_ble_eq_true rfl, Nat.le_of_ble_eq_true rfl⟩ rfl (Nat.le_of_ble_eq_true rfl) dX9_next_28 ?_
        refine jIloadn C dX9_next_31 rfl 2 rfl ?_
        obtain ⟨q12, e13, hf⟩ := bd1_some hf
        refine jSI C (X9_bits_ok  e13) sb_X9_bits mk_RX9_198 rfl ⟨Nat.le_of_ble_eq_true rfl, Nat.le_of_ble_eq_true rfl⟩ rfl (Nat.le_of_ble_eq_true rfl) dX9_next_32 ?_
        refine jCmpNe C 40 dX9_next_35 (by decide) (fun c14 => ?_) (fun c14 => ?_)
        · replace hf := itn hf c14
          refine jIinc C (x3_4 + (1 : Int32)) dX9_next_40 3 rfl (congrArg (fun z : Int32 => x3_4 + z) ki_1) (Nat.le_of_ble_eq_true rfl) [(3, .int (x3_4 + (1 : Int32))), (0, .ref (h 0)), (1, .int p1), (2, .int p2)] rfl ?_
          refine jGoto C 16 dX9_next_43 (by decide) ?_
          refine jSub [1, 2, 3, 0] rfl ?_
          exact ir6 (x3_4 + (1 : Int32)) hf
        · replace hf := itp hf c14
          refine jIloadn C dX9_next_38 rfl 3 rfl ?_
          cases hf
          exact jEndI C hQ rfl dX9_next_39
    refine jSub [1, 2, 3, 0] rfl ?_
    exact hL5 (p2 + (1 : Int32)) hf
  · replace hf := itp hf c3
    refine jBipush C (-2 : Int32) dX9_next_9 kb_m2 ?_
    cases hf
    exact jEndI C hQ rfl dX9_next_11
noncomputable def X9_apart_h35 (r8 : Int32 → Int32 → Option Int32) (x4_6 : Int32) (mnow : Nat → Int32) (p1 : Int32) (p2 : Int32) (r14 : Int32 → Int32 → Option Int32) (x3_11 : Int32) (x5_12 : Int32) : Option Int32 := (if (128 : Int32) ≤ x5_12 then r8 x3_11 (x4_6 + (1 : Int32)) else bd1 (X9_isIn mnow p1 x4_6) (fun q16 => (if q16 = (0 : Int32) then r8 x3_11 (x4_6 + (1 : Int32)) else bd1 (X9_isIn mnow p1 x5_12) (fun q19 => (if q19 = (0 : Int32) then r14 x3_11 (x5_12 + (1 : Int32)) else (if (x4_6 &&& x5_12) = (0 : Int32) then (if x3_11 = p2 then some (((1000 : Int32) * x4_6) + x5_12) else r14 (x3_11 + (1 : Int32)) (x5_12 + (1 : Int32))) else r14 x3_11 (x5_12 + (1 : Int32))))))))
noncomputable def X9_apart_h21 (p2 : Int32) (mnow : Nat → Int32) (p1 : Int32) (r8 : Int32 → Int32 → Option Int32) (x3_5 : Int32) (x4_6 : Int32) : Option Int32 := (if (128 : Int32) ≤ x4_6 then (if p2 = (-1 : Int32) then some x3_5 else some (-1 : Int32)) else lfp2 (X9_apart_h35 r8 x4_6 mnow p1 p2) x3_5 (x4_6 + (1 : Int32)))
noncomputable def X9_apart (mnow : Nat → Int32) (p1 : Int32) (p2 : Int32) : Option Int32 := bd1 (X9_hasOne mnow p1) (fun q1 => (if q1 = (0 : Int32) then some (-2 : Int32) else (if (-1 : Int32) ≤ p2 then lfp2 (X9_apart_h21 p2 mnow p1) (0 : Int32) (0 : Int32) else some (-2 : Int32))))
set_option maxHeartbeats 4000000 in
set_option maxRecDepth 20000 in
theorem X9_apart_ok {p1 : Int32} {p2 : Int32} {rr : Int32}  (hf : X9_apart mnow p1 p2 = some rr) : MT yX9_apart cX9_apart 6 (some .int) 3 [.ref (h 0), .int p1, .int p2] D cy G (mw h cy mthr mfrp mact mtpd msiz matx mfrm mtok mval mfk mfpl mbem mtrs mtrl mrom mtom mnow mfre mkep mtap mlef mtak mbes mrow mint mrnd mplo mhio mtox mtol) (mw h cy mthr mfrp mact mtpd msiz matx mfrm mtok mval mfk mfpl mbem mtrs mtrl mrom mtom mnow mfre mkep mtap mlef mtak mbes mrow mint mrnd mplo mhio mtox mtol) (some (.int rr)) := by
  refine MT.go (own := RX9) [(0, .ref (h 0)), (1, .int p1), (2, .int p2)] (by decide) rfl (Nat.le_of_ble_eq_true rfl) rfl (fun p l e s m args below meth c A Q C hQ => ?_)
  unfold X9_apart at hf
  refine jAloadn C dX9_apart_0 rfl 0 rfl ?_
  refine jIloadn C dX9_apart_1 rfl 1 rfl ?_
  obtain ⟨q1, e2, hf⟩ := bd1_some hf
  refine jVI C (X9_hasOne_ok  e2) vb_X9_hasOne mk_RX9_75 rfl rcM ⟨Nat.le_of_ble_eq_true rfl, Nat.le_of_ble_eq_true rfl⟩ rfl (Nat.le_of_ble_eq_true rfl) dX9_apart_2 ?_
  refine jIfEq C 13 dX9_apart_5 (by decide) (fun c3 => ?_) (fun c3 => ?_)
  · replace hf := itp hf c3
    refine jBipush C (-2 : Int32) dX9_apart_13 kb_m2 ?_
    cases hf
    exact jEndI C hQ rfl dX9_apart_15
  · replace hf := itn hf c3
    refine jIloadn C dX9_apart_8 rfl 2 rfl ?_
    refine jIconst C (-1 : Int32) dX9_apart_9 ki_m1 ?_
    refine jCmpGe C 16 dX9_apart_10 (by decide) (fun c4 => ?_) (fun c4 => ?_)
    · replace hf := itp hf c4
      refine jIconst C (0 : Int32) dX9_apart_16 ki_0 ?_
      refine jIstoren C dX9_apart_17 rfl (Nat.le_of_ble_eq_true rfl) [(3, .int (0 : Int32)), (0, .ref (h 0)), (1, .int p1), (2, .int p2)] rfl ?_
      refine jIconst C (0 : Int32) dX9_apart_18 ki_0 ?_
      refine jIstore C dX9_apart_19 (Nat.le_of_ble_eq_true rfl) [(4, .int (0 : Int32)), (3, .int (0 : Int32)), (0, .ref (h 0)), (1, .int p1), (2, .int p2)] rfl ?_
      have hL7 : ∀ (x3_5 : Int32) (x4_6 : Int32), lfp2 (X9_apart_h21 p2 mnow p1) x3_5 x4_6 = some rr → J p l e (rmk 3) s m args below meth c D A Q 6 (mw h cy mthr mfrp mact mtpd msiz matx mfrm mtok mval mfk mfpl mbem mtrs mtrl mrom mtom mnow mfre mkep mtap mlef mtak mbes mrow mint mrnd mplo mhio mtox mtol) 21 [(0, .ref (h 0)), (1, .int p1), (2, .int p2), (3, .int x3_5), (4, .int x4_6)] [] := by
        intro x3_5 x4_6 hw
        refine lfp2_walk (P := fun x3_5 x4_6 => J p l e (rmk 3) s m args below meth c D A Q 6 (mw h cy mthr mfrp mact mtpd msiz matx mfrm mtok mval mfk mfpl mbem mtrs mtrl mrom mtom mnow mfre mkep mtap mlef mtak mbes mrow mint mrnd mplo mhio mtox mtol) 21 [(0, .ref (h 0)), (1, .int p1), (2, .int p2), (3, .int x3_5), (4, .int x4_6)] []) ?_ hw
        intro r8 ir8 x3_5 x4_6 hf
        unfold X9_apart_h21 at hf
        refine jIload C dX9_apart_21 4 rfl ?_
        refine jSipush C (128 : Int32) dX9_apart_23 ks_128 ?_
        refine jCmpGe C 104 dX9_apart_26 (by decide) (fun c9 => ?_) (fun c9 => ?_)
        · replace hf := itp hf c9
          refine jIloadn C dX9_apart_104 rfl 2 rfl ?_
          refine jIconst C (-1 : Int32) dX9_apart_105 ki_m1 ?_
          refine jCmpNe C 113 dX9_apart_106 (by decide) (fun c10 => ?_) (fun c10 => ?_)
          · replace hf := itn hf c10
            refine jIconst C (-1 : Int32) dX9_apart_113 ki_m1 ?_
            cases hf
            exact jEndI C hQ rfl dX9_apart_114
          · replace hf := itp hf c10
            refine jIloadn C dX9_apart_109 rfl 3 rfl ?_
            refine jGoto C 114 dX9_apart_110 (by decide) ?_
            cases hf
            exact jEndI C hQ rfl dX9_apart_114
        · replace hf := itn hf c9
          refine jIload C dX9_apart_29 4 rfl ?_
          refine jIconst C (1 : Int32) dX9_apart_31 ki_1 ?_
          refine jIadd C dX9_apart_32 ?_
          refine jIstore C dX9_apart_33 (Nat.le_of_ble_eq_true rfl) [(5, .int (x4_6 + (1 : Int32))), (0, .ref (h 0)), (1, .int p1), (2, .int p2), (3, .int x3_5), (4, .int x4_6)] rfl ?_
          have hL13 : ∀ (x3_11 : Int32) (x5_12 : Int32), lfp2 (X9_apart_h35 r8 x4_6 mnow p1 p2) x3_11 x5_12 = some rr → J p l e (rmk 3) s m args below meth c D A Q 6 (mw h cy mthr mfrp mact mtpd msiz matx mfrm mtok mval mfk mfpl mbem mtrs mtrl mrom mtom mnow mfre mkep mtap mlef mtak mbes mrow mint mrnd mplo mhio mtox mtol) 35 [(0, .ref (h 0)), (1, .int p1), (2, .int p2), (3, .int x3_11), (4, .int x4_6), (5, .int x5_12)] [] := by
            intro x3_11 x5_12 hw
            refine lfp2_walk (P := fun x3_11 x5_12 => J p l e (rmk 3) s m args below meth c D A Q 6 (mw h cy mthr mfrp mact mtpd msiz matx mfrm mtok mval mfk mfpl mbem mtrs mtrl mrom mtom mnow mfre mkep mtap mlef mtak mbes mrow mint mrnd mplo mhio mtox mtol) 35 [(0, .ref (h 0)), (1, .int p1), (2, .int p2), (3, .int x3_11), (4, .int x4_6), (5, .int x5_12)] []) ?_ hw
            intro r14 ir14 x3_11 x5_12 hf
            unfold X9_apart_h35 at hf
            refine jIload C dX9_apart_35 5 rfl ?_
            refine jSipush C (128 : Int32) dX9_apart_37 ks_128 ?_
            refine jCmpGe C 98 dX9_apart_40 (by decide) (fun c15 => ?_) (fun c15 => ?_)
            · replace hf := itp hf c15
              refine jIinc C (x4_6 + (1 : Int32)) dX9_apart_98 4 rfl (congrArg (fun z : Int32 => x4_6 + z) ki_1) (Nat.le_of_ble_eq_true rfl) [(4, .int (x4_6 + (1 : Int32))), (0, .ref (h 0)), (1, .int p1), (2, .int p2), (3, .int x3_11), (5, .int x5_12)] rfl ?_
              refine jGoto C 21 dX9_apart_101 (by decide) ?_
              refine jSub [1, 2, 3, 4, 0] rfl ?_
              exact ir8 x3_11 (x4_6 + (1 : Int32)) hf
            · replace hf := itn hf c15
              refine jAloadn C dX9_apart_43 rfl 0 rfl ?_
              refine jIloadn C dX9_apart_44 rfl 1 rfl ?_
              refine jIload C dX9_apart_45 4 rfl ?_
              obtain ⟨q16, e17, hf⟩ := bd1_some hf
              refine jVI C (X9_isIn_ok  e17) vb_X9_isIn mk_RX9_81 rfl rcM ⟨Nat.le_of_ble_eq_true rfl, Nat.le_of_ble_eq_true rfl⟩ rfl (Nat.le_of_ble_eq_true rfl) dX9_apart_47 ?_
              refine jIfEq C 98 dX9_apart_50 (by decide) (fun c18 => ?_) (fun c18 => ?_)
              · replace hf := itp hf c18
                refine jIinc C (x4_6 + (1 : Int32)) dX9_apart_98 4 rfl (congrArg (fun z : Int32 => x4_6 + z) ki_1) (Nat.le_of_ble_eq_true rfl) [(4, .int (x4_6 + (1 : Int32))), (0, .ref (h 0)), (1, .int p1), (2, .int p2), (3, .int x3_11), (5, .int x5_12)] rfl ?_
                refine jGoto C 21 dX9_apart_101 (by decide) ?_
                refine jSub [1, 2, 3, 4, 0] rfl ?_
                exact ir8 x3_11 (x4_6 + (1 : Int32)) hf
              · replace hf := itn hf c18
                refine jAloadn C dX9_apart_53 rfl 0 rfl ?_
                refine jIloadn C dX9_apart_54 rfl 1 rfl ?_
                refine jIload C dX9_apart_55 5 rfl ?_
                obtain ⟨q19, e20, hf⟩ := bd1_some hf
                refine jVI C (X9_isIn_ok  e20) vb_X9_isIn mk_RX9_81 rfl rcM ⟨Nat.le_of_ble_eq_true rfl, Nat.le_of_ble_eq_true rfl⟩ rfl (Nat.le_of_ble_eq_true rfl) dX9_apart_57 ?_
                refine jIfEq C 92 dX9_apart_60 (by decide) (fun c21 => ?_) (fun c21 => ?_)
                · replace hf := itp hf c21
                  refine jIinc C (x5_12 + (1 : Int32)) dX9_apart_92 5 rfl (congrArg (fun z : Int32 => x5_12 + z) ki_1) (Nat.le_of_ble_eq_true rfl) [(5, .int (x5_12 + (1 : Int32))), (0, .ref (h 0)), (1, .int p1), (2, .int p2), (3, .int x3_11), (4, .int x4_6)] rfl ?_
                  refine jGoto C 35 dX9_apart_95 (by decide) ?_
                  refine jSub [1, 2, 3, 4, 5, 0] rfl ?_
                  exact ir14 x3_11 (x5_12 + (1 : Int32)) hf
                · replace hf := itn hf c21
                  refine jIload C dX9_apart_63 4 rfl ?_
                  refine jIload C dX9_apart_65 5 rfl ?_
                  refine jIand C dX9_apart_67 ?_
                  refine jIfEq C 74 dX9_apart_68 (by decide) (fun c22 => ?_) (fun c22 => ?_)
                  · replace hf := itp hf c22
                    refine jIloadn C dX9_apart_74 rfl 3 rfl ?_
                    refine jIloadn C dX9_apart_75 rfl 2 rfl ?_
                    refine jCmpNe C 89 dX9_apart_76 (by decide) (fun c23 => ?_) (fun c23 => ?_)
                    · replace hf := itn hf c23
                      refine jIinc C (x3_11 + (1 : Int32)) dX9_apart_89 3 rfl (congrArg (fun z : Int32 => x3_11 + z) ki_1) (Nat.le_of_ble_eq_true rfl) [(3, .int (x3_11 + (1 : Int32))), (0, .ref (h 0)), (1, .int p1), (2, .int p2), (4, .int x4_6), (5, .int x5_12)] rfl ?_
                      refine jIinc C (x5_12 + (1 : Int32)) dX9_apart_92 5 rfl (congrArg (fun z : Int32 => x5_12 + z) ki_1) (Nat.le_of_ble_eq_true rfl) [(5, .int (x5_12 + (1 : Int32))), (3, .int (x3_11 + (1 : Int32))), (0, .ref (h 0)), (1, .int p1), (2, .int p2), (4, .int x4_6)] rfl ?_
                      refine jGoto C 35 dX9_apart_95 (by decide) ?_
                      refine jSub [2, 3, 4, 1, 5, 0] rfl ?_
                      exact ir14 (x3_11 + (1 : Int32)) (x5_12 + (1 : Int32)) hf
                    · replace hf := itp hf c23
                      refine jSipush C (1000 : Int32) dX9_apart_79 ks_1000 ?_
                      refine jIload C dX9_apart_82 4 rfl ?_
                      refine jImul C dX9_apart_84 ?_
                      refine jIload C dX9_apart_85 5 rfl ?_
                      refine jIadd C dX9_apart_87 ?_
                      cases hf
                      exact jEndI C hQ rfl dX9_apart_88
                  · replace hf := itn hf c22
                    refine jGoto C 92 dX9_apart_71 (by decide) ?_
                    refine jIinc C (x5_12 + (1 : Int32)) dX9_apart_92 5 rfl (congrArg (fun z : Int32 => x5_12 + z) ki_1) (Nat.le_of_ble_eq_true rfl) [(5, .int (x5_12 + (1 : Int32))), (0, .ref (h 0)), (1, .int p1), (2, .int p2), (3, .int x3_11), (4, .int x4_6)] rfl ?_
                    refine jGoto C 35 dX9_apart_95 (by decide) ?_
                    refine jSub [1, 2, 3, 4, 5, 0] rfl ?_
                    exact ir14 x3_11 (x5_12 + (1 : Int32)) hf
          refine jSub [1, 2, 3, 4, 5, 0] rfl ?_
          exact hL13 x3_5 (x4_6 + (1 : Int32)) hf
      refine jSub [2, 3, 4, 1, 0] rfl ?_
      exact hL7 (0 : Int32) (0 : Int32) hf
    · replace hf := itn hf c4
      refine jBipush C (-2 : Int32) dX9_apart_13 kb_m2 ?_
      cases hf
      exact jEndI C hQ rfl dX9_apart_15
noncomputable def X9_covers_h21 (mnow : Nat → Int32) (p1 : Int32) (p2 : Int32) (r8 : Int32 → Int32 → Option Int32) (x3_5 : Int32) (x4_6 : Int32) : Option Int32 := bd1 (X9_points mnow p1) (fun q9 => (if ((1 : Int32) <<< (q9 &&& 31)) ≤ x4_6 then (if p2 = (-1 : Int32) then some x3_5 else some (-1 : Int32)) else bd1 (X9_meetsAll mnow p1 x4_6) (fun q13 => (if q13 = (0 : Int32) then r8 x3_5 (x4_6 + (1 : Int32)) else (if x3_5 = p2 then some x4_6 else r8 (x3_5 + (1 : Int32)) (x4_6 + (1 : Int32)))))))
noncomputable def X9_covers (mnow : Nat → Int32) (p1 : Int32) (p2 : Int32) : Option Int32 := bd1 (X9_hasOne mnow p1) (fun q1 => (if q1 = (0 : Int32) then some (-2 : Int32) else (if (-1 : Int32) ≤ p2 then lfp2 (X9_covers_h21 mnow p1 p2) (0 : Int32) (0 : Int32) else some (-2 : Int32))))
set_option maxHeartbeats 4000000 in
set_option maxRecDepth 20000 in
theorem X9_covers_ok {p1 : Int32} {p2 : Int32} {rr : Int32}  (hf : X9_covers mnow p1 p2 = some rr) : MT yX9_covers cX9_covers 5 (some .int) 3 [.ref (h 0), .int p1, .int p2] D cy G (mw h cy mthr mfrp mact mtpd msiz matx mfrm mtok mval mfk mfpl mbem mtrs mtrl mrom mtom mnow mfre mkep mtap mlef mtak mbes mrow mint mrnd mplo mhio mtox mtol) (mw h cy mthr mfrp mact mtpd msiz matx mfrm mtok mval mfk mfpl mbem mtrs mtrl mrom mtom mnow mfre mkep mtap mlef mtak mbes mrow mint mrnd mplo mhio mtox mtol) (some (.int rr)) := by
  refine MT.go (own := RX9) [(0, .ref (h 0)), (1, .int p1), (2, .int p2)] (by decide) rfl (Nat.le_of_ble_eq_true rfl) rfl (fun p l e s m args below meth c A Q C hQ => ?_)
  unfold X9_covers at hf
  refine jAloadn C dX9_covers_0 rfl 0 rfl ?_
  refine jIloadn C dX9_covers_1 rfl 1 rfl ?_
  obtain ⟨q1, e2, hf⟩ := bd1_some hf
  refine jVI C (X9_hasOne_ok  e2) vb_X9_hasOne mk_RX9_75 rfl rcM ⟨Nat.le_of_ble_eq_true rfl, Nat.le_of_ble_eq_true rfl⟩ rfl (Nat.le_of_ble_eq_true rfl) dX9_covers_2 ?_
  refine jIfEq C 13 dX9_covers_5 (by decide) (fun c3 => ?_) (fun c3 => ?_)
  · replace hf := itp hf c3
    refine jBipush C (-2 : Int32) dX9_covers_13 kb_m2 ?_
    cases hf
    exact jEndI C hQ rfl dX9_covers_15
  · replace hf := itn hf c3
    refine jIloadn C dX9_covers_8 rfl 2 rfl ?_
    refine jIconst C (-1 : Int32) dX9_covers_9 ki_m1 ?_
    refine jCmpGe C 16 dX9_covers_10 (by decide) (fun c4 => ?_) (fun c4 => ?_)
    · replace hf := itp hf c4
      refine jIconst C (0 : Int32) dX9_covers_16 ki_0 ?_
      refine jIstoren C dX9_covers_17 rfl (Nat.le_of_ble_eq_true rfl) [(3, .int (0 : Int32)), (0, .ref (h 0)), (1, .int p1), (2, .int p2)] rfl ?_
      refine jIconst C (0 : Int32) dX9_covers_18 ki_0 ?_
      refine jIstore C dX9_covers_19 (Nat.le_of_ble_eq_true rfl) [(4, .int (0 : Int32)), (3, .int (0 : Int32)), (0, .ref (h 0)), (1, .int p1), (2, .int p2)] rfl ?_
      have hL7 : ∀ (x3_5 : Int32) (x4_6 : Int32), lfp2 (X9_covers_h21 mnow p1 p2) x3_5 x4_6 = some rr → J p l e (rmk 3) s m args below meth c D A Q 5 (mw h cy mthr mfrp mact mtpd msiz matx mfrm mtok mval mfk mfpl mbem mtrs mtrl mrom mtom mnow mfre mkep mtap mlef mtak mbes mrow mint mrnd mplo mhio mtox mtol) 21 [(0, .ref (h 0)), (1, .int p1), (2, .int p2), (3, .int x3_5), (4, .int x4_6)] [] := by
        intro x3_5 x4_6 hw
        refine lfp2_walk (P := fun x3_5 x4_6 => J p l e (rmk 3) s m args below meth c D A Q 5 (mw h cy mthr mfrp mact mtpd msiz matx mfrm mtok mval mfk mfpl mbem mtrs mtrl mrom mtom mnow mfre mkep mtap mlef mtak mbes mrow mint mrnd mplo mhio mtox mtol) 21 [(0, .ref (h 0)), (1, .int p1), (2, .int p2), (3, .int x3_5), (4, .int x4_6)] []) ?_ hw
        intro r8 ir8 x3_5 x4_6 hf
        unfold X9_covers_h21 at hf
        refine jIload C dX9_covers_21 4 rfl ?_
        refine jIconst C (1 : Int32) dX9_covers_23 ki_1 ?_
        refine jAloadn C dX9_covers_24 rfl 0 rfl ?_
        refine jIloadn C dX9_covers_25 rfl 1 rfl ?_
        obtain ⟨q9, e10, hf⟩ := bd1_some hf
        refine jVI C (X9_points_ok  e10) vb_X9_points mk_RX9_78 rfl rcM ⟨Nat.le_of_ble_eq_true rfl, Nat.le_of_ble_eq_true rfl⟩ rfl (Nat.le_of_ble_eq_true rfl) dX9_covers_26 ?_
        refine jIshl C dX9_covers_29 ?_
        refine jCmpGe C 63 dX9_covers_30 (by decide) (fun c11 => ?_) (fun c11 => ?_)
        · replace hf := itp hf c11
          refine jIloadn C dX9_covers_63 rfl 2 rfl ?_
          refine jIconst C (-1 : Int32) dX9_covers_64 ki_m1 ?_
          refine jCmpNe C 72 dX9_covers_65 (by decide) (fun c12 => ?_) (fun c12 => ?_)
          · replace hf := itn hf c12
            refine jIconst C (-1 : Int32) dX9_covers_72 ki_m1 ?_
            cases hf
            exact jEndI C hQ rfl dX9_covers_73
          · replace hf := itp hf c12
            refine jIloadn C dX9_covers_68 rfl 3 rfl ?_
            refine jGoto C 73 dX9_covers_69 (by decide) ?_
            cases hf
            exact jEndI C hQ rfl dX9_covers_73
        · replace hf := itn hf c11
          refine jAloadn C dX9_covers_33 rfl 0 rfl ?_
          refine jIloadn C dX9_covers_34 rfl 1 rfl ?_
          refine jIload C dX9_covers_35 4 rfl ?_
          obtain ⟨q13, e14, hf⟩ := bd1_some hf
          refine jVI C (X9_meetsAll_ok  e14) vb_X9_meetsAll mk_RX9_252 rfl rcM ⟨Nat.le_of_ble_eq_true rfl, Nat.le_of_ble_eq_true rfl⟩ rfl (Nat.le_of_ble_eq_true rfl) dX9_covers_37 ?_
          refine jIfNe C 46 dX9_covers_40 (by decide) (fun c15 => ?_) (fun c15 => ?_)
          · replace hf := itn hf c15
            refine jIloadn C dX9_covers_46 rfl 3 rfl ?_
            refine jIloadn C dX9_covers_47 rfl 2 rfl ?_
            refine jCmpNe C 54 dX9_covers_48 (by decide) (fun c16 => ?_) (fun c16 => ?_)
            · replace hf := itn hf c16
              refine jIinc C (x3_5 + (1 : Int32)) dX9_covers_54 3 rfl (congrArg (fun z : Int32 => x3_5 + z) ki_1) (Nat.le_of_ble_eq_true rfl) [(3, .int (x3_5 + (1 : Int32))), (0, .ref (h 0)), (1, .int p1), (2, .int p2), (4, .int x4_6)] rfl ?_
              refine jIinc C (x4_6 + (1 : Int32)) dX9_covers_57 4 rfl (congrArg (fun z : Int32 => x4_6 + z) ki_1) (Nat.le_of_ble_eq_true rfl) [(4, .int (x4_6 + (1 : Int32))), (3, .int (x3_5 + (1 : Int32))), (0, .ref (h 0)), (1, .int p1), (2, .int p2)] rfl ?_
              refine jGoto C 21 dX9_covers_60 (by decide) ?_
              refine jSub [2, 3, 4, 1, 0] rfl ?_
              exact ir8 (x3_5 + (1 : Int32)) (x4_6 + (1 : Int32)) hf
            · replace hf := itp hf c16
              refine jIload C dX9_covers_51 4 rfl ?_
              cases hf
              exact jEndI C hQ rfl dX9_covers_53
          · replace hf := itp hf c15
            refine jGoto C 57 dX9_covers_43 (by decide) ?_
            refine jIinc C (x4_6 + (1 : Int32)) dX9_covers_57 4 rfl (congrArg (fun z : Int32 => x4_6 + z) ki_1) (Nat.le_of_ble_eq_true rfl) [(4, .int (x4_6 + (1 : Int32))), (0, .ref (h 0)), (1, .int p1), (2, .int p2), (3, .int x3_5)] rfl ?_
            refine jGoto C 21 dX9_covers_60 (by decide) ?_
            refine jSub [1, 2, 3, 4, 0] rfl ?_
            exact ir8 x3_5 (x4_6 + (1 : Int32)) hf
      refine jSub [2, 3, 4, 1, 0] rfl ?_
      exact hL7 (0 : Int32) (0 : Int32) hf
    · replace hf := itn hf c4
      refine jBipush C (-2 : Int32) dX9_covers_13 kb_m2 ?_
      cases hf
      exact jEndI C hQ rfl dX9_covers_15
noncomputable def X9_height_h54 (x3_7 : Int32) (r10 : Int32 → (Nat → Int32) → Option (Int32 × (Nat → Int32))) (mnow : Nat → Int32) (p1 : Int32) (r21 : Int32 → (Nat → Int32) → Option (Int32 × (Nat → Int32))) (x4_18 : Int32) (mhio_19 : Nat → Int32) : Option (Int32 × (Nat → Int32)) := (if x3_7 ≤ x4_18 then r10 (x3_7 + (1 : Int32)) mhio_19 else bd1 (X9_isIn mnow p1 x3_7) (fun q23 => (if q23 = (0 : Int32) then r10 (x3_7 + (1 : Int32)) mhio_19 else (if (x3_7 &&& x4_18) = x4_18 then gin x4_18 128 ((if (mhio_19 x4_18.toNatClampNeg) ≤ (0 : Int32) then r21 (x4_18 + (1 : Int32)) mhio_19 else gin x3_7 128 (gin x4_18 128 (gin x3_7 128 (r21 (x4_18 + (1 : Int32)) (upd mhio_19 x3_7.toNatClampNeg (imax (mhio_19 x3_7.toNatClampNeg) ((mhio_19 x4_18.toNatClampNeg) + (1 : Int32))))))))) else r21 (x4_18 + (1 : Int32)) mhio_19))))
noncomputable def X9_height_j50 (x3_7 : Int32) (r10 : Int32 → (Nat → Int32) → Option (Int32 × (Nat → Int32))) (mnow : Nat → Int32) (p1 : Int32) (mhio_8 : Nat → Int32) (y15 : Int32) : Option (Int32 × (Nat → Int32)) := gin x3_7 128 (lfp2 (X9_height_h54 x3_7 r10 mnow p1) (0 : Int32) (upd mhio_8 x3_7.toNatClampNeg y15))
noncomputable def X9_height_h26 (p2 : Int32) (mnow : Nat → Int32) (p1 : Int32) (r10 : Int32 → (Nat → Int32) → Option (Int32 × (Nat → Int32))) (x3_7 : Int32) (mhio_8 : Nat → Int32) : Option (Int32 × (Nat → Int32)) := (if p2 < x3_7 then gin p2 128 (some ((mhio_8 p2.toNatClampNeg), mhio_8)) else bd1 (X9_isIn mnow p1 x3_7) (fun q13 => (if q13 = (0 : Int32) then X9_height_j50 x3_7 r10 mnow p1 mhio_8 (0 : Int32) else X9_height_j50 x3_7 r10 mnow p1 mhio_8 (1 : Int32))))
noncomputable def X9_height (mnow : Nat → Int32) (mhio : Nat → Int32) (p1 : Int32) (p2 : Int32) : Option (Int32 × (Nat → Int32)) := bd1 (X9_isSet mnow p1 p2) (fun q1 => (if q1 = (0 : Int32) then some ((-2 : Int32), mhio) else bd1 (X9_isIn mnow p1 p2) (fun q4 => (if q4 = (0 : Int32) then some ((-6 : Int32), mhio) else lfp2 (X9_height_h26 p2 mnow p1) (0 : Int32) mhio))))
set_option maxHeartbeats 4000000 in
set_option maxRecDepth 20000 in
theorem X9_height_ok {p1 : Int32} {p2 : Int32} {rr : Int32} {omhio : Nat → Int32}  (hf : X9_height mnow mhio p1 p2 = some (rr, omhio)) : MT yX9_height cX9_height 5 (some .int) 4 [.ref (h 0), .int p1, .int p2] D cy G (mw h cy mthr mfrp mact mtpd msiz matx mfrm mtok mval mfk mfpl mbem mtrs mtrl mrom mtom mnow mfre mkep mtap mlef mtak mbes mrow mint mrnd mplo mhio mtox mtol) (mw h cy mthr mfrp mact mtpd msiz matx mfrm mtok mval mfk mfpl mbem mtrs mtrl mrom mtom mnow mfre mkep mtap mlef mtak mbes mrow mint mrnd mplo omhio mtox mtol) (some (.int rr)) := by
  refine MT.go (own := RX9) [(0, .ref (h 0)), (1, .int p1), (2, .int p2)] (by decide) rfl (Nat.le_of_ble_eq_true rfl) rfl (fun p l e s m args below meth c A Q C hQ => ?_)
  unfold X9_height at hf
  refine jAloadn C dX9_height_0 rfl 0 rfl ?_
  refine jIloadn C dX9_height_1 rfl 1 rfl ?_
  refine jIloadn C dX9_height_2 rfl 2 rfl ?_
  obtain ⟨q1, e2, hf⟩ := bd1_some hf
  refine jVI C (X9_isSet_ok  e2) vb_X9_isSet mk_RX9_210 rfl rcM ⟨Nat.le_of_ble_eq_true rfl, Nat.le_of_ble_eq_true rfl⟩ rfl (Nat.le_of_ble_eq_true rfl) dX9_height_3 ?_
  refine jIfNe C 12 dX9_height_6 (by decide) (fun c3 => ?_) (fun c3 => ?_)
  · replace hf := itn hf c3
    refine jAloadn C dX9_height_12 rfl 0 rfl ?_
    refine jIloadn C dX9_height_13 rfl 1 rfl ?_
    refine jIloadn C dX9_height_14 rfl 2 rfl ?_
    obtain ⟨q4, e5, hf⟩ := bd1_some hf
    refine jVI C (X9_isIn_ok  e5) vb_X9_isIn mk_RX9_81 rfl rcM ⟨Nat.le_of_ble_eq_true rfl, Nat.le_of_ble_eq_true rfl⟩ rfl (Nat.le_of_ble_eq_true rfl) dX9_height_15 ?_
    refine jIfNe C 24 dX9_height_18 (by decide) (fun c6 => ?_) (fun c6 => ?_)
    · replace hf := itn hf c6
      refine jIconst C (0 : Int32) dX9_height_24 ki_0 ?_
      refine jIstoren C dX9_height_25 rfl (Nat.le_of_ble_eq_true rfl) [(3, .int (0 : Int32)), (0, .ref (h 0)), (1, .int p1), (2, .int p2)] rfl ?_
      have hL9 : ∀ (x3_7 : Int32) (mhio_8 : Nat → Int32), lfp2 (X9_height_h26 p2 mnow p1) x3_7 mhio_8 = some (rr, omhio) → J p l e (rmk 4) s m args below meth c D A Q 5 (mw h cy mthr mfrp mact mtpd msiz matx mfrm mtok mval mfk mfpl mbem mtrs mtrl mrom mtom mnow mfre mkep mtap mlef mtak mbes mrow mint mrnd mplo mhio_8 mtox mtol) 26 [(0, .ref (h 0)), (1, .int p1), (2, .int p2), (3, .int x3_7)] [] := by
        intro x3_7 mhio_8 hw
        refine lfp2_walk (P := fun x3_7 mhio_8 => J p l e (rmk 4) s m args below meth c D A Q 5 (mw h cy mthr mfrp mact mtpd msiz matx mfrm mtok mval mfk mfpl mbem mtrs mtrl mrom mtom mnow mfre mkep mtap mlef mtak mbes mrow mint mrnd mplo mhio_8 mtox mtol) 26 [(0, .ref (h 0)), (1, .int p1), (2, .int p2), (3, .int x3_7)] []) ?_ hw
        intro r10 ir10 x3_7 mhio_8 hf
        unfold X9_height_h26 at hf
        refine jIloadn C dX9_height_26 rfl 3 rfl ?_
        refine jIloadn C dX9_height_27 rfl 2 rfl ?_
        refine jCmpGt C 124 dX9_height_28 (by decide) (fun c11 => ?_) (fun c11 => ?_)
        · replace hf := itp hf c11
          refine jAloadn C dX9_height_124 rfl 0 rfl ?_
          refine gf_RX9_49 C dX9_height_125 ?_
          refine jIloadn C dX9_height_128 rfl 2 rfl ?_
          obtain ⟨z12, hf⟩ := gin_some hf
          refine al_mhio C z12 dX9_height_129 ?_
          cases hf
          exact jEndI C hQ rfl dX9_height_130
        · replace hf := itn hf c11
          refine jAloadn C dX9_height_31 rfl 0 rfl ?_
          refine gf_RX9_49 C dX9_height_32 ?_
          refine jIloadn C dX9_height_35 rfl 3 rfl ?_
          refine jAloadn C dX9_height_36 rfl 0 rfl ?_
          refine jIloadn C dX9_height_37 rfl 1 rfl ?_
          refine jIloadn C dX9_height_38 rfl 3 rfl ?_
          obtain ⟨q13, e14, hf⟩ := bd1_some hf
          refine jVI C (X9_isIn_ok  e14) vb_X9_isIn mk_RX9_81 rfl rcM ⟨Nat.le_of_ble_eq_true rfl, Nat.le_of_ble_eq_true rfl⟩ rfl (Nat.le_of_ble_eq_true rfl) dX9_height_39 ?_
          have hL16 : ∀ (y15 : Int32), X9_height_j50 x3_7 r10 mnow p1 mhio_8 y15 = some (rr, omhio) → J p l e (rmk 4) s m args below meth c D A Q 5 (mw h cy mthr mfrp mact mtpd msiz matx mfrm mtok mval mfk mfpl mbem mtrs mtrl mrom mtom mnow mfre mkep mtap mlef mtak mbes mrow mint mrnd mplo mhio_8 mtox mtol) 50 [(0, .ref (h 0)), (1, .int p1), (2, .int p2), (3, .int x3_7)] [.int y15, .int x3_7, .ref (h 12)] := by
            intro y15 hf
            unfold X9_height_j50 at hf
            obtain ⟨z17, hf⟩ := gin_some hf
            refine as_mhio C z17 dX9_height_50 ?_
            refine jIconst C (0 : Int32) dX9_height_51 ki_0 ?_
            refine jIstore C dX9_height_52 (Nat.le_of_ble_eq_true rfl) [(4, .int (0 : Int32)), (0, .ref (h 0)), (1, .int p1), (2, .int p2), (3, .int x3_7)] rfl ?_
            have hL20 : ∀ (x4_18 : Int32) (mhio_19 : Nat → Int32), lfp2 (X9_height_h54 x3_7 r10 mnow p1) x4_18 mhio_19 = some (rr, omhio) → J p l e (rmk 4) s m args below meth c D A Q 5 (mw h cy mthr mfrp mact mtpd msiz matx mfrm mtok mval mfk mfpl mbem mtrs mtrl mrom mtom mnow mfre mkep mtap mlef mtak mbes mrow mint mrnd mplo mhio_19 mtox mtol) 54 [(0, .ref (h 0)), (1, .int p1), (2, .int p2), (3, .int x3_7), (4, .int x4_18)] [] := by
              intro x4_18 mhio_19 hw
              refine lfp2_walk (P := fun x4_18 mhio_19 => J p l e (rmk 4) s m args below meth c D A Q 5 (mw h cy mthr mfrp mact mtpd msiz matx mfrm mtok mval mfk mfpl mbem mtrs mtrl mrom mtom mnow mfre mkep mtap mlef mtak mbes mrow mint mrnd mplo mhio_19 mtox mtol) 54 [(0, .ref (h 0)), (1, .int p1), (2, .int p2), (3, .int x3_7), (4, .int x4_18)] []) ?_ hw
              intro r21 ir21 x4_18 mhio_19 hf
              unfold X9_height_h54 at hf
              refine jIload C dX9_height_54 4 rfl ?_
              refine jIloadn C dX9_height_56 rfl 3 rfl ?_
              refine jCmpGe C 118 dX9_height_57 (by decide) (fun c22 => ?_) (fun c22 => ?_)
              · replace hf := itp hf c22
                refine jIinc C (x3_7 + (1 : Int32)) dX9_height_118 3 rfl (congrArg (fun z : Int32 => x3_7 + z) ki_1) (Nat.le_of_ble_eq_true rfl) [(3, .int (x3_7 + (1 : Int32))), (0, .ref (h 0)), (1, .int p1), (2, .int p2), (4, .int x4_18)] rfl ?_
                refine jGoto C 26 dX9_height_121 (by decide) ?_
                refine jSub [1, 2, 3, 0] rfl ?_
                exact ir10 (x3_7 + (1 : Int32)) mhio_19 hf
              · replace hf := itn hf c22
                refine jAloadn C dX9_height_60 rfl 0 rfl ?_
                refine jIloadn C dX9_height_61 rfl 1 rfl ?_
                refine jIloadn C dX9_height_62 rfl 3 rfl ?_
                obtain ⟨q23, e24, hf⟩ := bd1_some hf
                refine jVI C (X9_isIn_ok  e24) vb_X9_isIn mk_RX9_81 rfl rcM ⟨Nat.le_of_ble_eq_true rfl, Nat.le_of_ble_eq_true rfl⟩ rfl (Nat.le_of_ble_eq_true rfl) dX9_height_63 ?_
                refine jIfEq C 118 dX9_height_66 (by decide) (fun c25 => ?_) (fun c25 => ?_)
                · replace hf := itp hf c25
                  refine jIinc C (x3_7 + (1 : Int32)) dX9_height_118 3 rfl (congrArg (fun z : Int32 => x3_7 + z) ki_1) (Nat.le_of_ble_eq_true rfl) [(3, .int (x3_7 + (1 : Int32))), (0, .ref (h 0)), (1, .int p1), (2, .int p2), (4, .int x4_18)] rfl ?_
                  refine jGoto C 26 dX9_height_121 (by decide) ?_
                  refine jSub [1, 2, 3, 0] rfl ?_
                  exact ir10 (x3_7 + (1 : Int32)) mhio_19 hf
                · replace hf := itn hf c25
                  refine jIloadn C dX9_height_69 rfl 3 rfl ?_
                  refine jIload C dX9_height_70 4 rfl ?_
                  refine jIand C dX9_height_72 ?_
                  refine jIload C dX9_height_73 4 rfl ?_
                  refine jCmpNe C 112 dX9_height_75 (by decide) (fun c26 => ?_) (fun c26 => ?_)
                  · replace hf := itn hf c26
                    refine jIinc C (x4_18 + (1 : Int32)) dX9_height_112 4 rfl (congrArg (fun z : Int32 => x4_18 + z) ki_1) (Nat.le_of_ble_eq_true rfl) [(4, .int (x4_18 + (1 : Int32))), (0, .ref (h 0)), (1, .int p1), (2, .int p2), (3, .int x3_7)] rfl ?_
                    refine jGoto C 54 dX9_height_115 (by decide) ?_
                    refine jSub [1, 2, 3, 4, 0] rfl ?_
                    exact ir21 (x4_18 + (1 : Int32)) mhio_19 hf
                  · replace hf := itp hf c26
                    refine jAloadn C dX9_height_78 rfl 0 rfl ?_
                    refine gf_RX9_49 C dX9_height_79 ?_
                    refine jIload C dX9_height_82 4 rfl ?_
                    obtain ⟨z27, hf⟩ := gin_some hf
                    refine al_mhio C z27 dX9_height_84 ?_
                    refine jIfLe C 112 dX9_height_85 (by decide) (fun c28 => ?_) (fun c28 => ?_)
                    · replace hf := itp hf c28
                      refine jIinc C (x4_18 + (1 : Int32)) dX9_height_112 4 rfl (congrArg (fun z : Int32 => x4_18 + z) ki_1) (Nat.le_of_ble_eq_true rfl) [(4, .int (x4_18 + (1 : Int32))), (0, .ref (h 0)), (1, .int p1), (2, .int p2), (3, .int x3_7)] rfl ?_
                      refine jGoto C 54 dX9_height_115 (by decide) ?_
                      refine jSub [1, 2, 3, 4, 0] rfl ?_
                      exact ir21 (x4_18 + (1 : Int32)) mhio_19 hf
                    · replace hf := itn hf c28
                      refine jAloadn C dX9_height_88 rfl 0 rfl ?_
                      refine gf_RX9_49 C dX9_height_89 ?_
                      refine jIloadn C dX9_height_92 rfl 3 rfl ?_
                      refine jAloadn C dX9_height_93 rfl 0 rfl ?_
                      refine gf_RX9_49 C dX9_height_94 ?_
                      refine jIloadn C dX9_height_97 rfl 3 rfl ?_
                      obtain ⟨z29, hf⟩ := gin_some hf
                      refine al_mhio C z29 dX9_height_98 ?_
                      refine jAloadn C dX9_height_99 rfl 0 rfl ?_
                      refine gf_RX9_49 C dX9_height_100 ?_
                      refine jIload C dX9_height_103 4 rfl ?_
                      obtain ⟨z30, hf⟩ := gin_some hf
                      refine al_mhio C z30 dX9_height_105 ?_
                      refine jIconst C (1 : Int32) dX9_height_106 ki_1 ?_
                      refine jIadd C dX9_height_107 ?_
                      refine jMax C mk_RX9_201 ⟨Nat.le_of_ble_eq_true rfl, Nat.le_of_ble_eq_true rfl⟩ dX9_height_108 ?_
                      obtain ⟨z31, hf⟩ := gin_some hf
                      refine as_mhio C z31 dX9_height_111 ?_
                      refine jIinc C (x4_18 + (1 : Int32)) dX9_height_112 4 rfl (congrArg (fun z : Int32 => x4_18 + z) ki_1) (Nat.le_of_ble_eq_true rfl) [(4, .int (x4_18 + (1 : Int32))), (0, .ref (h 0)), (1, .int p1), (2, .int p2), (3, .int x3_7)] rfl ?_
                      refine jGoto C 54 dX9_height_115 (by decide) ?_
                      refine jSub [1, 2, 3, 4, 0] rfl ?_
                      exact ir21 (x4_18 + (1 : Int32)) (upd mhio_19 x3_7.toNatClampNeg (imax (mhio_19 x3_7.toNatClampNeg) ((mhio_19 x4_18.toNatClampNeg) + (1 : Int32)))) hf
            refine jSub [1, 2, 3, 4, 0] rfl ?_
            exact hL20 (0 : Int32) (upd mhio_8 x3_7.toNatClampNeg y15) hf
          refine jIfEq C 49 dX9_height_42 (by decide) (fun c32 => ?_) (fun c32 => ?_)
          · replace hf := itp hf c32
            refine jIconst C (0 : Int32) dX9_height_49 ki_0 ?_
            exact hL16 (0 : Int32) hf
          · replace hf := itn hf c32
            refine jIconst C (1 : Int32) dX9_height_45 ki_1 ?_
            refine jGoto C 50 dX9_height_46 (by decide) ?_
            exact hL16 (1 : Int32) hf
      refine jSub [1, 2, 3, 0] rfl ?_
      exact hL9 (0 : Int32) mhio hf
    · replace hf := itp hf c6
      refine jBipush C (-6 : Int32) dX9_height_21 kb_m6 ?_
      cases hf
      exact jEndI C hQ rfl dX9_height_23
  · replace hf := itp hf c3
    refine jBipush C (-2 : Int32) dX9_height_9 kb_m2 ?_
    cases hf
    exact jEndI C hQ rfl dX9_height_11
noncomputable def X9_trace_h31 (mfrp_9 : Int32) (mact : Int32) (mnow : Nat → Int32) (mkep : Nat → Int32) (p3 : Int32) (p1 : Int32) (p2 : Int32) (r15 : Int32 → (Nat → Int32) → Option (Int32 × Int32 × Int32 × (Nat → Int32) × (Nat → Int32) × (Nat → Int32))) (x4_12 : Int32) (mfre_13 : Nat → Int32) : Option (Int32 × Int32 × Int32 × (Nat → Int32) × (Nat → Int32) × (Nat → Int32)) := (if (128 : Int32) ≤ x4_12 then bd4 (X9_comes mfrp_9 mact mnow mfre_13 mkep p3) (fun q17 mact_18 mnow_19 mkep_20 => some (q17, mfrp_9, mact_18, mnow_19, mfre_13, mkep_20)) else bd1 (X9_isIn mnow p1 x4_12) (fun q22 => (if q22 = (0 : Int32) then r15 (x4_12 + (1 : Int32)) mfre_13 else gin (x4_12 &&& p2) 128 (r15 (x4_12 + (1 : Int32)) (upd mfre_13 (x4_12 &&& p2).toNatClampNeg (vp_nar .boolean (1 : Int32)))))))
noncomputable def X9_trace (mfrp : Int32) (mact : Int32) (mnow : Nat → Int32) (mfre : Nat → Int32) (mkep : Nat → Int32) (p1 : Int32) (p2 : Int32) (p3 : Int32) : Option (Int32 × Int32 × Int32 × (Nat → Int32) × (Nat → Int32) × (Nat → Int32)) := bd1 (X9_isSet mnow p1 p2) (fun q1 => (if q1 = (0 : Int32) then some ((-2 : Int32), mfrp, mact, mnow, mfre, mkep) else bd1 (X9_isSlot p3) (fun q4 => (if q4 = (0 : Int32) then some ((-2 : Int32), mfrp, mact, mnow, mfre, mkep) else bd1 (X9_points mnow p1) (fun q7 => bd2 (X9_clearsFresh mfre q7) (fun mfrp_9 mfre_10 => lfp2 (X9_trace_h31 mfrp_9 mact mnow mkep p3 p1 p2) (0 : Int32) mfre_10))))))
set_option maxHeartbeats 4000000 in
set_option maxRecDepth 20000 in
theorem X9_trace_ok {p1 : Int32} {p2 : Int32} {p3 : Int32} {rr : Int32} {omfrp : Int32} {omact : Int32} {omnow : Nat → Int32} {omfre : Nat → Int32} {omkep : Nat → Int32}  (hf : X9_trace mfrp mact mnow mfre mkep p1 p2 p3 = some (rr, omfrp, omact, omnow, omfre, omkep)) : MT yX9_trace cX9_trace 5 (some .int) 4 [.ref (h 0), .int p1, .int p2, .int p3] D cy G (mw h cy mthr mfrp mact mtpd msiz matx mfrm mtok mval mfk mfpl mbem mtrs mtrl mrom mtom mnow mfre mkep mtap mlef mtak mbes mrow mint mrnd mplo mhio mtox mtol) (mw h cy mthr omfrp omact mtpd msiz matx mfrm mtok mval mfk mfpl mbem mtrs mtrl mrom mtom omnow omfre omkep mtap mlef mtak mbes mrow mint mrnd mplo mhio mtox mtol) (some (.int rr)) := by
  refine MT.go (own := RX9) [(0, .ref (h 0)), (1, .int p1), (2, .int p2), (3, .int p3)] (by decide) rfl (Nat.le_of_ble_eq_true rfl) rfl (fun p l e s m args below meth c A Q C hQ => ?_)
  unfold X9_trace at hf
  refine jAloadn C dX9_trace_0 rfl 0 rfl ?_
  refine jIloadn C dX9_trace_1 rfl 1 rfl ?_
  refine jIloadn C dX9_trace_2 rfl 2 rfl ?_
  obtain ⟨q1, e2, hf⟩ := bd1_some hf
  refine jVI C (X9_isSet_ok  e2) vb_X9_isSet mk_RX9_210 rfl rcM ⟨Nat.le_of_ble_eq_true rfl, Nat.le_of_ble_eq_true rfl⟩ rfl (Nat.le_of_ble_eq_true rfl) dX9_trace_3 ?_
  refine jIfEq C 16 dX9_trace_6 (by decide) (fun c3 => ?_) (fun c3 => ?_)
  · replace hf := itp hf c3
    refine jBipush C (-2 : Int32) dX9_trace_16 kb_m2 ?_
    cases hf
    exact jEndI C hQ rfl dX9_trace_18
  · replace hf := itn hf c3
    refine jIloadn C dX9_trace_9 rfl 3 rfl ?_
    obtain ⟨q4, e5, hf⟩ := bd1_some hf
    refine jSI C (X9_isSlot_ok  e5) sb_X9_isSlot mk_RX9_67 rfl ⟨Nat.le_of_ble_eq_true rfl, Nat.le_of_ble_eq_true rfl⟩ rfl (Nat.le_of_ble_eq_true rfl) dX9_trace_10 ?_
    refine jIfNe C 19 dX9_trace_13 (by decide) (fun c6 => ?_) (fun c6 => ?_)
    · replace hf := itn hf c6
      refine jAloadn C dX9_trace_19 rfl 0 rfl ?_
      refine jAloadn C dX9_trace_20 rfl 0 rfl ?_
      refine jIloadn C dX9_trace_21 rfl 1 rfl ?_
      obtain ⟨q7, e8, hf⟩ := bd1_some hf
      refine jVI C (X9_points_ok  e8) vb_X9_points mk_RX9_78 rfl rcM ⟨Nat.le_of_ble_eq_true rfl, Nat.le_of_ble_eq_true rfl⟩ rfl (Nat.le_of_ble_eq_true rfl) dX9_trace_22 ?_
      obtain ⟨mfrp_9, mfre_10, e11, hf⟩ := bd2_some hf
      refine jVV C (X9_clearsFresh_ok  e11) vb_X9_clearsFresh mk_RX9_176 rfl rcM ⟨Nat.le_of_ble_eq_true rfl, Nat.le_of_ble_eq_true rfl⟩ rfl (Nat.le_of_ble_eq_true rfl) dX9_trace_25 ?_
      refine jIconst C (0 : Int32) dX9_trace_28 ki_0 ?_
      refine jIstore C dX9_trace_29 (Nat.le_of_ble_eq_true rfl) [(4, .int (0 : Int32)), (0, .ref (h 0)), (1, .int p1), (2, .int p2), (3, .int p3)] rfl ?_
      have hL14 : ∀ (x4_12 : Int32) (mfre_13 : Nat → Int32), lfp2 (X9_trace_h31 mfrp_9 mact mnow mkep p3 p1 p2) x4_12 mfre_13 = some (rr, omfrp, omact, omnow, omfre, omkep) → J p l e (rmk 4) s m args below meth c D A Q 5 (mw h cy mthr mfrp_9 mact mtpd msiz matx mfrm mtok mval mfk mfpl mbem mtrs mtrl mrom mtom mnow mfre_13 mkep mtap mlef mtak mbes mrow mint mrnd mplo mhio mtox mtol) 31 [(0, .ref (h 0)), (1, .int p1), (2, .int p2), (3, .int p3), (4, .int x4_12)] [] := by
        intro x4_12 mfre_13 hw
        refine lfp2_walk (P := fun x4_12 mfre_13 => J p l e (rmk 4) s m args below meth c D A Q 5 (mw h cy mthr mfrp_9 mact mtpd msiz matx mfrm mtok mval mfk mfpl mbem mtrs mtrl mrom mtom mnow mfre_13 mkep mtap mlef mtak mbes mrow mint mrnd mplo mhio mtox mtol) 31 [(0, .ref (h 0)), (1, .int p1), (2, .int p2), (3, .int p3), (4, .int x4_12)] []) ?_ hw
        intro r15 ir15 x4_12 mfre_13 hf
        unfold X9_trace_h31 at hf
        refine jIload C dX9_trace_31 4 rfl ?_
        refine jSipush C (128 : Int32) dX9_trace_33 ks_128 ?_
        refine jCmpGe C 65 dX9_trace_36 (by decide) (fun c16 => ?_) (fun c16 => ?_)
        · replace hf := itp hf c16
          refine jAloadn C dX9_trace_65 rfl 0 rfl ?_
          refine jIloadn C dX9_trace_66 rfl 3 rfl ?_
          obtain ⟨q17, mact_18, mnow_19, mkep_20, e21, hf⟩ := bd4_some hf
          refine jVI C (X9_comes_ok  e21) vb_X9_comes mk_RX9_188 rfl rcM ⟨Nat.le_of_ble_eq_true rfl, Nat.le_of_ble_eq_true rfl⟩ rfl (Nat.le_of_ble_eq_true rfl) dX9_trace_67 ?_
          cases hf
          exact jEndI C hQ rfl dX9_trace_70
        · replace hf := itn hf c16
          refine jAloadn C dX9_trace_39 rfl 0 rfl ?_
          refine jIloadn C dX9_trace_40 rfl 1 rfl ?_
          refine jIload C dX9_trace_41 4 rfl ?_
          obtain ⟨q22, e23, hf⟩ := bd1_some hf
          refine jVI C (X9_isIn_ok  e23) vb_X9_isIn mk_RX9_81 rfl rcM ⟨Nat.le_of_ble_eq_true rfl, Nat.le_of_ble_eq_true rfl⟩ rfl (Nat.le_of_ble_eq_true rfl) dX9_trace_43 ?_
          refine jIfEq C 59 dX9_trace_46 (by decide) (fun c24 => ?_) (fun c24 => ?_)
          · replace hf := itp hf c24
            refine jIinc C (x4_12 + (1 : Int32)) dX9_trace_59 4 rfl (congrArg (fun z : Int32 => x4_12 + z) ki_1) (Nat.le_of_ble_eq_true rfl) [(4, .int (x4_12 + (1 : Int32))), (0, .ref (h 0)), (1, .int p1), (2, .int p2), (3, .int p3)] rfl ?_
            refine jGoto C 31 dX9_trace_62 (by decide) ?_
            refine jSub [1, 2, 3, 4, 0] rfl ?_
            exact ir15 (x4_12 + (1 : Int32)) mfre_13 hf
          · replace hf := itn hf c24
            refine jAloadn C dX9_trace_49 rfl 0 rfl ?_
            refine gf_RX9_13 C dX9_trace_50 ?_
            refine jIload C dX9_trace_53 4 rfl ?_
            refine jIloadn C dX9_trace_55 rfl 2 rfl ?_
            refine jIand C dX9_trace_56 ?_
            refine jIconst C (1 : Int32) dX9_trace_57 ki_1 ?_
            obtain ⟨z25, hf⟩ := gin_some hf
            refine as_mfre C z25 dX9_trace_58 ?_
            refine jIinc C (x4_12 + (1 : Int32)) dX9_trace_59 4 rfl (congrArg (fun z : Int32 => x4_12 + z) ki_1) (Nat.le_of_ble_eq_true rfl) [(4, .int (x4_12 + (1 : Int32))), (0, .ref (h 0)), (1, .int p1), (2, .int p2), (3, .int p3)] rfl ?_
            refine jGoto C 31 dX9_trace_62 (by decide) ?_
            refine jSub [1, 2, 3, 4, 0] rfl ?_
            exact ir15 (x4_12 + (1 : Int32)) (upd mfre_13 (x4_12 &&& p2).toNatClampNeg (vp_nar .boolean (1 : Int32))) hf
      refine jSub [1, 2, 3, 4, 0] rfl ?_
      exact hL14 (0 : Int32) mfre_10 hf
    · replace hf := itp hf c6
      refine jBipush C (-2 : Int32) dX9_trace_16 kb_m2 ?_
      cases hf
      exact jEndI C hQ rfl dX9_trace_18
noncomputable def X9_joint_h190 (r31 : Int32 → (Nat → Int32) → Option (Int32 × Int32 × Int32 × (Nat → Int32) × (Nat → Int32) × (Nat → Int32))) (x5_28 : Int32) (mnow : Nat → Int32) (p1 : Int32) (p2 : Int32) (r47 : Int32 → (Nat → Int32) → Option (Int32 × Int32 × Int32 × (Nat → Int32) × (Nat → Int32) × (Nat → Int32))) (x6_44 : Int32) (mfre_45 : Nat → Int32) : Option (Int32 × Int32 × Int32 × (Nat → Int32) × (Nat → Int32) × (Nat → Int32)) := (if (128 : Int32) ≤ x6_44 then r31 (x5_28 + (1 : Int32)) mfre_45 else bd1 (X9_isIn mnow p1 x5_28) (fun q49 => (if q49 = (0 : Int32) then r47 (x6_44 + (1 : Int32)) mfre_45 else bd1 (X9_isIn mnow p2 x6_44) (fun q52 => (if q52 = (0 : Int32) then r47 (x6_44 + (1 : Int32)) mfre_45 else gin (x5_28 ||| x6_44) 128 (r47 (x6_44 + (1 : Int32)) (upd mfre_45 (x5_28 ||| x6_44).toNatClampNeg (vp_nar .boolean (1 : Int32)))))))))
noncomputable def X9_joint_h174 (mfrp_20 : Int32) (mact : Int32) (mnow : Nat → Int32) (mkep : Nat → Int32) (p4 : Int32) (p3 : Int32) (p1 : Int32) (p2 : Int32) (r31 : Int32 → (Nat → Int32) → Option (Int32 × Int32 × Int32 × (Nat → Int32) × (Nat → Int32) × (Nat → Int32))) (x5_28 : Int32) (mfre_29 : Nat → Int32) : Option (Int32 × Int32 × Int32 × (Nat → Int32) × (Nat → Int32) × (Nat → Int32)) := (if (128 : Int32) ≤ x5_28 then bd4 (X9_comes mfrp_20 mact mnow mfre_29 mkep p4) (fun q33 mact_34 mnow_35 mkep_36 => some (q33, mfrp_20, mact_34, mnow_35, mfre_29, mkep_36)) else (if p3 = (3 : Int32) then lfp2 (X9_joint_h190 r31 x5_28 mnow p1 p2) (0 : Int32) mfre_29 else bd4 (X9_comes mfrp_20 mact mnow mfre_29 mkep p4) (fun q39 mact_40 mnow_41 mkep_42 => some (q39, mfrp_20, mact_40, mnow_41, mfre_29, mkep_42))))
noncomputable def X9_joint_h67 (mfrp_20 : Int32) (mact : Int32) (mnow : Nat → Int32) (mkep : Nat → Int32) (p4 : Int32) (p3 : Int32) (p1 : Int32) (p2 : Int32) (r26 : Int32 → (Nat → Int32) → Option (Int32 × Int32 × Int32 × (Nat → Int32) × (Nat → Int32) × (Nat → Int32))) (x5_23 : Int32) (mfre_24 : Nat → Int32) : Option (Int32 × Int32 × Int32 × (Nat → Int32) × (Nat → Int32) × (Nat → Int32)) := (if (128 : Int32) ≤ x5_23 then lfp2 (X9_joint_h174 mfrp_20 mact mnow mkep p4 p3 p1 p2) (0 : Int32) mfre_24 else bd1 (X9_isIn mnow p1 x5_23) (fun q56 => bd1 (X9_isIn mnow p2 x5_23) (fun q58 => (if (3 : Int32) ≤ p3 then r26 (x5_23 + (1 : Int32)) mfre_24 else (if p3 = (0 : Int32) then (if q56 = (0 : Int32) then (if q58 = (0 : Int32) then gin x5_23 128 (r26 (x5_23 + (1 : Int32)) (upd mfre_24 x5_23.toNatClampNeg (vp_nar .boolean (0 : Int32)))) else gin x5_23 128 (r26 (x5_23 + (1 : Int32)) (upd mfre_24 x5_23.toNatClampNeg (vp_nar .boolean (1 : Int32))))) else gin x5_23 128 (r26 (x5_23 + (1 : Int32)) (upd mfre_24 x5_23.toNatClampNeg (vp_nar .boolean (1 : Int32))))) else (if p3 = (1 : Int32) then (if q56 = (0 : Int32) then gin x5_23 128 (r26 (x5_23 + (1 : Int32)) (upd mfre_24 x5_23.toNatClampNeg (vp_nar .boolean (0 : Int32)))) else (if q58 = (0 : Int32) then gin x5_23 128 (r26 (x5_23 + (1 : Int32)) (upd mfre_24 x5_23.toNatClampNeg (vp_nar .boolean (0 : Int32)))) else gin x5_23 128 (r26 (x5_23 + (1 : Int32)) (upd mfre_24 x5_23.toNatClampNeg (vp_nar .boolean (1 : Int32)))))) else (if q56 = (0 : Int32) then gin x5_23 128 (r26 (x5_23 + (1 : Int32)) (upd mfre_24 x5_23.toNatClampNeg (vp_nar .boolean (0 : Int32)))) else (if q58 = (0 : Int32) then gin x5_23 128 (r26 (x5_23 + (1 : Int32)) (upd mfre_24 x5_23.toNatClampNeg (vp_nar .boolean (1 : Int32)))) else gin x5_23 128 (r26 (x5_23 + (1 : Int32)) (upd mfre_24 x5_23.toNatClampNeg (vp_nar .boolean (0 : Int32))))))))))))
noncomputable def X9_joint (mfrp : Int32) (mact : Int32) (mnow : Nat → Int32) (mfre : Nat → Int32) (mkep : Nat → Int32) (p1 : Int32) (p2 : Int32) (p3 : Int32) (p4 : Int32) : Option (Int32 × Int32 × Int32 × (Nat → Int32) × (Nat → Int32) × (Nat → Int32)) := bd1 (X9_hasOne mnow p1) (fun q1 => (if q1 = (0 : Int32) then some ((-2 : Int32), mfrp, mact, mnow, mfre, mkep) else bd1 (X9_hasOne mnow p2) (fun q4 => (if q4 = (0 : Int32) then some ((-2 : Int32), mfrp, mact, mnow, mfre, mkep) else bd1 (X9_in (p3.toInt64) (0 : Int64) (3 : Int64)) (fun q7 => (if q7 = (0 : Int32) then some ((-2 : Int32), mfrp, mact, mnow, mfre, mkep) else bd1 (X9_isSlot p4) (fun q10 => (if q10 = (0 : Int32) then some ((-2 : Int32), mfrp, mact, mnow, mfre, mkep) else bd1 (X9_points mnow p1) (fun q13 => bd1 (X9_points mnow p2) (fun q15 => (if q13 = q15 then bd1 (X9_points mnow p1) (fun q18 => bd2 (X9_clearsFresh mfre q18) (fun mfrp_20 mfre_21 => lfp2 (X9_joint_h67 mfrp_20 mact mnow mkep p4 p3 p1 p2) (0 : Int32) mfre_21)) else some ((-6 : Int32), mfrp, mact, mnow, mfre, mkep))))))))))))
set_option maxHeartbeats 4000000 in
set_option maxRecDepth 20000 in
theorem X9_joint_ok {p1 : Int32} {p2 : Int32} {p3 : Int32} {p4 : Int32} {rr : Int32} {omfrp : Int32} {omact : Int32} {omnow : Nat → Int32} {omfre : Nat → Int32} {omkep : Nat → Int32}  (hf : X9_joint mfrp mact mnow mfre mkep p1 p2 p3 p4 = some (rr, omfrp, omact, omnow, omfre, omkep)) : MT yX9_joint cX9_joint 8 (some .int) 4 [.ref (h 0), .int p1, .int p2, .int p3, .int p4] D cy G (mw h cy mthr mfrp mact mtpd msiz matx mfrm mtok mval mfk mfpl mbem mtrs mtrl mrom mtom mnow mfre mkep mtap mlef mtak mbes mrow mint mrnd mplo mhio mtox mtol) (mw h cy mthr omfrp omact mtpd msiz matx mfrm mtok mval mfk mfpl mbem mtrs mtrl mrom mtom omnow omfre omkep mtap mlef mtak mbes mrow mint mrnd mplo mhio mtox mtol) (some (.int rr)) := by
  refine MT.go (own := RX9) [(0, .ref (h 0)), (1, .int p1), (2, .int p2), (3, .int p3), (4, .int p4)] (by decide) rfl (Nat.le_of_ble_eq_true rfl) rfl (fun p l e s m args below meth c A Q C hQ => ?_)
  unfold X9_joint at hf
  refine jAloadn C dX9_joint_0 rfl 0 rfl ?_
  refine jIloadn C dX9_joint_1 rfl 1 rfl ?_
  obtain ⟨q1, e2, hf⟩ := bd1_some hf
  refine jVI C (X9_hasOne_ok  e2) vb_X9_hasOne mk_RX9_75 rfl rcM ⟨Nat.le_of_ble_eq_true rfl, Nat.le_of_ble_eq_true rfl⟩ rfl (Nat.le_of_ble_eq_true rfl) dX9_joint_2 ?_
  refine jIfEq C 36 dX9_joint_5 (by decide) (fun c3 => ?_) (fun c3 => ?_)
  · replace hf := itp hf c3
    refine jBipush C (-2 : Int32) dX9_joint_36 kb_m2 ?_
    cases hf
    exact jEndI C hQ rfl dX9_joint_38
  · replace hf := itn hf c3
    refine jAloadn C dX9_joint_8 rfl 0 rfl ?_
    refine jIloadn C dX9_joint_9 rfl 2 rfl ?_
    obtain ⟨q4, e5, hf⟩ := bd1_some hf
    refine jVI C (X9_hasOne_ok  e5) vb_X9_hasOne mk_RX9_75 rfl rcM ⟨Nat.le_of_ble_eq_true rfl, Nat.le_of_ble_eq_true rfl⟩ rfl (Nat.le_of_ble_eq_true rfl) dX9_joint_10 ?_
    refine jIfEq C 36 dX9_joint_13 (by decide) (fun c6 => ?_) (fun c6 => ?_)
    · replace hf := itp hf c6
      refine jBipush C (-2 : Int32) dX9_joint_36 kb_m2 ?_
      cases hf
      exact jEndI C hQ rfl dX9_joint_38
    · replace hf := itn hf c6
      refine jIloadn C dX9_joint_16 rfl 3 rfl ?_
      refine jI2l C dX9_joint_17 ?_
      refine jLconst C (0 : Int64) dX9_joint_18 rfl ?_
      refine jLdc2 C (x := (3 : Int64)) lk_RX9_308 dX9_joint_19 ?_
      obtain ⟨q7, e8, hf⟩ := bd1_some hf
      refine jSI C (X9_in_ok  e8) sb_X9_in mk_RX9_63 rfl ⟨Nat.le_of_ble_eq_true rfl, Nat.le_of_ble_eq_true rfl⟩ rfl (Nat.le_of_ble_eq_true rfl) dX9_joint_22 ?_
      refine jIfEq C 36 dX9_joint_25 (by decide) (fun c9 => ?_) (fun c9 => ?_)
      · replace hf := itp hf c9
        refine jBipush C (-2 : Int32) dX9_joint_36 kb_m2 ?_
        cases hf
        exact jEndI C hQ rfl dX9_joint_38
      · replace hf := itn hf c9
        refine jIload C dX9_joint_28 4 rfl ?_
        obtain ⟨q10, e11, hf⟩ := bd1_some hf
        refine jSI C (X9_isSlot_ok  e11) sb_X9_isSlot mk_RX9_67 rfl ⟨Nat.le_of_ble_eq_true rfl, Nat.le_of_ble_eq_true rfl⟩ rfl (Nat.le_of_ble_eq_true rfl) dX9_joint_30 ?_
        refine jIfNe C 39 dX9_joint_33 (by decide) (fun c12 => ?_) (fun c12 => ?_)
        · replace hf := itn hf c12
          refine jAloadn C dX9_joint_39 rfl 0 rfl ?_
          refine jIloadn C dX9_joint_40 rfl 1 rfl ?_
          obtain ⟨q13, e14, hf⟩ := bd1_some hf
          refine jVI C (X9_points_ok  e14) vb_X9_points mk_RX9_78 rfl rcM ⟨Nat.le_of_ble_eq_true rfl, Nat.le_of_ble_eq_true rfl⟩ rfl (Nat.le_of_ble_eq_true rfl) dX9_joint_41 ?_
          refine jAloadn C dX9_joint_44 rfl 0 rfl ?_
          refine jIloadn C dX9_joint_45 rfl 2 rfl ?_
          obtain ⟨q15, e16, hf⟩ := bd1_some hf
          refine jVI C (X9_points_ok  e16) vb_X9_points mk_RX9_78 rfl rcM ⟨Nat.le_of_ble_eq_true rfl, Nat.le_of_ble_eq_true rfl⟩ rfl (Nat.le_of_ble_eq_true rfl) dX9_joint_46 ?_
          refine jCmpEq C 55 dX9_joint_49 (by decide) (fun c17 => ?_) (fun c17 => ?_)
          · replace hf := itp hf c17
            refine jAloadn C dX9_joint_55 rfl 0 rfl ?_
            refine jAloadn C dX9_joint_56 rfl 0 rfl ?_
            refine jIloadn C dX9_joint_57 rfl 1 rfl ?_
            obtain ⟨q18, e19, hf⟩ := bd1_some hf
            refine jVI C (X9_points_ok  e19) vb_X9_points mk_RX9_78 rfl rcM ⟨Nat.le_of_ble_eq_true rfl, Nat.le_of_ble_eq_true rfl⟩ rfl (Nat.le_of_ble_eq_true rfl) dX9_joint_58 ?_
            obtain ⟨mfrp_20, mfre_21, e22, hf⟩ := bd2_some hf
            refine jVV C (X9_clearsFresh_ok  e22) vb_X9_clearsFresh mk_RX9_176 rfl rcM ⟨Nat.le_of_ble_eq_true rfl, Nat.le_of_ble_eq_true rfl⟩ rfl (Nat.le_of_ble_eq_true rfl) dX9_joint_61 ?_
            refine jIconst C (0 : Int32) dX9_joint_64 ki_0 ?_
            refine jIstore C dX9_joint_65 (Nat.le_of_ble_eq_true rfl) [(5, .int (0 : Int32)), (0, .ref (h 0)), (1, .int p1), (2, .int p2), (3, .int p3), (4, .int p4)] rfl ?_
            have hL25 : ∀ (x5_23 : Int32) (mfre_24 : Nat → Int32), lfp2 (X9_joint_h67 mfrp_20 mact mnow mkep p4 p3 p1 p2) x5_23 mfre_24 = some (rr, omfrp, omact, omnow, omfre, omkep) → J p l e (rmk 4) s m args below meth c D A Q 8 (mw h cy mthr mfrp_20 mact mtpd msiz matx mfrm mtok mval mfk mfpl mbem mtrs mtrl mrom mtom mnow mfre_24 mkep mtap mlef mtak mbes mrow mint mrnd mplo mhio mtox mtol) 67 [(0, .ref (h 0)), (1, .int p1), (2, .int p2), (3, .int p3), (4, .int p4), (5, .int x5_23)] [] := by
              intro x5_23 mfre_24 hw
              refine lfp2_walk (P := fun x5_23 mfre_24 => J p l e (rmk 4) s m args below meth c D A Q 8 (mw h cy mthr mfrp_20 mact mtpd msiz matx mfrm mtok mval mfk mfpl mbem mtrs mtrl mrom mtom mnow mfre_24 mkep mtap mlef mtak mbes mrow mint mrnd mplo mhio mtox mtol) 67 [(0, .ref (h 0)), (1, .int p1), (2, .int p2), (3, .int p3), (4, .int p4), (5, .int x5_23)] []) ?_ hw
              intro r26 ir26 x5_23 mfre_24 hf
              unfold X9_joint_h67 at hf
              refine jIload C dX9_joint_67 5 rfl ?_
              refine jSipush C (128 : Int32) dX9_joint_69 ks_128 ?_
              refine jCmpGe C 171 dX9_joint_72 (by decide) (fun c27 => ?_) (fun c27 => ?_)
              · replace hf := itp hf c27
                refine jIconst C (0 : Int32) dX9_joint_171 ki_0 ?_
                refine jIstore C dX9_joint_172 (Nat.le_of_ble_eq_true rfl) [(5, .int (0 : Int32)), (0, .ref (h 0)), (1, .int p1), (2, .int p2), (3, .int p3), (4, .int p4)] rfl ?_
                have hL30 : ∀ (x5_28 : Int32) (mfre_29 : Nat → Int32), lfp2 (X9_joint_h174 mfrp_20 mact mnow mkep p4 p3 p1 p2) x5_28 mfre_29 = some (rr, omfrp, omact, omnow, omfre, omkep) → J p l e (rmk 4) s m args below meth c D A Q 8 (mw h cy mthr mfrp_20 mact mtpd msiz matx mfrm mtok mval mfk mfpl mbem mtrs mtrl mrom mtom mnow mfre_29 mkep mtap mlef mtak mbes mrow mint mrnd mplo mhio mtox mtol) 174 [(0, .ref (h 0)), (1, .int p1), (2, .int p2), (3, .int p3), (4, .int p4), (5, .int x5_28)] [] := by
                  intro x5_28 mfre_29 hw
                  refine lfp2_walk (P := fun x5_28 mfre_29 => J p l e (rmk 4) s m args below meth c D A Q 8 (mw h cy mthr mfrp_20 mact mtpd msiz matx mfrm mtok mval mfk mfpl mbem mtrs mtrl mrom mtom mnow mfre_29 mkep mtap mlef mtak mbes mrow mint mrnd mplo mhio mtox mtol) 174 [(0, .ref (h 0)), (1, .int p1), (2, .int p2), (3, .int p3), (4, .int p4), (5, .int x5_28)] []) ?_ hw
                  intro r31 ir31 x5_28 mfre_29 hf
                  unfold X9_joint_h174 at hf
                  refine jIload C dX9_joint_174 5 rfl ?_
                  refine jSipush C (128 : Int32) dX9_joint_176 ks_128 ?_
                  refine jCmpGe C 241 dX9_joint_179 (by decide) (fun c32 => ?_) (fun c32 => ?_)
                  · replace hf := itp hf c32
                    refine jAloadn C dX9_joint_241 rfl 0 rfl ?_
                    refine jIload C dX9_joint_242 4 rfl ?_
                    obtain ⟨q33, mact_34, mnow_35, mkep_36, e37, hf⟩ := bd4_some hf
                    refine jVI C (X9_comes_ok  e37) vb_X9_comes mk_RX9_188 rfl rcM ⟨Nat.le_of_ble_eq_true rfl, Nat.le_of_ble_eq_true rfl⟩ rfl (Nat.le_of_ble_eq_true rfl) dX9_joint_244 ?_
                    cases hf
                    exact jEndI C hQ rfl dX9_joint_247
                  · replace hf := itn hf c32
                    refine jIloadn C dX9_joint_182 rfl 3 rfl ?_
                    refine jIconst C (3 : Int32) dX9_joint_183 ki_3 ?_
                    refine jCmpNe C 241 dX9_joint_184 (by decide) (fun c38 => ?_) (fun c38 => ?_)
                    · replace hf := itn hf c38
                      refine jAloadn C dX9_joint_241 rfl 0 rfl ?_
                      refine jIload C dX9_joint_242 4 rfl ?_
                      obtain ⟨q39, mact_40, mnow_41, mkep_42, e43, hf⟩ := bd4_some hf
                      refine jVI C (X9_comes_ok  e43) vb_X9_comes mk_RX9_188 rfl rcM ⟨Nat.le_of_ble_eq_true rfl, Nat.le_of_ble_eq_true rfl⟩ rfl (Nat.le_of_ble_eq_true rfl) dX9_joint_244 ?_
                      cases hf
                      exact jEndI C hQ rfl dX9_joint_247
                    · replace hf := itp hf c38
                      refine jIconst C (0 : Int32) dX9_joint_187 ki_0 ?_
                      refine jIstore C dX9_joint_188 (Nat.le_of_ble_eq_true rfl) [(6, .int (0 : Int32)), (0, .ref (h 0)), (1, .int p1), (2, .int p2), (3, .int p3), (4, .int p4), (5, .int x5_28)] rfl ?_
                      have hL46 : ∀ (x6_44 : Int32) (mfre_45 : Nat → Int32), lfp2 (X9_joint_h190 r31 x5_28 mnow p1 p2) x6_44 mfre_45 = some (rr, omfrp, omact, omnow, omfre, omkep) → J p l e (rmk 4) s m args below meth c D A Q 8 (mw h cy mthr mfrp_20 mact mtpd msiz matx mfrm mtok mval mfk mfpl mbem mtrs mtrl mrom mtom mnow mfre_45 mkep mtap mlef mtak mbes mrow mint mrnd mplo mhio mtox mtol) 190 [(0, .ref (h 0)), (1, .int p1), (2, .int p2), (3, .int p3), (4, .int p4), (5, .int x5_28), (6, .int x6_44)] [] := by
                        intro x6_44 mfre_45 hw
                        refine lfp2_walk (P := fun x6_44 mfre_45 => J p l e (rmk 4) s m args below meth c D A Q 8 (mw h cy mthr mfrp_20 mact mtpd msiz matx mfrm mtok mval mfk mfpl mbem mtrs mtrl mrom mtom mnow mfre_45 mkep mtap mlef mtak mbes mrow mint mrnd mplo mhio mtox mtol) 190 [(0, .ref (h 0)), (1, .int p1), (2, .int p2), (3, .int p3), (4, .int p4), (5, .int x5_28), (6, .int x6_44)] []) ?_ hw
                        intro r47 ir47 x6_44 mfre_45 hf
                        unfold X9_joint_h190 at hf
                        refine jIload C dX9_joint_190 6 rfl ?_
                        refine jSipush C (128 : Int32) dX9_joint_192 ks_128 ?_
                        refine jCmpGe C 235 dX9_joint_195 (by decide) (fun c48 => ?_) (fun c48 => ?_)
                        · replace hf := itp hf c48
                          refine jIinc C (x5_28 + (1 : Int32)) dX9_joint_235 5 rfl (congrArg (fun z : Int32 => x5_28 + z) ki_1) (Nat.le_of_ble_eq_true rfl) [(5, .int (x5_28 + (1 : Int32))), (0, .ref (h 0)), (1, .int p1), (2, .int p2), (3, .int p3), (4, .int p4), (6, .int x6_44)] rfl ?_
                          refine jGoto C 174 dX9_joint_238 (by decide) ?_
                          refine jSub [1, 2, 3, 4, 5, 0] rfl ?_
                          exact ir31 (x5_28 + (1 : Int32)) mfre_45 hf
                        · replace hf := itn hf c48
                          refine jAloadn C dX9_joint_198 rfl 0 rfl ?_
                          refine jIloadn C dX9_joint_199 rfl 1 rfl ?_
                          refine jIload C dX9_joint_200 5 rfl ?_
                          obtain ⟨q49, e50, hf⟩ := bd1_some hf
                          refine jVI C (X9_isIn_ok  e50) vb_X9_isIn mk_RX9_81 rfl rcM ⟨Nat.le_of_ble_eq_true rfl, Nat.le_of_ble_eq_true rfl⟩ rfl (Nat.le_of_ble_eq_true rfl) dX9_joint_202 ?_
                          refine jIfEq C 229 dX9_joint_205 (by decide) (fun c51 => ?_) (fun c51 => ?_)
                          · replace hf := itp hf c51
                            refine jIinc C (x6_44 + (1 : Int32)) dX9_joint_229 6 rfl (congrArg (fun z : Int32 => x6_44 + z) ki_1) (Nat.le_of_ble_eq_true rfl) [(6, .int (x6_44 + (1 : Int32))), (0, .ref (h 0)), (1, .int p1), (2, .int p2), (3, .int p3), (4, .int p4), (5, .int x5_28)] rfl ?_
                            refine jGoto C 190 dX9_joint_232 (by decide) ?_
                            refine jSub [1, 2, 3, 4, 5, 6, 0] rfl ?_
                            exact ir47 (x6_44 + (1 : Int32)) mfre_45 hf
                          · replace hf := itn hf c51
                            refine jAloadn C dX9_joint_208 rfl 0 rfl ?_
                            refine jIloadn C dX9_joint_209 rfl 2 rfl ?_
                            refine jIload C dX9_joint_210 6 rfl ?_
                            obtain ⟨q52, e53, hf⟩ := bd1_some hf
                            refine jVI C (X9_isIn_ok  e53) vb_X9_isIn mk_RX9_81 rfl rcM ⟨Nat.le_of_ble_eq_true rfl, Nat.le_of_ble_eq_true rfl⟩ rfl (Nat.le_of_ble_eq_true rfl) dX9_joint_212 ?_
                            refine jIfEq C 229 dX9_joint_215 (by decide) (fun c54 => ?_) (fun c54 => ?_)
                            · replace hf := itp hf c54
                              refine jIinc C (x6_44 + (1 : Int32)) dX9_joint_229 6 rfl (congrArg (fun z : Int32 => x6_44 + z) ki_1) (Nat.le_of_ble_eq_true rfl) [(6, .int (x6_44 + (1 : Int32))), (0, .ref (h 0)), (1, .int p1), (2, .int p2), (3, .int p3), (4, .int p4), (5, .int x5_28)] rfl ?_
                              refine jGoto C 190 dX9_joint_232 (by decide) ?_
                              refine jSub [1, 2, 3, 4, 5, 6, 0] rfl ?_
                              exact ir47 (x6_44 + (1 : Int32)) mfre_45 hf
                            · replace hf := itn hf c54
                              refine jAloadn C dX9_joint_218 rfl 0 rfl ?_
                              refine gf_RX9_13 C dX9_joint_219 ?_
                              refine jIload C dX9_joint_222 5 rfl ?_
                              refine jIload C dX9_joint_224 6 rfl ?_
                              refine jIor C dX9_joint_226 ?_
                              refine jIconst C (1 : Int32) dX9_joint_227 ki_1 ?_
                              obtain ⟨z55, hf⟩ := gin_some hf
                              refine as_mfre C z55 dX9_joint_228 ?_
                              refine jIinc C (x6_44 + (1 : Int32)) dX9_joint_229 6 rfl (congrArg (fun z : Int32 => x6_44 + z) ki_1) (Nat.le_of_ble_eq_true rfl) [(6, .int (x6_44 + (1 : Int32))), (0, .ref (h 0)), (1, .int p1), (2, .int p2), (3, .int p3), (4, .int p4), (5, .int x5_28)] rfl ?_
                              refine jGoto C 190 dX9_joint_232 (by decide) ?_
                              refine jSub [1, 2, 3, 4, 5, 6, 0] rfl ?_
                              exact ir47 (x6_44 + (1 : Int32)) (upd mfre_45 (x5_28 ||| x6_44).toNatClampNeg (vp_nar .boolean (1 : Int32))) hf
                      refine jSub [1, 2, 3, 4, 5, 6, 0] rfl ?_
                      exact hL46 (0 : Int32) mfre_29 hf
                refine jSub [1, 2, 3, 4, 5, 0] rfl ?_
                exact hL30 (0 : Int32) mfre_24 hf
              · replace hf := itn hf c27
                refine jAloadn C dX9_joint_75 rfl 0 rfl ?_
                refine jIloadn C dX9_joint_76 rfl 1 rfl ?_
                refine jIload C dX9_joint_77 5 rfl ?_
                obtain ⟨q56, e57, hf⟩ := bd1_some hf
                refine jVI C (X9_isIn_ok  e57) vb_X9_isIn mk_RX9_81 rfl rcM ⟨Nat.le_of_ble_eq_true rfl, Nat.le_of_ble_eq_true rfl⟩ rfl (Nat.le_of_ble_eq_true rfl) dX9_joint_79 ?_
                refine jIstore C dX9_joint_82 (Nat.le_of_ble_eq_true rfl) [(6, .int q56), (0, .ref (h 0)), (1, .int p1), (2, .int p2), (3, .int p3), (4, .int p4), (5, .int x5_23)] rfl ?_
                refine jAloadn C dX9_joint_84 rfl 1 rfl ?_
                refine jIloadn C dX9_joint_85 rfl 3 rfl ?_
                refine jIload C dX9_joint_86 6 rfl ?_
                obtain ⟨q58, e59, hf⟩ := bd1_some hf
                refine jVI C (X9_isIn_ok  e59) vb_X9_isIn mk_RX9_81 rfl rcM ⟨Nat.le_of_ble_eq_true rfl, Nat.le_of_ble_eq_true rfl⟩ rfl (Nat.le_of_ble_eq_true rfl) dX9_joint_88 ?_
                refine jIstore C dX9_joint_91 (Nat.le_of_ble_eq_true rfl) [(7, .int q58), (6, .int q56), (0, .ref (h 0)), (1, .int p1), (2, .int p2), (3, .int p3), (4, .int p4), (5, .int x5_23)] rfl ?_
                refine jIloadn C dX9_joint_93 rfl 5 rfl ?_
                refine jIconst C (3 : Int32) dX9_joint_94 ki_3 ?_
                refine jCmpGe C 165 dX9_joint_95 (by decide) (fun c60 => ?_) (fun c60 => ?_)
                · replace hf := itp hf c60
                  refine jIinc C (x5_23 + (1 : Int32)) dX9_joint_165 7 rfl (congrArg (fun z : Int32 => x5_23 + z) ki_1) (Nat.le_of_ble_eq_true rfl) [(5, .int (x5_23 + (1 : Int32))), (7, .int q58), (6, .int q56), (0, .ref (h 0)), (1, .int p1), (2, .int p2), (3, .int p3), (4, .int p4)] rfl ?_
                  refine jGoto C 67 dX9_joint_168 (by decide) ?_
                  refine jSub [3, 4, 5, 6, 7, 0] rfl ?_
                  exact ir26 (x5_23 + (1 : Int32)) mfre_24 hf
                · replace hf := itn hf c60
                  refine jAloadn C dX9_joint_98 rfl 2 rfl ?_
                  refine gf_RX9_13 C dX9_joint_99 ?_
                  refine jIload C dX9_joint_102 7 rfl ?_
                  refine jIloadn C dX9_joint_104 rfl 5 rfl ?_
                  refine jIfNe C 126 dX9_joint_105 (by decide) (fun c61 => ?_) (fun c61 => ?_)
                  · replace hf := itn hf c61
                    refine jIloadn C dX9_joint_126 rfl 5 rfl ?_
                    refine jIconst C (1 : Int32) dX9_joint_127 ki_1 ?_
                    refine jCmpNe C 149 dX9_joint_128 (by decide) (fun c62 => ?_) (fun c62 => ?_)
                    · replace hf := itn hf c62
                      refine jIload C dX9_joint_149 1 rfl ?_
                      refine jIfEq C 163 dX9_joint_151 (by decide) (fun c63 => ?_) (fun c63 => ?_)
                      · replace hf := itp hf c63
                        refine jIconst C (0 : Int32) dX9_joint_163 ki_0 ?_
                        obtain ⟨z64, hf⟩ := gin_some hf
                        refine as_mfre C z64 dX9_joint_164 ?_
                        refine jIinc C (x5_23 + (1 : Int32)) dX9_joint_165 7 rfl (congrArg (fun z : Int32 => x5_23 + z) ki_1) (Nat.le_of_ble_eq_true rfl) [(5, .int (x5_23 + (1 : Int32))), (7, .int q58), (6, .int q56), (0, .ref (h 0)), (1, .int p1), (2, .int p2), (3, .int p3), (4, .int p4)] rfl ?_
                        refine jGoto C 67 dX9_joint_168 (by decide) ?_
                        refine jSub [3, 4, 5, 6, 7, 0] rfl ?_
                        exact ir26 (x5_23 + (1 : Int32)) (upd mfre_24 x5_23.toNatClampNeg (vp_nar .boolean (0 : Int32))) hf
                      · replace hf := itn hf c63
                        refine jIload C dX9_joint_154 0 rfl ?_
                        refine jIfNe C 163 dX9_joint_156 (by decide) (fun c65 => ?_) (fun c65 => ?_)
                        · replace hf := itn hf c65
                          refine jIconst C (0 : Int32) dX9_joint_163 ki_0 ?_
                          obtain ⟨z66, hf⟩ := gin_some hf
                          refine as_mfre C z66 dX9_joint_164 ?_
                          refine jIinc C (x5_23 + (1 : Int32)) dX9_joint_165 7 rfl (congrArg (fun z : Int32 => x5_23 + z) ki_1) (Nat.le_of_ble_eq_true rfl) [(5, .int (x5_23 + (1 : Int32))), (7, .int q58), (6, .int q56), (0, .ref (h 0)), (1, .int p1), (2, .int p2), (3, .int p3), (4, .int p4)] rfl ?_
                          refine jGoto C 67 dX9_joint_168 (by decide) ?_
                          refine jSub [3, 4, 5, 6, 7, 0] rfl ?_
                          exact ir26 (x5_23 + (1 : Int32)) (upd mfre_24 x5_23.toNatClampNeg (vp_nar .boolean (0 : Int32))) hf
                        · replace hf := itp hf c65
                          refine jIconst C (1 : Int32) dX9_joint_159 ki_1 ?_
                          refine jGoto C 164 dX9_joint_160 (by decide) ?_
                          obtain ⟨z67, hf⟩ := gin_some hf
                          refine as_mfre C z67 dX9_joint_164 ?_
                          refine jIinc C (x5_23 + (1 : Int32)) dX9_joint_165 7 rfl (congrArg (fun z : Int32 => x5_23 + z) ki_1) (Nat.le_of_ble_eq_true rfl) [(5, .int (x5_23 + (1 : Int32))), (7, .int q58), (6, .int q56), (0, .ref (h 0)), (1, .int p1), (2, .int p2), (3, .int p3), (4, .int p4)] rfl ?_
                          refine jGoto C 67 dX9_joint_168 (by decide) ?_
                          refine jSub [3, 4, 5, 6, 7, 0] rfl ?_
                          exact ir26 (x5_23 + (1 : Int32)) (upd mfre_24 x5_23.toNatClampNeg (vp_nar .boolean (1 : Int32))) hf
                    · replace hf := itp hf c62
                      refine jIload C dX9_joint_131 1 rfl ?_
                      refine jIfEq C 145 dX9_joint_133 (by decide) (fun c68 => ?_) (fun c68 => ?_)
                      · replace hf := itp hf c68
                        refine jIconst C (0 : Int32) dX9_joint_145 ki_0 ?_
                        refine jGoto C 164 dX9_joint_146 (by decide) ?_
                        obtain ⟨z69, hf⟩ := gin_some hf
                        refine as_mfre C z69 dX9_joint_164 ?_
                        refine jIinc C (x5_23 + (1 : Int32)) dX9_joint_165 7 rfl (congrArg (fun z : Int32 => x5_23 + z) ki_1) (Nat.le_of_ble_eq_true rfl) [(5, .int (x5_23 + (1 : Int32))), (7, .int q58), (6, .int q56), (0, .ref (h 0)), (1, .int p1), (2, .int p2), (3, .int p3), (4, .int p4)] rfl ?_
                        refine jGoto C 67 dX9_joint_168 (by decide) ?_
                        refine jSub [3, 4, 5, 6, 7, 0] rfl ?_
                        exact ir26 (x5_23 + (1 : Int32)) (upd mfre_24 x5_23.toNatClampNeg (vp_nar .boolean (0 : Int32))) hf
                      · replace hf := itn hf c68
                        refine jIload C dX9_joint_136 0 rfl ?_
                        refine jIfEq C 145 dX9_joint_138 (by decide) (fun c70 => ?_) (fun c70 => ?_)
                        · replace hf := itp hf c70
                          refine jIconst C (0 : Int32) dX9_joint_145 ki_0 ?_
                          refine jGoto C 164 dX9_joint_146 (by decide) ?_
                          obtain ⟨z71, hf⟩ := gin_some hf
                          refine as_mfre C z71 dX9_joint_164 ?_
                          refine jIinc C (x5_23 + (1 : Int32)) dX9_joint_165 7 rfl (congrArg (fun z : Int32 => x5_23 + z) ki_1) (Nat.le_of_ble_eq_true rfl) [(5, .int (x5_23 + (1 : Int32))), (7, .int q58), (6, .int q56), (0, .ref (h 0)), (1, .int p1), (2, .int p2), (3, .int p3), (4, .int p4)] rfl ?_
                          refine jGoto C 67 dX9_joint_168 (by decide) ?_
                          refine jSub [3, 4, 5, 6, 7, 0] rfl ?_
                          exact ir26 (x5_23 + (1 : Int32)) (upd mfre_24 x5_23.toNatClampNeg (vp_nar .boolean (0 : Int32))) hf
                        · replace hf := itn hf c70
                          refine jIconst C (1 : Int32) dX9_joint_141 ki_1 ?_
                          refine jGoto C 164 dX9_joint_142 (by decide) ?_
                          obtain ⟨z72, hf⟩ := gin_some hf
                          refine as_mfre C z72 dX9_joint_164 ?_
                          refine jIinc C (x5_23 + (1 : Int32)) dX9_joint_165 7 rfl (congrArg (fun z : Int32 => x5_23 + z) ki_1) (Nat.le_of_ble_eq_true rfl) [(5, .int (x5_23 + (1 : Int32))), (7, .int q58), (6, .int q56), (0, .ref (h 0)), (1, .int p1), (2, .int p2), (3, .int p3), (4, .int p4)] rfl ?_
                          refine jGoto C 67 dX9_joint_168 (by decide) ?_
                          refine jSub [3, 4, 5, 6, 7, 0] rfl ?_
                          exact ir26 (x5_23 + (1 : Int32)) (upd mfre_24 x5_23.toNatClampNeg (vp_nar .boolean (1 : Int32))) hf
                  · replace hf := itp hf c61
                    refine jIload C dX9_joint_108 1 rfl ?_
                    refine jIfNe C 118 dX9_joint_110 (by decide) (fun c73 => ?_) (fun c73 => ?_)
                    · replace hf := itn hf c73
                      refine jIconst C (1 : Int32) dX9_joint_118 ki_1 ?_
                      refine jGoto C 164 dX9_joint_119 (by decide) ?_
                      obtain ⟨z74, hf⟩ := gin_some hf
                      refine as_mfre C z74 dX9_joint_164 ?_
                      refine jIinc C (x5_23 + (1 : Int32)) dX9_joint_165 7 rfl (congrArg (fun z : Int32 => x5_23 + z) ki_1) (Nat.le_of_ble_eq_true rfl) [(5, .int (x5_23 + (1 : Int32))), (7, .int q58), (6, .int q56), (0, .ref (h 0)), (1, .int p1), (2, .int p2), (3, .int p3), (4, .int p4)] rfl ?_
                      refine jGoto C 67 dX9_joint_168 (by decide) ?_
                      refine jSub [3, 4, 5, 6, 7, 0] rfl ?_
                      exact ir26 (x5_23 + (1 : Int32)) (upd mfre_24 x5_23.toNatClampNeg (vp_nar .boolean (1 : Int32))) hf
                    · replace hf := itp hf c73
                      refine jIload C dX9_joint_113 0 rfl ?_
                      refine jIfEq C 122 dX9_joint_115 (by decide) (fun c75 => ?_) (fun c75 => ?_)
                      · replace hf := itp hf c75
                        refine jIconst C (0 : Int32) dX9_joint_122 ki_0 ?_
                        refine jGoto C 164 dX9_joint_123 (by decide) ?_
                        obtain ⟨z76, hf⟩ := gin_some hf
                        refine as_mfre C z76 dX9_joint_164 ?_
                        refine jIinc C (x5_23 + (1 : Int32)) dX9_joint_165 7 rfl (congrArg (fun z : Int32 => x5_23 + z) ki_1) (Nat.le_of_ble_eq_true rfl) [(5, .int (x5_23 + (1 : Int32))), (7, .int q58), (6, .int q56), (0, .ref (h 0)), (1, .int p1), (2, .int p2), (3, .int p3), (4, .int p4)] rfl ?_
                        refine jGoto C 67 dX9_joint_168 (by decide) ?_
                        refine jSub [3, 4, 5, 6, 7, 0] rfl ?_
                        exact ir26 (x5_23 + (1 : Int32)) (upd mfre_24 x5_23.toNatClampNeg (vp_nar .boolean (0 : Int32))) hf
                      · replace hf := itn hf c75
                        refine jIconst C (1 : Int32) dX9_joint_118 ki_1 ?_
                        refine jGoto C 164 dX9_joint_119 (by decide) ?_
                        obtain ⟨z77, hf⟩ := gin_some hf
                        refine as_mfre C z77 dX9_joint_164 ?_
                        refine jIinc C (x5_23 + (1 : Int32)) dX9_joint_165 7 rfl (congrArg (fun z : Int32 => x5_23 + z) ki_1) (Nat.le_of_ble_eq_true rfl) [(5, .int (x5_23 + (1 : Int32))), (7, .int q58), (6, .int q56), (0, .ref (h 0)), (1, .int p1), (2, .int p2), (3, .int p3), (4, .int p4)] rfl ?_
                        refine jGoto C 67 dX9_joint_168 (by decide) ?_
                        refine jSub [3, 4, 5, 6, 7, 0] rfl ?_
                        exact ir26 (x5_23 + (1 : Int32)) (upd mfre_24 x5_23.toNatClampNeg (vp_nar .boolean (1 : Int32))) hf
            refine jSub [1, 2, 3, 4, 5, 0] rfl ?_
            exact hL25 (0 : Int32) mfre_21 hf
          · replace hf := itn hf c17
            refine jBipush C (-6 : Int32) dX9_joint_52 kb_m6 ?_
            cases hf
            exact jEndI C hQ rfl dX9_joint_54
        · replace hf := itp hf c12
          refine jBipush C (-2 : Int32) dX9_joint_36 kb_m2 ?_
          cases hf
          exact jEndI C hQ rfl dX9_joint_38
noncomputable def X9_rank_h19 (p1 : Int32) (r7 : Int32 → Int32 → Option Int32) (x2_4 : Int32) (x3_5 : Int32) : Option Int32 := (if p1 ≤ x3_5 then some x2_4 else bd1 (X9_bits x3_5) (fun q9 => bd1 (X9_bits p1) (fun q11 => (if q9 = q11 then r7 (x2_4 + (1 : Int32)) (x3_5 + (1 : Int32)) else r7 (x2_4 + (0 : Int32)) (x3_5 + (1 : Int32))))))
noncomputable def X9_rank (p1 : Int32) : Option Int32 := bd1 (X9_in (p1.toInt64) (0 : Int64) (127 : Int64)) (fun q1 => (if q1 = (0 : Int32) then some (-2 : Int32) else lfp2 (X9_rank_h19 p1) (0 : Int32) (0 : Int32)))
set_option maxHeartbeats 4000000 in
set_option maxRecDepth 20000 in
theorem X9_rank_ok {p1 : Int32} {rr : Int32}  (hf : X9_rank p1 = some rr) : MT yX9_rank cX9_rank 4 (some .int) 1 [.ref (h 0), .int p1] D cy G (mw h cy mthr mfrp mact mtpd msiz matx mfrm mtok mval mfk mfpl mbem mtrs mtrl mrom mtom mnow mfre mkep mtap mlef mtak mbes mrow mint mrnd mplo mhio mtox mtol) (mw h cy mthr mfrp mact mtpd msiz matx mfrm mtok mval mfk mfpl mbem mtrs mtrl mrom mtom mnow mfre mkep mtap mlef mtak mbes mrow mint mrnd mplo mhio mtox mtol) (some (.int rr)) := by
  refine MT.go (own := RX9) [(0, .ref (h 0)), (1, .int p1)] (by decide) rfl (Nat.le_of_ble_eq_true rfl) rfl (fun p l e s m args below meth c A Q C hQ => ?_)
  unfold X9_rank at hf
  refine jIloadn C dX9_rank_0 rfl 1 rfl ?_
  refine jI2l C dX9_rank_1 ?_
  refine jLconst C (0 : Int64) dX9_rank_2 rfl ?_
  refine jLdc2 C (x := (127 : Int64)) lk_RX9_343 dX9_rank_3 ?_
  obtain ⟨q1, e2, hf⟩ := bd1_some hf
  refine jSI C (X9_in_ok  e2) sb_X9_in mk_RX9_63 rfl ⟨Nat.le_of_ble_eq_true rfl, Nat.le_of_ble_eq_true rfl⟩ rfl (Nat.le_of_ble_eq_true rfl) dX9_rank_6 ?_
  refine jIfNe C 15 dX9_rank_9 (by decide) (fun c3 => ?_) (fun c3 => ?_)
  · replace hf := itn hf c3
    refine jIconst C (0 : Int32) dX9_rank_15 ki_0 ?_
    refine jIstoren C dX9_rank_16 rfl (Nat.le_of_ble_eq_true rfl) [(2, .int (0 : Int32)), (0, .ref (h 0)), (1, .int p1)] rfl ?_
    refine jIconst C (0 : Int32) dX9_rank_17 ki_0 ?_
    refine jIstoren C dX9_rank_18 rfl (Nat.le_of_ble_eq_true rfl) [(3, .int (0 : Int32)), (2, .int (0 : Int32)), (0, .ref (h 0)), (1, .int p1)] rfl ?_
    have hL6 : ∀ (x2_4 : Int32) (x3_5 : Int32), lfp2 (X9_rank_h19 p1) x2_4 x3_5 = some rr → J p l e (rmk 1) s m args below meth c D A Q 4 (mw h cy mthr mfrp mact mtpd msiz matx mfrm mtok mval mfk mfpl mbem mtrs mtrl mrom mtom mnow mfre mkep mtap mlef mtak mbes mrow mint mrnd mplo mhio mtox mtol) 19 [(1, .int p1), (2, .int x2_4), (3, .int x3_5)] [] := by
      intro x2_4 x3_5 hw
      refine lfp2_walk (P := fun x2_4 x3_5 => J p l e (rmk 1) s m args below meth c D A Q 4 (mw h cy mthr mfrp mact mtpd msiz matx mfrm mtok mval mfk mfpl mbem mtrs mtrl mrom mtom mnow mfre mkep mtap mlef mtak mbes mrow mint mrnd mplo mhio mtox mtol) 19 [(1, .int p1), (2, .int x2_4), (3, .int x3_5)] []) ?_ hw
      intro r7 ir7 x2_4 x3_5 hf
      unfold X9_rank_h19 at hf
      refine jIloadn C dX9_rank_19 rfl 2 rfl ?_
      refine jIloadn C dX9_rank_20 rfl 0 rfl ?_
      refine jCmpGe C 49 dX9_rank_21 (by decide) (fun c8 => ?_) (fun c8 => ?_)
      · replace hf := itp hf c8
        refine jIloadn C dX9_rank_49 rfl 1 rfl ?_
        cases hf
        exact jEndI C hQ rfl dX9_rank_50
      · replace hf := itn hf c8
        refine jIloadn C dX9_rank_24 rfl 1 rfl ?_
        refine jIloadn C dX9_rank_25 rfl 2 rfl ?_
        obtain ⟨q9, e10, hf⟩ := bd1_some hf
        refine jSI C (X9_bits_ok  e10) sb_X9_bits mk_RX9_198 rfl ⟨Nat.le_of_ble_eq_true rfl, Nat.le_of_ble_eq_true rfl⟩ rfl (Nat.le_of_ble_eq_true rfl) dX9_rank_26 ?_
        refine jIloadn C dX9_rank_29 rfl 0 rfl ?_
        obtain ⟨q11, e12, hf⟩ := bd1_some hf
        refine jSI C (X9_bits_ok  e12) sb_X9_bits mk_RX9_198 rfl ⟨Nat.le_of_ble_eq_true rfl, Nat.le_of_ble_eq_true rfl⟩ rfl (Nat.le_of_ble_eq_true rfl) dX9_rank_30 ?_
        refine jCmpNe C 40 dX9_rank_33 (by decide) (fun c13 => ?_) (fun c13 => ?_)
        · replace hf := itn hf c13
          refine jIconst C (0 : Int32) dX9_rank_40 ki_0 ?_
          refine jIadd C dX9_rank_41 ?_
          refine jIstoren C dX9_rank_42 rfl (Nat.le_of_ble_eq_true rfl) [(2, .int (x2_4 + (0 : Int32))), (1, .int p1), (3, .int x3_5)] rfl ?_
          refine jIinc C (x3_5 + (1 : Int32)) dX9_rank_43 2 rfl (congrArg (fun z : Int32 => x3_5 + z) ki_1) (Nat.le_of_ble_eq_true rfl) [(3, .int (x3_5 + (1 : Int32))), (2, .int (x2_4 + (0 : Int32))), (1, .int p1)] rfl ?_
          refine jGoto C 19 dX9_rank_46 (by decide) ?_
          refine jSub [2, 1, 0] rfl ?_
          exact ir7 (x2_4 + (0 : Int32)) (x3_5 + (1 : Int32)) hf
        · replace hf := itp hf c13
          refine jIconst C (1 : Int32) dX9_rank_36 ki_1 ?_
          refine jGoto C 41 dX9_rank_37 (by decide) ?_
          refine jIadd C dX9_rank_41 ?_
          refine jIstoren C dX9_rank_42 rfl (Nat.le_of_ble_eq_true rfl) [(2, .int (x2_4 + (1 : Int32))), (1, .int p1), (3, .int x3_5)] rfl ?_
          refine jIinc C (x3_5 + (1 : Int32)) dX9_rank_43 2 rfl (congrArg (fun z : Int32 => x3_5 + z) ki_1) (Nat.le_of_ble_eq_true rfl) [(3, .int (x3_5 + (1 : Int32))), (2, .int (x2_4 + (1 : Int32))), (1, .int p1)] rfl ?_
          refine jGoto C 19 dX9_rank_46 (by decide) ?_
          refine jSub [2, 1, 0] rfl ?_
          exact ir7 (x2_4 + (1 : Int32)) (x3_5 + (1 : Int32)) hf
    refine jSub [3, 1, 0] rfl ?_
    exact hL6 (0 : Int32) (0 : Int32) hf
  · replace hf := itp hf c3
    refine jBipush C (-2 : Int32) dX9_rank_12 kb_m2 ?_
    cases hf
    exact jEndI C hQ rfl dX9_rank_14
noncomputable def X9_ranked_h24 (p1 : Int32) (p2 : Int32) (r8 : Int32 → Int32 → Option Int32) (x3_5 : Int32) (x4_6 : Int32) : Option Int32 := (if (128 : Int32) ≤ x4_6 then some (-1 : Int32) else bd1 (X9_bits x4_6) (fun q10 => (if q10 = p1 then (if x3_5 = p2 then some x4_6 else r8 (x3_5 + (1 : Int32)) (x4_6 + (1 : Int32))) else r8 x3_5 (x4_6 + (1 : Int32)))))
noncomputable def X9_ranked (p1 : Int32) (p2 : Int32) : Option Int32 := bd1 (X9_in (p1.toInt64) (0 : Int64) (7 : Int64)) (fun q1 => (if q1 = (0 : Int32) then some (-2 : Int32) else (if (0 : Int32) ≤ p2 then lfp2 (X9_ranked_h24 p1 p2) (0 : Int32) (0 : Int32) else some (-2 : Int32))))
set_option maxHeartbeats 4000000 in
set_option maxRecDepth 20000 in
theorem X9_ranked_ok {p1 : Int32} {p2 : Int32} {rr : Int32}  (hf : X9_ranked p1 p2 = some rr) : MT yX9_ranked cX9_ranked 5 (some .int) 1 [.ref (h 0), .int p1, .int p2] D cy G (mw h cy mthr mfrp mact mtpd msiz matx mfrm mtok mval mfk mfpl mbem mtrs mtrl mrom mtom mnow mfre mkep mtap mlef mtak mbes mrow mint mrnd mplo mhio mtox mtol) (mw h cy mthr mfrp mact mtpd msiz matx mfrm mtok mval mfk mfpl mbem mtrs mtrl mrom mtom mnow mfre mkep mtap mlef mtak mbes mrow mint mrnd mplo mhio mtox mtol) (some (.int rr)) := by
  refine MT.go (own := RX9) [(0, .ref (h 0)), (1, .int p1), (2, .int p2)] (by decide) rfl (Nat.le_of_ble_eq_true rfl) rfl (fun p l e s m args below meth c A Q C hQ => ?_)
  unfold X9_ranked at hf
  refine jIloadn C dX9_ranked_0 rfl 1 rfl ?_
  refine jI2l C dX9_ranked_1 ?_
  refine jLconst C (0 : Int64) dX9_ranked_2 rfl ?_
  refine jLdc2 C (x := (7 : Int64)) lk_RX9_174 dX9_ranked_3 ?_
  obtain ⟨q1, e2, hf⟩ := bd1_some hf
  refine jSI C (X9_in_ok  e2) sb_X9_in mk_RX9_63 rfl ⟨Nat.le_of_ble_eq_true rfl, Nat.le_of_ble_eq_true rfl⟩ rfl (Nat.le_of_ble_eq_true rfl) dX9_ranked_6 ?_
  refine jIfEq C 16 dX9_ranked_9 (by decide) (fun c3 => ?_) (fun c3 => ?_)
  · replace hf := itp hf c3
    refine jBipush C (-2 : Int32) dX9_ranked_16 kb_m2 ?_
    cases hf
    exact jEndI C hQ rfl dX9_ranked_18
  · replace hf := itn hf c3
    refine jIloadn C dX9_ranked_12 rfl 2 rfl ?_
    refine jIfGe C 19 dX9_ranked_13 (by decide) (fun c4 => ?_) (fun c4 => ?_)
    · replace hf := itp hf c4
      refine jIconst C (0 : Int32) dX9_ranked_19 ki_0 ?_
      refine jIstoren C dX9_ranked_20 rfl (Nat.le_of_ble_eq_true rfl) [(3, .int (0 : Int32)), (0, .ref (h 0)), (1, .int p1), (2, .int p2)] rfl ?_
      refine jIconst C (0 : Int32) dX9_ranked_21 ki_0 ?_
      refine jIstore C dX9_ranked_22 (Nat.le_of_ble_eq_true rfl) [(4, .int (0 : Int32)), (3, .int (0 : Int32)), (0, .ref (h 0)), (1, .int p1), (2, .int p2)] rfl ?_
      have hL7 : ∀ (x3_5 : Int32) (x4_6 : Int32), lfp2 (X9_ranked_h24 p1 p2) x3_5 x4_6 = some rr → J p l e (rmk 1) s m args below meth c D A Q 5 (mw h cy mthr mfrp mact mtpd msiz matx mfrm mtok mval mfk mfpl mbem mtrs mtrl mrom mtom mnow mfre mkep mtap mlef mtak mbes mrow mint mrnd mplo mhio mtox mtol) 24 [(1, .int p1), (2, .int p2), (3, .int x3_5), (4, .int x4_6)] [] := by
        intro x3_5 x4_6 hw
        refine lfp2_walk (P := fun x3_5 x4_6 => J p l e (rmk 1) s m args below meth c D A Q 5 (mw h cy mthr mfrp mact mtpd msiz matx mfrm mtok mval mfk mfpl mbem mtrs mtrl mrom mtom mnow mfre mkep mtap mlef mtak mbes mrow mint mrnd mplo mhio mtox mtol) 24 [(1, .int p1), (2, .int p2), (3, .int x3_5), (4, .int x4_6)] []) ?_ hw
        intro r8 ir8 x3_5 x4_6 hf
        unfold X9_ranked_h24 at hf
        refine jIload C dX9_ranked_24 3 rfl ?_
        refine jSipush C (128 : Int32) dX9_ranked_26 ks_128 ?_
        refine jCmpGe C 61 dX9_ranked_29 (by decide) (fun c9 => ?_) (fun c9 => ?_)
        · replace hf := itp hf c9
          refine jIconst C (-1 : Int32) dX9_ranked_61 ki_m1 ?_
          cases hf
          exact jEndI C hQ rfl dX9_ranked_62
        · replace hf := itn hf c9
          refine jIload C dX9_ranked_32 3 rfl ?_
          obtain ⟨q10, e11, hf⟩ := bd1_some hf
          refine jSI C (X9_bits_ok  e11) sb_X9_bits mk_RX9_198 rfl ⟨Nat.le_of_ble_eq_true rfl, Nat.le_of_ble_eq_true rfl⟩ rfl (Nat.le_of_ble_eq_true rfl) dX9_ranked_34 ?_
          refine jIloadn C dX9_ranked_37 rfl 0 rfl ?_
          refine jCmpEq C 44 dX9_ranked_38 (by decide) (fun c12 => ?_) (fun c12 => ?_)
          · replace hf := itp hf c12
            refine jIloadn C dX9_ranked_44 rfl 2 rfl ?_
            refine jIloadn C dX9_ranked_45 rfl 1 rfl ?_
            refine jCmpNe C 52 dX9_ranked_46 (by decide) (fun c13 => ?_) (fun c13 => ?_)
            · replace hf := itn hf c13
              refine jIinc C (x3_5 + (1 : Int32)) dX9_ranked_52 2 rfl (congrArg (fun z : Int32 => x3_5 + z) ki_1) (Nat.le_of_ble_eq_true rfl) [(3, .int (x3_5 + (1 : Int32))), (1, .int p1), (2, .int p2), (4, .int x4_6)] rfl ?_
              refine jIinc C (x4_6 + (1 : Int32)) dX9_ranked_55 3 rfl (congrArg (fun z : Int32 => x4_6 + z) ki_1) (Nat.le_of_ble_eq_true rfl) [(4, .int (x4_6 + (1 : Int32))), (3, .int (x3_5 + (1 : Int32))), (1, .int p1), (2, .int p2)] rfl ?_
              refine jGoto C 24 dX9_ranked_58 (by decide) ?_
              refine jSub [2, 3, 1, 0] rfl ?_
              exact ir8 (x3_5 + (1 : Int32)) (x4_6 + (1 : Int32)) hf
            · replace hf := itp hf c13
              refine jIload C dX9_ranked_49 3 rfl ?_
              cases hf
              exact jEndI C hQ rfl dX9_ranked_51
          · replace hf := itn hf c12
            refine jGoto C 55 dX9_ranked_41 (by decide) ?_
            refine jIinc C (x4_6 + (1 : Int32)) dX9_ranked_55 3 rfl (congrArg (fun z : Int32 => x4_6 + z) ki_1) (Nat.le_of_ble_eq_true rfl) [(4, .int (x4_6 + (1 : Int32))), (1, .int p1), (2, .int p2), (3, .int x3_5)] rfl ?_
            refine jGoto C 24 dX9_ranked_58 (by decide) ?_
            refine jSub [1, 2, 3, 0] rfl ?_
            exact ir8 x3_5 (x4_6 + (1 : Int32)) hf
      refine jSub [3, 4, 1, 0] rfl ?_
      exact hL7 (0 : Int32) (0 : Int32) hf
    · replace hf := itn hf c4
      refine jBipush C (-2 : Int32) dX9_ranked_16 kb_m2 ?_
      cases hf
      exact jEndI C hQ rfl dX9_ranked_18
noncomputable def X9_named_h5 (p2 : Int32) (p1 : Int32) (mtox : Nat → Int32) (r4 : Int32 → Int32 → Option Int32) (x3_1 : Int32) (x4_2 : Int32) : Option Int32 := (if p2 ≤ x4_2 then some x3_1 else bd1 (X9_hasBit p1 x4_2) (fun q6 => (if q6 = (0 : Int32) then r4 (x3_1 ||| (0 : Int32)) (x4_2 + (1 : Int32)) else gin x4_2 7 (r4 (x3_1 ||| ((1 : Int32) <<< ((mtox x4_2.toNatClampNeg) &&& 31))) (x4_2 + (1 : Int32))))))
noncomputable def X9_named (mtox : Nat → Int32) (p1 : Int32) (p2 : Int32) : Option Int32 := lfp2 (X9_named_h5 p2 p1 mtox) (0 : Int32) (0 : Int32)
set_option maxHeartbeats 4000000 in
set_option maxRecDepth 20000 in
theorem X9_named_ok {p1 : Int32} {p2 : Int32} {rr : Int32}  (hf : X9_named mtox p1 p2 = some rr) : MT yX9_named cX9_named 5 (some .int) 1 [.ref (h 0), .int p1, .int p2] D cy G (mw h cy mthr mfrp mact mtpd msiz matx mfrm mtok mval mfk mfpl mbem mtrs mtrl mrom mtom mnow mfre mkep mtap mlef mtak mbes mrow mint mrnd mplo mhio mtox mtol) (mw h cy mthr mfrp mact mtpd msiz matx mfrm mtok mval mfk mfpl mbem mtrs mtrl mrom mtom mnow mfre mkep mtap mlef mtak mbes mrow mint mrnd mplo mhio mtox mtol) (some (.int rr)) := by
  refine MT.go (own := RX9) [(0, .ref (h 0)), (1, .int p1), (2, .int p2)] (by decide) rfl (Nat.le_of_ble_eq_true rfl) rfl (fun p l e s m args below meth c A Q C hQ => ?_)
  unfold X9_named at hf
  refine jIconst C (0 : Int32) dX9_named_0 ki_0 ?_
  refine jIstoren C dX9_named_1 rfl (Nat.le_of_ble_eq_true rfl) [(3, .int (0 : Int32)), (0, .ref (h 0)), (1, .int p1), (2, .int p2)] rfl ?_
  refine jIconst C (0 : Int32) dX9_named_2 ki_0 ?_
  refine jIstore C dX9_named_3 (Nat.le_of_ble_eq_true rfl) [(4, .int (0 : Int32)), (3, .int (0 : Int32)), (0, .ref (h 0)), (1, .int p1), (2, .int p2)] rfl ?_
  have hL3 : ∀ (x3_1 : Int32) (x4_2 : Int32), lfp2 (X9_named_h5 p2 p1 mtox) x3_1 x4_2 = some rr → J p l e (rmk 1) s m args below meth c D A Q 5 (mw h cy mthr mfrp mact mtpd msiz matx mfrm mtok mval mfk mfpl mbem mtrs mtrl mrom mtom mnow mfre mkep mtap mlef mtak mbes mrow mint mrnd mplo mhio mtox mtol) 5 [(0, .ref (h 0)), (1, .int p1), (2, .int p2), (3, .int x3_1), (4, .int x4_2)] [] := by
    intro x3_1 x4_2 hw
    refine lfp2_walk (P := fun x3_1 x4_2 => J p l e (rmk 1) s m args below meth c D A Q 5 (mw h cy mthr mfrp mact mtpd msiz matx mfrm mtok mval mfk mfpl mbem mtrs mtrl mrom mtom mnow mfre mkep mtap mlef mtak mbes mrow mint mrnd mplo mhio mtox mtol) 5 [(0, .ref (h 0)), (1, .int p1), (2, .int p2), (3, .int x3_1), (4, .int x4_2)] []) ?_ hw
    intro r4 ir4 x3_1 x4_2 hf
    unfold X9_named_h5 at hf
    refine jIload C dX9_named_5 4 rfl ?_
    refine jIloadn C dX9_named_7 rfl 2 rfl ?_
    refine jCmpGe C 42 dX9_named_8 (by decide) (fun c5 => ?_) (fun c5 => ?_)
    · replace hf := itp hf c5
      refine jIloadn C dX9_named_42 rfl 3 rfl ?_
      cases hf
      exact jEndI C hQ rfl dX9_named_43
    · replace hf := itn hf c5
      refine jIloadn C dX9_named_11 rfl 3 rfl ?_
      refine jIloadn C dX9_named_12 rfl 1 rfl ?_
      refine jIload C dX9_named_13 4 rfl ?_
      obtain ⟨q6, e7, hf⟩ := bd1_some hf
      refine jSI C (X9_hasBit_ok  e7) sb_X9_hasBit mk_RX9_169 rfl ⟨Nat.le_of_ble_eq_true rfl, Nat.le_of_ble_eq_true rfl⟩ rfl (Nat.le_of_ble_eq_true rfl) dX9_named_15 ?_
      refine jIfEq C 33 dX9_named_18 (by decide) (fun c8 => ?_) (fun c8 => ?_)
      · replace hf := itp hf c8
        refine jIconst C (0 : Int32) dX9_named_33 ki_0 ?_
        refine jIor C dX9_named_34 ?_
        refine jIstoren C dX9_named_35 rfl (Nat.le_of_ble_eq_true rfl) [(3, .int (x3_1 ||| (0 : Int32))), (0, .ref (h 0)), (1, .int p1), (2, .int p2), (4, .int x4_2)] rfl ?_
        refine jIinc C (x4_2 + (1 : Int32)) dX9_named_36 4 rfl (congrArg (fun z : Int32 => x4_2 + z) ki_1) (Nat.le_of_ble_eq_true rfl) [(4, .int (x4_2 + (1 : Int32))), (3, .int (x3_1 ||| (0 : Int32))), (0, .ref (h 0)), (1, .int p1), (2, .int p2)] rfl ?_
        refine jGoto C 5 dX9_named_39 (by decide) ?_
        refine jSub [2, 3, 4, 1, 0] rfl ?_
        exact ir4 (x3_1 ||| (0 : Int32)) (x4_2 + (1 : Int32)) hf
      · replace hf := itn hf c8
        refine jIconst C (1 : Int32) dX9_named_21 ki_1 ?_
        refine jAloadn C dX9_named_22 rfl 0 rfl ?_
        refine gf_RX9_52 C dX9_named_23 ?_
        refine jIload C dX9_named_26 4 rfl ?_
        obtain ⟨z9, hf⟩ := gin_some hf
        refine al_mtox C z9 dX9_named_28 ?_
        refine jIshl C dX9_named_29 ?_
        refine jGoto C 34 dX9_named_30 (by decide) ?_
        refine jIor C dX9_named_34 ?_
        refine jIstoren C dX9_named_35 rfl (Nat.le_of_ble_eq_true rfl) [(3, .int (x3_1 ||| ((1 : Int32) <<< ((mtox x4_2.toNatClampNeg) &&& 31)))), (0, .ref (h 0)), (1, .int p1), (2, .int p2), (4, .int x4_2)] rfl ?_
        refine jIinc C (x4_2 + (1 : Int32)) dX9_named_36 4 rfl (congrArg (fun z : Int32 => x4_2 + z) ki_1) (Nat.le_of_ble_eq_true rfl) [(4, .int (x4_2 + (1 : Int32))), (3, .int (x3_1 ||| ((1 : Int32) <<< ((mtox x4_2.toNatClampNeg) &&& 31)))), (0, .ref (h 0)), (1, .int p1), (2, .int p2)] rfl ?_
        refine jGoto C 5 dX9_named_39 (by decide) ?_
        refine jSub [2, 3, 4, 1, 0] rfl ?_
        exact ir4 (x3_1 ||| ((1 : Int32) <<< ((mtox x4_2.toNatClampNeg) &&& 31))) (x4_2 + (1 : Int32)) hf
  refine jSub [2, 3, 4, 1, 0] rfl ?_
  exact hL3 (0 : Int32) (0 : Int32) hf
noncomputable def X9_names_j219 (x10_27 : Int32) (r17 : Int32 → Int32 → (Nat → Int32) → Option (Int32 × (Nat → Int32))) (x4_13 : Int32) (x6_14 : Int32) (mtox_23 : Nat → Int32)  : Option (Int32 × (Nat → Int32)) := (if x10_27 = (0 : Int32) then r17 (x4_13 + (0 : Int32)) (x6_14 + (1 : Int32)) mtox_23 else r17 (x4_13 + (1 : Int32)) (x6_14 + (1 : Int32)) mtox_23)
noncomputable def X9_names_h168 (q1 : Int32) (r17 : Int32 → Int32 → (Nat → Int32) → Option (Int32 × (Nat → Int32))) (x4_13 : Int32) (x6_14 : Int32) (mtox_23 : Nat → Int32) (mnow : Nat → Int32) (p1 : Int32) (p2 : Int32) (r30 : Int32 → Int32 → Option (Int32 × (Nat → Int32))) (x10_27 : Int32) (x11_28 : Int32) : Option (Int32 × (Nat → Int32)) := (if ((1 : Int32) <<< (q1 &&& 31)) ≤ x11_28 then X9_names_j219 x10_27 r17 x4_13 x6_14 mtox_23 else (if x10_27 = (0 : Int32) then X9_names_j219 x10_27 r17 x4_13 x6_14 mtox_23 else bd1 (X9_isIn mnow p1 x11_28) (fun q35 => (if q35 = (0 : Int32) then r30 (1 : Int32) (x11_28 + (1 : Int32)) else bd1 (X9_named mtox_23 x11_28 q1) (fun q38 => bd1 (X9_isIn mnow p2 q38) (fun q40 => (if q40 = (0 : Int32) then r30 (0 : Int32) (x11_28 + (1 : Int32)) else r30 (1 : Int32) (x11_28 + (1 : Int32)))))))))
noncomputable def X9_names_j112 (x7_19 : Int32) (x12_47 : Int32) (r49 : Int32 → Int32 → Option (Int32 × (Nat → Int32))) (x11_46 : Int32)  : Option (Int32 × (Nat → Int32)) := bd1 (X9_hasBit x7_19 x12_47) (fun q53 => (if q53 = (0 : Int32) then r49 (x11_46 - (1 : Int32)) (x12_47 + (1 : Int32)) else r49 (x11_46 - (0 : Int32)) (x12_47 + (1 : Int32))))
noncomputable def X9_names_h97 (x7_19 : Int32) (x10_22 : Int32) (r25 : Int32 → Int32 → Int32 → Int32 → (Nat → Int32) → Option (Int32 × (Nat → Int32))) (x8_20 : Int32) (x9_21 : Int32) (q1 : Int32) (mtox_23 : Nat → Int32) (r49 : Int32 → Int32 → Option (Int32 × (Nat → Int32))) (x11_46 : Int32) (x12_47 : Int32) : Option (Int32 × (Nat → Int32)) := bd1 (X9_hasBit x7_19 x12_47) (fun q50 => (if q50 = (0 : Int32) then (if x11_46 ≤ (0 : Int32) then gin x10_22 7 (r25 (x7_19 ||| ((1 : Int32) <<< (x12_47 &&& 31))) (x8_20 - x8_20 / (x9_21 / (q1 - x10_22)) * (x9_21 / (q1 - x10_22))) (x9_21 / (q1 - x10_22)) (x10_22 + (1 : Int32)) (upd mtox_23 x10_22.toNatClampNeg x12_47)) else X9_names_j112 x7_19 x12_47 r49 x11_46) else X9_names_j112 x7_19 x12_47 r49 x11_46))
noncomputable def X9_names_h65 (q1 : Int32) (r17 : Int32 → Int32 → (Nat → Int32) → Option (Int32 × (Nat → Int32))) (x4_13 : Int32) (x6_14 : Int32) (mnow : Nat → Int32) (p1 : Int32) (p2 : Int32) (r25 : Int32 → Int32 → Int32 → Int32 → (Nat → Int32) → Option (Int32 × (Nat → Int32))) (x7_19 : Int32) (x8_20 : Int32) (x9_21 : Int32) (x10_22 : Int32) (mtox_23 : Nat → Int32) : Option (Int32 × (Nat → Int32)) := (if q1 ≤ x10_22 then lfp2 (X9_names_h168 q1 r17 x4_13 x6_14 mtox_23 mnow p1 p2) (1 : Int32) (0 : Int32) else gnz (q1 - x10_22) (gnz (x9_21 / (q1 - x10_22)) (gnz (x9_21 / (q1 - x10_22)) (lfp2 (X9_names_h97 x7_19 x10_22 r25 x8_20 x9_21 q1 mtox_23) (x8_20 / (x9_21 / (q1 - x10_22))) (0 : Int32)))))
noncomputable def X9_names_h44 (q11 : Int32) (q1 : Int32) (mnow : Nat → Int32) (p1 : Int32) (p2 : Int32) (r17 : Int32 → Int32 → (Nat → Int32) → Option (Int32 × (Nat → Int32))) (x4_13 : Int32) (x6_14 : Int32) (mtox_15 : Nat → Int32) : Option (Int32 × (Nat → Int32)) := (if q11 ≤ x6_14 then some (x4_13, mtox_15) else lfp5 (X9_names_h65 q1 r17 x4_13 x6_14 mnow p1 p2) (0 : Int32) x6_14 q11 (0 : Int32) mtox_15)
noncomputable def X9_names (mnow : Nat → Int32) (mtox : Nat → Int32) (p1 : Int32) (p2 : Int32) : Option (Int32 × (Nat → Int32)) := bd1 (X9_points mnow p1) (fun q1 => bd1 (X9_points mnow p2) (fun q3 => (if q1 = q3 then bd1 (X9_many mnow p1) (fun q6 => bd1 (X9_many mnow p2) (fun q8 => (if q6 = q8 then bd1 (X9_rounds0 (q1 + (1 : Int32))) (fun q11 => lfp3 (X9_names_h44 q11 q1 mnow p1 p2) (0 : Int32) (0 : Int32) mtox) else some ((0 : Int32), mtox)))) else some ((0 : Int32), mtox))))
set_option maxHeartbeats 4000000 in
set_option maxRecDepth 20000 in
theorem X9_names_ok {p1 : Int32} {p2 : Int32} {rr : Int32} {omtox : Nat → Int32}  (hf : X9_names mnow mtox p1 p2 = some (rr, omtox)) : MT yX9_names cX9_names 13 (some .int) 2 [.ref (h 0), .int p1, .int p2] D cy G (mw h cy mthr mfrp mact mtpd msiz matx mfrm mtok mval mfk mfpl mbem mtrs mtrl mrom mtom mnow mfre mkep mtap mlef mtak mbes mrow mint mrnd mplo mhio mtox mtol) (mw h cy mthr mfrp mact mtpd msiz matx mfrm mtok mval mfk mfpl mbem mtrs mtrl mrom mtom mnow mfre mkep mtap mlef mtak mbes mrow mint mrnd mplo mhio omtox mtol) (some (.int rr)) := by
  refine MT.go (own := RX9) [(0, .ref (h 0)), (1, .int p1), (2, .int p2)] (by decide) rfl (Nat.le_of_ble_eq_true rfl) rfl (fun p l e s m args below meth c A Q C hQ => ?_)
  unfold X9_names at hf
  refine jAloadn C dX9_names_0 rfl 0 rfl ?_
  refine jIloadn C dX9_names_1 rfl 1 rfl ?_
  obtain ⟨q1, e2, hf⟩ := bd1_some hf
  refine jVI C (X9_points_ok  e2) vb_X9_points mk_RX9_78 rfl rcM ⟨Nat.le_of_ble_eq_true rfl, Nat.le_of_ble_eq_true rfl⟩ rfl (Nat.le_of_ble_eq_true rfl) dX9_names_2 ?_
  refine jIstoren C dX9_names_5 rfl (Nat.le_of_ble_eq_true rfl) [(3, .int q1), (0, .ref (h 0)), (1, .int p1), (2, .int p2)] rfl ?_
  refine jIloadn C dX9_names_6 rfl 0 rfl ?_
  refine jAloadn C dX9_names_7 rfl 1 rfl ?_
  refine jIloadn C dX9_names_8 rfl 3 rfl ?_
  obtain ⟨q3, e4, hf⟩ := bd1_some hf
  refine jVI C (X9_points_ok  e4) vb_X9_points mk_RX9_78 rfl rcM ⟨Nat.le_of_ble_eq_true rfl, Nat.le_of_ble_eq_true rfl⟩ rfl (Nat.le_of_ble_eq_true rfl) dX9_names_9 ?_
  refine jCmpNe C 28 dX9_names_12 (by decide) (fun c5 => ?_) (fun c5 => ?_)
  · replace hf := itn hf c5
    refine jIconst C (0 : Int32) dX9_names_28 ki_0 ?_
    cases hf
    exact jEndI C hQ rfl dX9_names_29
  · replace hf := itp hf c5
    refine jAloadn C dX9_names_15 rfl 1 rfl ?_
    refine jIloadn C dX9_names_16 rfl 2 rfl ?_
    obtain ⟨q6, e7, hf⟩ := bd1_some hf
    refine jVI C (X9_many_ok  e7) vb_X9_many mk_RX9_97 rfl rcM ⟨Nat.le_of_ble_eq_true rfl, Nat.le_of_ble_eq_true rfl⟩ rfl (Nat.le_of_ble_eq_true rfl) dX9_names_17 ?_
    refine jAloadn C dX9_names_20 rfl 1 rfl ?_
    refine jIloadn C dX9_names_21 rfl 3 rfl ?_
    obtain ⟨q8, e9, hf⟩ := bd1_some hf
    refine jVI C (X9_many_ok  e9) vb_X9_many mk_RX9_97 rfl rcM ⟨Nat.le_of_ble_eq_true rfl, Nat.le_of_ble_eq_true rfl⟩ rfl (Nat.le_of_ble_eq_true rfl) dX9_names_22 ?_
    refine jCmpEq C 30 dX9_names_25 (by decide) (fun c10 => ?_) (fun c10 => ?_)
    · replace hf := itp hf c10
      refine jIconst C (0 : Int32) dX9_names_30 ki_0 ?_
      refine jIstore C dX9_names_31 (Nat.le_of_ble_eq_true rfl) [(4, .int (0 : Int32)), (3, .int q1), (0, .ref (h 0)), (1, .int p1), (2, .int p2)] rfl ?_
      refine jIloadn C dX9_names_33 rfl 1 rfl ?_
      refine jIconst C (1 : Int32) dX9_names_34 ki_1 ?_
      refine jIadd C dX9_names_35 ?_
      obtain ⟨q11, e12, hf⟩ := bd1_some hf
      refine jSI C (X9_rounds0_ok  e12) sb_X9_rounds0 mk_RX9_324 rfl ⟨Nat.le_of_ble_eq_true rfl, Nat.le_of_ble_eq_true rfl⟩ rfl (Nat.le_of_ble_eq_true rfl) dX9_names_36 ?_
      refine jIstore C dX9_names_39 (Nat.le_of_ble_eq_true rfl) [(5, .int q11), (4, .int (0 : Int32)), (3, .int q1), (0, .ref (h 0)), (1, .int p1), (2, .int p2)] rfl ?_
      refine jIconst C (0 : Int32) dX9_names_41 ki_0 ?_
      refine jIstore C dX9_names_42 (Nat.le_of_ble_eq_true rfl) [(6, .int (0 : Int32)), (5, .int q11), (4, .int (0 : Int32)), (3, .int q1), (0, .ref (h 0)), (1, .int p1), (2, .int p2)] rfl ?_
      have hL16 : ∀ (x4_13 : Int32) (x6_14 : Int32) (mtox_15 : Nat → Int32), lfp3 (X9_names_h44 q11 q1 mnow p1 p2) x4_13 x6_14 mtox_15 = some (rr, omtox) → J p l e (rmk 2) s m args below meth c D A Q 13 (mw h cy mthr mfrp mact mtpd msiz matx mfrm mtok mval mfk mfpl mbem mtrs mtrl mrom mtom mnow mfre mkep mtap mlef mtak mbes mrow mint mrnd mplo mhio mtox_15 mtol) 44 [(0, .ref (h 0)), (1, .int p1), (2, .int p2), (3, .int q1), (4, .int x4_13), (5, .int q11), (6, .int x6_14)] [] := by
        intro x4_13 x6_14 mtox_15 hw
        refine lfp3_walk (P := fun x4_13 x6_14 mtox_15 => J p l e (rmk 2) s m args below meth c D A Q 13 (mw h cy mthr mfrp mact mtpd msiz matx mfrm mtok mval mfk mfpl mbem mtrs mtrl mrom mtom mnow mfre mkep mtap mlef mtak mbes mrow mint mrnd mplo mhio mtox_15 mtol) 44 [(0, .ref (h 0)), (1, .int p1), (2, .int p2), (3, .int q1), (4, .int x4_13), (5, .int q11), (6, .int x6_14)] []) ?_ hw
        intro r17 ir17 x4_13 x6_14 mtox_15 hf
        unfold X9_names_h44 at hf
        refine jIload C dX9_names_44 6 rfl ?_
        refine jIload C dX9_names_46 5 rfl ?_
        refine jCmpGe C 240 dX9_names_48 (by decide) (fun c18 => ?_) (fun c18 => ?_)
        · replace hf := itp hf c18
          refine jIload C dX9_names_240 4 rfl ?_
          cases hf
          exact jEndI C hQ rfl dX9_names_242
        · replace hf := itn hf c18
          refine jIconst C (0 : Int32) dX9_names_51 ki_0 ?_
          refine jIstore C dX9_names_52 (Nat.le_of_ble_eq_true rfl) [(7, .int (0 : Int32)), (0, .ref (h 0)), (1, .int p1), (2, .int p2), (3, .int q1), (4, .int x4_13), (5, .int q11), (6, .int x6_14)] rfl ?_
          refine jIload C dX9_names_54 7 rfl ?_
          refine jIstore C dX9_names_56 (Nat.le_of_ble_eq_true rfl) [(8, .int x6_14), (7, .int (0 : Int32)), (0, .ref (h 0)), (1, .int p1), (2, .int p2), (3, .int q1), (4, .int x4_13), (5, .int q11), (6, .int x6_14)] rfl ?_
          refine jIload C dX9_names_58 7 rfl ?_
          refine jIstore C dX9_names_60 (Nat.le_of_ble_eq_true rfl) [(9, .int q11), (8, .int x6_14), (7, .int (0 : Int32)), (0, .ref (h 0)), (1, .int p1), (2, .int p2), (3, .int q1), (4, .int x4_13), (5, .int q11), (6, .int x6_14)] rfl ?_
          refine jIconst C (0 : Int32) dX9_names_62 ki_0 ?_
          refine jIstore C dX9_names_63 (Nat.le_of_ble_eq_true rfl) [(10, .int (0 : Int32)), (9, .int q11), (8, .int x6_14), (7, .int (0 : Int32)), (0, .ref (h 0)), (1, .int p1), (2, .int p2), (3, .int q1), (4, .int x4_13), (5, .int q11), (6, .int x6_14)] rfl ?_
          have hL24 : ∀ (x7_19 : Int32) (x8_20 : Int32) (x9_21 : Int32) (x10_22 : Int32) (mtox_23 : Nat → Int32), lfp5 (X9_names_h65 q1 r17 x4_13 x6_14 mnow p1 p2) x7_19 x8_20 x9_21 x10_22 mtox_23 = some (rr, omtox) → J p l e (rmk 2) s m args below meth c D A Q 13 (mw h cy mthr mfrp mact mtpd msiz matx mfrm mtok mval mfk mfpl mbem mtrs mtrl mrom mtom mnow mfre mkep mtap mlef mtak mbes mrow mint mrnd mplo mhio mtox_23 mtol) 65 [(0, .ref (h 0)), (1, .int p1), (2, .int p2), (3, .int q1), (4, .int x4_13), (5, .int q11), (6, .int x6_14), (7, .int x7_19), (8, .int x8_20), (9, .int x9_21), (10, .int x10_22)] [] := by
            intro x7_19 x8_20 x9_21 x10_22 mtox_23 hw
            refine lfp5_walk (P := fun x7_19 x8_20 x9_21 x10_22 mtox_23 => J p l e (rmk 2) s m args below meth c D A Q 13 (mw h cy mthr mfrp mact mtpd msiz matx mfrm mtok mval mfk mfpl mbem mtrs mtrl mrom mtom mnow mfre mkep mtap mlef mtak mbes mrow mint mrnd mplo mhio mtox_23 mtol) 65 [(0, .ref (h 0)), (1, .int p1), (2, .int p2), (3, .int q1), (4, .int x4_13), (5, .int q11), (6, .int x6_14), (7, .int x7_19), (8, .int x8_20), (9, .int x9_21), (10, .int x10_22)] []) ?_ hw
            intro r25 ir25 x7_19 x8_20 x9_21 x10_22 mtox_23 hf
            unfold X9_names_h65 at hf
            refine jIload C dX9_names_65 10 rfl ?_
            refine jIloadn C dX9_names_67 rfl 3 rfl ?_
            refine jCmpGe C 162 dX9_names_68 (by decide) (fun c26 => ?_) (fun c26 => ?_)
            · replace hf := itp hf c26
              refine jIconst C (1 : Int32) dX9_names_162 ki_1 ?_
              refine jIstore C dX9_names_163 (Nat.le_of_ble_eq_true rfl) [(10, .int (1 : Int32)), (0, .ref (h 0)), (1, .int p1), (2, .int p2), (3, .int q1), (4, .int x4_13), (5, .int q11), (6, .int x6_14), (7, .int x7_19), (8, .int x8_20), (9, .int x9_21)] rfl ?_
              refine jIconst C (0 : Int32) dX9_names_165 ki_0 ?_
              refine jIstore C dX9_names_166 (Nat.le_of_ble_eq_true rfl) [(11, .int (0 : Int32)), (10, .int (1 : Int32)), (0, .ref (h 0)), (1, .int p1), (2, .int p2), (3, .int q1), (4, .int x4_13), (5, .int q11), (6, .int x6_14), (7, .int x7_19), (8, .int x8_20), (9, .int x9_21)] rfl ?_
              have hL29 : ∀ (x10_27 : Int32) (x11_28 : Int32), lfp2 (X9_names_h168 q1 r17 x4_13 x6_14 mtox_23 mnow p1 p2) x10_27 x11_28 = some (rr, omtox) → J p l e (rmk 2) s m args below meth c D A Q 13 (mw h cy mthr mfrp mact mtpd msiz matx mfrm mtok mval mfk mfpl mbem mtrs mtrl mrom mtom mnow mfre mkep mtap mlef mtak mbes mrow mint mrnd mplo mhio mtox_23 mtol) 168 [(0, .ref (h 0)), (1, .int p1), (2, .int p2), (3, .int q1), (4, .int x4_13), (5, .int q11), (6, .int x6_14), (10, .int x10_27), (11, .int x11_28)] [] := by
                intro x10_27 x11_28 hw
                refine lfp2_walk (P := fun x10_27 x11_28 => J p l e (rmk 2) s m args below meth c D A Q 13 (mw h cy mthr mfrp mact mtpd msiz matx mfrm mtok mval mfk mfpl mbem mtrs mtrl mrom mtom mnow mfre mkep mtap mlef mtak mbes mrow mint mrnd mplo mhio mtox_23 mtol) 168 [(0, .ref (h 0)), (1, .int p1), (2, .int p2), (3, .int q1), (4, .int x4_13), (5, .int q11), (6, .int x6_14), (10, .int x10_27), (11, .int x11_28)] []) ?_ hw
                intro r30 ir30 x10_27 x11_28 hf
                unfold X9_names_h168 at hf
                refine jIload C dX9_names_168 8 rfl ?_
                refine jIconst C (1 : Int32) dX9_names_170 ki_1 ?_
                refine jIloadn C dX9_names_171 rfl 3 rfl ?_
                refine jIshl C dX9_names_172 ?_
                have hL31 : X9_names_j219 x10_27 r17 x4_13 x6_14 mtox_23  = some (rr, omtox) → J p l e (rmk 2) s m args below meth c D A Q 13 (mw h cy mthr mfrp mact mtpd msiz matx mfrm mtok mval mfk mfpl mbem mtrs mtrl mrom mtom mnow mfre mkep mtap mlef mtak mbes mrow mint mrnd mplo mhio mtox_23 mtol) 219 [(0, .ref (h 0)), (1, .int p1), (2, .int p2), (3, .int q1), (4, .int x4_13), (5, .int q11), (6, .int x6_14), (10, .int x10_27)] [] := by
                  intro  hf
                  unfold X9_names_j219 at hf
                  refine jIload C dX9_names_219 4 rfl ?_
                  refine jIload C dX9_names_221 7 rfl ?_
                  refine jIfEq C 230 dX9_names_223 (by decide) (fun c32 => ?_) (fun c32 => ?_)
                  · replace hf := itp hf c32
                    refine jIconst C (0 : Int32) dX9_names_230 ki_0 ?_
                    refine jIadd C dX9_names_231 ?_
                    refine jIstore C dX9_names_232 (Nat.le_of_ble_eq_true rfl) [(4, .int (x4_13 + (0 : Int32))), (0, .ref (h 0)), (1, .int p1), (2, .int p2), (3, .int q1), (5, .int q11), (6, .int x6_14), (10, .int x10_27)] rfl ?_
                    refine jIinc C (x6_14 + (1 : Int32)) dX9_names_234 6 rfl (congrArg (fun z : Int32 => x6_14 + z) ki_1) (Nat.le_of_ble_eq_true rfl) [(6, .int (x6_14 + (1 : Int32))), (4, .int (x4_13 + (0 : Int32))), (0, .ref (h 0)), (1, .int p1), (2, .int p2), (3, .int q1), (5, .int q11), (10, .int x10_27)] rfl ?_
                    refine jGoto C 44 dX9_names_237 (by decide) ?_
                    refine jSub [2, 3, 4, 5, 1, 6, 0] rfl ?_
                    exact ir17 (x4_13 + (0 : Int32)) (x6_14 + (1 : Int32)) mtox_23 hf
                  · replace hf := itn hf c32
                    refine jIconst C (1 : Int32) dX9_names_226 ki_1 ?_
                    refine jGoto C 231 dX9_names_227 (by decide) ?_
                    refine jIadd C dX9_names_231 ?_
                    refine jIstore C dX9_names_232 (Nat.le_of_ble_eq_true rfl) [(4, .int (x4_13 + (1 : Int32))), (0, .ref (h 0)), (1, .int p1), (2, .int p2), (3, .int q1), (5, .int q11), (6, .int x6_14), (10, .int x10_27)] rfl ?_
                    refine jIinc C (x6_14 + (1 : Int32)) dX9_names_234 6 rfl (congrArg (fun z : Int32 => x6_14 + z) ki_1) (Nat.le_of_ble_eq_true rfl) [(6, .int (x6_14 + (1 : Int32))), (4, .int (x4_13 + (1 : Int32))), (0, .ref (h 0)), (1, .int p1), (2, .int p2), (3, .int q1), (5, .int q11), (10, .int x10_27)] rfl ?_
                    refine jGoto C 44 dX9_names_237 (by decide) ?_
                    refine jSub [2, 3, 4, 5, 1, 6, 0] rfl ?_
                    exact ir17 (x4_13 + (1 : Int32)) (x6_14 + (1 : Int32)) mtox_23 hf
                refine jCmpGe C 219 dX9_names_173 (by decide) (fun c33 => ?_) (fun c33 => ?_)
                · replace hf := itp hf c33
                  refine jSub [0, 1, 2, 3, 4, 5, 6, 7] rfl ?_
                  exact hL31  hf
                · replace hf := itn hf c33
                  refine jIload C dX9_names_176 7 rfl ?_
                  refine jIfEq C 219 dX9_names_178 (by decide) (fun c34 => ?_) (fun c34 => ?_)
                  · replace hf := itp hf c34
                    refine jSub [0, 1, 2, 3, 4, 5, 6, 7] rfl ?_
                    exact hL31  hf
                  · replace hf := itn hf c34
                    refine jAloadn C dX9_names_181 rfl 0 rfl ?_
                    refine jIloadn C dX9_names_182 rfl 1 rfl ?_
                    refine jIload C dX9_names_183 8 rfl ?_
                    obtain ⟨q35, e36, hf⟩ := bd1_some hf
                    refine jVI C (X9_isIn_ok  e36) vb_X9_isIn mk_RX9_81 rfl rcM ⟨Nat.le_of_ble_eq_true rfl, Nat.le_of_ble_eq_true rfl⟩ rfl (Nat.le_of_ble_eq_true rfl) dX9_names_185 ?_
                    refine jIfEq C 206 dX9_names_188 (by decide) (fun c37 => ?_) (fun c37 => ?_)
                    · replace hf := itp hf c37
                      refine jIconst C (1 : Int32) dX9_names_206 ki_1 ?_
                      refine jGoto C 211 dX9_names_207 (by decide) ?_
                      refine jIstore C dX9_names_211 (Nat.le_of_ble_eq_true rfl) [(10, .int (1 : Int32)), (0, .ref (h 0)), (1, .int p1), (2, .int p2), (3, .int q1), (4, .int x4_13), (5, .int q11), (6, .int x6_14), (11, .int x11_28)] rfl ?_
                      refine jIinc C (x11_28 + (1 : Int32)) dX9_names_213 8 rfl (congrArg (fun z : Int32 => x11_28 + z) ki_1) (Nat.le_of_ble_eq_true rfl) [(11, .int (x11_28 + (1 : Int32))), (10, .int (1 : Int32)), (0, .ref (h 0)), (1, .int p1), (2, .int p2), (3, .int q1), (4, .int x4_13), (5, .int q11), (6, .int x6_14)] rfl ?_
                      refine jGoto C 168 dX9_names_216 (by decide) ?_
                      refine jSub [2, 3, 4, 5, 6, 7, 8, 1, 0] rfl ?_
                      exact ir30 (1 : Int32) (x11_28 + (1 : Int32)) hf
                    · replace hf := itn hf c37
                      refine jAloadn C dX9_names_191 rfl 0 rfl ?_
                      refine jIloadn C dX9_names_192 rfl 2 rfl ?_
                      refine jAloadn C dX9_names_193 rfl 0 rfl ?_
                      refine jIload C dX9_names_194 8 rfl ?_
                      refine jIloadn C dX9_names_196 rfl 3 rfl ?_
                      obtain ⟨q38, e39, hf⟩ := bd1_some hf
                      refine jVI C (X9_named_ok  e39) vb_X9_named mk_RX9_345 rfl rcM ⟨Nat.le_of_ble_eq_true rfl, Nat.le_of_ble_eq_true rfl⟩ rfl (Nat.le_of_ble_eq_true rfl) dX9_names_197 ?_
                      obtain ⟨q40, e41, hf⟩ := bd1_some hf
                      refine jVI C (X9_isIn_ok  e41) vb_X9_isIn mk_RX9_81 rfl rcM ⟨Nat.le_of_ble_eq_true rfl, Nat.le_of_ble_eq_true rfl⟩ rfl (Nat.le_of_ble_eq_true rfl) dX9_names_200 ?_
                      refine jIfEq C 210 dX9_names_203 (by decide) (fun c42 => ?_) (fun c42 => ?_)
                      · replace hf := itp hf c42
                        refine jIconst C (0 : Int32) dX9_names_210 ki_0 ?_
                        refine jIstore C dX9_names_211 (Nat.le_of_ble_eq_true rfl) [(10, .int (0 : Int32)), (0, .ref (h 0)), (1, .int p1), (2, .int p2), (3, .int q1), (4, .int x4_13), (5, .int q11), (6, .int x6_14), (11, .int x11_28)] rfl ?_
                        refine jIinc C (x11_28 + (1 : Int32)) dX9_names_213 8 rfl (congrArg (fun z : Int32 => x11_28 + z) ki_1) (Nat.le_of_ble_eq_true rfl) [(11, .int (x11_28 + (1 : Int32))), (10, .int (0 : Int32)), (0, .ref (h 0)), (1, .int p1), (2, .int p2), (3, .int q1), (4, .int x4_13), (5, .int q11), (6, .int x6_14)] rfl ?_
                        refine jGoto C 168 dX9_names_216 (by decide) ?_
                        refine jSub [2, 3, 4, 5, 6, 7, 8, 1, 0] rfl ?_
                        exact ir30 (0 : Int32) (x11_28 + (1 : Int32)) hf
                      · replace hf := itn hf c42
                        refine jIconst C (1 : Int32) dX9_names_206 ki_1 ?_
                        refine jGoto C 211 dX9_names_207 (by decide) ?_
                        refine jIstore C dX9_names_211 (Nat.le_of_ble_eq_true rfl) [(10, .int (1 : Int32)), (0, .ref (h 0)), (1, .int p1), (2, .int p2), (3, .int q1), (4, .int x4_13), (5, .int q11), (6, .int x6_14), (11, .int x11_28)] rfl ?_
                        refine jIinc C (x11_28 + (1 : Int32)) dX9_names_213 8 rfl (congrArg (fun z : Int32 => x11_28 + z) ki_1) (Nat.le_of_ble_eq_true rfl) [(11, .int (x11_28 + (1 : Int32))), (10, .int (1 : Int32)), (0, .ref (h 0)), (1, .int p1), (2, .int p2), (3, .int q1), (4, .int x4_13), (5, .int q11), (6, .int x6_14)] rfl ?_
                        refine jGoto C 168 dX9_names_216 (by decide) ?_
                        refine jSub [2, 3, 4, 5, 6, 7, 8, 1, 0] rfl ?_
                        exact ir30 (1 : Int32) (x11_28 + (1 : Int32)) hf
              refine jSub [2, 3, 4, 5, 6, 7, 8, 1, 0] rfl ?_
              exact hL29 (1 : Int32) (0 : Int32) hf
            · replace hf := itn hf c26
              refine jIload C dX9_names_71 9 rfl ?_
              refine jIloadn C dX9_names_73 rfl 3 rfl ?_
              refine jIload C dX9_names_74 10 rfl ?_
              refine jIsub C dX9_names_76 ?_
              obtain ⟨z43, hf⟩ := gnz_some hf
              refine jIdiv C dX9_names_77 z43 ?_
              refine jIstore C dX9_names_78 (Nat.le_of_ble_eq_true rfl) [(9, .int (x9_21 / (q1 - x10_22))), (0, .ref (h 0)), (1, .int p1), (2, .int p2), (3, .int q1), (4, .int x4_13), (5, .int q11), (6, .int x6_14), (7, .int x7_19), (8, .int x8_20), (10, .int x10_22)] rfl ?_
              refine jIload C dX9_names_80 9 rfl ?_
              refine jIload C dX9_names_82 0 rfl ?_
              obtain ⟨z44, hf⟩ := gnz_some hf
              refine jIdiv C dX9_names_84 z44 ?_
              refine jIstore C dX9_names_85 (Nat.le_of_ble_eq_true rfl) [(11, .int (x8_20 / (x9_21 / (q1 - x10_22)))), (9, .int (x9_21 / (q1 - x10_22))), (0, .ref (h 0)), (1, .int p1), (2, .int p2), (3, .int q1), (4, .int x4_13), (5, .int q11), (6, .int x6_14), (7, .int x7_19), (8, .int x8_20), (10, .int x10_22)] rfl ?_
              refine jIload C dX9_names_87 10 rfl ?_
              refine jIload C dX9_names_89 1 rfl ?_
              obtain ⟨z45, hf⟩ := gnz_some hf
              refine jIrem C dX9_names_91 z45 ?_
              refine jIstore C dX9_names_92 (Nat.le_of_ble_eq_true rfl) [(8, .int (x8_20 - x8_20 / (x9_21 / (q1 - x10_22)) * (x9_21 / (q1 - x10_22)))), (11, .int (x8_20 / (x9_21 / (q1 - x10_22)))), (9, .int (x9_21 / (q1 - x10_22))), (0, .ref (h 0)), (1, .int p1), (2, .int p2), (3, .int q1), (4, .int x4_13), (5, .int q11), (6, .int x6_14), (7, .int x7_19), (10, .int x10_22)] rfl ?_
              refine jIconst C (0 : Int32) dX9_names_94 ki_0 ?_
              refine jIstore C dX9_names_95 (Nat.le_of_ble_eq_true rfl) [(12, .int (0 : Int32)), (8, .int (x8_20 - x8_20 / (x9_21 / (q1 - x10_22)) * (x9_21 / (q1 - x10_22)))), (11, .int (x8_20 / (x9_21 / (q1 - x10_22)))), (9, .int (x9_21 / (q1 - x10_22))), (0, .ref (h 0)), (1, .int p1), (2, .int p2), (3, .int q1), (4, .int x4_13), (5, .int q11), (6, .int x6_14), (7, .int x7_19), (10, .int x10_22)] rfl ?_
              have hL48 : ∀ (x11_46 : Int32) (x12_47 : Int32), lfp2 (X9_names_h97 x7_19 x10_22 r25 x8_20 x9_21 q1 mtox_23) x11_46 x12_47 = some (rr, omtox) → J p l e (rmk 2) s m args below meth c D A Q 13 (mw h cy mthr mfrp mact mtpd msiz matx mfrm mtok mval mfk mfpl mbem mtrs mtrl mrom mtom mnow mfre mkep mtap mlef mtak mbes mrow mint mrnd mplo mhio mtox_23 mtol) 97 [(0, .ref (h 0)), (1, .int p1), (2, .int p2), (3, .int q1), (4, .int x4_13), (5, .int q11), (6, .int x6_14), (7, .int x7_19), (8, .int (x8_20 - x8_20 / (x9_21 / (q1 - x10_22)) * (x9_21 / (q1 - x10_22)))), (9, .int (x9_21 / (q1 - x10_22))), (10, .int x10_22), (11, .int x11_46), (12, .int x12_47)] [] := by
                intro x11_46 x12_47 hw
                refine lfp2_walk (P := fun x11_46 x12_47 => J p l e (rmk 2) s m args below meth c D A Q 13 (mw h cy mthr mfrp mact mtpd msiz matx mfrm mtok mval mfk mfpl mbem mtrs mtrl mrom mtom mnow mfre mkep mtap mlef mtak mbes mrow mint mrnd mplo mhio mtox_23 mtol) 97 [(0, .ref (h 0)), (1, .int p1), (2, .int p2), (3, .int q1), (4, .int x4_13), (5, .int q11), (6, .int x6_14), (7, .int x7_19), (8, .int (x8_20 - x8_20 / (x9_21 / (q1 - x10_22)) * (x9_21 / (q1 - x10_22)))), (9, .int (x9_21 / (q1 - x10_22))), (10, .int x10_22), (11, .int x11_46), (12, .int x12_47)] []) ?_ hw
                intro r49 ir49 x11_46 x12_47 hf
                unfold X9_names_h97 at hf
                refine jIload C dX9_names_97 7 rfl ?_
                refine jIload C dX9_names_99 12 rfl ?_
                obtain ⟨q50, e51, hf⟩ := bd1_some hf
                refine jSI C (X9_hasBit_ok  e51) sb_X9_hasBit mk_RX9_169 rfl ⟨Nat.le_of_ble_eq_true rfl, Nat.le_of_ble_eq_true rfl⟩ rfl (Nat.le_of_ble_eq_true rfl) dX9_names_101 ?_
                have hL52 : X9_names_j112 x7_19 x12_47 r49 x11_46  = some (rr, omtox) → J p l e (rmk 2) s m args below meth c D A Q 13 (mw h cy mthr mfrp mact mtpd msiz matx mfrm mtok mval mfk mfpl mbem mtrs mtrl mrom mtom mnow mfre mkep mtap mlef mtak mbes mrow mint mrnd mplo mhio mtox_23 mtol) 112 [(0, .ref (h 0)), (1, .int p1), (2, .int p2), (3, .int q1), (4, .int x4_13), (5, .int q11), (6, .int x6_14), (7, .int x7_19), (8, .int (x8_20 - x8_20 / (x9_21 / (q1 - x10_22)) * (x9_21 / (q1 - x10_22)))), (9, .int (x9_21 / (q1 - x10_22))), (10, .int x10_22), (11, .int x11_46), (12, .int x12_47)] [] := by
                  intro  hf
                  unfold X9_names_j112 at hf
                  refine jIload C dX9_names_112 11 rfl ?_
                  refine jIload C dX9_names_114 7 rfl ?_
                  refine jIload C dX9_names_116 12 rfl ?_
                  obtain ⟨q53, e54, hf⟩ := bd1_some hf
                  refine jSI C (X9_hasBit_ok  e54) sb_X9_hasBit mk_RX9_169 rfl ⟨Nat.le_of_ble_eq_true rfl, Nat.le_of_ble_eq_true rfl⟩ rfl (Nat.le_of_ble_eq_true rfl) dX9_names_118 ?_
                  refine jIfEq C 128 dX9_names_121 (by decide) (fun c55 => ?_) (fun c55 => ?_)
                  · replace hf := itp hf c55
                    refine jIconst C (1 : Int32) dX9_names_128 ki_1 ?_
                    refine jIsub C dX9_names_129 ?_
                    refine jIstore C dX9_names_130 (Nat.le_of_ble_eq_true rfl) [(11, .int (x11_46 - (1 : Int32))), (0, .ref (h 0)), (1, .int p1), (2, .int p2), (3, .int q1), (4, .int x4_13), (5, .int q11), (6, .int x6_14), (7, .int x7_19), (8, .int (x8_20 - x8_20 / (x9_21 / (q1 - x10_22)) * (x9_21 / (q1 - x10_22)))), (9, .int (x9_21 / (q1 - x10_22))), (10, .int x10_22), (12, .int x12_47)] rfl ?_
                    refine jIinc C (x12_47 + (1 : Int32)) dX9_names_132 12 rfl (congrArg (fun z : Int32 => x12_47 + z) ki_1) (Nat.le_of_ble_eq_true rfl) [(12, .int (x12_47 + (1 : Int32))), (11, .int (x11_46 - (1 : Int32))), (0, .ref (h 0)), (1, .int p1), (2, .int p2), (3, .int q1), (4, .int x4_13), (5, .int q11), (6, .int x6_14), (7, .int x7_19), (8, .int (x8_20 - x8_20 / (x9_21 / (q1 - x10_22)) * (x9_21 / (q1 - x10_22)))), (9, .int (x9_21 / (q1 - x10_22))), (10, .int x10_22)] rfl ?_
                    refine jGoto C 97 dX9_names_135 (by decide) ?_
                    refine jSub [2, 3, 4, 5, 6, 7, 8, 9, 10, 11, 12, 1, 0] rfl ?_
                    exact ir49 (x11_46 - (1 : Int32)) (x12_47 + (1 : Int32)) hf
                  · replace hf := itn hf c55
                    refine jIconst C (0 : Int32) dX9_names_124 ki_0 ?_
                    refine jGoto C 129 dX9_names_125 (by decide) ?_
                    refine jIsub C dX9_names_129 ?_
                    refine jIstore C dX9_names_130 (Nat.le_of_ble_eq_true rfl) [(11, .int (x11_46 - (0 : Int32))), (0, .ref (h 0)), (1, .int p1), (2, .int p2), (3, .int q1), (4, .int x4_13), (5, .int q11), (6, .int x6_14), (7, .int x7_19), (8, .int (x8_20 - x8_20 / (x9_21 / (q1 - x10_22)) * (x9_21 / (q1 - x10_22)))), (9, .int (x9_21 / (q1 - x10_22))), (10, .int x10_22), (12, .int x12_47)] rfl ?_
                    refine jIinc C (x12_47 + (1 : Int32)) dX9_names_132 12 rfl (congrArg (fun z : Int32 => x12_47 + z) ki_1) (Nat.le_of_ble_eq_true rfl) [(12, .int (x12_47 + (1 : Int32))), (11, .int (x11_46 - (0 : Int32))), (0, .ref (h 0)), (1, .int p1), (2, .int p2), (3, .int q1), (4, .int x4_13), (5, .int q11), (6, .int x6_14), (7, .int x7_19), (8, .int (x8_20 - x8_20 / (x9_21 / (q1 - x10_22)) * (x9_21 / (q1 - x10_22)))), (9, .int (x9_21 / (q1 - x10_22))), (10, .int x10_22)] rfl ?_
                    refine jGoto C 97 dX9_names_135 (by decide) ?_
                    refine jSub [2, 3, 4, 5, 6, 7, 8, 9, 10, 11, 12, 1, 0] rfl ?_
                    exact ir49 (x11_46 - (0 : Int32)) (x12_47 + (1 : Int32)) hf
                refine jIfNe C 112 dX9_names_104 (by decide) (fun c56 => ?_) (fun c56 => ?_)
                · replace hf := itn hf c56
                  exact hL52  hf
                · replace hf := itp hf c56
                  refine jIload C dX9_names_107 11 rfl ?_
                  refine jIfLe C 138 dX9_names_109 (by decide) (fun c57 => ?_) (fun c57 => ?_)
                  · replace hf := itp hf c57
                    refine jAloadn C dX9_names_138 rfl 0 rfl ?_
                    refine gf_RX9_52 C dX9_names_139 ?_
                    refine jIload C dX9_names_142 10 rfl ?_
                    refine jIload C dX9_names_144 12 rfl ?_
                    obtain ⟨z58, hf⟩ := gin_some hf
                    refine as_mtox C z58 dX9_names_146 ?_
                    refine jIload C dX9_names_147 7 rfl ?_
                    refine jIconst C (1 : Int32) dX9_names_149 ki_1 ?_
                    refine jIload C dX9_names_150 12 rfl ?_
                    refine jIshl C dX9_names_152 ?_
                    refine jIor C dX9_names_153 ?_
                    refine jIstore C dX9_names_154 (Nat.le_of_ble_eq_true rfl) [(7, .int (x7_19 ||| ((1 : Int32) <<< (x12_47 &&& 31)))), (0, .ref (h 0)), (1, .int p1), (2, .int p2), (3, .int q1), (4, .int x4_13), (5, .int q11), (6, .int x6_14), (8, .int (x8_20 - x8_20 / (x9_21 / (q1 - x10_22)) * (x9_21 / (q1 - x10_22)))), (9, .int (x9_21 / (q1 - x10_22))), (10, .int x10_22), (11, .int x11_46), (12, .int x12_47)] rfl ?_
                    refine jIinc C (x10_22 + (1 : Int32)) dX9_names_156 10 rfl (congrArg (fun z : Int32 => x10_22 + z) ki_1) (Nat.le_of_ble_eq_true rfl) [(10, .int (x10_22 + (1 : Int32))), (7, .int (x7_19 ||| ((1 : Int32) <<< (x12_47 &&& 31)))), (0, .ref (h 0)), (1, .int p1), (2, .int p2), (3, .int q1), (4, .int x4_13), (5, .int q11), (6, .int x6_14), (8, .int (x8_20 - x8_20 / (x9_21 / (q1 - x10_22)) * (x9_21 / (q1 - x10_22)))), (9, .int (x9_21 / (q1 - x10_22))), (11, .int x11_46), (12, .int x12_47)] rfl ?_
                    refine jGoto C 65 dX9_names_159 (by decide) ?_
                    refine jSub [2, 3, 4, 5, 6, 7, 8, 1, 9, 10, 0] rfl ?_
                    exact ir25 (x7_19 ||| ((1 : Int32) <<< (x12_47 &&& 31))) (x8_20 - x8_20 / (x9_21 / (q1 - x10_22)) * (x9_21 / (q1 - x10_22))) (x9_21 / (q1 - x10_22)) (x10_22 + (1 : Int32)) (upd mtox_23 x10_22.toNatClampNeg x12_47) hf
                  · replace hf := itn hf c57
                    exact hL52  hf
              refine jSub [4, 5, 6, 7, 8, 9, 10, 11, 1, 3, 12, 2, 0] rfl ?_
              exact hL48 (x8_20 / (x9_21 / (q1 - x10_22))) (0 : Int32) hf
          refine jSub [4, 5, 6, 7, 8, 9, 10, 3, 2, 1, 0] rfl ?_
          exact hL24 (0 : Int32) x6_14 q11 (0 : Int32) mtox_15 hf
      refine jSub [4, 5, 6, 3, 2, 1, 0] rfl ?_
      exact hL16 (0 : Int32) (0 : Int32) mtox hf
    · replace hf := itn hf c10
      refine jIconst C (0 : Int32) dX9_names_28 ki_0 ?_
      cases hf
      exact jEndI C hQ rfl dX9_names_29
noncomputable def X9_alike (mnow : Nat → Int32) (mtox : Nat → Int32) (p1 : Int32) (p2 : Int32) : Option (Int32 × (Nat → Int32)) := bd1 (X9_hasOne mnow p1) (fun q1 => (if q1 = (0 : Int32) then some ((-2 : Int32), mtox) else bd1 (X9_hasOne mnow p2) (fun q4 => (if q4 = (0 : Int32) then some ((-2 : Int32), mtox) else bd2 (X9_names mnow mtox p1 p2) (fun q7 mtox_8 => (if q7 ≤ (0 : Int32) then some ((0 : Int32), mtox_8) else some ((1 : Int32), mtox_8)))))))
set_option maxHeartbeats 4000000 in
set_option maxRecDepth 20000 in
theorem X9_alike_ok {p1 : Int32} {p2 : Int32} {rr : Int32} {omtox : Nat → Int32}  (hf : X9_alike mnow mtox p1 p2 = some (rr, omtox)) : MT yX9_alike cX9_alike 3 (some .int) 3 [.ref (h 0), .int p1, .int p2] D cy G (mw h cy mthr mfrp mact mtpd msiz matx mfrm mtok mval mfk mfpl mbem mtrs mtrl mrom mtom mnow mfre mkep mtap mlef mtak mbes mrow mint mrnd mplo mhio mtox mtol) (mw h cy mthr mfrp mact mtpd msiz matx mfrm mtok mval mfk mfpl mbem mtrs mtrl mrom mtom mnow mfre mkep mtap mlef mtak mbes mrow mint mrnd mplo mhio omtox mtol) (some (.int rr)) := by
  refine MT.go (own := RX9) [(0, .ref (h 0)), (1, .int p1), (2, .int p2)] (by decide) rfl (Nat.le_of_ble_eq_true rfl) rfl (fun p l e s m args below meth c A Q C hQ => ?_)
  unfold X9_alike at hf
  refine jAloadn C dX9_alike_0 rfl 0 rfl ?_
  refine jIloadn C dX9_alike_1 rfl 1 rfl ?_
  obtain ⟨q1, e2, hf⟩ := bd1_some hf
  refine jVI C (X9_hasOne_ok  e2) vb_X9_hasOne mk_RX9_75 rfl rcM ⟨Nat.le_of_ble_eq_true rfl, Nat.le_of_ble_eq_true rfl⟩ rfl (Nat.le_of_ble_eq_true rfl) dX9_alike_2 ?_
  refine jIfEq C 16 dX9_alike_5 (by decide) (fun c3 => ?_) (fun c3 => ?_)
  · replace hf := itp hf c3
    refine jBipush C (-2 : Int32) dX9_alike_16 kb_m2 ?_
    cases hf
    exact jEndI C hQ rfl dX9_alike_18
  · replace hf := itn hf c3
    refine jAloadn C dX9_alike_8 rfl 0 rfl ?_
    refine jIloadn C dX9_alike_9 rfl 2 rfl ?_
    obtain ⟨q4, e5, hf⟩ := bd1_some hf
    refine jVI C (X9_hasOne_ok  e5) vb_X9_hasOne mk_RX9_75 rfl rcM ⟨Nat.le_of_ble_eq_true rfl, Nat.le_of_ble_eq_true rfl⟩ rfl (Nat.le_of_ble_eq_true rfl) dX9_alike_10 ?_
    refine jIfNe C 19 dX9_alike_13 (by decide) (fun c6 => ?_) (fun c6 => ?_)
    · replace hf := itn hf c6
      refine jAloadn C dX9_alike_19 rfl 0 rfl ?_
      refine jIloadn C dX9_alike_20 rfl 1 rfl ?_
      refine jIloadn C dX9_alike_21 rfl 2 rfl ?_
      obtain ⟨q7, mtox_8, e9, hf⟩ := bd2_some hf
      refine jVI C (X9_names_ok  e9) vb_X9_names mk_RX9_348 rfl rcM ⟨Nat.le_of_ble_eq_true rfl, Nat.le_of_ble_eq_true rfl⟩ rfl (Nat.le_of_ble_eq_true rfl) dX9_alike_22 ?_
      refine jIfLe C 32 dX9_alike_25 (by decide) (fun c10 => ?_) (fun c10 => ?_)
      · replace hf := itp hf c10
        refine jIconst C (0 : Int32) dX9_alike_32 ki_0 ?_
        cases hf
        exact jEndI C hQ rfl dX9_alike_33
      · replace hf := itn hf c10
        refine jIconst C (1 : Int32) dX9_alike_28 ki_1 ?_
        refine jGoto C 33 dX9_alike_29 (by decide) ?_
        cases hf
        exact jEndI C hQ rfl dX9_alike_33
    · replace hf := itp hf c6
      refine jBipush C (-2 : Int32) dX9_alike_16 kb_m2 ?_
      cases hf
      exact jEndI C hQ rfl dX9_alike_18
noncomputable def X9_selves (mnow : Nat → Int32) (mtox : Nat → Int32) (p1 : Int32) : Option (Int32 × (Nat → Int32)) := bd1 (X9_hasOne mnow p1) (fun q1 => (if q1 = (0 : Int32) then some ((-2 : Int32), mtox) else bd2 (X9_names mnow mtox p1 p1) (fun q4 mtox_5 => some (q4, mtox_5))))
set_option maxHeartbeats 4000000 in
set_option maxRecDepth 20000 in
theorem X9_selves_ok {p1 : Int32} {rr : Int32} {omtox : Nat → Int32}  (hf : X9_selves mnow mtox p1 = some (rr, omtox)) : MT yX9_selves cX9_selves 2 (some .int) 3 [.ref (h 0), .int p1] D cy G (mw h cy mthr mfrp mact mtpd msiz matx mfrm mtok mval mfk mfpl mbem mtrs mtrl mrom mtom mnow mfre mkep mtap mlef mtak mbes mrow mint mrnd mplo mhio mtox mtol) (mw h cy mthr mfrp mact mtpd msiz matx mfrm mtok mval mfk mfpl mbem mtrs mtrl mrom mtom mnow mfre mkep mtap mlef mtak mbes mrow mint mrnd mplo mhio omtox mtol) (some (.int rr)) := by
  refine MT.go (own := RX9) [(0, .ref (h 0)), (1, .int p1)] (by decide) rfl (Nat.le_of_ble_eq_true rfl) rfl (fun p l e s m args below meth c A Q C hQ => ?_)
  unfold X9_selves at hf
  refine jAloadn C dX9_selves_0 rfl 0 rfl ?_
  refine jIloadn C dX9_selves_1 rfl 1 rfl ?_
  obtain ⟨q1, e2, hf⟩ := bd1_some hf
  refine jVI C (X9_hasOne_ok  e2) vb_X9_hasOne mk_RX9_75 rfl rcM ⟨Nat.le_of_ble_eq_true rfl, Nat.le_of_ble_eq_true rfl⟩ rfl (Nat.le_of_ble_eq_true rfl) dX9_selves_2 ?_
  refine jIfEq C 17 dX9_selves_5 (by decide) (fun c3 => ?_) (fun c3 => ?_)
  · replace hf := itp hf c3
    refine jBipush C (-2 : Int32) dX9_selves_17 kb_m2 ?_
    cases hf
    exact jEndI C hQ rfl dX9_selves_19
  · replace hf := itn hf c3
    refine jAloadn C dX9_selves_8 rfl 0 rfl ?_
    refine jIloadn C dX9_selves_9 rfl 1 rfl ?_
    refine jIloadn C dX9_selves_10 rfl 1 rfl ?_
    obtain ⟨q4, mtox_5, e6, hf⟩ := bd2_some hf
    refine jVI C (X9_names_ok  e6) vb_X9_names mk_RX9_348 rfl rcM ⟨Nat.le_of_ble_eq_true rfl, Nat.le_of_ble_eq_true rfl⟩ rfl (Nat.le_of_ble_eq_true rfl) dX9_selves_11 ?_
    refine jGoto C 19 dX9_selves_14 (by decide) ?_
    cases hf
    exact jEndI C hQ rfl dX9_selves_19
noncomputable def X9_adds (mfrp : Int32) (mact : Int32) (mnow : Nat → Int32) (mfre : Nat → Int32) (mkep : Nat → Int32) (p1 : Int32) (p2 : Int32) : Option (Int32 × Int32 × Int32 × (Nat → Int32) × (Nat → Int32) × (Nat → Int32)) := bd1 (X9_isSet mnow p1 p2) (fun q1 => (if q1 = (0 : Int32) then some ((-2 : Int32), mfrp, mact, mnow, mfre, mkep) else bd1 (X9_isIn mnow p1 p2) (fun q4 => (if q4 = (0 : Int32) then bd2 (X9_copiesFresh mnow mfre p1) (fun mfrp_7 mfre_8 => gin p2 128 (bd4 (X9_comes mfrp_7 mact mnow (upd mfre_8 p2.toNatClampNeg (vp_nar .boolean (1 : Int32))) mkep p1) (fun q11 mact_12 mnow_13 mkep_14 => some (q11, mfrp_7, mact_12, mnow_13, (upd mfre_8 p2.toNatClampNeg (vp_nar .boolean (1 : Int32))), mkep_14)))) else some ((-5 : Int32), mfrp, mact, mnow, mfre, mkep)))))
set_option maxHeartbeats 4000000 in
set_option maxRecDepth 20000 in
theorem X9_adds_ok {p1 : Int32} {p2 : Int32} {rr : Int32} {omfrp : Int32} {omact : Int32} {omnow : Nat → Int32} {omfre : Nat → Int32} {omkep : Nat → Int32}  (hf : X9_adds mfrp mact mnow mfre mkep p1 p2 = some (rr, omfrp, omact, omnow, omfre, omkep)) : MT yX9_adds cX9_adds 3 (some .int) 4 [.ref (h 0), .int p1, .int p2] D cy G (mw h cy mthr mfrp mact mtpd msiz matx mfrm mtok mval mfk mfpl mbem mtrs mtrl mrom mtom mnow mfre mkep mtap mlef mtak mbes mrow mint mrnd mplo mhio mtox mtol) (mw h cy mthr omfrp omact mtpd msiz matx mfrm mtok mval mfk mfpl mbem mtrs mtrl mrom mtom omnow omfre omkep mtap mlef mtak mbes mrow mint mrnd mplo mhio mtox mtol) (some (.int rr)) := by
  refine MT.go (own := RX9) [(0, .ref (h 0)), (1, .int p1), (2, .int p2)] (by decide) rfl (Nat.le_of_ble_eq_true rfl) rfl (fun p l e s m args below meth c A Q C hQ => ?_)
  unfold X9_adds at hf
  refine jAloadn C dX9_adds_0 rfl 0 rfl ?_
  refine jIloadn C dX9_adds_1 rfl 1 rfl ?_
  refine jIloadn C dX9_adds_2 rfl 2 rfl ?_
  obtain ⟨q1, e2, hf⟩ := bd1_some hf
  refine jVI C (X9_isSet_ok  e2) vb_X9_isSet mk_RX9_210 rfl rcM ⟨Nat.le_of_ble_eq_true rfl, Nat.le_of_ble_eq_true rfl⟩ rfl (Nat.le_of_ble_eq_true rfl) dX9_adds_3 ?_
  refine jIfNe C 12 dX9_adds_6 (by decide) (fun c3 => ?_) (fun c3 => ?_)
  · replace hf := itn hf c3
    refine jAloadn C dX9_adds_12 rfl 0 rfl ?_
    refine jIloadn C dX9_adds_13 rfl 1 rfl ?_
    refine jIloadn C dX9_adds_14 rfl 2 rfl ?_
    obtain ⟨q4, e5, hf⟩ := bd1_some hf
    refine jVI C (X9_isIn_ok  e5) vb_X9_isIn mk_RX9_81 rfl rcM ⟨Nat.le_of_ble_eq_true rfl, Nat.le_of_ble_eq_true rfl⟩ rfl (Nat.le_of_ble_eq_true rfl) dX9_adds_15 ?_
    refine jIfEq C 24 dX9_adds_18 (by decide) (fun c6 => ?_) (fun c6 => ?_)
    · replace hf := itp hf c6
      refine jAloadn C dX9_adds_24 rfl 0 rfl ?_
      refine jIloadn C dX9_adds_25 rfl 1 rfl ?_
      obtain ⟨mfrp_7, mfre_8, e9, hf⟩ := bd2_some hf
      refine jVV C (X9_copiesFresh_ok  e9) vb_X9_copiesFresh mk_RX9_249 rfl rcM ⟨Nat.le_of_ble_eq_true rfl, Nat.le_of_ble_eq_true rfl⟩ rfl (Nat.le_of_ble_eq_true rfl) dX9_adds_26 ?_
      refine jAloadn C dX9_adds_29 rfl 0 rfl ?_
      refine gf_RX9_13 C dX9_adds_30 ?_
      refine jIloadn C dX9_adds_33 rfl 2 rfl ?_
      refine jIconst C (1 : Int32) dX9_adds_34 ki_1 ?_
      obtain ⟨z10, hf⟩ := gin_some hf
      refine as_mfre C z10 dX9_adds_35 ?_
      refine jAloadn C dX9_adds_36 rfl 0 rfl ?_
      refine jIloadn C dX9_adds_37 rfl 1 rfl ?_
      obtain ⟨q11, mact_12, mnow_13, mkep_14, e15, hf⟩ := bd4_some hf
      refine jVI C (X9_comes_ok  e15) vb_X9_comes mk_RX9_188 rfl rcM ⟨Nat.le_of_ble_eq_true rfl, Nat.le_of_ble_eq_true rfl⟩ rfl (Nat.le_of_ble_eq_true rfl) dX9_adds_38 ?_
      cases hf
      exact jEndI C hQ rfl dX9_adds_41
    · replace hf := itn hf c6
      refine jBipush C (-5 : Int32) dX9_adds_21 kb_m5 ?_
      cases hf
      exact jEndI C hQ rfl dX9_adds_23
  · replace hf := itp hf c3
    refine jBipush C (-2 : Int32) dX9_adds_9 kb_m2 ?_
    cases hf
    exact jEndI C hQ rfl dX9_adds_11
noncomputable def X9_cuts (mfrp : Int32) (mact : Int32) (mnow : Nat → Int32) (mfre : Nat → Int32) (mkep : Nat → Int32) (p1 : Int32) (p2 : Int32) : Option (Int32 × Int32 × Int32 × (Nat → Int32) × (Nat → Int32) × (Nat → Int32)) := bd1 (X9_isSet mnow p1 p2) (fun q1 => (if q1 = (0 : Int32) then some ((-2 : Int32), mfrp, mact, mnow, mfre, mkep) else bd1 (X9_isIn mnow p1 p2) (fun q4 => (if q4 = (0 : Int32) then some ((-6 : Int32), mfrp, mact, mnow, mfre, mkep) else bd2 (X9_copiesFresh mnow mfre p1) (fun mfrp_7 mfre_8 => gin p2 128 (bd4 (X9_comes mfrp_7 mact mnow (upd mfre_8 p2.toNatClampNeg (vp_nar .boolean (0 : Int32))) mkep p1) (fun q11 mact_12 mnow_13 mkep_14 => some (q11, mfrp_7, mact_12, mnow_13, (upd mfre_8 p2.toNatClampNeg (vp_nar .boolean (0 : Int32))), mkep_14))))))))
set_option maxHeartbeats 4000000 in
set_option maxRecDepth 20000 in
theorem X9_cuts_ok {p1 : Int32} {p2 : Int32} {rr : Int32} {omfrp : Int32} {omact : Int32} {omnow : Nat → Int32} {omfre : Nat → Int32} {omkep : Nat → Int32}  (hf : X9_cuts mfrp mact mnow mfre mkep p1 p2 = some (rr, omfrp, omact, omnow, omfre, omkep)) : MT yX9_cuts cX9_cuts 3 (some .int) 4 [.ref (h 0), .int p1, .int p2] D cy G (mw h cy mthr mfrp mact mtpd msiz matx mfrm mtok mval mfk mfpl mbem mtrs mtrl mrom mtom mnow mfre mkep mtap mlef mtak mbes mrow mint mrnd mplo mhio mtox mtol) (mw h cy mthr omfrp omact mtpd msiz matx mfrm mtok mval mfk mfpl mbem mtrs mtrl mrom mtom omnow omfre omkep mtap mlef mtak mbes mrow mint mrnd mplo mhio mtox mtol) (some (.int rr)) := by
  refine MT.go (own := RX9) [(0, .ref (h 0)), (1, .int p1), (2, .int p2)] (by decide) rfl (Nat.le_of_ble_eq_true rfl) rfl (fun p l e s m args below meth c A Q C hQ => ?_)
  unfold X9_cuts at hf
  refine jAloadn C dX9_cuts_0 rfl 0 rfl ?_
  refine jIloadn C dX9_cuts_1 rfl 1 rfl ?_
  refine jIloadn C dX9_cuts_2 rfl 2 rfl ?_
  obtain ⟨q1, e2, hf⟩ := bd1_some hf
  refine jVI C (X9_isSet_ok  e2) vb_X9_isSet mk_RX9_210 rfl rcM ⟨Nat.le_of_ble_eq_true rfl, Nat.le_of_ble_eq_true rfl⟩ rfl (Nat.le_of_ble_eq_true rfl) dX9_cuts_3 ?_
  refine jIfNe C 12 dX9_cuts_6 (by decide) (fun c3 => ?_) (fun c3 => ?_)
  · replace hf := itn hf c3
    refine jAloadn C dX9_cuts_12 rfl 0 rfl ?_
    refine jIloadn C dX9_cuts_13 rfl 1 rfl ?_
    refine jIloadn C dX9_cuts_14 rfl 2 rfl ?_
    obtain ⟨q4, e5, hf⟩ := bd1_some hf
    refine jVI C (X9_isIn_ok  e5) vb_X9_isIn mk_RX9_81 rfl rcM ⟨Nat.le_of_ble_eq_true rfl, Nat.le_of_ble_eq_true rfl⟩ rfl (Nat.le_of_ble_eq_true rfl) dX9_cuts_15 ?_
    refine jIfNe C 24 dX9_cuts_18 (by decide) (fun c6 => ?_) (fun c6 => ?_)
    · replace hf := itn hf c6
      refine jAloadn C dX9_cuts_24 rfl 0 rfl ?_
      refine jIloadn C dX9_cuts_25 rfl 1 rfl ?_
      obtain ⟨mfrp_7, mfre_8, e9, hf⟩ := bd2_some hf
      refine jVV C (X9_copiesFresh_ok  e9) vb_X9_copiesFresh mk_RX9_249 rfl rcM ⟨Nat.le_of_ble_eq_true rfl, Nat.le_of_ble_eq_true rfl⟩ rfl (Nat.le_of_ble_eq_true rfl) dX9_cuts_26 ?_
      refine jAloadn C dX9_cuts_29 rfl 0 rfl ?_
      refine gf_RX9_13 C dX9_cuts_30 ?_
      refine jIloadn C dX9_cuts_33 rfl 2 rfl ?_
      refine jIconst C (0 : Int32) dX9_cuts_34 ki_0 ?_
      obtain ⟨z10, hf⟩ := gin_some hf
      refine as_mfre C z10 dX9_cuts_35 ?_
      refine jAloadn C dX9_cuts_36 rfl 0 rfl ?_
      refine jIloadn C dX9_cuts_37 rfl 1 rfl ?_
      obtain ⟨q11, mact_12, mnow_13, mkep_14, e15, hf⟩ := bd4_some hf
      refine jVI C (X9_comes_ok  e15) vb_X9_comes mk_RX9_188 rfl rcM ⟨Nat.le_of_ble_eq_true rfl, Nat.le_of_ble_eq_true rfl⟩ rfl (Nat.le_of_ble_eq_true rfl) dX9_cuts_38 ?_
      cases hf
      exact jEndI C hQ rfl dX9_cuts_41
    · replace hf := itp hf c6
      refine jBipush C (-6 : Int32) dX9_cuts_21 kb_m6 ?_
      cases hf
      exact jEndI C hQ rfl dX9_cuts_23
  · replace hf := itp hf c3
    refine jBipush C (-2 : Int32) dX9_cuts_9 kb_m2 ?_
    cases hf
    exact jEndI C hQ rfl dX9_cuts_11
noncomputable def X9_drops (mfrp : Int32) (mact : Int32) (mnow : Nat → Int32) (mfre : Nat → Int32) (mkep : Nat → Int32) (p1 : Int32) : Option (Int32 × Int32 × Int32 × (Nat → Int32) × (Nat → Int32) × (Nat → Int32)) := bd1 (X9_isSlot p1) (fun q1 => (if q1 = (0 : Int32) then some ((-2 : Int32), mfrp, mact, mnow, mfre, mkep) else bd1 (X9_hasOne mnow p1) (fun q4 => (if q4 = (0 : Int32) then some ((0 : Int32), mfrp, mact, mnow, mfre, mkep) else bd2 (X9_clearsFresh mfre (0 : Int32)) (fun mfrp_7 mfre_8 => bd4 (X9_comes mfrp_7 mact mnow mfre_8 mkep p1) (fun q10 mact_11 mnow_12 mkep_13 => some ((1 : Int32), mfrp_7, mact_11, mnow_12, mfre_8, mkep_13)))))))
set_option maxHeartbeats 4000000 in
set_option maxRecDepth 20000 in
theorem X9_drops_ok {p1 : Int32} {rr : Int32} {omfrp : Int32} {omact : Int32} {omnow : Nat → Int32} {omfre : Nat → Int32} {omkep : Nat → Int32}  (hf : X9_drops mfrp mact mnow mfre mkep p1 = some (rr, omfrp, omact, omnow, omfre, omkep)) : MT yX9_drops cX9_drops 3 (some .int) 4 [.ref (h 0), .int p1] D cy G (mw h cy mthr mfrp mact mtpd msiz matx mfrm mtok mval mfk mfpl mbem mtrs mtrl mrom mtom mnow mfre mkep mtap mlef mtak mbes mrow mint mrnd mplo mhio mtox mtol) (mw h cy mthr omfrp omact mtpd msiz matx mfrm mtok mval mfk mfpl mbem mtrs mtrl mrom mtom omnow omfre omkep mtap mlef mtak mbes mrow mint mrnd mplo mhio mtox mtol) (some (.int rr)) := by
  refine MT.go (own := RX9) [(0, .ref (h 0)), (1, .int p1)] (by decide) rfl (Nat.le_of_ble_eq_true rfl) rfl (fun p l e s m args below meth c A Q C hQ => ?_)
  unfold X9_drops at hf
  refine jIloadn C dX9_drops_0 rfl 1 rfl ?_
  obtain ⟨q1, e2, hf⟩ := bd1_some hf
  refine jSI C (X9_isSlot_ok  e2) sb_X9_isSlot mk_RX9_67 rfl ⟨Nat.le_of_ble_eq_true rfl, Nat.le_of_ble_eq_true rfl⟩ rfl (Nat.le_of_ble_eq_true rfl) dX9_drops_1 ?_
  refine jIfNe C 10 dX9_drops_4 (by decide) (fun c3 => ?_) (fun c3 => ?_)
  · replace hf := itn hf c3
    refine jAloadn C dX9_drops_10 rfl 0 rfl ?_
    refine jIloadn C dX9_drops_11 rfl 1 rfl ?_
    obtain ⟨q4, e5, hf⟩ := bd1_some hf
    refine jVI C (X9_hasOne_ok  e5) vb_X9_hasOne mk_RX9_75 rfl rcM ⟨Nat.le_of_ble_eq_true rfl, Nat.le_of_ble_eq_true rfl⟩ rfl (Nat.le_of_ble_eq_true rfl) dX9_drops_12 ?_
    refine jIfNe C 20 dX9_drops_15 (by decide) (fun c6 => ?_) (fun c6 => ?_)
    · replace hf := itn hf c6
      refine jAloadn C dX9_drops_20 rfl 0 rfl ?_
      refine jIconst C (0 : Int32) dX9_drops_21 ki_0 ?_
      obtain ⟨mfrp_7, mfre_8, e9, hf⟩ := bd2_some hf
      refine jVV C (X9_clearsFresh_ok  e9) vb_X9_clearsFresh mk_RX9_176 rfl rcM ⟨Nat.le_of_ble_eq_true rfl, Nat.le_of_ble_eq_true rfl⟩ rfl (Nat.le_of_ble_eq_true rfl) dX9_drops_22 ?_
      refine jAloadn C dX9_drops_25 rfl 0 rfl ?_
      refine jIloadn C dX9_drops_26 rfl 1 rfl ?_
      obtain ⟨q10, mact_11, mnow_12, mkep_13, e14, hf⟩ := bd4_some hf
      refine jVI C (X9_comes_ok  e14) vb_X9_comes mk_RX9_188 rfl rcM ⟨Nat.le_of_ble_eq_true rfl, Nat.le_of_ble_eq_true rfl⟩ rfl (Nat.le_of_ble_eq_true rfl) dX9_drops_27 ?_
      refine jIstoren C dX9_drops_30 rfl (Nat.le_of_ble_eq_true rfl) [(2, .int q10), (0, .ref (h 0)), (1, .int p1)] rfl ?_
      refine jIconst C (1 : Int32) dX9_drops_31 ki_1 ?_
      cases hf
      exact jEndI C hQ rfl dX9_drops_32
    · replace hf := itp hf c6
      refine jIconst C (0 : Int32) dX9_drops_18 ki_0 ?_
      cases hf
      exact jEndI C hQ rfl dX9_drops_19
  · replace hf := itp hf c3
    refine jBipush C (-2 : Int32) dX9_drops_7 kb_m2 ?_
    cases hf
    exact jEndI C hQ rfl dX9_drops_9
noncomputable def X9_says (mtom : Int32) (mtol : Nat → Int32) (p1 : Int32) : Option (Int32 × (Nat → Int32)) := gin mtom 1200 (some ((mtom + (1 : Int32)), (upd mtol mtom.toNatClampNeg (vp_nar .byte (p1.toInt8.toInt32)))))
set_option maxHeartbeats 4000000 in
set_option maxRecDepth 20000 in
theorem X9_says_ok {p1 : Int32} {omtom : Int32} {omtol : Nat → Int32}  (hf : X9_says mtom mtol p1 = some (omtom, omtol)) : MT yX9_says cX9_says 2 none 0 [.ref (h 0), .int p1] D cy G (mw h cy mthr mfrp mact mtpd msiz matx mfrm mtok mval mfk mfpl mbem mtrs mtrl mrom mtom mnow mfre mkep mtap mlef mtak mbes mrow mint mrnd mplo mhio mtox mtol) (mw h cy mthr mfrp mact mtpd msiz matx mfrm mtok mval mfk mfpl mbem mtrs mtrl mrom omtom mnow mfre mkep mtap mlef mtak mbes mrow mint mrnd mplo mhio mtox omtol) none := by
  refine MT.go (own := RX9) [(0, .ref (h 0)), (1, .int p1)] (by decide) rfl (Nat.le_of_ble_eq_true rfl) rfl (fun p l e s m args below meth c A Q C hQ => ?_)
  unfold X9_says at hf
  refine jAloadn C dX9_says_0 rfl 0 rfl ?_
  refine gf_RX9_55 C dX9_says_1 ?_
  refine jAloadn C dX9_says_4 rfl 0 rfl ?_
  refine gf_RX9_191 C dX9_says_5 ?_
  refine jIloadn C dX9_says_8 rfl 1 rfl ?_
  refine jI2b C dX9_says_9 ?_
  obtain ⟨z1, hf⟩ := gin_some hf
  refine as_mtol C z1 dX9_says_10 ?_
  refine jAloadn C dX9_says_11 rfl 0 rfl ?_
  refine jDup C dX9_says_12 rfl ?_
  refine gf_RX9_191 C dX9_says_13 ?_
  refine jIconst C (1 : Int32) dX9_says_16 ki_1 ?_
  refine jIadd C dX9_says_17 ?_
  refine pf_RX9_191 C dX9_says_18 ?_
  cases hf
  exact jEndV C hQ rfl dX9_says_21
noncomputable def X9_saysText_h2 (p1 : Nat) (r5 : Int32 → Int32 → (Nat → Int32) → Option (Int32 × (Nat → Int32))) (x2_1 : Int32) (mtom_2 : Int32) (mtol_3 : Nat → Int32) : Option (Int32 × (Nat → Int32)) := bd1 (stlen p1) (fun q6 => (if q6 ≤ x2_1 then some (mtom_2, mtol_3) else bd1 (stch p1 x2_1) (fun q9 => bd2 (X9_says mtom_2 mtol_3 q9) (fun mtom_11 mtol_12 => r5 (x2_1 + (1 : Int32)) mtom_11 mtol_12))))
noncomputable def X9_saysText (mtom : Int32) (mtol : Nat → Int32) (p1 : Nat) : Option (Int32 × (Nat → Int32)) := lfp3 (X9_saysText_h2 p1) (0 : Int32) mtom mtol
set_option maxHeartbeats 4000000 in
set_option maxRecDepth 20000 in
theorem X9_saysText_ok {p1 : Nat} {omtom : Int32} {omtol : Nat → Int32} (hp1 : p1 < 3) (hf : X9_saysText mtom mtol p1 = some (omtom, omtol)) : MT yX9_saysText cX9_saysText 3 none 4 [.ref (h 0), .ref (G (10 + p1))] D cy G (mw h cy mthr mfrp mact mtpd msiz matx mfrm mtok mval mfk mfpl mbem mtrs mtrl mrom mtom mnow mfre mkep mtap mlef mtak mbes mrow mint mrnd mplo mhio mtox mtol) (mw h cy mthr mfrp mact mtpd msiz matx mfrm mtok mval mfk mfpl mbem mtrs mtrl mrom omtom mnow mfre mkep mtap mlef mtak mbes mrow mint mrnd mplo mhio mtox omtol) none := by
  refine MT.go (own := RX9) [(0, .ref (h 0)), (1, .ref (G (10 + p1)))] (by decide) rfl (Nat.le_of_ble_eq_true rfl) rfl (fun p l e s m args below meth c A Q C hQ => ?_)
  unfold X9_saysText at hf
  refine jIconst C (0 : Int32) dX9_saysText_0 ki_0 ?_
  refine jIstoren C dX9_saysText_1 rfl (Nat.le_of_ble_eq_true rfl) [(2, .int (0 : Int32)), (0, .ref (h 0)), (1, .ref (G (10 + p1)))] rfl ?_
  have hL4 : ∀ (x2_1 : Int32) (mtom_2 : Int32) (mtol_3 : Nat → Int32), lfp3 (X9_saysText_h2 p1) x2_1 mtom_2 mtol_3 = some (omtom, omtol) → J p l e (rmk 4) s m args below meth c D A Q 3 (mw h cy mthr mfrp mact mtpd msiz matx mfrm mtok mval mfk mfpl mbem mtrs mtrl mrom mtom_2 mnow mfre mkep mtap mlef mtak mbes mrow mint mrnd mplo mhio mtox mtol_3) 2 [(0, .ref (h 0)), (1, .ref (G (10 + p1))), (2, .int x2_1)] [] := by
    intro x2_1 mtom_2 mtol_3 hw
    refine lfp3_walk (P := fun x2_1 mtom_2 mtol_3 => J p l e (rmk 4) s m args below meth c D A Q 3 (mw h cy mthr mfrp mact mtpd msiz matx mfrm mtok mval mfk mfpl mbem mtrs mtrl mrom mtom_2 mnow mfre mkep mtap mlef mtak mbes mrow mint mrnd mplo mhio mtox mtol_3) 2 [(0, .ref (h 0)), (1, .ref (G (10 + p1))), (2, .int x2_1)] []) ?_ hw
    intro r5 ir5 x2_1 mtom_2 mtol_3 hf
    unfold X9_saysText_h2 at hf
    refine jIloadn C dX9_saysText_2 rfl 2 rfl ?_
    refine jAloadn C dX9_saysText_3 rfl 1 rfl ?_
    obtain ⟨q6, e7, hf⟩ := bd1_some hf
    refine jVsI C (J0_length_ok hp1 e7) vb_J0_length_8abf5 mk_RX9_146 rfl (C.2.2.2.2.2.2.1.2.2.2.2.1 p1 hp1).1 ⟨Nat.le_of_ble_eq_true rfl, Nat.le_of_ble_eq_true rfl⟩ rfl (Nat.le_of_ble_eq_true rfl) dX9_saysText_4 ?_
    refine jCmpGe C 25 dX9_saysText_7 (by decide) (fun c8 => ?_) (fun c8 => ?_)
    · replace hf := itp hf c8
      cases hf
      exact jEndV C hQ rfl dX9_saysText_25
    · replace hf := itn hf c8
      refine jAloadn C dX9_saysText_10 rfl 0 rfl ?_
      refine jAloadn C dX9_saysText_11 rfl 1 rfl ?_
      refine jIloadn C dX9_saysText_12 rfl 2 rfl ?_
      obtain ⟨q9, e10, hf⟩ := bd1_some hf
      refine jVsI C (J0_charAt_ok hp1 e10) vb_J0_charAt_5068e mk_RX9_152 rfl (C.2.2.2.2.2.2.1.2.2.2.2.1 p1 hp1).1 ⟨Nat.le_of_ble_eq_true rfl, Nat.le_of_ble_eq_true rfl⟩ rfl (Nat.le_of_ble_eq_true rfl) dX9_saysText_13 ?_
      obtain ⟨mtom_11, mtol_12, e13, hf⟩ := bd2_some hf
      refine jVV C (X9_says_ok  e13) vb_X9_says mk_RX9_351 rfl rcM ⟨Nat.le_of_ble_eq_true rfl, Nat.le_of_ble_eq_true rfl⟩ rfl (Nat.le_of_ble_eq_true rfl) dX9_saysText_16 ?_
      refine jIinc C (x2_1 + (1 : Int32)) dX9_saysText_19 2 rfl (congrArg (fun z : Int32 => x2_1 + z) ki_1) (Nat.le_of_ble_eq_true rfl) [(2, .int (x2_1 + (1 : Int32))), (0, .ref (h 0)), (1, .ref (G (10 + p1)))] rfl ?_
      refine jGoto C 2 dX9_saysText_22 (by decide) ?_
      refine jSub [1, 2, 0] rfl ?_
      exact ir5 (x2_1 + (1 : Int32)) mtom_11 mtol_12 hf
  refine jSub [1, 2, 0] rfl ?_
  exact hL4 (0 : Int32) mtom mtol hf
noncomputable def X9_tell_h80 (mnow : Nat → Int32) (p1 : Int32) (r17 : Int32 → Int32 → Int32 → (Nat → Int32) → Option (Int32 × Int32 × (Nat → Int32))) (x3_13 : Int32) (r35 : Int32 → Int32 → (Nat → Int32) → Option (Int32 × Int32 × (Nat → Int32))) (x4_31 : Int32) (mtom_32 : Int32) (mtol_33 : Nat → Int32) : Option (Int32 × Int32 × (Nat → Int32)) := bd1 (X9_points mnow p1) (fun q36 => (if q36 ≤ x4_31 then r17 (44 : Int32) (x3_13 + (1 : Int32)) mtom_32 mtol_33 else bd1 (X9_hasBit x3_13 x4_31) (fun q39 => (if q39 = (0 : Int32) then r35 (x4_31 + (1 : Int32)) mtom_32 mtol_33 else bd2 (X9_says mtom_32 mtol_33 ((48 : Int32) + x4_31)) (fun mtom_42 mtol_43 => r35 (x4_31 + (1 : Int32)) mtom_42 mtol_43)))))
noncomputable def X9_tell_j77 (mnow : Nat → Int32) (p1 : Int32) (r17 : Int32 → Int32 → Int32 → (Nat → Int32) → Option (Int32 × Int32 × (Nat → Int32))) (x3_13 : Int32) (mtom_28 : Int32) (mtol_29 : Nat → Int32) : Option (Int32 × Int32 × (Nat → Int32)) := lfp3 (X9_tell_h80 mnow p1 r17 x3_13) (0 : Int32) mtom_28 mtol_29
noncomputable def X9_tell_h40 (mnow : Nat → Int32) (p1 : Int32) (r17 : Int32 → Int32 → Int32 → (Nat → Int32) → Option (Int32 × Int32 × (Nat → Int32))) (x2_12 : Int32) (x3_13 : Int32) (mtom_14 : Int32) (mtol_15 : Nat → Int32) : Option (Int32 × Int32 × (Nat → Int32)) := (if (128 : Int32) ≤ x3_13 then bd2 (X9_says mtom_14 mtol_15 (59 : Int32)) (fun mtom_19 mtol_20 => some (mtom_19, mtom_19, mtol_20)) else bd1 (X9_isIn mnow p1 x3_13) (fun q22 => (if q22 = (0 : Int32) then r17 x2_12 (x3_13 + (1 : Int32)) mtom_14 mtol_15 else bd2 (X9_says mtom_14 mtol_15 x2_12) (fun mtom_25 mtol_26 => (if x3_13 = (0 : Int32) then bd2 (X9_saysText mtom_25 mtol_26 1) (fun mtom_46 mtol_47 => X9_tell_j77 mnow p1 r17 x3_13 mtom_46 mtol_47) else X9_tell_j77 mnow p1 r17 x3_13 mtom_25 mtol_26)))))
noncomputable def X9_tell (mtom : Int32) (mnow : Nat → Int32) (mtol : Nat → Int32) (p1 : Int32) : Option (Int32 × Int32 × (Nat → Int32)) := bd1 (X9_hasOne mnow p1) (fun q1 => (if q1 = (0 : Int32) then some ((-2 : Int32), mtom, mtol) else bd2 (X9_saysText (0 : Int32) mtol 2) (fun mtom_4 mtol_5 => bd1 (X9_points mnow p1) (fun q7 => bd2 (X9_says mtom_4 mtol_5 ((48 : Int32) + q7)) (fun mtom_9 mtol_10 => lfp4 (X9_tell_h40 mnow p1) (58 : Int32) (0 : Int32) mtom_9 mtol_10)))))
set_option maxHeartbeats 4000000 in
set_option maxRecDepth 20000 in
theorem X9_tell_ok {p1 : Int32} {rr : Int32} {omtom : Int32} {omtol : Nat → Int32}  (hf : X9_tell mtom mnow mtol p1 = some (rr, omtom, omtol)) : MT yX9_tell cX9_tell 5 (some .int) 5 [.ref (h 0), .int p1] D cy G (mw h cy mthr mfrp mact mtpd msiz matx mfrm mtok mval mfk mfpl mbem mtrs mtrl mrom mtom mnow mfre mkep mtap mlef mtak mbes mrow mint mrnd mplo mhio mtox mtol) (mw h cy mthr mfrp mact mtpd msiz matx mfrm mtok mval mfk mfpl mbem mtrs mtrl mrom omtom mnow mfre mkep mtap mlef mtak mbes mrow mint mrnd mplo mhio mtox omtol) (some (.int rr)) := by
  refine MT.go (own := RX9) [(0, .ref (h 0)), (1, .int p1)] (by decide) rfl (Nat.le_of_ble_eq_true rfl) rfl (fun p l e s m args below meth c A Q C hQ => ?_)
  unfold X9_tell at hf
  refine jAloadn C dX9_tell_0 rfl 0 rfl ?_
  refine jIloadn C dX9_tell_1 rfl 1 rfl ?_
  obtain ⟨q1, e2, hf⟩ := bd1_some hf
  refine jVI C (X9_hasOne_ok  e2) vb_X9_hasOne mk_RX9_75 rfl rcM ⟨Nat.le_of_ble_eq_true rfl, Nat.le_of_ble_eq_true rfl⟩ rfl (Nat.le_of_ble_eq_true rfl) dX9_tell_2 ?_
  refine jIfNe C 11 dX9_tell_5 (by decide) (fun c3 => ?_) (fun c3 => ?_)
  · replace hf := itn hf c3
    refine jAloadn C dX9_tell_11 rfl 0 rfl ?_
    refine jIconst C (0 : Int32) dX9_tell_12 ki_0 ?_
    refine pf_RX9_191 C dX9_tell_13 ?_
    refine jAloadn C dX9_tell_16 rfl 0 rfl ?_
    refine ls_RX9_354 C dX9_tell_17 ?_
    obtain ⟨mtom_4, mtol_5, e6, hf⟩ := bd2_some hf
    refine jVV C (X9_saysText_ok (by decide) e6) vb_X9_saysText mk_RX9_356 rfl rcM ⟨Nat.le_of_ble_eq_true rfl, Nat.le_of_ble_eq_true rfl⟩ rfl (Nat.le_of_ble_eq_true rfl) dX9_tell_20 ?_
    refine jAloadn C dX9_tell_23 rfl 0 rfl ?_
    refine jBipush C (48 : Int32) dX9_tell_24 kb_48 ?_
    refine jAloadn C dX9_tell_26 rfl 0 rfl ?_
    refine jIloadn C dX9_tell_27 rfl 1 rfl ?_
    obtain ⟨q7, e8, hf⟩ := bd1_some hf
    refine jVI C (X9_points_ok  e8) vb_X9_points mk_RX9_78 rfl rcM ⟨Nat.le_of_ble_eq_true rfl, Nat.le_of_ble_eq_true rfl⟩ rfl (Nat.le_of_ble_eq_true rfl) dX9_tell_28 ?_
    refine jIadd C dX9_tell_31 ?_
    obtain ⟨mtom_9, mtol_10, e11, hf⟩ := bd2_some hf
    refine jVV C (X9_says_ok  e11) vb_X9_says mk_RX9_351 rfl rcM ⟨Nat.le_of_ble_eq_true rfl, Nat.le_of_ble_eq_true rfl⟩ rfl (Nat.le_of_ble_eq_true rfl) dX9_tell_32 ?_
    refine jBipush C (58 : Int32) dX9_tell_35 kb_58 ?_
    refine jIstoren C dX9_tell_37 rfl (Nat.le_of_ble_eq_true rfl) [(2, .int (58 : Int32)), (0, .ref (h 0)), (1, .int p1)] rfl ?_
    refine jIconst C (0 : Int32) dX9_tell_38 ki_0 ?_
    refine jIstoren C dX9_tell_39 rfl (Nat.le_of_ble_eq_true rfl) [(3, .int (0 : Int32)), (2, .int (58 : Int32)), (0, .ref (h 0)), (1, .int p1)] rfl ?_
    have hL16 : ∀ (x2_12 : Int32) (x3_13 : Int32) (mtom_14 : Int32) (mtol_15 : Nat → Int32), lfp4 (X9_tell_h40 mnow p1) x2_12 x3_13 mtom_14 mtol_15 = some (rr, omtom, omtol) → J p l e (rmk 5) s m args below meth c D A Q 5 (mw h cy mthr mfrp mact mtpd msiz matx mfrm mtok mval mfk mfpl mbem mtrs mtrl mrom mtom_14 mnow mfre mkep mtap mlef mtak mbes mrow mint mrnd mplo mhio mtox mtol_15) 40 [(0, .ref (h 0)), (1, .int p1), (2, .int x2_12), (3, .int x3_13)] [] := by
      intro x2_12 x3_13 mtom_14 mtol_15 hw
      refine lfp4_walk (P := fun x2_12 x3_13 mtom_14 mtol_15 => J p l e (rmk 5) s m args below meth c D A Q 5 (mw h cy mthr mfrp mact mtpd msiz matx mfrm mtok mval mfk mfpl mbem mtrs mtrl mrom mtom_14 mnow mfre mkep mtap mlef mtak mbes mrow mint mrnd mplo mhio mtox mtol_15) 40 [(0, .ref (h 0)), (1, .int p1), (2, .int x2_12), (3, .int x3_13)] []) ?_ hw
      intro r17 ir17 x2_12 x3_13 mtom_14 mtol_15 hf
      unfold X9_tell_h40 at hf
      refine jIloadn C dX9_tell_40 rfl 3 rfl ?_
      refine jSipush C (128 : Int32) dX9_tell_41 ks_128 ?_
      refine jCmpGe C 120 dX9_tell_44 (by decide) (fun c18 => ?_) (fun c18 => ?_)
      · replace hf := itp hf c18
        refine jAloadn C dX9_tell_120 rfl 0 rfl ?_
        refine jBipush C (59 : Int32) dX9_tell_121 kb_59 ?_
        obtain ⟨mtom_19, mtol_20, e21, hf⟩ := bd2_some hf
        refine jVV C (X9_says_ok  e21) vb_X9_says mk_RX9_351 rfl rcM ⟨Nat.le_of_ble_eq_true rfl, Nat.le_of_ble_eq_true rfl⟩ rfl (Nat.le_of_ble_eq_true rfl) dX9_tell_123 ?_
        refine jAloadn C dX9_tell_126 rfl 0 rfl ?_
        refine gf_RX9_191 C dX9_tell_127 ?_
        cases hf
        exact jEndI C hQ rfl dX9_tell_130
      · replace hf := itn hf c18
        refine jAloadn C dX9_tell_47 rfl 0 rfl ?_
        refine jIloadn C dX9_tell_48 rfl 1 rfl ?_
        refine jIloadn C dX9_tell_49 rfl 3 rfl ?_
        obtain ⟨q22, e23, hf⟩ := bd1_some hf
        refine jVI C (X9_isIn_ok  e23) vb_X9_isIn mk_RX9_81 rfl rcM ⟨Nat.le_of_ble_eq_true rfl, Nat.le_of_ble_eq_true rfl⟩ rfl (Nat.le_of_ble_eq_true rfl) dX9_tell_50 ?_
        refine jIfNe C 59 dX9_tell_53 (by decide) (fun c24 => ?_) (fun c24 => ?_)
        · replace hf := itn hf c24
          refine jAloadn C dX9_tell_59 rfl 0 rfl ?_
          refine jIloadn C dX9_tell_60 rfl 2 rfl ?_
          obtain ⟨mtom_25, mtol_26, e27, hf⟩ := bd2_some hf
          refine jVV C (X9_says_ok  e27) vb_X9_says mk_RX9_351 rfl rcM ⟨Nat.le_of_ble_eq_true rfl, Nat.le_of_ble_eq_true rfl⟩ rfl (Nat.le_of_ble_eq_true rfl) dX9_tell_61 ?_
          refine jBipush C (44 : Int32) dX9_tell_64 kb_44 ?_
          refine jIstoren C dX9_tell_66 rfl (Nat.le_of_ble_eq_true rfl) [(2, .int (44 : Int32)), (0, .ref (h 0)), (1, .int p1), (3, .int x3_13)] rfl ?_
          refine jIloadn C dX9_tell_67 rfl 3 rfl ?_
          have hL30 : ∀ (mtom_28 : Int32) (mtol_29 : Nat → Int32), X9_tell_j77 mnow p1 r17 x3_13 mtom_28 mtol_29 = some (rr, omtom, omtol) → J p l e (rmk 5) s m args below meth c D A Q 5 (mw h cy mthr mfrp mact mtpd msiz matx mfrm mtok mval mfk mfpl mbem mtrs mtrl mrom mtom_28 mnow mfre mkep mtap mlef mtak mbes mrow mint mrnd mplo mhio mtox mtol_29) 77 [(0, .ref (h 0)), (1, .int p1), (2, .int (44 : Int32)), (3, .int x3_13)] [] := by
            intro mtom_28 mtol_29 hf
            unfold X9_tell_j77 at hf
            refine jIconst C (0 : Int32) dX9_tell_77 ki_0 ?_
            refine jIstore C dX9_tell_78 (Nat.le_of_ble_eq_true rfl) [(4, .int (0 : Int32)), (0, .ref (h 0)), (1, .int p1), (2, .int (44 : Int32)), (3, .int x3_13)] rfl ?_
            have hL34 : ∀ (x4_31 : Int32) (mtom_32 : Int32) (mtol_33 : Nat → Int32), lfp3 (X9_tell_h80 mnow p1 r17 x3_13) x4_31 mtom_32 mtol_33 = some (rr, omtom, omtol) → J p l e (rmk 5) s m args below meth c D A Q 5 (mw h cy mthr mfrp mact mtpd msiz matx mfrm mtok mval mfk mfpl mbem mtrs mtrl mrom mtom_32 mnow mfre mkep mtap mlef mtak mbes mrow mint mrnd mplo mhio mtox mtol_33) 80 [(0, .ref (h 0)), (1, .int p1), (2, .int (44 : Int32)), (3, .int x3_13), (4, .int x4_31)] [] := by
              intro x4_31 mtom_32 mtol_33 hw
              refine lfp3_walk (P := fun x4_31 mtom_32 mtol_33 => J p l e (rmk 5) s m args below meth c D A Q 5 (mw h cy mthr mfrp mact mtpd msiz matx mfrm mtok mval mfk mfpl mbem mtrs mtrl mrom mtom_32 mnow mfre mkep mtap mlef mtak mbes mrow mint mrnd mplo mhio mtox mtol_33) 80 [(0, .ref (h 0)), (1, .int p1), (2, .int (44 : Int32)), (3, .int x3_13), (4, .int x4_31)] []) ?_ hw
              intro r35 ir35 x4_31 mtom_32 mtol_33 hf
              unfold X9_tell_h80 at hf
              refine jIload C dX9_tell_80 4 rfl ?_
              refine jAloadn C dX9_tell_82 rfl 0 rfl ?_
              refine jIloadn C dX9_tell_83 rfl 1 rfl ?_
              obtain ⟨q36, e37, hf⟩ := bd1_some hf
              refine jVI C (X9_points_ok  e37) vb_X9_points mk_RX9_78 rfl rcM ⟨Nat.le_of_ble_eq_true rfl, Nat.le_of_ble_eq_true rfl⟩ rfl (Nat.le_of_ble_eq_true rfl) dX9_tell_84 ?_
              refine jCmpGe C 114 dX9_tell_87 (by decide) (fun c38 => ?_) (fun c38 => ?_)
              · replace hf := itp hf c38
                refine jIinc C (x3_13 + (1 : Int32)) dX9_tell_114 3 rfl (congrArg (fun z : Int32 => x3_13 + z) ki_1) (Nat.le_of_ble_eq_true rfl) [(3, .int (x3_13 + (1 : Int32))), (0, .ref (h 0)), (1, .int p1), (2, .int (44 : Int32)), (4, .int x4_31)] rfl ?_
                refine jGoto C 40 dX9_tell_117 (by decide) ?_
                refine jSub [1, 2, 3, 0] rfl ?_
                exact ir17 (44 : Int32) (x3_13 + (1 : Int32)) mtom_32 mtol_33 hf
              · replace hf := itn hf c38
                refine jIloadn C dX9_tell_90 rfl 3 rfl ?_
                refine jIload C dX9_tell_91 4 rfl ?_
                obtain ⟨q39, e40, hf⟩ := bd1_some hf
                refine jSI C (X9_hasBit_ok  e40) sb_X9_hasBit mk_RX9_169 rfl ⟨Nat.le_of_ble_eq_true rfl, Nat.le_of_ble_eq_true rfl⟩ rfl (Nat.le_of_ble_eq_true rfl) dX9_tell_93 ?_
                refine jIfEq C 108 dX9_tell_96 (by decide) (fun c41 => ?_) (fun c41 => ?_)
                · replace hf := itp hf c41
                  refine jIinc C (x4_31 + (1 : Int32)) dX9_tell_108 4 rfl (congrArg (fun z : Int32 => x4_31 + z) ki_1) (Nat.le_of_ble_eq_true rfl) [(4, .int (x4_31 + (1 : Int32))), (0, .ref (h 0)), (1, .int p1), (2, .int (44 : Int32)), (3, .int x3_13)] rfl ?_
                  refine jGoto C 80 dX9_tell_111 (by decide) ?_
                  refine jSub [1, 2, 3, 4, 0] rfl ?_
                  exact ir35 (x4_31 + (1 : Int32)) mtom_32 mtol_33 hf
                · replace hf := itn hf c41
                  refine jAloadn C dX9_tell_99 rfl 0 rfl ?_
                  refine jBipush C (48 : Int32) dX9_tell_100 kb_48 ?_
                  refine jIload C dX9_tell_102 4 rfl ?_
                  refine jIadd C dX9_tell_104 ?_
                  obtain ⟨mtom_42, mtol_43, e44, hf⟩ := bd2_some hf
                  refine jVV C (X9_says_ok  e44) vb_X9_says mk_RX9_351 rfl rcM ⟨Nat.le_of_ble_eq_true rfl, Nat.le_of_ble_eq_true rfl⟩ rfl (Nat.le_of_ble_eq_true rfl) dX9_tell_105 ?_
                  refine jIinc C (x4_31 + (1 : Int32)) dX9_tell_108 4 rfl (congrArg (fun z : Int32 => x4_31 + z) ki_1) (Nat.le_of_ble_eq_true rfl) [(4, .int (x4_31 + (1 : Int32))), (0, .ref (h 0)), (1, .int p1), (2, .int (44 : Int32)), (3, .int x3_13)] rfl ?_
                  refine jGoto C 80 dX9_tell_111 (by decide) ?_
                  refine jSub [1, 2, 3, 4, 0] rfl ?_
                  exact ir35 (x4_31 + (1 : Int32)) mtom_42 mtol_43 hf
            refine jSub [1, 2, 3, 4, 0] rfl ?_
            exact hL34 (0 : Int32) mtom_28 mtol_29 hf
          refine jIfNe C 77 dX9_tell_68 (by decide) (fun c45 => ?_) (fun c45 => ?_)
          · replace hf := itn hf c45
            refine jSub [1, 2, 0, 3] rfl ?_
            exact hL30 mtom_25 mtol_26 hf
          · replace hf := itp hf c45
            refine jAloadn C dX9_tell_71 rfl 1 rfl ?_
            refine ls_RX9_159 C dX9_tell_72 ?_
            obtain ⟨mtom_46, mtol_47, e48, hf⟩ := bd2_some hf
            refine jVV C (X9_saysText_ok (by decide) e48) vb_X9_saysText mk_RX9_356 rfl rcM ⟨Nat.le_of_ble_eq_true rfl, Nat.le_of_ble_eq_true rfl⟩ rfl (Nat.le_of_ble_eq_true rfl) dX9_tell_74 ?_
            refine jSub [1, 2, 0, 3] rfl ?_
            exact hL30 mtom_46 mtol_47 hf
        · replace hf := itp hf c24
          refine jGoto C 114 dX9_tell_56 (by decide) ?_
          refine jIinc C (x3_13 + (1 : Int32)) dX9_tell_114 3 rfl (congrArg (fun z : Int32 => x3_13 + z) ki_1) (Nat.le_of_ble_eq_true rfl) [(3, .int (x3_13 + (1 : Int32))), (0, .ref (h 0)), (1, .int p1), (2, .int x2_12)] rfl ?_
          refine jGoto C 40 dX9_tell_117 (by decide) ?_
          refine jSub [1, 2, 3, 0] rfl ?_
          exact ir17 x2_12 (x3_13 + (1 : Int32)) mtom_14 mtol_15 hf
    refine jSub [2, 3, 1, 0] rfl ?_
    exact hL16 (58 : Int32) (0 : Int32) mtom_9 mtol_10 hf
  · replace hf := itp hf c3
    refine jBipush C (-2 : Int32) dX9_tell_8 kb_m2 ?_
    cases hf
    exact jEndI C hQ rfl dX9_tell_10
noncomputable def X9_octet (mtom : Int32) (mtol : Nat → Int32) (p1 : Int32) : Option Int32 := bd1 (X9_in (p1.toInt64) (0 : Int64) ((mtom - (1 : Int32)).toInt64)) (fun q1 => (if q1 = (0 : Int32) then some (-1 : Int32) else gin p1 1200 (some (mtol p1.toNatClampNeg))))
set_option maxHeartbeats 4000000 in
set_option maxRecDepth 20000 in
theorem X9_octet_ok {p1 : Int32} {rr : Int32}  (hf : X9_octet mtom mtol p1 = some rr) : MT yX9_octet cX9_octet 2 (some .int) 1 [.ref (h 0), .int p1] D cy G (mw h cy mthr mfrp mact mtpd msiz matx mfrm mtok mval mfk mfpl mbem mtrs mtrl mrom mtom mnow mfre mkep mtap mlef mtak mbes mrow mint mrnd mplo mhio mtox mtol) (mw h cy mthr mfrp mact mtpd msiz matx mfrm mtok mval mfk mfpl mbem mtrs mtrl mrom mtom mnow mfre mkep mtap mlef mtak mbes mrow mint mrnd mplo mhio mtox mtol) (some (.int rr)) := by
  refine MT.go (own := RX9) [(0, .ref (h 0)), (1, .int p1)] (by decide) rfl (Nat.le_of_ble_eq_true rfl) rfl (fun p l e s m args below meth c A Q C hQ => ?_)
  unfold X9_octet at hf
  refine jIloadn C dX9_octet_0 rfl 1 rfl ?_
  refine jI2l C dX9_octet_1 ?_
  refine jLconst C (0 : Int64) dX9_octet_2 rfl ?_
  refine jAloadn C dX9_octet_3 rfl 0 rfl ?_
  refine gf_RX9_191 C dX9_octet_4 ?_
  refine jIconst C (1 : Int32) dX9_octet_7 ki_1 ?_
  refine jIsub C dX9_octet_8 ?_
  refine jI2l C dX9_octet_9 ?_
  obtain ⟨q1, e2, hf⟩ := bd1_some hf
  refine jSI C (X9_in_ok  e2) sb_X9_in mk_RX9_63 rfl ⟨Nat.le_of_ble_eq_true rfl, Nat.le_of_ble_eq_true rfl⟩ rfl (Nat.le_of_ble_eq_true rfl) dX9_octet_10 ?_
  refine jIfEq C 25 dX9_octet_13 (by decide) (fun c3 => ?_) (fun c3 => ?_)
  · replace hf := itp hf c3
    refine jIconst C (-1 : Int32) dX9_octet_25 ki_m1 ?_
    cases hf
    exact jEndI C hQ rfl dX9_octet_26
  · replace hf := itn hf c3
    refine jAloadn C dX9_octet_16 rfl 0 rfl ?_
    refine gf_RX9_55 C dX9_octet_17 ?_
    refine jIloadn C dX9_octet_20 rfl 1 rfl ?_
    obtain ⟨z4, hf⟩ := gin_some hf
    refine al_mtol C z4 dX9_octet_21 ?_
    refine jGoto C 26 dX9_octet_22 (by decide) ?_
    cases hf
    exact jEndI C hQ rfl dX9_octet_26
end WK
