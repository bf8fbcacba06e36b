section WK
variable {g h : Nat → Nat} {cP : Nat → Int32} {cLo : Nat → Int64} {cHi : Nat → Int64} {cpl : Nat → Int32} {ctb : Nat → Int32} {ctl : Int32} {ctf : Int32} {ctp : Int32} {ctk : Int32} {cts : Int32} {cth : Int32} {cob : Nat → Int32} {col : Int32} {cso : Nat → Int32} {cha : Int32} {chs : Int32} {cbe : Int32} {ctr : Int32} {cgl : Nat → Int64} {cgh : Nat → Int64} {cll : Nat → Int64} {clh : Nat → Int64} {cta : Nat → Int32} {cme : Nat → Int32} {cps : Int32} {cwh : Nat → Int32} {cal : Nat → Int64} {cah : Nat → Int64} {mthr : Int32} {mfrp : Int32} {mact : Int32} {mtpd : Int32} {msiz : Int32} {matx : Int32} {mfrm : Int32} {mtok : Int32} {mval : Int32} {mfk : Int32} {mfpl : Int32} {mbem : Int32} {mtrs : Int32} {mtrl : Int32} {mrom : Int32} {mtom : Int32} {mnow : Nat → Int32} {mfre : Nat → Int32} {mkep : Nat → Int32} {mtap : Nat → Int32} {mlef : Nat → Int32} {mtak : Nat → Int32} {mbes : Nat → Int32} {mrow : Nat → Int32} {mint : Nat → Int32} {mrnd : Nat → Int32} {mplo : Nat → Int32} {mhio : Nat → Int32} {mtox : Nat → Int32} {mtol : Nat → Int32}
variable {D : va_G} {cy : Nat → ClassId} {G : Nat → Nat}
noncomputable def X9_part_j75 (q28 : Int32) (x5_15 : Int32) (p2 : Int32) (r18 : Int32 → (Nat → Int32) → Option (Int32 × Int32 × Int32 × (Nat → Int32) × (Nat → Int32) × (Nat → Int32))) (mfre_16 : Nat → Int32) (y30 : Int32) : Option (Int32 × Int32 × Int32 × (Nat → Int32) × (Nat → Int32) × (Nat → Int32)) := (if q28 = y30 then gin (x5_15 &&& (((1 : Int32) <<< (p2 &&& 31)) ^^^ (-1 : Int32))) 128 (r18 (x5_15 + (1 : Int32)) (upd mfre_16 (x5_15 &&& (((1 : Int32) <<< (p2 &&& 31)) ^^^ (-1 : Int32))).toNatClampNeg (vp_nar .boolean (1 : Int32)))) else r18 (x5_15 + (1 : Int32)) mfre_16)
noncomputable def X9_part_h42 (mfrp_12 : Int32) (mact : Int32) (mnow : Nat → Int32) (mkep : Nat → Int32) (p4 : Int32) (p1 : Int32) (p2 : Int32) (p3 : Int32) (r18 : Int32 → (Nat → Int32) → Option (Int32 × Int32 × Int32 × (Nat → Int32) × (Nat → Int32) × (Nat → Int32))) (x5_15 : Int32) (mfre_16 : Nat → Int32) : Option (Int32 × Int32 × Int32 × (Nat → Int32) × (Nat → Int32) × (Nat → Int32)) := (if (128 : Int32) ≤ x5_15 then bd4 (X9_comes mfrp_12 mact mnow mfre_16 mkep p4) (fun q20 mact_21 mnow_22 mkep_23 => some (q20, mfrp_12, mact_21, mnow_22, mfre_16, mkep_23)) else bd1 (X9_isIn mnow p1 x5_15) (fun q25 => (if q25 = (0 : Int32) then r18 (x5_15 + (1 : Int32)) mfre_16 else bd1 (X9_hasBit x5_15 p2) (fun q28 => (if p3 = (0 : Int32) then X9_part_j75 q28 x5_15 p2 r18 mfre_16 (1 : Int32) else X9_part_j75 q28 x5_15 p2 r18 mfre_16 (0 : Int32))))))
noncomputable def X9_part (mfrp : Int32) (mact : Int32) (mnow : Nat → Int32) (mfre : Nat → Int32) (mkep : Nat → Int32) (p1 : Int32) (p2 : Int32) (p3 : Int32) (p4 : Int32) : Option (Int32 × Int32 × Int32 × (Nat → Int32) × (Nat → Int32) × (Nat → Int32)) := bd1 (X9_isPoint mnow p1 p2) (fun q1 => (if q1 = (0 : Int32) then some ((-2 : Int32), mfrp, mact, mnow, mfre, mkep) else bd1 (X9_in (p3.toInt64) (0 : Int64) (1 : Int64)) (fun q4 => (if q4 = (0 : Int32) then some ((-2 : Int32), mfrp, mact, mnow, mfre, mkep) else bd1 (X9_isSlot p4) (fun q7 => (if q7 = (0 : Int32) then some ((-2 : Int32), mfrp, mact, mnow, mfre, mkep) else bd1 (X9_points mnow p1) (fun q10 => bd2 (X9_clearsFresh mfre q10) (fun mfrp_12 mfre_13 => lfp2 (X9_part_h42 mfrp_12 mact mnow mkep p4 p1 p2 p3) (0 : Int32) mfre_13))))))))
set_option maxHeartbeats 4000000 in
set_option maxRecDepth 20000 in
theorem X9_part_ok {p1 : Int32} {p2 : Int32} {p3 : Int32} {p4 : Int32} {rr : Int32} {omfrp : Int32} {omact : Int32} {omnow : Nat → Int32} {omfre : Nat → Int32} {omkep : Nat → Int32}  (hf : X9_part mfrp mact mnow mfre mkep p1 p2 p3 p4 = some (rr, omfrp, omact, omnow, omfre, omkep)) : MT yX9_part cX9_part 6 (some .int) 4 [.ref (h 0), .int p1, .int p2, .int p3, .int p4] D cy G (mw h cy mthr mfrp mact mtpd msiz matx mfrm mtok mval mfk mfpl mbem mtrs mtrl mrom mtom mnow mfre mkep mtap mlef mtak mbes mrow mint mrnd mplo mhio mtox mtol) (mw h cy mthr omfrp omact mtpd msiz matx mfrm mtok mval mfk mfpl mbem mtrs mtrl mrom mtom omnow omfre omkep mtap mlef mtak mbes mrow mint mrnd mplo mhio mtox mtol) (some (.int rr)) := by
  refine MT.go (own := RX9) [(0, .ref (h 0)), (1, .int p1), (2, .int p2), (3, .int p3), (4, .int p4)] (by decide) rfl (Nat.le_of_ble_eq_true rfl) rfl (fun p l e s m args below meth c A Q C hQ => ?_)
  unfold X9_part at hf
  refine jAloadn C dX9_part_0 rfl 0 rfl ?_
  refine jIloadn C dX9_part_1 rfl 1 rfl ?_
  refine jIloadn C dX9_part_2 rfl 2 rfl ?_
  obtain ⟨q1, e2, hf⟩ := bd1_some hf
  refine jVI C (X9_isPoint_ok  e2) vb_X9_isPoint mk_RX9_243 rfl rcM ⟨Nat.le_of_ble_eq_true rfl, Nat.le_of_ble_eq_true rfl⟩ rfl (Nat.le_of_ble_eq_true rfl) dX9_part_3 ?_
  refine jIfEq C 27 dX9_part_6 (by decide) (fun c3 => ?_) (fun c3 => ?_)
  · replace hf := itp hf c3
    refine jBipush C (-2 : Int32) dX9_part_27 kb_m2 ?_
    cases hf
    exact jEndI C hQ rfl dX9_part_29
  · replace hf := itn hf c3
    refine jIloadn C dX9_part_9 rfl 3 rfl ?_
    refine jI2l C dX9_part_10 ?_
    refine jLconst C (0 : Int64) dX9_part_11 rfl ?_
    refine jLconst C (1 : Int64) dX9_part_12 rfl ?_
    obtain ⟨q4, e5, hf⟩ := bd1_some hf
    refine jSI C (X9_in_ok  e5) sb_X9_in mk_RX9_63 rfl ⟨Nat.le_of_ble_eq_true rfl, Nat.le_of_ble_eq_true rfl⟩ rfl (Nat.le_of_ble_eq_true rfl) dX9_part_13 ?_
    refine jIfEq C 27 dX9_part_16 (by decide) (fun c6 => ?_) (fun c6 => ?_)
    · replace hf := itp hf c6
      refine jBipush C (-2 : Int32) dX9_part_27 kb_m2 ?_
      cases hf
      exact jEndI C hQ rfl dX9_part_29
    · replace hf := itn hf c6
      refine jIload C dX9_part_19 4 rfl ?_
      obtain ⟨q7, e8, hf⟩ := bd1_some hf
      refine jSI C (X9_isSlot_ok  e8) sb_X9_isSlot mk_RX9_67 rfl ⟨Nat.le_of_ble_eq_true rfl, Nat.le_of_ble_eq_true rfl⟩ rfl (Nat.le_of_ble_eq_true rfl) dX9_part_21 ?_
      refine jIfNe C 30 dX9_part_24 (by decide) (fun c9 => ?_) (fun c9 => ?_)
      · replace hf := itn hf c9
        refine jAloadn C dX9_part_30 rfl 0 rfl ?_
        refine jAloadn C dX9_part_31 rfl 0 rfl ?_
        refine jIloadn C dX9_part_32 rfl 1 rfl ?_
        obtain ⟨q10, e11, hf⟩ := bd1_some hf
        refine jVI C (X9_points_ok  e11) vb_X9_points mk_RX9_78 rfl rcM ⟨Nat.le_of_ble_eq_true rfl, Nat.le_of_ble_eq_true rfl⟩ rfl (Nat.le_of_ble_eq_true rfl) dX9_part_33 ?_
        obtain ⟨mfrp_12, mfre_13, e14, hf⟩ := bd2_some hf
        refine jVV C (X9_clearsFresh_ok  e14) vb_X9_clearsFresh mk_RX9_176 rfl rcM ⟨Nat.le_of_ble_eq_true rfl, Nat.le_of_ble_eq_true rfl⟩ rfl (Nat.le_of_ble_eq_true rfl) dX9_part_36 ?_
        refine jIconst C (0 : Int32) dX9_part_39 ki_0 ?_
        refine jIstore C dX9_part_40 (Nat.le_of_ble_eq_true rfl) [(5, .int (0 : Int32)), (0, .ref (h 0)), (1, .int p1), (2, .int p2), (3, .int p3), (4, .int p4)] rfl ?_
        have hL17 : ∀ (x5_15 : Int32) (mfre_16 : Nat → Int32), lfp2 (X9_part_h42 mfrp_12 mact mnow mkep p4 p1 p2 p3) x5_15 mfre_16 = some (rr, omfrp, omact, omnow, omfre, omkep) → J p l e (rmk 4) s m args below meth c D A Q 6 (mw h cy mthr mfrp_12 mact mtpd msiz matx mfrm mtok mval mfk mfpl mbem mtrs mtrl mrom mtom mnow mfre_16 mkep mtap mlef mtak mbes mrow mint mrnd mplo mhio mtox mtol) 42 [(0, .ref (h 0)), (1, .int p1), (2, .int p2), (3, .int p3), (4, .int p4), (5, .int x5_15)] [] := by
          intro x5_15 mfre_16 hw
          refine lfp2_walk (P := fun x5_15 mfre_16 => J p l e (rmk 4) s m args below meth c D A Q 6 (mw h cy mthr mfrp_12 mact mtpd msiz matx mfrm mtok mval mfk mfpl mbem mtrs mtrl mrom mtom mnow mfre_16 mkep mtap mlef mtak mbes mrow mint mrnd mplo mhio mtox mtol) 42 [(0, .ref (h 0)), (1, .int p1), (2, .int p2), (3, .int p3), (4, .int p4), (5, .int x5_15)] []) ?_ hw
          intro r18 ir18 x5_15 mfre_16 hf
          unfold X9_part_h42 at hf
          refine jIload C dX9_part_42 5 rfl ?_
          refine jSipush C (128 : Int32) dX9_part_44 ks_128 ?_
          refine jCmpGe C 98 dX9_part_47 (by decide) (fun c19 => ?_) (fun c19 => ?_)
          · replace hf := itp hf c19
            refine jAloadn C dX9_part_98 rfl 0 rfl ?_
            refine jIload C dX9_part_99 4 rfl ?_
            obtain ⟨q20, mact_21, mnow_22, mkep_23, e24, hf⟩ := bd4_some hf
            refine jVI C (X9_comes_ok  e24) vb_X9_comes mk_RX9_188 rfl rcM ⟨Nat.le_of_ble_eq_true rfl, Nat.le_of_ble_eq_true rfl⟩ rfl (Nat.le_of_ble_eq_true rfl) dX9_part_101 ?_
            cases hf
            exact jEndI C hQ rfl dX9_part_104
          · replace hf := itn hf c19
            refine jAloadn C dX9_part_50 rfl 0 rfl ?_
            refine jIloadn C dX9_part_51 rfl 1 rfl ?_
            refine jIload C dX9_part_52 5 rfl ?_
            obtain ⟨q25, e26, hf⟩ := bd1_some hf
            refine jVI C (X9_isIn_ok  e26) vb_X9_isIn mk_RX9_81 rfl rcM ⟨Nat.le_of_ble_eq_true rfl, Nat.le_of_ble_eq_true rfl⟩ rfl (Nat.le_of_ble_eq_true rfl) dX9_part_54 ?_
            refine jIfEq C 92 dX9_part_57 (by decide) (fun c27 => ?_) (fun c27 => ?_)
            · replace hf := itp hf c27
              refine jIinc C (x5_15 + (1 : Int32)) dX9_part_92 5 rfl (congrArg (fun z : Int32 => x5_15 + z) ki_1) (Nat.le_of_ble_eq_true rfl) [(5, .int (x5_15 + (1 : Int32))), (0, .ref (h 0)), (1, .int p1), (2, .int p2), (3, .int p3), (4, .int p4)] rfl ?_
              refine jGoto C 42 dX9_part_95 (by decide) ?_
              refine jSub [1, 2, 3, 4, 5, 0] rfl ?_
              exact ir18 (x5_15 + (1 : Int32)) mfre_16 hf
            · replace hf := itn hf c27
              refine jIload C dX9_part_60 5 rfl ?_
              refine jIloadn C dX9_part_62 rfl 2 rfl ?_
              obtain ⟨q28, e29, hf⟩ := bd1_some hf
              refine jSI C (X9_hasBit_ok  e29) sb_X9_hasBit mk_RX9_169 rfl ⟨Nat.le_of_ble_eq_true rfl, Nat.le_of_ble_eq_true rfl⟩ rfl (Nat.le_of_ble_eq_true rfl) dX9_part_63 ?_
              refine jIloadn C dX9_part_66 rfl 3 rfl ?_
              have hL31 : ∀ (y30 : Int32), X9_part_j75 q28 x5_15 p2 r18 mfre_16 y30 = some (rr, omfrp, omact, omnow, omfre, omkep) → J p l e (rmk 4) s m args below meth c D A Q 6 (mw h cy mthr mfrp_12 mact mtpd msiz matx mfrm mtok mval mfk mfpl mbem mtrs mtrl mrom mtom mnow mfre_16 mkep mtap mlef mtak mbes mrow mint mrnd mplo mhio mtox mtol) 75 [(0, .ref (h 0)), (1, .int p1), (2, .int p2), (3, .int p3), (4, .int p4), (5, .int x5_15)] [.int y30, .int q28] := by
                intro y30 hf
                unfold X9_part_j75 at hf
                refine jCmpNe C 92 dX9_part_75 (by decide) (fun c32 => ?_) (fun c32 => ?_)
                · replace hf := itn hf c32
                  refine jIinc C (x5_15 + (1 : Int32)) dX9_part_92 5 rfl (congrArg (fun z : Int32 => x5_15 + z) ki_1) (Nat.le_of_ble_eq_true rfl) [(5, .int (x5_15 + (1 : Int32))), (0, .ref (h 0)), (1, .int p1), (2, .int p2), (3, .int p3), (4, .int p4)] rfl ?_
                  refine jGoto C 42 dX9_part_95 (by decide) ?_
                  refine jSub [1, 2, 3, 4, 5, 0] rfl ?_
                  exact ir18 (x5_15 + (1 : Int32)) mfre_16 hf
                · replace hf := itp hf c32
                  refine jAloadn C dX9_part_78 rfl 0 rfl ?_
                  refine gf_RX9_13 C dX9_part_79 ?_
                  refine jIload C dX9_part_82 5 rfl ?_
                  refine jIconst C (1 : Int32) dX9_part_84 ki_1 ?_
                  refine jIloadn C dX9_part_85 rfl 2 rfl ?_
                  refine jIshl C dX9_part_86 ?_
                  refine jIconst C (-1 : Int32) dX9_part_87 ki_m1 ?_
                  refine jIxor C dX9_part_88 ?_
                  refine jIand C dX9_part_89 ?_
                  refine jIconst C (1 : Int32) dX9_part_90 ki_1 ?_
                  obtain ⟨z33, hf⟩ := gin_some hf
                  refine as_mfre C z33 dX9_part_91 ?_
                  refine jIinc C (x5_15 + (1 : Int32)) dX9_part_92 5 rfl (congrArg (fun z : Int32 => x5_15 + z) ki_1) (Nat.le_of_ble_eq_true rfl) [(5, .int (x5_15 + (1 : Int32))), (0, .ref (h 0)), (1, .int p1), (2, .int p2), (3, .int p3), (4, .int p4)] rfl ?_
                  refine jGoto C 42 dX9_part_95 (by decide) ?_
                  refine jSub [1, 2, 3, 4, 5, 0] rfl ?_
                  exact ir18 (x5_15 + (1 : Int32)) (upd mfre_16 (x5_15 &&& (((1 : Int32) <<< (p2 &&& 31)) ^^^ (-1 : Int32))).toNatClampNeg (vp_nar .boolean (1 : Int32))) hf
              refine jIfNe C 74 dX9_part_67 (by decide) (fun c34 => ?_) (fun c34 => ?_)
              · replace hf := itn hf c34
                refine jIconst C (0 : Int32) dX9_part_74 ki_0 ?_
                exact hL31 (0 : Int32) hf
              · replace hf := itp hf c34
                refine jIconst C (1 : Int32) dX9_part_70 ki_1 ?_
                refine jGoto C 75 dX9_part_71 (by decide) ?_
                exact hL31 (1 : Int32) hf
        refine jSub [1, 2, 3, 4, 5, 0] rfl ?_
        exact hL17 (0 : Int32) mfre_13 hf
      · replace hf := itp hf c9
        refine jBipush C (-2 : Int32) dX9_part_27 kb_m2 ?_
        cases hf
        exact jEndI C hQ rfl dX9_part_29
noncomputable def X9_isTwo (mnow : Nat → Int32) (p1 : Int32) (p2 : Int32) (p3 : Int32) : Option Int32 := bd1 (X9_isPoint mnow p1 p2) (fun q1 => (if q1 = (0 : Int32) then some (0 : Int32) else bd1 (X9_isPoint mnow p1 p3) (fun q4 => (if q4 = (0 : Int32) then some (0 : Int32) else (if p3 ≤ p2 then some (0 : Int32) else some (1 : Int32))))))
set_option maxHeartbeats 4000000 in
set_option maxRecDepth 20000 in
theorem X9_isTwo_ok {p1 : Int32} {p2 : Int32} {p3 : Int32} {rr : Int32}  (hf : X9_isTwo mnow p1 p2 p3 = some rr) : MT yX9_isTwo cX9_isTwo 4 (some .boolean) 4 [.ref (h 0), .int p1, .int p2, .int p3] D cy G (mw h cy mthr mfrp mact mtpd msiz matx mfrm mtok mval mfk mfpl mbem mtrs mtrl mrom mtom mnow mfre mkep mtap mlef mtak mbes mrow mint mrnd mplo mhio mtox mtol) (mw h cy mthr mfrp mact mtpd msiz matx mfrm mtok mval mfk mfpl mbem mtrs mtrl mrom mtom mnow mfre mkep mtap mlef mtak mbes mrow mint mrnd mplo mhio mtox mtol) (some (.int rr)) := by
  refine MT.go (own := RX9) [(0, .ref (h 0)), (1, .int p1), (2, .int p2), (3, .int p3)] (by decide) rfl (Nat.le_of_ble_eq_true rfl) rfl (fun p l e s m args below meth c A Q C hQ => ?_)
  unfold X9_isTwo at hf
  refine jAloadn C dX9_isTwo_0 rfl 0 rfl ?_
  refine jIloadn C dX9_isTwo_1 rfl 1 rfl ?_
  refine jIloadn C dX9_isTwo_2 rfl 2 rfl ?_
  obtain ⟨q1, e2, hf⟩ := bd1_some hf
  refine jVI C (X9_isPoint_ok  e2) vb_X9_isPoint mk_RX9_243 rfl rcM ⟨Nat.le_of_ble_eq_true rfl, Nat.le_of_ble_eq_true rfl⟩ rfl (Nat.le_of_ble_eq_true rfl) dX9_isTwo_3 ?_
  refine jIfEq C 27 dX9_isTwo_6 (by decide) (fun c3 => ?_) (fun c3 => ?_)
  · replace hf := itp hf c3
    refine jIconst C (0 : Int32) dX9_isTwo_27 ki_0 ?_
    cases hf
    exact jEndIZ C hQ rfl nar_z0 dX9_isTwo_28
  · replace hf := itn hf c3
    refine jAloadn C dX9_isTwo_9 rfl 0 rfl ?_
    refine jIloadn C dX9_isTwo_10 rfl 1 rfl ?_
    refine jIloadn C dX9_isTwo_11 rfl 3 rfl ?_
    obtain ⟨q4, e5, hf⟩ := bd1_some hf
    refine jVI C (X9_isPoint_ok  e5) vb_X9_isPoint mk_RX9_243 rfl rcM ⟨Nat.le_of_ble_eq_true rfl, Nat.le_of_ble_eq_true rfl⟩ rfl (Nat.le_of_ble_eq_true rfl) dX9_isTwo_12 ?_
    refine jIfEq C 27 dX9_isTwo_15 (by decide) (fun c6 => ?_) (fun c6 => ?_)
    · replace hf := itp hf c6
      refine jIconst C (0 : Int32) dX9_isTwo_27 ki_0 ?_
      cases hf
      exact jEndIZ C hQ rfl nar_z0 dX9_isTwo_28
    · replace hf := itn hf c6
      refine jIloadn C dX9_isTwo_18 rfl 2 rfl ?_
      refine jIloadn C dX9_isTwo_19 rfl 3 rfl ?_
      refine jCmpGe C 27 dX9_isTwo_20 (by decide) (fun c7 => ?_) (fun c7 => ?_)
      · replace hf := itp hf c7
        refine jIconst C (0 : Int32) dX9_isTwo_27 ki_0 ?_
        cases hf
        exact jEndIZ C hQ rfl nar_z0 dX9_isTwo_28
      · replace hf := itn hf c7
        refine jIconst C (1 : Int32) dX9_isTwo_23 ki_1 ?_
        refine jGoto C 28 dX9_isTwo_24 (by decide) ?_
        cases hf
        exact jEndIZ C hQ rfl nar_z1 dX9_isTwo_28
noncomputable def X9_would (mnow : Nat → Int32) (p1 : Int32) (p2 : Int32) (p3 : Int32) : Option Int32 := bd1 (X9_isTwo mnow p1 p2 p3) (fun q1 => (if q1 = (0 : Int32) then some (-2 : Int32) else bd1 (X9_wouldShift mnow p1 p2 p3) (fun q4 => some q4)))
set_option maxHeartbeats 4000000 in
set_option maxRecDepth 20000 in
theorem X9_would_ok {p1 : Int32} {p2 : Int32} {p3 : Int32} {rr : Int32}  (hf : X9_would mnow p1 p2 p3 = some rr) : MT yX9_would cX9_would 4 (some .int) 5 [.ref (h 0), .int p1, .int p2, .int p3] D cy G (mw h cy mthr mfrp mact mtpd msiz matx mfrm mtok mval mfk mfpl mbem mtrs mtrl mrom mtom mnow mfre mkep mtap mlef mtak mbes mrow mint mrnd mplo mhio mtox mtol) (mw h cy mthr mfrp mact mtpd msiz matx mfrm mtok mval mfk mfpl mbem mtrs mtrl mrom mtom mnow mfre mkep mtap mlef mtak mbes mrow mint mrnd mplo mhio mtox mtol) (some (.int rr)) := by
  refine MT.go (own := RX9) [(0, .ref (h 0)), (1, .int p1), (2, .int p2), (3, .int p3)] (by decide) rfl (Nat.le_of_ble_eq_true rfl) rfl (fun p l e s m args below meth c A Q C hQ => ?_)
  unfold X9_would at hf
  refine jAloadn C dX9_would_0 rfl 0 rfl ?_
  refine jIloadn C dX9_would_1 rfl 1 rfl ?_
  refine jIloadn C dX9_would_2 rfl 2 rfl ?_
  refine jIloadn C dX9_would_3 rfl 3 rfl ?_
  obtain ⟨q1, e2, hf⟩ := bd1_some hf
  refine jVI C (X9_isTwo_ok  e2) vb_X9_isTwo mk_RX9_273 rfl rcM ⟨Nat.le_of_ble_eq_true rfl, Nat.le_of_ble_eq_true rfl⟩ rfl (Nat.le_of_ble_eq_true rfl) dX9_would_4 ?_
  refine jIfEq C 20 dX9_would_7 (by decide) (fun c3 => ?_) (fun c3 => ?_)
  · replace hf := itp hf c3
    refine jBipush C (-2 : Int32) dX9_would_20 kb_m2 ?_
    cases hf
    exact jEndI C hQ rfl dX9_would_22
  · replace hf := itn hf c3
    refine jAloadn C dX9_would_10 rfl 0 rfl ?_
    refine jIloadn C dX9_would_11 rfl 1 rfl ?_
    refine jIloadn C dX9_would_12 rfl 2 rfl ?_
    refine jIloadn C dX9_would_13 rfl 3 rfl ?_
    obtain ⟨q4, e5, hf⟩ := bd1_some hf
    refine jVI C (X9_wouldShift_ok  e5) vb_X9_wouldShift mk_RX9_219 rfl rcM ⟨Nat.le_of_ble_eq_true rfl, Nat.le_of_ble_eq_true rfl⟩ rfl (Nat.le_of_ble_eq_true rfl) dX9_would_14 ?_
    refine jGoto C 22 dX9_would_17 (by decide) ?_
    cases hf
    exact jEndI C hQ rfl dX9_would_22
noncomputable def X9_shiftsFresh_h5 (p2 : Int32) (p1 : Int32) (r5 : Int32 → Int32 → (Nat → Int32) → Option (Int32 × (Nat → Int32))) (x3_1 : Int32) (x4_2 : Int32) (mfre_3 : Nat → Int32) : Option (Int32 × (Nat → Int32)) := (if (128 : Int32) ≤ x4_2 then some (x3_1, mfre_3) else gin x4_2 128 ((if (mfre_3 x4_2.toNatClampNeg) = (0 : Int32) then r5 x3_1 (x4_2 + (1 : Int32)) mfre_3 else bd1 (X9_hasBit x4_2 p2) (fun q9 => (if q9 = (0 : Int32) then r5 x3_1 (x4_2 + (1 : Int32)) mfre_3 else bd1 (X9_hasBit x4_2 p1) (fun q12 => (if q12 = (0 : Int32) then gin ((x4_2 ^^^ ((1 : Int32) <<< (p2 &&& 31))) ^^^ ((1 : Int32) <<< (p1 &&& 31))) 128 ((if (mfre_3 ((x4_2 ^^^ ((1 : Int32) <<< (p2 &&& 31))) ^^^ ((1 : Int32) <<< (p1 &&& 31))).toNatClampNeg) = (0 : Int32) then gin x4_2 128 (gin ((x4_2 ^^^ ((1 : Int32) <<< (p2 &&& 31))) ^^^ ((1 : Int32) <<< (p1 &&& 31))) 128 (r5 (x3_1 + (1 : Int32)) (x4_2 + (1 : Int32)) (upd (upd mfre_3 x4_2.toNatClampNeg (vp_nar .boolean (0 : Int32))) ((x4_2 ^^^ ((1 : Int32) <<< (p2 &&& 31))) ^^^ ((1 : Int32) <<< (p1 &&& 31))).toNatClampNeg (vp_nar .boolean (1 : Int32))))) else r5 x3_1 (x4_2 + (1 : Int32)) mfre_3)) else r5 x3_1 (x4_2 + (1 : Int32)) mfre_3)))))))
noncomputable def X9_shiftsFresh (mfre : Nat → Int32) (p1 : Int32) (p2 : Int32) : Option (Int32 × (Nat → Int32)) := lfp3 (X9_shiftsFresh_h5 p2 p1) (0 : Int32) (0 : Int32) mfre
set_option maxHeartbeats 4000000 in
set_option maxRecDepth 20000 in
theorem X9_shiftsFresh_ok {p1 : Int32} {p2 : Int32} {rr : Int32} {omfre : Nat → Int32}  (hf : X9_shiftsFresh mfre p1 p2 = some (rr, omfre)) : MT yX9_shiftsFresh cX9_shiftsFresh 6 (some .int) 1 [.ref (h 0), .int p1, .int p2] D cy G (mw h cy mthr mfrp mact mtpd msiz matx mfrm mtok mval mfk mfpl mbem mtrs mtrl mrom mtom mnow mfre mkep mtap mlef mtak mbes mrow mint mrnd mplo mhio mtox mtol) (mw h cy mthr mfrp mact mtpd msiz matx mfrm mtok mval mfk mfpl mbem mtrs mtrl mrom mtom mnow omfre mkep mtap mlef mtak mbes mrow mint mrnd mplo mhio mtox mtol) (some (.int rr)) := by
  refine MT.go (own := RX9) [(0, .ref (h 0)), (1, .int p1), (2, .int p2)] (by decide) rfl (Nat.le_of_ble_eq_true rfl) rfl (fun p l e s m args below meth c A Q C hQ => ?_)
  unfold X9_shiftsFresh at hf
  refine jIconst C (0 : Int32) dX9_shiftsFresh_0 ki_0 ?_
  refine jIstoren C dX9_shiftsFresh_1 rfl (Nat.le_of_ble_eq_true rfl) [(3, .int (0 : Int32)), (0, .ref (h 0)), (1, .int p1), (2, .int p2)] rfl ?_
  refine jIconst C (0 : Int32) dX9_shiftsFresh_2 ki_0 ?_
  refine jIstore C dX9_shiftsFresh_3 (Nat.le_of_ble_eq_true rfl) [(4, .int (0 : Int32)), (3, .int (0 : Int32)), (0, .ref (h 0)), (1, .int p1), (2, .int p2)] rfl ?_
  have hL4 : ∀ (x3_1 : Int32) (x4_2 : Int32) (mfre_3 : Nat → Int32), lfp3 (X9_shiftsFresh_h5 p2 p1) x3_1 x4_2 mfre_3 = some (rr, omfre) → J p l e (rmk 1) s m args below meth c D A Q 6 (mw h cy mthr mfrp mact mtpd msiz matx mfrm mtok mval mfk mfpl mbem mtrs mtrl mrom mtom mnow mfre_3 mkep mtap mlef mtak mbes mrow mint mrnd mplo mhio mtox mtol) 5 [(0, .ref (h 0)), (1, .int p1), (2, .int p2), (3, .int x3_1), (4, .int x4_2)] [] := by
    intro x3_1 x4_2 mfre_3 hw
    refine lfp3_walk (P := fun x3_1 x4_2 mfre_3 => J p l e (rmk 1) s m args below meth c D A Q 6 (mw h cy mthr mfrp mact mtpd msiz matx mfrm mtok mval mfk mfpl mbem mtrs mtrl mrom mtom mnow mfre_3 mkep mtap mlef mtak mbes mrow mint mrnd mplo mhio mtox mtol) 5 [(0, .ref (h 0)), (1, .int p1), (2, .int p2), (3, .int x3_1), (4, .int x4_2)] []) ?_ hw
    intro r5 ir5 x3_1 x4_2 mfre_3 hf
    unfold X9_shiftsFresh_h5 at hf
    refine jIload C dX9_shiftsFresh_5 4 rfl ?_
    refine jSipush C (128 : Int32) dX9_shiftsFresh_7 ks_128 ?_
    refine jCmpGe C 91 dX9_shiftsFresh_10 (by decide) (fun c6 => ?_) (fun c6 => ?_)
    · replace hf := itp hf c6
      refine jIloadn C dX9_shiftsFresh_91 rfl 3 rfl ?_
      cases hf
      exact jEndI C hQ rfl dX9_shiftsFresh_92
    · replace hf := itn hf c6
      refine jIload C dX9_shiftsFresh_13 4 rfl ?_
      refine jIconst C (1 : Int32) dX9_shiftsFresh_15 ki_1 ?_
      refine jIloadn C dX9_shiftsFresh_16 rfl 2 rfl ?_
      refine jIshl C dX9_shiftsFresh_17 ?_
      refine jIxor C dX9_shiftsFresh_18 ?_
      refine jIconst C (1 : Int32) dX9_shiftsFresh_19 ki_1 ?_
      refine jIloadn C dX9_shiftsFresh_20 rfl 1 rfl ?_
      refine jIshl C dX9_shiftsFresh_21 ?_
      refine jIxor C dX9_shiftsFresh_22 ?_
      refine jIstore C dX9_shiftsFresh_23 (Nat.le_of_ble_eq_true rfl) [(5, .int ((x4_2 ^^^ ((1 : Int32) <<< (p2 &&& 31))) ^^^ ((1 : Int32) <<< (p1 &&& 31)))), (0, .ref (h 0)), (1, .int p1), (2, .int p2), (3, .int x3_1), (4, .int x4_2)] rfl ?_
      refine jAloadn C dX9_shiftsFresh_25 rfl 1 rfl ?_
      refine gf_RX9_13 C dX9_shiftsFresh_26 ?_
      refine jIload C dX9_shiftsFresh_29 5 rfl ?_
      obtain ⟨z7, hf⟩ := gin_some hf
      refine al_mfre C z7 dX9_shiftsFresh_31 ?_
      refine jIfEq C 85 dX9_shiftsFresh_32 (by decide) (fun c8 => ?_) (fun c8 => ?_)
      · replace hf := itp hf c8
        refine jIinc C (x4_2 + (1 : Int32)) dX9_shiftsFresh_85 5 rfl (congrArg (fun z : Int32 => x4_2 + z) ki_1) (Nat.le_of_ble_eq_true rfl) [(4, .int (x4_2 + (1 : Int32))), (5, .int ((x4_2 ^^^ ((1 : Int32) <<< (p2 &&& 31))) ^^^ ((1 : Int32) <<< (p1 &&& 31)))), (0, .ref (h 0)), (1, .int p1), (2, .int p2), (3, .int x3_1)] rfl ?_
        refine jGoto C 5 dX9_shiftsFresh_88 (by decide) ?_
        refine jSub [2, 3, 4, 5, 0] rfl ?_
        exact ir5 x3_1 (x4_2 + (1 : Int32)) mfre_3 hf
      · replace hf := itn hf c8
        refine jIload C dX9_shiftsFresh_35 5 rfl ?_
        refine jIloadn C dX9_shiftsFresh_37 rfl 3 rfl ?_
        obtain ⟨q9, e10, hf⟩ := bd1_some hf
        refine jSI C (X9_hasBit_ok  e10) sb_X9_hasBit mk_RX9_169 rfl ⟨Nat.le_of_ble_eq_true rfl, Nat.le_of_ble_eq_true rfl⟩ rfl (Nat.le_of_ble_eq_true rfl) dX9_shiftsFresh_38 ?_
        refine jIfEq C 85 dX9_shiftsFresh_41 (by decide) (fun c11 => ?_) (fun c11 => ?_)
        · replace hf := itp hf c11
          refine jIinc C (x4_2 + (1 : Int32)) dX9_shiftsFresh_85 5 rfl (congrArg (fun z : Int32 => x4_2 + z) ki_1) (Nat.le_of_ble_eq_true rfl) [(4, .int (x4_2 + (1 : Int32))), (5, .int ((x4_2 ^^^ ((1 : Int32) <<< (p2 &&& 31))) ^^^ ((1 : Int32) <<< (p1 &&& 31)))), (0, .ref (h 0)), (1, .int p1), (2, .int p2), (3, .int x3_1)] rfl ?_
          refine jGoto C 5 dX9_shiftsFresh_88 (by decide) ?_
          refine jSub [2, 3, 4, 5, 0] rfl ?_
          exact ir5 x3_1 (x4_2 + (1 : Int32)) mfre_3 hf
        · replace hf := itn hf c11
          refine jIload C dX9_shiftsFresh_44 5 rfl ?_
          refine jIloadn C dX9_shiftsFresh_46 rfl 2 rfl ?_
          obtain ⟨q12, e13, hf⟩ := bd1_some hf
          refine jSI C (X9_hasBit_ok  e13) sb_X9_hasBit mk_RX9_169 rfl ⟨Nat.le_of_ble_eq_true rfl, Nat.le_of_ble_eq_true rfl⟩ rfl (Nat.le_of_ble_eq_true rfl) dX9_shiftsFresh_47 ?_
          refine jIfNe C 85 dX9_shiftsFresh_50 (by decide) (fun c14 => ?_) (fun c14 => ?_)
          · replace hf := itn hf c14
            refine jIinc C (x4_2 + (1 : Int32)) dX9_shiftsFresh_85 5 rfl (congrArg (fun z : Int32 => x4_2 + z) ki_1) (Nat.le_of_ble_eq_true rfl) [(4, .int (x4_2 + (1 : Int32))), (5, .int ((x4_2 ^^^ ((1 : Int32) <<< (p2 &&& 31))) ^^^ ((1 : Int32) <<< (p1 &&& 31)))), (0, .ref (h 0)), (1, .int p1), (2, .int p2), (3, .int x3_1)] rfl ?_
            refine jGoto C 5 dX9_shiftsFresh_88 (by decide) ?_
            refine jSub [2, 3, 4, 5, 0] rfl ?_
            exact ir5 x3_1 (x4_2 + (1 : Int32)) mfre_3 hf
          · replace hf := itp hf c14
            refine jAloadn C dX9_shiftsFresh_53 rfl 1 rfl ?_
            refine gf_RX9_13 C dX9_shiftsFresh_54 ?_
            refine jIload C dX9_shiftsFresh_57 0 rfl ?_
            obtain ⟨z15, hf⟩ := gin_some hf
            refine al_mfre C z15 dX9_shiftsFresh_59 ?_
            refine jIfEq C 66 dX9_shiftsFresh_60 (by decide) (fun c16 => ?_) (fun c16 => ?_)
            · replace hf := itp hf c16
              refine jAloadn C dX9_shiftsFresh_66 rfl 1 rfl ?_
              refine gf_RX9_13 C dX9_shiftsFresh_67 ?_
              refine jIload C dX9_shiftsFresh_70 5 rfl ?_
              refine jIconst C (0 : Int32) dX9_shiftsFresh_72 ki_0 ?_
              obtain ⟨z17, hf⟩ := gin_some hf
              refine as_mfre C z17 dX9_shiftsFresh_73 ?_
              refine jAloadn C dX9_shiftsFresh_74 rfl 1 rfl ?_
              refine gf_RX9_13 C dX9_shiftsFresh_75 ?_
              refine jIload C dX9_shiftsFresh_78 0 rfl ?_
              refine jIconst C (1 : Int32) dX9_shiftsFresh_80 ki_1 ?_
              obtain ⟨z18, hf⟩ := gin_some hf
              refine as_mfre C z18 dX9_shiftsFresh_81 ?_
              refine jIinc C (x3_1 + (1 : Int32)) dX9_shiftsFresh_82 4 rfl (congrArg (fun z : Int32 => x3_1 + z) ki_1) (Nat.le_of_ble_eq_true rfl) [(3, .int (x3_1 + (1 : Int32))), (5, .int ((x4_2 ^^^ ((1 : Int32) <<< (p2 &&& 31))) ^^^ ((1 : Int32) <<< (p1 &&& 31)))), (0, .ref (h 0)), (1, .int p1), (2, .int p2), (4, .int x4_2)] rfl ?_
              refine jIinc C (x4_2 + (1 : Int32)) dX9_shiftsFresh_85 5 rfl (congrArg (fun z : Int32 => x4_2 + z) ki_1) (Nat.le_of_ble_eq_true rfl) [(4, .int (x4_2 + (1 : Int32))), (3, .int (x3_1 + (1 : Int32))), (5, .int ((x4_2 ^^^ ((1 : Int32) <<< (p2 &&& 31))) ^^^ ((1 : Int32) <<< (p1 &&& 31)))), (0, .ref (h 0)), (1, .int p1), (2, .int p2)] rfl ?_
              refine jGoto C 5 dX9_shiftsFresh_88 (by decide) ?_
              refine jSub [3, 4, 5, 1, 0] rfl ?_
              exact ir5 (x3_1 + (1 : Int32)) (x4_2 + (1 : Int32)) (upd (upd mfre_3 x4_2.toNatClampNeg (vp_nar .boolean (0 : Int32))) ((x4_2 ^^^ ((1 : Int32) <<< (p2 &&& 31))) ^^^ ((1 : Int32) <<< (p1 &&& 31))).toNatClampNeg (vp_nar .boolean (1 : Int32))) hf
            · replace hf := itn hf c16
              refine jGoto C 85 dX9_shiftsFresh_63 (by decide) ?_
              refine jIinc C (x4_2 + (1 : Int32)) dX9_shiftsFresh_85 5 rfl (congrArg (fun z : Int32 => x4_2 + z) ki_1) (Nat.le_of_ble_eq_true rfl) [(4, .int (x4_2 + (1 : Int32))), (5, .int ((x4_2 ^^^ ((1 : Int32) <<< (p2 &&& 31))) ^^^ ((1 : Int32) <<< (p1 &&& 31)))), (0, .ref (h 0)), (1, .int p1), (2, .int p2), (3, .int x3_1)] rfl ?_
              refine jGoto C 5 dX9_shiftsFresh_88 (by decide) ?_
              refine jSub [2, 3, 4, 5, 0] rfl ?_
              exact ir5 x3_1 (x4_2 + (1 : Int32)) mfre_3 hf
  refine jSub [2, 3, 4, 1, 0] rfl ?_
  exact hL4 (0 : Int32) (0 : Int32) mfre hf
noncomputable def X9_shift (mfrp : Int32) (mact : Int32) (mnow : Nat → Int32) (mfre : Nat → Int32) (mkep : Nat → Int32) (p1 : Int32) (p2 : Int32) (p3 : Int32) : Option (Int32 × Int32 × Int32 × (Nat → Int32) × (Nat → Int32) × (Nat → Int32)) := bd1 (X9_isTwo mnow p1 p2 p3) (fun q1 => (if q1 = (0 : Int32) then some ((-2 : Int32), mfrp, mact, mnow, mfre, mkep) else bd2 (X9_copiesFresh mnow mfre p1) (fun mfrp_4 mfre_5 => bd2 (X9_shiftsFresh mfre_5 p2 p3) (fun q7 mfre_8 => bd4 (X9_comes mfrp_4 mact mnow mfre_8 mkep p1) (fun q10 mact_11 mnow_12 mkep_13 => some (q7, mfrp_4, mact_11, mnow_12, mfre_8, mkep_13))))))
set_option maxHeartbeats 4000000 in
set_option maxRecDepth 20000 in
theorem X9_shift_ok {p1 : Int32} {p2 : Int32} {p3 : Int32} {rr : Int32} {omfrp : Int32} {omact : Int32} {omnow : Nat → Int32} {omfre : Nat → Int32} {omkep : Nat → Int32}  (hf : X9_shift mfrp mact mnow mfre mkep p1 p2 p3 = some (rr, omfrp, omact, omnow, omfre, omkep)) : MT yX9_shift cX9_shift 6 (some .int) 5 [.ref (h 0), .int p1, .int p2, .int p3] D cy G (mw h cy mthr mfrp mact mtpd msiz matx mfrm mtok mval mfk mfpl mbem mtrs mtrl mrom mtom mnow mfre mkep mtap mlef mtak mbes mrow mint mrnd mplo mhio mtox mtol) (mw h cy mthr omfrp omact mtpd msiz matx mfrm mtok mval mfk mfpl mbem mtrs mtrl mrom mtom omnow omfre omkep mtap mlef mtak mbes mrow mint mrnd mplo mhio mtox mtol) (some (.int rr)) := by
  refine MT.go (own := RX9) [(0, .ref (h 0)), (1, .int p1), (2, .int p2), (3, .int p3)] (by decide) rfl (Nat.le_of_ble_eq_true rfl) rfl (fun p l e s m args below meth c A Q C hQ => ?_)
  unfold X9_shift at hf
  refine jAloadn C dX9_shift_0 rfl 0 rfl ?_
  refine jIloadn C dX9_shift_1 rfl 1 rfl ?_
  refine jIloadn C dX9_shift_2 rfl 2 rfl ?_
  refine jIloadn C dX9_shift_3 rfl 3 rfl ?_
  obtain ⟨q1, e2, hf⟩ := bd1_some hf
  refine jVI C (X9_isTwo_ok  e2) vb_X9_isTwo mk_RX9_273 rfl rcM ⟨Nat.le_of_ble_eq_true rfl, Nat.le_of_ble_eq_true rfl⟩ rfl (Nat.le_of_ble_eq_true rfl) dX9_shift_4 ?_
  refine jIfNe C 13 dX9_shift_7 (by decide) (fun c3 => ?_) (fun c3 => ?_)
  · replace hf := itn hf c3
    refine jAloadn C dX9_shift_13 rfl 0 rfl ?_
    refine jIloadn C dX9_shift_14 rfl 1 rfl ?_
    obtain ⟨mfrp_4, mfre_5, e6, hf⟩ := bd2_some hf
    refine jVV C (X9_copiesFresh_ok  e6) vb_X9_copiesFresh mk_RX9_249 rfl rcM ⟨Nat.le_of_ble_eq_true rfl, Nat.le_of_ble_eq_true rfl⟩ rfl (Nat.le_of_ble_eq_true rfl) dX9_shift_15 ?_
    refine jAloadn C dX9_shift_18 rfl 0 rfl ?_
    refine jIloadn C dX9_shift_19 rfl 2 rfl ?_
    refine jIloadn C dX9_shift_20 rfl 3 rfl ?_
    obtain ⟨q7, mfre_8, e9, hf⟩ := bd2_some hf
    refine jVI C (X9_shiftsFresh_ok  e9) vb_X9_shiftsFresh mk_RX9_276 rfl rcM ⟨Nat.le_of_ble_eq_true rfl, Nat.le_of_ble_eq_true rfl⟩ rfl (Nat.le_of_ble_eq_true rfl) dX9_shift_21 ?_
    refine jIstore C dX9_shift_24 (Nat.le_of_ble_eq_true rfl) [(4, .int q7), (0, .ref (h 0)), (1, .int p1), (2, .int p2), (3, .int p3)] rfl ?_
    refine jAloadn C dX9_shift_26 rfl 1 rfl ?_
    refine jIloadn C dX9_shift_27 rfl 2 rfl ?_
    obtain ⟨q10, mact_11, mnow_12, mkep_13, e14, hf⟩ := bd4_some hf
    refine jVI C (X9_comes_ok  e14) vb_X9_comes mk_RX9_188 rfl rcM ⟨Nat.le_of_ble_eq_true rfl, Nat.le_of_ble_eq_true rfl⟩ rfl (Nat.le_of_ble_eq_true rfl) dX9_shift_28 ?_
    refine jIstore C dX9_shift_31 (Nat.le_of_ble_eq_true rfl) [(5, .int q10), (4, .int q7), (0, .ref (h 0)), (1, .int p1), (2, .int p2), (3, .int p3)] rfl ?_
    refine jIload C dX9_shift_33 1 rfl ?_
    cases hf
    exact jEndI C hQ rfl dX9_shift_35
  · replace hf := itp hf c3
    refine jBipush C (-2 : Int32) dX9_shift_10 kb_m2 ?_
    cases hf
    exact jEndI C hQ rfl dX9_shift_12
noncomputable def X9_settles_h45 (mfrp_4 : Int32) (r22 : Int32 → Int32 → (Nat → Int32) → Option (Int32 × Int32 × Int32 × (Nat → Int32) × (Nat → Int32) × (Nat → Int32))) (x4_19 : Int32) (r28 : Int32 → Int32 → (Nat → Int32) → Option (Int32 × Int32 × Int32 × (Nat → Int32) × (Nat → Int32) × (Nat → Int32))) (x2_24 : Int32) (x5_25 : Int32) (mfre_26 : Nat → Int32) : Option (Int32 × Int32 × Int32 × (Nat → Int32) × (Nat → Int32) × (Nat → Int32)) := (if mfrp_4 ≤ x5_25 then r22 x2_24 (x4_19 + (1 : Int32)) mfre_26 else bd2 (X9_shiftsFresh mfre_26 x4_19 x5_25) (fun q30 mfre_31 => (if q30 ≤ (0 : Int32) then r28 (x2_24 + (0 : Int32)) (x5_25 + (1 : Int32)) mfre_31 else r28 (x2_24 + (1 : Int32)) (x5_25 + (1 : Int32)) mfre_31)))
noncomputable def X9_settles_h30 (mfrp_4 : Int32) (r11 : Int32 → Int32 → (Nat → Int32) → Option (Int32 × Int32 × Int32 × (Nat → Int32) × (Nat → Int32) × (Nat → Int32))) (x2_7 : Int32) (r22 : Int32 → Int32 → (Nat → Int32) → Option (Int32 × Int32 × Int32 × (Nat → Int32) × (Nat → Int32) × (Nat → Int32))) (x2_18 : Int32) (x4_19 : Int32) (mfre_20 : Nat → Int32) : Option (Int32 × Int32 × Int32 × (Nat → Int32) × (Nat → Int32) × (Nat → Int32)) := (if mfrp_4 ≤ x4_19 then r11 x2_18 x2_7 mfre_20 else lfp3 (X9_settles_h45 mfrp_4 r22 x4_19) x2_18 (x4_19 + (1 : Int32)) mfre_20)
noncomputable def X9_settles_h20 (mfrp_4 : Int32) (mact : Int32) (mnow : Nat → Int32) (mkep : Nat → Int32) (p1 : Int32) (r11 : Int32 → Int32 → (Nat → Int32) → Option (Int32 × Int32 × Int32 × (Nat → Int32) × (Nat → Int32) × (Nat → Int32))) (x2_7 : Int32) (x3_8 : Int32) (mfre_9 : Nat → Int32) : Option (Int32 × Int32 × Int32 × (Nat → Int32) × (Nat → Int32) × (Nat → Int32)) := (if x2_7 = x3_8 then bd4 (X9_comes mfrp_4 mact mnow mfre_9 mkep p1) (fun q13 mact_14 mnow_15 mkep_16 => some (x2_7, mfrp_4, mact_14, mnow_15, mfre_9, mkep_16)) else lfp3 (X9_settles_h30 mfrp_4 r11 x2_7) x2_7 (0 : Int32) mfre_9)
noncomputable def X9_settles (mfrp : Int32) (mact : Int32) (mnow : Nat → Int32) (mfre : Nat → Int32) (mkep : Nat → Int32) (p1 : Int32) : Option (Int32 × Int32 × Int32 × (Nat → Int32) × (Nat → Int32) × (Nat → Int32)) := bd1 (X9_hasOne mnow p1) (fun q1 => (if q1 = (0 : Int32) then some ((-2 : Int32), mfrp, mact, mnow, mfre, mkep) else bd2 (X9_copiesFresh mnow mfre p1) (fun mfrp_4 mfre_5 => lfp3 (X9_settles_h20 mfrp_4 mact mnow mkep p1) (0 : Int32) (-1 : Int32) mfre_5)))
set_option maxHeartbeats 4000000 in
set_option maxRecDepth 20000 in
theorem X9_settles_ok {p1 : Int32} {rr : Int32} {omfrp : Int32} {omact : Int32} {omnow : Nat → Int32} {omfre : Nat → Int32} {omkep : Nat → Int32}  (hf : X9_settles mfrp mact mnow mfre mkep p1 = some (rr, omfrp, omact, omnow, omfre, omkep)) : MT yX9_settles cX9_settles 6 (some .int) 4 [.ref (h 0), .int p1] D cy G (mw h cy mthr mfrp mact mtpd msiz matx mfrm mtok mval mfk mfpl mbem mtrs mtrl mrom mtom mnow mfre mkep mtap mlef mtak mbes mrow mint mrnd mplo mhio mtox mtol) (mw h cy mthr omfrp omact mtpd msiz matx mfrm mtok mval mfk mfpl mbem mtrs mtrl mrom mtom omnow omfre omkep mtap mlef mtak mbes mrow mint mrnd mplo mhio mtox mtol) (some (.int rr)) := by
  refine MT.go (own := RX9) [(0, .ref (h 0)), (1, .int p1)] (by decide) rfl (Nat.le_of_ble_eq_true rfl) rfl (fun p l e s m args below meth c A Q C hQ => ?_)
  unfold X9_settles at hf
  refine jAloadn C dX9_settles_0 rfl 0 rfl ?_
  refine jIloadn C dX9_settles_1 rfl 1 rfl ?_
  obtain ⟨q1, e2, hf⟩ := bd1_some hf
  refine jVI C (X9_hasOne_ok  e2) vb_X9_hasOne mk_RX9_75 rfl rcM ⟨Nat.le_of_ble_eq_true rfl, Nat.le_of_ble_eq_true rfl⟩ rfl (Nat.le_of_ble_eq_true rfl) dX9_settles_2 ?_
  refine jIfNe C 11 dX9_settles_5 (by decide) (fun c3 => ?_) (fun c3 => ?_)
  · replace hf := itn hf c3
    refine jAloadn C dX9_settles_11 rfl 0 rfl ?_
    refine jIloadn C dX9_settles_12 rfl 1 rfl ?_
    obtain ⟨mfrp_4, mfre_5, e6, hf⟩ := bd2_some hf
    refine jVV C (X9_copiesFresh_ok  e6) vb_X9_copiesFresh mk_RX9_249 rfl rcM ⟨Nat.le_of_ble_eq_true rfl, Nat.le_of_ble_eq_true rfl⟩ rfl (Nat.le_of_ble_eq_true rfl) dX9_settles_13 ?_
    refine jIconst C (0 : Int32) dX9_settles_16 ki_0 ?_
    refine jIstoren C dX9_settles_17 rfl (Nat.le_of_ble_eq_true rfl) [(2, .int (0 : Int32)), (0, .ref (h 0)), (1, .int p1)] rfl ?_
    refine jIconst C (-1 : Int32) dX9_settles_18 ki_m1 ?_
    refine jIstoren C dX9_settles_19 rfl (Nat.le_of_ble_eq_true rfl) [(3, .int (-1 : Int32)), (2, .int (0 : Int32)), (0, .ref (h 0)), (1, .int p1)] rfl ?_
    have hL10 : ∀ (x2_7 : Int32) (x3_8 : Int32) (mfre_9 : Nat → Int32), lfp3 (X9_settles_h20 mfrp_4 mact mnow mkep p1) x2_7 x3_8 mfre_9 = some (rr, omfrp, omact, omnow, omfre, omkep) → J p l e (rmk 4) s m args below meth c D A Q 6 (mw h cy mthr mfrp_4 mact mtpd msiz matx mfrm mtok mval mfk mfpl mbem mtrs mtrl mrom mtom mnow mfre_9 mkep mtap mlef mtak mbes mrow mint mrnd mplo mhio mtox mtol) 20 [(0, .ref (h 0)), (1, .int p1), (2, .int x2_7), (3, .int x3_8)] [] := by
      intro x2_7 x3_8 mfre_9 hw
      refine lfp3_walk (P := fun x2_7 x3_8 mfre_9 => J p l e (rmk 4) s m args below meth c D A Q 6 (mw h cy mthr mfrp_4 mact mtpd msiz matx mfrm mtok mval mfk mfpl mbem mtrs mtrl mrom mtom mnow mfre_9 mkep mtap mlef mtak mbes mrow mint mrnd mplo mhio mtox mtol) 20 [(0, .ref (h 0)), (1, .int p1), (2, .int x2_7), (3, .int x3_8)] []) ?_ hw
      intro r11 ir11 x2_7 x3_8 mfre_9 hf
      unfold X9_settles_h20 at hf
      refine jIloadn C dX9_settles_20 rfl 2 rfl ?_
      refine jIloadn C dX9_settles_21 rfl 3 rfl ?_
      refine jCmpEq C 88 dX9_settles_22 (by decide) (fun c12 => ?_) (fun c12 => ?_)
      · replace hf := itp hf c12
        refine jAloadn C dX9_settles_88 rfl 0 rfl ?_
        refine jIloadn C dX9_settles_89 rfl 1 rfl ?_
        obtain ⟨q13, mact_14, mnow_15, mkep_16, e17, hf⟩ := bd4_some hf
        refine jVI C (X9_comes_ok  e17) vb_X9_comes mk_RX9_188 rfl rcM ⟨Nat.le_of_ble_eq_true rfl, Nat.le_of_ble_eq_true rfl⟩ rfl (Nat.le_of_ble_eq_true rfl) dX9_settles_90 ?_
        refine jIstore C dX9_settles_93 (Nat.le_of_ble_eq_true rfl) [(4, .int q13), (0, .ref (h 0)), (1, .int p1), (2, .int x2_7), (3, .int x3_8)] rfl ?_
        refine jIloadn C dX9_settles_95 rfl 3 rfl ?_
        cases hf
        exact jEndI C hQ rfl dX9_settles_96
      · replace hf := itn hf c12
        refine jIloadn C dX9_settles_25 rfl 2 rfl ?_
        refine jIstoren C dX9_settles_26 rfl (Nat.le_of_ble_eq_true rfl) [(3, .int x2_7), (0, .ref (h 0)), (1, .int p1), (2, .int x2_7)] rfl ?_
        refine jIconst C (0 : Int32) dX9_settles_27 ki_0 ?_
        refine jIstore C dX9_settles_28 (Nat.le_of_ble_eq_true rfl) [(4, .int (0 : Int32)), (3, .int x2_7), (0, .ref (h 0)), (1, .int p1), (2, .int x2_7)] rfl ?_
        have hL21 : ∀ (x2_18 : Int32) (x4_19 : Int32) (mfre_20 : Nat → Int32), lfp3 (X9_settles_h30 mfrp_4 r11 x2_7) x2_18 x4_19 mfre_20 = some (rr, omfrp, omact, omnow, omfre, omkep) → J p l e (rmk 4) s m args below meth c D A Q 6 (mw h cy mthr mfrp_4 mact mtpd msiz matx mfrm mtok mval mfk mfpl mbem mtrs mtrl mrom mtom mnow mfre_20 mkep mtap mlef mtak mbes mrow mint mrnd mplo mhio mtox mtol) 30 [(0, .ref (h 0)), (1, .int p1), (2, .int x2_18), (3, .int x2_7), (4, .int x4_19)] [] := by
          intro x2_18 x4_19 mfre_20 hw
          refine lfp3_walk (P := fun x2_18 x4_19 mfre_20 => J p l e (rmk 4) s m args below meth c D A Q 6 (mw h cy mthr mfrp_4 mact mtpd msiz matx mfrm mtok mval mfk mfpl mbem mtrs mtrl mrom mtom mnow mfre_20 mkep mtap mlef mtak mbes mrow mint mrnd mplo mhio mtox mtol) 30 [(0, .ref (h 0)), (1, .int p1), (2, .int x2_18), (3, .int x2_7), (4, .int x4_19)] []) ?_ hw
          intro r22 ir22 x2_18 x4_19 mfre_20 hf
          unfold X9_settles_h30 at hf
          refine jIload C dX9_settles_30 4 rfl ?_
          refine jAloadn C dX9_settles_32 rfl 0 rfl ?_
          refine gf_RX9_88 C dX9_settles_33 ?_
          refine jCmpGe C 85 dX9_settles_36 (by decide) (fun c23 => ?_) (fun c23 => ?_)
          · replace hf := itp hf c23
            refine jGoto C 20 dX9_settles_85 (by decide) ?_
            refine jSub [0, 1, 2, 3] rfl ?_
            exact ir11 x2_18 x2_7 mfre_20 hf
          · replace hf := itn hf c23
            refine jIload C dX9_settles_39 4 rfl ?_
            refine jIconst C (1 : Int32) dX9_settles_41 ki_1 ?_
            refine jIadd C dX9_settles_42 ?_
            refine jIstore C dX9_settles_43 (Nat.le_of_ble_eq_true rfl) [(5, .int (x4_19 + (1 : Int32))), (0, .ref (h 0)), (1, .int p1), (2, .int x2_18), (3, .int x2_7), (4, .int x4_19)] rfl ?_
            have hL27 : ∀ (x2_24 : Int32) (x5_25 : Int32) (mfre_26 : Nat → Int32), lfp3 (X9_settles_h45 mfrp_4 r22 x4_19) x2_24 x5_25 mfre_26 = some (rr, omfrp, omact, omnow, omfre, omkep) → J p l e (rmk 4) s m args below meth c D A Q 6 (mw h cy mthr mfrp_4 mact mtpd msiz matx mfrm mtok mval mfk mfpl mbem mtrs mtrl mrom mtom mnow mfre_26 mkep mtap mlef mtak mbes mrow mint mrnd mplo mhio mtox mtol) 45 [(0, .ref (h 0)), (1, .int p1), (2, .int x2_24), (3, .int x2_7), (4, .int x4_19), (5, .int x5_25)] [] := by
              intro x2_24 x5_25 mfre_26 hw
              refine lfp3_walk (P := fun x2_24 x5_25 mfre_26 => J p l e (rmk 4) s m args below meth c D A Q 6 (mw h cy mthr mfrp_4 mact mtpd msiz matx mfrm mtok mval mfk mfpl mbem mtrs mtrl mrom mtom mnow mfre_26 mkep mtap mlef mtak mbes mrow mint mrnd mplo mhio mtox mtol) 45 [(0, .ref (h 0)), (1, .int p1), (2, .int x2_24), (3, .int x2_7), (4, .int x4_19), (5, .int x5_25)] []) ?_ hw
              intro r28 ir28 x2_24 x5_25 mfre_26 hf
              unfold X9_settles_h45 at hf
              refine jIload C dX9_settles_45 5 rfl ?_
              refine jAloadn C dX9_settles_47 rfl 0 rfl ?_
              refine gf_RX9_88 C dX9_settles_48 ?_
              refine jCmpGe C 79 dX9_settles_51 (by decide) (fun c29 => ?_) (fun c29 => ?_)
              · replace hf := itp hf c29
                refine jIinc C (x4_19 + (1 : Int32)) dX9_settles_79 4 rfl (congrArg (fun z : Int32 => x4_19 + z) ki_1) (Nat.le_of_ble_eq_true rfl) [(4, .int (x4_19 + (1 : Int32))), (0, .ref (h 0)), (1, .int p1), (2, .int x2_24), (3, .int x2_7), (5, .int x5_25)] rfl ?_
                refine jGoto C 30 dX9_settles_82 (by decide) ?_
                refine jSub [1, 2, 3, 4, 0] rfl ?_
                exact ir22 x2_24 (x4_19 + (1 : Int32)) mfre_26 hf
              · replace hf := itn hf c29
                refine jIloadn C dX9_settles_54 rfl 2 rfl ?_
                refine jAloadn C dX9_settles_55 rfl 0 rfl ?_
                refine jIload C dX9_settles_56 4 rfl ?_
                refine jIload C dX9_settles_58 5 rfl ?_
                obtain ⟨q30, mfre_31, e32, hf⟩ := bd2_some hf
                refine jVI C (X9_shiftsFresh_ok  e32) vb_X9_shiftsFresh mk_RX9_276 rfl rcM ⟨Nat.le_of_ble_eq_true rfl, Nat.le_of_ble_eq_true rfl⟩ rfl (Nat.le_of_ble_eq_true rfl) dX9_settles_60 ?_
                refine jIfLe C 70 dX9_settles_63 (by decide) (fun c33 => ?_) (fun c33 => ?_)
                · replace hf := itp hf c33
                  refine jIconst C (0 : Int32) dX9_settles_70 ki_0 ?_
                  refine jIadd C dX9_settles_71 ?_
                  refine jIstoren C dX9_settles_72 rfl (Nat.le_of_ble_eq_true rfl) [(2, .int (x2_24 + (0 : Int32))), (0, .ref (h 0)), (1, .int p1), (3, .int x2_7), (4, .int x4_19), (5, .int x5_25)] rfl ?_
                  refine jIinc C (x5_25 + (1 : Int32)) dX9_settles_73 5 rfl (congrArg (fun z : Int32 => x5_25 + z) ki_1) (Nat.le_of_ble_eq_true rfl) [(5, .int (x5_25 + (1 : Int32))), (2, .int (x2_24 + (0 : Int32))), (0, .ref (h 0)), (1, .int p1), (3, .int x2_7), (4, .int x4_19)] rfl ?_
                  refine jGoto C 45 dX9_settles_76 (by decide) ?_
                  refine jSub [2, 3, 1, 4, 5, 0] rfl ?_
                  exact ir28 (x2_24 + (0 : Int32)) (x5_25 + (1 : Int32)) mfre_31 hf
                · replace hf := itn hf c33
                  refine jIconst C (1 : Int32) dX9_settles_66 ki_1 ?_
                  refine jGoto C 71 dX9_settles_67 (by decide) ?_
                  refine jIadd C dX9_settles_71 ?_
                  refine jIstoren C dX9_settles_72 rfl (Nat.le_of_ble_eq_true rfl) [(2, .int (x2_24 + (1 : Int32))), (0, .ref (h 0)), (1, .int p1), (3, .int x2_7), (4, .int x4_19), (5, .int x5_25)] rfl ?_
                  refine jIinc C (x5_25 + (1 : Int32)) dX9_settles_73 5 rfl (congrArg (fun z : Int32 => x5_25 + z) ki_1) (Nat.le_of_ble_eq_true rfl) [(5, .int (x5_25 + (1 : Int32))), (2, .int (x2_24 + (1 : Int32))), (0, .ref (h 0)), (1, .int p1), (3, .int x2_7), (4, .int x4_19)] rfl ?_
                  refine jGoto C 45 dX9_settles_76 (by decide) ?_
                  refine jSub [2, 3, 1, 4, 5, 0] rfl ?_
                  exact ir28 (x2_24 + (1 : Int32)) (x5_25 + (1 : Int32)) mfre_31 hf
            refine jSub [1, 2, 3, 4, 5, 0] rfl ?_
            exact hL27 x2_18 (x4_19 + (1 : Int32)) mfre_20 hf
        refine jSub [2, 3, 4, 1, 0] rfl ?_
        exact hL21 x2_7 (0 : Int32) mfre_9 hf
    refine jSub [2, 3, 1, 0] rfl ?_
    exact hL10 (0 : Int32) (-1 : Int32) mfre_5 hf
  · replace hf := itp hf c3
    refine jBipush C (-2 : Int32) dX9_settles_8 kb_m2 ?_
    cases hf
    exact jEndI C hQ rfl dX9_settles_10
noncomputable def X9_chosen_h16 (p1 : Int32) (p0 : Int32) (r6 : Int64 → Int32 → Option Int64) (x2_3 : Int64) (x4_4 : Int32) : Option Int64 := (if p1 ≤ x4_4 then some x2_3 else gnzL ((x4_4 + (1 : Int32)).toInt64) (r6 ((x2_3 * ((p0 - x4_4).toInt64)) / ((x4_4 + (1 : Int32)).toInt64)) (x4_4 + (1 : Int32))))
noncomputable def X9_chosen (p0 : Int32) (p1 : Int32) : Option Int64 := (if p1 < (0 : Int32) then some (0 : Int64) else (if p1 ≤ p0 then lfp2 (X9_chosen_h16 p1 p0) (1 : Int64) (0 : Int32) else some (0 : Int64)))
set_option maxHeartbeats 4000000 in
set_option maxRecDepth 20000 in
theorem X9_chosen_ok {D : va_G} {cy : Nat → ClassId} {G : Nat → Nat} {ws : va_W} {p0 : Int32} {p1 : Int32} {rr : Int64}  (hf : X9_chosen p0 p1 = some rr) : MT yX9_chosen cX9_chosen 5 (some .long) 0 [.int p0, .int p1] D cy G ws ws (some (.long rr)) := by
  refine MT.go (own := RX9) [(0, .int p0), (1, .int p1)] (by decide) rfl (Nat.le_of_ble_eq_true rfl) rfl (fun p l e s m args below meth c A Q C hQ => ?_)
  unfold X9_chosen at hf
  refine jIloadn C dX9_chosen_0 rfl 1 rfl ?_
  refine jIfLt C 9 dX9_chosen_1 (by decide) (fun c1 => ?_) (fun c1 => ?_)
  · replace hf := itp hf c1
    refine jLconst C (0 : Int64) dX9_chosen_9 rfl ?_
    cases hf
    exact jEndL C hQ rfl dX9_chosen_10
  · replace hf := itn hf c1
    refine jIloadn C dX9_chosen_4 rfl 1 rfl ?_
    refine jIloadn C dX9_chosen_5 rfl 0 rfl ?_
    refine jCmpLe C 11 dX9_chosen_6 (by decide) (fun c2 => ?_) (fun c2 => ?_)
    · replace hf := itp hf c2
      refine jLconst C (1 : Int64) dX9_chosen_11 rfl ?_
      refine jLstoren C dX9_chosen_12 rfl (Nat.le_of_ble_eq_true rfl) [(2, .long (1 : Int64)), (0, .int p0), (1, .int p1)] rfl ?_
      refine jIconst C (0 : Int32) dX9_chosen_13 ki_0 ?_
      refine jIstore C dX9_chosen_14 (Nat.le_of_ble_eq_true rfl) [(4, .int (0 : Int32)), (2, .long (1 : Int64)), (0, .int p0), (1, .int p1)] rfl ?_
      have hL5 : ∀ (x2_3 : Int64) (x4_4 : Int32), lfp2 (X9_chosen_h16 p1 p0) x2_3 x4_4 = some rr → J p l e (rmk 0) s m args below meth c D A Q 5 ws 16 [(0, .int p0), (1, .int p1), (2, .long x2_3), (4, .int x4_4)] [] := by
        intro x2_3 x4_4 hw
        refine lfp2_walk (P := fun x2_3 x4_4 => J p l e (rmk 0) s m args below meth c D A Q 5 ws 16 [(0, .int p0), (1, .int p1), (2, .long x2_3), (4, .int x4_4)] []) ?_ hw
        intro r6 ir6 x2_3 x4_4 hf
        unfold X9_chosen_h16 at hf
        refine jIload C dX9_chosen_16 3 rfl ?_
        refine jIloadn C dX9_chosen_18 rfl 1 rfl ?_
        refine jCmpGe C 42 dX9_chosen_19 (by decide) (fun c7 => ?_) (fun c7 => ?_)
        · replace hf := itp hf c7
          refine jLloadn C dX9_chosen_42 rfl 2 rfl ?_
          cases hf
          exact jEndL C hQ rfl dX9_chosen_43
        · replace hf := itn hf c7
          refine jLloadn C dX9_chosen_22 rfl 2 rfl ?_
          refine jIloadn C dX9_chosen_23 rfl 0 rfl ?_
          refine jIload C dX9_chosen_24 3 rfl ?_
          refine jIsub C dX9_chosen_26 ?_
          refine jI2l C dX9_chosen_27 ?_
          refine jLmul C dX9_chosen_28 ?_
          refine jIload C dX9_chosen_29 3 rfl ?_
          refine jIconst C (1 : Int32) dX9_chosen_31 ki_1 ?_
          refine jIadd C dX9_chosen_32 ?_
          refine jI2l C dX9_chosen_33 ?_
          obtain ⟨z8, hf⟩ := gnzL_some hf
          refine jLdiv C dX9_chosen_34 z8 ?_
          refine jLstoren C dX9_chosen_35 rfl (Nat.le_of_ble_eq_true rfl) [(2, .long ((x2_3 * ((p0 - x4_4).toInt64)) / ((x4_4 + (1 : Int32)).toInt64))), (0, .int p0), (1, .int p1), (4, .int x4_4)] rfl ?_
          refine jIinc C (x4_4 + (1 : Int32)) dX9_chosen_36 3 rfl (congrArg (fun z : Int32 => x4_4 + z) ki_1) (Nat.le_of_ble_eq_true rfl) [(4, .int (x4_4 + (1 : Int32))), (2, .long ((x2_3 * ((p0 - x4_4).toInt64)) / ((x4_4 + (1 : Int32)).toInt64))), (0, .int p0), (1, .int p1)] rfl ?_
          refine jGoto C 16 dX9_chosen_39 (by decide) ?_
          refine jSub [2, 3, 1, 0] rfl ?_
          exact ir6 ((x2_3 * ((p0 - x4_4).toInt64)) / ((x4_4 + (1 : Int32)).toInt64)) (x4_4 + (1 : Int32)) hf
      refine jSub [2, 3, 1, 0] rfl ?_
      exact hL5 (1 : Int64) (0 : Int32) hf
    · replace hf := itn hf c2
      refine jLconst C (0 : Int64) dX9_chosen_9 rfl ?_
      cases hf
      exact jEndL C hQ rfl dX9_chosen_10
noncomputable def X9_choose (p1 : Int32) (p2 : Int32) : Option Int32 := bd1 (X9_in (p1.toInt64) (0 : Int64) (20 : Int64)) (fun q1 => (if q1 = (0 : Int32) then some (-2 : Int32) else bd1 (X9_chosen p1 p2) (fun q4 => some (q4.toInt32))))
set_option maxHeartbeats 4000000 in
set_option maxRecDepth 20000 in
theorem X9_choose_ok {p1 : Int32} {p2 : Int32} {rr : Int32}  (hf : X9_choose p1 p2 = some rr) : MT yX9_choose cX9_choose 3 (some .int) 1 [.ref (h 0), .int p1, .int p2] D cy G (mw h cy mthr mfrp mact mtpd msiz matx mfrm mtok mval mfk mfpl mbem mtrs mtrl mrom mtom mnow mfre mkep mtap mlef mtak mbes mrow mint mrnd mplo mhio mtox mtol) (mw h cy mthr mfrp mact mtpd msiz matx mfrm mtok mval mfk mfpl mbem mtrs mtrl mrom mtom mnow mfre mkep mtap mlef mtak mbes mrow mint mrnd mplo mhio mtox mtol) (some (.int rr)) := by
  refine MT.go (own := RX9) [(0, .ref (h 0)), (1, .int p1), (2, .int p2)] (by decide) rfl (Nat.le_of_ble_eq_true rfl) rfl (fun p l e s m args below meth c A Q C hQ => ?_)
  unfold X9_choose at hf
  refine jIloadn C dX9_choose_0 rfl 1 rfl ?_
  refine jI2l C dX9_choose_1 ?_
  refine jLconst C (0 : Int64) dX9_choose_2 rfl ?_
  refine jLdc2 C (x := (20 : Int64)) lk_RX9_279 dX9_choose_3 ?_
  obtain ⟨q1, e2, hf⟩ := bd1_some hf
  refine jSI C (X9_in_ok  e2) sb_X9_in mk_RX9_63 rfl ⟨Nat.le_of_ble_eq_true rfl, Nat.le_of_ble_eq_true rfl⟩ rfl (Nat.le_of_ble_eq_true rfl) dX9_choose_6 ?_
  refine jIfEq C 21 dX9_choose_9 (by decide) (fun c3 => ?_) (fun c3 => ?_)
  · replace hf := itp hf c3
    refine jBipush C (-2 : Int32) dX9_choose_21 kb_m2 ?_
    cases hf
    exact jEndI C hQ rfl dX9_choose_23
  · replace hf := itn hf c3
    refine jIloadn C dX9_choose_12 rfl 1 rfl ?_
    refine jIloadn C dX9_choose_13 rfl 2 rfl ?_
    obtain ⟨q4, e5, hf⟩ := bd1_some hf
    refine jSL C (X9_chosen_ok  e5) sb_X9_chosen mk_RX9_281 rfl ⟨Nat.le_of_ble_eq_true rfl, Nat.le_of_ble_eq_true rfl⟩ rfl (Nat.le_of_ble_eq_true rfl) dX9_choose_14 ?_
    refine jL2i C dX9_choose_17 ?_
    refine jGoto C 23 dX9_choose_18 (by decide) ?_
    cases hf
    exact jEndI C hQ rfl dX9_choose_23
noncomputable def X9_row_h63 (p2 : Int32) (mfrp_15 : Int32) (mact : Int32) (mnow : Nat → Int32) (mkep : Nat → Int32) (p1 : Int32) (p3 : Int32) (r23 : Int32 → Int32 → Int32 → (Nat → Int32) → Option (Int32 × Int32 × Int32 × (Nat → Int32) × (Nat → Int32) × (Nat → Int32))) (x5_18 : Int32) (x6_19 : Int32) (x7_20 : Int32) (mfre_21 : Nat → Int32) : Option (Int32 × Int32 × Int32 × (Nat → Int32) × (Nat → Int32) × (Nat → Int32)) := (if ((1 : Int32) <<< (p2 &&& 31)) ≤ x7_20 then bd4 (X9_comes mfrp_15 mact mnow mfre_21 mkep p1) (fun q25 mact_26 mnow_27 mkep_28 => some (x5_18, mfrp_15, mact_26, mnow_27, mfre_21, mkep_28)) else (if x6_19 ≤ (0 : Int32) then bd4 (X9_comes mfrp_15 mact mnow mfre_21 mkep p1) (fun q31 mact_32 mnow_33 mkep_34 => some (x5_18, mfrp_15, mact_32, mnow_33, mfre_21, mkep_34)) else bd1 (X9_bits x7_20) (fun q36 => (if q36 = p3 then gin x7_20 128 (r23 x7_20 (x6_19 + (-1 : Int32)) (x7_20 + (1 : Int32)) (upd mfre_21 x7_20.toNatClampNeg (vp_nar .boolean (1 : Int32)))) else r23 x5_18 x6_19 (x7_20 + (1 : Int32)) mfre_21))))
noncomputable def X9_row (mfrp : Int32) (mact : Int32) (mnow : Nat → Int32) (mfre : Nat → Int32) (mkep : Nat → Int32) (p1 : Int32) (p2 : Int32) (p3 : Int32) (p4 : Int32) : Option (Int32 × Int32 × Int32 × (Nat → Int32) × (Nat → Int32) × (Nat → Int32)) := bd1 (X9_isSlot p1) (fun q1 => (if q1 = (0 : Int32) then some ((-2 : Int32), mfrp, mact, mnow, mfre, mkep) else bd1 (X9_in (p2.toInt64) (1 : Int64) (7 : Int64)) (fun q4 => (if q4 = (0 : Int32) then some ((-2 : Int32), mfrp, mact, mnow, mfre, mkep) else bd1 (X9_in (p3.toInt64) (0 : Int64) (p2.toInt64)) (fun q7 => (if q7 = (0 : Int32) then some ((-2 : Int32), mfrp, mact, mnow, mfre, mkep) else bd1 (X9_chosen p2 p3) (fun q10 => bd1 (X9_in (p4.toInt64) (0 : Int64) q10) (fun q12 => (if q12 = (0 : Int32) then some ((-2 : Int32), mfrp, mact, mnow, mfre, mkep) else bd2 (X9_clearsFresh mfre p2) (fun mfrp_15 mfre_16 => lfp4 (X9_row_h63 p2 mfrp_15 mact mnow mkep p1 p3) (-1 : Int32) p4 (0 : Int32) mfre_16))))))))))
set_option maxHeartbeats 4000000 in
set_option maxRecDepth 20000 in
theorem X9_row_ok {p1 : Int32} {p2 : Int32} {p3 : Int32} {p4 : Int32} {rr : Int32} {omfrp : Int32} {omact : Int32} {omnow : Nat → Int32} {omfre : Nat → Int32} {omkep : Nat → Int32}  (hf : X9_row mfrp mact mnow mfre mkep p1 p2 p3 p4 = some (rr, omfrp, omact, omnow, omfre, omkep)) : MT yX9_row cX9_row 8 (some .int) 4 [.ref (h 0), .int p1, .int p2, .int p3, .int p4] D cy G (mw h cy mthr mfrp mact mtpd msiz matx mfrm mtok mval mfk mfpl mbem mtrs mtrl mrom mtom mnow mfre mkep mtap mlef mtak mbes mrow mint mrnd mplo mhio mtox mtol) (mw h cy mthr omfrp omact mtpd msiz matx mfrm mtok mval mfk mfpl mbem mtrs mtrl mrom mtom omnow omfre omkep mtap mlef mtak mbes mrow mint mrnd mplo mhio mtox mtol) (some (.int rr)) := by
  refine MT.go (own := RX9) [(0, .ref (h 0)), (1, .int p1), (2, .int p2), (3, .int p3), (4, .int p4)] (by decide) rfl (Nat.le_of_ble_eq_true rfl) rfl (fun p l e s m args below meth c A Q C hQ => ?_)
  unfold X9_row at hf
  refine jIloadn C dX9_row_0 rfl 1 rfl ?_
  obtain ⟨q1, e2, hf⟩ := bd1_some hf
  refine jSI C (X9_isSlot_ok  e2) sb_X9_isSlot mk_RX9_67 rfl ⟨Nat.le_of_ble_eq_true rfl, Nat.le_of_ble_eq_true rfl⟩ rfl (Nat.le_of_ble_eq_true rfl) dX9_row_1 ?_
  refine jIfEq C 45 dX9_row_4 (by decide) (fun c3 => ?_) (fun c3 => ?_)
  · replace hf := itp hf c3
    refine jBipush C (-2 : Int32) dX9_row_45 kb_m2 ?_
    cases hf
    exact jEndI C hQ rfl dX9_row_47
  · replace hf := itn hf c3
    refine jIloadn C dX9_row_7 rfl 2 rfl ?_
    refine jI2l C dX9_row_8 ?_
    refine jLconst C (1 : Int64) dX9_row_9 rfl ?_
    refine jLdc2 C (x := (7 : Int64)) lk_RX9_174 dX9_row_10 ?_
    obtain ⟨q4, e5, hf⟩ := bd1_some hf
    refine jSI C (X9_in_ok  e5) sb_X9_in mk_RX9_63 rfl ⟨Nat.le_of_ble_eq_true rfl, Nat.le_of_ble_eq_true rfl⟩ rfl (Nat.le_of_ble_eq_true rfl) dX9_row_13 ?_
    refine jIfEq C 45 dX9_row_16 (by decide) (fun c6 => ?_) (fun c6 => ?_)
    · replace hf := itp hf c6
      refine jBipush C (-2 : Int32) dX9_row_45 kb_m2 ?_
      cases hf
      exact jEndI C hQ rfl dX9_row_47
    · replace hf := itn hf c6
      refine jIloadn C dX9_row_19 rfl 3 rfl ?_
      refine jI2l C dX9_row_20 ?_
      refine jLconst C (0 : Int64) dX9_row_21 rfl ?_
      refine jIloadn C dX9_row_22 rfl 2 rfl ?_
      refine jI2l C dX9_row_23 ?_
      obtain ⟨q7, e8, hf⟩ := bd1_some hf
      refine jSI C (X9_in_ok  e8) sb_X9_in mk_RX9_63 rfl ⟨Nat.le_of_ble_eq_true rfl, Nat.le_of_ble_eq_true rfl⟩ rfl (Nat.le_of_ble_eq_true rfl) dX9_row_24 ?_
      refine jIfEq C 45 dX9_row_27 (by decide) (fun c9 => ?_) (fun c9 => ?_)
      · replace hf := itp hf c9
        refine jBipush C (-2 : Int32) dX9_row_45 kb_m2 ?_
        cases hf
        exact jEndI C hQ rfl dX9_row_47
      · replace hf := itn hf c9
        refine jIload C dX9_row_30 4 rfl ?_
        refine jI2l C dX9_row_32 ?_
        refine jLconst C (0 : Int64) dX9_row_33 rfl ?_
        refine jIloadn C dX9_row_34 rfl 2 rfl ?_
        refine jIloadn C dX9_row_35 rfl 3 rfl ?_
        obtain ⟨q10, e11, hf⟩ := bd1_some hf
        refine jSL C (X9_chosen_ok  e11) sb_X9_chosen mk_RX9_281 rfl ⟨Nat.le_of_ble_eq_true rfl, Nat.le_of_ble_eq_true rfl⟩ rfl (Nat.le_of_ble_eq_true rfl) dX9_row_36 ?_
        obtain ⟨q12, e13, hf⟩ := bd1_some hf
        refine jSI C (X9_in_ok  e13) sb_X9_in mk_RX9_63 rfl ⟨Nat.le_of_ble_eq_true rfl, Nat.le_of_ble_eq_true rfl⟩ rfl (Nat.le_of_ble_eq_true rfl) dX9_row_39 ?_
        refine jIfNe C 48 dX9_row_42 (by decide) (fun c14 => ?_) (fun c14 => ?_)
        · replace hf := itn hf c14
          refine jAloadn C dX9_row_48 rfl 0 rfl ?_
          refine jIloadn C dX9_row_49 rfl 2 rfl ?_
          obtain ⟨mfrp_15, mfre_16, e17, hf⟩ := bd2_some hf
          refine jVV C (X9_clearsFresh_ok  e17) vb_X9_clearsFresh mk_RX9_176 rfl rcM ⟨Nat.le_of_ble_eq_true rfl, Nat.le_of_ble_eq_true rfl⟩ rfl (Nat.le_of_ble_eq_true rfl) dX9_row_50 ?_
          refine jIconst C (-1 : Int32) dX9_row_53 ki_m1 ?_
          refine jIstore C dX9_row_54 (Nat.le_of_ble_eq_true rfl) [(5, .int (-1 : Int32)), (0, .ref (h 0)), (1, .int p1), (2, .int p2), (3, .int p3), (4, .int p4)] rfl ?_
          refine jIload C dX9_row_56 5 rfl ?_
          refine jIstore C dX9_row_58 (Nat.le_of_ble_eq_true rfl) [(6, .int p4), (5, .int (-1 : Int32)), (0, .ref (h 0)), (1, .int p1), (2, .int p2), (3, .int p3), (4, .int p4)] rfl ?_
          refine jIconst C (0 : Int32) dX9_row_60 ki_0 ?_
          refine jIstore C dX9_row_61 (Nat.le_of_ble_eq_true rfl) [(7, .int (0 : Int32)), (6, .int p4), (5, .int (-1 : Int32)), (0, .ref (h 0)), (1, .int p1), (2, .int p2), (3, .int p3), (4, .int p4)] rfl ?_
          have hL22 : ∀ (x5_18 : Int32) (x6_19 : Int32) (x7_20 : Int32) (mfre_21 : Nat → Int32), lfp4 (X9_row_h63 p2 mfrp_15 mact mnow mkep p1 p3) x5_18 x6_19 x7_20 mfre_21 = some (rr, omfrp, omact, omnow, omfre, omkep) → J p l e (rmk 4) s m args below meth c D A Q 8 (mw h cy mthr mfrp_15 mact mtpd msiz matx mfrm mtok mval mfk mfpl mbem mtrs mtrl mrom mtom mnow mfre_21 mkep mtap mlef mtak mbes mrow mint mrnd mplo mhio mtox mtol) 63 [(0, .ref (h 0)), (1, .int p1), (2, .int p2), (3, .int p3), (5, .int x5_18), (6, .int x6_19), (7, .int x7_20)] [] := by
            intro x5_18 x6_19 x7_20 mfre_21 hw
            refine lfp4_walk (P := fun x5_18 x6_19 x7_20 mfre_21 => J p l e (rmk 4) s m args below meth c D A Q 8 (mw h cy mthr mfrp_15 mact mtpd msiz matx mfrm mtok mval mfk mfpl mbem mtrs mtrl mrom mtom mnow mfre_21 mkep mtap mlef mtak mbes mrow mint mrnd mplo mhio mtox mtol) 63 [(0, .ref (h 0)), (1, .int p1), (2, .int p2), (3, .int p3), (5, .int x5_18), (6, .int x6_19), (7, .int x7_20)] []) ?_ hw
            intro r23 ir23 x5_18 x6_19 x7_20 mfre_21 hf
            unfold X9_row_h63 at hf
            refine jIload C dX9_row_63 6 rfl ?_
            refine jIconst C (1 : Int32) dX9_row_65 ki_1 ?_
            refine jIloadn C dX9_row_66 rfl 2 rfl ?_
            refine jIshl C dX9_row_67 ?_
            refine jCmpGe C 109 dX9_row_68 (by decide) (fun c24 => ?_) (fun c24 => ?_)
            · replace hf := itp hf c24
              refine jAloadn C dX9_row_109 rfl 0 rfl ?_
              refine jIloadn C dX9_row_110 rfl 1 rfl ?_
              obtain ⟨q25, mact_26, mnow_27, mkep_28, e29, hf⟩ := bd4_some hf
              refine jVI C (X9_comes_ok  e29) vb_X9_comes mk_RX9_188 rfl rcM ⟨Nat.le_of_ble_eq_true rfl, Nat.le_of_ble_eq_true rfl⟩ rfl (Nat.le_of_ble_eq_true rfl) dX9_row_111 ?_
              refine jIstore C dX9_row_114 (Nat.le_of_ble_eq_true rfl) [(7, .int q25), (0, .ref (h 0)), (1, .int p1), (2, .int p2), (3, .int p3), (5, .int x5_18), (6, .int x6_19)] rfl ?_
              refine jIload C dX9_row_116 5 rfl ?_
              cases hf
              exact jEndI C hQ rfl dX9_row_118
            · replace hf := itn hf c24
              refine jIload C dX9_row_71 5 rfl ?_
              refine jIfLe C 109 dX9_row_73 (by decide) (fun c30 => ?_) (fun c30 => ?_)
              · replace hf := itp hf c30
                refine jAloadn C dX9_row_109 rfl 0 rfl ?_
                refine jIloadn C dX9_row_110 rfl 1 rfl ?_
                obtain ⟨q31, mact_32, mnow_33, mkep_34, e35, hf⟩ := bd4_some hf
                refine jVI C (X9_comes_ok  e35) vb_X9_comes mk_RX9_188 rfl rcM ⟨Nat.le_of_ble_eq_true rfl, Nat.le_of_ble_eq_true rfl⟩ rfl (Nat.le_of_ble_eq_true rfl) dX9_row_111 ?_
                refine jIstore C dX9_row_114 (Nat.le_of_ble_eq_true rfl) [(7, .int q31), (0, .ref (h 0)), (1, .int p1), (2, .int p2), (3, .int p3), (5, .int x5_18), (6, .int x6_19)] rfl ?_
                refine jIload C dX9_row_116 5 rfl ?_
                cases hf
                exact jEndI C hQ rfl dX9_row_118
              · replace hf := itn hf c30
                refine jIload C dX9_row_76 6 rfl ?_
                obtain ⟨q36, e37, hf⟩ := bd1_some hf
                refine jSI C (X9_bits_ok  e37) sb_X9_bits mk_RX9_198 rfl ⟨Nat.le_of_ble_eq_true rfl, Nat.le_of_ble_eq_true rfl⟩ rfl (Nat.le_of_ble_eq_true rfl) dX9_row_78 ?_
                refine jIloadn C dX9_row_81 rfl 3 rfl ?_
                refine jCmpEq C 88 dX9_row_82 (by decide) (fun c38 => ?_) (fun c38 => ?_)
                · replace hf := itp hf c38
                  refine jAloadn C dX9_row_88 rfl 0 rfl ?_
                  refine gf_RX9_13 C dX9_row_89 ?_
                  refine jIload C dX9_row_92 6 rfl ?_
                  refine jIconst C (1 : Int32) dX9_row_94 ki_1 ?_
                  obtain ⟨z39, hf⟩ := gin_some hf
                  refine as_mfre C z39 dX9_row_95 ?_
                  refine jIload C dX9_row_96 6 rfl ?_
                  refine jIstore C dX9_row_98 (Nat.le_of_ble_eq_true rfl) [(5, .int x7_20), (0, .ref (h 0)), (1, .int p1), (2, .int p2), (3, .int p3), (6, .int x6_19), (7, .int x7_20)] rfl ?_
                  refine jIinc C (x6_19 + (-1 : Int32)) dX9_row_100 5 rfl (congrArg (fun z : Int32 => x6_19 + z) ki_m1) (Nat.le_of_ble_eq_true rfl) [(6, .int (x6_19 + (-1 : Int32))), (5, .int x7_20), (0, .ref (h 0)), (1, .int p1), (2, .int p2), (3, .int p3), (7, .int x7_20)] rfl ?_
                  refine jIinc C (x7_20 + (1 : Int32)) dX9_row_103 6 rfl (congrArg (fun z : Int32 => x7_20 + z) ki_1) (Nat.le_of_ble_eq_true rfl) [(7, .int (x7_20 + (1 : Int32))), (6, .int (x6_19 + (-1 : Int32))), (5, .int x7_20), (0, .ref (h 0)), (1, .int p1), (2, .int p2), (3, .int p3)] rfl ?_
                  refine jGoto C 63 dX9_row_106 (by decide) ?_
                  refine jSub [3, 4, 5, 6, 2, 1, 0] rfl ?_
                  exact ir23 x7_20 (x6_19 + (-1 : Int32)) (x7_20 + (1 : Int32)) (upd mfre_21 x7_20.toNatClampNeg (vp_nar .boolean (1 : Int32))) hf
                · replace hf := itn hf c38
                  refine jGoto C 103 dX9_row_85 (by decide) ?_
                  refine jIinc C (x7_20 + (1 : Int32)) dX9_row_103 6 rfl (congrArg (fun z : Int32 => x7_20 + z) ki_1) (Nat.le_of_ble_eq_true rfl) [(7, .int (x7_20 + (1 : Int32))), (0, .ref (h 0)), (1, .int p1), (2, .int p2), (3, .int p3), (5, .int x5_18), (6, .int x6_19)] rfl ?_
                  refine jGoto C 63 dX9_row_106 (by decide) ?_
                  refine jSub [1, 2, 3, 4, 5, 6, 0] rfl ?_
                  exact ir23 x5_18 x6_19 (x7_20 + (1 : Int32)) mfre_21 hf
          refine jSub [3, 4, 5, 6, 2, 1, 0] rfl ?_
          exact hL22 (-1 : Int32) p4 (0 : Int32) mfre_16 hf
        · replace hf := itp hf c14
          refine jBipush C (-2 : Int32) dX9_row_45 kb_m2 ?_
          cases hf
          exact jEndI C hQ rfl dX9_row_47
noncomputable def X9_all_h57 (p2 : Int32) (mfrp_13 : Int32) (mact : Int32) (mnow : Nat → Int32) (mkep : Nat → Int32) (p1 : Int32) (p3 : Int32) (p4 : Int32) (r19 : Int32 → (Nat → Int32) → Option (Int32 × Int32 × Int32 × (Nat → Int32) × (Nat → Int32) × (Nat → Int32))) (x5_16 : Int32) (mfre_17 : Nat → Int32) : Option (Int32 × Int32 × Int32 × (Nat → Int32) × (Nat → Int32) × (Nat → Int32)) := (if ((1 : Int32) <<< (p2 &&& 31)) ≤ x5_16 then bd4 (X9_comes mfrp_13 mact mnow mfre_17 mkep p1) (fun q21 mact_22 mnow_23 mkep_24 => some (q21, mfrp_13, mact_22, mnow_23, mfre_17, mkep_24)) else bd1 (X9_bits x5_16) (fun q26 => (if q26 = p3 then (if p4 = (-1 : Int32) then gin x5_16 128 (r19 (x5_16 + (1 : Int32)) (upd mfre_17 x5_16.toNatClampNeg (vp_nar .boolean (1 : Int32)))) else bd1 (X9_hasBit x5_16 p4) (fun q32 => (if q32 = (0 : Int32) then gin x5_16 128 (r19 (x5_16 + (1 : Int32)) (upd mfre_17 x5_16.toNatClampNeg (vp_nar .boolean (0 : Int32)))) else gin x5_16 128 (r19 (x5_16 + (1 : Int32)) (upd mfre_17 x5_16.toNatClampNeg (vp_nar .boolean (1 : Int32))))))) else gin x5_16 128 (r19 (x5_16 + (1 : Int32)) (upd mfre_17 x5_16.toNatClampNeg (vp_nar .boolean (0 : Int32)))))))
noncomputable def X9_all (mfrp : Int32) (mact : Int32) (mnow : Nat → Int32) (mfre : Nat → Int32) (mkep : Nat → Int32) (p1 : Int32) (p2 : Int32) (p3 : Int32) (p4 : Int32) : Option (Int32 × Int32 × Int32 × (Nat → Int32) × (Nat → Int32) × (Nat → Int32)) := bd1 (X9_isSlot p1) (fun q1 => (if q1 = (0 : Int32) then some ((-2 : Int32), mfrp, mact, mnow, mfre, mkep) else bd1 (X9_in (p2.toInt64) (1 : Int64) (7 : Int64)) (fun q4 => (if q4 = (0 : Int32) then some ((-2 : Int32), mfrp, mact, mnow, mfre, mkep) else bd1 (X9_in (p3.toInt64) (0 : Int64) (p2.toInt64)) (fun q7 => (if q7 = (0 : Int32) then some ((-2 : Int32), mfrp, mact, mnow, mfre, mkep) else bd1 (X9_in (p4.toInt64) (-1 : Int64) ((p2 - (1 : Int32)).toInt64)) (fun q10 => (if q10 = (0 : Int32) then some ((-2 : Int32), mfrp, mact, mnow, mfre, mkep) else bd2 (X9_clearsFresh mfre p2) (fun mfrp_13 mfre_14 => lfp2 (X9_all_h57 p2 mfrp_13 mact mnow mkep p1 p3 p4) (0 : Int32) mfre_14)))))))))
set_option maxHeartbeats 4000000 in
set_option maxRecDepth 20000 in
theorem X9_all_ok {p1 : Int32} {p2 : Int32} {p3 : Int32} {p4 : Int32} {rr : Int32} {omfrp : Int32} {omact : Int32} {omnow : Nat → Int32} {omfre : Nat → Int32} {omkep : Nat → Int32}  (hf : X9_all mfrp mact mnow mfre mkep p1 p2 p3 p4 = some (rr, omfrp, omact, omnow, omfre, omkep)) : MT yX9_all cX9_all 6 (some .int) 4 [.ref (h 0), .int p1, .int p2, .int p3, .int p4] D cy G (mw h cy mthr mfrp mact mtpd msiz matx mfrm mtok mval mfk mfpl mbem mtrs mtrl mrom mtom mnow mfre mkep mtap mlef mtak mbes mrow mint mrnd mplo mhio mtox mtol) (mw h cy mthr omfrp omact mtpd msiz matx mfrm mtok mval mfk mfpl mbem mtrs mtrl mrom mtom omnow omfre omkep mtap mlef mtak mbes mrow mint mrnd mplo mhio mtox mtol) (some (.int rr)) := by
  refine MT.go (own := RX9) [(0, .ref (h 0)), (1, .int p1), (2, .int p2), (3, .int p3), (4, .int p4)] (by decide) rfl (Nat.le_of_ble_eq_true rfl) rfl (fun p l e s m args below meth c A Q C hQ => ?_)
  unfold X9_all at hf
  refine jIloadn C dX9_all_0 rfl 1 rfl ?_
  obtain ⟨q1, e2, hf⟩ := bd1_some hf
  refine jSI C (X9_isSlot_ok  e2) sb_X9_isSlot mk_RX9_67 rfl ⟨Nat.le_of_ble_eq_true rfl, Nat.le_of_ble_eq_true rfl⟩ rfl (Nat.le_of_ble_eq_true rfl) dX9_all_1 ?_
  refine jIfEq C 46 dX9_all_4 (by decide) (fun c3 => ?_) (fun c3 => ?_)
  · replace hf := itp hf c3
    refine jBipush C (-2 : Int32) dX9_all_46 kb_m2 ?_
    cases hf
    exact jEndI C hQ rfl dX9_all_48
  · replace hf := itn hf c3
    refine jIloadn C dX9_all_7 rfl 2 rfl ?_
    refine jI2l C dX9_all_8 ?_
    refine jLconst C (1 : Int64) dX9_all_9 rfl ?_
    refine jLdc2 C (x := (7 : Int64)) lk_RX9_174 dX9_all_10 ?_
    obtain ⟨q4, e5, hf⟩ := bd1_some hf
    refine jSI C (X9_in_ok  e5) sb_X9_in mk_RX9_63 rfl ⟨Nat.le_of_ble_eq_true rfl, Nat.le_of_ble_eq_true rfl⟩ rfl (Nat.le_of_ble_eq_true rfl) dX9_all_13 ?_
    refine jIfEq C 46 dX9_all_16 (by decide) (fun c6 => ?_) (fun c6 => ?_)
    · replace hf := itp hf c6
      refine jBipush C (-2 : Int32) dX9_all_46 kb_m2 ?_
      cases hf
      exact jEndI C hQ rfl dX9_all_48
    · replace hf := itn hf c6
      refine jIloadn C dX9_all_19 rfl 3 rfl ?_
      refine jI2l C dX9_all_20 ?_
      refine jLconst C (0 : Int64) dX9_all_21 rfl ?_
      refine jIloadn C dX9_all_22 rfl 2 rfl ?_
      refine jI2l C dX9_all_23 ?_
      obtain ⟨q7, e8, hf⟩ := bd1_some hf
      refine jSI C (X9_in_ok  e8) sb_X9_in mk_RX9_63 rfl ⟨Nat.le_of_ble_eq_true rfl, Nat.le_of_ble_eq_true rfl⟩ rfl (Nat.le_of_ble_eq_true rfl) dX9_all_24 ?_
      refine jIfEq C 46 dX9_all_27 (by decide) (fun c9 => ?_) (fun c9 => ?_)
      · replace hf := itp hf c9
        refine jBipush C (-2 : Int32) dX9_all_46 kb_m2 ?_
        cases hf
        exact jEndI C hQ rfl dX9_all_48
      · replace hf := itn hf c9
        refine jIload C dX9_all_30 4 rfl ?_
        refine jI2l C dX9_all_32 ?_
        refine jLdc2 C (x := (-1 : Int64)) lk_RX9_285 dX9_all_33 ?_
        refine jIloadn C dX9_all_36 rfl 2 rfl ?_
        refine jIconst C (1 : Int32) dX9_all_37 ki_1 ?_
        refine jIsub C dX9_all_38 ?_
        refine jI2l C dX9_all_39 ?_
        obtain ⟨q10, e11, hf⟩ := bd1_some hf
        refine jSI C (X9_in_ok  e11) sb_X9_in mk_RX9_63 rfl ⟨Nat.le_of_ble_eq_true rfl, Nat.le_of_ble_eq_true rfl⟩ rfl (Nat.le_of_ble_eq_true rfl) dX9_all_40 ?_
        refine jIfNe C 49 dX9_all_43 (by decide) (fun c12 => ?_) (fun c12 => ?_)
        · replace hf := itn hf c12
          refine jAloadn C dX9_all_49 rfl 0 rfl ?_
          refine jIloadn C dX9_all_50 rfl 2 rfl ?_
          obtain ⟨mfrp_13, mfre_14, e15, hf⟩ := bd2_some hf
          refine jVV C (X9_clearsFresh_ok  e15) vb_X9_clearsFresh mk_RX9_176 rfl rcM ⟨Nat.le_of_ble_eq_true rfl, Nat.le_of_ble_eq_true rfl⟩ rfl (Nat.le_of_ble_eq_true rfl) dX9_all_51 ?_
          refine jIconst C (0 : Int32) dX9_all_54 ki_0 ?_
          refine jIstore C dX9_all_55 (Nat.le_of_ble_eq_true rfl) [(5, .int (0 : Int32)), (0, .ref (h 0)), (1, .int p1), (2, .int p2), (3, .int p3), (4, .int p4)] rfl ?_
          have hL18 : ∀ (x5_16 : Int32) (mfre_17 : Nat → Int32), lfp2 (X9_all_h57 p2 mfrp_13 mact mnow mkep p1 p3 p4) x5_16 mfre_17 = some (rr, omfrp, omact, omnow, omfre, omkep) → J p l e (rmk 4) s m args below meth c D A Q 6 (mw h cy mthr mfrp_13 mact mtpd msiz matx mfrm mtok mval mfk mfpl mbem mtrs mtrl mrom mtom mnow mfre_17 mkep mtap mlef mtak mbes mrow mint mrnd mplo mhio mtox mtol) 57 [(0, .ref (h 0)), (1, .int p1), (2, .int p2), (3, .int p3), (4, .int p4), (5, .int x5_16)] [] := by
            intro x5_16 mfre_17 hw
            refine lfp2_walk (P := fun x5_16 mfre_17 => J p l e (rmk 4) s m args below meth c D A Q 6 (mw h cy mthr mfrp_13 mact mtpd msiz matx mfrm mtok mval mfk mfpl mbem mtrs mtrl mrom mtom mnow mfre_17 mkep mtap mlef mtak mbes mrow mint mrnd mplo mhio mtox mtol) 57 [(0, .ref (h 0)), (1, .int p1), (2, .int p2), (3, .int p3), (4, .int p4), (5, .int x5_16)] []) ?_ hw
            intro r19 ir19 x5_16 mfre_17 hf
            unfold X9_all_h57 at hf
            refine jIload C dX9_all_57 5 rfl ?_
            refine jIconst C (1 : Int32) dX9_all_59 ki_1 ?_
            refine jIloadn C dX9_all_60 rfl 2 rfl ?_
            refine jIshl C dX9_all_61 ?_
            refine jCmpGe C 108 dX9_all_62 (by decide) (fun c20 => ?_) (fun c20 => ?_)
            · replace hf := itp hf c20
              refine jAloadn C dX9_all_108 rfl 0 rfl ?_
              refine jIloadn C dX9_all_109 rfl 1 rfl ?_
              obtain ⟨q21, mact_22, mnow_23, mkep_24, e25, hf⟩ := bd4_some hf
              refine jVI C (X9_comes_ok  e25) vb_X9_comes mk_RX9_188 rfl rcM ⟨Nat.le_of_ble_eq_true rfl, Nat.le_of_ble_eq_true rfl⟩ rfl (Nat.le_of_ble_eq_true rfl) dX9_all_110 ?_
              cases hf
              exact jEndI C hQ rfl dX9_all_113
            · replace hf := itn hf c20
              refine jAloadn C dX9_all_65 rfl 0 rfl ?_
              refine gf_RX9_13 C dX9_all_66 ?_
              refine jIload C dX9_all_69 5 rfl ?_
              refine jIload C dX9_all_71 5 rfl ?_
              obtain ⟨q26, e27, hf⟩ := bd1_some hf
              refine jSI C (X9_bits_ok  e27) sb_X9_bits mk_RX9_198 rfl ⟨Nat.le_of_ble_eq_true rfl, Nat.le_of_ble_eq_true rfl⟩ rfl (Nat.le_of_ble_eq_true rfl) dX9_all_73 ?_
              refine jIloadn C dX9_all_76 rfl 3 rfl ?_
              refine jCmpNe C 100 dX9_all_77 (by decide) (fun c28 => ?_) (fun c28 => ?_)
              · replace hf := itn hf c28
                refine jIconst C (0 : Int32) dX9_all_100 ki_0 ?_
                obtain ⟨z29, hf⟩ := gin_some hf
                refine as_mfre C z29 dX9_all_101 ?_
                refine jIinc C (x5_16 + (1 : Int32)) dX9_all_102 5 rfl (congrArg (fun z : Int32 => x5_16 + z) ki_1) (Nat.le_of_ble_eq_true rfl) [(5, .int (x5_16 + (1 : Int32))), (0, .ref (h 0)), (1, .int p1), (2, .int p2), (3, .int p3), (4, .int p4)] rfl ?_
                refine jGoto C 57 dX9_all_105 (by decide) ?_
                refine jSub [1, 2, 3, 4, 5, 0] rfl ?_
                exact ir19 (x5_16 + (1 : Int32)) (upd mfre_17 x5_16.toNatClampNeg (vp_nar .boolean (0 : Int32))) hf
              · replace hf := itp hf c28
                refine jIload C dX9_all_80 4 rfl ?_
                refine jIconst C (-1 : Int32) dX9_all_82 ki_m1 ?_
                refine jCmpEq C 96 dX9_all_83 (by decide) (fun c30 => ?_) (fun c30 => ?_)
                · replace hf := itp hf c30
                  refine jIconst C (1 : Int32) dX9_all_96 ki_1 ?_
                  refine jGoto C 101 dX9_all_97 (by decide) ?_
                  obtain ⟨z31, hf⟩ := gin_some hf
                  refine as_mfre C z31 dX9_all_101 ?_
                  refine jIinc C (x5_16 + (1 : Int32)) dX9_all_102 5 rfl (congrArg (fun z : Int32 => x5_16 + z) ki_1) (Nat.le_of_ble_eq_true rfl) [(5, .int (x5_16 + (1 : Int32))), (0, .ref (h 0)), (1, .int p1), (2, .int p2), (3, .int p3), (4, .int p4)] rfl ?_
                  refine jGoto C 57 dX9_all_105 (by decide) ?_
                  refine jSub [1, 2, 3, 4, 5, 0] rfl ?_
                  exact ir19 (x5_16 + (1 : Int32)) (upd mfre_17 x5_16.toNatClampNeg (vp_nar .boolean (1 : Int32))) hf
                · replace hf := itn hf c30
                  refine jIload C dX9_all_86 5 rfl ?_
                  refine jIload C dX9_all_88 4 rfl ?_
                  obtain ⟨q32, e33, hf⟩ := bd1_some hf
                  refine jSI C (X9_hasBit_ok  e33) sb_X9_hasBit mk_RX9_169 rfl ⟨Nat.le_of_ble_eq_true rfl, Nat.le_of_ble_eq_true rfl⟩ rfl (Nat.le_of_ble_eq_true rfl) dX9_all_90 ?_
                  refine jIfEq C 100 dX9_all_93 (by decide) (fun c34 => ?_) (fun c34 => ?_)
                  · replace hf := itp hf c34
                    refine jIconst C (0 : Int32) dX9_all_100 ki_0 ?_
                    obtain ⟨z35, hf⟩ := gin_some hf
                    refine as_mfre C z35 dX9_all_101 ?_
                    refine jIinc C (x5_16 + (1 : Int32)) dX9_all_102 5 rfl (congrArg (fun z : Int32 => x5_16 + z) ki_1) (Nat.le_of_ble_eq_true rfl) [(5, .int (x5_16 + (1 : Int32))), (0, .ref (h 0)), (1, .int p1), (2, .int p2), (3, .int p3), (4, .int p4)] rfl ?_
                    refine jGoto C 57 dX9_all_105 (by decide) ?_
                    refine jSub [1, 2, 3, 4, 5, 0] rfl ?_
                    exact ir19 (x5_16 + (1 : Int32)) (upd mfre_17 x5_16.toNatClampNeg (vp_nar .boolean (0 : Int32))) hf
                  · replace hf := itn hf c34
                    refine jIconst C (1 : Int32) dX9_all_96 ki_1 ?_
                    refine jGoto C 101 dX9_all_97 (by decide) ?_
                    obtain ⟨z36, hf⟩ := gin_some hf
                    refine as_mfre C z36 dX9_all_101 ?_
                    refine jIinc C (x5_16 + (1 : Int32)) dX9_all_102 5 rfl (congrArg (fun z : Int32 => x5_16 + z) ki_1) (Nat.le_of_ble_eq_true rfl) [(5, .int (x5_16 + (1 : Int32))), (0, .ref (h 0)), (1, .int p1), (2, .int p2), (3, .int p3), (4, .int p4)] rfl ?_
                    refine jGoto C 57 dX9_all_105 (by decide) ?_
                    refine jSub [1, 2, 3, 4, 5, 0] rfl ?_
                    exact ir19 (x5_16 + (1 : Int32)) (upd mfre_17 x5_16.toNatClampNeg (vp_nar .boolean (1 : Int32))) hf
          refine jSub [1, 2, 3, 4, 5, 0] rfl ?_
          exact hL18 (0 : Int32) mfre_14 hf
        · replace hf := itp hf c12
          refine jBipush C (-2 : Int32) dX9_all_46 kb_m2 ?_
          cases hf
          exact jEndI C hQ rfl dX9_all_48
noncomputable def X9_greatestFor_h2 (p1 : Int32) (p0 : Int32) (r3 : Int32 → Option Int32) (x2_1 : Int32) : Option Int32 := bd1 (X9_chosen (x2_1 + (1 : Int32)) p1) (fun q4 => (if (0 : Int32) < (lg_cmp q4 (p0.toInt64)) then some x2_1 else r3 (x2_1 + (1 : Int32))))
noncomputable def X9_greatestFor (p0 : Int32) (p1 : Int32) : Option Int32 := lfp1 (X9_greatestFor_h2 p1 p0) p1
set_option maxHeartbeats 4000000 in
set_option maxRecDepth 20000 in
theorem X9_greatestFor_ok {D : va_G} {cy : Nat → ClassId} {G : Nat → Nat} {ws : va_W} {p0 : Int32} {p1 : Int32} {rr : Int32}  (hf : X9_greatestFor p0 p1 = some rr) : MT yX9_greatestFor cX9_greatestFor 3 (some .int) 1 [.int p0, .int p1] D cy G ws ws (some (.int rr)) := by
  refine MT.go (own := RX9) [(0, .int p0), (1, .int p1)] (by decide) rfl (Nat.le_of_ble_eq_true rfl) rfl (fun p l e s m args below meth c A Q C hQ => ?_)
  unfold X9_greatestFor at hf
  refine jIloadn C dX9_greatestFor_0 rfl 1 rfl ?_
  refine jIstoren C dX9_greatestFor_1 rfl (Nat.le_of_ble_eq_true rfl) [(2, .int p1), (0, .int p0), (1, .int p1)] rfl ?_
  have hL2 : ∀ (x2_1 : Int32), lfp1 (X9_greatestFor_h2 p1 p0) x2_1 = some rr → J p l e (rmk 1) s m args below meth c D A Q 3 ws 2 [(0, .int p0), (1, .int p1), (2, .int x2_1)] [] := by
    intro x2_1 hw
    refine lfp1_walk (P := fun x2_1 => J p l e (rmk 1) s m args below meth c D A Q 3 ws 2 [(0, .int p0), (1, .int p1), (2, .int x2_1)] []) ?_ hw
    intro r3 ir3 x2_1 hf
    unfold X9_greatestFor_h2 at hf
    refine jIloadn C dX9_greatestFor_2 rfl 2 rfl ?_
    refine jIconst C (1 : Int32) dX9_greatestFor_3 ki_1 ?_
    refine jIadd C dX9_greatestFor_4 ?_
    refine jIloadn C dX9_greatestFor_5 rfl 1 rfl ?_
    obtain ⟨q4, e5, hf⟩ := bd1_some hf
    refine jSL C (X9_chosen_ok  e5) sb_X9_chosen mk_RX9_281 rfl ⟨Nat.le_of_ble_eq_true rfl, Nat.le_of_ble_eq_true rfl⟩ rfl (Nat.le_of_ble_eq_true rfl) dX9_greatestFor_6 ?_
    refine jIloadn C dX9_greatestFor_9 rfl 0 rfl ?_
    refine jI2l C dX9_greatestFor_10 ?_
    refine jLcmp C dX9_greatestFor_11 ?_
    refine jIfGt C 21 dX9_greatestFor_12 (by decide) (fun c6 => ?_) (fun c6 => ?_)
    · replace hf := itp hf c6
      refine jIloadn C dX9_greatestFor_21 rfl 2 rfl ?_
      cases hf
      exact jEndI C hQ rfl dX9_greatestFor_22
    · replace hf := itn hf c6
      refine jIinc C (x2_1 + (1 : Int32)) dX9_greatestFor_15 2 rfl (congrArg (fun z : Int32 => x2_1 + z) ki_1) (Nat.le_of_ble_eq_true rfl) [(2, .int (x2_1 + (1 : Int32))), (0, .int p0), (1, .int p1)] rfl ?_
      refine jGoto C 2 dX9_greatestFor_18 (by decide) ?_
      refine jSub [1, 2, 0] rfl ?_
      exact ir3 (x2_1 + (1 : Int32)) hf
  refine jSub [1, 2, 0] rfl ?_
  exact hL2 p1 hf
noncomputable def X9_cascade_h40 (p3 : Int32) (r12 : Int32 → Int32 → Int32 → Option Int32) (x4_8 : Int32) (x5_9 : Int32) (x6_10 : Int32) : Option Int32 := (if x4_8 ≤ (0 : Int32) then some (-1 : Int32) else bd1 (X9_greatestFor x4_8 x5_9) (fun q14 => (if x6_10 = p3 then some q14 else bd1 (X9_chosen q14 x5_9) (fun q17 => r12 (x4_8 - (q17.toInt32)) (x5_9 + (-1 : Int32)) (x6_10 + (1 : Int32))))))
noncomputable def X9_cascade (p1 : Int32) (p2 : Int32) (p3 : Int32) : Option Int32 := bd1 (X9_in (p1.toInt64) (0 : Int64) (100000 : Int64)) (fun q1 => (if q1 = (0 : Int32) then some (-2 : Int32) else bd1 (X9_in (p2.toInt64) (1 : Int64) (7 : Int64)) (fun q4 => (if q4 = (0 : Int32) then some (-2 : Int32) else (if (0 : Int32) ≤ p3 then lfp3 (X9_cascade_h40 p3) p1 p2 (0 : Int32) else some (-2 : Int32))))))
set_option maxHeartbeats 4000000 in
set_option maxRecDepth 20000 in
theorem X9_cascade_ok {p1 : Int32} {p2 : Int32} {p3 : Int32} {rr : Int32}  (hf : X9_cascade p1 p2 p3 = some rr) : MT yX9_cascade cX9_cascade 8 (some .int) 2 [.ref (h 0), .int p1, .int p2, .int p3] D cy G (mw h cy mthr mfrp mact mtpd msiz matx mfrm mtok mval mfk mfpl mbem mtrs mtrl mrom mtom mnow mfre mkep mtap mlef mtak mbes mrow mint mrnd mplo mhio mtox mtol) (mw h cy mthr mfrp mact mtpd msiz matx mfrm mtok mval mfk mfpl mbem mtrs mtrl mrom mtom mnow mfre mkep mtap mlef mtak mbes mrow mint mrnd mplo mhio mtox mtol) (some (.int rr)) := by
  refine MT.go (own := RX9) [(0, .ref (h 0)), (1, .int p1), (2, .int p2), (3, .int p3)] (by decide) rfl (Nat.le_of_ble_eq_true rfl) rfl (fun p l e s m args below meth c A Q C hQ => ?_)
  unfold X9_cascade at hf
  refine jIloadn C dX9_cascade_0 rfl 1 rfl ?_
  refine jI2l C dX9_cascade_1 ?_
  refine jLconst C (0 : Int64) dX9_cascade_2 rfl ?_
  refine jLdc2 C (x := (100000 : Int64)) lk_RX9_287 dX9_cascade_3 ?_
  obtain ⟨q1, e2, hf⟩ := bd1_some hf
  refine jSI C (X9_in_ok  e2) sb_X9_in mk_RX9_63 rfl ⟨Nat.le_of_ble_eq_true rfl, Nat.le_of_ble_eq_true rfl⟩ rfl (Nat.le_of_ble_eq_true rfl) dX9_cascade_6 ?_
  refine jIfEq C 28 dX9_cascade_9 (by decide) (fun c3 => ?_) (fun c3 => ?_)
  · replace hf := itp hf c3
    refine jBipush C (-2 : Int32) dX9_cascade_28 kb_m2 ?_
    cases hf
    exact jEndI C hQ rfl dX9_cascade_30
  · replace hf := itn hf c3
    refine jIloadn C dX9_cascade_12 rfl 2 rfl ?_
    refine jI2l C dX9_cascade_13 ?_
    refine jLconst C (1 : Int64) dX9_cascade_14 rfl ?_
    refine jLdc2 C (x := (7 : Int64)) lk_RX9_174 dX9_cascade_15 ?_
    obtain ⟨q4, e5, hf⟩ := bd1_some hf
    refine jSI C (X9_in_ok  e5) sb_X9_in mk_RX9_63 rfl ⟨Nat.le_of_ble_eq_true rfl, Nat.le_of_ble_eq_true rfl⟩ rfl (Nat.le_of_ble_eq_true rfl) dX9_cascade_18 ?_
    refine jIfEq C 28 dX9_cascade_21 (by decide) (fun c6 => ?_) (fun c6 => ?_)
    · replace hf := itp hf c6
      refine jBipush C (-2 : Int32) dX9_cascade_28 kb_m2 ?_
      cases hf
      exact jEndI C hQ rfl dX9_cascade_30
    · replace hf := itn hf c6
      refine jIloadn C dX9_cascade_24 rfl 3 rfl ?_
      refine jIfGe C 31 dX9_cascade_25 (by decide) (fun c7 => ?_) (fun c7 => ?_)
      · replace hf := itp hf c7
        refine jIloadn C dX9_cascade_31 rfl 1 rfl ?_
        refine jIstore C dX9_cascade_32 (Nat.le_of_ble_eq_true rfl) [(4, .int p1), (0, .ref (h 0)), (1, .int p1), (2, .int p2), (3, .int p3)] rfl ?_
        refine jIloadn C dX9_cascade_34 rfl 3 rfl ?_
        refine jIstore C dX9_cascade_35 (Nat.le_of_ble_eq_true rfl) [(5, .int p2), (4, .int p1), (0, .ref (h 0)), (1, .int p1), (2, .int p2), (3, .int p3)] rfl ?_
        refine jIconst C (0 : Int32) dX9_cascade_37 ki_0 ?_
        refine jIstore C dX9_cascade_38 (Nat.le_of_ble_eq_true rfl) [(6, .int (0 : Int32)), (5, .int p2), (4, .int p1), (0, .ref (h 0)), (1, .int p1), (2, .int p2), (3, .int p3)] rfl ?_
        have hL11 : ∀ (x4_8 : Int32) (x5_9 : Int32) (x6_10 : Int32), lfp3 (X9_cascade_h40 p3) x4_8 x5_9 x6_10 = some rr → J p l e (rmk 2) s m args below meth c D A Q 8 (mw h cy mthr mfrp mact mtpd msiz matx mfrm mtok mval mfk mfpl mbem mtrs mtrl mrom mtom mnow mfre mkep mtap mlef mtak mbes mrow mint mrnd mplo mhio mtox mtol) 40 [(3, .int p3), (4, .int x4_8), (5, .int x5_9), (6, .int x6_10)] [] := by
          intro x4_8 x5_9 x6_10 hw
          refine lfp3_walk (P := fun x4_8 x5_9 x6_10 => J p l e (rmk 2) s m args below meth c D A Q 8 (mw h cy mthr mfrp mact mtpd msiz matx mfrm mtok mval mfk mfpl mbem mtrs mtrl mrom mtom mnow mfre mkep mtap mlef mtak mbes mrow mint mrnd mplo mhio mtox mtol) 40 [(3, .int p3), (4, .int x4_8), (5, .int x5_9), (6, .int x6_10)] []) ?_ hw
          intro r12 ir12 x4_8 x5_9 x6_10 hf
          unfold X9_cascade_h40 at hf
          refine jIload C dX9_cascade_40 1 rfl ?_
          refine jIfLe C 85 dX9_cascade_42 (by decide) (fun c13 => ?_) (fun c13 => ?_)
          · replace hf := itp hf c13
            refine jIconst C (-1 : Int32) dX9_cascade_85 ki_m1 ?_
            cases hf
            exact jEndI C hQ rfl dX9_cascade_86
          · replace hf := itn hf c13
            refine jIload C dX9_cascade_45 1 rfl ?_
            refine jIload C dX9_cascade_47 2 rfl ?_
            obtain ⟨q14, e15, hf⟩ := bd1_some hf
            refine jSI C (X9_greatestFor_ok  e15) sb_X9_greatestFor mk_RX9_289 rfl ⟨Nat.le_of_ble_eq_true rfl, Nat.le_of_ble_eq_true rfl⟩ rfl (Nat.le_of_ble_eq_true rfl) dX9_cascade_49 ?_
            refine jIstore C dX9_cascade_52 (Nat.le_of_ble_eq_true rfl) [(7, .int q14), (3, .int p3), (4, .int x4_8), (5, .int x5_9), (6, .int x6_10)] rfl ?_
            refine jIload C dX9_cascade_54 4 rfl ?_
            refine jIloadn C dX9_cascade_56 rfl 1 rfl ?_
            refine jCmpNe C 63 dX9_cascade_57 (by decide) (fun c16 => ?_) (fun c16 => ?_)
            · replace hf := itn hf c16
              refine jIload C dX9_cascade_63 2 rfl ?_
              refine jIload C dX9_cascade_65 0 rfl ?_
              refine jIload C dX9_cascade_67 3 rfl ?_
              obtain ⟨q17, e18, hf⟩ := bd1_some hf
              refine jSL C (X9_chosen_ok  e18) sb_X9_chosen mk_RX9_281 rfl ⟨Nat.le_of_ble_eq_true rfl, Nat.le_of_ble_eq_true rfl⟩ rfl (Nat.le_of_ble_eq_true rfl) dX9_cascade_69 ?_
              refine jL2i C dX9_cascade_72 ?_
              refine jIsub C dX9_cascade_73 ?_
              refine jIstore C dX9_cascade_74 (Nat.le_of_ble_eq_true rfl) [(4, .int (x4_8 - (q17.toInt32))), (7, .int q14), (3, .int p3), (5, .int x5_9), (6, .int x6_10)] rfl ?_
              refine jIinc C (x5_9 + (-1 : Int32)) dX9_cascade_76 3 rfl (congrArg (fun z : Int32 => x5_9 + z) ki_m1) (Nat.le_of_ble_eq_true rfl) [(5, .int (x5_9 + (-1 : Int32))), (4, .int (x4_8 - (q17.toInt32))), (7, .int q14), (3, .int p3), (6, .int x6_10)] rfl ?_
              refine jIinc C (x6_10 + (1 : Int32)) dX9_cascade_79 4 rfl (congrArg (fun z : Int32 => x6_10 + z) ki_1) (Nat.le_of_ble_eq_true rfl) [(6, .int (x6_10 + (1 : Int32))), (5, .int (x5_9 + (-1 : Int32))), (4, .int (x4_8 - (q17.toInt32))), (7, .int q14), (3, .int p3)] rfl ?_
              refine jGoto C 40 dX9_cascade_82 (by decide) ?_
              refine jSub [4, 2, 1, 0] rfl ?_
              exact ir12 (x4_8 - (q17.toInt32)) (x5_9 + (-1 : Int32)) (x6_10 + (1 : Int32)) hf
            · replace hf := itp hf c16
              refine jIload C dX9_cascade_60 0 rfl ?_
              cases hf
              exact jEndI C hQ rfl dX9_cascade_62
        refine jSub [6, 2, 1, 0] rfl ?_
        exact hL11 p1 p2 (0 : Int32) hf
      · replace hf := itn hf c7
        refine jBipush C (-2 : Int32) dX9_cascade_28 kb_m2 ?_
        cases hf
        exact jEndI C hQ rfl dX9_cascade_30
noncomputable def X9_least_h35  (r11 : Int32 → Int32 → Int32 → Option Int32) (x3_7 : Int32) (x4_8 : Int32) (x5_9 : Int32) : Option Int32 := (if x3_7 ≤ (0 : Int32) then some x5_9 else bd1 (X9_greatestFor x3_7 x4_8) (fun q13 => bd1 (X9_chosen q13 (x4_8 - (1 : Int32))) (fun q15 => bd1 (X9_chosen q13 x4_8) (fun q17 => r11 (x3_7 - (q17.toInt32)) (x4_8 + (-1 : Int32)) (x5_9 + (q15.toInt32))))))
noncomputable def X9_least (p1 : Int32) (p2 : Int32) : Option Int32 := bd1 (X9_in (p1.toInt64) (0 : Int64) (100000 : Int64)) (fun q1 => (if q1 = (0 : Int32) then some (-2 : Int32) else bd1 (X9_in (p2.toInt64) (1 : Int64) (7 : Int64)) (fun q4 => (if q4 = (0 : Int32) then some (-2 : Int32) else lfp3 X9_least_h35 p1 p2 (0 : Int32)))))
set_option maxHeartbeats 4000000 in
set_option maxRecDepth 20000 in
theorem X9_least_ok {p1 : Int32} {p2 : Int32} {rr : Int32}  (hf : X9_least p1 p2 = some rr) : MT yX9_least cX9_least 7 (some .int) 2 [.ref (h 0), .int p1, .int p2] D cy G (mw h cy mthr mfrp mact mtpd msiz matx mfrm mtok mval mfk mfpl mbem mtrs mtrl mrom mtom mnow mfre mkep mtap mlef mtak mbes mrow mint mrnd mplo mhio mtox mtol) (mw h cy mthr mfrp mact mtpd msiz matx mfrm mtok mval mfk mfpl mbem mtrs mtrl mrom mtom mnow mfre mkep mtap mlef mtak mbes mrow mint mrnd mplo mhio mtox mtol) (some (.int rr)) := by
  refine MT.go (own := RX9) [(0, .ref (h 0)), (1, .int p1), (2, .int p2)] (by decide) rfl (Nat.le_of_ble_eq_true rfl) rfl (fun p l e s m args below meth c A Q C hQ => ?_)
  unfold X9_least at hf
  refine jIloadn C dX9_least_0 rfl 1 rfl ?_
  refine jI2l C dX9_least_1 ?_
  refine jLconst C (0 : Int64) dX9_least_2 rfl ?_
  refine jLdc2 C (x := (100000 : Int64)) lk_RX9_287 dX9_least_3 ?_
  obtain ⟨q1, e2, hf⟩ := bd1_some hf
  refine jSI C (X9_in_ok  e2) sb_X9_in mk_RX9_63 rfl ⟨Nat.le_of_ble_eq_true rfl, Nat.le_of_ble_eq_true rfl⟩ rfl (Nat.le_of_ble_eq_true rfl) dX9_least_6 ?_
  refine jIfEq C 24 dX9_least_9 (by decide) (fun c3 => ?_) (fun c3 => ?_)
  · replace hf := itp hf c3
    refine jBipush C (-2 : Int32) dX9_least_24 kb_m2 ?_
    cases hf
    exact jEndI C hQ rfl dX9_least_26
  · replace hf := itn hf c3
    refine jIloadn C dX9_least_12 rfl 2 rfl ?_
    refine jI2l C dX9_least_13 ?_
    refine jLconst C (1 : Int64) dX9_least_14 rfl ?_
    refine jLdc2 C (x := (7 : Int64)) lk_RX9_174 dX9_least_15 ?_
    obtain ⟨q4, e5, hf⟩ := bd1_some hf
    refine jSI C (X9_in_ok  e5) sb_X9_in mk_RX9_63 rfl ⟨Nat.le_of_ble_eq_true rfl, Nat.le_of_ble_eq_true rfl⟩ rfl (Nat.le_of_ble_eq_true rfl) dX9_least_18 ?_
    refine jIfNe C 27 dX9_least_21 (by decide) (fun c6 => ?_) (fun c6 => ?_)
    · replace hf := itn hf c6
      refine jIloadn C dX9_least_27 rfl 1 rfl ?_
      refine jIstoren C dX9_least_28 rfl (Nat.le_of_ble_eq_true rfl) [(3, .int p1), (0, .ref (h 0)), (1, .int p1), (2, .int p2)] rfl ?_
      refine jIloadn C dX9_least_29 rfl 3 rfl ?_
      refine jIstore C dX9_least_30 (Nat.le_of_ble_eq_true rfl) [(4, .int p2), (3, .int p1), (0, .ref (h 0)), (1, .int p1), (2, .int p2)] rfl ?_
      refine jIconst C (0 : Int32) dX9_least_32 ki_0 ?_
      refine jIstore C dX9_least_33 (Nat.le_of_ble_eq_true rfl) [(5, .int (0 : Int32)), (4, .int p2), (3, .int p1), (0, .ref (h 0)), (1, .int p1), (2, .int p2)] rfl ?_
      have hL10 : ∀ (x3_7 : Int32) (x4_8 : Int32) (x5_9 : Int32), lfp3 X9_least_h35 x3_7 x4_8 x5_9 = some rr → J p l e (rmk 2) s m args below meth c D A Q 7 (mw h cy mthr mfrp mact mtpd msiz matx mfrm mtok mval mfk mfpl mbem mtrs mtrl mrom mtom mnow mfre mkep mtap mlef mtak mbes mrow mint mrnd mplo mhio mtox mtol) 35 [(3, .int x3_7), (4, .int x4_8), (5, .int x5_9)] [] := by
        intro x3_7 x4_8 x5_9 hw
        refine lfp3_walk (P := fun x3_7 x4_8 x5_9 => J p l e (rmk 2) s m args below meth c D A Q 7 (mw h cy mthr mfrp mact mtpd msiz matx mfrm mtok mval mfk mfpl mbem mtrs mtrl mrom mtom mnow mfre mkep mtap mlef mtak mbes mrow mint mrnd mplo mhio mtox mtol) 35 [(3, .int x3_7), (4, .int x4_8), (5, .int x5_9)] []) ?_ hw
        intro r11 ir11 x3_7 x4_8 x5_9 hf
        unfold X9_least_h35 at hf
        refine jIloadn C dX9_least_35 rfl 0 rfl ?_
        refine jIfLe C 79 dX9_least_36 (by decide) (fun c12 => ?_) (fun c12 => ?_)
        · replace hf := itp hf c12
          refine jIload C dX9_least_79 2 rfl ?_
          cases hf
          exact jEndI C hQ rfl dX9_least_81
        · replace hf := itn hf c12
          refine jIloadn C dX9_least_39 rfl 0 rfl ?_
          refine jIload C dX9_least_40 1 rfl ?_
          obtain ⟨q13, e14, hf⟩ := bd1_some hf
          refine jSI C (X9_greatestFor_ok  e14) sb_X9_greatestFor mk_RX9_289 rfl ⟨Nat.le_of_ble_eq_true rfl, Nat.le_of_ble_eq_true rfl⟩ rfl (Nat.le_of_ble_eq_true rfl) dX9_least_42 ?_
          refine jIstore C dX9_least_45 (Nat.le_of_ble_eq_true rfl) [(6, .int q13), (3, .int x3_7), (4, .int x4_8), (5, .int x5_9)] rfl ?_
          refine jIload C dX9_least_47 3 rfl ?_
          refine jIload C dX9_least_49 0 rfl ?_
          refine jIload C dX9_least_51 2 rfl ?_
          refine jIconst C (1 : Int32) dX9_least_53 ki_1 ?_
          refine jIsub C dX9_least_54 ?_
          obtain ⟨q15, e16, hf⟩ := bd1_some hf
          refine jSL C (X9_chosen_ok  e16) sb_X9_chosen mk_RX9_281 rfl ⟨Nat.le_of_ble_eq_true rfl, Nat.le_of_ble_eq_true rfl⟩ rfl (Nat.le_of_ble_eq_true rfl) dX9_least_55 ?_
          refine jL2i C dX9_least_58 ?_
          refine jIadd C dX9_least_59 ?_
          refine jIstore C dX9_least_60 (Nat.le_of_ble_eq_true rfl) [(5, .int (x5_9 + (q15.toInt32))), (6, .int q13), (3, .int x3_7), (4, .int x4_8)] rfl ?_
          refine jIloadn C dX9_least_62 rfl 2 rfl ?_
          refine jIload C dX9_least_63 1 rfl ?_
          refine jIload C dX9_least_65 3 rfl ?_
          obtain ⟨q17, e18, hf⟩ := bd1_some hf
          refine jSL C (X9_chosen_ok  e18) sb_X9_chosen mk_RX9_281 rfl ⟨Nat.le_of_ble_eq_true rfl, Nat.le_of_ble_eq_true rfl⟩ rfl (Nat.le_of_ble_eq_true rfl) dX9_least_67 ?_
          refine jL2i C dX9_least_70 ?_
          refine jIsub C dX9_least_71 ?_
          refine jIstoren C dX9_least_72 rfl (Nat.le_of_ble_eq_true rfl) [(3, .int (x3_7 - (q17.toInt32))), (5, .int (x5_9 + (q15.toInt32))), (6, .int q13), (4, .int x4_8)] rfl ?_
          refine jIinc C (x4_8 + (-1 : Int32)) dX9_least_73 3 rfl (congrArg (fun z : Int32 => x4_8 + z) ki_m1) (Nat.le_of_ble_eq_true rfl) [(4, .int (x4_8 + (-1 : Int32))), (3, .int (x3_7 - (q17.toInt32))), (5, .int (x5_9 + (q15.toInt32))), (6, .int q13)] rfl ?_
          refine jGoto C 35 dX9_least_76 (by decide) ?_
          refine jSub [1, 0, 2] rfl ?_
          exact ir11 (x3_7 - (q17.toInt32)) (x4_8 + (-1 : Int32)) (x5_9 + (q15.toInt32)) hf
      refine jSub [2, 1, 0] rfl ?_
      exact hL10 p1 p2 (0 : Int32) hf
    · replace hf := itp hf c6
      refine jBipush C (-2 : Int32) dX9_least_24 kb_m2 ?_
      cases hf
      exact jEndI C hQ rfl dX9_least_26
noncomputable def X9_cover_h62 (r10 : Int32 → Int32 → Option Int32) (x2_7 : Int32) (x3_8 : Int32) (mnow : Nat → Int32) (p1 : Int32) (r18 : Int32 → Int32 → Option Int32) (x4_15 : Int32) (x5_16 : Int32) : Option Int32 := (if (128 : Int32) ≤ x5_16 then (if x4_15 = (0 : Int32) then r10 x2_7 (x3_8 + (1 : Int32)) else r10 x3_8 (x3_8 + (1 : Int32))) else (if x4_15 = (0 : Int32) then (if x4_15 = (0 : Int32) then r10 x2_7 (x3_8 + (1 : Int32)) else r10 x3_8 (x3_8 + (1 : Int32))) else bd1 (X9_isIn mnow p1 x5_16) (fun q23 => (if q23 = (0 : Int32) then r18 (1 : Int32) (x5_16 + (1 : Int32)) else (if (x5_16 &&& x3_8) = (0 : Int32) then r18 (0 : Int32) (x5_16 + (1 : Int32)) else r18 (1 : Int32) (x5_16 + (1 : Int32)))))))
noncomputable def X9_cover_j56 (r10 : Int32 → Int32 → Option Int32) (x2_7 : Int32) (x3_8 : Int32) (mnow : Nat → Int32) (p1 : Int32)  : Option Int32 := lfp2 (X9_cover_h62 r10 x2_7 x3_8 mnow p1) (1 : Int32) (0 : Int32)
noncomputable def X9_cover_h26 (mnow : Nat → Int32) (p1 : Int32) (r10 : Int32 → Int32 → Option Int32) (x2_7 : Int32) (x3_8 : Int32) : Option Int32 := bd1 (X9_points mnow p1) (fun q11 => (if ((1 : Int32) <<< (q11 &&& 31)) ≤ x3_8 then some x2_7 else (if x2_7 = (-1 : Int32) then X9_cover_j56 r10 x2_7 x3_8 mnow p1 else bd1 (X9_bits x3_8) (fun q28 => bd1 (X9_bits x2_7) (fun q30 => (if q28 < q30 then X9_cover_j56 r10 x2_7 x3_8 mnow p1 else r10 x2_7 (x3_8 + (1 : Int32))))))))
noncomputable def X9_cover (mnow : Nat → Int32) (p1 : Int32) : Option Int32 := bd1 (X9_hasOne mnow p1) (fun q1 => (if q1 = (0 : Int32) then some (-2 : Int32) else bd1 (X9_isIn mnow p1 (0 : Int32)) (fun q4 => (if q4 = (0 : Int32) then lfp2 (X9_cover_h26 mnow p1) (-1 : Int32) (0 : Int32) else some (-1 : Int32)))))
set_option maxHeartbeats 4000000 in
set_option maxRecDepth 20000 in
theorem X9_cover_ok {p1 : Int32} {rr : Int32}  (hf : X9_cover mnow p1 = some rr) : MT yX9_cover cX9_cover 6 (some .int) 3 [.ref (h 0), .int p1] D cy G (mw h cy mthr mfrp mact mtpd msiz matx mfrm mtok mval mfk mfpl mbem mtrs mtrl mrom mtom mnow mfre mkep mtap mlef mtak mbes mrow mint mrnd mplo mhio mtox mtol) (mw h cy mthr mfrp mact mtpd msiz matx mfrm mtok mval mfk mfpl mbem mtrs mtrl mrom mtom mnow mfre mkep mtap mlef mtak mbes mrow mint mrnd mplo mhio mtox mtol) (some (.int rr)) := by
  refine MT.go (own := RX9) [(0, .ref (h 0)), (1, .int p1)] (by decide) rfl (Nat.le_of_ble_eq_true rfl) rfl (fun p l e s m args below meth c A Q C hQ => ?_)
  unfold X9_cover at hf
  refine jAloadn C dX9_cover_0 rfl 0 rfl ?_
  refine jIloadn C dX9_cover_1 rfl 1 rfl ?_
  obtain ⟨q1, e2, hf⟩ := bd1_some hf
  refine jVI C (X9_hasOne_ok  e2) vb_X9_hasOne mk_RX9_75 rfl rcM ⟨Nat.le_of_ble_eq_true rfl, Nat.le_of_ble_eq_true rfl⟩ rfl (Nat.le_of_ble_eq_true rfl) dX9_cover_2 ?_
  refine jIfNe C 11 dX9_cover_5 (by decide) (fun c3 => ?_) (fun c3 => ?_)
  · replace hf := itn hf c3
    refine jAloadn C dX9_cover_11 rfl 0 rfl ?_
    refine jIloadn C dX9_cover_12 rfl 1 rfl ?_
    refine jIconst C (0 : Int32) dX9_cover_13 ki_0 ?_
    obtain ⟨q4, e5, hf⟩ := bd1_some hf
    refine jVI C (X9_isIn_ok  e5) vb_X9_isIn mk_RX9_81 rfl rcM ⟨Nat.le_of_ble_eq_true rfl, Nat.le_of_ble_eq_true rfl⟩ rfl (Nat.le_of_ble_eq_true rfl) dX9_cover_14 ?_
    refine jIfEq C 22 dX9_cover_17 (by decide) (fun c6 => ?_) (fun c6 => ?_)
    · replace hf := itp hf c6
      refine jIconst C (-1 : Int32) dX9_cover_22 ki_m1 ?_
      refine jIstoren C dX9_cover_23 rfl (Nat.le_of_ble_eq_true rfl) [(2, .int (-1 : Int32)), (0, .ref (h 0)), (1, .int p1)] rfl ?_
      refine jIconst C (0 : Int32) dX9_cover_24 ki_0 ?_
      refine jIstoren C dX9_cover_25 rfl (Nat.le_of_ble_eq_true rfl) [(3, .int (0 : Int32)), (2, .int (-1 : Int32)), (0, .ref (h 0)), (1, .int p1)] rfl ?_
      have hL9 : ∀ (x2_7 : Int32) (x3_8 : Int32), lfp2 (X9_cover_h26 mnow p1) x2_7 x3_8 = some rr → J p l e (rmk 3) s m args below meth c D A Q 6 (mw h cy mthr mfrp mact mtpd msiz matx mfrm mtok mval mfk mfpl mbem mtrs mtrl mrom mtom mnow mfre mkep mtap mlef mtak mbes mrow mint mrnd mplo mhio mtox mtol) 26 [(0, .ref (h 0)), (1, .int p1), (2, .int x2_7), (3, .int x3_8)] [] := by
        intro x2_7 x3_8 hw
        refine lfp2_walk (P := fun x2_7 x3_8 => J p l e (rmk 3) s m args below meth c D A Q 6 (mw h cy mthr mfrp mact mtpd msiz matx mfrm mtok mval mfk mfpl mbem mtrs mtrl mrom mtom mnow mfre mkep mtap mlef mtak mbes mrow mint mrnd mplo mhio mtox mtol) 26 [(0, .ref (h 0)), (1, .int p1), (2, .int x2_7), (3, .int x3_8)] []) ?_ hw
        intro r10 ir10 x2_7 x3_8 hf
        unfold X9_cover_h26 at hf
        refine jIloadn C dX9_cover_26 rfl 3 rfl ?_
        refine jIconst C (1 : Int32) dX9_cover_27 ki_1 ?_
        refine jAloadn C dX9_cover_28 rfl 0 rfl ?_
        refine jIloadn C dX9_cover_29 rfl 1 rfl ?_
        obtain ⟨q11, e12, hf⟩ := bd1_some hf
        refine jVI C (X9_points_ok  e12) vb_X9_points mk_RX9_78 rfl rcM ⟨Nat.le_of_ble_eq_true rfl, Nat.le_of_ble_eq_true rfl⟩ rfl (Nat.le_of_ble_eq_true rfl) dX9_cover_30 ?_
        refine jIshl C dX9_cover_33 ?_
        refine jCmpGe C 118 dX9_cover_34 (by decide) (fun c13 => ?_) (fun c13 => ?_)
        · replace hf := itp hf c13
          refine jIloadn C dX9_cover_118 rfl 2 rfl ?_
          cases hf
          exact jEndI C hQ rfl dX9_cover_119
        · replace hf := itn hf c13
          refine jIloadn C dX9_cover_37 rfl 2 rfl ?_
          refine jIconst C (-1 : Int32) dX9_cover_38 ki_m1 ?_
          have hL14 : X9_cover_j56 r10 x2_7 x3_8 mnow p1  = some rr → J p l e (rmk 3) s m args below meth c D A Q 6 (mw h cy mthr mfrp mact mtpd msiz matx mfrm mtok mval mfk mfpl mbem mtrs mtrl mrom mtom mnow mfre mkep mtap mlef mtak mbes mrow mint mrnd mplo mhio mtox mtol) 56 [(0, .ref (h 0)), (1, .int p1), (2, .int x2_7), (3, .int x3_8)] [] := by
            intro  hf
            unfold X9_cover_j56 at hf
            refine jIconst C (1 : Int32) dX9_cover_56 ki_1 ?_
            refine jIstore C dX9_cover_57 (Nat.le_of_ble_eq_true rfl) [(4, .int (1 : Int32)), (0, .ref (h 0)), (1, .int p1), (2, .int x2_7), (3, .int x3_8)] rfl ?_
            refine jIconst C (0 : Int32) dX9_cover_59 ki_0 ?_
            refine jIstore C dX9_cover_60 (Nat.le_of_ble_eq_true rfl) [(5, .int (0 : Int32)), (4, .int (1 : Int32)), (0, .ref (h 0)), (1, .int p1), (2, .int x2_7), (3, .int x3_8)] rfl ?_
            have hL17 : ∀ (x4_15 : Int32) (x5_16 : Int32), lfp2 (X9_cover_h62 r10 x2_7 x3_8 mnow p1) x4_15 x5_16 = some rr → J p l e (rmk 3) s m args below meth c D A Q 6 (mw h cy mthr mfrp mact mtpd msiz matx mfrm mtok mval mfk mfpl mbem mtrs mtrl mrom mtom mnow mfre mkep mtap mlef mtak mbes mrow mint mrnd mplo mhio mtox mtol) 62 [(0, .ref (h 0)), (1, .int p1), (2, .int x2_7), (3, .int x3_8), (4, .int x4_15), (5, .int x5_16)] [] := by
              intro x4_15 x5_16 hw
              refine lfp2_walk (P := fun x4_15 x5_16 => J p l e (rmk 3) s m args below meth c D A Q 6 (mw h cy mthr mfrp mact mtpd msiz matx mfrm mtok mval mfk mfpl mbem mtrs mtrl mrom mtom mnow mfre mkep mtap mlef mtak mbes mrow mint mrnd mplo mhio mtox mtol) 62 [(0, .ref (h 0)), (1, .int p1), (2, .int x2_7), (3, .int x3_8), (4, .int x4_15), (5, .int x5_16)] []) ?_ hw
              intro r18 ir18 x4_15 x5_16 hf
              unfold X9_cover_h62 at hf
              refine jIload C dX9_cover_62 5 rfl ?_
              refine jSipush C (128 : Int32) dX9_cover_64 ks_128 ?_
              refine jCmpGe C 105 dX9_cover_67 (by decide) (fun c19 => ?_) (fun c19 => ?_)
              · replace hf := itp hf c19
                refine jIload C dX9_cover_105 4 rfl ?_
                refine jIfEq C 112 dX9_cover_107 (by decide) (fun c20 => ?_) (fun c20 => ?_)
                · replace hf := itp hf c20
                  refine jIinc C (x3_8 + (1 : Int32)) dX9_cover_112 3 rfl (congrArg (fun z : Int32 => x3_8 + z) ki_1) (Nat.le_of_ble_eq_true rfl) [(3, .int (x3_8 + (1 : Int32))), (0, .ref (h 0)), (1, .int p1), (2, .int x2_7), (4, .int x4_15), (5, .int x5_16)] rfl ?_
                  refine jGoto C 26 dX9_cover_115 (by decide) ?_
                  refine jSub [1, 2, 3, 0] rfl ?_
                  exact ir10 x2_7 (x3_8 + (1 : Int32)) hf
                · replace hf := itn hf c20
                  refine jIloadn C dX9_cover_110 rfl 3 rfl ?_
                  refine jIstoren C dX9_cover_111 rfl (Nat.le_of_ble_eq_true rfl) [(2, .int x3_8), (0, .ref (h 0)), (1, .int p1), (3, .int x3_8), (4, .int x4_15), (5, .int x5_16)] rfl ?_
                  refine jIinc C (x3_8 + (1 : Int32)) dX9_cover_112 3 rfl (congrArg (fun z : Int32 => x3_8 + z) ki_1) (Nat.le_of_ble_eq_true rfl) [(3, .int (x3_8 + (1 : Int32))), (2, .int x3_8), (0, .ref (h 0)), (1, .int p1), (4, .int x4_15), (5, .int x5_16)] rfl ?_
                  refine jGoto C 26 dX9_cover_115 (by decide) ?_
                  refine jSub [2, 3, 1, 0] rfl ?_
                  exact ir10 x3_8 (x3_8 + (1 : Int32)) hf
              · replace hf := itn hf c19
                refine jIload C dX9_cover_70 4 rfl ?_
                refine jIfEq C 105 dX9_cover_72 (by decide) (fun c21 => ?_) (fun c21 => ?_)
                · replace hf := itp hf c21
                  refine jIload C dX9_cover_105 4 rfl ?_
                  refine jIfEq C 112 dX9_cover_107 (by decide) (fun c22 => ?_) (fun c22 => ?_)
                  · replace hf := itp hf c22
                    refine jIinc C (x3_8 + (1 : Int32)) dX9_cover_112 3 rfl (congrArg (fun z : Int32 => x3_8 + z) ki_1) (Nat.le_of_ble_eq_true rfl) [(3, .int (x3_8 + (1 : Int32))), (0, .ref (h 0)), (1, .int p1), (2, .int x2_7), (4, .int x4_15), (5, .int x5_16)] rfl ?_
                    refine jGoto C 26 dX9_cover_115 (by decide) ?_
                    refine jSub [1, 2, 3, 0] rfl ?_
                    exact ir10 x2_7 (x3_8 + (1 : Int32)) hf
                  · replace hf := itn hf c22
                    refine jIloadn C dX9_cover_110 rfl 3 rfl ?_
                    refine jIstoren C dX9_cover_111 rfl (Nat.le_of_ble_eq_true rfl) [(2, .int x3_8), (0, .ref (h 0)), (1, .int p1), (3, .int x3_8), (4, .int x4_15), (5, .int x5_16)] rfl ?_
                    refine jIinc C (x3_8 + (1 : Int32)) dX9_cover_112 3 rfl (congrArg (fun z : Int32 => x3_8 + z) ki_1) (Nat.le_of_ble_eq_true rfl) [(3, .int (x3_8 + (1 : Int32))), (2, .int x3_8), (0, .ref (h 0)), (1, .int p1), (4, .int x4_15), (5, .int x5_16)] rfl ?_
                    refine jGoto C 26 dX9_cover_115 (by decide) ?_
                    refine jSub [2, 3, 1, 0] rfl ?_
                    exact ir10 x3_8 (x3_8 + (1 : Int32)) hf
                · replace hf := itn hf c21
                  refine jAloadn C dX9_cover_75 rfl 0 rfl ?_
                  refine jIloadn C dX9_cover_76 rfl 1 rfl ?_
                  refine jIload C dX9_cover_77 5 rfl ?_
                  obtain ⟨q23, e24, hf⟩ := bd1_some hf
                  refine jVI C (X9_isIn_ok  e24) vb_X9_isIn mk_RX9_81 rfl rcM ⟨Nat.le_of_ble_eq_true rfl, Nat.le_of_ble_eq_true rfl⟩ rfl (Nat.le_of_ble_eq_true rfl) dX9_cover_79 ?_
                  refine jIfEq C 92 dX9_cover_82 (by decide) (fun c25 => ?_) (fun c25 => ?_)
                  · replace hf := itp hf c25
                    refine jIconst C (1 : Int32) dX9_cover_92 ki_1 ?_
                    refine jGoto C 97 dX9_cover_93 (by decide) ?_
                    refine jIstore C dX9_cover_97 (Nat.le_of_ble_eq_true rfl) [(4, .int (1 : Int32)), (0, .ref (h 0)), (1, .int p1), (2, .int x2_7), (3, .int x3_8), (5, .int x5_16)] rfl ?_
                    refine jIinc C (x5_16 + (1 : Int32)) dX9_cover_99 5 rfl (congrArg (fun z : Int32 => x5_16 + z) ki_1) (Nat.le_of_ble_eq_true rfl) [(5, .int (x5_16 + (1 : Int32))), (4, .int (1 : Int32)), (0, .ref (h 0)), (1, .int p1), (2, .int x2_7), (3, .int x3_8)] rfl ?_
                    refine jGoto C 62 dX9_cover_102 (by decide) ?_
                    refine jSub [2, 3, 4, 5, 1, 0] rfl ?_
                    exact ir18 (1 : Int32) (x5_16 + (1 : Int32)) hf
                  · replace hf := itn hf c25
                    refine jIload C dX9_cover_85 5 rfl ?_
                    refine jIloadn C dX9_cover_87 rfl 3 rfl ?_
                    refine jIand C dX9_cover_88 ?_
                    refine jIfEq C 96 dX9_cover_89 (by decide) (fun c26 => ?_) (fun c26 => ?_)
                    · replace hf := itp hf c26
                      refine jIconst C (0 : Int32) dX9_cover_96 ki_0 ?_
                      refine jIstore C dX9_cover_97 (Nat.le_of_ble_eq_true rfl) [(4, .int (0 : Int32)), (0, .ref (h 0)), (1, .int p1), (2, .int x2_7), (3, .int x3_8), (5, .int x5_16)] rfl ?_
                      refine jIinc C (x5_16 + (1 : Int32)) dX9_cover_99 5 rfl (congrArg (fun z : Int32 => x5_16 + z) ki_1) (Nat.le_of_ble_eq_true rfl) [(5, .int (x5_16 + (1 : Int32))), (4, .int (0 : Int32)), (0, .ref (h 0)), (1, .int p1), (2, .int x2_7), (3, .int x3_8)] rfl ?_
                      refine jGoto C 62 dX9_cover_102 (by decide) ?_
                      refine jSub [2, 3, 4, 5, 1, 0] rfl ?_
                      exact ir18 (0 : Int32) (x5_16 + (1 : Int32)) hf
                    · replace hf := itn hf c26
                      refine jIconst C (1 : Int32) dX9_cover_92 ki_1 ?_
                      refine jGoto C 97 dX9_cover_93 (by decide) ?_
                      refine jIstore C dX9_cover_97 (Nat.le_of_ble_eq_true rfl) [(4, .int (1 : Int32)), (0, .ref (h 0)), (1, .int p1), (2, .int x2_7), (3, .int x3_8), (5, .int x5_16)] rfl ?_
                      refine jIinc C (x5_16 + (1 : Int32)) dX9_cover_99 5 rfl (congrArg (fun z : Int32 => x5_16 + z) ki_1) (Nat.le_of_ble_eq_true rfl) [(5, .int (x5_16 + (1 : Int32))), (4, .int (1 : Int32)), (0, .ref (h 0)), (1, .int p1), (2, .int x2_7), (3, .int x3_8)] rfl ?_
                      refine jGoto C 62 dX9_cover_102 (by decide) ?_
                      refine jSub [2, 3, 4, 5, 1, 0] rfl ?_
                      exact ir18 (1 : Int32) (x5_16 + (1 : Int32)) hf
            refine jSub [2, 3, 4, 5, 1, 0] rfl ?_
            exact hL17 (1 : Int32) (0 : Int32) hf
          refine jCmpEq C 56 dX9_cover_39 (by decide) (fun c27 => ?_) (fun c27 => ?_)
          · replace hf := itp hf c27
            exact hL14  hf
          · replace hf := itn hf c27
            refine jIloadn C dX9_cover_42 rfl 3 rfl ?_
            obtain ⟨q28, e29, hf⟩ := bd1_some hf
            refine jSI C (X9_bits_ok  e29) sb_X9_bits mk_RX9_198 rfl ⟨Nat.le_of_ble_eq_true rfl, Nat.le_of_ble_eq_true rfl⟩ rfl (Nat.le_of_ble_eq_true rfl) dX9_cover_43 ?_
            refine jIloadn C dX9_cover_46 rfl 2 rfl ?_
            obtain ⟨q30, e31, hf⟩ := bd1_some hf
            refine jSI C (X9_bits_ok  e31) sb_X9_bits mk_RX9_198 rfl ⟨Nat.le_of_ble_eq_true rfl, Nat.le_of_ble_eq_true rfl⟩ rfl (Nat.le_of_ble_eq_true rfl) dX9_cover_47 ?_
            refine jCmpLt C 56 dX9_cover_50 (by decide) (fun c32 => ?_) (fun c32 => ?_)
            · replace hf := itp hf c32
              exact hL14  hf
            · replace hf := itn hf c32
              refine jGoto C 112 dX9_cover_53 (by decide) ?_
              refine jIinc C (x3_8 + (1 : Int32)) dX9_cover_112 3 rfl (congrArg (fun z : Int32 => x3_8 + z) ki_1) (Nat.le_of_ble_eq_true rfl) [(3, .int (x3_8 + (1 : Int32))), (0, .ref (h 0)), (1, .int p1), (2, .int x2_7)] rfl ?_
              refine jGoto C 26 dX9_cover_115 (by decide) ?_
              refine jSub [1, 2, 3, 0] rfl ?_
              exact ir10 x2_7 (x3_8 + (1 : Int32)) hf
      refine jSub [2, 3, 1, 0] rfl ?_
      exact hL9 (-1 : Int32) (0 : Int32) hf
    · replace hf := itn hf c6
      refine jIconst C (-1 : Int32) dX9_cover_20 ki_m1 ?_
      cases hf
      exact jEndI C hQ rfl dX9_cover_21
  · replace hf := itp hf c3
    refine jBipush C (-2 : Int32) dX9_cover_8 kb_m2 ?_
    cases hf
    exact jEndI C hQ rfl dX9_cover_10
noncomputable def X9_canBe_h2 (p1 : Int32) (mint : Nat → Int32) (p2 : Int32) (mrow : Nat → Int32) (r3 : Int32 → Option Int32) (x3_1 : Int32) : Option Int32 := (if p1 ≤ x3_1 then some (1 : Int32) else gin x3_1 128 ((if (mint x3_1.toNatClampNeg) = p2 then gin x3_1 128 (gin p1 128 ((if ((mrow x3_1.toNatClampNeg) &&& (mrow p1.toNatClampNeg)) = (0 : Int32) then some (0 : Int32) else r3 (x3_1 + (1 : Int32))))) else r3 (x3_1 + (1 : Int32)))))
noncomputable def X9_canBe (mrow : Nat → Int32) (mint : Nat → Int32) (p1 : Int32) (p2 : Int32) : Option Int32 := lfp1 (X9_canBe_h2 p1 mint p2 mrow) (0 : Int32)
set_option maxHeartbeats 4000000 in
set_option maxRecDepth 20000 in
theorem X9_canBe_ok {p1 : Int32} {p2 : Int32} {rr : Int32}  (hf : X9_canBe mrow mint p1 p2 = some rr) : MT yX9_canBe cX9_canBe 4 (some .boolean) 0 [.ref (h 0), .int p1, .int p2] D cy G (mw h cy mthr mfrp mact mtpd msiz matx mfrm mtok mval mfk mfpl mbem mtrs mtrl mrom mtom mnow mfre mkep mtap mlef mtak mbes mrow mint mrnd mplo mhio mtox mtol) (mw h cy mthr mfrp mact mtpd msiz matx mfrm mtok mval mfk mfpl mbem mtrs mtrl mrom mtom mnow mfre mkep mtap mlef mtak mbes mrow mint mrnd mplo mhio mtox mtol) (some (.int rr)) := by
  refine MT.go (own := RX9) [(0, .ref (h 0)), (1, .int p1), (2, .int p2)] (by decide) rfl (Nat.le_of_ble_eq_true rfl) rfl (fun p l e s m args below meth c A Q C hQ => ?_)
  unfold X9_canBe at hf
  refine jIconst C (0 : Int32) dX9_canBe_0 ki_0 ?_
  refine jIstoren C dX9_canBe_1 rfl (Nat.le_of_ble_eq_true rfl) [(3, .int (0 : Int32)), (0, .ref (h 0)), (1, .int p1), (2, .int p2)] rfl ?_
  have hL2 : ∀ (x3_1 : Int32), lfp1 (X9_canBe_h2 p1 mint p2 mrow) x3_1 = some rr → J p l e (rmk 0) s m args below meth c D A Q 4 (mw h cy mthr mfrp mact mtpd msiz matx mfrm mtok mval mfk mfpl mbem mtrs mtrl mrom mtom mnow mfre mkep mtap mlef mtak mbes mrow mint mrnd mplo mhio mtox mtol) 2 [(0, .ref (h 0)), (1, .int p1), (2, .int p2), (3, .int x3_1)] [] := by
    intro x3_1 hw
    refine lfp1_walk (P := fun x3_1 => J p l e (rmk 0) s m args below meth c D A Q 4 (mw h cy mthr mfrp mact mtpd msiz matx mfrm mtok mval mfk mfpl mbem mtrs mtrl mrom mtom mnow mfre mkep mtap mlef mtak mbes mrow mint mrnd mplo mhio mtox mtol) 2 [(0, .ref (h 0)), (1, .int p1), (2, .int p2), (3, .int x3_1)] []) ?_ hw
    intro r3 ir3 x3_1 hf
    unfold X9_canBe_h2 at hf
    refine jIloadn C dX9_canBe_2 rfl 3 rfl ?_
    refine jIloadn C dX9_canBe_3 rfl 1 rfl ?_
    refine jCmpGe C 41 dX9_canBe_4 (by decide) (fun c4 => ?_) (fun c4 => ?_)
    · replace hf := itp hf c4
      refine jIconst C (1 : Int32) dX9_canBe_41 ki_1 ?_
      cases hf
      exact jEndIZ C hQ rfl nar_z1 dX9_canBe_42
    · replace hf := itn hf c4
      refine jAloadn C dX9_canBe_7 rfl 0 rfl ?_
      refine gf_RX9_40 C dX9_canBe_8 ?_
      refine jIloadn C dX9_canBe_11 rfl 3 rfl ?_
      obtain ⟨z5, hf⟩ := gin_some hf
      refine al_mint C z5 dX9_canBe_12 ?_
      refine jIloadn C dX9_canBe_13 rfl 2 rfl ?_
      refine jCmpNe C 35 dX9_canBe_14 (by decide) (fun c6 => ?_) (fun c6 => ?_)
      · replace hf := itn hf c6
        refine jIinc C (x3_1 + (1 : Int32)) dX9_canBe_35 3 rfl (congrArg (fun z : Int32 => x3_1 + z) ki_1) (Nat.le_of_ble_eq_true rfl) [(3, .int (x3_1 + (1 : Int32))), (0, .ref (h 0)), (1, .int p1), (2, .int p2)] rfl ?_
        refine jGoto C 2 dX9_canBe_38 (by decide) ?_
        refine jSub [1, 2, 3, 0] rfl ?_
        exact ir3 (x3_1 + (1 : Int32)) hf
      · replace hf := itp hf c6
        refine jAloadn C dX9_canBe_17 rfl 0 rfl ?_
        refine gf_RX9_37 C dX9_canBe_18 ?_
        refine jIloadn C dX9_canBe_21 rfl 3 rfl ?_
        obtain ⟨z7, hf⟩ := gin_some hf
        refine al_mrow C z7 dX9_canBe_22 ?_
        refine jAloadn C dX9_canBe_23 rfl 0 rfl ?_
        refine gf_RX9_37 C dX9_canBe_24 ?_
        refine jIloadn C dX9_canBe_27 rfl 1 rfl ?_
        obtain ⟨z8, hf⟩ := gin_some hf
        refine al_mrow C z8 dX9_canBe_28 ?_
        refine jIand C dX9_canBe_29 ?_
        refine jIfNe C 35 dX9_canBe_30 (by decide) (fun c9 => ?_) (fun c9 => ?_)
        · replace hf := itn hf c9
          refine jIinc C (x3_1 + (1 : Int32)) dX9_canBe_35 3 rfl (congrArg (fun z : Int32 => x3_1 + z) ki_1) (Nat.le_of_ble_eq_true rfl) [(3, .int (x3_1 + (1 : Int32))), (0, .ref (h 0)), (1, .int p1), (2, .int p2)] rfl ?_
          refine jGoto C 2 dX9_canBe_38 (by decide) ?_
          refine jSub [1, 2, 3, 0] rfl ?_
          exact ir3 (x3_1 + (1 : Int32)) hf
        · replace hf := itp hf c9
          refine jIconst C (0 : Int32) dX9_canBe_33 ki_0 ?_
          cases hf
          exact jEndIZ C hQ rfl nar_z0 dX9_canBe_34
  refine jSub [1, 2, 3, 0] rfl ?_
  exact hL2 (0 : Int32) hf
noncomputable def X9_colours0_j167 (p2 : Int32) (x7_24 : Int32) (r12 : Int32 → Int32 → (Nat → Int32) → Option (Int32 × Int32 × (Nat → Int32) × (Nat → Int32))) (x4_8 : Int32) (x5_9 : Int32) (mint_10 : Nat → Int32) (x6_17 : Int32) (mrom_2 : Int32) (mrow_3 : Nat → Int32)  : Option (Int32 × Int32 × (Nat → Int32) × (Nat → Int32)) := (if p2 ≤ x7_24 then r12 x4_8 (x5_9 + (-1 : Int32)) (upd mint_10 x5_9.toNatClampNeg (-1 : Int32)) else (if x7_24 ≤ x6_17 then (if x4_8 = (0 : Int32) then some ((-3 : Int32), mrom_2, mrow_3, (upd mint_10 x5_9.toNatClampNeg (-1 : Int32))) else gin x5_9 128 ((if mrom_2 ≤ (x5_9 + (1 : Int32)) then r12 (x4_8 + (-1 : Int32)) (x5_9 + (1 : Int32)) (upd (upd mint_10 x5_9.toNatClampNeg (-1 : Int32)) x5_9.toNatClampNeg x7_24) else gin (x5_9 + (1 : Int32)) 128 (r12 (x4_8 + (-1 : Int32)) (x5_9 + (1 : Int32)) (upd (upd (upd mint_10 x5_9.toNatClampNeg (-1 : Int32)) x5_9.toNatClampNeg x7_24) (x5_9 + (1 : Int32)).toNatClampNeg (-1 : Int32)))))) else r12 x4_8 (x5_9 + (-1 : Int32)) (upd mint_10 x5_9.toNatClampNeg (-1 : Int32))))
noncomputable def X9_colours0_h137 (p2 : Int32) (r12 : Int32 → Int32 → (Nat → Int32) → Option (Int32 × Int32 × (Nat → Int32) × (Nat → Int32))) (x4_8 : Int32) (x5_9 : Int32) (mint_10 : Nat → Int32) (x6_17 : Int32) (mrom_2 : Int32) (mrow_3 : Nat → Int32) (r26 : Int32 → Option (Int32 × Int32 × (Nat → Int32) × (Nat → Int32))) (x7_24 : Int32) : Option (Int32 × Int32 × (Nat → Int32) × (Nat → Int32)) := (if p2 ≤ x7_24 then X9_colours0_j167 p2 x7_24 r12 x4_8 x5_9 mint_10 x6_17 mrom_2 mrow_3 else (if x6_17 < x7_24 then X9_colours0_j167 p2 x7_24 r12 x4_8 x5_9 mint_10 x6_17 mrom_2 mrow_3 else bd1 (X9_canBe mrow_3 (upd mint_10 x5_9.toNatClampNeg (-1 : Int32)) x5_9 x7_24) (fun q36 => (if q36 = (0 : Int32) then r26 (x7_24 + (1 : Int32)) else X9_colours0_j167 p2 x7_24 r12 x4_8 x5_9 mint_10 x6_17 mrom_2 mrow_3))))
noncomputable def X9_colours0_h89 (x5_9 : Int32) (p2 : Int32) (r12 : Int32 → Int32 → (Nat → Int32) → Option (Int32 × Int32 × (Nat → Int32) × (Nat → Int32))) (x4_8 : Int32) (mint_10 : Nat → Int32) (mrom_2 : Int32) (mrow_3 : Nat → Int32) (r20 : Int32 → Int32 → Option (Int32 × Int32 × (Nat → Int32) × (Nat → Int32))) (x6_17 : Int32) (x7_18 : Int32) : Option (Int32 × Int32 × (Nat → Int32) × (Nat → Int32)) := (if x5_9 ≤ x7_18 then gin x5_9 128 (gin x5_9 128 (lfp1 (X9_colours0_h137 p2 r12 x4_8 x5_9 mint_10 x6_17 mrom_2 mrow_3) ((mint_10 x5_9.toNatClampNeg) + (1 : Int32)))) else gin x7_18 128 (r20 (imax x6_17 ((mint_10 x7_18.toNatClampNeg) + (1 : Int32))) (x7_18 + (1 : Int32))))
noncomputable def X9_colours0_h69 (mrom_2 : Int32) (mrow_3 : Nat → Int32) (p2 : Int32) (r12 : Int32 → Int32 → (Nat → Int32) → Option (Int32 × Int32 × (Nat → Int32) × (Nat → Int32))) (x4_8 : Int32) (x5_9 : Int32) (mint_10 : Nat → Int32) : Option (Int32 × Int32 × (Nat → Int32) × (Nat → Int32)) := (if x5_9 < (0 : Int32) then (if (0 : Int32) ≤ x5_9 then some ((1 : Int32), mrom_2, mrow_3, mint_10) else some ((0 : Int32), mrom_2, mrow_3, mint_10)) else (if mrom_2 ≤ x5_9 then (if (0 : Int32) ≤ x5_9 then some ((1 : Int32), mrom_2, mrow_3, mint_10) else some ((0 : Int32), mrom_2, mrow_3, mint_10)) else lfp2 (X9_colours0_h89 x5_9 p2 r12 x4_8 mint_10 mrom_2 mrow_3) (0 : Int32) (0 : Int32)))
noncomputable def X9_colours0_h8 (p2 : Int32) (p3 : Int32) (mint : Nat → Int32) (mnow : Nat → Int32) (p1 : Int32) (r5 : Int32 → Int32 → (Nat → Int32) → Option (Int32 × Int32 × (Nat → Int32) × (Nat → Int32))) (x4_1 : Int32) (mrom_2 : Int32) (mrow_3 : Nat → Int32) : Option (Int32 × Int32 × (Nat → Int32) × (Nat → Int32)) := (if (128 : Int32) ≤ x4_1 then gin (0 : Int32) 128 (lfp3 (X9_colours0_h69 mrom_2 mrow_3 p2) p3 (0 : Int32) (upd mint (0 : Int32).toNatClampNeg (-1 : Int32))) else bd1 (X9_isIn mnow p1 x4_1) (fun q40 => (if q40 = (0 : Int32) then r5 (x4_1 + (1 : Int32)) mrom_2 mrow_3 else gin mrom_2 128 (r5 (x4_1 + (1 : Int32)) (mrom_2 + (1 : Int32)) (upd mrow_3 mrom_2.toNatClampNeg x4_1)))))
noncomputable def X9_colours0 (mnow : Nat → Int32) (mrow : Nat → Int32) (mint : Nat → Int32) (p1 : Int32) (p2 : Int32) (p3 : Int32) : Option (Int32 × Int32 × (Nat → Int32) × (Nat → Int32)) := lfp3 (X9_colours0_h8 p2 p3 mint mnow p1) (0 : Int32) (0 : Int32) mrow
set_option maxHeartbeats 4000000 in
set_option maxRecDepth 20000 in
theorem X9_colours0_ok {p1 : Int32} {p2 : Int32} {p3 : Int32} {rr : Int32} {omrom : Int32} {omrow : Nat → Int32} {omint : Nat → Int32}  (hf : X9_colours0 mnow mrow mint p1 p2 p3 = some (rr, omrom, omrow, omint)) : MT yX9_colours0 cX9_colours0 8 (some .int) 2 [.ref (h 0), .int p1, .int p2, .int p3] D cy G (mw h cy mthr mfrp mact mtpd msiz matx mfrm mtok mval mfk mfpl mbem mtrs mtrl mrom mtom mnow mfre mkep mtap mlef mtak mbes mrow mint mrnd mplo mhio mtox mtol) (mw h cy mthr mfrp mact mtpd msiz matx mfrm mtok mval mfk mfpl mbem mtrs mtrl omrom mtom mnow mfre mkep mtap mlef mtak mbes omrow omint mrnd mplo mhio mtox mtol) (some (.int rr)) := by
  refine MT.go (own := RX9) [(0, .ref (h 0)), (1, .int p1), (2, .int p2), (3, .int p3)] (by decide) rfl (Nat.le_of_ble_eq_true rfl) rfl (fun p l e s m args below meth c A Q C hQ => ?_)
  unfold X9_colours0 at hf
  refine jAloadn C dX9_colours0_0 rfl 0 rfl ?_
  refine jIconst C (0 : Int32) dX9_colours0_1 ki_0 ?_
  refine pf_RX9_315 C dX9_colours0_2 ?_
  refine jIconst C (0 : Int32) dX9_colours0_5 ki_0 ?_
  refine jIstore C dX9_colours0_6 (Nat.le_of_ble_eq_true rfl) [(4, .int (0 : Int32)), (0, .ref (h 0)), (1, .int p1), (2, .int p2), (3, .int p3)] rfl ?_
  have hL4 : ∀ (x4_1 : Int32) (mrom_2 : Int32) (mrow_3 : Nat → Int32), lfp3 (X9_colours0_h8 p2 p3 mint mnow p1) x4_1 mrom_2 mrow_3 = some (rr, omrom, omrow, omint) → J p l e (rmk 2) s m args below meth c D A Q 8 (mw h cy mthr mfrp mact mtpd msiz matx mfrm mtok mval mfk mfpl mbem mtrs mtrl mrom_2 mtom mnow mfre mkep mtap mlef mtak mbes mrow_3 mint mrnd mplo mhio mtox mtol) 8 [(0, .ref (h 0)), (1, .int p1), (2, .int p2), (3, .int p3), (4, .int x4_1)] [] := by
    intro x4_1 mrom_2 mrow_3 hw
    refine lfp3_walk (P := fun x4_1 mrom_2 mrow_3 => J p l e (rmk 2) s m args below meth c D A Q 8 (mw h cy mthr mfrp mact mtpd msiz matx mfrm mtok mval mfk mfpl mbem mtrs mtrl mrom_2 mtom mnow mfre mkep mtap mlef mtak mbes mrow_3 mint mrnd mplo mhio mtox mtol) 8 [(0, .ref (h 0)), (1, .int p1), (2, .int p2), (3, .int p3), (4, .int x4_1)] []) ?_ hw
    intro r5 ir5 x4_1 mrom_2 mrow_3 hf
    unfold X9_colours0_h8 at hf
    refine jIload C dX9_colours0_8 4 rfl ?_
    refine jSipush C (128 : Int32) dX9_colours0_10 ks_128 ?_
    refine jCmpGe C 56 dX9_colours0_13 (by decide) (fun c6 => ?_) (fun c6 => ?_)
    · replace hf := itp hf c6
      refine jIloadn C dX9_colours0_56 rfl 3 rfl ?_
      refine jIstore C dX9_colours0_57 (Nat.le_of_ble_eq_true rfl) [(4, .int p3), (0, .ref (h 0)), (1, .int p1), (2, .int p2), (3, .int p3)] rfl ?_
      refine jIconst C (0 : Int32) dX9_colours0_59 ki_0 ?_
      refine jIstore C dX9_colours0_60 (Nat.le_of_ble_eq_true rfl) [(5, .int (0 : Int32)), (4, .int p3), (0, .ref (h 0)), (1, .int p1), (2, .int p2), (3, .int p3)] rfl ?_
      refine jAloadn C dX9_colours0_62 rfl 2 rfl ?_
      refine gf_RX9_40 C dX9_colours0_63 ?_
      refine jIconst C (0 : Int32) dX9_colours0_66 ki_0 ?_
      refine jIconst C (-1 : Int32) dX9_colours0_67 ki_m1 ?_
      obtain ⟨z7, hf⟩ := gin_some hf
      refine as_mint C z7 dX9_colours0_68 ?_
      have hL11 : ∀ (x4_8 : Int32) (x5_9 : Int32) (mint_10 : Nat → Int32), lfp3 (X9_colours0_h69 mrom_2 mrow_3 p2) x4_8 x5_9 mint_10 = some (rr, omrom, omrow, omint) → J p l e (rmk 2) s m args below meth c D A Q 8 (mw h cy mthr mfrp mact mtpd msiz matx mfrm mtok mval mfk mfpl mbem mtrs mtrl mrom_2 mtom mnow mfre mkep mtap mlef mtak mbes mrow_3 mint_10 mrnd mplo mhio mtox mtol) 69 [(0, .ref (h 0)), (2, .int p2), (4, .int x4_8), (5, .int x5_9)] [] := by
        intro x4_8 x5_9 mint_10 hw
        refine lfp3_walk (P := fun x4_8 x5_9 mint_10 => J p l e (rmk 2) s m args below meth c D A Q 8 (mw h cy mthr mfrp mact mtpd msiz matx mfrm mtok mval mfk mfpl mbem mtrs mtrl mrom_2 mtom mnow mfre mkep mtap mlef mtak mbes mrow_3 mint_10 mrnd mplo mhio mtox mtol) 69 [(0, .ref (h 0)), (2, .int p2), (4, .int x4_8), (5, .int x5_9)] []) ?_ hw
        intro r12 ir12 x4_8 x5_9 mint_10 hf
        unfold X9_colours0_h69 at hf
        refine jIload C dX9_colours0_69 3 rfl ?_
        refine jIfLt C 229 dX9_colours0_71 (by decide) (fun c13 => ?_) (fun c13 => ?_)
        · replace hf := itp hf c13
          refine jIload C dX9_colours0_229 3 rfl ?_
          refine jIfGe C 238 dX9_colours0_231 (by decide) (fun c14 => ?_) (fun c14 => ?_)
          · replace hf := itp hf c14
            refine jIconst C (1 : Int32) dX9_colours0_238 ki_1 ?_
            cases hf
            exact jEndI C hQ rfl dX9_colours0_239
          · replace hf := itn hf c14
            refine jIconst C (0 : Int32) dX9_colours0_234 ki_0 ?_
            refine jGoto C 239 dX9_colours0_235 (by decide) ?_
            cases hf
            exact jEndI C hQ rfl dX9_colours0_239
        · replace hf := itn hf c13
          refine jIload C dX9_colours0_74 3 rfl ?_
          refine jAloadn C dX9_colours0_76 rfl 0 rfl ?_
          refine gf_RX9_315 C dX9_colours0_77 ?_
          refine jCmpGe C 229 dX9_colours0_80 (by decide) (fun c15 => ?_) (fun c15 => ?_)
          · replace hf := itp hf c15
            refine jIload C dX9_colours0_229 3 rfl ?_
            refine jIfGe C 238 dX9_colours0_231 (by decide) (fun c16 => ?_) (fun c16 => ?_)
            · replace hf := itp hf c16
              refine jIconst C (1 : Int32) dX9_colours0_238 ki_1 ?_
              cases hf
              exact jEndI C hQ rfl dX9_colours0_239
            · replace hf := itn hf c16
              refine jIconst C (0 : Int32) dX9_colours0_234 ki_0 ?_
              refine jGoto C 239 dX9_colours0_235 (by decide) ?_
              cases hf
              exact jEndI C hQ rfl dX9_colours0_239
          · replace hf := itn hf c15
            refine jIconst C (0 : Int32) dX9_colours0_83 ki_0 ?_
            refine jIstore C dX9_colours0_84 (Nat.le_of_ble_eq_true rfl) [(6, .int (0 : Int32)), (0, .ref (h 0)), (2, .int p2), (4, .int x4_8), (5, .int x5_9)] rfl ?_
            refine jIconst C (0 : Int32) dX9_colours0_86 ki_0 ?_
            refine jIstore C dX9_colours0_87 (Nat.le_of_ble_eq_true rfl) [(7, .int (0 : Int32)), (6, .int (0 : Int32)), (0, .ref (h 0)), (2, .int p2), (4, .int x4_8), (5, .int x5_9)] rfl ?_
            have hL19 : ∀ (x6_17 : Int32) (x7_18 : Int32), lfp2 (X9_colours0_h89 x5_9 p2 r12 x4_8 mint_10 mrom_2 mrow_3) x6_17 x7_18 = some (rr, omrom, omrow, omint) → J p l e (rmk 2) s m args below meth c D A Q 8 (mw h cy mthr mfrp mact mtpd msiz matx mfrm mtok mval mfk mfpl mbem mtrs mtrl mrom_2 mtom mnow mfre mkep mtap mlef mtak mbes mrow_3 mint_10 mrnd mplo mhio mtox mtol) 89 [(0, .ref (h 0)), (2, .int p2), (4, .int x4_8), (5, .int x5_9), (6, .int x6_17), (7, .int x7_18)] [] := by
              intro x6_17 x7_18 hw
              refine lfp2_walk (P := fun x6_17 x7_18 => J p l e (rmk 2) s m args below meth c D A Q 8 (mw h cy mthr mfrp mact mtpd msiz matx mfrm mtok mval mfk mfpl mbem mtrs mtrl mrom_2 mtom mnow mfre mkep mtap mlef mtak mbes mrow_3 mint_10 mrnd mplo mhio mtox mtol) 89 [(0, .ref (h 0)), (2, .int p2), (4, .int x4_8), (5, .int x5_9), (6, .int x6_17), (7, .int x7_18)] []) ?_ hw
              intro r20 ir20 x6_17 x7_18 hf
              unfold X9_colours0_h89 at hf
              refine jIload C dX9_colours0_89 5 rfl ?_
              refine jIload C dX9_colours0_91 3 rfl ?_
              refine jCmpGe C 118 dX9_colours0_93 (by decide) (fun c21 => ?_) (fun c21 => ?_)
              · replace hf := itp hf c21
                refine jAloadn C dX9_colours0_118 rfl 0 rfl ?_
                refine gf_RX9_40 C dX9_colours0_119 ?_
                refine jIload C dX9_colours0_122 3 rfl ?_
                obtain ⟨z22, hf⟩ := gin_some hf
                refine al_mint C z22 dX9_colours0_124 ?_
                refine jIconst C (1 : Int32) dX9_colours0_125 ki_1 ?_
                refine jIadd C dX9_colours0_126 ?_
                refine jIstore C dX9_colours0_127 (Nat.le_of_ble_eq_true rfl) [(7, .int ((mint_10 x5_9.toNatClampNeg) + (1 : Int32))), (0, .ref (h 0)), (2, .int p2), (4, .int x4_8), (5, .int x5_9), (6, .int x6_17)] rfl ?_
                refine jAloadn C dX9_colours0_129 rfl 1 rfl ?_
                refine gf_RX9_40 C dX9_colours0_130 ?_
                refine jIload C dX9_colours0_133 4 rfl ?_
                refine jIconst C (-1 : Int32) dX9_colours0_135 ki_m1 ?_
                obtain ⟨z23, hf⟩ := gin_some hf
                refine as_mint C z23 dX9_colours0_136 ?_
                have hL25 : ∀ (x7_24 : Int32), lfp1 (X9_colours0_h137 p2 r12 x4_8 x5_9 mint_10 x6_17 mrom_2 mrow_3) x7_24 = some (rr, omrom, omrow, omint) → J p l e (rmk 2) s m args below meth c D A Q 8 (mw h cy mthr mfrp mact mtpd msiz matx mfrm mtok mval mfk mfpl mbem mtrs mtrl mrom_2 mtom mnow mfre mkep mtap mlef mtak mbes mrow_3 (upd mint_10 x5_9.toNatClampNeg (-1 : Int32)) mrnd mplo mhio mtox mtol) 137 [(0, .ref (h 0)), (2, .int p2), (4, .int x4_8), (5, .int x5_9), (6, .int x6_17), (7, .int x7_24)] [] := by
                  intro x7_24 hw
                  refine lfp1_walk (P := fun x7_24 => J p l e (rmk 2) s m args below meth c D A Q 8 (mw h cy mthr mfrp mact mtpd msiz matx mfrm mtok mval mfk mfpl mbem mtrs mtrl mrom_2 mtom mnow mfre mkep mtap mlef mtak mbes mrow_3 (upd mint_10 x5_9.toNatClampNeg (-1 : Int32)) mrnd mplo mhio mtox mtol) 137 [(0, .ref (h 0)), (2, .int p2), (4, .int x4_8), (5, .int x5_9), (6, .int x6_17), (7, .int x7_24)] []) ?_ hw
                  intro r26 ir26 x7_24 hf
                  unfold X9_colours0_h137 at hf
                  refine jIload C dX9_colours0_137 5 rfl ?_
                  refine jIloadn C dX9_colours0_139 rfl 1 rfl ?_
                  have hL27 : X9_colours0_j167 p2 x7_24 r12 x4_8 x5_9 mint_10 x6_17 mrom_2 mrow_3  = some (rr, omrom, omrow, omint) → J p l e (rmk 2) s m args below meth c D A Q 8 (mw h cy mthr mfrp mact mtpd msiz matx mfrm mtok mval mfk mfpl mbem mtrs mtrl mrom_2 mtom mnow mfre mkep mtap mlef mtak mbes mrow_3 (upd mint_10 x5_9.toNatClampNeg (-1 : Int32)) mrnd mplo mhio mtox mtol) 167 [(0, .ref (h 0)), (2, .int p2), (4, .int x4_8), (5, .int x5_9), (6, .int x6_17), (7, .int x7_24)] [] := by
                    intro  hf
                    unfold X9_colours0_j167 at hf
                    refine jIload C dX9_colours0_167 5 rfl ?_
                    refine jIloadn C dX9_colours0_169 rfl 1 rfl ?_
                    refine jCmpGe C 180 dX9_colours0_170 (by decide) (fun c28 => ?_) (fun c28 => ?_)
                    · replace hf := itp hf c28
                      refine jIinc C (x5_9 + (-1 : Int32)) dX9_colours0_180 3 rfl (congrArg (fun z : Int32 => x5_9 + z) ki_m1) (Nat.le_of_ble_eq_true rfl) [(5, .int (x5_9 + (-1 : Int32))), (0, .ref (h 0)), (2, .int p2), (4, .int x4_8), (6, .int x6_17), (7, .int x7_24)] rfl ?_
                      refine jGoto C 69 dX9_colours0_183 (by decide) ?_
                      refine jSub [1, 2, 3, 0] rfl ?_
                      exact ir12 x4_8 (x5_9 + (-1 : Int32)) (upd mint_10 x5_9.toNatClampNeg (-1 : Int32)) hf
                    · replace hf := itn hf c28
                      refine jIload C dX9_colours0_173 5 rfl ?_
                      refine jIload C dX9_colours0_175 4 rfl ?_
                      refine jCmpLe C 186 dX9_colours0_177 (by decide) (fun c29 => ?_) (fun c29 => ?_)
                      · replace hf := itp hf c29
                        refine jIload C dX9_colours0_186 2 rfl ?_
                        refine jIfNe C 194 dX9_colours0_188 (by decide) (fun c30 => ?_) (fun c30 => ?_)
                        · replace hf := itn hf c30
                          refine jIinc C (x4_8 + (-1 : Int32)) dX9_colours0_194 2 rfl (congrArg (fun z : Int32 => x4_8 + z) ki_m1) (Nat.le_of_ble_eq_true rfl) [(4, .int (x4_8 + (-1 : Int32))), (0, .ref (h 0)), (2, .int p2), (5, .int x5_9), (6, .int x6_17), (7, .int x7_24)] rfl ?_
                          refine jAloadn C dX9_colours0_197 rfl 1 rfl ?_
                          refine gf_RX9_40 C dX9_colours0_198 ?_
                          refine jIload C dX9_colours0_201 3 rfl ?_
                          refine jIload C dX9_colours0_203 5 rfl ?_
                          obtain ⟨z31, hf⟩ := gin_some hf
                          refine as_mint C z31 dX9_colours0_205 ?_
                          refine jIinc C (x5_9 + (1 : Int32)) dX9_colours0_206 3 rfl (congrArg (fun z : Int32 => x5_9 + z) ki_1) (Nat.le_of_ble_eq_true rfl) [(5, .int (x5_9 + (1 : Int32))), (4, .int (x4_8 + (-1 : Int32))), (0, .ref (h 0)), (2, .int p2), (6, .int x6_17), (7, .int x7_24)] rfl ?_
                          refine jIload C dX9_colours0_209 0 rfl ?_
                          refine jAloadn C dX9_colours0_211 rfl 2 rfl ?_
                          refine gf_RX9_315 C dX9_colours0_212 ?_
                          refine jCmpGe C 226 dX9_colours0_215 (by decide) (fun c32 => ?_) (fun c32 => ?_)
                          · replace hf := itp hf c32
                            refine jGoto C 69 dX9_colours0_226 (by decide) ?_
                            refine jSub [2, 3, 1, 0] rfl ?_
                            exact ir12 (x4_8 + (-1 : Int32)) (x5_9 + (1 : Int32)) (upd (upd mint_10 x5_9.toNatClampNeg (-1 : Int32)) x5_9.toNatClampNeg x7_24) hf
                          · replace hf := itn hf c32
                            refine jAloadn C dX9_colours0_218 rfl 2 rfl ?_
                            refine gf_RX9_40 C dX9_colours0_219 ?_
                            refine jIload C dX9_colours0_222 0 rfl ?_
                            refine jIconst C (-1 : Int32) dX9_colours0_224 ki_m1 ?_
                            obtain ⟨z33, hf⟩ := gin_some hf
                            refine as_mint C z33 dX9_colours0_225 ?_
                            refine jGoto C 69 dX9_colours0_226 (by decide) ?_
                            refine jSub [2, 3, 1, 0] rfl ?_
                            exact ir12 (x4_8 + (-1 : Int32)) (x5_9 + (1 : Int32)) (upd (upd (upd mint_10 x5_9.toNatClampNeg (-1 : Int32)) x5_9.toNatClampNeg x7_24) (x5_9 + (1 : Int32)).toNatClampNeg (-1 : Int32)) hf
                        · replace hf := itp hf c30
                          refine jBipush C (-3 : Int32) dX9_colours0_191 kb_m3 ?_
                          cases hf
                          exact jEndI C hQ rfl dX9_colours0_193
                      · replace hf := itn hf c29
                        refine jIinc C (x5_9 + (-1 : Int32)) dX9_colours0_180 3 rfl (congrArg (fun z : Int32 => x5_9 + z) ki_m1) (Nat.le_of_ble_eq_true rfl) [(5, .int (x5_9 + (-1 : Int32))), (0, .ref (h 0)), (2, .int p2), (4, .int x4_8), (6, .int x6_17), (7, .int x7_24)] rfl ?_
                        refine jGoto C 69 dX9_colours0_183 (by decide) ?_
                        refine jSub [1, 2, 3, 0] rfl ?_
                        exact ir12 x4_8 (x5_9 + (-1 : Int32)) (upd mint_10 x5_9.toNatClampNeg (-1 : Int32)) hf
                  refine jCmpGe C 167 dX9_colours0_140 (by decide) (fun c34 => ?_) (fun c34 => ?_)
                  · replace hf := itp hf c34
                    exact hL27  hf
                  · replace hf := itn hf c34
                    refine jIload C dX9_colours0_143 5 rfl ?_
                    refine jIload C dX9_colours0_145 4 rfl ?_
                    refine jCmpGt C 167 dX9_colours0_147 (by decide) (fun c35 => ?_) (fun c35 => ?_)
                    · replace hf := itp hf c35
                      exact hL27  hf
                    · replace hf := itn hf c35
                      refine jAloadn C dX9_colours0_150 rfl 0 rfl ?_
                      refine jIload C dX9_colours0_151 3 rfl ?_
                      refine jIload C dX9_colours0_153 5 rfl ?_
                      obtain ⟨q36, e37, hf⟩ := bd1_some hf
                      refine jVI C (X9_canBe_ok  e37) vb_X9_canBe mk_RX9_318 rfl rcM ⟨Nat.le_of_ble_eq_true rfl, Nat.le_of_ble_eq_true rfl⟩ rfl (Nat.le_of_ble_eq_true rfl) dX9_colours0_155 ?_
                      refine jIfNe C 167 dX9_colours0_158 (by decide) (fun c38 => ?_) (fun c38 => ?_)
                      · replace hf := itn hf c38
                        exact hL27  hf
                      · replace hf := itp hf c38
                        refine jIinc C (x7_24 + (1 : Int32)) dX9_colours0_161 5 rfl (congrArg (fun z : Int32 => x7_24 + z) ki_1) (Nat.le_of_ble_eq_true rfl) [(7, .int (x7_24 + (1 : Int32))), (0, .ref (h 0)), (2, .int p2), (4, .int x4_8), (5, .int x5_9), (6, .int x6_17)] rfl ?_
                        refine jGoto C 137 dX9_colours0_164 (by decide) ?_
                        refine jSub [1, 2, 3, 4, 5, 0] rfl ?_
                        exact ir26 (x7_24 + (1 : Int32)) hf
                refine jSub [1, 2, 3, 4, 5, 0] rfl ?_
                exact hL25 ((mint_10 x5_9.toNatClampNeg) + (1 : Int32)) hf
              · replace hf := itn hf c21
                refine jIload C dX9_colours0_96 4 rfl ?_
                refine jAloadn C dX9_colours0_98 rfl 0 rfl ?_
                refine gf_RX9_40 C dX9_colours0_99 ?_
                refine jIload C dX9_colours0_102 5 rfl ?_
                obtain ⟨z39, hf⟩ := gin_some hf
                refine al_mint C z39 dX9_colours0_104 ?_
                refine jIconst C (1 : Int32) dX9_colours0_105 ki_1 ?_
                refine jIadd C dX9_colours0_106 ?_
                refine jMax C mk_RX9_201 ⟨Nat.le_of_ble_eq_true rfl, Nat.le_of_ble_eq_true rfl⟩ dX9_colours0_107 ?_
                refine jIstore C dX9_colours0_110 (Nat.le_of_ble_eq_true rfl) [(6, .int (imax x6_17 ((mint_10 x7_18.toNatClampNeg) + (1 : Int32)))), (0, .ref (h 0)), (2, .int p2), (4, .int x4_8), (5, .int x5_9), (7, .int x7_18)] rfl ?_
                refine jIinc C (x7_18 + (1 : Int32)) dX9_colours0_112 5 rfl (congrArg (fun z : Int32 => x7_18 + z) ki_1) (Nat.le_of_ble_eq_true rfl) [(7, .int (x7_18 + (1 : Int32))), (6, .int (imax x6_17 ((mint_10 x7_18.toNatClampNeg) + (1 : Int32)))), (0, .ref (h 0)), (2, .int p2), (4, .int x4_8), (5, .int x5_9)] rfl ?_
                refine jGoto C 89 dX9_colours0_115 (by decide) ?_
                refine jSub [2, 3, 4, 5, 1, 0] rfl ?_
                exact ir20 (imax x6_17 ((mint_10 x7_18.toNatClampNeg) + (1 : Int32))) (x7_18 + (1 : Int32)) hf
            refine jSub [2, 3, 4, 5, 1, 0] rfl ?_
            exact hL19 (0 : Int32) (0 : Int32) hf
      refine jSub [2, 4, 1, 0] rfl ?_
      exact hL11 p3 (0 : Int32) (upd mint (0 : Int32).toNatClampNeg (-1 : Int32)) hf
    · replace hf := itn hf c6
      refine jAloadn C dX9_colours0_16 rfl 0 rfl ?_
      refine jIloadn C dX9_colours0_17 rfl 1 rfl ?_
      refine jIload C dX9_colours0_18 4 rfl ?_
      obtain ⟨q40, e41, hf⟩ := bd1_some hf
      refine jVI C (X9_isIn_ok  e41) vb_X9_isIn mk_RX9_81 rfl rcM ⟨Nat.le_of_ble_eq_true rfl, Nat.le_of_ble_eq_true rfl⟩ rfl (Nat.le_of_ble_eq_true rfl) dX9_colours0_20 ?_
      refine jIfNe C 29 dX9_colours0_23 (by decide) (fun c42 => ?_) (fun c42 => ?_)
      · replace hf := itn hf c42
        refine jAloadn C dX9_colours0_29 rfl 0 rfl ?_
        refine gf_RX9_37 C dX9_colours0_30 ?_
        refine jAloadn C dX9_colours0_33 rfl 0 rfl ?_
        refine gf_RX9_315 C dX9_colours0_34 ?_
        refine jIload C dX9_colours0_37 4 rfl ?_
        obtain ⟨z43, hf⟩ := gin_some hf
        refine as_mrow C z43 dX9_colours0_39 ?_
        refine jAloadn C dX9_colours0_40 rfl 0 rfl ?_
        refine jDup C dX9_colours0_41 rfl ?_
        refine gf_RX9_315 C dX9_colours0_42 ?_
        refine jIconst C (1 : Int32) dX9_colours0_45 ki_1 ?_
        refine jIadd C dX9_colours0_46 ?_
        refine pf_RX9_315 C dX9_colours0_47 ?_
        refine jIinc C (x4_1 + (1 : Int32)) dX9_colours0_50 4 rfl (congrArg (fun z : Int32 => x4_1 + z) ki_1) (Nat.le_of_ble_eq_true rfl) [(4, .int (x4_1 + (1 : Int32))), (0, .ref (h 0)), (1, .int p1), (2, .int p2), (3, .int p3)] rfl ?_
        refine jGoto C 8 dX9_colours0_53 (by decide) ?_
        refine jSub [1, 2, 3, 4, 0] rfl ?_
        exact ir5 (x4_1 + (1 : Int32)) (mrom_2 + (1 : Int32)) (upd mrow_3 mrom_2.toNatClampNeg x4_1) hf
      · replace hf := itp hf c42
        refine jGoto C 50 dX9_colours0_26 (by decide) ?_
        refine jIinc C (x4_1 + (1 : Int32)) dX9_colours0_50 4 rfl (congrArg (fun z : Int32 => x4_1 + z) ki_1) (Nat.le_of_ble_eq_true rfl) [(4, .int (x4_1 + (1 : Int32))), (0, .ref (h 0)), (1, .int p1), (2, .int p2), (3, .int p3)] rfl ?_
        refine jGoto C 8 dX9_colours0_53 (by decide) ?_
        refine jSub [1, 2, 3, 4, 0] rfl ?_
        exact ir5 (x4_1 + (1 : Int32)) mrom_2 mrow_3 hf
  refine jSub [1, 2, 3, 4, 0] rfl ?_
  exact hL4 (0 : Int32) (0 : Int32) mrow hf
noncomputable def X9_colours_h56 (mnow : Nat → Int32) (p1 : Int32) (p2 : Int32) (r24 : Int32 → Int32 → Int32 → (Nat → Int32) → (Nat → Int32) → Option (Int32 × Int32 × (Nat → Int32) × (Nat → Int32))) (x3_18 : Int32) (x4_19 : Int32) (mrom_20 : Int32) (mrow_21 : Nat → Int32) (mint_22 : Nat → Int32) : Option (Int32 × Int32 × (Nat → Int32) × (Nat → Int32)) := (if x4_19 = (0 : Int32) then bd4 (X9_colours0 mnow mrow_21 mint_22 p1 (x3_18 + (1 : Int32)) p2) (fun q27 mrom_28 mrow_29 mint_30 => r24 (x3_18 + (1 : Int32)) q27 mrom_28 mrow_29 mint_30) else (if x4_19 = (-3 : Int32) then some ((-3 : Int32), mrom_20, mrow_21, mint_22) else some (x3_18, mrom_20, mrow_21, mint_22)))
noncomputable def X9_colours (mrom : Int32) (mnow : Nat → Int32) (mrow : Nat → Int32) (mint : Nat → Int32) (p1 : Int32) (p2 : Int32) : Option (Int32 × Int32 × (Nat → Int32) × (Nat → Int32)) := bd1 (X9_hasOne mnow p1) (fun q1 => (if q1 = (0 : Int32) then some ((-2 : Int32), mrom, mrow, mint) else bd1 (X9_in (p2.toInt64) (1 : Int64) (50000 : Int64)) (fun q4 => (if q4 = (0 : Int32) then some ((-2 : Int32), mrom, mrow, mint) else bd1 (X9_isIn mnow p1 (0 : Int32)) (fun q7 => (if q7 = (0 : Int32) then bd1 (X9_many mnow p1) (fun q10 => (if q10 = (0 : Int32) then some ((0 : Int32), mrom, mrow, mint) else bd4 (X9_colours0 mnow mrow mint p1 (1 : Int32) p2) (fun q13 mrom_14 mrow_15 mint_16 => lfp5 (X9_colours_h56 mnow p1 p2) (1 : Int32) q13 mrom_14 mrow_15 mint_16))) else some ((-6 : Int32), mrom, mrow, mint)))))))
set_option maxHeartbeats 4000000 in
set_option maxRecDepth 20000 in
theorem X9_colours_ok {p1 : Int32} {p2 : Int32} {rr : Int32} {omrom : Int32} {omrow : Nat → Int32} {omint : Nat → Int32}  (hf : X9_colours mrom mnow mrow mint p1 p2 = some (rr, omrom, omrow, omint)) : MT yX9_colours cX9_colours 5 (some .int) 3 [.ref (h 0), .int p1, .int p2] D cy G (mw h cy mthr mfrp mact mtpd msiz matx mfrm mtok mval mfk mfpl mbem mtrs mtrl mrom mtom mnow mfre mkep mtap mlef mtak mbes mrow mint mrnd mplo mhio mtox mtol) (mw h cy mthr mfrp mact mtpd msiz matx mfrm mtok mval mfk mfpl mbem mtrs mtrl omrom mtom mnow mfre mkep mtap mlef mtak mbes omrow omint mrnd mplo mhio mtox mtol) (some (.int rr)) := by
  refine MT.go (own := RX9) [(0, .ref (h 0)), (1, .int p1), (2, .int p2)] (by decide) rfl (Nat.le_of_ble_eq_true rfl) rfl (fun p l e s m args below meth c A Q C hQ => ?_)
  unfold X9_colours at hf
  refine jAloadn C dX9_colours_0 rfl 0 rfl ?_
  refine jIloadn C dX9_colours_1 rfl 1 rfl ?_
  obtain ⟨q1, e2, hf⟩ := bd1_some hf
  refine jVI C (X9_hasOne_ok  e2) vb_X9_hasOne mk_RX9_75 rfl rcM ⟨Nat.le_of_ble_eq_true rfl, Nat.le_of_ble_eq_true rfl⟩ rfl (Nat.le_of_ble_eq_true rfl) dX9_colours_2 ?_
  refine jIfEq C 20 dX9_colours_5 (by decide) (fun c3 => ?_) (fun c3 => ?_)
  · replace hf := itp hf c3
    refine jBipush C (-2 : Int32) dX9_colours_20 kb_m2 ?_
    cases hf
    exact jEndI C hQ rfl dX9_colours_22
  · replace hf := itn hf c3
    refine jIloadn C dX9_colours_8 rfl 2 rfl ?_
    refine jI2l C dX9_colours_9 ?_
    refine jLconst C (1 : Int64) dX9_colours_10 rfl ?_
    refine jLdc2 C (x := (50000 : Int64)) lk_RX9_310 dX9_colours_11 ?_
    obtain ⟨q4, e5, hf⟩ := bd1_some hf
    refine jSI C (X9_in_ok  e5) sb_X9_in mk_RX9_63 rfl ⟨Nat.le_of_ble_eq_true rfl, Nat.le_of_ble_eq_true rfl⟩ rfl (Nat.le_of_ble_eq_true rfl) dX9_colours_14 ?_
    refine jIfNe C 23 dX9_colours_17 (by decide) (fun c6 => ?_) (fun c6 => ?_)
    · replace hf := itn hf c6
      refine jAloadn C dX9_colours_23 rfl 0 rfl ?_
      refine jIloadn C dX9_colours_24 rfl 1 rfl ?_
      refine jIconst C (0 : Int32) dX9_colours_25 ki_0 ?_
      obtain ⟨q7, e8, hf⟩ := bd1_some hf
      refine jVI C (X9_isIn_ok  e8) vb_X9_isIn mk_RX9_81 rfl rcM ⟨Nat.le_of_ble_eq_true rfl, Nat.le_of_ble_eq_true rfl⟩ rfl (Nat.le_of_ble_eq_true rfl) dX9_colours_26 ?_
      refine jIfEq C 35 dX9_colours_29 (by decide) (fun c9 => ?_) (fun c9 => ?_)
      · replace hf := itp hf c9
        refine jAloadn C dX9_colours_35 rfl 0 rfl ?_
        refine jIloadn C dX9_colours_36 rfl 1 rfl ?_
        obtain ⟨q10, e11, hf⟩ := bd1_some hf
        refine jVI C (X9_many_ok  e11) vb_X9_many mk_RX9_97 rfl rcM ⟨Nat.le_of_ble_eq_true rfl, Nat.le_of_ble_eq_true rfl⟩ rfl (Nat.le_of_ble_eq_true rfl) dX9_colours_37 ?_
        refine jIfNe C 45 dX9_colours_40 (by decide) (fun c12 => ?_) (fun c12 => ?_)
        · replace hf := itn hf c12
          refine jIconst C (1 : Int32) dX9_colours_45 ki_1 ?_
          refine jIstoren C dX9_colours_46 rfl (Nat.le_of_ble_eq_true rfl) [(3, .int (1 : Int32)), (0, .ref (h 0)), (1, .int p1), (2, .int p2)] rfl ?_
          refine jAloadn C dX9_colours_47 rfl 1 rfl ?_
          refine jIloadn C dX9_colours_48 rfl 2 rfl ?_
          refine jIloadn C dX9_colours_49 rfl 0 rfl ?_
          refine jIloadn C dX9_colours_50 rfl 3 rfl ?_
          obtain ⟨q13, mrom_14, mrow_15, mint_16, e17, hf⟩ := bd4_some hf
          refine jVI C (X9_colours0_ok  e17) vb_X9_colours0 mk_RX9_321 rfl rcM ⟨Nat.le_of_ble_eq_true rfl, Nat.le_of_ble_eq_true rfl⟩ rfl (Nat.le_of_ble_eq_true rfl) dX9_colours_51 ?_
          refine jIstore C dX9_colours_54 (Nat.le_of_ble_eq_true rfl) [(4, .int q13), (3, .int (1 : Int32)), (0, .ref (h 0)), (1, .int p1), (2, .int p2)] rfl ?_
          have hL23 : ∀ (x3_18 : Int32) (x4_19 : Int32) (mrom_20 : Int32) (mrow_21 : Nat → Int32) (mint_22 : Nat → Int32), lfp5 (X9_colours_h56 mnow p1 p2) x3_18 x4_19 mrom_20 mrow_21 mint_22 = some (rr, omrom, omrow, omint) → J p l e (rmk 3) s m args below meth c D A Q 5 (mw h cy mthr mfrp mact mtpd msiz matx mfrm mtok mval mfk mfpl mbem mtrs mtrl mrom_20 mtom mnow mfre mkep mtap mlef mtak mbes mrow_21 mint_22 mrnd mplo mhio mtox mtol) 56 [(0, .ref (h 0)), (1, .int p1), (2, .int p2), (3, .int x3_18), (4, .int x4_19)] [] := by
            intro x3_18 x4_19 mrom_20 mrow_21 mint_22 hw
            refine lfp5_walk (P := fun x3_18 x4_19 mrom_20 mrow_21 mint_22 => J p l e (rmk 3) s m args below meth c D A Q 5 (mw h cy mthr mfrp mact mtpd msiz matx mfrm mtok mval mfk mfpl mbem mtrs mtrl mrom_20 mtom mnow mfre mkep mtap mlef mtak mbes mrow_21 mint_22 mrnd mplo mhio mtox mtol) 56 [(0, .ref (h 0)), (1, .int p1), (2, .int p2), (3, .int x3_18), (4, .int x4_19)] []) ?_ hw
            intro r24 ir24 x3_18 x4_19 mrom_20 mrow_21 mint_22 hf
            unfold X9_colours_h56 at hf
            refine jIload C dX9_colours_56 4 rfl ?_
            refine jIfNe C 76 dX9_colours_58 (by decide) (fun c25 => ?_) (fun c25 => ?_)
            · replace hf := itn hf c25
              refine jIload C dX9_colours_76 4 rfl ?_
              refine jBipush C (-3 : Int32) dX9_colours_78 kb_m3 ?_
              refine jCmpNe C 88 dX9_colours_80 (by decide) (fun c26 => ?_) (fun c26 => ?_)
              · replace hf := itn hf c26
                refine jIloadn C dX9_colours_88 rfl 3 rfl ?_
                cases hf
                exact jEndI C hQ rfl dX9_colours_89
              · replace hf := itp hf c26
                refine jBipush C (-3 : Int32) dX9_colours_83 kb_m3 ?_
                refine jGoto C 89 dX9_colours_85 (by decide) ?_
                cases hf
                exact jEndI C hQ rfl dX9_colours_89
            · replace hf := itp hf c25
              refine jIinc C (x3_18 + (1 : Int32)) dX9_colours_61 3 rfl (congrArg (fun z : Int32 => x3_18 + z) ki_1) (Nat.le_of_ble_eq_true rfl) [(3, .int (x3_18 + (1 : Int32))), (0, .ref (h 0)), (1, .int p1), (2, .int p2), (4, .int x4_19)] rfl ?_
              refine jAloadn C dX9_colours_64 rfl 1 rfl ?_
              refine jIloadn C dX9_colours_65 rfl 2 rfl ?_
              refine jIloadn C dX9_colours_66 rfl 0 rfl ?_
              refine jIloadn C dX9_colours_67 rfl 3 rfl ?_
              obtain ⟨q27, mrom_28, mrow_29, mint_30, e31, hf⟩ := bd4_some hf
              refine jVI C (X9_colours0_ok  e31) vb_X9_colours0 mk_RX9_321 rfl rcM ⟨Nat.le_of_ble_eq_true rfl, Nat.le_of_ble_eq_true rfl⟩ rfl (Nat.le_of_ble_eq_true rfl) dX9_colours_68 ?_
              refine jIstore C dX9_colours_71 (Nat.le_of_ble_eq_true rfl) [(4, .int q27), (3, .int (x3_18 + (1 : Int32))), (0, .ref (h 0)), (1, .int p1), (2, .int p2)] rfl ?_
              refine jGoto C 56 dX9_colours_73 (by decide) ?_
              refine jSub [2, 3, 4, 1, 0] rfl ?_
              exact ir24 (x3_18 + (1 : Int32)) q27 mrom_28 mrow_29 mint_30 hf
          refine jSub [2, 3, 4, 1, 0] rfl ?_
          exact hL23 (1 : Int32) q13 mrom_14 mrow_15 mint_16 hf
        · replace hf := itp hf c12
          refine jIconst C (0 : Int32) dX9_colours_43 ki_0 ?_
          cases hf
          exact jEndI C hQ rfl dX9_colours_44
      · replace hf := itn hf c9
        refine jBipush C (-6 : Int32) dX9_colours_32 kb_m6 ?_
        cases hf
        exact jEndI C hQ rfl dX9_colours_34
    · replace hf := itp hf c6
      refine jBipush C (-2 : Int32) dX9_colours_20 kb_m2 ?_
      cases hf
      exact jEndI C hQ rfl dX9_colours_22
noncomputable def X9_colour (mrom : Int32) (mnow : Nat → Int32) (mrow : Nat → Int32) (mint : Nat → Int32) (p1 : Int32) (p2 : Int32) (p3 : Int32) (p4 : Int32) : Option (Int32 × Int32 × (Nat → Int32) × (Nat → Int32)) := bd1 (X9_hasOne mnow p1) (fun q1 => (if q1 = (0 : Int32) then some ((-2 : Int32), mrom, mrow, mint) else bd1 (X9_in (p2.toInt64) (1 : Int64) (7 : Int64)) (fun q4 => (if q4 = (0 : Int32) then some ((-2 : Int32), mrom, mrow, mint) else bd1 (X9_in (p3.toInt64) (1 : Int64) (50000 : Int64)) (fun q7 => (if q7 = (0 : Int32) then some ((-2 : Int32), mrom, mrow, mint) else (if (0 : Int32) ≤ p4 then bd1 (X9_isIn mnow p1 (0 : Int32)) (fun q11 => (if q11 = (0 : Int32) then bd1 (X9_many mnow p1) (fun q14 => (if p4 < q14 then bd4 (X9_colours0 mnow mrow mint p1 p2 p3) (fun q17 mrom_18 mrow_19 mint_20 => (if q17 = (-3 : Int32) then some ((-3 : Int32), mrom_18, mrow_19, mint_20) else (if q17 = (0 : Int32) then some ((-1 : Int32), mrom_18, mrow_19, mint_20) else gin p4 128 (some ((mint_20 p4.toNatClampNeg), mrom_18, mrow_19, mint_20))))) else some ((-1 : Int32), mrom, mrow, mint))) else some ((-6 : Int32), mrom, mrow, mint))) else some ((-2 : Int32), mrom, mrow, mint))))))))
set_option maxHeartbeats 4000000 in
set_option maxRecDepth 20000 in
theorem X9_colour_ok {p1 : Int32} {p2 : Int32} {p3 : Int32} {p4 : Int32} {rr : Int32} {omrom : Int32} {omrow : Nat → Int32} {omint : Nat → Int32}  (hf : X9_colour mrom mnow mrow mint p1 p2 p3 p4 = some (rr, omrom, omrow, omint)) : MT yX9_colour cX9_colour 6 (some .int) 3 [.ref (h 0), .int p1, .int p2, .int p3, .int p4] D cy G (mw h cy mthr mfrp mact mtpd msiz matx mfrm mtok mval mfk mfpl mbem mtrs mtrl mrom mtom mnow mfre mkep mtap mlef mtak mbes mrow mint mrnd mplo mhio mtox mtol) (mw h cy mthr mfrp mact mtpd msiz matx mfrm mtok mval mfk mfpl mbem mtrs mtrl omrom mtom mnow mfre mkep mtap mlef mtak mbes omrow omint mrnd mplo mhio mtox mtol) (some (.int rr)) := by
  refine MT.go (own := RX9) [(0, .ref (h 0)), (1, .int p1), (2, .int p2), (3, .int p3), (4, .int p4)] (by decide) rfl (Nat.le_of_ble_eq_true rfl) rfl (fun p l e s m args below meth c A Q C hQ => ?_)
  unfold X9_colour at hf
  refine jAloadn C dX9_colour_0 rfl 0 rfl ?_
  refine jIloadn C dX9_colour_1 rfl 1 rfl ?_
  obtain ⟨q1, e2, hf⟩ := bd1_some hf
  refine jVI C (X9_hasOne_ok  e2) vb_X9_hasOne mk_RX9_75 rfl rcM ⟨Nat.le_of_ble_eq_true rfl, Nat.le_of_ble_eq_true rfl⟩ rfl (Nat.le_of_ble_eq_true rfl) dX9_colour_2 ?_
  refine jIfEq C 37 dX9_colour_5 (by decide) (fun c3 => ?_) (fun c3 => ?_)
  · replace hf := itp hf c3
    refine jBipush C (-2 : Int32) dX9_colour_37 kb_m2 ?_
    cases hf
    exact jEndI C hQ rfl dX9_colour_39
  · replace hf := itn hf c3
    refine jIloadn C dX9_colour_8 rfl 2 rfl ?_
    refine jI2l C dX9_colour_9 ?_
    refine jLconst C (1 : Int64) dX9_colour_10 rfl ?_
    refine jLdc2 C (x := (7 : Int64)) lk_RX9_174 dX9_colour_11 ?_
    obtain ⟨q4, e5, hf⟩ := bd1_some hf
    refine jSI C (X9_in_ok  e5) sb_X9_in mk_RX9_63 rfl ⟨Nat.le_of_ble_eq_true rfl, Nat.le_of_ble_eq_true rfl⟩ rfl (Nat.le_of_ble_eq_true rfl) dX9_colour_14 ?_
    refine jIfEq C 37 dX9_colour_17 (by decide) (fun c6 => ?_) (fun c6 => ?_)
    · replace hf := itp hf c6
      refine jBipush C (-2 : Int32) dX9_colour_37 kb_m2 ?_
      cases hf
      exact jEndI C hQ rfl dX9_colour_39
    · replace hf := itn hf c6
      refine jIloadn C dX9_colour_20 rfl 3 rfl ?_
      refine jI2l C dX9_colour_21 ?_
      refine jLconst C (1 : Int64) dX9_colour_22 rfl ?_
      refine jLdc2 C (x := (50000 : Int64)) lk_RX9_310 dX9_colour_23 ?_
      obtain ⟨q7, e8, hf⟩ := bd1_some hf
      refine jSI C (X9_in_ok  e8) sb_X9_in mk_RX9_63 rfl ⟨Nat.le_of_ble_eq_true rfl, Nat.le_of_ble_eq_true rfl⟩ rfl (Nat.le_of_ble_eq_true rfl) dX9_colour_26 ?_
      refine jIfEq C 37 dX9_colour_29 (by decide) (fun c9 => ?_) (fun c9 => ?_)
      · replace hf := itp hf c9
        refine jBipush C (-2 : Int32) dX9_colour_37 kb_m2 ?_
        cases hf
        exact jEndI C hQ rfl dX9_colour_39
      · replace hf := itn hf c9
        refine jIload C dX9_colour_32 4 rfl ?_
        refine jIfGe C 40 dX9_colour_34 (by decide) (fun c10 => ?_) (fun c10 => ?_)
        · replace hf := itp hf c10
          refine jAloadn C dX9_colour_40 rfl 0 rfl ?_
          refine jIloadn C dX9_colour_41 rfl 1 rfl ?_
          refine jIconst C (0 : Int32) dX9_colour_42 ki_0 ?_
          obtain ⟨q11, e12, hf⟩ := bd1_some hf
          refine jVI C (X9_isIn_ok  e12) vb_X9_isIn mk_RX9_81 rfl rcM ⟨Nat.le_of_ble_eq_true rfl, Nat.le_of_ble_eq_true rfl⟩ rfl (Nat.le_of_ble_eq_true rfl) dX9_colour_43 ?_
          refine jIfEq C 52 dX9_colour_46 (by decide) (fun c13 => ?_) (fun c13 => ?_)
          · replace hf := itp hf c13
            refine jIload C dX9_colour_52 4 rfl ?_
            refine jAloadn C dX9_colour_54 rfl 0 rfl ?_
            refine jIloadn C dX9_colour_55 rfl 1 rfl ?_
            obtain ⟨q14, e15, hf⟩ := bd1_some hf
            refine jVI C (X9_many_ok  e15) vb_X9_many mk_RX9_97 rfl rcM ⟨Nat.le_of_ble_eq_true rfl, Nat.le_of_ble_eq_true rfl⟩ rfl (Nat.le_of_ble_eq_true rfl) dX9_colour_56 ?_
            refine jCmpLt C 64 dX9_colour_59 (by decide) (fun c16 => ?_) (fun c16 => ?_)
            · replace hf := itp hf c16
              refine jAloadn C dX9_colour_64 rfl 0 rfl ?_
              refine jIloadn C dX9_colour_65 rfl 1 rfl ?_
              refine jIloadn C dX9_colour_66 rfl 2 rfl ?_
              refine jIloadn C dX9_colour_67 rfl 3 rfl ?_
              obtain ⟨q17, mrom_18, mrow_19, mint_20, e21, hf⟩ := bd4_some hf
              refine jVI C (X9_colours0_ok  e21) vb_X9_colours0 mk_RX9_321 rfl rcM ⟨Nat.le_of_ble_eq_true rfl, Nat.le_of_ble_eq_true rfl⟩ rfl (Nat.le_of_ble_eq_true rfl) dX9_colour_68 ?_
              refine jIstore C dX9_colour_71 (Nat.le_of_ble_eq_true rfl) [(5, .int q17), (0, .ref (h 0)), (1, .int p1), (2, .int p2), (3, .int p3), (4, .int p4)] rfl ?_
              refine jIload C dX9_colour_73 0 rfl ?_
              refine jBipush C (-3 : Int32) dX9_colour_75 kb_m3 ?_
              refine jCmpNe C 85 dX9_colour_77 (by decide) (fun c22 => ?_) (fun c22 => ?_)
              · replace hf := itn hf c22
                refine jIload C dX9_colour_85 0 rfl ?_
                refine jIfNe C 94 dX9_colour_87 (by decide) (fun c23 => ?_) (fun c23 => ?_)
                · replace hf := itn hf c23
                  refine jAloadn C dX9_colour_94 rfl 1 rfl ?_
                  refine gf_RX9_40 C dX9_colour_95 ?_
                  refine jIload C dX9_colour_98 5 rfl ?_
                  obtain ⟨z24, hf⟩ := gin_some hf
                  refine al_mint C z24 dX9_colour_100 ?_
                  cases hf
                  exact jEndI C hQ rfl dX9_colour_101
                · replace hf := itp hf c23
                  refine jIconst C (-1 : Int32) dX9_colour_90 ki_m1 ?_
                  refine jGoto C 101 dX9_colour_91 (by decide) ?_
                  cases hf
                  exact jEndI C hQ rfl dX9_colour_101
              · replace hf := itp hf c22
                refine jBipush C (-3 : Int32) dX9_colour_80 kb_m3 ?_
                refine jGoto C 101 dX9_colour_82 (by decide) ?_
                cases hf
                exact jEndI C hQ rfl dX9_colour_101
            · replace hf := itn hf c16
              refine jIconst C (-1 : Int32) dX9_colour_62 ki_m1 ?_
              cases hf
              exact jEndI C hQ rfl dX9_colour_63
          · replace hf := itn hf c13
            refine jBipush C (-6 : Int32) dX9_colour_49 kb_m6 ?_
            cases hf
            exact jEndI C hQ rfl dX9_colour_51
        · replace hf := itn hf c10
          refine jBipush C (-2 : Int32) dX9_colour_37 kb_m2 ?_
          cases hf
          exact jEndI C hQ rfl dX9_colour_39
noncomputable def X9_steps_h124 (r31 : Int32 → (Nat → Int32) → Option (Int32 × (Nat → Int32))) (x5_28 : Int32) (mnow : Nat → Int32) (p1 : Int32) (x4_19 : Int32) (r38 : Int32 → (Nat → Int32) → Option (Int32 × (Nat → Int32))) (x6_35 : Int32) (mint_36 : Nat → Int32) : Option (Int32 × (Nat → Int32)) := (if (128 : Int32) ≤ x6_35 then r31 (x5_28 + (1 : Int32)) mint_36 else bd1 (X9_isIn mnow p1 x6_35) (fun q40 => (if q40 = (0 : Int32) then r38 (x6_35 + (1 : Int32)) mint_36 else gin x6_35 128 ((if (mint_36 x6_35.toNatClampNeg) = (-1 : Int32) then (if (x5_28 &&& x6_35) = (0 : Int32) then gin x6_35 128 (r38 (x6_35 + (1 : Int32)) (upd mint_36 x6_35.toNatClampNeg (x4_19 + (1 : Int32)))) else r38 (x6_35 + (1 : Int32)) mint_36) else r38 (x6_35 + (1 : Int32)) mint_36)))))
noncomputable def X9_steps_h98 (r22 : Int32 → (Nat → Int32) → Option (Int32 × (Nat → Int32))) (x4_19 : Int32) (mnow : Nat → Int32) (p1 : Int32) (r31 : Int32 → (Nat → Int32) → Option (Int32 × (Nat → Int32))) (x5_28 : Int32) (mint_29 : Nat → Int32) : Option (Int32 × (Nat → Int32)) := (if (128 : Int32) ≤ x5_28 then r22 (x4_19 + (1 : Int32)) mint_29 else gin x5_28 128 ((if (mint_29 x5_28.toNatClampNeg) = x4_19 then lfp2 (X9_steps_h124 r31 x5_28 mnow p1 x4_19) (0 : Int32) mint_29 else r31 (x5_28 + (1 : Int32)) mint_29)))
noncomputable def X9_steps_h77 (p3 : Int32) (mnow : Nat → Int32) (p1 : Int32) (r22 : Int32 → (Nat → Int32) → Option (Int32 × (Nat → Int32))) (x4_19 : Int32) (mint_20 : Nat → Int32) : Option (Int32 × (Nat → Int32)) := (if (128 : Int32) ≤ x4_19 then gin p3 128 (some ((mint_20 p3.toNatClampNeg), mint_20)) else gin p3 128 ((if (mint_20 p3.toNatClampNeg) = (-1 : Int32) then lfp2 (X9_steps_h98 r22 x4_19 mnow p1) (0 : Int32) mint_20 else gin p3 128 (some ((mint_20 p3.toNatClampNeg), mint_20)))))
noncomputable def X9_steps_h45 (p2 : Int32) (p3 : Int32) (mnow : Nat → Int32) (p1 : Int32) (r16 : Int32 → (Nat → Int32) → Option (Int32 × (Nat → Int32))) (x4_13 : Int32) (mint_14 : Nat → Int32) : Option (Int32 × (Nat → Int32)) := (if (128 : Int32) ≤ x4_13 then gin p2 128 (lfp2 (X9_steps_h77 p3 mnow p1) (0 : Int32) (upd mint_14 p2.toNatClampNeg (0 : Int32))) else gin x4_13 128 (r16 (x4_13 + (1 : Int32)) (upd mint_14 x4_13.toNatClampNeg (-1 : Int32))))
noncomputable def X9_steps (mnow : Nat → Int32) (mint : Nat → Int32) (p1 : Int32) (p2 : Int32) (p3 : Int32) : Option (Int32 × (Nat → Int32)) := bd1 (X9_isSet mnow p1 p2) (fun q1 => (if q1 = (0 : Int32) then some ((-2 : Int32), mint) else bd1 (X9_isSet mnow p1 p3) (fun q4 => (if q4 = (0 : Int32) then some ((-2 : Int32), mint) else bd1 (X9_isIn mnow p1 p2) (fun q7 => (if q7 = (0 : Int32) then some ((-6 : Int32), mint) else bd1 (X9_isIn mnow p1 p3) (fun q10 => (if q10 = (0 : Int32) then some ((-6 : Int32), mint) else lfp2 (X9_steps_h45 p2 p3 mnow p1) (0 : Int32) mint))))))))
set_option maxHeartbeats 4000000 in
set_option maxRecDepth 20000 in
theorem X9_steps_ok {p1 : Int32} {p2 : Int32} {p3 : Int32} {rr : Int32} {omint : Nat → Int32}  (hf : X9_steps mnow mint p1 p2 p3 = some (rr, omint)) : MT yX9_steps cX9_steps 7 (some .int) 4 [.ref (h 0), .int p1, .int p2, .int p3] D cy G (mw h cy mthr mfrp mact mtpd msiz matx mfrm mtok mval mfk mfpl mbem mtrs mtrl mrom mtom mnow mfre mkep mtap mlef mtak mbes mrow mint mrnd mplo mhio mtox mtol) (mw h cy mthr mfrp mact mtpd msiz matx mfrm mtok mval mfk mfpl mbem mtrs mtrl mrom mtom mnow mfre mkep mtap mlef mtak mbes mrow omint mrnd mplo mhio mtox mtol) (some (.int rr)) := by
  refine MT.go (own := RX9) [(0, .ref (h 0)), (1, .int p1), (2, .int p2), (3, .int p3)] (by decide) rfl (Nat.le_of_ble_eq_true rfl) rfl (fun p l e s m args below meth c A Q C hQ => ?_)
  unfold X9_steps at hf
  refine jAloadn C dX9_steps_0 rfl 0 rfl ?_
  refine jIloadn C dX9_steps_1 rfl 1 rfl ?_
  refine jIloadn C dX9_steps_2 rfl 2 rfl ?_
  obtain ⟨q1, e2, hf⟩ := bd1_some hf
  refine jVI C (X9_isSet_ok  e2) vb_X9_isSet mk_RX9_210 rfl rcM ⟨Nat.le_of_ble_eq_true rfl, Nat.le_of_ble_eq_true rfl⟩ rfl (Nat.le_of_ble_eq_true rfl) dX9_steps_3 ?_
  refine jIfEq C 18 dX9_steps_6 (by decide) (fun c3 => ?_) (fun c3 => ?_)
  · replace hf := itp hf c3
    refine jBipush C (-2 : Int32) dX9_steps_18 kb_m2 ?_
    cases hf
    exact jEndI C hQ rfl dX9_steps_20
  · replace hf := itn hf c3
    refine jAloadn C dX9_steps_9 rfl 0 rfl ?_
    refine jIloadn C dX9_steps_10 rfl 1 rfl ?_
    refine jIloadn C dX9_steps_11 rfl 3 rfl ?_
    obtain ⟨q4, e5, hf⟩ := bd1_some hf
    refine jVI C (X9_isSet_ok  e5) vb_X9_isSet mk_RX9_210 rfl rcM ⟨Nat.le_of_ble_eq_true rfl, Nat.le_of_ble_eq_true rfl⟩ rfl (Nat.le_of_ble_eq_true rfl) dX9_steps_12 ?_
    refine jIfNe C 21 dX9_steps_15 (by decide) (fun c6 => ?_) (fun c6 => ?_)
    · replace hf := itn hf c6
      refine jAloadn C dX9_steps_21 rfl 0 rfl ?_
      refine jIloadn C dX9_steps_22 rfl 1 rfl ?_
      refine jIloadn C dX9_steps_23 rfl 2 rfl ?_
      obtain ⟨q7, e8, hf⟩ := bd1_some hf
      refine jVI C (X9_isIn_ok  e8) vb_X9_isIn mk_RX9_81 rfl rcM ⟨Nat.le_of_ble_eq_true rfl, Nat.le_of_ble_eq_true rfl⟩ rfl (Nat.le_of_ble_eq_true rfl) dX9_steps_24 ?_
      refine jIfEq C 39 dX9_steps_27 (by decide) (fun c9 => ?_) (fun c9 => ?_)
      · replace hf := itp hf c9
        refine jBipush C (-6 : Int32) dX9_steps_39 kb_m6 ?_
        cases hf
        exact jEndI C hQ rfl dX9_steps_41
      · replace hf := itn hf c9
        refine jAloadn C dX9_steps_30 rfl 0 rfl ?_
        refine jIloadn C dX9_steps_31 rfl 1 rfl ?_
        refine jIloadn C dX9_steps_32 rfl 3 rfl ?_
        obtain ⟨q10, e11, hf⟩ := bd1_some hf
        refine jVI C (X9_isIn_ok  e11) vb_X9_isIn mk_RX9_81 rfl rcM ⟨Nat.le_of_ble_eq_true rfl, Nat.le_of_ble_eq_true rfl⟩ rfl (Nat.le_of_ble_eq_true rfl) dX9_steps_33 ?_
        refine jIfNe C 42 dX9_steps_36 (by decide) (fun c12 => ?_) (fun c12 => ?_)
        · replace hf := itn hf c12
          refine jIconst C (0 : Int32) dX9_steps_42 ki_0 ?_
          refine jIstore C dX9_steps_43 (Nat.le_of_ble_eq_true rfl) [(4, .int (0 : Int32)), (0, .ref (h 0)), (1, .int p1), (2, .int p2), (3, .int p3)] rfl ?_
          have hL15 : ∀ (x4_13 : Int32) (mint_14 : Nat → Int32), lfp2 (X9_steps_h45 p2 p3 mnow p1) x4_13 mint_14 = some (rr, omint) → J p l e (rmk 4) s m args below meth c D A Q 7 (mw h cy mthr mfrp mact mtpd msiz matx mfrm mtok mval mfk mfpl mbem mtrs mtrl mrom mtom mnow mfre mkep mtap mlef mtak mbes mrow mint_14 mrnd mplo mhio mtox mtol) 45 [(0, .ref (h 0)), (1, .int p1), (2, .int p2), (3, .int p3), (4, .int x4_13)] [] := by
            intro x4_13 mint_14 hw
            refine lfp2_walk (P := fun x4_13 mint_14 => J p l e (rmk 4) s m args below meth c D A Q 7 (mw h cy mthr mfrp mact mtpd msiz matx mfrm mtok mval mfk mfpl mbem mtrs mtrl mrom mtom mnow mfre mkep mtap mlef mtak mbes mrow mint_14 mrnd mplo mhio mtox mtol) 45 [(0, .ref (h 0)), (1, .int p1), (2, .int p2), (3, .int p3), (4, .int x4_13)] []) ?_ hw
            intro r16 ir16 x4_13 mint_14 hf
            unfold X9_steps_h45 at hf
            refine jIload C dX9_steps_45 4 rfl ?_
            refine jSipush C (128 : Int32) dX9_steps_47 ks_128 ?_
            refine jCmpGe C 67 dX9_steps_50 (by decide) (fun c17 => ?_) (fun c17 => ?_)
            · replace hf := itp hf c17
              refine jAloadn C dX9_steps_67 rfl 0 rfl ?_
              refine gf_RX9_40 C dX9_steps_68 ?_
              refine jIloadn C dX9_steps_71 rfl 2 rfl ?_
              refine jIconst C (0 : Int32) dX9_steps_72 ki_0 ?_
              obtain ⟨z18, hf⟩ := gin_some hf
              refine as_mint C z18 dX9_steps_73 ?_
              refine jIconst C (0 : Int32) dX9_steps_74 ki_0 ?_
              refine jIstore C dX9_steps_75 (Nat.le_of_ble_eq_true rfl) [(4, .int (0 : Int32)), (0, .ref (h 0)), (1, .int p1), (2, .int p2), (3, .int p3)] rfl ?_
              have hL21 : ∀ (x4_19 : Int32) (mint_20 : Nat → Int32), lfp2 (X9_steps_h77 p3 mnow p1) x4_19 mint_20 = some (rr, omint) → J p l e (rmk 4) s m args below meth c D A Q 7 (mw h cy mthr mfrp mact mtpd msiz matx mfrm mtok mval mfk mfpl mbem mtrs mtrl mrom mtom mnow mfre mkep mtap mlef mtak mbes mrow mint_20 mrnd mplo mhio mtox mtol) 77 [(0, .ref (h 0)), (1, .int p1), (3, .int p3), (4, .int x4_19)] [] := by
                intro x4_19 mint_20 hw
                refine lfp2_walk (P := fun x4_19 mint_20 => J p l e (rmk 4) s m args below meth c D A Q 7 (mw h cy mthr mfrp mact mtpd msiz matx mfrm mtok mval mfk mfpl mbem mtrs mtrl mrom mtom mnow mfre mkep mtap mlef mtak mbes mrow mint_20 mrnd mplo mhio mtox mtol) 77 [(0, .ref (h 0)), (1, .int p1), (3, .int p3), (4, .int x4_19)] []) ?_ hw
                intro r22 ir22 x4_19 mint_20 hf
                unfold X9_steps_h77 at hf
                refine jIload C dX9_steps_77 3 rfl ?_
                refine jSipush C (128 : Int32) dX9_steps_79 ks_128 ?_
                refine jCmpGe C 190 dX9_steps_82 (by decide) (fun c23 => ?_) (fun c23 => ?_)
                · replace hf := itp hf c23
                  refine jAloadn C dX9_steps_190 rfl 0 rfl ?_
                  refine gf_RX9_40 C dX9_steps_191 ?_
                  refine jIloadn C dX9_steps_194 rfl 2 rfl ?_
                  obtain ⟨z24, hf⟩ := gin_some hf
                  refine al_mint C z24 dX9_steps_195 ?_
                  cases hf
                  exact jEndI C hQ rfl dX9_steps_196
                · replace hf := itn hf c23
                  refine jAloadn C dX9_steps_85 rfl 0 rfl ?_
                  refine gf_RX9_40 C dX9_steps_86 ?_
                  refine jIloadn C dX9_steps_89 rfl 2 rfl ?_
                  obtain ⟨z25, hf⟩ := gin_some hf
                  refine al_mint C z25 dX9_steps_90 ?_
                  refine jIconst C (-1 : Int32) dX9_steps_91 ki_m1 ?_
                  refine jCmpNe C 190 dX9_steps_92 (by decide) (fun c26 => ?_) (fun c26 => ?_)
                  · replace hf := itn hf c26
                    refine jAloadn C dX9_steps_190 rfl 0 rfl ?_
                    refine gf_RX9_40 C dX9_steps_191 ?_
                    refine jIloadn C dX9_steps_194 rfl 2 rfl ?_
                    obtain ⟨z27, hf⟩ := gin_some hf
                    refine al_mint C z27 dX9_steps_195 ?_
                    cases hf
                    exact jEndI C hQ rfl dX9_steps_196
                  · replace hf := itp hf c26
                    refine jIconst C (0 : Int32) dX9_steps_95 ki_0 ?_
                    refine jIstore C dX9_steps_96 (Nat.le_of_ble_eq_true rfl) [(5, .int (0 : Int32)), (0, .ref (h 0)), (1, .int p1), (3, .int p3), (4, .int x4_19)] rfl ?_
                    have hL30 : ∀ (x5_28 : Int32) (mint_29 : Nat → Int32), lfp2 (X9_steps_h98 r22 x4_19 mnow p1) x5_28 mint_29 = some (rr, omint) → J p l e (rmk 4) s m args below meth c D A Q 7 (mw h cy mthr mfrp mact mtpd msiz matx mfrm mtok mval mfk mfpl mbem mtrs mtrl mrom mtom mnow mfre mkep mtap mlef mtak mbes mrow mint_29 mrnd mplo mhio mtox mtol) 98 [(0, .ref (h 0)), (1, .int p1), (3, .int p3), (4, .int x4_19), (5, .int x5_28)] [] := by
                      intro x5_28 mint_29 hw
                      refine lfp2_walk (P := fun x5_28 mint_29 => J p l e (rmk 4) s m args below meth c D A Q 7 (mw h cy mthr mfrp mact mtpd msiz matx mfrm mtok mval mfk mfpl mbem mtrs mtrl mrom mtom mnow mfre mkep mtap mlef mtak mbes mrow mint_29 mrnd mplo mhio mtox mtol) 98 [(0, .ref (h 0)), (1, .int p1), (3, .int p3), (4, .int x4_19), (5, .int x5_28)] []) ?_ hw
                      intro r31 ir31 x5_28 mint_29 hf
                      unfold X9_steps_h98 at hf
                      refine jIload C dX9_steps_98 4 rfl ?_
                      refine jSipush C (128 : Int32) dX9_steps_100 ks_128 ?_
                      refine jCmpGe C 184 dX9_steps_103 (by decide) (fun c32 => ?_) (fun c32 => ?_)
                      · replace hf := itp hf c32
                        refine jIinc C (x4_19 + (1 : Int32)) dX9_steps_184 3 rfl (congrArg (fun z : Int32 => x4_19 + z) ki_1) (Nat.le_of_ble_eq_true rfl) [(4, .int (x4_19 + (1 : Int32))), (0, .ref (h 0)), (1, .int p1), (3, .int p3), (5, .int x5_28)] rfl ?_
                        refine jGoto C 77 dX9_steps_187 (by decide) ?_
                        refine jSub [1, 2, 3, 0] rfl ?_
                        exact ir22 (x4_19 + (1 : Int32)) mint_29 hf
                      · replace hf := itn hf c32
                        refine jAloadn C dX9_steps_106 rfl 0 rfl ?_
                        refine gf_RX9_40 C dX9_steps_107 ?_
                        refine jIload C dX9_steps_110 4 rfl ?_
                        obtain ⟨z33, hf⟩ := gin_some hf
                        refine al_mint C z33 dX9_steps_112 ?_
                        refine jIload C dX9_steps_113 3 rfl ?_
                        refine jCmpEq C 121 dX9_steps_115 (by decide) (fun c34 => ?_) (fun c34 => ?_)
                        · replace hf := itp hf c34
                          refine jIconst C (0 : Int32) dX9_steps_121 ki_0 ?_
                          refine jIstore C dX9_steps_122 (Nat.le_of_ble_eq_true rfl) [(6, .int (0 : Int32)), (0, .ref (h 0)), (1, .int p1), (3, .int p3), (4, .int x4_19), (5, .int x5_28)] rfl ?_
                          have hL37 : ∀ (x6_35 : Int32) (mint_36 : Nat → Int32), lfp2 (X9_steps_h124 r31 x5_28 mnow p1 x4_19) x6_35 mint_36 = some (rr, omint) → J p l e (rmk 4) s m args below meth c D A Q 7 (mw h cy mthr mfrp mact mtpd msiz matx mfrm mtok mval mfk mfpl mbem mtrs mtrl mrom mtom mnow mfre mkep mtap mlef mtak mbes mrow mint_36 mrnd mplo mhio mtox mtol) 124 [(0, .ref (h 0)), (1, .int p1), (3, .int p3), (4, .int x4_19), (5, .int x5_28), (6, .int x6_35)] [] := by
                            intro x6_35 mint_36 hw
                            refine lfp2_walk (P := fun x6_35 mint_36 => J p l e (rmk 4) s m args below meth c D A Q 7 (mw h cy mthr mfrp mact mtpd msiz matx mfrm mtok mval mfk mfpl mbem mtrs mtrl mrom mtom mnow mfre mkep mtap mlef mtak mbes mrow mint_36 mrnd mplo mhio mtox mtol) 124 [(0, .ref (h 0)), (1, .int p1), (3, .int p3), (4, .int x4_19), (5, .int x5_28), (6, .int x6_35)] []) ?_ hw
                            intro r38 ir38 x6_35 mint_36 hf
                            unfold X9_steps_h124 at hf
                            refine jIload C dX9_steps_124 5 rfl ?_
                            refine jSipush C (128 : Int32) dX9_steps_126 ks_128 ?_
                            refine jCmpGe C 178 dX9_steps_129 (by decide) (fun c39 => ?_) (fun c39 => ?_)
                            · replace hf := itp hf c39
                              refine jIinc C (x5_28 + (1 : Int32)) dX9_steps_178 4 rfl (congrArg (fun z : Int32 => x5_28 + z) ki_1) (Nat.le_of_ble_eq_true rfl) [(5, .int (x5_28 + (1 : Int32))), (0, .ref (h 0)), (1, .int p1), (3, .int p3), (4, .int x4_19), (6, .int x6_35)] rfl ?_
                              refine jGoto C 98 dX9_steps_181 (by decide) ?_
                              refine jSub [1, 2, 3, 4, 0] rfl ?_
                              exact ir31 (x5_28 + (1 : Int32)) mint_36 hf
                            · replace hf := itn hf c39
                              refine jAloadn C dX9_steps_132 rfl 0 rfl ?_
                              refine jIloadn C dX9_steps_133 rfl 1 rfl ?_
                              refine jIload C dX9_steps_134 5 rfl ?_
                              obtain ⟨q40, e41, hf⟩ := bd1_some hf
                              refine jVI C (X9_isIn_ok  e41) vb_X9_isIn mk_RX9_81 rfl rcM ⟨Nat.le_of_ble_eq_true rfl, Nat.le_of_ble_eq_true rfl⟩ rfl (Nat.le_of_ble_eq_true rfl) dX9_steps_136 ?_
                              refine jIfEq C 172 dX9_steps_139 (by decide) (fun c42 => ?_) (fun c42 => ?_)
                              · replace hf := itp hf c42
                                refine jIinc C (x6_35 + (1 : Int32)) dX9_steps_172 5 rfl (congrArg (fun z : Int32 => x6_35 + z) ki_1) (Nat.le_of_ble_eq_true rfl) [(6, .int (x6_35 + (1 : Int32))), (0, .ref (h 0)), (1, .int p1), (3, .int p3), (4, .int x4_19), (5, .int x5_28)] rfl ?_
                                refine jGoto C 124 dX9_steps_175 (by decide) ?_
                                refine jSub [1, 2, 3, 4, 5, 0] rfl ?_
                                exact ir38 (x6_35 + (1 : Int32)) mint_36 hf
                              · replace hf := itn hf c42
                                refine jAloadn C dX9_steps_142 rfl 0 rfl ?_
                                refine gf_RX9_40 C dX9_steps_143 ?_
                                refine jIload C dX9_steps_146 5 rfl ?_
                                obtain ⟨z43, hf⟩ := gin_some hf
                                refine al_mint C z43 dX9_steps_148 ?_
                                refine jIconst C (-1 : Int32) dX9_steps_149 ki_m1 ?_
                                refine jCmpNe C 172 dX9_steps_150 (by decide) (fun c44 => ?_) (fun c44 => ?_)
                                · replace hf := itn hf c44
                                  refine jIinc C (x6_35 + (1 : Int32)) dX9_steps_172 5 rfl (congrArg (fun z : Int32 => x6_35 + z) ki_1) (Nat.le_of_ble_eq_true rfl) [(6, .int (x6_35 + (1 : Int32))), (0, .ref (h 0)), (1, .int p1), (3, .int p3), (4, .int x4_19), (5, .int x5_28)] rfl ?_
                                  refine jGoto C 124 dX9_steps_175 (by decide) ?_
                                  refine jSub [1, 2, 3, 4, 5, 0] rfl ?_
                                  exact ir38 (x6_35 + (1 : Int32)) mint_36 hf
                                · replace hf := itp hf c44
                                  refine jIload C dX9_steps_153 4 rfl ?_
                                  refine jIload C dX9_steps_155 5 rfl ?_
                                  refine jIand C dX9_steps_157 ?_
                                  refine jIfNe C 172 dX9_steps_158 (by decide) (fun c45 => ?_) (fun c45 => ?_)
                                  · replace hf := itn hf c45
                                    refine jIinc C (x6_35 + (1 : Int32)) dX9_steps_172 5 rfl (congrArg (fun z : Int32 => x6_35 + z) ki_1) (Nat.le_of_ble_eq_true rfl) [(6, .int (x6_35 + (1 : Int32))), (0, .ref (h 0)), (1, .int p1), (3, .int p3), (4, .int x4_19), (5, .int x5_28)] rfl ?_
                                    refine jGoto C 124 dX9_steps_175 (by decide) ?_
                                    refine jSub [1, 2, 3, 4, 5, 0] rfl ?_
                                    exact ir38 (x6_35 + (1 : Int32)) mint_36 hf
                                  · replace hf := itp hf c45
                                    refine jAloadn C dX9_steps_161 rfl 0 rfl ?_
                                    refine gf_RX9_40 C dX9_steps_162 ?_
                                    refine jIload C dX9_steps_165 5 rfl ?_
                                    refine jIload C dX9_steps_167 3 rfl ?_
                                    refine jIconst C (1 : Int32) dX9_steps_169 ki_1 ?_
                                    refine jIadd C dX9_steps_170 ?_
                                    obtain ⟨z46, hf⟩ := gin_some hf
                                    refine as_mint C z46 dX9_steps_171 ?_
                                    refine jIinc C (x6_35 + (1 : Int32)) dX9_steps_172 5 rfl (congrArg (fun z : Int32 => x6_35 + z) ki_1) (Nat.le_of_ble_eq_true rfl) [(6, .int (x6_35 + (1 : Int32))), (0, .ref (h 0)), (1, .int p1), (3, .int p3), (4, .int x4_19), (5, .int x5_28)] rfl ?_
                                    refine jGoto C 124 dX9_steps_175 (by decide) ?_
                                    refine jSub [1, 2, 3, 4, 5, 0] rfl ?_
                                    exact ir38 (x6_35 + (1 : Int32)) (upd mint_36 x6_35.toNatClampNeg (x4_19 + (1 : Int32))) hf
                          refine jSub [1, 2, 3, 4, 5, 0] rfl ?_
                          exact hL37 (0 : Int32) mint_29 hf
                        · replace hf := itn hf c34
                          refine jGoto C 178 dX9_steps_118 (by decide) ?_
                          refine jIinc C (x5_28 + (1 : Int32)) dX9_steps_178 4 rfl (congrArg (fun z : Int32 => x5_28 + z) ki_1) (Nat.le_of_ble_eq_true rfl) [(5, .int (x5_28 + (1 : Int32))), (0, .ref (h 0)), (1, .int p1), (3, .int p3), (4, .int x4_19)] rfl ?_
                          refine jGoto C 98 dX9_steps_181 (by decide) ?_
                          refine jSub [1, 2, 3, 4, 0] rfl ?_
                          exact ir31 (x5_28 + (1 : Int32)) mint_29 hf
                    refine jSub [1, 2, 3, 4, 0] rfl ?_
                    exact hL30 (0 : Int32) mint_20 hf
              refine jSub [1, 2, 4, 0] rfl ?_
              exact hL21 (0 : Int32) (upd mint_14 p2.toNatClampNeg (0 : Int32)) hf
            · replace hf := itn hf c17
              refine jAloadn C dX9_steps_53 rfl 0 rfl ?_
              refine gf_RX9_40 C dX9_steps_54 ?_
              refine jIload C dX9_steps_57 4 rfl ?_
              refine jIconst C (-1 : Int32) dX9_steps_59 ki_m1 ?_
              obtain ⟨z47, hf⟩ := gin_some hf
              refine as_mint C z47 dX9_steps_60 ?_
              refine jIinc C (x4_13 + (1 : Int32)) dX9_steps_61 4 rfl (congrArg (fun z : Int32 => x4_13 + z) ki_1) (Nat.le_of_ble_eq_true rfl) [(4, .int (x4_13 + (1 : Int32))), (0, .ref (h 0)), (1, .int p1), (2, .int p2), (3, .int p3)] rfl ?_
              refine jGoto C 45 dX9_steps_64 (by decide) ?_
              refine jSub [1, 2, 3, 4, 0] rfl ?_
              exact ir16 (x4_13 + (1 : Int32)) (upd mint_14 x4_13.toNatClampNeg (-1 : Int32)) hf
          refine jSub [1, 2, 3, 4, 0] rfl ?_
          exact hL15 (0 : Int32) mint hf
        · replace hf := itp hf c12
          refine jBipush C (-6 : Int32) dX9_steps_39 kb_m6 ?_
          cases hf
          exact jEndI C hQ rfl dX9_steps_41
    · replace hf := itp hf c6
      refine jBipush C (-2 : Int32) dX9_steps_18 kb_m2 ?_
      cases hf
      exact jEndI C hQ rfl dX9_steps_20
noncomputable def X9_rounds0_h4 (p0 : Int32) (r4 : Int32 → Int32 → Option Int32) (x1_1 : Int32) (x2_2 : Int32) : Option Int32 := (if p0 ≤ x2_2 then some x1_1 else r4 (x1_1 * x2_2) (x2_2 + (1 : Int32)))
noncomputable def X9_rounds0 (p0 : Int32) : Option Int32 := lfp2 (X9_rounds0_h4 p0) (1 : Int32) (2 : Int32)
set_option maxHeartbeats 4000000 in
set_option maxRecDepth 20000 in
theorem X9_rounds0_ok {D : va_G} {cy : Nat → ClassId} {G : Nat → Nat} {ws : va_W} {p0 : Int32} {rr : Int32}  (hf : X9_rounds0 p0 = some rr) : MT yX9_rounds0 cX9_rounds0 3 (some .int) 0 [.int p0] D cy G ws ws (some (.int rr)) := by
  refine MT.go (own := RX9) [(0, .int p0)] (by decide) rfl (Nat.le_of_ble_eq_true rfl) rfl (fun p l e s m args below meth c A Q C hQ => ?_)
  unfold X9_rounds0 at hf
  refine jIconst C (1 : Int32) dX9_rounds0_0 ki_1 ?_
  refine jIstoren C dX9_rounds0_1 rfl (Nat.le_of_ble_eq_true rfl) [(1, .int (1 : Int32)), (0, .int p0)] rfl ?_
  refine jIconst C (2 : Int32) dX9_rounds0_2 ki_2 ?_
  refine jIstoren C dX9_rounds0_3 rfl (Nat.le_of_ble_eq_true rfl) [(2, .int (2 : Int32)), (1, .int (1 : Int32)), (0, .int p0)] rfl ?_
  have hL3 : ∀ (x1_1 : Int32) (x2_2 : Int32), lfp2 (X9_rounds0_h4 p0) x1_1 x2_2 = some rr → J p l e (rmk 0) s m args below meth c D A Q 3 ws 4 [(0, .int p0), (1, .int x1_1), (2, .int x2_2)] [] := by
    intro x1_1 x2_2 hw
    refine lfp2_walk (P := fun x1_1 x2_2 => J p l e (rmk 0) s m args below meth c D A Q 3 ws 4 [(0, .int p0), (1, .int x1_1), (2, .int x2_2)] []) ?_ hw
    intro r4 ir4 x1_1 x2_2 hf
    unfold X9_rounds0_h4 at hf
    refine jIloadn C dX9_rounds0_4 rfl 2 rfl ?_
    refine jIloadn C dX9_rounds0_5 rfl 0 rfl ?_
    refine jCmpGe C 19 dX9_rounds0_6 (by decide) (fun c5 => ?_) (fun c5 => ?_)
    · replace hf := itp hf c5
      refine jIloadn C dX9_rounds0_19 rfl 1 rfl ?_
      cases hf
      exact jEndI C hQ rfl dX9_rounds0_20
    · replace hf := itn hf c5
      refine jIloadn C dX9_rounds0_9 rfl 1 rfl ?_
      refine jIloadn C dX9_rounds0_10 rfl 2 rfl ?_
      refine jImul C dX9_rounds0_11 ?_
      refine jIstoren C dX9_rounds0_12 rfl (Nat.le_of_ble_eq_true rfl) [(1, .int (x1_1 * x2_2)), (0, .int p0), (2, .int x2_2)] rfl ?_
      refine jIinc C (x2_2 + (1 : Int32)) dX9_rounds0_13 2 rfl (congrArg (fun z : Int32 => x2_2 + z) ki_1) (Nat.le_of_ble_eq_true rfl) [(2, .int (x2_2 + (1 : Int32))), (1, .int (x1_1 * x2_2)), (0, .int p0)] rfl ?_
      refine jGoto C 4 dX9_rounds0_16 (by decide) ?_
      refine jSub [2, 1, 0] rfl ?_
      exact ir4 (x1_1 * x2_2) (x2_2 + (1 : Int32)) hf
  refine jSub [2, 1, 0] rfl ?_
  exact hL3 (1 : Int32) (2 : Int32) hf
noncomputable def X9_laysRound_h119 (p1 : Int32) (mrnd_8 : Nat → Int32) (r15 : Int32 → (Nat → Int32) → Option ((Nat → Int32) × (Nat → Int32))) (x6_12 : Int32) (mplo_13 : Nat → Int32) : Option ((Nat → Int32) × (Nat → Int32)) := (if p1 ≤ x6_12 then some (mrnd_8, mplo_13) else gin x6_12 7 (gin (mrnd_8 x6_12.toNatClampNeg) 7 (r15 (x6_12 + (1 : Int32)) (upd mplo_13 (mrnd_8 x6_12.toNatClampNeg).toNatClampNeg x6_12))))
noncomputable def X9_laysRound_j69 (x3_4 : Int32) (x8_23 : Int32) (r25 : Int32 → Int32 → Option ((Nat → Int32) × (Nat → Int32))) (x7_22 : Int32)  : Option ((Nat → Int32) × (Nat → Int32)) := bd1 (X9_hasBit x3_4 x8_23) (fun q29 => (if q29 = (0 : Int32) then r25 (x7_22 - (1 : Int32)) (x8_23 + (1 : Int32)) else r25 (x7_22 - (0 : Int32)) (x8_23 + (1 : Int32))))
noncomputable def X9_laysRound_h55 (x3_4 : Int32) (x6_7 : Int32) (r10 : Int32 → Int32 → Int32 → Int32 → (Nat → Int32) → Option ((Nat → Int32) × (Nat → Int32))) (x4_5 : Int32) (x5_6 : Int32) (p1 : Int32) (mrnd_8 : Nat → Int32) (r25 : Int32 → Int32 → Option ((Nat → Int32) × (Nat → Int32))) (x7_22 : Int32) (x8_23 : Int32) : Option ((Nat → Int32) × (Nat → Int32)) := bd1 (X9_hasBit x3_4 x8_23) (fun q26 => (if q26 = (0 : Int32) then (if x7_22 ≤ (0 : Int32) then gin x6_7 7 (r10 (x3_4 ||| ((1 : Int32) <<< (x8_23 &&& 31))) (x4_5 - x4_5 / (x5_6 / (p1 - x6_7)) * (x5_6 / (p1 - x6_7))) (x5_6 / (p1 - x6_7)) (x6_7 + (1 : Int32)) (upd mrnd_8 x6_7.toNatClampNeg x8_23)) else X9_laysRound_j69 x3_4 x8_23 r25 x7_22) else X9_laysRound_j69 x3_4 x8_23 r25 x7_22))
noncomputable def X9_laysRound_h23 (p1 : Int32) (mplo : Nat → Int32) (r10 : Int32 → Int32 → Int32 → Int32 → (Nat → Int32) → Option ((Nat → Int32) × (Nat → Int32))) (x3_4 : Int32) (x4_5 : Int32) (x5_6 : Int32) (x6_7 : Int32) (mrnd_8 : Nat → Int32) : Option ((Nat → Int32) × (Nat → Int32)) := (if p1 ≤ x6_7 then lfp2 (X9_laysRound_h119 p1 mrnd_8) (0 : Int32) mplo else gnz (p1 - x6_7) (gnz (x5_6 / (p1 - x6_7)) (gnz (x5_6 / (p1 - x6_7)) (lfp2 (X9_laysRound_h55 x3_4 x6_7 r10 x4_5 x5_6 p1 mrnd_8) (x4_5 / (x5_6 / (p1 - x6_7))) (0 : Int32)))))
noncomputable def X9_laysRound (mrnd : Nat → Int32) (mplo : Nat → Int32) (p1 : Int32) (p2 : Int32) : Option ((Nat → Int32) × (Nat → Int32)) := gin (0 : Int32) 7 (bd1 (X9_rounds0 p1) (fun q2 => lfp5 (X9_laysRound_h23 p1 mplo) (0 : Int32) p2 q2 (1 : Int32) (upd mrnd (0 : Int32).toNatClampNeg (p1 - (1 : Int32)))))
set_option maxHeartbeats 4000000 in
set_option maxRecDepth 20000 in
theorem X9_laysRound_ok {p1 : Int32} {p2 : Int32} {omrnd : Nat → Int32} {omplo : Nat → Int32}  (hf : X9_laysRound mrnd mplo p1 p2 = some (omrnd, omplo)) : MT yX9_laysRound cX9_laysRound 9 none 1 [.ref (h 0), .int p1, .int p2] D cy G (mw h cy mthr mfrp mact mtpd msiz matx mfrm mtok mval mfk mfpl mbem mtrs mtrl mrom mtom mnow mfre mkep mtap mlef mtak mbes mrow mint mrnd mplo mhio mtox mtol) (mw h cy mthr mfrp mact mtpd msiz matx mfrm mtok mval mfk mfpl mbem mtrs mtrl mrom mtom mnow mfre mkep mtap mlef mtak mbes mrow mint omrnd omplo mhio mtox mtol) none := by
  refine MT.go (own := RX9) [(0, .ref (h 0)), (1, .int p1), (2, .int p2)] (by decide) rfl (Nat.le_of_ble_eq_true rfl) rfl (fun p l e s m args below meth c A Q C hQ => ?_)
  unfold X9_laysRound at hf
  refine jAloadn C dX9_laysRound_0 rfl 0 rfl ?_
  refine gf_RX9_43 C dX9_laysRound_1 ?_
  refine jIconst C (0 : Int32) dX9_laysRound_4 ki_0 ?_
  refine jIloadn C dX9_laysRound_5 rfl 1 rfl ?_
  refine jIconst C (1 : Int32) dX9_laysRound_6 ki_1 ?_
  refine jIsub C dX9_laysRound_7 ?_
  obtain ⟨z1, hf⟩ := gin_some hf
  refine as_mrnd C z1 dX9_laysRound_8 ?_
  refine jIconst C (0 : Int32) dX9_laysRound_9 ki_0 ?_
  refine jIstoren C dX9_laysRound_10 rfl (Nat.le_of_ble_eq_true rfl) [(3, .int (0 : Int32)), (0, .ref (h 0)), (1, .int p1), (2, .int p2)] rfl ?_
  refine jIloadn C dX9_laysRound_11 rfl 3 rfl ?_
  refine jIstore C dX9_laysRound_12 (Nat.le_of_ble_eq_true rfl) [(4, .int p2), (3, .int (0 : Int32)), (0, .ref (h 0)), (1, .int p1), (2, .int p2)] rfl ?_
  refine jIloadn C dX9_laysRound_14 rfl 3 rfl ?_
  obtain ⟨q2, e3, hf⟩ := bd1_some hf
  refine jSI C (X9_rounds0_ok  e3) sb_X9_rounds0 mk_RX9_324 rfl ⟨Nat.le_of_ble_eq_true rfl, Nat.le_of_ble_eq_true rfl⟩ rfl (Nat.le_of_ble_eq_true rfl) dX9_laysRound_15 ?_
  refine jIstore C dX9_laysRound_18 (Nat.le_of_ble_eq_true rfl) [(5, .int q2), (4, .int p2), (3, .int (0 : Int32)), (0, .ref (h 0)), (1, .int p1), (2, .int p2)] rfl ?_
  refine jIconst C (1 : Int32) dX9_laysRound_20 ki_1 ?_
  refine jIstore C dX9_laysRound_21 (Nat.le_of_ble_eq_true rfl) [(6, .int (1 : Int32)), (5, .int q2), (4, .int p2), (3, .int (0 : Int32)), (0, .ref (h 0)), (1, .int p1), (2, .int p2)] rfl ?_
  have hL9 : ∀ (x3_4 : Int32) (x4_5 : Int32) (x5_6 : Int32) (x6_7 : Int32) (mrnd_8 : Nat → Int32), lfp5 (X9_laysRound_h23 p1 mplo) x3_4 x4_5 x5_6 x6_7 mrnd_8 = some (omrnd, omplo) → J p l e (rmk 1) s m args below meth c D A Q 9 (mw h cy mthr mfrp mact mtpd msiz matx mfrm mtok mval mfk mfpl mbem mtrs mtrl mrom mtom mnow mfre mkep mtap mlef mtak mbes mrow mint mrnd_8 mplo mhio mtox mtol) 23 [(0, .ref (h 0)), (1, .int p1), (3, .int x3_4), (4, .int x4_5), (5, .int x5_6), (6, .int x6_7)] [] := by
    intro x3_4 x4_5 x5_6 x6_7 mrnd_8 hw
    refine lfp5_walk (P := fun x3_4 x4_5 x5_6 x6_7 mrnd_8 => J p l e (rmk 1) s m args below meth c D A Q 9 (mw h cy mthr mfrp mact mtpd msiz matx mfrm mtok mval mfk mfpl mbem mtrs mtrl mrom mtom mnow mfre mkep mtap mlef mtak mbes mrow mint mrnd_8 mplo mhio mtox mtol) 23 [(0, .ref (h 0)), (1, .int p1), (3, .int x3_4), (4, .int x4_5), (5, .int x5_6), (6, .int x6_7)] []) ?_ hw
    intro r10 ir10 x3_4 x4_5 x5_6 x6_7 mrnd_8 hf
    unfold X9_laysRound_h23 at hf
    refine jIload C dX9_laysRound_23 5 rfl ?_
    refine jIloadn C dX9_laysRound_25 rfl 1 rfl ?_
    refine jCmpGe C 116 dX9_laysRound_26 (by decide) (fun c11 => ?_) (fun c11 => ?_)
    · replace hf := itp hf c11
      refine jIconst C (0 : Int32) dX9_laysRound_116 ki_0 ?_
      refine jIstore C dX9_laysRound_117 (Nat.le_of_ble_eq_true rfl) [(6, .int (0 : Int32)), (0, .ref (h 0)), (1, .int p1), (3, .int x3_4), (4, .int x4_5), (5, .int x5_6)] rfl ?_
      have hL14 : ∀ (x6_12 : Int32) (mplo_13 : Nat → Int32), lfp2 (X9_laysRound_h119 p1 mrnd_8) x6_12 mplo_13 = some (omrnd, omplo) → J p l e (rmk 1) s m args below meth c D A Q 9 (mw h cy mthr mfrp mact mtpd msiz matx mfrm mtok mval mfk mfpl mbem mtrs mtrl mrom mtom mnow mfre mkep mtap mlef mtak mbes mrow mint mrnd_8 mplo_13 mhio mtox mtol) 119 [(0, .ref (h 0)), (1, .int p1), (6, .int x6_12)] [] := by
        intro x6_12 mplo_13 hw
        refine lfp2_walk (P := fun x6_12 mplo_13 => J p l e (rmk 1) s m args below meth c D A Q 9 (mw h cy mthr mfrp mact mtpd msiz matx mfrm mtok mval mfk mfpl mbem mtrs mtrl mrom mtom mnow mfre mkep mtap mlef mtak mbes mrow mint mrnd_8 mplo_13 mhio mtox mtol) 119 [(0, .ref (h 0)), (1, .int p1), (6, .int x6_12)] []) ?_ hw
        intro r15 ir15 x6_12 mplo_13 hf
        unfold X9_laysRound_h119 at hf
        refine jIload C dX9_laysRound_119 2 rfl ?_
        refine jIloadn C dX9_laysRound_121 rfl 1 rfl ?_
        refine jCmpGe C 145 dX9_laysRound_122 (by decide) (fun c16 => ?_) (fun c16 => ?_)
        · replace hf := itp hf c16
          cases hf
          exact jEndV C hQ rfl dX9_laysRound_145
        · replace hf := itn hf c16
          refine jAloadn C dX9_laysRound_125 rfl 0 rfl ?_
          refine gf_RX9_46 C dX9_laysRound_126 ?_
          refine jAloadn C dX9_laysRound_129 rfl 0 rfl ?_
          refine gf_RX9_43 C dX9_laysRound_130 ?_
          refine jIload C dX9_laysRound_133 2 rfl ?_
          obtain ⟨z17, hf⟩ := gin_some hf
          refine al_mrnd C z17 dX9_laysRound_135 ?_
          refine jIload C dX9_laysRound_136 2 rfl ?_
          obtain ⟨z18, hf⟩ := gin_some hf
          refine as_mplo C z18 dX9_laysRound_138 ?_
          refine jIinc C (x6_12 + (1 : Int32)) dX9_laysRound_139 2 rfl (congrArg (fun z : Int32 => x6_12 + z) ki_1) (Nat.le_of_ble_eq_true rfl) [(6, .int (x6_12 + (1 : Int32))), (0, .ref (h 0)), (1, .int p1)] rfl ?_
          refine jGoto C 119 dX9_laysRound_142 (by decide) ?_
          refine jSub [1, 2, 0] rfl ?_
          exact ir15 (x6_12 + (1 : Int32)) (upd mplo_13 (mrnd_8 x6_12.toNatClampNeg).toNatClampNeg x6_12) hf
      refine jSub [1, 2, 0] rfl ?_
      exact hL14 (0 : Int32) mplo hf
    · replace hf := itn hf c11
      refine jIload C dX9_laysRound_29 4 rfl ?_
      refine jIloadn C dX9_laysRound_31 rfl 1 rfl ?_
      refine jIload C dX9_laysRound_32 5 rfl ?_
      refine jIsub C dX9_laysRound_34 ?_
      obtain ⟨z19, hf⟩ := gnz_some hf
      refine jIdiv C dX9_laysRound_35 z19 ?_
      refine jIstore C dX9_laysRound_36 (Nat.le_of_ble_eq_true rfl) [(5, .int (x5_6 / (p1 - x6_7))), (0, .ref (h 0)), (1, .int p1), (3, .int x3_4), (4, .int x4_5), (6, .int x6_7)] rfl ?_
      refine jIload C dX9_laysRound_38 4 rfl ?_
      refine jIload C dX9_laysRound_40 0 rfl ?_
      obtain ⟨z20, hf⟩ := gnz_some hf
      refine jIdiv C dX9_laysRound_42 z20 ?_
      refine jIstore C dX9_laysRound_43 (Nat.le_of_ble_eq_true rfl) [(7, .int (x4_5 / (x5_6 / (p1 - x6_7)))), (5, .int (x5_6 / (p1 - x6_7))), (0, .ref (h 0)), (1, .int p1), (3, .int x3_4), (4, .int x4_5), (6, .int x6_7)] rfl ?_
      refine jIload C dX9_laysRound_45 5 rfl ?_
      refine jIload C dX9_laysRound_47 1 rfl ?_
      obtain ⟨z21, hf⟩ := gnz_some hf
      refine jIrem C dX9_laysRound_49 z21 ?_
      refine jIstore C dX9_laysRound_50 (Nat.le_of_ble_eq_true rfl) [(4, .int (x4_5 - x4_5 / (x5_6 / (p1 - x6_7)) * (x5_6 / (p1 - x6_7)))), (7, .int (x4_5 / (x5_6 / (p1 - x6_7)))), (5, .int (x5_6 / (p1 - x6_7))), (0, .ref (h 0)), (1, .int p1), (3, .int x3_4), (6, .int x6_7)] rfl ?_
      refine jIconst C (0 : Int32) dX9_laysRound_52 ki_0 ?_
      refine jIstore C dX9_laysRound_53 (Nat.le_of_ble_eq_true rfl) [(8, .int (0 : Int32)), (4, .int (x4_5 - x4_5 / (x5_6 / (p1 - x6_7)) * (x5_6 / (p1 - x6_7)))), (7, .int (x4_5 / (x5_6 / (p1 - x6_7)))), (5, .int (x5_6 / (p1 - x6_7))), (0, .ref (h 0)), (1, .int p1), (3, .int x3_4), (6, .int x6_7)] rfl ?_
      have hL24 : ∀ (x7_22 : Int32) (x8_23 : Int32), lfp2 (X9_laysRound_h55 x3_4 x6_7 r10 x4_5 x5_6 p1 mrnd_8) x7_22 x8_23 = some (omrnd, omplo) → J p l e (rmk 1) s m args below meth c D A Q 9 (mw h cy mthr mfrp mact mtpd msiz matx mfrm mtok mval mfk mfpl mbem mtrs mtrl mrom mtom mnow mfre mkep mtap mlef mtak mbes mrow mint mrnd_8 mplo mhio mtox mtol) 55 [(0, .ref (h 0)), (1, .int p1), (3, .int x3_4), (4, .int (x4_5 - x4_5 / (x5_6 / (p1 - x6_7)) * (x5_6 / (p1 - x6_7)))), (5, .int (x5_6 / (p1 - x6_7))), (6, .int x6_7), (7, .int x7_22), (8, .int x8_23)] [] := by
        intro x7_22 x8_23 hw
        refine lfp2_walk (P := fun x7_22 x8_23 => J p l e (rmk 1) s m args below meth c D A Q 9 (mw h cy mthr mfrp mact mtpd msiz matx mfrm mtok mval mfk mfpl mbem mtrs mtrl mrom mtom mnow mfre mkep mtap mlef mtak mbes mrow mint mrnd_8 mplo mhio mtox mtol) 55 [(0, .ref (h 0)), (1, .int p1), (3, .int x3_4), (4, .int (x4_5 - x4_5 / (x5_6 / (p1 - x6_7)) * (x5_6 / (p1 - x6_7)))), (5, .int (x5_6 / (p1 - x6_7))), (6, .int x6_7), (7, .int x7_22), (8, .int x8_23)] []) ?_ hw
        intro r25 ir25 x7_22 x8_23 hf
        unfold X9_laysRound_h55 at hf
        refine jIloadn C dX9_laysRound_55 rfl 2 rfl ?_
        refine jIload C dX9_laysRound_56 7 rfl ?_
        obtain ⟨q26, e27, hf⟩ := bd1_some hf
        refine jSI C (X9_hasBit_ok  e27) sb_X9_hasBit mk_RX9_169 rfl ⟨Nat.le_of_ble_eq_true rfl, Nat.le_of_ble_eq_true rfl⟩ rfl (Nat.le_of_ble_eq_true rfl) dX9_laysRound_58 ?_
        have hL28 : X9_laysRound_j69 x3_4 x8_23 r25 x7_22  = some (omrnd, omplo) → J p l e (rmk 1) s m args below meth c D A Q 9 (mw h cy mthr mfrp mact mtpd msiz matx mfrm mtok mval mfk mfpl mbem mtrs mtrl mrom mtom mnow mfre mkep mtap mlef mtak mbes mrow mint mrnd_8 mplo mhio mtox mtol) 69 [(0, .ref (h 0)), (1, .int p1), (3, .int x3_4), (4, .int (x4_5 - x4_5 / (x5_6 / (p1 - x6_7)) * (x5_6 / (p1 - x6_7)))), (5, .int (x5_6 / (p1 - x6_7))), (6, .int x6_7), (7, .int x7_22), (8, .int x8_23)] [] := by
          intro  hf
          unfold X9_laysRound_j69 at hf
          refine jIload C dX9_laysRound_69 6 rfl ?_
          refine jIloadn C dX9_laysRound_71 rfl 2 rfl ?_
          refine jIload C dX9_laysRound_72 7 rfl ?_
          obtain ⟨q29, e30, hf⟩ := bd1_some hf
          refine jSI C (X9_hasBit_ok  e30) sb_X9_hasBit mk_RX9_169 rfl ⟨Nat.le_of_ble_eq_true rfl, Nat.le_of_ble_eq_true rfl⟩ rfl (Nat.le_of_ble_eq_true rfl) dX9_laysRound_74 ?_
          refine jIfEq C 84 dX9_laysRound_77 (by decide) (fun c31 => ?_) (fun c31 => ?_)
          · replace hf := itp hf c31
            refine jIconst C (1 : Int32) dX9_laysRound_84 ki_1 ?_
            refine jIsub C dX9_laysRound_85 ?_
            refine jIstore C dX9_laysRound_86 (Nat.le_of_ble_eq_true rfl) [(7, .int (x7_22 - (1 : Int32))), (0, .ref (h 0)), (1, .int p1), (3, .int x3_4), (4, .int (x4_5 - x4_5 / (x5_6 / (p1 - x6_7)) * (x5_6 / (p1 - x6_7)))), (5, .int (x5_6 / (p1 - x6_7))), (6, .int x6_7), (8, .int x8_23)] rfl ?_
            refine jIinc C (x8_23 + (1 : Int32)) dX9_laysRound_88 7 rfl (congrArg (fun z : Int32 => x8_23 + z) ki_1) (Nat.le_of_ble_eq_true rfl) [(8, .int (x8_23 + (1 : Int32))), (7, .int (x7_22 - (1 : Int32))), (0, .ref (h 0)), (1, .int p1), (3, .int x3_4), (4, .int (x4_5 - x4_5 / (x5_6 / (p1 - x6_7)) * (x5_6 / (p1 - x6_7)))), (5, .int (x5_6 / (p1 - x6_7))), (6, .int x6_7)] rfl ?_
            refine jGoto C 55 dX9_laysRound_91 (by decide) ?_
            refine jSub [2, 3, 4, 5, 6, 7, 1, 0] rfl ?_
            exact ir25 (x7_22 - (1 : Int32)) (x8_23 + (1 : Int32)) hf
          · replace hf := itn hf c31
            refine jIconst C (0 : Int32) dX9_laysRound_80 ki_0 ?_
            refine jGoto C 85 dX9_laysRound_81 (by decide) ?_
            refine jIsub C dX9_laysRound_85 ?_
            refine jIstore C dX9_laysRound_86 (Nat.le_of_ble_eq_true rfl) [(7, .int (x7_22 - (0 : Int32))), (0, .ref (h 0)), (1, .int p1), (3, .int x3_4), (4, .int (x4_5 - x4_5 / (x5_6 / (p1 - x6_7)) * (x5_6 / (p1 - x6_7)))), (5, .int (x5_6 / (p1 - x6_7))), (6, .int x6_7), (8, .int x8_23)] rfl ?_
            refine jIinc C (x8_23 + (1 : Int32)) dX9_laysRound_88 7 rfl (congrArg (fun z : Int32 => x8_23 + z) ki_1) (Nat.le_of_ble_eq_true rfl) [(8, .int (x8_23 + (1 : Int32))), (7, .int (x7_22 - (0 : Int32))), (0, .ref (h 0)), (1, .int p1), (3, .int x3_4), (4, .int (x4_5 - x4_5 / (x5_6 / (p1 - x6_7)) * (x5_6 / (p1 - x6_7)))), (5, .int (x5_6 / (p1 - x6_7))), (6, .int x6_7)] rfl ?_
            refine jGoto C 55 dX9_laysRound_91 (by decide) ?_
            refine jSub [2, 3, 4, 5, 6, 7, 1, 0] rfl ?_
            exact ir25 (x7_22 - (0 : Int32)) (x8_23 + (1 : Int32)) hf
        refine jIfNe C 69 dX9_laysRound_61 (by decide) (fun c32 => ?_) (fun c32 => ?_)
        · replace hf := itn hf c32
          exact hL28  hf
        · replace hf := itp hf c32
          refine jIload C dX9_laysRound_64 6 rfl ?_
          refine jIfLe C 94 dX9_laysRound_66 (by decide) (fun c33 => ?_) (fun c33 => ?_)
          · replace hf := itp hf c33
            refine jAloadn C dX9_laysRound_94 rfl 0 rfl ?_
            refine gf_RX9_43 C dX9_laysRound_95 ?_
            refine jIload C dX9_laysRound_98 5 rfl ?_
            refine jIload C dX9_laysRound_100 7 rfl ?_
            obtain ⟨z34, hf⟩ := gin_some hf
            refine as_mrnd C z34 dX9_laysRound_102 ?_
            refine jIloadn C dX9_laysRound_103 rfl 2 rfl ?_
            refine jIconst C (1 : Int32) dX9_laysRound_104 ki_1 ?_
            refine jIload C dX9_laysRound_105 7 rfl ?_
            refine jIshl C dX9_laysRound_107 ?_
            refine jIor C dX9_laysRound_108 ?_
            refine jIstoren C dX9_laysRound_109 rfl (Nat.le_of_ble_eq_true rfl) [(3, .int (x3_4 ||| ((1 : Int32) <<< (x8_23 &&& 31)))), (0, .ref (h 0)), (1, .int p1), (4, .int (x4_5 - x4_5 / (x5_6 / (p1 - x6_7)) * (x5_6 / (p1 - x6_7)))), (5, .int (x5_6 / (p1 - x6_7))), (6, .int x6_7), (7, .int x7_22), (8, .int x8_23)] rfl ?_
            refine jIinc C (x6_7 + (1 : Int32)) dX9_laysRound_110 5 rfl (congrArg (fun z : Int32 => x6_7 + z) ki_1) (Nat.le_of_ble_eq_true rfl) [(6, .int (x6_7 + (1 : Int32))), (3, .int (x3_4 ||| ((1 : Int32) <<< (x8_23 &&& 31)))), (0, .ref (h 0)), (1, .int p1), (4, .int (x4_5 - x4_5 / (x5_6 / (p1 - x6_7)) * (x5_6 / (p1 - x6_7)))), (5, .int (x5_6 / (p1 - x6_7))), (7, .int x7_22), (8, .int x8_23)] rfl ?_
            refine jGoto C 23 dX9_laysRound_113 (by decide) ?_
            refine jSub [2, 3, 1, 4, 5, 0] rfl ?_
            exact ir10 (x3_4 ||| ((1 : Int32) <<< (x8_23 &&& 31))) (x4_5 - x4_5 / (x5_6 / (p1 - x6_7)) * (x5_6 / (p1 - x6_7))) (x5_6 / (p1 - x6_7)) (x6_7 + (1 : Int32)) (upd mrnd_8 x6_7.toNatClampNeg x8_23) hf
          · replace hf := itn hf c33
            exact hL28  hf
      refine jSub [4, 5, 6, 1, 3, 7, 2, 0] rfl ?_
      exact hL24 (x4_5 / (x5_6 / (p1 - x6_7))) (0 : Int32) hf
  refine jSub [4, 5, 3, 2, 1, 0] rfl ?_
  exact hL9 (0 : Int32) p2 q2 (1 : Int32) (upd mrnd (0 : Int32).toNatClampNeg (p1 - (1 : Int32))) hf
noncomputable def X9_isArc_h5 (p1 : Int32) (p2 : Int32) (mrnd : Nat → Int32) (r4 : Int32 → Int32 → Option Int32) (x3_1 : Int32) (x4_2 : Int32) : Option Int32 := (if p1 ≤ x4_2 then (if (1 : Int32) < x3_1 then some (0 : Int32) else some (1 : Int32)) else gin x4_2 7 (bd1 (X9_hasBit p2 (mrnd x4_2.toNatClampNeg)) (fun q8 => (if q8 = (0 : Int32) then r4 (x3_1 + (0 : Int32)) (x4_2 + (1 : Int32)) else gnz p1 (gin (((x4_2 + p1) - (1 : Int32)) - ((x4_2 + p1) - (1 : Int32)) / p1 * p1) 7 (bd1 (X9_hasBit p2 (mrnd (((x4_2 + p1) - (1 : Int32)) - ((x4_2 + p1) - (1 : Int32)) / p1 * p1).toNatClampNeg)) (fun q13 => (if q13 = (0 : Int32) then r4 (x3_1 + (1 : Int32)) (x4_2 + (1 : Int32)) else r4 (x3_1 + (0 : Int32)) (x4_2 + (1 : Int32))))))))))
noncomputable def X9_isArc (mrnd : Nat → Int32) (p1 : Int32) (p2 : Int32) : Option Int32 := lfp2 (X9_isArc_h5 p1 p2 mrnd) (0 : Int32) (0 : Int32)
set_option maxHeartbeats 4000000 in
set_option maxRecDepth 20000 in
theorem X9_isArc_ok {p1 : Int32} {p2 : Int32} {rr : Int32}  (hf : X9_isArc mrnd p1 p2 = some rr) : MT yX9_isArc cX9_isArc 5 (some .boolean) 1 [.ref (h 0), .int p1, .int p2] D cy G (mw h cy mthr mfrp mact mtpd msiz matx mfrm mtok mval mfk mfpl mbem mtrs mtrl mrom mtom mnow mfre mkep mtap mlef mtak mbes mrow mint mrnd mplo mhio mtox mtol) (mw h cy mthr mfrp mact mtpd msiz matx mfrm mtok mval mfk mfpl mbem mtrs mtrl mrom mtom mnow mfre mkep mtap mlef mtak mbes mrow mint mrnd mplo mhio mtox mtol) (some (.int rr)) := by
  refine MT.go (own := RX9) [(0, .ref (h 0)), (1, .int p1), (2, .int p2)] (by decide) rfl (Nat.le_of_ble_eq_true rfl) rfl (fun p l e s m args below meth c A Q C hQ => ?_)
  unfold X9_isArc at hf
  refine jIconst C (0 : Int32) dX9_isArc_0 ki_0 ?_
  refine jIstoren C dX9_isArc_1 rfl (Nat.le_of_ble_eq_true rfl) [(3, .int (0 : Int32)), (0, .ref (h 0)), (1, .int p1), (2, .int p2)] rfl ?_
  refine jIconst C (0 : Int32) dX9_isArc_2 ki_0 ?_
  refine jIstore C dX9_isArc_3 (Nat.le_of_ble_eq_true rfl) [(4, .int (0 : Int32)), (3, .int (0 : Int32)), (0, .ref (h 0)), (1, .int p1), (2, .int p2)] rfl ?_
  have hL3 : ∀ (x3_1 : Int32) (x4_2 : Int32), lfp2 (X9_isArc_h5 p1 p2 mrnd) x3_1 x4_2 = some rr → J p l e (rmk 1) s m args below meth c D A Q 5 (mw h cy mthr mfrp mact mtpd msiz matx mfrm mtok mval mfk mfpl mbem mtrs mtrl mrom mtom mnow mfre mkep mtap mlef mtak mbes mrow mint mrnd mplo mhio mtox mtol) 5 [(0, .ref (h 0)), (1, .int p1), (2, .int p2), (3, .int x3_1), (4, .int x4_2)] [] := by
    intro x3_1 x4_2 hw
    refine lfp2_walk (P := fun x3_1 x4_2 => J p l e (rmk 1) s m args below meth c D A Q 5 (mw h cy mthr mfrp mact mtpd msiz matx mfrm mtok mval mfk mfpl mbem mtrs mtrl mrom mtom mnow mfre mkep mtap mlef mtak mbes mrow mint mrnd mplo mhio mtox mtol) 5 [(0, .ref (h 0)), (1, .int p1), (2, .int p2), (3, .int x3_1), (4, .int x4_2)] []) ?_ hw
    intro r4 ir4 x3_1 x4_2 hf
    unfold X9_isArc_h5 at hf
    refine jIload C dX9_isArc_5 4 rfl ?_
    refine jIloadn C dX9_isArc_7 rfl 1 rfl ?_
    refine jCmpGe C 59 dX9_isArc_8 (by decide) (fun c5 => ?_) (fun c5 => ?_)
    · replace hf := itp hf c5
      refine jIloadn C dX9_isArc_59 rfl 3 rfl ?_
      refine jIconst C (1 : Int32) dX9_isArc_60 ki_1 ?_
      refine jCmpGt C 68 dX9_isArc_61 (by decide) (fun c6 => ?_) (fun c6 => ?_)
      · replace hf := itp hf c6
        refine jIconst C (0 : Int32) dX9_isArc_68 ki_0 ?_
        cases hf
        exact jEndIZ C hQ rfl nar_z0 dX9_isArc_69
      · replace hf := itn hf c6
        refine jIconst C (1 : Int32) dX9_isArc_64 ki_1 ?_
        refine jGoto C 69 dX9_isArc_65 (by decide) ?_
        cases hf
        exact jEndIZ C hQ rfl nar_z1 dX9_isArc_69
    · replace hf := itn hf c5
      refine jIloadn C dX9_isArc_11 rfl 3 rfl ?_
      refine jIloadn C dX9_isArc_12 rfl 2 rfl ?_
      refine jAloadn C dX9_isArc_13 rfl 0 rfl ?_
      refine gf_RX9_43 C dX9_isArc_14 ?_
      refine jIload C dX9_isArc_17 4 rfl ?_
      obtain ⟨z7, hf⟩ := gin_some hf
      refine al_mrnd C z7 dX9_isArc_19 ?_
      obtain ⟨q8, e9, hf⟩ := bd1_some hf
      refine jSI C (X9_hasBit_ok  e9) sb_X9_hasBit mk_RX9_169 rfl ⟨Nat.le_of_ble_eq_true rfl, Nat.le_of_ble_eq_true rfl⟩ rfl (Nat.le_of_ble_eq_true rfl) dX9_isArc_20 ?_
      refine jIfEq C 50 dX9_isArc_23 (by decide) (fun c10 => ?_) (fun c10 => ?_)
      · replace hf := itp hf c10
        refine jIconst C (0 : Int32) dX9_isArc_50 ki_0 ?_
        refine jIadd C dX9_isArc_51 ?_
        refine jIstoren C dX9_isArc_52 rfl (Nat.le_of_ble_eq_true rfl) [(3, .int (x3_1 + (0 : Int32))), (0, .ref (h 0)), (1, .int p1), (2, .int p2), (4, .int x4_2)] rfl ?_
        refine jIinc C (x4_2 + (1 : Int32)) dX9_isArc_53 4 rfl (congrArg (fun z : Int32 => x4_2 + z) ki_1) (Nat.le_of_ble_eq_true rfl) [(4, .int (x4_2 + (1 : Int32))), (3, .int (x3_1 + (0 : Int32))), (0, .ref (h 0)), (1, .int p1), (2, .int p2)] rfl ?_
        refine jGoto C 5 dX9_isArc_56 (by decide) ?_
        refine jSub [2, 3, 4, 1, 0] rfl ?_
        exact ir4 (x3_1 + (0 : Int32)) (x4_2 + (1 : Int32)) hf
      · replace hf := itn hf c10
        refine jIloadn C dX9_isArc_26 rfl 2 rfl ?_
        refine jAloadn C dX9_isArc_27 rfl 0 rfl ?_
        refine gf_RX9_43 C dX9_isArc_28 ?_
        refine jIload C dX9_isArc_31 4 rfl ?_
        refine jIloadn C dX9_isArc_33 rfl 1 rfl ?_
        refine jIadd C dX9_isArc_34 ?_
        refine jIconst C (1 : Int32) dX9_isArc_35 ki_1 ?_
        refine jIsub C dX9_isArc_36 ?_
        refine jIloadn C dX9_isArc_37 rfl 1 rfl ?_
        obtain ⟨z11, hf⟩ := gnz_some hf
        refine jIrem C dX9_isArc_38 z11 ?_
        obtain ⟨z12, hf⟩ := gin_some hf
        refine al_mrnd C z12 dX9_isArc_39 ?_
        obtain ⟨q13, e14, hf⟩ := bd1_some hf
        refine jSI C (X9_hasBit_ok  e14) sb_X9_hasBit mk_RX9_169 rfl ⟨Nat.le_of_ble_eq_true rfl, Nat.le_of_ble_eq_true rfl⟩ rfl (Nat.le_of_ble_eq_true rfl) dX9_isArc_40 ?_
        refine jIfNe C 50 dX9_isArc_43 (by decide) (fun c15 => ?_) (fun c15 => ?_)
        · replace hf := itn hf c15
          refine jIconst C (0 : Int32) dX9_isArc_50 ki_0 ?_
          refine jIadd C dX9_isArc_51 ?_
          refine jIstoren C dX9_isArc_52 rfl (Nat.le_of_ble_eq_true rfl) [(3, .int (x3_1 + (0 : Int32))), (0, .ref (h 0)), (1, .int p1), (2, .int p2), (4, .int x4_2)] rfl ?_
          refine jIinc C (x4_2 + (1 : Int32)) dX9_isArc_53 4 rfl (congrArg (fun z : Int32 => x4_2 + z) ki_1) (Nat.le_of_ble_eq_true rfl) [(4, .int (x4_2 + (1 : Int32))), (3, .int (x3_1 + (0 : Int32))), (0, .ref (h 0)), (1, .int p1), (2, .int p2)] rfl ?_
          refine jGoto C 5 dX9_isArc_56 (by decide) ?_
          refine jSub [2, 3, 4, 1, 0] rfl ?_
          exact ir4 (x3_1 + (0 : Int32)) (x4_2 + (1 : Int32)) hf
        · replace hf := itp hf c15
          refine jIconst C (1 : Int32) dX9_isArc_46 ki_1 ?_
          refine jGoto C 51 dX9_isArc_47 (by decide) ?_
          refine jIadd C dX9_isArc_51 ?_
          refine jIstoren C dX9_isArc_52 rfl (Nat.le_of_ble_eq_true rfl) [(3, .int (x3_1 + (1 : Int32))), (0, .ref (h 0)), (1, .int p1), (2, .int p2), (4, .int x4_2)] rfl ?_
          refine jIinc C (x4_2 + (1 : Int32)) dX9_isArc_53 4 rfl (congrArg (fun z : Int32 => x4_2 + z) ki_1) (Nat.le_of_ble_eq_true rfl) [(4, .int (x4_2 + (1 : Int32))), (3, .int (x3_1 + (1 : Int32))), (0, .ref (h 0)), (1, .int p1), (2, .int p2)] rfl ?_
          refine jGoto C 5 dX9_isArc_56 (by decide) ?_
          refine jSub [2, 3, 4, 1, 0] rfl ?_
          exact ir4 (x3_1 + (1 : Int32)) (x4_2 + (1 : Int32)) hf
  refine jSub [2, 3, 4, 1, 0] rfl ?_
  exact hL3 (0 : Int32) (0 : Int32) hf
noncomputable def X9_arcs_h46 (mrnd_13 : Nat → Int32) (mplo_14 : Nat → Int32) (mnow : Nat → Int32) (p1 : Int32) (r19 : Int32 → Int32 → Option (Int32 × (Nat → Int32) × (Nat → Int32))) (x3_16 : Int32) (x4_17 : Int32) : Option (Int32 × (Nat → Int32) × (Nat → Int32)) := (if (128 : Int32) ≤ x4_17 then some (x3_16, mrnd_13, mplo_14) else bd1 (X9_isIn mnow p1 x4_17) (fun q21 => (if q21 = (0 : Int32) then r19 (x3_16 + (0 : Int32)) (x4_17 + (1 : Int32)) else bd1 (X9_points mnow p1) (fun q24 => bd1 (X9_isArc mrnd_13 q24 x4_17) (fun q26 => (if q26 = (0 : Int32) then r19 (x3_16 + (0 : Int32)) (x4_17 + (1 : Int32)) else r19 (x3_16 + (1 : Int32)) (x4_17 + (1 : Int32))))))))
noncomputable def X9_arcs (mnow : Nat → Int32) (mrnd : Nat → Int32) (mplo : Nat → Int32) (p1 : Int32) (p2 : Int32) : Option (Int32 × (Nat → Int32) × (Nat → Int32)) := bd1 (X9_hasOne mnow p1) (fun q1 => (if q1 = (0 : Int32) then some ((-2 : Int32), mrnd, mplo) else bd1 (X9_points mnow p1) (fun q4 => bd1 (X9_rounds0 q4) (fun q6 => bd1 (X9_in (p2.toInt64) (0 : Int64) ((q6 - (1 : Int32)).toInt64)) (fun q8 => (if q8 = (0 : Int32) then some ((-2 : Int32), mrnd, mplo) else bd1 (X9_points mnow p1) (fun q11 => bd2 (X9_laysRound mrnd mplo q11 p2) (fun mrnd_13 mplo_14 => lfp2 (X9_arcs_h46 mrnd_13 mplo_14 mnow p1) (0 : Int32) (0 : Int32)))))))))
set_option maxHeartbeats 4000000 in
set_option maxRecDepth 20000 in
theorem X9_arcs_ok {p1 : Int32} {p2 : Int32} {rr : Int32} {omrnd : Nat → Int32} {omplo : Nat → Int32}  (hf : X9_arcs mnow mrnd mplo p1 p2 = some (rr, omrnd, omplo)) : MT yX9_arcs cX9_arcs 5 (some .int) 3 [.ref (h 0), .int p1, .int p2] D cy G (mw h cy mthr mfrp mact mtpd msiz matx mfrm mtok mval mfk mfpl mbem mtrs mtrl mrom mtom mnow mfre mkep mtap mlef mtak mbes mrow mint mrnd mplo mhio mtox mtol) (mw h cy mthr mfrp mact mtpd msiz matx mfrm mtok mval mfk mfpl mbem mtrs mtrl mrom mtom mnow mfre mkep mtap mlef mtak mbes mrow mint omrnd omplo mhio mtox mtol) (some (.int rr)) := by
  refine MT.go (own := RX9) [(0, .ref (h 0)), (1, .int p1), (2, .int p2)] (by decide) rfl (Nat.le_of_ble_eq_true rfl) rfl (fun p l e s m args below meth c A Q C hQ => ?_)
  unfold X9_arcs at hf
  refine jAloadn C dX9_arcs_0 rfl 0 rfl ?_
  refine jIloadn C dX9_arcs_1 rfl 1 rfl ?_
  obtain ⟨q1, e2, hf⟩ := bd1_some hf
  refine jVI C (X9_hasOne_ok  e2) vb_X9_hasOne mk_RX9_75 rfl rcM ⟨Nat.le_of_ble_eq_true rfl, Nat.le_of_ble_eq_true rfl⟩ rfl (Nat.le_of_ble_eq_true rfl) dX9_arcs_2 ?_
  refine jIfEq C 28 dX9_arcs_5 (by decide) (fun c3 => ?_) (fun c3 => ?_)
  · replace hf := itp hf c3
    refine jBipush C (-2 : Int32) dX9_arcs_28 kb_m2 ?_
    cases hf
    exact jEndI C hQ rfl dX9_arcs_30
  · replace hf := itn hf c3
    refine jIloadn C dX9_arcs_8 rfl 2 rfl ?_
    refine jI2l C dX9_arcs_9 ?_
    refine jLconst C (0 : Int64) dX9_arcs_10 rfl ?_
    refine jAloadn C dX9_arcs_11 rfl 0 rfl ?_
    refine jIloadn C dX9_arcs_12 rfl 1 rfl ?_
    obtain ⟨q4, e5, hf⟩ := bd1_some hf
    refine jVI C (X9_points_ok  e5) vb_X9_points mk_RX9_78 rfl rcM ⟨Nat.le_of_ble_eq_true rfl, Nat.le_of_ble_eq_true rfl⟩ rfl (Nat.le_of_ble_eq_true rfl) dX9_arcs_13 ?_
    obtain ⟨q6, e7, hf⟩ := bd1_some hf
    refine jSI C (X9_rounds0_ok  e7) sb_X9_rounds0 mk_RX9_324 rfl ⟨Nat.le_of_ble_eq_true rfl, Nat.le_of_ble_eq_true rfl⟩ rfl (Nat.le_of_ble_eq_true rfl) dX9_arcs_16 ?_
    refine jIconst C (1 : Int32) dX9_arcs_19 ki_1 ?_
    refine jIsub C dX9_arcs_20 ?_
    refine jI2l C dX9_arcs_21 ?_
    obtain ⟨q8, e9, hf⟩ := bd1_some hf
    refine jSI C (X9_in_ok  e9) sb_X9_in mk_RX9_63 rfl ⟨Nat.le_of_ble_eq_true rfl, Nat.le_of_ble_eq_true rfl⟩ rfl (Nat.le_of_ble_eq_true rfl) dX9_arcs_22 ?_
    refine jIfNe C 31 dX9_arcs_25 (by decide) (fun c10 => ?_) (fun c10 => ?_)
    · replace hf := itn hf c10
      refine jAloadn C dX9_arcs_31 rfl 0 rfl ?_
      refine jAloadn C dX9_arcs_32 rfl 0 rfl ?_
      refine jIloadn C dX9_arcs_33 rfl 1 rfl ?_
      obtain ⟨q11, e12, hf⟩ := bd1_some hf
      refine jVI C (X9_points_ok  e12) vb_X9_points mk_RX9_78 rfl rcM ⟨Nat.le_of_ble_eq_true rfl, Nat.le_of_ble_eq_true rfl⟩ rfl (Nat.le_of_ble_eq_true rfl) dX9_arcs_34 ?_
      refine jIloadn C dX9_arcs_37 rfl 2 rfl ?_
      obtain ⟨mrnd_13, mplo_14, e15, hf⟩ := bd2_some hf
      refine jVV C (X9_laysRound_ok  e15) vb_X9_laysRound mk_RX9_327 rfl rcM ⟨Nat.le_of_ble_eq_true rfl, Nat.le_of_ble_eq_true rfl⟩ rfl (Nat.le_of_ble_eq_true rfl) dX9_arcs_38 ?_
      refine jIconst C (0 : Int32) dX9_arcs_41 ki_0 ?_
      refine jIstoren C dX9_arcs_42 rfl (Nat.le_of_ble_eq_true rfl) [(3, .int (0 : Int32)), (0, .ref (h 0)), (1, .int p1), (2, .int p2)] rfl ?_
      refine jIconst C (0 : Int32) dX9_arcs_43 ki_0 ?_
      refine jIstore C dX9_arcs_44 (Nat.le_of_ble_eq_true rfl) [(4, .int (0 : Int32)), (3, .int (0 : Int32)), (0, .ref (h 0)), (1, .int p1), (2, .int p2)] rfl ?_
      have hL18 : ∀ (x3_16 : Int32) (x4_17 : Int32), lfp2 (X9_arcs_h46 mrnd_13 mplo_14 mnow p1) x3_16 x4_17 = some (rr, omrnd, omplo) → J p l e (rmk 3) s m args below meth c D A Q 5 (mw h cy mthr mfrp mact mtpd msiz matx mfrm mtok mval mfk mfpl mbem mtrs mtrl mrom mtom mnow mfre mkep mtap mlef mtak mbes mrow mint mrnd_13 mplo_14 mhio mtox mtol) 46 [(0, .ref (h 0)), (1, .int p1), (3, .int x3_16), (4, .int x4_17)] [] := by
        intro x3_16 x4_17 hw
        refine lfp2_walk (P := fun x3_16 x4_17 => J p l e (rmk 3) s m args below meth c D A Q 5 (mw h cy mthr mfrp mact mtpd msiz matx mfrm mtok mval mfk mfpl mbem mtrs mtrl mrom mtom mnow mfre mkep mtap mlef mtak mbes mrow mint mrnd_13 mplo_14 mhio mtox mtol) 46 [(0, .ref (h 0)), (1, .int p1), (3, .int x3_16), (4, .int x4_17)] []) ?_ hw
        intro r19 ir19 x3_16 x4_17 hf
        unfold X9_arcs_h46 at hf
        refine jIload C dX9_arcs_46 3 rfl ?_
        refine jSipush C (128 : Int32) dX9_arcs_48 ks_128 ?_
        refine jCmpGe C 92 dX9_arcs_51 (by decide) (fun c20 => ?_) (fun c20 => ?_)
        · replace hf := itp hf c20
          refine jIloadn C dX9_arcs_92 rfl 2 rfl ?_
          cases hf
          exact jEndI C hQ rfl dX9_arcs_93
        · replace hf := itn hf c20
          refine jIloadn C dX9_arcs_54 rfl 2 rfl ?_
          refine jAloadn C dX9_arcs_55 rfl 0 rfl ?_
          refine jIloadn C dX9_arcs_56 rfl 1 rfl ?_
          refine jIload C dX9_arcs_57 3 rfl ?_
          obtain ⟨q21, e22, hf⟩ := bd1_some hf
          refine jVI C (X9_isIn_ok  e22) vb_X9_isIn mk_RX9_81 rfl rcM ⟨Nat.le_of_ble_eq_true rfl, Nat.le_of_ble_eq_true rfl⟩ rfl (Nat.le_of_ble_eq_true rfl) dX9_arcs_59 ?_
          refine jIfEq C 83 dX9_arcs_62 (by decide) (fun c23 => ?_) (fun c23 => ?_)
          · replace hf := itp hf c23
            refine jIconst C (0 : Int32) dX9_arcs_83 ki_0 ?_
            refine jIadd C dX9_arcs_84 ?_
            refine jIstoren C dX9_arcs_85 rfl (Nat.le_of_ble_eq_true rfl) [(3, .int (x3_16 + (0 : Int32))), (0, .ref (h 0)), (1, .int p1), (4, .int x4_17)] rfl ?_
            refine jIinc C (x4_17 + (1 : Int32)) dX9_arcs_86 3 rfl (congrArg (fun z : Int32 => x4_17 + z) ki_1) (Nat.le_of_ble_eq_true rfl) [(4, .int (x4_17 + (1 : Int32))), (3, .int (x3_16 + (0 : Int32))), (0, .ref (h 0)), (1, .int p1)] rfl ?_
            refine jGoto C 46 dX9_arcs_89 (by decide) ?_
            refine jSub [2, 3, 1, 0] rfl ?_
            exact ir19 (x3_16 + (0 : Int32)) (x4_17 + (1 : Int32)) hf
          · replace hf := itn hf c23
            refine jAloadn C dX9_arcs_65 rfl 0 rfl ?_
            refine jAloadn C dX9_arcs_66 rfl 0 rfl ?_
            refine jIloadn C dX9_arcs_67 rfl 1 rfl ?_
            obtain ⟨q24, e25, hf⟩ := bd1_some hf
            refine jVI C (X9_points_ok  e25) vb_X9_points mk_RX9_78 rfl rcM ⟨Nat.le_of_ble_eq_true rfl, Nat.le_of_ble_eq_true rfl⟩ rfl (Nat.le_of_ble_eq_true rfl) dX9_arcs_68 ?_
            refine jIload C dX9_arcs_71 3 rfl ?_
            obtain ⟨q26, e27, hf⟩ := bd1_some hf
            refine jVI C (X9_isArc_ok  e27) vb_X9_isArc mk_RX9_330 rfl rcM ⟨Nat.le_of_ble_eq_true rfl, Nat.le_of_ble_eq_true rfl⟩ rfl (Nat.le_of_ble_eq_true rfl) dX9_arcs_73 ?_
            refine jIfEq C 83 dX9_arcs_76 (by decide) (fun c28 => ?_) (fun c28 => ?_)
            · replace hf := itp hf c28
              refine jIconst C (0 : Int32) dX9_arcs_83 ki_0 ?_
              refine jIadd C dX9_arcs_84 ?_
              refine jIstoren C dX9_arcs_85 rfl (Nat.le_of_ble_eq_true rfl) [(3, .int (x3_16 + (0 : Int32))), (0, .ref (h 0)), (1, .int p1), (4, .int x4_17)] rfl ?_
              refine jIinc C (x4_17 + (1 : Int32)) dX9_arcs_86 3 rfl (congrArg (fun z : Int32 => x4_17 + z) ki_1) (Nat.le_of_ble_eq_true rfl) [(4, .int (x4_17 + (1 : Int32))), (3, .int (x3_16 + (0 : Int32))), (0, .ref (h 0)), (1, .int p1)] rfl ?_
              refine jGoto C 46 dX9_arcs_89 (by decide) ?_
              refine jSub [2, 3, 1, 0] rfl ?_
              exact ir19 (x3_16 + (0 : Int32)) (x4_17 + (1 : Int32)) hf
            · replace hf := itn hf c28
              refine jIconst C (1 : Int32) dX9_arcs_79 ki_1 ?_
              refine jGoto C 84 dX9_arcs_80 (by decide) ?_
              refine jIadd C dX9_arcs_84 ?_
              refine jIstoren C dX9_arcs_85 rfl (Nat.le_of_ble_eq_true rfl) [(3, .int (x3_16 + (1 : Int32))), (0, .ref (h 0)), (1, .int p1), (4, .int x4_17)] rfl ?_
              refine jIinc C (x4_17 + (1 : Int32)) dX9_arcs_86 3 rfl (congrArg (fun z : Int32 => x4_17 + z) ki_1) (Nat.le_of_ble_eq_true rfl) [(4, .int (x4_17 + (1 : Int32))), (3, .int (x3_16 + (1 : Int32))), (0, .ref (h 0)), (1, .int p1)] rfl ?_
              refine jGoto C 46 dX9_arcs_89 (by decide) ?_
              refine jSub [2, 3, 1, 0] rfl ?_
              exact ir19 (x3_16 + (1 : Int32)) (x4_17 + (1 : Int32)) hf
      refine jSub [2, 3, 1, 0] rfl ?_
      exact hL18 (0 : Int32) (0 : Int32) hf
    · replace hf := itp hf c10
      refine jBipush C (-2 : Int32) dX9_arcs_28 kb_m2 ?_
      cases hf
      exact jEndI C hQ rfl dX9_arcs_30
noncomputable def X9_around (mrnd : Nat → Int32) (mplo : Nat → Int32) (p1 : Int32) (p2 : Int32) (p3 : Int32) : Option (Int32 × (Nat → Int32) × (Nat → Int32)) := bd1 (X9_in (p1.toInt64) (1 : Int64) (7 : Int64)) (fun q1 => (if q1 = (0 : Int32) then some ((-2 : Int32), mrnd, mplo) else bd1 (X9_rounds0 p1) (fun q4 => bd1 (X9_in (p2.toInt64) (0 : Int64) ((q4 - (1 : Int32)).toInt64)) (fun q6 => (if q6 = (0 : Int32) then some ((-2 : Int32), mrnd, mplo) else bd1 (X9_in (p3.toInt64) (0 : Int64) ((p1 - (1 : Int32)).toInt64)) (fun q9 => (if q9 = (0 : Int32) then some ((-2 : Int32), mrnd, mplo) else bd2 (X9_laysRound mrnd mplo p1 p2) (fun mrnd_12 mplo_13 => gin p3 7 (some ((mrnd_12 p3.toNatClampNeg), mrnd_12, mplo_13))))))))))
set_option maxHeartbeats 4000000 in
set_option maxRecDepth 20000 in
theorem X9_around_ok {p1 : Int32} {p2 : Int32} {p3 : Int32} {rr : Int32} {omrnd : Nat → Int32} {omplo : Nat → Int32}  (hf : X9_around mrnd mplo p1 p2 p3 = some (rr, omrnd, omplo)) : MT yX9_around cX9_around 4 (some .int) 2 [.ref (h 0), .int p1, .int p2, .int p3] D cy G (mw h cy mthr mfrp mact mtpd msiz matx mfrm mtok mval mfk mfpl mbem mtrs mtrl mrom mtom mnow mfre mkep mtap mlef mtak mbes mrow mint mrnd mplo mhio mtox mtol) (mw h cy mthr mfrp mact mtpd msiz matx mfrm mtok mval mfk mfpl mbem mtrs mtrl mrom mtom mnow mfre mkep mtap mlef mtak mbes mrow mint omrnd omplo mhio mtox mtol) (some (.int rr)) := by
  refine MT.go (own := RX9) [(0, .ref (h 0)), (1, .int p1), (2, .int p2), (3, .int p3)] (by decide) rfl (Nat.le_of_ble_eq_true rfl) rfl (fun p l e s m args below meth c A Q C hQ => ?_)
  unfold X9_around at hf
  refine jIloadn C dX9_around_0 rfl 1 rfl ?_
  refine jI2l C dX9_around_1 ?_
  refine jLconst C (1 : Int64) dX9_around_2 rfl ?_
  refine jLdc2 C (x := (7 : Int64)) lk_RX9_174 dX9_around_3 ?_
  obtain ⟨q1, e2, hf⟩ := bd1_some hf
  refine jSI C (X9_in_ok  e2) sb_X9_in mk_RX9_63 rfl ⟨Nat.le_of_ble_eq_true rfl, Nat.le_of_ble_eq_true rfl⟩ rfl (Nat.le_of_ble_eq_true rfl) dX9_around_6 ?_
  refine jIfEq C 41 dX9_around_9 (by decide) (fun c3 => ?_) (fun c3 => ?_)
  · replace hf := itp hf c3
    refine jBipush C (-2 : Int32) dX9_around_41 kb_m2 ?_
    cases hf
    exact jEndI C hQ rfl dX9_around_43
  · replace hf := itn hf c3
    refine jIloadn C dX9_around_12 rfl 2 rfl ?_
    refine jI2l C dX9_around_13 ?_
    refine jLconst C (0 : Int64) dX9_around_14 rfl ?_
    refine jIloadn C dX9_around_15 rfl 1 rfl ?_
    obtain ⟨q4, e5, hf⟩ := bd1_some hf
    refine jSI C (X9_rounds0_ok  e5) sb_X9_rounds0 mk_RX9_324 rfl ⟨Nat.le_of_ble_eq_true rfl, Nat.le_of_ble_eq_true rfl⟩ rfl (Nat.le_of_ble_eq_true rfl) dX9_around_16 ?_
    refine jIconst C (1 : Int32) dX9_around_19 ki_1 ?_
    refine jIsub C dX9_around_20 ?_
    refine jI2l C dX9_around_21 ?_
    obtain ⟨q6, e7, hf⟩ := bd1_some hf
    refine jSI C (X9_in_ok  e7) sb_X9_in mk_RX9_63 rfl ⟨Nat.le_of_ble_eq_true rfl, Nat.le_of_ble_eq_true rfl⟩ rfl (Nat.le_of_ble_eq_true rfl) dX9_around_22 ?_
    refine jIfEq C 41 dX9_around_25 (by decide) (fun c8 => ?_) (fun c8 => ?_)
    · replace hf := itp hf c8
      refine jBipush C (-2 : Int32) dX9_around_41 kb_m2 ?_
      cases hf
      exact jEndI C hQ rfl dX9_around_43
    · replace hf := itn hf c8
      refine jIloadn C dX9_around_28 rfl 3 rfl ?_
      refine jI2l C dX9_around_29 ?_
      refine jLconst C (0 : Int64) dX9_around_30 rfl ?_
      refine jIloadn C dX9_around_31 rfl 1 rfl ?_
      refine jIconst C (1 : Int32) dX9_around_32 ki_1 ?_
      refine jIsub C dX9_around_33 ?_
      refine jI2l C dX9_around_34 ?_
      obtain ⟨q9, e10, hf⟩ := bd1_some hf
      refine jSI C (X9_in_ok  e10) sb_X9_in mk_RX9_63 rfl ⟨Nat.le_of_ble_eq_true rfl, Nat.le_of_ble_eq_true rfl⟩ rfl (Nat.le_of_ble_eq_true rfl) dX9_around_35 ?_
      refine jIfNe C 44 dX9_around_38 (by decide) (fun c11 => ?_) (fun c11 => ?_)
      · replace hf := itn hf c11
        refine jAloadn C dX9_around_44 rfl 0 rfl ?_
        refine jIloadn C dX9_around_45 rfl 1 rfl ?_
        refine jIloadn C dX9_around_46 rfl 2 rfl ?_
        obtain ⟨mrnd_12, mplo_13, e14, hf⟩ := bd2_some hf
        refine jVV C (X9_laysRound_ok  e14) vb_X9_laysRound mk_RX9_327 rfl rcM ⟨Nat.le_of_ble_eq_true rfl, Nat.le_of_ble_eq_true rfl⟩ rfl (Nat.le_of_ble_eq_true rfl) dX9_around_47 ?_
        refine jAloadn C dX9_around_50 rfl 0 rfl ?_
        refine gf_RX9_43 C dX9_around_51 ?_
        refine jIloadn C dX9_around_54 rfl 3 rfl ?_
        obtain ⟨z15, hf⟩ := gin_some hf
        refine al_mrnd C z15 dX9_around_55 ?_
        cases hf
        exact jEndI C hQ rfl dX9_around_56
      · replace hf := itp hf c11
        refine jBipush C (-2 : Int32) dX9_around_41 kb_m2 ?_
        cases hf
        exact jEndI C hQ rfl dX9_around_43
noncomputable def X9_rounds_h35 (p1 : Int32) (p2 : Int32) (r12 : Int32 → Int32 → (Nat → Int32) → (Nat → Int32) → Option (Int32 × (Nat → Int32) × (Nat → Int32))) (x3_7 : Int32) (x4_8 : Int32) (mrnd_9 : Nat → Int32) (mplo_10 : Nat → Int32) : Option (Int32 × (Nat → Int32) × (Nat → Int32)) := bd1 (X9_rounds0 p1) (fun q13 => (if q13 ≤ x4_8 then some (x3_7, mrnd_9, mplo_10) else bd2 (X9_laysRound mrnd_9 mplo_10 p1 x4_8) (fun mrnd_16 mplo_17 => bd1 (X9_isArc mrnd_16 p1 p2) (fun q19 => (if q19 = (0 : Int32) then r12 (x3_7 + (0 : Int32)) (x4_8 + (1 : Int32)) mrnd_16 mplo_17 else r12 (x3_7 + (1 : Int32)) (x4_8 + (1 : Int32)) mrnd_16 mplo_17)))))
noncomputable def X9_rounds (mrnd : Nat → Int32) (mplo : Nat → Int32) (p1 : Int32) (p2 : Int32) : Option (Int32 × (Nat → Int32) × (Nat → Int32)) := bd1 (X9_in (p1.toInt64) (1 : Int64) (7 : Int64)) (fun q1 => (if q1 = (0 : Int32) then some ((-2 : Int32), mrnd, mplo) else bd1 (X9_in (p2.toInt64) (0 : Int64) ((((1 : Int32) <<< (p1 &&& 31)) - (1 : Int32)).toInt64)) (fun q4 => (if q4 = (0 : Int32) then some ((-2 : Int32), mrnd, mplo) else lfp4 (X9_rounds_h35 p1 p2) (0 : Int32) (0 : Int32) mrnd mplo))))
set_option maxHeartbeats 4000000 in
set_option maxRecDepth 20000 in
theorem X9_rounds_ok {p1 : Int32} {p2 : Int32} {rr : Int32} {omrnd : Nat → Int32} {omplo : Nat → Int32}  (hf : X9_rounds mrnd mplo p1 p2 = some (rr, omrnd, omplo)) : MT yX9_rounds cX9_rounds 5 (some .int) 2 [.ref (h 0), .int p1, .int p2] D cy G (mw h cy mthr mfrp mact mtpd msiz matx mfrm mtok mval mfk mfpl mbem mtrs mtrl mrom mtom mnow mfre mkep mtap mlef mtak mbes mrow mint mrnd mplo mhio mtox mtol) (mw h cy mthr mfrp mact mtpd msiz matx mfrm mtok mval mfk mfpl mbem mtrs mtrl mrom mtom mnow mfre mkep mtap mlef mtak mbes mrow mint omrnd omplo mhio mtox mtol) (some (.int rr)) := by
  refine MT.go (own := RX9) [(0, .ref (h 0)), (1, .int p1), (2, .int p2)] (by decide) rfl (Nat.le_of_ble_eq_true rfl) rfl (fun p l e s m args below meth c A Q C hQ => ?_)
  unfold X9_rounds at hf
  refine jIloadn C dX9_rounds_0 rfl 1 rfl ?_
  refine jI2l C dX9_rounds_1 ?_
  refine jLconst C (1 : Int64) dX9_rounds_2 rfl ?_
  refine jLdc2 C (x := (7 : Int64)) lk_RX9_174 dX9_rounds_3 ?_
  obtain ⟨q1, e2, hf⟩ := bd1_some hf
  refine jSI C (X9_in_ok  e2) sb_X9_in mk_RX9_63 rfl ⟨Nat.le_of_ble_eq_true rfl, Nat.le_of_ble_eq_true rfl⟩ rfl (Nat.le_of_ble_eq_true rfl) dX9_rounds_6 ?_
  refine jIfEq C 27 dX9_rounds_9 (by decide) (fun c3 => ?_) (fun c3 => ?_)
  · replace hf := itp hf c3
    refine jBipush C (-2 : Int32) dX9_rounds_27 kb_m2 ?_
    cases hf
    exact jEndI C hQ rfl dX9_rounds_29
  · replace hf := itn hf c3
    refine jIloadn C dX9_rounds_12 rfl 2 rfl ?_
    refine jI2l C dX9_rounds_13 ?_
    refine jLconst C (0 : Int64) dX9_rounds_14 rfl ?_
    refine jIconst C (1 : Int32) dX9_rounds_15 ki_1 ?_
    refine jIloadn C dX9_rounds_16 rfl 1 rfl ?_
    refine jIshl C dX9_rounds_17 ?_
    refine jIconst C (1 : Int32) dX9_rounds_18 ki_1 ?_
    refine jIsub C dX9_rounds_19 ?_
    refine jI2l C dX9_rounds_20 ?_
    obtain ⟨q4, e5, hf⟩ := bd1_some hf
    refine jSI C (X9_in_ok  e5) sb_X9_in mk_RX9_63 rfl ⟨Nat.le_of_ble_eq_true rfl, Nat.le_of_ble_eq_true rfl⟩ rfl (Nat.le_of_ble_eq_true rfl) dX9_rounds_21 ?_
    refine jIfNe C 30 dX9_rounds_24 (by decide) (fun c6 => ?_) (fun c6 => ?_)
    · replace hf := itn hf c6
      refine jIconst C (0 : Int32) dX9_rounds_30 ki_0 ?_
      refine jIstoren C dX9_rounds_31 rfl (Nat.le_of_ble_eq_true rfl) [(3, .int (0 : Int32)), (0, .ref (h 0)), (1, .int p1), (2, .int p2)] rfl ?_
      refine jIconst C (0 : Int32) dX9_rounds_32 ki_0 ?_
      refine jIstore C dX9_rounds_33 (Nat.le_of_ble_eq_true rfl) [(4, .int (0 : Int32)), (3, .int (0 : Int32)), (0, .ref (h 0)), (1, .int p1), (2, .int p2)] rfl ?_
      have hL11 : ∀ (x3_7 : Int32) (x4_8 : Int32) (mrnd_9 : Nat → Int32) (mplo_10 : Nat → Int32), lfp4 (X9_rounds_h35 p1 p2) x3_7 x4_8 mrnd_9 mplo_10 = some (rr, omrnd, omplo) → J p l e (rmk 2) s m args below meth c D A Q 5 (mw h cy mthr mfrp mact mtpd msiz matx mfrm mtok mval mfk mfpl mbem mtrs mtrl mrom mtom mnow mfre mkep mtap mlef mtak mbes mrow mint mrnd_9 mplo_10 mhio mtox mtol) 35 [(0, .ref (h 0)), (1, .int p1), (2, .int p2), (3, .int x3_7), (4, .int x4_8)] [] := by
        intro x3_7 x4_8 mrnd_9 mplo_10 hw
        refine lfp4_walk (P := fun x3_7 x4_8 mrnd_9 mplo_10 => J p l e (rmk 2) s m args below meth c D A Q 5 (mw h cy mthr mfrp mact mtpd msiz matx mfrm mtok mval mfk mfpl mbem mtrs mtrl mrom mtom mnow mfre mkep mtap mlef mtak mbes mrow mint mrnd_9 mplo_10 mhio mtox mtol) 35 [(0, .ref (h 0)), (1, .int p1), (2, .int p2), (3, .int x3_7), (4, .int x4_8)] []) ?_ hw
        intro r12 ir12 x3_7 x4_8 mrnd_9 mplo_10 hf
        unfold X9_rounds_h35 at hf
        refine jIload C dX9_rounds_35 4 rfl ?_
        refine jIloadn C dX9_rounds_37 rfl 1 rfl ?_
        obtain ⟨q13, e14, hf⟩ := bd1_some hf
        refine jSI C (X9_rounds0_ok  e14) sb_X9_rounds0 mk_RX9_324 rfl ⟨Nat.le_of_ble_eq_true rfl, Nat.le_of_ble_eq_true rfl⟩ rfl (Nat.le_of_ble_eq_true rfl) dX9_rounds_38 ?_
        refine jCmpGe C 74 dX9_rounds_41 (by decide) (fun c15 => ?_) (fun c15 => ?_)
        · replace hf := itp hf c15
          refine jIloadn C dX9_rounds_74 rfl 3 rfl ?_
          cases hf
          exact jEndI C hQ rfl dX9_rounds_75
        · replace hf := itn hf c15
          refine jAloadn C dX9_rounds_44 rfl 0 rfl ?_
          refine jIloadn C dX9_rounds_45 rfl 1 rfl ?_
          refine jIload C dX9_rounds_46 4 rfl ?_
          obtain ⟨mrnd_16, mplo_17, e18, hf⟩ := bd2_some hf
          refine jVV C (X9_laysRound_ok  e18) vb_X9_laysRound mk_RX9_327 rfl rcM ⟨Nat.le_of_ble_eq_true rfl, Nat.le_of_ble_eq_true rfl⟩ rfl (Nat.le_of_ble_eq_true rfl) dX9_rounds_48 ?_
          refine jIloadn C dX9_rounds_51 rfl 3 rfl ?_
          refine jAloadn C dX9_rounds_52 rfl 0 rfl ?_
          refine jIloadn C dX9_rounds_53 rfl 1 rfl ?_
          refine jIloadn C dX9_rounds_54 rfl 2 rfl ?_
          obtain ⟨q19, e20, hf⟩ := bd1_some hf
          refine jVI C (X9_isArc_ok  e20) vb_X9_isArc mk_RX9_330 rfl rcM ⟨Nat.le_of_ble_eq_true rfl, Nat.le_of_ble_eq_true rfl⟩ rfl (Nat.le_of_ble_eq_true rfl) dX9_rounds_55 ?_
          refine jIfEq C 65 dX9_rounds_58 (by decide) (fun c21 => ?_) (fun c21 => ?_)
          · replace hf := itp hf c21
            refine jIconst C (0 : Int32) dX9_rounds_65 ki_0 ?_
            refine jIadd C dX9_rounds_66 ?_
            refine jIstoren C dX9_rounds_67 rfl (Nat.le_of_ble_eq_true rfl) [(3, .int (x3_7 + (0 : Int32))), (0, .ref (h 0)), (1, .int p1), (2, .int p2), (4, .int x4_8)] rfl ?_
            refine jIinc C (x4_8 + (1 : Int32)) dX9_rounds_68 4 rfl (congrArg (fun z : Int32 => x4_8 + z) ki_1) (Nat.le_of_ble_eq_true rfl) [(4, .int (x4_8 + (1 : Int32))), (3, .int (x3_7 + (0 : Int32))), (0, .ref (h 0)), (1, .int p1), (2, .int p2)] rfl ?_
            refine jGoto C 35 dX9_rounds_71 (by decide) ?_
            refine jSub [2, 3, 4, 1, 0] rfl ?_
            exact ir12 (x3_7 + (0 : Int32)) (x4_8 + (1 : Int32)) mrnd_16 mplo_17 hf
          · replace hf := itn hf c21
            refine jIconst C (1 : Int32) dX9_rounds_61 ki_1 ?_
            refine jGoto C 66 dX9_rounds_62 (by decide) ?_
            refine jIadd C dX9_rounds_66 ?_
            refine jIstoren C dX9_rounds_67 rfl (Nat.le_of_ble_eq_true rfl) [(3, .int (x3_7 + (1 : Int32))), (0, .ref (h 0)), (1, .int p1), (2, .int p2), (4, .int x4_8)] rfl ?_
            refine jIinc C (x4_8 + (1 : Int32)) dX9_rounds_68 4 rfl (congrArg (fun z : Int32 => x4_8 + z) ki_1) (Nat.le_of_ble_eq_true rfl) [(4, .int (x4_8 + (1 : Int32))), (3, .int (x3_7 + (1 : Int32))), (0, .ref (h 0)), (1, .int p1), (2, .int p2)] rfl ?_
            refine jGoto C 35 dX9_rounds_71 (by decide) ?_
            refine jSub [2, 3, 4, 1, 0] rfl ?_
            exact ir12 (x3_7 + (1 : Int32)) (x4_8 + (1 : Int32)) mrnd_16 mplo_17 hf
      refine jSub [2, 3, 4, 1, 0] rfl ?_
      exact hL11 (0 : Int32) (0 : Int32) mrnd mplo hf
    · replace hf := itp hf c6
      refine jBipush C (-2 : Int32) dX9_rounds_27 kb_m2 ?_
      cases hf
      exact jEndI C hQ rfl dX9_rounds_29
noncomputable def X9_divisor_h6  (r4 : Int64 → Int64 → Option Int64) (x4_1 : Int64) (x6_2 : Int64) : Option Int64 := (if (lg_cmp x6_2 (0 : Int64)) = (0 : Int32) then some x4_1 else gnzL x6_2 (r4 x6_2 (x4_1 - x4_1 / x6_2 * x6_2)))
noncomputable def X9_divisor (p0 : Int64) (p2 : Int64) : Option Int64 := lfp2 X9_divisor_h6 p0 p2
set_option maxHeartbeats 4000000 in
set_option maxRecDepth 20000 in
theorem X9_divisor_ok {D : va_G} {cy : Nat → ClassId} {G : Nat → Nat} {ws : va_W} {p0 : Int64} {p2 : Int64} {rr : Int64}  (hf : X9_divisor p0 p2 = some rr) : MT yX9_divisor cX9_divisor 10 (some .long) 0 [.long p0, .long p2] D cy G ws ws (some (.long rr)) := by
  refine MT.go (own := RX9) [(0, .long p0), (2, .long p2)] (by decide) rfl (Nat.le_of_ble_eq_true rfl) rfl (fun p l e s m args below meth c A Q C hQ => ?_)
  unfold X9_divisor at hf
  refine jLloadn C dX9_divisor_0 rfl 0 rfl ?_
  refine jLstore C dX9_divisor_1 (Nat.le_of_ble_eq_true rfl) [(4, .long p0), (0, .long p0), (2, .long p2)] rfl ?_
  refine jLloadn C dX9_divisor_3 rfl 2 rfl ?_
  refine jLstore C dX9_divisor_4 (Nat.le_of_ble_eq_true rfl) [(6, .long p2), (4, .long p0), (0, .long p0), (2, .long p2)] rfl ?_
  have hL3 : ∀ (x4_1 : Int64) (x6_2 : Int64), lfp2 X9_divisor_h6 x4_1 x6_2 = some rr → J p l e (rmk 0) s m args below meth c D A Q 10 ws 6 [(4, .long x4_1), (6, .long x6_2)] [] := by
    intro x4_1 x6_2 hw
    refine lfp2_walk (P := fun x4_1 x6_2 => J p l e (rmk 0) s m args below meth c D A Q 10 ws 6 [(4, .long x4_1), (6, .long x6_2)] []) ?_ hw
    intro r4 ir4 x4_1 x6_2 hf
    unfold X9_divisor_h6 at hf
    refine jLload C dX9_divisor_6 1 rfl ?_
    refine jLconst C (0 : Int64) dX9_divisor_8 rfl ?_
    refine jLcmp C dX9_divisor_9 ?_
    refine jIfEq C 31 dX9_divisor_10 (by decide) (fun c5 => ?_) (fun c5 => ?_)
    · replace hf := itp hf c5
      refine jLload C dX9_divisor_31 0 rfl ?_
      cases hf
      exact jEndL C hQ rfl dX9_divisor_33
    · replace hf := itn hf c5
      refine jLload C dX9_divisor_13 0 rfl ?_
      refine jLload C dX9_divisor_15 1 rfl ?_
      obtain ⟨z6, hf⟩ := gnzL_some hf
      refine jLrem C dX9_divisor_17 z6 ?_
      refine jLstore C dX9_divisor_18 (Nat.le_of_ble_eq_true rfl) [(8, .long (x4_1 - x4_1 / x6_2 * x6_2)), (4, .long x4_1), (6, .long x6_2)] rfl ?_
      refine jLload C dX9_divisor_20 2 rfl ?_
      refine jLstore C dX9_divisor_22 (Nat.le_of_ble_eq_true rfl) [(4, .long x6_2), (8, .long (x4_1 - x4_1 / x6_2 * x6_2)), (6, .long x6_2)] rfl ?_
      refine jLload C dX9_divisor_24 1 rfl ?_
      refine jLstore C dX9_divisor_26 (Nat.le_of_ble_eq_true rfl) [(6, .long (x4_1 - x4_1 / x6_2 * x6_2)), (4, .long x6_2), (8, .long (x4_1 - x4_1 / x6_2 * x6_2))] rfl ?_
      refine jGoto C 6 dX9_divisor_28 (by decide) ?_
      refine jSub [1, 0] rfl ?_
      exact ir4 x6_2 (x4_1 - x4_1 / x6_2 * x6_2) hf
  refine jSub [1, 0] rfl ?_
  exact hL3 p0 p2 hf
noncomputable def X9_sum_h31 (p2 : Int32) (mnow : Nat → Int32) (p1 : Int32) (r10 : Int64 → Int32 → Option Int32) (x5_7 : Int64) (x7_8 : Int32) : Option Int32 := (if (128 : Int32) ≤ x7_8 then bd1 (X9_divisor (420 : Int64) x5_7) (fun q12 => (if p2 = (0 : Int32) then gnzL q12 (some ((x5_7 / q12).toInt32)) else gnzL q12 (some (((420 : Int64) / q12).toInt32)))) else bd1 (X9_isIn mnow p1 x7_8) (fun q17 => (if q17 = (0 : Int32) then r10 (x5_7 + (0 : Int64)) (x7_8 + (1 : Int32)) else bd1 (X9_points mnow p1) (fun q20 => bd1 (X9_bits x7_8) (fun q22 => bd1 (X9_chosen q20 q22) (fun q24 => gnzL q24 (r10 (x5_7 + ((420 : Int64) / q24)) (x7_8 + (1 : Int32)))))))))
noncomputable def X9_sum (mnow : Nat → Int32) (p1 : Int32) (p2 : Int32) : Option Int32 := bd1 (X9_hasOne mnow p1) (fun q1 => (if q1 = (0 : Int32) then some (-2 : Int32) else bd1 (X9_in (p2.toInt64) (0 : Int64) (1 : Int64)) (fun q4 => (if q4 = (0 : Int32) then some (-2 : Int32) else lfp2 (X9_sum_h31 p2 mnow p1) (0 : Int64) (0 : Int32)))))
set_option maxHeartbeats 4000000 in
set_option maxRecDepth 20000 in
theorem X9_sum_ok {p1 : Int32} {p2 : Int32} {rr : Int32}  (hf : X9_sum mnow p1 p2 = some rr) : MT yX9_sum cX9_sum 9 (some .int) 3 [.ref (h 0), .int p1, .int p2] D cy G (mw h cy mthr mfrp mact mtpd msiz matx mfrm mtok mval mfk mfpl mbem mtrs mtrl mrom mtom mnow mfre mkep mtap mlef mtak mbes mrow mint mrnd mplo mhio mtox mtol) (mw h cy mthr mfrp mact mtpd msiz matx mfrm mtok mval mfk mfpl mbem mtrs mtrl mrom mtom mnow mfre mkep mtap mlef mtak mbes mrow mint mrnd mplo mhio mtox mtol) (some (.int rr)) := by
  refine MT.go (own := RX9) [(0, .ref (h 0)), (1, .int p1), (2, .int p2)] (by decide) rfl (Nat.le_of_ble_eq_true rfl) rfl (fun p l e s m args below meth c A Q C hQ => ?_)
  unfold X9_sum at hf
  refine jAloadn C dX9_sum_0 rfl 0 rfl ?_
  refine jIloadn C dX9_sum_1 rfl 1 rfl ?_
  obtain ⟨q1, e2, hf⟩ := bd1_some hf
  refine jVI C (X9_hasOne_ok  e2) vb_X9_hasOne mk_RX9_75 rfl rcM ⟨Nat.le_of_ble_eq_true rfl, Nat.le_of_ble_eq_true rfl⟩ rfl (Nat.le_of_ble_eq_true rfl) dX9_sum_2 ?_
  refine jIfEq C 18 dX9_sum_5 (by decide) (fun c3 => ?_) (fun c3 => ?_)
  · replace hf := itp hf c3
    refine jBipush C (-2 : Int32) dX9_sum_18 kb_m2 ?_
    cases hf
    exact jEndI C hQ rfl dX9_sum_20
  · replace hf := itn hf c3
    refine jIloadn C dX9_sum_8 rfl 2 rfl ?_
    refine jI2l C dX9_sum_9 ?_
    refine jLconst C (0 : Int64) dX9_sum_10 rfl ?_
    refine jLconst C (1 : Int64) dX9_sum_11 rfl ?_
    obtain ⟨q4, e5, hf⟩ := bd1_some hf
    refine jSI C (X9_in_ok  e5) sb_X9_in mk_RX9_63 rfl ⟨Nat.le_of_ble_eq_true rfl, Nat.le_of_ble_eq_true rfl⟩ rfl (Nat.le_of_ble_eq_true rfl) dX9_sum_12 ?_
    refine jIfNe C 21 dX9_sum_15 (by decide) (fun c6 => ?_) (fun c6 => ?_)
    · replace hf := itn hf c6
      refine jLdc2 C (x := (420 : Int64)) lk_RX9_333 dX9_sum_21 ?_
      refine jLstoren C dX9_sum_24 rfl (Nat.le_of_ble_eq_true rfl) [(3, .long (420 : Int64)), (0, .ref (h 0)), (1, .int p1), (2, .int p2)] rfl ?_
      refine jLconst C (0 : Int64) dX9_sum_25 rfl ?_
      refine jLstore C dX9_sum_26 (Nat.le_of_ble_eq_true rfl) [(5, .long (0 : Int64)), (3, .long (420 : Int64)), (0, .ref (h 0)), (1, .int p1), (2, .int p2)] rfl ?_
      refine jIconst C (0 : Int32) dX9_sum_28 ki_0 ?_
      refine jIstore C dX9_sum_29 (Nat.le_of_ble_eq_true rfl) [(7, .int (0 : Int32)), (5, .long (0 : Int64)), (3, .long (420 : Int64)), (0, .ref (h 0)), (1, .int p1), (2, .int p2)] rfl ?_
      have hL9 : ∀ (x5_7 : Int64) (x7_8 : Int32), lfp2 (X9_sum_h31 p2 mnow p1) x5_7 x7_8 = some rr → J p l e (rmk 3) s m args below meth c D A Q 9 (mw h cy mthr mfrp mact mtpd msiz matx mfrm mtok mval mfk mfpl mbem mtrs mtrl mrom mtom mnow mfre mkep mtap mlef mtak mbes mrow mint mrnd mplo mhio mtox mtol) 31 [(0, .ref (h 0)), (1, .int p1), (2, .int p2), (3, .long (420 : Int64)), (5, .long x5_7), (7, .int x7_8)] [] := by
        intro x5_7 x7_8 hw
        refine lfp2_walk (P := fun x5_7 x7_8 => J p l e (rmk 3) s m args below meth c D A Q 9 (mw h cy mthr mfrp mact mtpd msiz matx mfrm mtok mval mfk mfpl mbem mtrs mtrl mrom mtom mnow mfre mkep mtap mlef mtak mbes mrow mint mrnd mplo mhio mtox mtol) 31 [(0, .ref (h 0)), (1, .int p1), (2, .int p2), (3, .long (420 : Int64)), (5, .long x5_7), (7, .int x7_8)] []) ?_ hw
        intro r10 ir10 x5_7 x7_8 hf
        unfold X9_sum_h31 at hf
        refine jIload C dX9_sum_31 5 rfl ?_
        refine jSipush C (128 : Int32) dX9_sum_33 ks_128 ?_
        refine jCmpGe C 79 dX9_sum_36 (by decide) (fun c11 => ?_) (fun c11 => ?_)
        · replace hf := itp hf c11
          refine jLloadn C dX9_sum_79 rfl 3 rfl ?_
          refine jLload C dX9_sum_80 4 rfl ?_
          obtain ⟨q12, e13, hf⟩ := bd1_some hf
          refine jSL C (X9_divisor_ok  e13) sb_X9_divisor mk_RX9_335 rfl ⟨Nat.le_of_ble_eq_true rfl, Nat.le_of_ble_eq_true rfl⟩ rfl (Nat.le_of_ble_eq_true rfl) dX9_sum_82 ?_
          refine jLstore C dX9_sum_85 (Nat.le_of_ble_eq_true rfl) [(7, .long q12), (0, .ref (h 0)), (1, .int p1), (2, .int p2), (3, .long (420 : Int64)), (5, .long x5_7)] rfl ?_
          refine jIloadn C dX9_sum_87 rfl 3 rfl ?_
          refine jIfNe C 99 dX9_sum_88 (by decide) (fun c14 => ?_) (fun c14 => ?_)
          · replace hf := itn hf c14
            refine jLloadn C dX9_sum_99 rfl 4 rfl ?_
            refine jLload C dX9_sum_100 0 rfl ?_
            obtain ⟨z15, hf⟩ := gnzL_some hf
            refine jLdiv C dX9_sum_102 z15 ?_
            refine jL2i C dX9_sum_103 ?_
            cases hf
            exact jEndI C hQ rfl dX9_sum_104
          · replace hf := itp hf c14
            refine jLload C dX9_sum_91 5 rfl ?_
            refine jLload C dX9_sum_93 0 rfl ?_
            obtain ⟨z16, hf⟩ := gnzL_some hf
            refine jLdiv C dX9_sum_95 z16 ?_
            refine jGoto C 103 dX9_sum_96 (by decide) ?_
            refine jL2i C dX9_sum_103 ?_
            cases hf
            exact jEndI C hQ rfl dX9_sum_104
        · replace hf := itn hf c11
          refine jLload C dX9_sum_39 4 rfl ?_
          refine jAloadn C dX9_sum_41 rfl 0 rfl ?_
          refine jIloadn C dX9_sum_42 rfl 1 rfl ?_
          refine jIload C dX9_sum_43 5 rfl ?_
          obtain ⟨q17, e18, hf⟩ := bd1_some hf
          refine jVI C (X9_isIn_ok  e18) vb_X9_isIn mk_RX9_81 rfl rcM ⟨Nat.le_of_ble_eq_true rfl, Nat.le_of_ble_eq_true rfl⟩ rfl (Nat.le_of_ble_eq_true rfl) dX9_sum_45 ?_
          refine jIfEq C 69 dX9_sum_48 (by decide) (fun c19 => ?_) (fun c19 => ?_)
          · replace hf := itp hf c19
            refine jLconst C (0 : Int64) dX9_sum_69 rfl ?_
            refine jLadd C dX9_sum_70 ?_
            refine jLstore C dX9_sum_71 (Nat.le_of_ble_eq_true rfl) [(5, .long (x5_7 + (0 : Int64))), (0, .ref (h 0)), (1, .int p1), (2, .int p2), (3, .long (420 : Int64)), (7, .int x7_8)] rfl ?_
            refine jIinc C (x7_8 + (1 : Int32)) dX9_sum_73 5 rfl (congrArg (fun z : Int32 => x7_8 + z) ki_1) (Nat.le_of_ble_eq_true rfl) [(7, .int (x7_8 + (1 : Int32))), (5, .long (x5_7 + (0 : Int64))), (0, .ref (h 0)), (1, .int p1), (2, .int p2), (3, .long (420 : Int64))] rfl ?_
            refine jGoto C 31 dX9_sum_76 (by decide) ?_
            refine jSub [2, 3, 4, 5, 1, 0] rfl ?_
            exact ir10 (x5_7 + (0 : Int64)) (x7_8 + (1 : Int32)) hf
          · replace hf := itn hf c19
            refine jLloadn C dX9_sum_51 rfl 3 rfl ?_
            refine jAloadn C dX9_sum_52 rfl 0 rfl ?_
            refine jIloadn C dX9_sum_53 rfl 1 rfl ?_
            obtain ⟨q20, e21, hf⟩ := bd1_some hf
            refine jVI C (X9_points_ok  e21) vb_X9_points mk_RX9_78 rfl rcM ⟨Nat.le_of_ble_eq_true rfl, Nat.le_of_ble_eq_true rfl⟩ rfl (Nat.le_of_ble_eq_true rfl) dX9_sum_54 ?_
            refine jIload C dX9_sum_57 5 rfl ?_
            obtain ⟨q22, e23, hf⟩ := bd1_some hf
            refine jSI C (X9_bits_ok  e23) sb_X9_bits mk_RX9_198 rfl ⟨Nat.le_of_ble_eq_true rfl, Nat.le_of_ble_eq_true rfl⟩ rfl (Nat.le_of_ble_eq_true rfl) dX9_sum_59 ?_
            obtain ⟨q24, e25, hf⟩ := bd1_some hf
            refine jSL C (X9_chosen_ok  e25) sb_X9_chosen mk_RX9_281 rfl ⟨Nat.le_of_ble_eq_true rfl, Nat.le_of_ble_eq_true rfl⟩ rfl (Nat.le_of_ble_eq_true rfl) dX9_sum_62 ?_
            obtain ⟨z26, hf⟩ := gnzL_some hf
            refine jLdiv C dX9_sum_65 z26 ?_
            refine jGoto C 70 dX9_sum_66 (by decide) ?_
            refine jLadd C dX9_sum_70 ?_
            refine jLstore C dX9_sum_71 (Nat.le_of_ble_eq_true rfl) [(5, .long (x5_7 + ((420 : Int64) / q24))), (0, .ref (h 0)), (1, .int p1), (2, .int p2), (3, .long (420 : Int64)), (7, .int x7_8)] rfl ?_
            refine jIinc C (x7_8 + (1 : Int32)) dX9_sum_73 5 rfl (congrArg (fun z : Int32 => x7_8 + z) ki_1) (Nat.le_of_ble_eq_true rfl) [(7, .int (x7_8 + (1 : Int32))), (5, .long (x5_7 + ((420 : Int64) / q24))), (0, .ref (h 0)), (1, .int p1), (2, .int p2), (3, .long (420 : Int64))] rfl ?_
            refine jGoto C 31 dX9_sum_76 (by decide) ?_
            refine jSub [2, 3, 4, 5, 1, 0] rfl ?_
            exact ir10 (x5_7 + ((420 : Int64) / q24)) (x7_8 + (1 : Int32)) hf
      refine jSub [3, 4, 5, 2, 1, 0] rfl ?_
      exact hL9 (0 : Int64) (0 : Int32) hf
    · replace hf := itp hf c6
      refine jBipush C (-2 : Int32) dX9_sum_18 kb_m2 ?_
      cases hf
      exact jEndI C hQ rfl dX9_sum_20
noncomputable def X9_isShattered_h24 (r3 : Int32 → Option Int32) (x3_1 : Int32) (mnow : Nat → Int32) (p1 : Int32) (p2 : Int32) (r9 : Int32 → Int32 → Option Int32) (x4_6 : Int32) (x5_7 : Int32) : Option Int32 := (if (128 : Int32) ≤ x5_7 then (if x4_6 = (0 : Int32) then some (0 : Int32) else r3 (x3_1 + (1 : Int32))) else (if x4_6 = (0 : Int32) then bd1 (X9_isIn mnow p1 x5_7) (fun q14 => (if q14 = (0 : Int32) then r9 (0 : Int32) (x5_7 + (1 : Int32)) else (if (x5_7 &&& p2) = x3_1 then r9 (1 : Int32) (x5_7 + (1 : Int32)) else r9 (0 : Int32) (x5_7 + (1 : Int32))))) else (if x4_6 = (0 : Int32) then some (0 : Int32) else r3 (x3_1 + (1 : Int32)))))
noncomputable def X9_isShattered_h2 (p2 : Int32) (mnow : Nat → Int32) (p1 : Int32) (r3 : Int32 → Option Int32) (x3_1 : Int32) : Option Int32 := (if p2 < x3_1 then some (1 : Int32) else (if (x3_1 &&& (p2 ^^^ (-1 : Int32))) = (0 : Int32) then lfp2 (X9_isShattered_h24 r3 x3_1 mnow p1 p2) (0 : Int32) (0 : Int32) else r3 (x3_1 + (1 : Int32))))
noncomputable def X9_isShattered (mnow : Nat → Int32) (p1 : Int32) (p2 : Int32) : Option Int32 := lfp1 (X9_isShattered_h2 p2 mnow p1) (0 : Int32)
set_option maxHeartbeats 4000000 in
set_option maxRecDepth 20000 in
theorem X9_isShattered_ok {p1 : Int32} {p2 : Int32} {rr : Int32}  (hf : X9_isShattered mnow p1 p2 = some rr) : MT yX9_isShattered cX9_isShattered 6 (some .boolean) 2 [.ref (h 0), .int p1, .int p2] D cy G (mw h cy mthr mfrp mact mtpd msiz matx mfrm mtok mval mfk mfpl mbem mtrs mtrl mrom mtom mnow mfre mkep mtap mlef mtak mbes mrow mint mrnd mplo mhio mtox mtol) (mw h cy mthr mfrp mact mtpd msiz matx mfrm mtok mval mfk mfpl mbem mtrs mtrl mrom mtom mnow mfre mkep mtap mlef mtak mbes mrow mint mrnd mplo mhio mtox mtol) (some (.int rr)) := by
  refine MT.go (own := RX9) [(0, .ref (h 0)), (1, .int p1), (2, .int p2)] (by decide) rfl (Nat.le_of_ble_eq_true rfl) rfl (fun p l e s m args below meth c A Q C hQ => ?_)
  unfold X9_isShattered at hf
  refine jIconst C (0 : Int32) dX9_isShattered_0 ki_0 ?_
  refine jIstoren C dX9_isShattered_1 rfl (Nat.le_of_ble_eq_true rfl) [(3, .int (0 : Int32)), (0, .ref (h 0)), (1, .int p1), (2, .int p2)] rfl ?_
  have hL2 : ∀ (x3_1 : Int32), lfp1 (X9_isShattered_h2 p2 mnow p1) x3_1 = some rr → J p l e (rmk 2) s m args below meth c D A Q 6 (mw h cy mthr mfrp mact mtpd msiz matx mfrm mtok mval mfk mfpl mbem mtrs mtrl mrom mtom mnow mfre mkep mtap mlef mtak mbes mrow mint mrnd mplo mhio mtox mtol) 2 [(0, .ref (h 0)), (1, .int p1), (2, .int p2), (3, .int x3_1)] [] := by
    intro x3_1 hw
    refine lfp1_walk (P := fun x3_1 => J p l e (rmk 2) s m args below meth c D A Q 6 (mw h cy mthr mfrp mact mtpd msiz matx mfrm mtok mval mfk mfpl mbem mtrs mtrl mrom mtom mnow mfre mkep mtap mlef mtak mbes mrow mint mrnd mplo mhio mtox mtol) 2 [(0, .ref (h 0)), (1, .int p1), (2, .int p2), (3, .int x3_1)] []) ?_ hw
    intro r3 ir3 x3_1 hf
    unfold X9_isShattered_h2 at hf
    refine jIloadn C dX9_isShattered_2 rfl 3 rfl ?_
    refine jIloadn C dX9_isShattered_3 rfl 2 rfl ?_
    refine jCmpGt C 81 dX9_isShattered_4 (by decide) (fun c4 => ?_) (fun c4 => ?_)
    · replace hf := itp hf c4
      refine jIconst C (1 : Int32) dX9_isShattered_81 ki_1 ?_
      cases hf
      exact jEndIZ C hQ rfl nar_z1 dX9_isShattered_82
    · replace hf := itn hf c4
      refine jIloadn C dX9_isShattered_7 rfl 3 rfl ?_
      refine jIloadn C dX9_isShattered_8 rfl 2 rfl ?_
      refine jIconst C (-1 : Int32) dX9_isShattered_9 ki_m1 ?_
      refine jIxor C dX9_isShattered_10 ?_
      refine jIand C dX9_isShattered_11 ?_
      refine jIfEq C 18 dX9_isShattered_12 (by decide) (fun c5 => ?_) (fun c5 => ?_)
      · replace hf := itp hf c5
        refine jIconst C (0 : Int32) dX9_isShattered_18 ki_0 ?_
        refine jIstore C dX9_isShattered_19 (Nat.le_of_ble_eq_true rfl) [(4, .int (0 : Int32)), (0, .ref (h 0)), (1, .int p1), (2, .int p2), (3, .int x3_1)] rfl ?_
        refine jIconst C (0 : Int32) dX9_isShattered_21 ki_0 ?_
        refine jIstore C dX9_isShattered_22 (Nat.le_of_ble_eq_true rfl) [(5, .int (0 : Int32)), (4, .int (0 : Int32)), (0, .ref (h 0)), (1, .int p1), (2, .int p2), (3, .int x3_1)] rfl ?_
        have hL8 : ∀ (x4_6 : Int32) (x5_7 : Int32), lfp2 (X9_isShattered_h24 r3 x3_1 mnow p1 p2) x4_6 x5_7 = some rr → J p l e (rmk 2) s m args below meth c D A Q 6 (mw h cy mthr mfrp mact mtpd msiz matx mfrm mtok mval mfk mfpl mbem mtrs mtrl mrom mtom mnow mfre mkep mtap mlef mtak mbes mrow mint mrnd mplo mhio mtox mtol) 24 [(0, .ref (h 0)), (1, .int p1), (2, .int p2), (3, .int x3_1), (4, .int x4_6), (5, .int x5_7)] [] := by
          intro x4_6 x5_7 hw
          refine lfp2_walk (P := fun x4_6 x5_7 => J p l e (rmk 2) s m args below meth c D A Q 6 (mw h cy mthr mfrp mact mtpd msiz matx mfrm mtok mval mfk mfpl mbem mtrs mtrl mrom mtom mnow mfre mkep mtap mlef mtak mbes mrow mint mrnd mplo mhio mtox mtol) 24 [(0, .ref (h 0)), (1, .int p1), (2, .int p2), (3, .int x3_1), (4, .int x4_6), (5, .int x5_7)] []) ?_ hw
          intro r9 ir9 x4_6 x5_7 hf
          unfold X9_isShattered_h24 at hf
          refine jIload C dX9_isShattered_24 5 rfl ?_
          refine jSipush C (128 : Int32) dX9_isShattered_26 ks_128 ?_
          refine jCmpGe C 68 dX9_isShattered_29 (by decide) (fun c10 => ?_) (fun c10 => ?_)
          · replace hf := itp hf c10
            refine jIload C dX9_isShattered_68 4 rfl ?_
            refine jIfNe C 75 dX9_isShattered_70 (by decide) (fun c11 => ?_) (fun c11 => ?_)
            · replace hf := itn hf c11
              refine jIinc C (x3_1 + (1 : Int32)) dX9_isShattered_75 3 rfl (congrArg (fun z : Int32 => x3_1 + z) ki_1) (Nat.le_of_ble_eq_true rfl) [(3, .int (x3_1 + (1 : Int32))), (0, .ref (h 0)), (1, .int p1), (2, .int p2), (4, .int x4_6), (5, .int x5_7)] rfl ?_
              refine jGoto C 2 dX9_isShattered_78 (by decide) ?_
              refine jSub [1, 2, 3, 0] rfl ?_
              exact ir3 (x3_1 + (1 : Int32)) hf
            · replace hf := itp hf c11
              refine jIconst C (0 : Int32) dX9_isShattered_73 ki_0 ?_
              cases hf
              exact jEndIZ C hQ rfl nar_z0 dX9_isShattered_74
          · replace hf := itn hf c10
            refine jIload C dX9_isShattered_32 4 rfl ?_
            refine jIfNe C 68 dX9_isShattered_34 (by decide) (fun c12 => ?_) (fun c12 => ?_)
            · replace hf := itn hf c12
              refine jIload C dX9_isShattered_68 4 rfl ?_
              refine jIfNe C 75 dX9_isShattered_70 (by decide) (fun c13 => ?_) (fun c13 => ?_)
              · replace hf := itn hf c13
                refine jIinc C (x3_1 + (1 : Int32)) dX9_isShattered_75 3 rfl (congrArg (fun z : Int32 => x3_1 + z) ki_1) (Nat.le_of_ble_eq_true rfl) [(3, .int (x3_1 + (1 : Int32))), (0, .ref (h 0)), (1, .int p1), (2, .int p2), (4, .int x4_6), (5, .int x5_7)] rfl ?_
                refine jGoto C 2 dX9_isShattered_78 (by decide) ?_
                refine jSub [1, 2, 3, 0] rfl ?_
                exact ir3 (x3_1 + (1 : Int32)) hf
              · replace hf := itp hf c13
                refine jIconst C (0 : Int32) dX9_isShattered_73 ki_0 ?_
                cases hf
                exact jEndIZ C hQ rfl nar_z0 dX9_isShattered_74
            · replace hf := itp hf c12
              refine jAloadn C dX9_isShattered_37 rfl 0 rfl ?_
              refine jIloadn C dX9_isShattered_38 rfl 1 rfl ?_
              refine jIload C dX9_isShattered_39 5 rfl ?_
              obtain ⟨q14, e15, hf⟩ := bd1_some hf
              refine jVI C (X9_isIn_ok  e15) vb_X9_isIn mk_RX9_81 rfl rcM ⟨Nat.le_of_ble_eq_true rfl, Nat.le_of_ble_eq_true rfl⟩ rfl (Nat.le_of_ble_eq_true rfl) dX9_isShattered_41 ?_
              refine jIfEq C 59 dX9_isShattered_44 (by decide) (fun c16 => ?_) (fun c16 => ?_)
              · replace hf := itp hf c16
                refine jIconst C (0 : Int32) dX9_isShattered_59 ki_0 ?_
                refine jIstore C dX9_isShattered_60 (Nat.le_of_ble_eq_true rfl) [(4, .int (0 : Int32)), (0, .ref (h 0)), (1, .int p1), (2, .int p2), (3, .int x3_1), (5, .int x5_7)] rfl ?_
                refine jIinc C (x5_7 + (1 : Int32)) dX9_isShattered_62 5 rfl (congrArg (fun z : Int32 => x5_7 + z) ki_1) (Nat.le_of_ble_eq_true rfl) [(5, .int (x5_7 + (1 : Int32))), (4, .int (0 : Int32)), (0, .ref (h 0)), (1, .int p1), (2, .int p2), (3, .int x3_1)] rfl ?_
                refine jGoto C 24 dX9_isShattered_65 (by decide) ?_
                refine jSub [2, 3, 4, 5, 1, 0] rfl ?_
                exact ir9 (0 : Int32) (x5_7 + (1 : Int32)) hf
              · replace hf := itn hf c16
                refine jIload C dX9_isShattered_47 5 rfl ?_
                refine jIloadn C dX9_isShattered_49 rfl 2 rfl ?_
                refine jIand C dX9_isShattered_50 ?_
                refine jIloadn C dX9_isShattered_51 rfl 3 rfl ?_
                refine jCmpNe C 59 dX9_isShattered_52 (by decide) (fun c17 => ?_) (fun c17 => ?_)
                · replace hf := itn hf c17
                  refine jIconst C (0 : Int32) dX9_isShattered_59 ki_0 ?_
                  refine jIstore C dX9_isShattered_60 (Nat.le_of_ble_eq_true rfl) [(4, .int (0 : Int32)), (0, .ref (h 0)), (1, .int p1), (2, .int p2), (3, .int x3_1), (5, .int x5_7)] rfl ?_
                  refine jIinc C (x5_7 + (1 : Int32)) dX9_isShattered_62 5 rfl (congrArg (fun z : Int32 => x5_7 + z) ki_1) (Nat.le_of_ble_eq_true rfl) [(5, .int (x5_7 + (1 : Int32))), (4, .int (0 : Int32)), (0, .ref (h 0)), (1, .int p1), (2, .int p2), (3, .int x3_1)] rfl ?_
                  refine jGoto C 24 dX9_isShattered_65 (by decide) ?_
                  refine jSub [2, 3, 4, 5, 1, 0] rfl ?_
                  exact ir9 (0 : Int32) (x5_7 + (1 : Int32)) hf
                · replace hf := itp hf c17
                  refine jIconst C (1 : Int32) dX9_isShattered_55 ki_1 ?_
                  refine jGoto C 60 dX9_isShattered_56 (by decide) ?_
                  refine jIstore C dX9_isShattered_60 (Nat.le_of_ble_eq_true rfl) [(4, .int (1 : Int32)), (0, .ref (h 0)), (1, .int p1), (2, .int p2), (3, .int x3_1), (5, .int x5_7)] rfl ?_
                  refine jIinc C (x5_7 + (1 : Int32)) dX9_isShattered_62 5 rfl (congrArg (fun z : Int32 => x5_7 + z) ki_1) (Nat.le_of_ble_eq_true rfl) [(5, .int (x5_7 + (1 : Int32))), (4, .int (1 : Int32)), (0, .ref (h 0)), (1, .int p1), (2, .int p2), (3, .int x3_1)] rfl ?_
                  refine jGoto C 24 dX9_isShattered_65 (by decide) ?_
                  refine jSub [2, 3, 4, 5, 1, 0] rfl ?_
                  exact ir9 (1 : Int32) (x5_7 + (1 : Int32)) hf
        refine jSub [2, 3, 4, 5, 1, 0] rfl ?_
        exact hL8 (0 : Int32) (0 : Int32) hf
      · replace hf := itn hf c5
        refine jGoto C 75 dX9_isShattered_15 (by decide) ?_
        refine jIinc C (x3_1 + (1 : Int32)) dX9_isShattered_75 3 rfl (congrArg (fun z : Int32 => x3_1 + z) ki_1) (Nat.le_of_ble_eq_true rfl) [(3, .int (x3_1 + (1 : Int32))), (0, .ref (h 0)), (1, .int p1), (2, .int p2)] rfl ?_
        refine jGoto C 2 dX9_isShattered_78 (by decide) ?_
        refine jSub [1, 2, 3, 0] rfl ?_
        exact ir3 (x3_1 + (1 : Int32)) hf
  refine jSub [1, 2, 3, 0] rfl ?_
  exact hL2 (0 : Int32) hf
noncomputable def X9_shattered (mnow : Nat → Int32) (p1 : Int32) (p2 : Int32) : Option Int32 := bd1 (X9_isSet mnow p1 p2) (fun q1 => (if q1 = (0 : Int32) then some (-2 : Int32) else bd1 (X9_isShattered mnow p1 p2) (fun q4 => (if q4 = (0 : Int32) then some (0 : Int32) else some (1 : Int32)))))
set_option maxHeartbeats 4000000 in
set_option maxRecDepth 20000 in
theorem X9_shattered_ok {p1 : Int32} {p2 : Int32} {rr : Int32}  (hf : X9_shattered mnow p1 p2 = some rr) : MT yX9_shattered cX9_shattered 3 (some .int) 4 [.ref (h 0), .int p1, .int p2] D cy G (mw h cy mthr mfrp mact mtpd msiz matx mfrm mtok mval mfk mfpl mbem mtrs mtrl mrom mtom mnow mfre mkep mtap mlef mtak mbes mrow mint mrnd mplo mhio mtox mtol) (mw h cy mthr mfrp mact mtpd msiz matx mfrm mtok mval mfk mfpl mbem mtrs mtrl mrom mtom mnow mfre mkep mtap mlef mtak mbes mrow mint mrnd mplo mhio mtox mtol) (some (.int rr)) := by
  refine MT.go (own := RX9) [(0, .ref (h 0)), (1, .int p1), (2, .int p2)] (by decide) rfl (Nat.le_of_ble_eq_true rfl) rfl (fun p l e s m args below meth c A Q C hQ => ?_)
  unfold X9_shattered at hf
  refine jAloadn C dX9_shattered_0 rfl 0 rfl ?_
  refine jIloadn C dX9_shattered_1 rfl 1 rfl ?_
  refine jIloadn C dX9_shattered_2 rfl 2 rfl ?_
  obtain ⟨q1, e2, hf⟩ := bd1_some hf
  refine jVI C (X9_isSet_ok  e2) vb_X9_isSet mk_RX9_210 rfl rcM ⟨Nat.le_of_ble_eq_true rfl, Nat.le_of_ble_eq_true rfl⟩ rfl (Nat.le_of_ble_eq_true rfl) dX9_shattered_3 ?_
  refine jIfNe C 12 dX9_shattered_6 (by decide) (fun c3 => ?_) (fun c3 => ?_)
  · replace hf := itn hf c3
    refine jAloadn C dX9_shattered_12 rfl 0 rfl ?_
    refine jIloadn C dX9_shattered_13 rfl 1 rfl ?_
    refine jIloadn C dX9_shattered_14 rfl 2 rfl ?_
    obtain ⟨q4, e5, hf⟩ := bd1_some hf
    refine jVI C (X9_isShattered_ok  e5) vb_X9_isShattered mk_RX9_339 rfl rcM ⟨Nat.le_of_ble_eq_true rfl, Nat.le_of_ble_eq_true rfl⟩ rfl (Nat.le_of_ble_eq_true rfl) dX9_shattered_15 ?_
    refine jIfEq C 25 dX9_shattered_18 (by decide) (fun c6 => ?_) (fun c6 => ?_)
    · replace hf := itp hf c6
      refine jIconst C (0 : Int32) dX9_shattered_25 ki_0 ?_
      cases hf
      exact jEndI C hQ rfl dX9_shattered_26
    · replace hf := itn hf c6
      refine jIconst C (1 : Int32) dX9_shattered_21 ki_1 ?_
      refine jGoto C 26 dX9_shattered_22 (by decide) ?_
      cases hf
      exact jEndI C hQ rfl dX9_shattered_26
  · replace hf := itp hf c3
    refine jBipush C (-2 : Int32) dX9_shattered_9 kb_m2 ?_
    cases hf
    exact jEndI C hQ rfl dX9_shattered_11
end WK
