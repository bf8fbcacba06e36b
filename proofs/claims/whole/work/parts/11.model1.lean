section WK
variable {g h : Nat → Nat} {cP : Nat → Int32} {cLo : Nat → Int64} {cHi : Nat → Int64} {cpl : Nat → Int32} {ctb : Nat → Int32} {ctl : Int32} {ctf : Int32} {ctp : Int32} {ctk : Int32} {cts : Int32} {cth : Int32} {cob : Nat → Int32} {col : Int32} {cso : Nat → Int32} {cha : Int32} {chs : Int32} {cbe : Int32} {ctr : Int32} {cgl : Nat → Int64} {cgh : Nat → Int64} {cll : Nat → Int64} {clh : Nat → Int64} {cta : Nat → Int32} {cme : Nat → Int32} {cps : Int32} {cwh : Nat → Int32} {cal : Nat → Int64} {cah : Nat → Int64} {mthr : Int32} {mfrp : Int32} {mact : Int32} {mtpd : Int32} {msiz : Int32} {matx : Int32} {mfrm : Int32} {mtok : Int32} {mval : Int32} {mfk : Int32} {mfpl : Int32} {mbem : Int32} {mtrs : Int32} {mtrl : Int32} {mrom : Int32} {mtom : Int32} {mnow : Nat → Int32} {mfre : Nat → Int32} {mkep : Nat → Int32} {mtap : Nat → Int32} {mlef : Nat → Int32} {mtak : Nat → Int32} {mbes : Nat → Int32} {mrow : Nat → Int32} {mint : Nat → Int32} {mrnd : Nat → Int32} {mplo : Nat → Int32} {mhio : Nat → Int32} {mtox : Nat → Int32} {mtol : Nat → Int32}
variable {D : va_G} {cy : Nat → ClassId} {G : Nat → Nat}
noncomputable def X9_in (p0 : Int64) (p2 : Int64) (p4 : Int64) : Option Int32 := (if (lg_cmp p0 p2) < (0 : Int32) then some (0 : Int32) else (if (0 : Int32) < (lg_cmp p0 p4) then some (0 : Int32) else some (1 : Int32)))
set_option maxHeartbeats 4000000 in
set_option maxRecDepth 20000 in
theorem X9_in_ok {D : va_G} {cy : Nat → ClassId} {G : Nat → Nat} {ws : va_W} {p0 : Int64} {p2 : Int64} {p4 : Int64} {rr : Int32}  (hf : X9_in p0 p2 p4 = some rr) : MT yX9_in cX9_in 6 (some .boolean) 0 [.long p0, .long p2, .long p4] D cy G ws ws (some (.int rr)) := by
  refine MT.go (own := RX9) [(0, .long p0), (2, .long p2), (4, .long p4)] (by decide) rfl (Nat.le_of_ble_eq_true rfl) rfl (fun p l e s m args below meth c A Q C hQ => ?_)
  unfold X9_in at hf
  refine jLloadn C dX9_in_0 rfl 0 rfl ?_
  refine jLloadn C dX9_in_1 rfl 1 rfl ?_
  refine jLcmp C dX9_in_2 ?_
  refine jIfLt C 17 dX9_in_3 (by decide) (fun c1 => ?_) (fun c1 => ?_)
  · replace hf := itp hf c1
    refine jIconst C (0 : Int32) dX9_in_17 ki_0 ?_
    cases hf
    exact jEndIZ C hQ rfl nar_z0 dX9_in_18
  · replace hf := itn hf c1
    refine jLloadn C dX9_in_6 rfl 0 rfl ?_
    refine jLload C dX9_in_7 2 rfl ?_
    refine jLcmp C dX9_in_9 ?_
    refine jIfGt C 17 dX9_in_10 (by decide) (fun c2 => ?_) (fun c2 => ?_)
    · replace hf := itp hf c2
      refine jIconst C (0 : Int32) dX9_in_17 ki_0 ?_
      cases hf
      exact jEndIZ C hQ rfl nar_z0 dX9_in_18
    · replace hf := itn hf c2
      refine jIconst C (1 : Int32) dX9_in_13 ki_1 ?_
      refine jGoto C 18 dX9_in_14 (by decide) ?_
      cases hf
      exact jEndIZ C hQ rfl nar_z1 dX9_in_18
noncomputable def X9_hasBit (p0 : Int32) (p1 : Int32) : Option Int32 := (if ((p0 >>> (p1 &&& 31)) &&& (1 : Int32)) = (1 : Int32) then some (1 : Int32) else some (0 : Int32))
set_option maxHeartbeats 4000000 in
set_option maxRecDepth 20000 in
theorem X9_hasBit_ok {D : va_G} {cy : Nat → ClassId} {G : Nat → Nat} {ws : va_W} {p0 : Int32} {p1 : Int32} {rr : Int32}  (hf : X9_hasBit p0 p1 = some rr) : MT yX9_hasBit cX9_hasBit 2 (some .boolean) 0 [.int p0, .int p1] D cy G ws ws (some (.int rr)) := by
  refine MT.go (own := RX9) [(0, .int p0), (1, .int p1)] (by decide) rfl (Nat.le_of_ble_eq_true rfl) rfl (fun p l e s m args below meth c A Q C hQ => ?_)
  unfold X9_hasBit at hf
  refine jIloadn C dX9_hasBit_0 rfl 0 rfl ?_
  refine jIloadn C dX9_hasBit_1 rfl 1 rfl ?_
  refine jIshr C dX9_hasBit_2 ?_
  refine jIconst C (1 : Int32) dX9_hasBit_3 ki_1 ?_
  refine jIand C dX9_hasBit_4 ?_
  refine jIconst C (1 : Int32) dX9_hasBit_5 ki_1 ?_
  refine jCmpNe C 13 dX9_hasBit_6 (by decide) (fun c1 => ?_) (fun c1 => ?_)
  · replace hf := itn hf c1
    refine jIconst C (0 : Int32) dX9_hasBit_13 ki_0 ?_
    cases hf
    exact jEndIZ C hQ rfl nar_z0 dX9_hasBit_14
  · replace hf := itp hf c1
    refine jIconst C (1 : Int32) dX9_hasBit_9 ki_1 ?_
    refine jGoto C 14 dX9_hasBit_10 (by decide) ?_
    cases hf
    exact jEndIZ C hQ rfl nar_z1 dX9_hasBit_14
noncomputable def X9_bits_h4  (r4 : Int32 → Int32 → Option Int32) (x1_1 : Int32) (x2_2 : Int32) : Option Int32 := (if x2_2 = (0 : Int32) then some x1_1 else r4 (x1_1 + (1 : Int32)) (x2_2 &&& (x2_2 - (1 : Int32))))
noncomputable def X9_bits (p0 : Int32) : Option Int32 := lfp2 X9_bits_h4 (0 : Int32) p0
set_option maxHeartbeats 4000000 in
set_option maxRecDepth 20000 in
theorem X9_bits_ok {D : va_G} {cy : Nat → ClassId} {G : Nat → Nat} {ws : va_W} {p0 : Int32} {rr : Int32}  (hf : X9_bits p0 = some rr) : MT yX9_bits cX9_bits 3 (some .int) 0 [.int p0] D cy G ws ws (some (.int rr)) := by
  refine MT.go (own := RX9) [(0, .int p0)] (by decide) rfl (Nat.le_of_ble_eq_true rfl) rfl (fun p l e s m args below meth c A Q C hQ => ?_)
  unfold X9_bits at hf
  refine jIconst C (0 : Int32) dX9_bits_0 ki_0 ?_
  refine jIstoren C dX9_bits_1 rfl (Nat.le_of_ble_eq_true rfl) [(1, .int (0 : Int32)), (0, .int p0)] rfl ?_
  refine jIloadn C dX9_bits_2 rfl 1 rfl ?_
  refine jIstoren C dX9_bits_3 rfl (Nat.le_of_ble_eq_true rfl) [(2, .int p0), (1, .int (0 : Int32)), (0, .int p0)] rfl ?_
  have hL3 : ∀ (x1_1 : Int32) (x2_2 : Int32), lfp2 X9_bits_h4 x1_1 x2_2 = some rr → J p l e (rmk 0) s m args below meth c D A Q 3 ws 4 [(1, .int x1_1), (2, .int x2_2)] [] := by
    intro x1_1 x2_2 hw
    refine lfp2_walk (P := fun x1_1 x2_2 => J p l e (rmk 0) s m args below meth c D A Q 3 ws 4 [(1, .int x1_1), (2, .int x2_2)] []) ?_ hw
    intro r4 ir4 x1_1 x2_2 hf
    unfold X9_bits_h4 at hf
    refine jIloadn C dX9_bits_4 rfl 1 rfl ?_
    refine jIfEq C 20 dX9_bits_5 (by decide) (fun c5 => ?_) (fun c5 => ?_)
    · replace hf := itp hf c5
      refine jIloadn C dX9_bits_20 rfl 0 rfl ?_
      cases hf
      exact jEndI C hQ rfl dX9_bits_21
    · replace hf := itn hf c5
      refine jIinc C (x1_1 + (1 : Int32)) dX9_bits_8 0 rfl (congrArg (fun z : Int32 => x1_1 + z) ki_1) (Nat.le_of_ble_eq_true rfl) [(1, .int (x1_1 + (1 : Int32))), (2, .int x2_2)] rfl ?_
      refine jIloadn C dX9_bits_11 rfl 1 rfl ?_
      refine jIloadn C dX9_bits_12 rfl 1 rfl ?_
      refine jIconst C (1 : Int32) dX9_bits_13 ki_1 ?_
      refine jIsub C dX9_bits_14 ?_
      refine jIand C dX9_bits_15 ?_
      refine jIstoren C dX9_bits_16 rfl (Nat.le_of_ble_eq_true rfl) [(2, .int (x2_2 &&& (x2_2 - (1 : Int32)))), (1, .int (x1_1 + (1 : Int32)))] rfl ?_
      refine jGoto C 4 dX9_bits_17 (by decide) ?_
      refine jSub [1, 0] rfl ?_
      exact ir4 (x1_1 + (1 : Int32)) (x2_2 &&& (x2_2 - (1 : Int32))) hf
  refine jSub [1, 0] rfl ?_
  exact hL3 (0 : Int32) p0 hf
noncomputable def X9_base (p0 : Int32) : Option Int32 := some ((129 : Int32) * p0)
set_option maxHeartbeats 4000000 in
set_option maxRecDepth 20000 in
theorem X9_base_ok {D : va_G} {cy : Nat → ClassId} {G : Nat → Nat} {ws : va_W} {p0 : Int32} {rr : Int32}  (hf : X9_base p0 = some rr) : MT yX9_base cX9_base 1 (some .int) 0 [.int p0] D cy G ws ws (some (.int rr)) := by
  refine MT.go (own := RX9) [(0, .int p0)] (by decide) rfl (Nat.le_of_ble_eq_true rfl) rfl (fun p l e s m args below meth c A Q C hQ => ?_)
  unfold X9_base at hf
  refine jSipush C (129 : Int32) dX9_base_0 ks_129 ?_
  refine jIloadn C dX9_base_3 rfl 0 rfl ?_
  refine jImul C dX9_base_4 ?_
  cases hf
  exact jEndI C hQ rfl dX9_base_5
noncomputable def X9_isSlot (p0 : Int32) : Option Int32 := bd1 (X9_in (p0.toInt64) (0 : Int64) (2 : Int64)) (fun q1 => gbo q1 (some q1))
set_option maxHeartbeats 4000000 in
set_option maxRecDepth 20000 in
theorem X9_isSlot_ok {D : va_G} {cy : Nat → ClassId} {G : Nat → Nat} {ws : va_W} {p0 : Int32} {rr : Int32}  (hf : X9_isSlot p0 = some rr) : MT yX9_isSlot cX9_isSlot 1 (some .boolean) 1 [.int p0] D cy G ws ws (some (.int rr)) := by
  refine MT.go (own := RX9) [(0, .int p0)] (by decide) rfl (Nat.le_of_ble_eq_true rfl) rfl (fun p l e s m args below meth c A Q C hQ => ?_)
  unfold X9_isSlot at hf
  refine jIloadn C dX9_isSlot_0 rfl 0 rfl ?_
  refine jI2l C dX9_isSlot_1 ?_
  refine jLconst C (0 : Int64) dX9_isSlot_2 rfl ?_
  refine jLdc2 C (x := (2 : Int64)) lk_RX9_61 dX9_isSlot_3 ?_
  obtain ⟨q1, e2, hf⟩ := bd1_some hf
  refine jSI C (X9_in_ok  e2) sb_X9_in mk_RX9_63 rfl ⟨Nat.le_of_ble_eq_true rfl, Nat.le_of_ble_eq_true rfl⟩ rfl (Nat.le_of_ble_eq_true rfl) dX9_isSlot_6 ?_
  obtain ⟨z3, hf⟩ := gbo_some hf
  cases hf
  exact jEndIZ C hQ rfl z3 dX9_isSlot_9
noncomputable def X9_hasOne (mnow : Nat → Int32) (p1 : Int32) : Option Int32 := bd1 (X9_isSlot p1) (fun q1 => (if q1 = (0 : Int32) then some (0 : Int32) else bd1 (X9_base p1) (fun q4 => gin q4 387 ((if (mnow q4.toNatClampNeg) ≤ (0 : Int32) then some (0 : Int32) else some (1 : Int32))))))
set_option maxHeartbeats 4000000 in
set_option maxRecDepth 20000 in
theorem X9_hasOne_ok {p1 : Int32} {rr : Int32}  (hf : X9_hasOne mnow p1 = some rr) : MT yX9_hasOne cX9_hasOne 2 (some .boolean) 2 [.ref (h 0), .int p1] D cy G (mw h cy mthr mfrp mact mtpd msiz matx mfrm mtok mval mfk mfpl mbem mtrs mtrl mrom mtom mnow mfre mkep mtap mlef mtak mbes mrow mint mrnd mplo mhio mtox mtol) (mw h cy mthr mfrp mact mtpd msiz matx mfrm mtok mval mfk mfpl mbem mtrs mtrl mrom mtom mnow mfre mkep mtap mlef mtak mbes mrow mint mrnd mplo mhio mtox mtol) (some (.int rr)) := by
  refine MT.go (own := RX9) [(0, .ref (h 0)), (1, .int p1)] (by decide) rfl (Nat.le_of_ble_eq_true rfl) rfl (fun p l e s m args below meth c A Q C hQ => ?_)
  unfold X9_hasOne at hf
  refine jIloadn C dX9_hasOne_0 rfl 1 rfl ?_
  obtain ⟨q1, e2, hf⟩ := bd1_some hf
  refine jSI C (X9_isSlot_ok  e2) sb_X9_isSlot mk_RX9_67 rfl ⟨Nat.le_of_ble_eq_true rfl, Nat.le_of_ble_eq_true rfl⟩ rfl (Nat.le_of_ble_eq_true rfl) dX9_hasOne_1 ?_
  refine jIfEq C 23 dX9_hasOne_4 (by decide) (fun c3 => ?_) (fun c3 => ?_)
  · replace hf := itp hf c3
    refine jIconst C (0 : Int32) dX9_hasOne_23 ki_0 ?_
    cases hf
    exact jEndIZ C hQ rfl nar_z0 dX9_hasOne_24
  · replace hf := itn hf c3
    refine jAloadn C dX9_hasOne_7 rfl 0 rfl ?_
    refine gf_RX9_9 C dX9_hasOne_8 ?_
    refine jIloadn C dX9_hasOne_11 rfl 1 rfl ?_
    obtain ⟨q4, e5, hf⟩ := bd1_some hf
    refine jSI C (X9_base_ok  e5) sb_X9_base mk_RX9_71 rfl ⟨Nat.le_of_ble_eq_true rfl, Nat.le_of_ble_eq_true rfl⟩ rfl (Nat.le_of_ble_eq_true rfl) dX9_hasOne_12 ?_
    obtain ⟨z6, hf⟩ := gin_some hf
    refine al_mnow C z6 dX9_hasOne_15 ?_
    refine jIfLe C 23 dX9_hasOne_16 (by decide) (fun c7 => ?_) (fun c7 => ?_)
    · replace hf := itp hf c7
      refine jIconst C (0 : Int32) dX9_hasOne_23 ki_0 ?_
      cases hf
      exact jEndIZ C hQ rfl nar_z0 dX9_hasOne_24
    · replace hf := itn hf c7
      refine jIconst C (1 : Int32) dX9_hasOne_19 ki_1 ?_
      refine jGoto C 24 dX9_hasOne_20 (by decide) ?_
      cases hf
      exact jEndIZ C hQ rfl nar_z1 dX9_hasOne_24
noncomputable def X9_points (mnow : Nat → Int32) (p1 : Int32) : Option Int32 := bd1 (X9_base p1) (fun q1 => gin q1 387 (some (mnow q1.toNatClampNeg)))
set_option maxHeartbeats 4000000 in
set_option maxRecDepth 20000 in
theorem X9_points_ok {p1 : Int32} {rr : Int32}  (hf : X9_points mnow p1 = some rr) : MT yX9_points cX9_points 2 (some .int) 1 [.ref (h 0), .int p1] D cy G (mw h cy mthr mfrp mact mtpd msiz matx mfrm mtok mval mfk mfpl mbem mtrs mtrl mrom mtom mnow mfre mkep mtap mlef mtak mbes mrow mint mrnd mplo mhio mtox mtol) (mw h cy mthr mfrp mact mtpd msiz matx mfrm mtok mval mfk mfpl mbem mtrs mtrl mrom mtom mnow mfre mkep mtap mlef mtak mbes mrow mint mrnd mplo mhio mtox mtol) (some (.int rr)) := by
  refine MT.go (own := RX9) [(0, .ref (h 0)), (1, .int p1)] (by decide) rfl (Nat.le_of_ble_eq_true rfl) rfl (fun p l e s m args below meth c A Q C hQ => ?_)
  unfold X9_points at hf
  refine jAloadn C dX9_points_0 rfl 0 rfl ?_
  refine gf_RX9_9 C dX9_points_1 ?_
  refine jIloadn C dX9_points_4 rfl 1 rfl ?_
  obtain ⟨q1, e2, hf⟩ := bd1_some hf
  refine jSI C (X9_base_ok  e2) sb_X9_base mk_RX9_71 rfl ⟨Nat.le_of_ble_eq_true rfl, Nat.le_of_ble_eq_true rfl⟩ rfl (Nat.le_of_ble_eq_true rfl) dX9_points_5 ?_
  obtain ⟨z3, hf⟩ := gin_some hf
  refine al_mnow C z3 dX9_points_8 ?_
  cases hf
  exact jEndI C hQ rfl dX9_points_9
noncomputable def X9_isIn (mnow : Nat → Int32) (p1 : Int32) (p2 : Int32) : Option Int32 := bd1 (X9_base p1) (fun q1 => gin ((q1 + (1 : Int32)) + p2) 387 ((if (mnow ((q1 + (1 : Int32)) + p2).toNatClampNeg) = (1 : Int32) then some (1 : Int32) else some (0 : Int32))))
set_option maxHeartbeats 4000000 in
set_option maxRecDepth 20000 in
theorem X9_isIn_ok {p1 : Int32} {p2 : Int32} {rr : Int32}  (hf : X9_isIn mnow p1 p2 = some rr) : MT yX9_isIn cX9_isIn 3 (some .boolean) 1 [.ref (h 0), .int p1, .int p2] D cy G (mw h cy mthr mfrp mact mtpd msiz matx mfrm mtok mval mfk mfpl mbem mtrs mtrl mrom mtom mnow mfre mkep mtap mlef mtak mbes mrow mint mrnd mplo mhio mtox mtol) (mw h cy mthr mfrp mact mtpd msiz matx mfrm mtok mval mfk mfpl mbem mtrs mtrl mrom mtom mnow mfre mkep mtap mlef mtak mbes mrow mint mrnd mplo mhio mtox mtol) (some (.int rr)) := by
  refine MT.go (own := RX9) [(0, .ref (h 0)), (1, .int p1), (2, .int p2)] (by decide) rfl (Nat.le_of_ble_eq_true rfl) rfl (fun p l e s m args below meth c A Q C hQ => ?_)
  unfold X9_isIn at hf
  refine jAloadn C dX9_isIn_0 rfl 0 rfl ?_
  refine gf_RX9_9 C dX9_isIn_1 ?_
  refine jIloadn C dX9_isIn_4 rfl 1 rfl ?_
  obtain ⟨q1, e2, hf⟩ := bd1_some hf
  refine jSI C (X9_base_ok  e2) sb_X9_base mk_RX9_71 rfl ⟨Nat.le_of_ble_eq_true rfl, Nat.le_of_ble_eq_true rfl⟩ rfl (Nat.le_of_ble_eq_true rfl) dX9_isIn_5 ?_
  refine jIconst C (1 : Int32) dX9_isIn_8 ki_1 ?_
  refine jIadd C dX9_isIn_9 ?_
  refine jIloadn C dX9_isIn_10 rfl 2 rfl ?_
  refine jIadd C dX9_isIn_11 ?_
  obtain ⟨z3, hf⟩ := gin_some hf
  refine al_mnow C z3 dX9_isIn_12 ?_
  refine jIconst C (1 : Int32) dX9_isIn_13 ki_1 ?_
  refine jCmpNe C 21 dX9_isIn_14 (by decide) (fun c4 => ?_) (fun c4 => ?_)
  · replace hf := itn hf c4
    refine jIconst C (0 : Int32) dX9_isIn_21 ki_0 ?_
    cases hf
    exact jEndIZ C hQ rfl nar_z0 dX9_isIn_22
  · replace hf := itp hf c4
    refine jIconst C (1 : Int32) dX9_isIn_17 ki_1 ?_
    refine jGoto C 22 dX9_isIn_18 (by decide) ?_
    cases hf
    exact jEndIZ C hQ rfl nar_z1 dX9_isIn_22
noncomputable def X9_isPoint (mnow : Nat → Int32) (p1 : Int32) (p2 : Int32) : Option Int32 := bd1 (X9_hasOne mnow p1) (fun q1 => (if q1 = (0 : Int32) then some (0 : Int32) else bd1 (X9_points mnow p1) (fun q4 => bd1 (X9_in (p2.toInt64) (0 : Int64) ((q4 - (1 : Int32)).toInt64)) (fun q6 => (if q6 = (0 : Int32) then some (0 : Int32) else some (1 : Int32))))))
set_option maxHeartbeats 4000000 in
set_option maxRecDepth 20000 in
theorem X9_isPoint_ok {p1 : Int32} {p2 : Int32} {rr : Int32}  (hf : X9_isPoint mnow p1 p2 = some rr) : MT yX9_isPoint cX9_isPoint 3 (some .boolean) 3 [.ref (h 0), .int p1, .int p2] D cy G (mw h cy mthr mfrp mact mtpd msiz matx mfrm mtok mval mfk mfpl mbem mtrs mtrl mrom mtom mnow mfre mkep mtap mlef mtak mbes mrow mint mrnd mplo mhio mtox mtol) (mw h cy mthr mfrp mact mtpd msiz matx mfrm mtok mval mfk mfpl mbem mtrs mtrl mrom mtom mnow mfre mkep mtap mlef mtak mbes mrow mint mrnd mplo mhio mtox mtol) (some (.int rr)) := by
  refine MT.go (own := RX9) [(0, .ref (h 0)), (1, .int p1), (2, .int p2)] (by decide) rfl (Nat.le_of_ble_eq_true rfl) rfl (fun p l e s m args below meth c A Q C hQ => ?_)
  unfold X9_isPoint at hf
  refine jAloadn C dX9_isPoint_0 rfl 0 rfl ?_
  refine jIloadn C dX9_isPoint_1 rfl 1 rfl ?_
  obtain ⟨q1, e2, hf⟩ := bd1_some hf
  refine jVI C (X9_hasOne_ok  e2) vb_X9_hasOne mk_RX9_75 rfl rcM ⟨Nat.le_of_ble_eq_true rfl, Nat.le_of_ble_eq_true rfl⟩ rfl (Nat.le_of_ble_eq_true rfl) dX9_isPoint_2 ?_
  refine jIfEq C 29 dX9_isPoint_5 (by decide) (fun c3 => ?_) (fun c3 => ?_)
  · replace hf := itp hf c3
    refine jIconst C (0 : Int32) dX9_isPoint_29 ki_0 ?_
    cases hf
    exact jEndIZ C hQ rfl nar_z0 dX9_isPoint_30
  · replace hf := itn hf c3
    refine jIloadn C dX9_isPoint_8 rfl 2 rfl ?_
    refine jI2l C dX9_isPoint_9 ?_
    refine jLconst C (0 : Int64) dX9_isPoint_10 rfl ?_
    refine jAloadn C dX9_isPoint_11 rfl 0 rfl ?_
    refine jIloadn C dX9_isPoint_12 rfl 1 rfl ?_
    obtain ⟨q4, e5, hf⟩ := bd1_some hf
    refine jVI C (X9_points_ok  e5) vb_X9_points mk_RX9_78 rfl rcM ⟨Nat.le_of_ble_eq_true rfl, Nat.le_of_ble_eq_true rfl⟩ rfl (Nat.le_of_ble_eq_true rfl) dX9_isPoint_13 ?_
    refine jIconst C (1 : Int32) dX9_isPoint_16 ki_1 ?_
    refine jIsub C dX9_isPoint_17 ?_
    refine jI2l C dX9_isPoint_18 ?_
    obtain ⟨q6, e7, hf⟩ := bd1_some hf
    refine jSI C (X9_in_ok  e7) sb_X9_in mk_RX9_63 rfl ⟨Nat.le_of_ble_eq_true rfl, Nat.le_of_ble_eq_true rfl⟩ rfl (Nat.le_of_ble_eq_true rfl) dX9_isPoint_19 ?_
    refine jIfEq C 29 dX9_isPoint_22 (by decide) (fun c8 => ?_) (fun c8 => ?_)
    · replace hf := itp hf c8
      refine jIconst C (0 : Int32) dX9_isPoint_29 ki_0 ?_
      cases hf
      exact jEndIZ C hQ rfl nar_z0 dX9_isPoint_30
    · replace hf := itn hf c8
      refine jIconst C (1 : Int32) dX9_isPoint_25 ki_1 ?_
      refine jGoto C 30 dX9_isPoint_26 (by decide) ?_
      cases hf
      exact jEndIZ C hQ rfl nar_z1 dX9_isPoint_30
noncomputable def X9_isSet (mnow : Nat → Int32) (p1 : Int32) (p2 : Int32) : Option Int32 := bd1 (X9_hasOne mnow p1) (fun q1 => (if q1 = (0 : Int32) then some (0 : Int32) else bd1 (X9_points mnow p1) (fun q4 => bd1 (X9_in (p2.toInt64) (0 : Int64) ((((1 : Int32) <<< (q4 &&& 31)) - (1 : Int32)).toInt64)) (fun q6 => (if q6 = (0 : Int32) then some (0 : Int32) else some (1 : Int32))))))
set_option maxHeartbeats 4000000 in
set_option maxRecDepth 20000 in
theorem X9_isSet_ok {p1 : Int32} {p2 : Int32} {rr : Int32}  (hf : X9_isSet mnow p1 p2 = some rr) : MT yX9_isSet cX9_isSet 3 (some .boolean) 3 [.ref (h 0), .int p1, .int p2] D cy G (mw h cy mthr mfrp mact mtpd msiz matx mfrm mtok mval mfk mfpl mbem mtrs mtrl mrom mtom mnow mfre mkep mtap mlef mtak mbes mrow mint mrnd mplo mhio mtox mtol) (mw h cy mthr mfrp mact mtpd msiz matx mfrm mtok mval mfk mfpl mbem mtrs mtrl mrom mtom mnow mfre mkep mtap mlef mtak mbes mrow mint mrnd mplo mhio mtox mtol) (some (.int rr)) := by
  refine MT.go (own := RX9) [(0, .ref (h 0)), (1, .int p1), (2, .int p2)] (by decide) rfl (Nat.le_of_ble_eq_true rfl) rfl (fun p l e s m args below meth c A Q C hQ => ?_)
  unfold X9_isSet at hf
  refine jAloadn C dX9_isSet_0 rfl 0 rfl ?_
  refine jIloadn C dX9_isSet_1 rfl 1 rfl ?_
  obtain ⟨q1, e2, hf⟩ := bd1_some hf
  refine jVI C (X9_hasOne_ok  e2) vb_X9_hasOne mk_RX9_75 rfl rcM ⟨Nat.le_of_ble_eq_true rfl, Nat.le_of_ble_eq_true rfl⟩ rfl (Nat.le_of_ble_eq_true rfl) dX9_isSet_2 ?_
  refine jIfEq C 31 dX9_isSet_5 (by decide) (fun c3 => ?_) (fun c3 => ?_)
  · replace hf := itp hf c3
    refine jIconst C (0 : Int32) dX9_isSet_31 ki_0 ?_
    cases hf
    exact jEndIZ C hQ rfl nar_z0 dX9_isSet_32
  · replace hf := itn hf c3
    refine jIloadn C dX9_isSet_8 rfl 2 rfl ?_
    refine jI2l C dX9_isSet_9 ?_
    refine jLconst C (0 : Int64) dX9_isSet_10 rfl ?_
    refine jIconst C (1 : Int32) dX9_isSet_11 ki_1 ?_
    refine jAloadn C dX9_isSet_12 rfl 0 rfl ?_
    refine jIloadn C dX9_isSet_13 rfl 1 rfl ?_
    obtain ⟨q4, e5, hf⟩ := bd1_some hf
    refine jVI C (X9_points_ok  e5) vb_X9_points mk_RX9_78 rfl rcM ⟨Nat.le_of_ble_eq_true rfl, Nat.le_of_ble_eq_true rfl⟩ rfl (Nat.le_of_ble_eq_true rfl) dX9_isSet_14 ?_
    refine jIshl C dX9_isSet_17 ?_
    refine jIconst C (1 : Int32) dX9_isSet_18 ki_1 ?_
    refine jIsub C dX9_isSet_19 ?_
    refine jI2l C dX9_isSet_20 ?_
    obtain ⟨q6, e7, hf⟩ := bd1_some hf
    refine jSI C (X9_in_ok  e7) sb_X9_in mk_RX9_63 rfl ⟨Nat.le_of_ble_eq_true rfl, Nat.le_of_ble_eq_true rfl⟩ rfl (Nat.le_of_ble_eq_true rfl) dX9_isSet_21 ?_
    refine jIfEq C 31 dX9_isSet_24 (by decide) (fun c8 => ?_) (fun c8 => ?_)
    · replace hf := itp hf c8
      refine jIconst C (0 : Int32) dX9_isSet_31 ki_0 ?_
      cases hf
      exact jEndIZ C hQ rfl nar_z0 dX9_isSet_32
    · replace hf := itn hf c8
      refine jIconst C (1 : Int32) dX9_isSet_27 ki_1 ?_
      refine jGoto C 32 dX9_isSet_28 (by decide) ?_
      cases hf
      exact jEndIZ C hQ rfl nar_z1 dX9_isSet_32
noncomputable def X9_many_h4 (p1 : Int32) (mnow : Nat → Int32) (r4 : Int32 → Int32 → Option Int32) (x2_1 : Int32) (x3_2 : Int32) : Option Int32 := (if (128 : Int32) ≤ x3_2 then some x2_1 else bd1 (X9_base p1) (fun q6 => gin ((q6 + (1 : Int32)) + x3_2) 387 (r4 (x2_1 + (mnow ((q6 + (1 : Int32)) + x3_2).toNatClampNeg)) (x3_2 + (1 : Int32)))))
noncomputable def X9_many (mnow : Nat → Int32) (p1 : Int32) : Option Int32 := lfp2 (X9_many_h4 p1 mnow) (0 : Int32) (0 : Int32)
set_option maxHeartbeats 4000000 in
set_option maxRecDepth 20000 in
theorem X9_many_ok {p1 : Int32} {rr : Int32}  (hf : X9_many mnow p1 = some rr) : MT yX9_many cX9_many 4 (some .int) 1 [.ref (h 0), .int p1] D cy G (mw h cy mthr mfrp mact mtpd msiz matx mfrm mtok mval mfk mfpl mbem mtrs mtrl mrom mtom mnow mfre mkep mtap mlef mtak mbes mrow mint mrnd mplo mhio mtox mtol) (mw h cy mthr mfrp mact mtpd msiz matx mfrm mtok mval mfk mfpl mbem mtrs mtrl mrom mtom mnow mfre mkep mtap mlef mtak mbes mrow mint mrnd mplo mhio mtox mtol) (some (.int rr)) := by
  refine MT.go (own := RX9) [(0, .ref (h 0)), (1, .int p1)] (by decide) rfl (Nat.le_of_ble_eq_true rfl) rfl (fun p l e s m args below meth c A Q C hQ => ?_)
  unfold X9_many at hf
  refine jIconst C (0 : Int32) dX9_many_0 ki_0 ?_
  refine jIstoren C dX9_many_1 rfl (Nat.le_of_ble_eq_true rfl) [(2, .int (0 : Int32)), (0, .ref (h 0)), (1, .int p1)] rfl ?_
  refine jIconst C (0 : Int32) dX9_many_2 ki_0 ?_
  refine jIstoren C dX9_many_3 rfl (Nat.le_of_ble_eq_true rfl) [(3, .int (0 : Int32)), (2, .int (0 : Int32)), (0, .ref (h 0)), (1, .int p1)] rfl ?_
  have hL3 : ∀ (x2_1 : Int32) (x3_2 : Int32), lfp2 (X9_many_h4 p1 mnow) x2_1 x3_2 = some rr → J p l e (rmk 1) s m args below meth c D A Q 4 (mw h cy mthr mfrp mact mtpd msiz matx mfrm mtok mval mfk mfpl mbem mtrs mtrl mrom mtom mnow mfre mkep mtap mlef mtak mbes mrow mint mrnd mplo mhio mtox mtol) 4 [(0, .ref (h 0)), (1, .int p1), (2, .int x2_1), (3, .int x3_2)] [] := by
    intro x2_1 x3_2 hw
    refine lfp2_walk (P := fun x2_1 x3_2 => J p l e (rmk 1) s m args below meth c D A Q 4 (mw h cy mthr mfrp mact mtpd msiz matx mfrm mtok mval mfk mfpl mbem mtrs mtrl mrom mtom mnow mfre mkep mtap mlef mtak mbes mrow mint mrnd mplo mhio mtox mtol) 4 [(0, .ref (h 0)), (1, .int p1), (2, .int x2_1), (3, .int x3_2)] []) ?_ hw
    intro r4 ir4 x2_1 x3_2 hf
    unfold X9_many_h4 at hf
    refine jIloadn C dX9_many_4 rfl 3 rfl ?_
    refine jSipush C (128 : Int32) dX9_many_5 ks_128 ?_
    refine jCmpGe C 33 dX9_many_8 (by decide) (fun c5 => ?_) (fun c5 => ?_)
    · replace hf := itp hf c5
      refine jIloadn C dX9_many_33 rfl 2 rfl ?_
      cases hf
      exact jEndI C hQ rfl dX9_many_34
    · replace hf := itn hf c5
      refine jIloadn C dX9_many_11 rfl 2 rfl ?_
      refine jAloadn C dX9_many_12 rfl 0 rfl ?_
      refine gf_RX9_9 C dX9_many_13 ?_
      refine jIloadn C dX9_many_16 rfl 1 rfl ?_
      obtain ⟨q6, e7, hf⟩ := bd1_some hf
      refine jSI C (X9_base_ok  e7) sb_X9_base mk_RX9_71 rfl ⟨Nat.le_of_ble_eq_true rfl, Nat.le_of_ble_eq_true rfl⟩ rfl (Nat.le_of_ble_eq_true rfl) dX9_many_17 ?_
      refine jIconst C (1 : Int32) dX9_many_20 ki_1 ?_
      refine jIadd C dX9_many_21 ?_
      refine jIloadn C dX9_many_22 rfl 3 rfl ?_
      refine jIadd C dX9_many_23 ?_
      obtain ⟨z8, hf⟩ := gin_some hf
      refine al_mnow C z8 dX9_many_24 ?_
      refine jIadd C dX9_many_25 ?_
      refine jIstoren C dX9_many_26 rfl (Nat.le_of_ble_eq_true rfl) [(2, .int (x2_1 + (mnow ((q6 + (1 : Int32)) + x3_2).toNatClampNeg))), (0, .ref (h 0)), (1, .int p1), (3, .int x3_2)] rfl ?_
      refine jIinc C (x3_2 + (1 : Int32)) dX9_many_27 3 rfl (congrArg (fun z : Int32 => x3_2 + z) ki_1) (Nat.le_of_ble_eq_true rfl) [(3, .int (x3_2 + (1 : Int32))), (2, .int (x2_1 + (mnow ((q6 + (1 : Int32)) + x3_2).toNatClampNeg))), (0, .ref (h 0)), (1, .int p1)] rfl ?_
      refine jGoto C 4 dX9_many_30 (by decide) ?_
      refine jSub [2, 3, 1, 0] rfl ?_
      exact ir4 (x2_1 + (mnow ((q6 + (1 : Int32)) + x3_2).toNatClampNeg)) (x3_2 + (1 : Int32)) hf
  refine jSub [2, 3, 1, 0] rfl ?_
  exact hL3 (0 : Int32) (0 : Int32) hf
noncomputable def X9_kth_h5 (mnow : Nat → Int32) (p1 : Int32) (r4 : Int32 → Int32 → Option Int32) (x3_1 : Int32) (x4_2 : Int32) : Option Int32 := (if (128 : Int32) ≤ x4_2 then some (-1 : Int32) else bd1 (X9_isIn mnow p1 x4_2) (fun q6 => (if q6 = (0 : Int32) then r4 x3_1 (x4_2 + (1 : Int32)) else (if x3_1 = (0 : Int32) then some x4_2 else r4 (x3_1 + (-1 : Int32)) (x4_2 + (1 : Int32))))))
noncomputable def X9_kth (mnow : Nat → Int32) (p1 : Int32) (p2 : Int32) : Option Int32 := lfp2 (X9_kth_h5 mnow p1) p2 (0 : Int32)
set_option maxHeartbeats 4000000 in
set_option maxRecDepth 20000 in
theorem X9_kth_ok {p1 : Int32} {p2 : Int32} {rr : Int32}  (hf : X9_kth mnow p1 p2 = some rr) : MT yX9_kth cX9_kth 5 (some .int) 2 [.ref (h 0), .int p1, .int p2] D cy G (mw h cy mthr mfrp mact mtpd msiz matx mfrm mtok mval mfk mfpl mbem mtrs mtrl mrom mtom mnow mfre mkep mtap mlef mtak mbes mrow mint mrnd mplo mhio mtox mtol) (mw h cy mthr mfrp mact mtpd msiz matx mfrm mtok mval mfk mfpl mbem mtrs mtrl mrom mtom mnow mfre mkep mtap mlef mtak mbes mrow mint mrnd mplo mhio mtox mtol) (some (.int rr)) := by
  refine MT.go (own := RX9) [(0, .ref (h 0)), (1, .int p1), (2, .int p2)] (by decide) rfl (Nat.le_of_ble_eq_true rfl) rfl (fun p l e s m args below meth c A Q C hQ => ?_)
  unfold X9_kth at hf
  refine jIloadn C dX9_kth_0 rfl 2 rfl ?_
  refine jIstoren C dX9_kth_1 rfl (Nat.le_of_ble_eq_true rfl) [(3, .int p2), (0, .ref (h 0)), (1, .int p1), (2, .int p2)] rfl ?_
  refine jIconst C (0 : Int32) dX9_kth_2 ki_0 ?_
  refine jIstore C dX9_kth_3 (Nat.le_of_ble_eq_true rfl) [(4, .int (0 : Int32)), (3, .int p2), (0, .ref (h 0)), (1, .int p1), (2, .int p2)] rfl ?_
  have hL3 : ∀ (x3_1 : Int32) (x4_2 : Int32), lfp2 (X9_kth_h5 mnow p1) x3_1 x4_2 = some rr → J p l e (rmk 2) s m args below meth c D A Q 5 (mw h cy mthr mfrp mact mtpd msiz matx mfrm mtok mval mfk mfpl mbem mtrs mtrl mrom mtom mnow mfre mkep mtap mlef mtak mbes mrow mint mrnd mplo mhio mtox mtol) 5 [(0, .ref (h 0)), (1, .int p1), (3, .int x3_1), (4, .int x4_2)] [] := by
    intro x3_1 x4_2 hw
    refine lfp2_walk (P := fun x3_1 x4_2 => J p l e (rmk 2) s m args below meth c D A Q 5 (mw h cy mthr mfrp mact mtpd msiz matx mfrm mtok mval mfk mfpl mbem mtrs mtrl mrom mtom mnow mfre mkep mtap mlef mtak mbes mrow mint mrnd mplo mhio mtox mtol) 5 [(0, .ref (h 0)), (1, .int p1), (3, .int x3_1), (4, .int x4_2)] []) ?_ hw
    intro r4 ir4 x3_1 x4_2 hf
    unfold X9_kth_h5 at hf
    refine jIload C dX9_kth_5 3 rfl ?_
    refine jSipush C (128 : Int32) dX9_kth_7 ks_128 ?_
    refine jCmpGe C 42 dX9_kth_10 (by decide) (fun c5 => ?_) (fun c5 => ?_)
    · replace hf := itp hf c5
      refine jIconst C (-1 : Int32) dX9_kth_42 ki_m1 ?_
      cases hf
      exact jEndI C hQ rfl dX9_kth_43
    · replace hf := itn hf c5
      refine jAloadn C dX9_kth_13 rfl 0 rfl ?_
      refine jIloadn C dX9_kth_14 rfl 1 rfl ?_
      refine jIload C dX9_kth_15 3 rfl ?_
      obtain ⟨q6, e7, hf⟩ := bd1_some hf
      refine jVI C (X9_isIn_ok  e7) vb_X9_isIn mk_RX9_81 rfl rcM ⟨Nat.le_of_ble_eq_true rfl, Nat.le_of_ble_eq_true rfl⟩ rfl (Nat.le_of_ble_eq_true rfl) dX9_kth_17 ?_
      refine jIfNe C 26 dX9_kth_20 (by decide) (fun c8 => ?_) (fun c8 => ?_)
      · replace hf := itn hf c8
        refine jIloadn C dX9_kth_26 rfl 2 rfl ?_
        refine jIfNe C 33 dX9_kth_27 (by decide) (fun c9 => ?_) (fun c9 => ?_)
        · replace hf := itn hf c9
          refine jIinc C (x3_1 + (-1 : Int32)) dX9_kth_33 2 rfl (congrArg (fun z : Int32 => x3_1 + z) ki_m1) (Nat.le_of_ble_eq_true rfl) [(3, .int (x3_1 + (-1 : Int32))), (0, .ref (h 0)), (1, .int p1), (4, .int x4_2)] rfl ?_
          refine jIinc C (x4_2 + (1 : Int32)) dX9_kth_36 3 rfl (congrArg (fun z : Int32 => x4_2 + z) ki_1) (Nat.le_of_ble_eq_true rfl) [(4, .int (x4_2 + (1 : Int32))), (3, .int (x3_1 + (-1 : Int32))), (0, .ref (h 0)), (1, .int p1)] rfl ?_
          refine jGoto C 5 dX9_kth_39 (by decide) ?_
          refine jSub [2, 3, 1, 0] rfl ?_
          exact ir4 (x3_1 + (-1 : Int32)) (x4_2 + (1 : Int32)) hf
        · replace hf := itp hf c9
          refine jIload C dX9_kth_30 3 rfl ?_
          cases hf
          exact jEndI C hQ rfl dX9_kth_32
      · replace hf := itp hf c8
        refine jGoto C 36 dX9_kth_23 (by decide) ?_
        refine jIinc C (x4_2 + (1 : Int32)) dX9_kth_36 3 rfl (congrArg (fun z : Int32 => x4_2 + z) ki_1) (Nat.le_of_ble_eq_true rfl) [(4, .int (x4_2 + (1 : Int32))), (0, .ref (h 0)), (1, .int p1), (3, .int x3_1)] rfl ?_
        refine jGoto C 5 dX9_kth_39 (by decide) ?_
        refine jSub [1, 2, 3, 0] rfl ?_
        exact ir4 x3_1 (x4_2 + (1 : Int32)) hf
  refine jSub [2, 3, 1, 0] rfl ?_
  exact hL3 p2 (0 : Int32) hf
noncomputable def X9_keeps_h54 (mact_1 : Int32) (mnow : Nat → Int32) (r7 : Int32 → (Nat → Int32) → Option (Int32 × (Nat → Int32))) (x1_4 : Int32) (mkep_5 : Nat → Int32) : Option (Int32 × (Nat → Int32)) := (if (387 : Int32) ≤ x1_4 then some ((mact_1 + (1 : Int32)), mkep_5) else gin x1_4 387 (gin (((387 : Int32) * mact_1) + x1_4) 3870 (r7 (x1_4 + (1 : Int32)) (upd mkep_5 (((387 : Int32) * mact_1) + x1_4).toNatClampNeg (mnow x1_4.toNatClampNeg)))))
noncomputable def X9_keeps_j52 (mnow : Nat → Int32) (mact_1 : Int32) (mkep_2 : Nat → Int32) : Option (Int32 × (Nat → Int32)) := lfp2 (X9_keeps_h54 mact_1 mnow) (0 : Int32) mkep_2
noncomputable def X9_keeps_h13 (mnow : Nat → Int32) (mact : Int32) (r15 : Int32 → (Nat → Int32) → Option (Int32 × (Nat → Int32))) (x1_12 : Int32) (mkep_13 : Nat → Int32) : Option (Int32 × (Nat → Int32)) := (if (3870 : Int32) ≤ x1_12 then X9_keeps_j52 mnow (mact - (1 : Int32)) mkep_13 else gin x1_12 3870 (gin (x1_12 - (387 : Int32)) 3870 (r15 (x1_12 + (1 : Int32)) (upd mkep_13 (x1_12 - (387 : Int32)).toNatClampNeg (mkep_13 x1_12.toNatClampNeg)))))
noncomputable def X9_keeps (mact : Int32) (mnow : Nat → Int32) (mkep : Nat → Int32) : Option (Int32 × (Nat → Int32)) := (if mact = (10 : Int32) then lfp2 (X9_keeps_h13 mnow mact) (387 : Int32) mkep else X9_keeps_j52 mnow mact mkep)
set_option maxHeartbeats 4000000 in
set_option maxRecDepth 20000 in
theorem X9_keeps_ok  {omact : Int32} {omkep : Nat → Int32}  (hf : X9_keeps mact mnow mkep = some (omact, omkep)) : MT yX9_keeps cX9_keeps 2 none 0 [.ref (h 0)] D cy G (mw h cy mthr mfrp mact mtpd msiz matx mfrm mtok mval mfk mfpl mbem mtrs mtrl mrom mtom mnow mfre mkep mtap mlef mtak mbes mrow mint mrnd mplo mhio mtox mtol) (mw h cy mthr mfrp omact mtpd msiz matx mfrm mtok mval mfk mfpl mbem mtrs mtrl mrom mtom mnow mfre omkep mtap mlef mtak mbes mrow mint mrnd mplo mhio mtox mtol) none := by
  refine MT.go (own := RX9) [(0, .ref (h 0))] (by decide) rfl (Nat.le_of_ble_eq_true rfl) rfl (fun p l e s m args below meth c A Q C hQ => ?_)
  unfold X9_keeps at hf
  refine jAloadn C dX9_keeps_0 rfl 0 rfl ?_
  refine gf_RX9_85 C dX9_keeps_1 ?_
  refine jBipush C (10 : Int32) dX9_keeps_4 kb_10 ?_
  have hL3 : ∀ (mact_1 : Int32) (mkep_2 : Nat → Int32), X9_keeps_j52 mnow mact_1 mkep_2 = some (omact, omkep) → J p l e (rmk 0) s m args below meth c D A Q 2 (mw h cy mthr mfrp mact_1 mtpd msiz matx mfrm mtok mval mfk mfpl mbem mtrs mtrl mrom mtom mnow mfre mkep_2 mtap mlef mtak mbes mrow mint mrnd mplo mhio mtox mtol) 52 [(0, .ref (h 0))] [] := by
    intro mact_1 mkep_2 hf
    unfold X9_keeps_j52 at hf
    refine jIconst C (0 : Int32) dX9_keeps_52 ki_0 ?_
    refine jIstoren C dX9_keeps_53 rfl (Nat.le_of_ble_eq_true rfl) [(1, .int (0 : Int32)), (0, .ref (h 0))] rfl ?_
    have hL6 : ∀ (x1_4 : Int32) (mkep_5 : Nat → Int32), lfp2 (X9_keeps_h54 mact_1 mnow) x1_4 mkep_5 = some (omact, omkep) → J p l e (rmk 0) s m args below meth c D A Q 2 (mw h cy mthr mfrp mact_1 mtpd msiz matx mfrm mtok mval mfk mfpl mbem mtrs mtrl mrom mtom mnow mfre mkep_5 mtap mlef mtak mbes mrow mint mrnd mplo mhio mtox mtol) 54 [(0, .ref (h 0)), (1, .int x1_4)] [] := by
      intro x1_4 mkep_5 hw
      refine lfp2_walk (P := fun x1_4 mkep_5 => J p l e (rmk 0) s m args below meth c D A Q 2 (mw h cy mthr mfrp mact_1 mtpd msiz matx mfrm mtok mval mfk mfpl mbem mtrs mtrl mrom mtom mnow mfre mkep_5 mtap mlef mtak mbes mrow mint mrnd mplo mhio mtox mtol) 54 [(0, .ref (h 0)), (1, .int x1_4)] []) ?_ hw
      intro r7 ir7 x1_4 mkep_5 hf
      unfold X9_keeps_h54 at hf
      refine jIloadn C dX9_keeps_54 rfl 1 rfl ?_
      refine jSipush C (387 : Int32) dX9_keeps_55 ks_387 ?_
      refine jCmpGe C 88 dX9_keeps_58 (by decide) (fun c8 => ?_) (fun c8 => ?_)
      · replace hf := itp hf c8
        refine jAloadn C dX9_keeps_88 rfl 0 rfl ?_
        refine jDup C dX9_keeps_89 rfl ?_
        refine gf_RX9_85 C dX9_keeps_90 ?_
        refine jIconst C (1 : Int32) dX9_keeps_93 ki_1 ?_
        refine jIadd C dX9_keeps_94 ?_
        refine pf_RX9_85 C dX9_keeps_95 ?_
        cases hf
        exact jEndV C hQ rfl dX9_keeps_98
      · replace hf := itn hf c8
        refine jAloadn C dX9_keeps_61 rfl 0 rfl ?_
        refine gf_RX9_17 C dX9_keeps_62 ?_
        refine jSipush C (387 : Int32) dX9_keeps_65 ks_387 ?_
        refine jAloadn C dX9_keeps_68 rfl 0 rfl ?_
        refine gf_RX9_85 C dX9_keeps_69 ?_
        refine jImul C dX9_keeps_72 ?_
        refine jIloadn C dX9_keeps_73 rfl 1 rfl ?_
        refine jIadd C dX9_keeps_74 ?_
        refine jAloadn C dX9_keeps_75 rfl 0 rfl ?_
        refine gf_RX9_9 C dX9_keeps_76 ?_
        refine jIloadn C dX9_keeps_79 rfl 1 rfl ?_
        obtain ⟨z9, hf⟩ := gin_some hf
        refine al_mnow C z9 dX9_keeps_80 ?_
        obtain ⟨z10, hf⟩ := gin_some hf
        refine as_mkep C z10 dX9_keeps_81 ?_
        refine jIinc C (x1_4 + (1 : Int32)) dX9_keeps_82 1 rfl (congrArg (fun z : Int32 => x1_4 + z) ki_1) (Nat.le_of_ble_eq_true rfl) [(1, .int (x1_4 + (1 : Int32))), (0, .ref (h 0))] rfl ?_
        refine jGoto C 54 dX9_keeps_85 (by decide) ?_
        refine jSub [1, 0] rfl ?_
        exact ir7 (x1_4 + (1 : Int32)) (upd mkep_5 (((387 : Int32) * mact_1) + x1_4).toNatClampNeg (mnow x1_4.toNatClampNeg)) hf
    refine jSub [1, 0] rfl ?_
    exact hL6 (0 : Int32) mkep_2 hf
  refine jCmpNe C 52 dX9_keeps_6 (by decide) (fun c11 => ?_) (fun c11 => ?_)
  · replace hf := itn hf c11
    exact hL3 mact mkep hf
  · replace hf := itp hf c11
    refine jSipush C (387 : Int32) dX9_keeps_9 ks_387 ?_
    refine jIstoren C dX9_keeps_12 rfl (Nat.le_of_ble_eq_true rfl) [(1, .int (387 : Int32)), (0, .ref (h 0))] rfl ?_
    have hL14 : ∀ (x1_12 : Int32) (mkep_13 : Nat → Int32), lfp2 (X9_keeps_h13 mnow mact) x1_12 mkep_13 = some (omact, omkep) → J p l e (rmk 0) s m args below meth c D A Q 2 (mw h cy mthr mfrp mact mtpd msiz matx mfrm mtok mval mfk mfpl mbem mtrs mtrl mrom mtom mnow mfre mkep_13 mtap mlef mtak mbes mrow mint mrnd mplo mhio mtox mtol) 13 [(0, .ref (h 0)), (1, .int x1_12)] [] := by
      intro x1_12 mkep_13 hw
      refine lfp2_walk (P := fun x1_12 mkep_13 => J p l e (rmk 0) s m args below meth c D A Q 2 (mw h cy mthr mfrp mact mtpd msiz matx mfrm mtok mval mfk mfpl mbem mtrs mtrl mrom mtom mnow mfre mkep_13 mtap mlef mtak mbes mrow mint mrnd mplo mhio mtox mtol) 13 [(0, .ref (h 0)), (1, .int x1_12)] []) ?_ hw
      intro r15 ir15 x1_12 mkep_13 hf
      unfold X9_keeps_h13 at hf
      refine jIloadn C dX9_keeps_13 rfl 1 rfl ?_
      refine jSipush C (3870 : Int32) dX9_keeps_14 ks_3870 ?_
      refine jCmpGe C 42 dX9_keeps_17 (by decide) (fun c16 => ?_) (fun c16 => ?_)
      · replace hf := itp hf c16
        refine jAloadn C dX9_keeps_42 rfl 0 rfl ?_
        refine jDup C dX9_keeps_43 rfl ?_
        refine gf_RX9_85 C dX9_keeps_44 ?_
        refine jIconst C (1 : Int32) dX9_keeps_47 ki_1 ?_
        refine jIsub C dX9_keeps_48 ?_
        refine pf_RX9_85 C dX9_keeps_49 ?_
        refine jSub [0] rfl ?_
        exact hL3 (mact - (1 : Int32)) mkep_13 hf
      · replace hf := itn hf c16
        refine jAloadn C dX9_keeps_20 rfl 0 rfl ?_
        refine gf_RX9_17 C dX9_keeps_21 ?_
        refine jIloadn C dX9_keeps_24 rfl 1 rfl ?_
        refine jSipush C (387 : Int32) dX9_keeps_25 ks_387 ?_
        refine jIsub C dX9_keeps_28 ?_
        refine jAloadn C dX9_keeps_29 rfl 0 rfl ?_
        refine gf_RX9_17 C dX9_keeps_30 ?_
        refine jIloadn C dX9_keeps_33 rfl 1 rfl ?_
        obtain ⟨z17, hf⟩ := gin_some hf
        refine al_mkep C z17 dX9_keeps_34 ?_
        obtain ⟨z18, hf⟩ := gin_some hf
        refine as_mkep C z18 dX9_keeps_35 ?_
        refine jIinc C (x1_12 + (1 : Int32)) dX9_keeps_36 1 rfl (congrArg (fun z : Int32 => x1_12 + z) ki_1) (Nat.le_of_ble_eq_true rfl) [(1, .int (x1_12 + (1 : Int32))), (0, .ref (h 0))] rfl ?_
        refine jGoto C 13 dX9_keeps_39 (by decide) ?_
        refine jSub [1, 0] rfl ?_
        exact ir15 (x1_12 + (1 : Int32)) (upd mkep_13 (x1_12 - (387 : Int32)).toNatClampNeg (mkep_13 x1_12.toNatClampNeg)) hf
    refine jSub [1, 0] rfl ?_
    exact hL14 (387 : Int32) mkep hf
noncomputable def X9_undo_h21 (mact : Int32) (mkep : Nat → Int32) (r5 : Int32 → (Nat → Int32) → Option (Int32 × Int32 × (Nat → Int32))) (x1_2 : Int32) (mnow_3 : Nat → Int32) : Option (Int32 × Int32 × (Nat → Int32)) := (if (387 : Int32) ≤ x1_2 then some ((mact - (1 : Int32)), (mact - (1 : Int32)), mnow_3) else gin (((387 : Int32) * (mact - (1 : Int32))) + x1_2) 3870 (gin x1_2 387 (r5 (x1_2 + (1 : Int32)) (upd mnow_3 x1_2.toNatClampNeg (mkep (((387 : Int32) * (mact - (1 : Int32))) + x1_2).toNatClampNeg)))))
noncomputable def X9_undo (mact : Int32) (mnow : Nat → Int32) (mkep : Nat → Int32) : Option (Int32 × Int32 × (Nat → Int32)) := (if mact = (0 : Int32) then some ((-1 : Int32), mact, mnow) else lfp2 (X9_undo_h21 mact mkep) (0 : Int32) mnow)
set_option maxHeartbeats 4000000 in
set_option maxRecDepth 20000 in
theorem X9_undo_ok  {rr : Int32} {omact : Int32} {omnow : Nat → Int32}  (hf : X9_undo mact mnow mkep = some (rr, omact, omnow)) : MT yX9_undo cX9_undo 2 (some .int) 0 [.ref (h 0)] D cy G (mw h cy mthr mfrp mact mtpd msiz matx mfrm mtok mval mfk mfpl mbem mtrs mtrl mrom mtom mnow mfre mkep mtap mlef mtak mbes mrow mint mrnd mplo mhio mtox mtol) (mw h cy mthr mfrp omact mtpd msiz matx mfrm mtok mval mfk mfpl mbem mtrs mtrl mrom mtom omnow mfre mkep mtap mlef mtak mbes mrow mint mrnd mplo mhio mtox mtol) (some (.int rr)) := by
  refine MT.go (own := RX9) [(0, .ref (h 0))] (by decide) rfl (Nat.le_of_ble_eq_true rfl) rfl (fun p l e s m args below meth c A Q C hQ => ?_)
  unfold X9_undo at hf
  refine jAloadn C dX9_undo_0 rfl 0 rfl ?_
  refine gf_RX9_85 C dX9_undo_1 ?_
  refine jIfNe C 9 dX9_undo_4 (by decide) (fun c1 => ?_) (fun c1 => ?_)
  · replace hf := itn hf c1
    refine jAloadn C dX9_undo_9 rfl 0 rfl ?_
    refine jDup C dX9_undo_10 rfl ?_
    refine gf_RX9_85 C dX9_undo_11 ?_
    refine jIconst C (1 : Int32) dX9_undo_14 ki_1 ?_
    refine jIsub C dX9_undo_15 ?_
    refine pf_RX9_85 C dX9_undo_16 ?_
    refine jIconst C (0 : Int32) dX9_undo_19 ki_0 ?_
    refine jIstoren C dX9_undo_20 rfl (Nat.le_of_ble_eq_true rfl) [(1, .int (0 : Int32)), (0, .ref (h 0))] rfl ?_
    have hL4 : ∀ (x1_2 : Int32) (mnow_3 : Nat → Int32), lfp2 (X9_undo_h21 mact mkep) x1_2 mnow_3 = some (rr, omact, omnow) → J p l e (rmk 0) s m args below meth c D A Q 2 (mw h cy mthr mfrp (mact - (1 : Int32)) mtpd msiz matx mfrm mtok mval mfk mfpl mbem mtrs mtrl mrom mtom mnow_3 mfre mkep mtap mlef mtak mbes mrow mint mrnd mplo mhio mtox mtol) 21 [(0, .ref (h 0)), (1, .int x1_2)] [] := by
      intro x1_2 mnow_3 hw
      refine lfp2_walk (P := fun x1_2 mnow_3 => J p l e (rmk 0) s m args below meth c D A Q 2 (mw h cy mthr mfrp (mact - (1 : Int32)) mtpd msiz matx mfrm mtok mval mfk mfpl mbem mtrs mtrl mrom mtom mnow_3 mfre mkep mtap mlef mtak mbes mrow mint mrnd mplo mhio mtox mtol) 21 [(0, .ref (h 0)), (1, .int x1_2)] []) ?_ hw
      intro r5 ir5 x1_2 mnow_3 hf
      unfold X9_undo_h21 at hf
      refine jIloadn C dX9_undo_21 rfl 1 rfl ?_
      refine jSipush C (387 : Int32) dX9_undo_22 ks_387 ?_
      refine jCmpGe C 55 dX9_undo_25 (by decide) (fun c6 => ?_) (fun c6 => ?_)
      · replace hf := itp hf c6
        refine jAloadn C dX9_undo_55 rfl 0 rfl ?_
        refine gf_RX9_85 C dX9_undo_56 ?_
        cases hf
        exact jEndI C hQ rfl dX9_undo_59
      · replace hf := itn hf c6
        refine jAloadn C dX9_undo_28 rfl 0 rfl ?_
        refine gf_RX9_9 C dX9_undo_29 ?_
        refine jIloadn C dX9_undo_32 rfl 1 rfl ?_
        refine jAloadn C dX9_undo_33 rfl 0 rfl ?_
        refine gf_RX9_17 C dX9_undo_34 ?_
        refine jSipush C (387 : Int32) dX9_undo_37 ks_387 ?_
        refine jAloadn C dX9_undo_40 rfl 0 rfl ?_
        refine gf_RX9_85 C dX9_undo_41 ?_
        refine jImul C dX9_undo_44 ?_
        refine jIloadn C dX9_undo_45 rfl 1 rfl ?_
        refine jIadd C dX9_undo_46 ?_
        obtain ⟨z7, hf⟩ := gin_some hf
        refine al_mkep C z7 dX9_undo_47 ?_
        obtain ⟨z8, hf⟩ := gin_some hf
        refine as_mnow C z8 dX9_undo_48 ?_
        refine jIinc C (x1_2 + (1 : Int32)) dX9_undo_49 1 rfl (congrArg (fun z : Int32 => x1_2 + z) ki_1) (Nat.le_of_ble_eq_true rfl) [(1, .int (x1_2 + (1 : Int32))), (0, .ref (h 0))] rfl ?_
        refine jGoto C 21 dX9_undo_52 (by decide) ?_
        refine jSub [1, 0] rfl ?_
        exact ir5 (x1_2 + (1 : Int32)) (upd mnow_3 x1_2.toNatClampNeg (mkep (((387 : Int32) * (mact - (1 : Int32))) + x1_2).toNatClampNeg)) hf
    refine jSub [1, 0] rfl ?_
    exact hL4 (0 : Int32) mnow hf
  · replace hf := itp hf c1
    refine jIconst C (-1 : Int32) dX9_undo_7 ki_m1 ?_
    cases hf
    exact jEndI C hQ rfl dX9_undo_8
noncomputable def X9_clearsFresh_h7 (p1 : Int32) (r4 : Int32 → (Nat → Int32) → Option (Int32 × (Nat → Int32))) (x2_1 : Int32) (mfre_2 : Nat → Int32) : Option (Int32 × (Nat → Int32)) := (if (128 : Int32) ≤ x2_1 then some (p1, mfre_2) else gin x2_1 128 (r4 (x2_1 + (1 : Int32)) (upd mfre_2 x2_1.toNatClampNeg (vp_nar .boolean (0 : Int32)))))
noncomputable def X9_clearsFresh (mfre : Nat → Int32) (p1 : Int32) : Option (Int32 × (Nat → Int32)) := lfp2 (X9_clearsFresh_h7 p1) (0 : Int32) mfre
set_option maxHeartbeats 4000000 in
set_option maxRecDepth 20000 in
theorem X9_clearsFresh_ok {p1 : Int32} {omfrp : Int32} {omfre : Nat → Int32}  (hf : X9_clearsFresh mfre p1 = some (omfrp, omfre)) : MT yX9_clearsFresh cX9_clearsFresh 3 none 0 [.ref (h 0), .int p1] D cy G (mw h cy mthr mfrp mact mtpd msiz matx mfrm mtok mval mfk mfpl mbem mtrs mtrl mrom mtom mnow mfre mkep mtap mlef mtak mbes mrow mint mrnd mplo mhio mtox mtol) (mw h cy mthr omfrp mact mtpd msiz matx mfrm mtok mval mfk mfpl mbem mtrs mtrl mrom mtom mnow omfre mkep mtap mlef mtak mbes mrow mint mrnd mplo mhio mtox mtol) none := by
  refine MT.go (own := RX9) [(0, .ref (h 0)), (1, .int p1)] (by decide) rfl (Nat.le_of_ble_eq_true rfl) rfl (fun p l e s m args below meth c A Q C hQ => ?_)
  unfold X9_clearsFresh at hf
  refine jAloadn C dX9_clearsFresh_0 rfl 0 rfl ?_
  refine jIloadn C dX9_clearsFresh_1 rfl 1 rfl ?_
  refine pf_RX9_88 C dX9_clearsFresh_2 ?_
  refine jIconst C (0 : Int32) dX9_clearsFresh_5 ki_0 ?_
  refine jIstoren C dX9_clearsFresh_6 rfl (Nat.le_of_ble_eq_true rfl) [(2, .int (0 : Int32)), (0, .ref (h 0)), (1, .int p1)] rfl ?_
  have hL3 : ∀ (x2_1 : Int32) (mfre_2 : Nat → Int32), lfp2 (X9_clearsFresh_h7 p1) x2_1 mfre_2 = some (omfrp, omfre) → J p l e (rmk 0) s m args below meth c D A Q 3 (mw h cy mthr p1 mact mtpd msiz matx mfrm mtok mval mfk mfpl mbem mtrs mtrl mrom mtom mnow mfre_2 mkep mtap mlef mtak mbes mrow mint mrnd mplo mhio mtox mtol) 7 [(0, .ref (h 0)), (2, .int x2_1)] [] := by
    intro x2_1 mfre_2 hw
    refine lfp2_walk (P := fun x2_1 mfre_2 => J p l e (rmk 0) s m args below meth c D A Q 3 (mw h cy mthr p1 mact mtpd msiz matx mfrm mtok mval mfk mfpl mbem mtrs mtrl mrom mtom mnow mfre_2 mkep mtap mlef mtak mbes mrow mint mrnd mplo mhio mtox mtol) 7 [(0, .ref (h 0)), (2, .int x2_1)] []) ?_ hw
    intro r4 ir4 x2_1 mfre_2 hf
    unfold X9_clearsFresh_h7 at hf
    refine jIloadn C dX9_clearsFresh_7 rfl 1 rfl ?_
    refine jSipush C (128 : Int32) dX9_clearsFresh_8 ks_128 ?_
    refine jCmpGe C 27 dX9_clearsFresh_11 (by decide) (fun c5 => ?_) (fun c5 => ?_)
    · replace hf := itp hf c5
      cases hf
      exact jEndV C hQ rfl dX9_clearsFresh_27
    · replace hf := itn hf c5
      refine jAloadn C dX9_clearsFresh_14 rfl 0 rfl ?_
      refine gf_RX9_13 C dX9_clearsFresh_15 ?_
      refine jIloadn C dX9_clearsFresh_18 rfl 1 rfl ?_
      refine jIconst C (0 : Int32) dX9_clearsFresh_19 ki_0 ?_
      obtain ⟨z6, hf⟩ := gin_some hf
      refine as_mfre C z6 dX9_clearsFresh_20 ?_
      refine jIinc C (x2_1 + (1 : Int32)) dX9_clearsFresh_21 1 rfl (congrArg (fun z : Int32 => x2_1 + z) ki_1) (Nat.le_of_ble_eq_true rfl) [(2, .int (x2_1 + (1 : Int32))), (0, .ref (h 0))] rfl ?_
      refine jGoto C 7 dX9_clearsFresh_24 (by decide) ?_
      refine jSub [1, 0] rfl ?_
      exact ir4 (x2_1 + (1 : Int32)) (upd mfre_2 x2_1.toNatClampNeg (vp_nar .boolean (0 : Int32))) hf
  refine jSub [1, 0] rfl ?_
  exact hL3 (0 : Int32) mfre hf
noncomputable def X9_copiesFresh_h11 (q1 : Int32) (mnow : Nat → Int32) (p1 : Int32) (r6 : Int32 → (Nat → Int32) → Option (Int32 × (Nat → Int32))) (x2_3 : Int32) (mfre_4 : Nat → Int32) : Option (Int32 × (Nat → Int32)) := (if (128 : Int32) ≤ x2_3 then some (q1, mfre_4) else bd1 (X9_isIn mnow p1 x2_3) (fun q8 => gin x2_3 128 (r6 (x2_3 + (1 : Int32)) (upd mfre_4 x2_3.toNatClampNeg (vp_nar .boolean q8)))))
noncomputable def X9_copiesFresh (mnow : Nat → Int32) (mfre : Nat → Int32) (p1 : Int32) : Option (Int32 × (Nat → Int32)) := bd1 (X9_points mnow p1) (fun q1 => lfp2 (X9_copiesFresh_h11 q1 mnow p1) (0 : Int32) mfre)
set_option maxHeartbeats 4000000 in
set_option maxRecDepth 20000 in
theorem X9_copiesFresh_ok {p1 : Int32} {omfrp : Int32} {omfre : Nat → Int32}  (hf : X9_copiesFresh mnow mfre p1 = some (omfrp, omfre)) : MT yX9_copiesFresh cX9_copiesFresh 3 none 2 [.ref (h 0), .int p1] D cy G (mw h cy mthr mfrp mact mtpd msiz matx mfrm mtok mval mfk mfpl mbem mtrs mtrl mrom mtom mnow mfre mkep mtap mlef mtak mbes mrow mint mrnd mplo mhio mtox mtol) (mw h cy mthr omfrp mact mtpd msiz matx mfrm mtok mval mfk mfpl mbem mtrs mtrl mrom mtom mnow omfre mkep mtap mlef mtak mbes mrow mint mrnd mplo mhio mtox mtol) none := by
  refine MT.go (own := RX9) [(0, .ref (h 0)), (1, .int p1)] (by decide) rfl (Nat.le_of_ble_eq_true rfl) rfl (fun p l e s m args below meth c A Q C hQ => ?_)
  unfold X9_copiesFresh at hf
  refine jAloadn C dX9_copiesFresh_0 rfl 0 rfl ?_
  refine jAloadn C dX9_copiesFresh_1 rfl 0 rfl ?_
  refine jIloadn C dX9_copiesFresh_2 rfl 1 rfl ?_
  obtain ⟨q1, e2, hf⟩ := bd1_some hf
  refine jVI C (X9_points_ok  e2) vb_X9_points mk_RX9_78 rfl rcM ⟨Nat.le_of_ble_eq_true rfl, Nat.le_of_ble_eq_true rfl⟩ rfl (Nat.le_of_ble_eq_true rfl) dX9_copiesFresh_3 ?_
  refine pf_RX9_88 C dX9_copiesFresh_6 ?_
  refine jIconst C (0 : Int32) dX9_copiesFresh_9 ki_0 ?_
  refine jIstoren C dX9_copiesFresh_10 rfl (Nat.le_of_ble_eq_true rfl) [(2, .int (0 : Int32)), (0, .ref (h 0)), (1, .int p1)] rfl ?_
  have hL5 : ∀ (x2_3 : Int32) (mfre_4 : Nat → Int32), lfp2 (X9_copiesFresh_h11 q1 mnow p1) x2_3 mfre_4 = some (omfrp, omfre) → J p l e (rmk 2) s m args below meth c D A Q 3 (mw h cy mthr q1 mact mtpd msiz matx mfrm mtok mval mfk mfpl mbem mtrs mtrl mrom mtom mnow mfre_4 mkep mtap mlef mtak mbes mrow mint mrnd mplo mhio mtox mtol) 11 [(0, .ref (h 0)), (1, .int p1), (2, .int x2_3)] [] := by
    intro x2_3 mfre_4 hw
    refine lfp2_walk (P := fun x2_3 mfre_4 => J p l e (rmk 2) s m args below meth c D A Q 3 (mw h cy mthr q1 mact mtpd msiz matx mfrm mtok mval mfk mfpl mbem mtrs mtrl mrom mtom mnow mfre_4 mkep mtap mlef mtak mbes mrow mint mrnd mplo mhio mtox mtol) 11 [(0, .ref (h 0)), (1, .int p1), (2, .int x2_3)] []) ?_ hw
    intro r6 ir6 x2_3 mfre_4 hf
    unfold X9_copiesFresh_h11 at hf
    refine jIloadn C dX9_copiesFresh_11 rfl 2 rfl ?_
    refine jSipush C (128 : Int32) dX9_copiesFresh_12 ks_128 ?_
    refine jCmpGe C 36 dX9_copiesFresh_15 (by decide) (fun c7 => ?_) (fun c7 => ?_)
    · replace hf := itp hf c7
      cases hf
      exact jEndV C hQ rfl dX9_copiesFresh_36
    · replace hf := itn hf c7
      refine jAloadn C dX9_copiesFresh_18 rfl 0 rfl ?_
      refine gf_RX9_13 C dX9_copiesFresh_19 ?_
      refine jIloadn C dX9_copiesFresh_22 rfl 2 rfl ?_
      refine jAloadn C dX9_copiesFresh_23 rfl 0 rfl ?_
      refine jIloadn C dX9_copiesFresh_24 rfl 1 rfl ?_
      refine jIloadn C dX9_copiesFresh_25 rfl 2 rfl ?_
      obtain ⟨q8, e9, hf⟩ := bd1_some hf
      refine jVI C (X9_isIn_ok  e9) vb_X9_isIn mk_RX9_81 rfl rcM ⟨Nat.le_of_ble_eq_true rfl, Nat.le_of_ble_eq_true rfl⟩ rfl (Nat.le_of_ble_eq_true rfl) dX9_copiesFresh_26 ?_
      obtain ⟨z10, hf⟩ := gin_some hf
      refine as_mfre C z10 dX9_copiesFresh_29 ?_
      refine jIinc C (x2_3 + (1 : Int32)) dX9_copiesFresh_30 2 rfl (congrArg (fun z : Int32 => x2_3 + z) ki_1) (Nat.le_of_ble_eq_true rfl) [(2, .int (x2_3 + (1 : Int32))), (0, .ref (h 0)), (1, .int p1)] rfl ?_
      refine jGoto C 11 dX9_copiesFresh_33 (by decide) ?_
      refine jSub [1, 2, 0] rfl ?_
      exact ir6 (x2_3 + (1 : Int32)) (upd mfre_4 x2_3.toNatClampNeg (vp_nar .boolean q8)) hf
  refine jSub [1, 2, 0] rfl ?_
  exact hL5 (0 : Int32) mfre hf
noncomputable def X9_isFreshLike_h20 (mnow : Nat → Int32) (p1 : Int32) (mfre : Nat → Int32) (r8 : Int32 → Int32 → Option Int32) (x2_5 : Int32) (x3_6 : Int32) : Option Int32 := (if (128 : Int32) ≤ x3_6 then gbo x2_5 (some x2_5) else (if x2_5 = (0 : Int32) then gbo x2_5 (some x2_5) else bd1 (X9_isIn mnow p1 x3_6) (fun q13 => gin x3_6 128 ((if q13 = (mfre x3_6.toNatClampNeg) then r8 (1 : Int32) (x3_6 + (1 : Int32)) else r8 (0 : Int32) (x3_6 + (1 : Int32)))))))
noncomputable def X9_isFreshLike_j17 (mnow : Nat → Int32) (p1 : Int32) (mfre : Nat → Int32) (y3 : Int32) : Option Int32 := lfp2 (X9_isFreshLike_h20 mnow p1 mfre) y3 (0 : Int32)
noncomputable def X9_isFreshLike (mfrp : Int32) (mnow : Nat → Int32) (mfre : Nat → Int32) (p1 : Int32) : Option Int32 := bd1 (X9_points mnow p1) (fun q1 => (if q1 = mfrp then X9_isFreshLike_j17 mnow p1 mfre (1 : Int32) else X9_isFreshLike_j17 mnow p1 mfre (0 : Int32)))
set_option maxHeartbeats 4000000 in
set_option maxRecDepth 20000 in
theorem X9_isFreshLike_ok {p1 : Int32} {rr : Int32}  (hf : X9_isFreshLike mfrp mnow mfre p1 = some rr) : MT yX9_isFreshLike cX9_isFreshLike 4 (some .boolean) 2 [.ref (h 0), .int p1] D cy G (mw h cy mthr mfrp mact mtpd msiz matx mfrm mtok mval mfk mfpl mbem mtrs mtrl mrom mtom mnow mfre mkep mtap mlef mtak mbes mrow mint mrnd mplo mhio mtox mtol) (mw h cy mthr mfrp mact mtpd msiz matx mfrm mtok mval mfk mfpl mbem mtrs mtrl mrom mtom mnow mfre mkep mtap mlef mtak mbes mrow mint mrnd mplo mhio mtox mtol) (some (.int rr)) := by
  refine MT.go (own := RX9) [(0, .ref (h 0)), (1, .int p1)] (by decide) rfl (Nat.le_of_ble_eq_true rfl) rfl (fun p l e s m args below meth c A Q C hQ => ?_)
  unfold X9_isFreshLike at hf
  refine jAloadn C dX9_isFreshLike_0 rfl 0 rfl ?_
  refine jIloadn C dX9_isFreshLike_1 rfl 1 rfl ?_
  obtain ⟨q1, e2, hf⟩ := bd1_some hf
  refine jVI C (X9_points_ok  e2) vb_X9_points mk_RX9_78 rfl rcM ⟨Nat.le_of_ble_eq_true rfl, Nat.le_of_ble_eq_true rfl⟩ rfl (Nat.le_of_ble_eq_true rfl) dX9_isFreshLike_2 ?_
  refine jAloadn C dX9_isFreshLike_5 rfl 0 rfl ?_
  refine gf_RX9_88 C dX9_isFreshLike_6 ?_
  have hL4 : ∀ (y3 : Int32), X9_isFreshLike_j17 mnow p1 mfre y3 = some rr → J p l e (rmk 2) s m args below meth c D A Q 4 (mw h cy mthr mfrp mact mtpd msiz matx mfrm mtok mval mfk mfpl mbem mtrs mtrl mrom mtom mnow mfre mkep mtap mlef mtak mbes mrow mint mrnd mplo mhio mtox mtol) 17 [(0, .ref (h 0)), (1, .int p1)] [.int y3] := by
    intro y3 hf
    unfold X9_isFreshLike_j17 at hf
    refine jIstoren C dX9_isFreshLike_17 rfl (Nat.le_of_ble_eq_true rfl) [(2, .int y3), (0, .ref (h 0)), (1, .int p1)] rfl ?_
    refine jIconst C (0 : Int32) dX9_isFreshLike_18 ki_0 ?_
    refine jIstoren C dX9_isFreshLike_19 rfl (Nat.le_of_ble_eq_true rfl) [(3, .int (0 : Int32)), (2, .int y3), (0, .ref (h 0)), (1, .int p1)] rfl ?_
    have hL7 : ∀ (x2_5 : Int32) (x3_6 : Int32), lfp2 (X9_isFreshLike_h20 mnow p1 mfre) x2_5 x3_6 = some rr → J p l e (rmk 2) s m args below meth c D A Q 4 (mw h cy mthr mfrp mact mtpd msiz matx mfrm mtok mval mfk mfpl mbem mtrs mtrl mrom mtom mnow mfre mkep mtap mlef mtak mbes mrow mint mrnd mplo mhio mtox mtol) 20 [(0, .ref (h 0)), (1, .int p1), (2, .int x2_5), (3, .int x3_6)] [] := by
      intro x2_5 x3_6 hw
      refine lfp2_walk (P := fun x2_5 x3_6 => J p l e (rmk 2) s m args below meth c D A Q 4 (mw h cy mthr mfrp mact mtpd msiz matx mfrm mtok mval mfk mfpl mbem mtrs mtrl mrom mtom mnow mfre mkep mtap mlef mtak mbes mrow mint mrnd mplo mhio mtox mtol) 20 [(0, .ref (h 0)), (1, .int p1), (2, .int x2_5), (3, .int x3_6)] []) ?_ hw
      intro r8 ir8 x2_5 x3_6 hf
      unfold X9_isFreshLike_h20 at hf
      refine jIloadn C dX9_isFreshLike_20 rfl 3 rfl ?_
      refine jSipush C (128 : Int32) dX9_isFreshLike_21 ks_128 ?_
      refine jCmpGe C 58 dX9_isFreshLike_24 (by decide) (fun c9 => ?_) (fun c9 => ?_)
      · replace hf := itp hf c9
        refine jIloadn C dX9_isFreshLike_58 rfl 2 rfl ?_
        obtain ⟨z10, hf⟩ := gbo_some hf
        cases hf
        exact jEndIZ C hQ rfl z10 dX9_isFreshLike_59
      · replace hf := itn hf c9
        refine jIloadn C dX9_isFreshLike_27 rfl 2 rfl ?_
        refine jIfEq C 58 dX9_isFreshLike_28 (by decide) (fun c11 => ?_) (fun c11 => ?_)
        · replace hf := itp hf c11
          refine jIloadn C dX9_isFreshLike_58 rfl 2 rfl ?_
          obtain ⟨z12, hf⟩ := gbo_some hf
          cases hf
          exact jEndIZ C hQ rfl z12 dX9_isFreshLike_59
        · replace hf := itn hf c11
          refine jAloadn C dX9_isFreshLike_31 rfl 0 rfl ?_
          refine jIloadn C dX9_isFreshLike_32 rfl 1 rfl ?_
          refine jIloadn C dX9_isFreshLike_33 rfl 3 rfl ?_
          obtain ⟨q13, e14, hf⟩ := bd1_some hf
          refine jVI C (X9_isIn_ok  e14) vb_X9_isIn mk_RX9_81 rfl rcM ⟨Nat.le_of_ble_eq_true rfl, Nat.le_of_ble_eq_true rfl⟩ rfl (Nat.le_of_ble_eq_true rfl) dX9_isFreshLike_34 ?_
          refine jAloadn C dX9_isFreshLike_37 rfl 0 rfl ?_
          refine gf_RX9_13 C dX9_isFreshLike_38 ?_
          refine jIloadn C dX9_isFreshLike_41 rfl 3 rfl ?_
          obtain ⟨z15, hf⟩ := gin_some hf
          refine al_mfre C z15 dX9_isFreshLike_42 ?_
          refine jCmpNe C 50 dX9_isFreshLike_43 (by decide) (fun c16 => ?_) (fun c16 => ?_)
          · replace hf := itn hf c16
            refine jIconst C (0 : Int32) dX9_isFreshLike_50 ki_0 ?_
            refine jIstoren C dX9_isFreshLike_51 rfl (Nat.le_of_ble_eq_true rfl) [(2, .int (0 : Int32)), (0, .ref (h 0)), (1, .int p1), (3, .int x3_6)] rfl ?_
            refine jIinc C (x3_6 + (1 : Int32)) dX9_isFreshLike_52 3 rfl (congrArg (fun z : Int32 => x3_6 + z) ki_1) (Nat.le_of_ble_eq_true rfl) [(3, .int (x3_6 + (1 : Int32))), (2, .int (0 : Int32)), (0, .ref (h 0)), (1, .int p1)] rfl ?_
            refine jGoto C 20 dX9_isFreshLike_55 (by decide) ?_
            refine jSub [2, 3, 1, 0] rfl ?_
            exact ir8 (0 : Int32) (x3_6 + (1 : Int32)) hf
          · replace hf := itp hf c16
            refine jIconst C (1 : Int32) dX9_isFreshLike_46 ki_1 ?_
            refine jGoto C 51 dX9_isFreshLike_47 (by decide) ?_
            refine jIstoren C dX9_isFreshLike_51 rfl (Nat.le_of_ble_eq_true rfl) [(2, .int (1 : Int32)), (0, .ref (h 0)), (1, .int p1), (3, .int x3_6)] rfl ?_
            refine jIinc C (x3_6 + (1 : Int32)) dX9_isFreshLike_52 3 rfl (congrArg (fun z : Int32 => x3_6 + z) ki_1) (Nat.le_of_ble_eq_true rfl) [(3, .int (x3_6 + (1 : Int32))), (2, .int (1 : Int32)), (0, .ref (h 0)), (1, .int p1)] rfl ?_
            refine jGoto C 20 dX9_isFreshLike_55 (by decide) ?_
            refine jSub [2, 3, 1, 0] rfl ?_
            exact ir8 (1 : Int32) (x3_6 + (1 : Int32)) hf
    refine jSub [2, 3, 1, 0] rfl ?_
    exact hL7 y3 (0 : Int32) hf
  refine jCmpNe C 16 dX9_isFreshLike_9 (by decide) (fun c17 => ?_) (fun c17 => ?_)
  · replace hf := itn hf c17
    refine jIconst C (0 : Int32) dX9_isFreshLike_16 ki_0 ?_
    exact hL4 (0 : Int32) hf
  · replace hf := itp hf c17
    refine jIconst C (1 : Int32) dX9_isFreshLike_12 ki_1 ?_
    refine jGoto C 17 dX9_isFreshLike_13 (by decide) ?_
    exact hL4 (1 : Int32) hf
noncomputable def X9_comes_h27 (p1 : Int32) (mact_6 : Int32) (mkep_7 : Nat → Int32) (mfre : Nat → Int32) (r15 : Int32 → (Nat → Int32) → Option (Int32 × Int32 × (Nat → Int32) × (Nat → Int32))) (x2_12 : Int32) (mnow_13 : Nat → Int32) : Option (Int32 × Int32 × (Nat → Int32) × (Nat → Int32)) := (if (128 : Int32) ≤ x2_12 then bd1 (X9_many mnow_13 p1) (fun q17 => some (q17, mact_6, mnow_13, mkep_7)) else bd1 (X9_base p1) (fun q19 => gin x2_12 128 ((if (mfre x2_12.toNatClampNeg) = (0 : Int32) then gin ((q19 + (1 : Int32)) + x2_12) 387 (r15 (x2_12 + (1 : Int32)) (upd mnow_13 ((q19 + (1 : Int32)) + x2_12).toNatClampNeg (0 : Int32))) else gin ((q19 + (1 : Int32)) + x2_12) 387 (r15 (x2_12 + (1 : Int32)) (upd mnow_13 ((q19 + (1 : Int32)) + x2_12).toNatClampNeg (1 : Int32)))))))
noncomputable def X9_comes (mfrp : Int32) (mact : Int32) (mnow : Nat → Int32) (mfre : Nat → Int32) (mkep : Nat → Int32) (p1 : Int32) : Option (Int32 × Int32 × (Nat → Int32) × (Nat → Int32)) := bd1 (X9_isFreshLike mfrp mnow mfre p1) (fun q1 => (if q1 = (0 : Int32) then bd2 (X9_keeps mact mnow mkep) (fun mact_6 mkep_7 => bd1 (X9_base p1) (fun q9 => gin q9 387 (lfp2 (X9_comes_h27 p1 mact_6 mkep_7 mfre) (0 : Int32) (upd mnow q9.toNatClampNeg mfrp)))) else bd1 (X9_many mnow p1) (fun q4 => some (q4, mact, mnow, mkep))))
set_option maxHeartbeats 4000000 in
set_option maxRecDepth 20000 in
theorem X9_comes_ok {p1 : Int32} {rr : Int32} {omact : Int32} {omnow : Nat → Int32} {omkep : Nat → Int32}  (hf : X9_comes mfrp mact mnow mfre mkep p1 = some (rr, omact, omnow, omkep)) : MT yX9_comes cX9_comes 3 (some .int) 3 [.ref (h 0), .int p1] D cy G (mw h cy mthr mfrp mact mtpd msiz matx mfrm mtok mval mfk mfpl mbem mtrs mtrl mrom mtom mnow mfre mkep mtap mlef mtak mbes mrow mint mrnd mplo mhio mtox mtol) (mw h cy mthr mfrp omact mtpd msiz matx mfrm mtok mval mfk mfpl mbem mtrs mtrl mrom mtom omnow mfre omkep mtap mlef mtak mbes mrow mint mrnd mplo mhio mtox mtol) (some (.int rr)) := by
  refine MT.go (own := RX9) [(0, .ref (h 0)), (1, .int p1)] (by decide) rfl (Nat.le_of_ble_eq_true rfl) rfl (fun p l e s m args below meth c A Q C hQ => ?_)
  unfold X9_comes at hf
  refine jAloadn C dX9_comes_0 rfl 0 rfl ?_
  refine jIloadn C dX9_comes_1 rfl 1 rfl ?_
  obtain ⟨q1, e2, hf⟩ := bd1_some hf
  refine jVI C (X9_isFreshLike_ok  e2) vb_X9_isFreshLike mk_RX9_91 rfl rcM ⟨Nat.le_of_ble_eq_true rfl, Nat.le_of_ble_eq_true rfl⟩ rfl (Nat.le_of_ble_eq_true rfl) dX9_comes_2 ?_
  refine jIfNe C 67 dX9_comes_5 (by decide) (fun c3 => ?_) (fun c3 => ?_)
  · replace hf := itn hf c3
    refine jAloadn C dX9_comes_67 rfl 0 rfl ?_
    refine jIloadn C dX9_comes_68 rfl 1 rfl ?_
    obtain ⟨q4, e5, hf⟩ := bd1_some hf
    refine jVI C (X9_many_ok  e5) vb_X9_many mk_RX9_97 rfl rcM ⟨Nat.le_of_ble_eq_true rfl, Nat.le_of_ble_eq_true rfl⟩ rfl (Nat.le_of_ble_eq_true rfl) dX9_comes_69 ?_
    cases hf
    exact jEndI C hQ rfl dX9_comes_72
  · replace hf := itp hf c3
    refine jAloadn C dX9_comes_8 rfl 0 rfl ?_
    obtain ⟨mact_6, mkep_7, e8, hf⟩ := bd2_some hf
    refine jVV C (X9_keeps_ok  e8) vb_X9_keeps mk_RX9_94 rfl rcM ⟨Nat.le_of_ble_eq_true rfl, Nat.le_of_ble_eq_true rfl⟩ rfl (Nat.le_of_ble_eq_true rfl) dX9_comes_9 ?_
    refine jAloadn C dX9_comes_12 rfl 0 rfl ?_
    refine gf_RX9_9 C dX9_comes_13 ?_
    refine jIloadn C dX9_comes_16 rfl 1 rfl ?_
    obtain ⟨q9, e10, hf⟩ := bd1_some hf
    refine jSI C (X9_base_ok  e10) sb_X9_base mk_RX9_71 rfl ⟨Nat.le_of_ble_eq_true rfl, Nat.le_of_ble_eq_true rfl⟩ rfl (Nat.le_of_ble_eq_true rfl) dX9_comes_17 ?_
    refine jAloadn C dX9_comes_20 rfl 0 rfl ?_
    refine gf_RX9_88 C dX9_comes_21 ?_
    obtain ⟨z11, hf⟩ := gin_some hf
    refine as_mnow C z11 dX9_comes_24 ?_
    refine jIconst C (0 : Int32) dX9_comes_25 ki_0 ?_
    refine jIstoren C dX9_comes_26 rfl (Nat.le_of_ble_eq_true rfl) [(2, .int (0 : Int32)), (0, .ref (h 0)), (1, .int p1)] rfl ?_
    have hL14 : ∀ (x2_12 : Int32) (mnow_13 : Nat → Int32), lfp2 (X9_comes_h27 p1 mact_6 mkep_7 mfre) x2_12 mnow_13 = some (rr, omact, omnow, omkep) → J p l e (rmk 3) s m args below meth c D A Q 3 (mw h cy mthr mfrp mact_6 mtpd msiz matx mfrm mtok mval mfk mfpl mbem mtrs mtrl mrom mtom mnow_13 mfre mkep_7 mtap mlef mtak mbes mrow mint mrnd mplo mhio mtox mtol) 27 [(0, .ref (h 0)), (1, .int p1), (2, .int x2_12)] [] := by
      intro x2_12 mnow_13 hw
      refine lfp2_walk (P := fun x2_12 mnow_13 => J p l e (rmk 3) s m args below meth c D A Q 3 (mw h cy mthr mfrp mact_6 mtpd msiz matx mfrm mtok mval mfk mfpl mbem mtrs mtrl mrom mtom mnow_13 mfre mkep_7 mtap mlef mtak mbes mrow mint mrnd mplo mhio mtox mtol) 27 [(0, .ref (h 0)), (1, .int p1), (2, .int x2_12)] []) ?_ hw
      intro r15 ir15 x2_12 mnow_13 hf
      unfold X9_comes_h27 at hf
      refine jIloadn C dX9_comes_27 rfl 2 rfl ?_
      refine jSipush C (128 : Int32) dX9_comes_28 ks_128 ?_
      refine jCmpGe C 67 dX9_comes_31 (by decide) (fun c16 => ?_) (fun c16 => ?_)
      · replace hf := itp hf c16
        refine jAloadn C dX9_comes_67 rfl 0 rfl ?_
        refine jIloadn C dX9_comes_68 rfl 1 rfl ?_
        obtain ⟨q17, e18, hf⟩ := bd1_some hf
        refine jVI C (X9_many_ok  e18) vb_X9_many mk_RX9_97 rfl rcM ⟨Nat.le_of_ble_eq_true rfl, Nat.le_of_ble_eq_true rfl⟩ rfl (Nat.le_of_ble_eq_true rfl) dX9_comes_69 ?_
        cases hf
        exact jEndI C hQ rfl dX9_comes_72
      · replace hf := itn hf c16
        refine jAloadn C dX9_comes_34 rfl 0 rfl ?_
        refine gf_RX9_9 C dX9_comes_35 ?_
        refine jIloadn C dX9_comes_38 rfl 1 rfl ?_
        obtain ⟨q19, e20, hf⟩ := bd1_some hf
        refine jSI C (X9_base_ok  e20) sb_X9_base mk_RX9_71 rfl ⟨Nat.le_of_ble_eq_true rfl, Nat.le_of_ble_eq_true rfl⟩ rfl (Nat.le_of_ble_eq_true rfl) dX9_comes_39 ?_
        refine jIconst C (1 : Int32) dX9_comes_42 ki_1 ?_
        refine jIadd C dX9_comes_43 ?_
        refine jIloadn C dX9_comes_44 rfl 2 rfl ?_
        refine jIadd C dX9_comes_45 ?_
        refine jAloadn C dX9_comes_46 rfl 0 rfl ?_
        refine gf_RX9_13 C dX9_comes_47 ?_
        refine jIloadn C dX9_comes_50 rfl 2 rfl ?_
        obtain ⟨z21, hf⟩ := gin_some hf
        refine al_mfre C z21 dX9_comes_51 ?_
        refine jIfEq C 59 dX9_comes_52 (by decide) (fun c22 => ?_) (fun c22 => ?_)
        · replace hf := itp hf c22
          refine jIconst C (0 : Int32) dX9_comes_59 ki_0 ?_
          obtain ⟨z23, hf⟩ := gin_some hf
          refine as_mnow C z23 dX9_comes_60 ?_
          refine jIinc C (x2_12 + (1 : Int32)) dX9_comes_61 2 rfl (congrArg (fun z : Int32 => x2_12 + z) ki_1) (Nat.le_of_ble_eq_true rfl) [(2, .int (x2_12 + (1 : Int32))), (0, .ref (h 0)), (1, .int p1)] rfl ?_
          refine jGoto C 27 dX9_comes_64 (by decide) ?_
          refine jSub [1, 2, 0] rfl ?_
          exact ir15 (x2_12 + (1 : Int32)) (upd mnow_13 ((q19 + (1 : Int32)) + x2_12).toNatClampNeg (0 : Int32)) hf
        · replace hf := itn hf c22
          refine jIconst C (1 : Int32) dX9_comes_55 ki_1 ?_
          refine jGoto C 60 dX9_comes_56 (by decide) ?_
          obtain ⟨z24, hf⟩ := gin_some hf
          refine as_mnow C z24 dX9_comes_60 ?_
          refine jIinc C (x2_12 + (1 : Int32)) dX9_comes_61 2 rfl (congrArg (fun z : Int32 => x2_12 + z) ki_1) (Nat.le_of_ble_eq_true rfl) [(2, .int (x2_12 + (1 : Int32))), (0, .ref (h 0)), (1, .int p1)] rfl ?_
          refine jGoto C 27 dX9_comes_64 (by decide) ?_
          refine jSub [1, 2, 0] rfl ?_
          exact ir15 (x2_12 + (1 : Int32)) (upd mnow_13 ((q19 + (1 : Int32)) + x2_12).toNatClampNeg (1 : Int32)) hf
    refine jSub [1, 2, 0] rfl ?_
    exact hL14 (0 : Int32) (upd mnow q9.toNatClampNeg mfrp) hf
noncomputable def X9_puts4_h3 (p1 : Int32) (r5 : Int32 → Int32 → (Nat → Int32) → Option (Int32 × (Nat → Int32))) (x2_1 : Int32) (mtpd_2 : Int32) (mtap_3 : Nat → Int32) : Option (Int32 × (Nat → Int32)) := (if x2_1 < (0 : Int32) then some (mtpd_2, mtap_3) else gin mtpd_2 800 (r5 (x2_1 + (-8 : Int32)) (mtpd_2 + (1 : Int32)) (upd mtap_3 mtpd_2.toNatClampNeg (vp_nar .byte ((p1 >>> (x2_1 &&& 31)).toInt8.toInt32)))))
noncomputable def X9_puts4 (mtpd : Int32) (mtap : Nat → Int32) (p1 : Int32) : Option (Int32 × (Nat → Int32)) := lfp3 (X9_puts4_h3 p1) (24 : Int32) mtpd mtap
set_option maxHeartbeats 4000000 in
set_option maxRecDepth 20000 in
theorem X9_puts4_ok {p1 : Int32} {omtpd : Int32} {omtap : Nat → Int32}  (hf : X9_puts4 mtpd mtap p1 = some (omtpd, omtap)) : MT yX9_puts4 cX9_puts4 3 none 0 [.ref (h 0), .int p1] D cy G (mw h cy mthr mfrp mact mtpd msiz matx mfrm mtok mval mfk mfpl mbem mtrs mtrl mrom mtom mnow mfre mkep mtap mlef mtak mbes mrow mint mrnd mplo mhio mtox mtol) (mw h cy mthr mfrp mact omtpd msiz matx mfrm mtok mval mfk mfpl mbem mtrs mtrl mrom mtom mnow mfre mkep omtap mlef mtak mbes mrow mint mrnd mplo mhio mtox mtol) none := by
  refine MT.go (own := RX9) [(0, .ref (h 0)), (1, .int p1)] (by decide) rfl (Nat.le_of_ble_eq_true rfl) rfl (fun p l e s m args below meth c A Q C hQ => ?_)
  unfold X9_puts4 at hf
  refine jBipush C (24 : Int32) dX9_puts4_0 kb_24 ?_
  refine jIstoren C dX9_puts4_2 rfl (Nat.le_of_ble_eq_true rfl) [(2, .int (24 : Int32)), (0, .ref (h 0)), (1, .int p1)] rfl ?_
  have hL4 : ∀ (x2_1 : Int32) (mtpd_2 : Int32) (mtap_3 : Nat → Int32), lfp3 (X9_puts4_h3 p1) x2_1 mtpd_2 mtap_3 = some (omtpd, omtap) → J p l e (rmk 0) s m args below meth c D A Q 3 (mw h cy mthr mfrp mact mtpd_2 msiz matx mfrm mtok mval mfk mfpl mbem mtrs mtrl mrom mtom mnow mfre mkep mtap_3 mlef mtak mbes mrow mint mrnd mplo mhio mtox mtol) 3 [(0, .ref (h 0)), (1, .int p1), (2, .int x2_1)] [] := by
    intro x2_1 mtpd_2 mtap_3 hw
    refine lfp3_walk (P := fun x2_1 mtpd_2 mtap_3 => J p l e (rmk 0) s m args below meth c D A Q 3 (mw h cy mthr mfrp mact mtpd_2 msiz matx mfrm mtok mval mfk mfpl mbem mtrs mtrl mrom mtom mnow mfre mkep mtap_3 mlef mtak mbes mrow mint mrnd mplo mhio mtox mtol) 3 [(0, .ref (h 0)), (1, .int p1), (2, .int x2_1)] []) ?_ hw
    intro r5 ir5 x2_1 mtpd_2 mtap_3 hf
    unfold X9_puts4_h3 at hf
    refine jIloadn C dX9_puts4_3 rfl 2 rfl ?_
    refine jIfLt C 36 dX9_puts4_4 (by decide) (fun c6 => ?_) (fun c6 => ?_)
    · replace hf := itp hf c6
      cases hf
      exact jEndV C hQ rfl dX9_puts4_36
    · replace hf := itn hf c6
      refine jAloadn C dX9_puts4_7 rfl 0 rfl ?_
      refine gf_RX9_20 C dX9_puts4_8 ?_
      refine jAloadn C dX9_puts4_11 rfl 0 rfl ?_
      refine gf_RX9_100 C dX9_puts4_12 ?_
      refine jIloadn C dX9_puts4_15 rfl 1 rfl ?_
      refine jIloadn C dX9_puts4_16 rfl 2 rfl ?_
      refine jIshr C dX9_puts4_17 ?_
      refine jI2b C dX9_puts4_18 ?_
      obtain ⟨z7, hf⟩ := gin_some hf
      refine as_mtap C z7 dX9_puts4_19 ?_
      refine jAloadn C dX9_puts4_20 rfl 0 rfl ?_
      refine jDup C dX9_puts4_21 rfl ?_
      refine gf_RX9_100 C dX9_puts4_22 ?_
      refine jIconst C (1 : Int32) dX9_puts4_25 ki_1 ?_
      refine jIadd C dX9_puts4_26 ?_
      refine pf_RX9_100 C dX9_puts4_27 ?_
      refine jIinc C (x2_1 + (-8 : Int32)) dX9_puts4_30 2 rfl (congrArg (fun z : Int32 => x2_1 + z) (by decide +kernel)) (Nat.le_of_ble_eq_true rfl) [(2, .int (x2_1 + (-8 : Int32))), (0, .ref (h 0)), (1, .int p1)] rfl ?_
      refine jGoto C 3 dX9_puts4_33 (by decide) ?_
      refine jSub [1, 2, 0] rfl ?_
      exact ir5 (x2_1 + (-8 : Int32)) (mtpd_2 + (1 : Int32)) (upd mtap_3 mtpd_2.toNatClampNeg (vp_nar .byte ((p1 >>> (x2_1 &&& 31)).toInt8.toInt32))) hf
  refine jSub [1, 2, 0] rfl ?_
  exact hL4 (24 : Int32) mtpd mtap hf
noncomputable def X9_feed (mtpd : Int32) (mtap : Nat → Int32) (p1 : Int32) (p2 : Int32) (p3 : Int32) (p4 : Int32) (p5 : Int32) : Option (Int32 × Int32 × (Nat → Int32)) := (if (mtpd + (20 : Int32)) ≤ (800 : Int32) then bd2 (X9_puts4 mtpd mtap p1) (fun mtpd_2 mtap_3 => bd2 (X9_puts4 mtpd_2 mtap_3 p2) (fun mtpd_5 mtap_6 => bd2 (X9_puts4 mtpd_5 mtap_6 p3) (fun mtpd_8 mtap_9 => bd2 (X9_puts4 mtpd_8 mtap_9 p4) (fun mtpd_11 mtap_12 => bd2 (X9_puts4 mtpd_11 mtap_12 p5) (fun mtpd_14 mtap_15 => some (mtpd_14, mtpd_14, mtap_15)))))) else some ((-1 : Int32), mtpd, mtap))
set_option maxHeartbeats 4000000 in
set_option maxRecDepth 20000 in
theorem X9_feed_ok {p1 : Int32} {p2 : Int32} {p3 : Int32} {p4 : Int32} {p5 : Int32} {rr : Int32} {omtpd : Int32} {omtap : Nat → Int32}  (hf : X9_feed mtpd mtap p1 p2 p3 p4 p5 = some (rr, omtpd, omtap)) : MT yX9_feed cX9_feed 6 (some .int) 1 [.ref (h 0), .int p1, .int p2, .int p3, .int p4, .int p5] D cy G (mw h cy mthr mfrp mact mtpd msiz matx mfrm mtok mval mfk mfpl mbem mtrs mtrl mrom mtom mnow mfre mkep mtap mlef mtak mbes mrow mint mrnd mplo mhio mtox mtol) (mw h cy mthr mfrp mact omtpd msiz matx mfrm mtok mval mfk mfpl mbem mtrs mtrl mrom mtom mnow mfre mkep omtap mlef mtak mbes mrow mint mrnd mplo mhio mtox mtol) (some (.int rr)) := by
  refine MT.go (own := RX9) [(0, .ref (h 0)), (1, .int p1), (2, .int p2), (3, .int p3), (4, .int p4), (5, .int p5)] (by decide) rfl (Nat.le_of_ble_eq_true rfl) rfl (fun p l e s m args below meth c A Q C hQ => ?_)
  unfold X9_feed at hf
  refine jAloadn C dX9_feed_0 rfl 0 rfl ?_
  refine gf_RX9_100 C dX9_feed_1 ?_
  refine jBipush C (20 : Int32) dX9_feed_4 kb_20 ?_
  refine jIadd C dX9_feed_6 ?_
  refine jSipush C (800 : Int32) dX9_feed_7 ks_800 ?_
  refine jCmpLe C 15 dX9_feed_10 (by decide) (fun c1 => ?_) (fun c1 => ?_)
  · replace hf := itp hf c1
    refine jAloadn C dX9_feed_15 rfl 0 rfl ?_
    refine jIloadn C dX9_feed_16 rfl 1 rfl ?_
    obtain ⟨mtpd_2, mtap_3, e4, hf⟩ := bd2_some hf
    refine jVV C (X9_puts4_ok  e4) vb_X9_puts4 mk_RX9_103 rfl rcM ⟨Nat.le_of_ble_eq_true rfl, Nat.le_of_ble_eq_true rfl⟩ rfl (Nat.le_of_ble_eq_true rfl) dX9_feed_17 ?_
    refine jAloadn C dX9_feed_20 rfl 0 rfl ?_
    refine jIloadn C dX9_feed_21 rfl 2 rfl ?_
    obtain ⟨mtpd_5, mtap_6, e7, hf⟩ := bd2_some hf
    refine jVV C (X9_puts4_ok  e7) vb_X9_puts4 mk_RX9_103 rfl rcM ⟨Nat.le_of_ble_eq_true rfl, Nat.le_of_ble_eq_true rfl⟩ rfl (Nat.le_of_ble_eq_true rfl) dX9_feed_22 ?_
    refine jAloadn C dX9_feed_25 rfl 0 rfl ?_
    refine jIloadn C dX9_feed_26 rfl 3 rfl ?_
    obtain ⟨mtpd_8, mtap_9, e10, hf⟩ := bd2_some hf
    refine jVV C (X9_puts4_ok  e10) vb_X9_puts4 mk_RX9_103 rfl rcM ⟨Nat.le_of_ble_eq_true rfl, Nat.le_of_ble_eq_true rfl⟩ rfl (Nat.le_of_ble_eq_true rfl) dX9_feed_27 ?_
    refine jAloadn C dX9_feed_30 rfl 0 rfl ?_
    refine jIload C dX9_feed_31 4 rfl ?_
    obtain ⟨mtpd_11, mtap_12, e13, hf⟩ := bd2_some hf
    refine jVV C (X9_puts4_ok  e13) vb_X9_puts4 mk_RX9_103 rfl rcM ⟨Nat.le_of_ble_eq_true rfl, Nat.le_of_ble_eq_true rfl⟩ rfl (Nat.le_of_ble_eq_true rfl) dX9_feed_33 ?_
    refine jAloadn C dX9_feed_36 rfl 0 rfl ?_
    refine jIload C dX9_feed_37 5 rfl ?_
    obtain ⟨mtpd_14, mtap_15, e16, hf⟩ := bd2_some hf
    refine jVV C (X9_puts4_ok  e16) vb_X9_puts4 mk_RX9_103 rfl rcM ⟨Nat.le_of_ble_eq_true rfl, Nat.le_of_ble_eq_true rfl⟩ rfl (Nat.le_of_ble_eq_true rfl) dX9_feed_39 ?_
    refine jAloadn C dX9_feed_42 rfl 0 rfl ?_
    refine gf_RX9_100 C dX9_feed_43 ?_
    cases hf
    exact jEndI C hQ rfl dX9_feed_46
  · replace hf := itn hf c1
    refine jIconst C (-1 : Int32) dX9_feed_13 ki_m1 ?_
    cases hf
    exact jEndI C hQ rfl dX9_feed_14
noncomputable def X9_end (mtpd : Int32) (p1 : Int32) : Option (Int32 × Int32) := bd1 (X9_in (p1.toInt64) (0 : Int64) (mtpd.toInt64)) (fun q1 => (if q1 = (0 : Int32) then some ((-1 : Int32), mtpd) else some (p1, p1)))
set_option maxHeartbeats 4000000 in
set_option maxRecDepth 20000 in
theorem X9_end_ok {p1 : Int32} {rr : Int32} {omtpd : Int32}  (hf : X9_end mtpd p1 = some (rr, omtpd)) : MT yX9_end cX9_end 2 (some .int) 1 [.ref (h 0), .int p1] D cy G (mw h cy mthr mfrp mact mtpd msiz matx mfrm mtok mval mfk mfpl mbem mtrs mtrl mrom mtom mnow mfre mkep mtap mlef mtak mbes mrow mint mrnd mplo mhio mtox mtol) (mw h cy mthr mfrp mact omtpd msiz matx mfrm mtok mval mfk mfpl mbem mtrs mtrl mrom mtom mnow mfre mkep mtap mlef mtak mbes mrow mint mrnd mplo mhio mtox mtol) (some (.int rr)) := by
  refine MT.go (own := RX9) [(0, .ref (h 0)), (1, .int p1)] (by decide) rfl (Nat.le_of_ble_eq_true rfl) rfl (fun p l e s m args below meth c A Q C hQ => ?_)
  unfold X9_end at hf
  refine jIloadn C dX9_end_0 rfl 1 rfl ?_
  refine jI2l C dX9_end_1 ?_
  refine jLconst C (0 : Int64) dX9_end_2 rfl ?_
  refine jAloadn C dX9_end_3 rfl 0 rfl ?_
  refine gf_RX9_100 C dX9_end_4 ?_
  refine jI2l C dX9_end_7 ?_
  obtain ⟨q1, e2, hf⟩ := bd1_some hf
  refine jSI C (X9_in_ok  e2) sb_X9_in mk_RX9_63 rfl ⟨Nat.le_of_ble_eq_true rfl, Nat.le_of_ble_eq_true rfl⟩ rfl (Nat.le_of_ble_eq_true rfl) dX9_end_8 ?_
  refine jIfNe C 16 dX9_end_11 (by decide) (fun c3 => ?_) (fun c3 => ?_)
  · replace hf := itn hf c3
    refine jAloadn C dX9_end_16 rfl 0 rfl ?_
    refine jIloadn C dX9_end_17 rfl 1 rfl ?_
    refine pf_RX9_100 C dX9_end_18 ?_
    refine jIloadn C dX9_end_21 rfl 1 rfl ?_
    cases hf
    exact jEndI C hQ rfl dX9_end_22
  · replace hf := itp hf c3
    refine jIconst C (-1 : Int32) dX9_end_14 ki_m1 ?_
    cases hf
    exact jEndI C hQ rfl dX9_end_15
noncomputable def X9_good (mfk : Int32) : Option Int32 := (if mfk = (0 : Int32) then some (1 : Int32) else some (0 : Int32))
set_option maxHeartbeats 4000000 in
set_option maxRecDepth 20000 in
theorem X9_good_ok  {rr : Int32}  (hf : X9_good mfk = some rr) : MT yX9_good cX9_good 1 (some .boolean) 0 [.ref (h 0)] D cy G (mw h cy mthr mfrp mact mtpd msiz matx mfrm mtok mval mfk mfpl mbem mtrs mtrl mrom mtom mnow mfre mkep mtap mlef mtak mbes mrow mint mrnd mplo mhio mtox mtol) (mw h cy mthr mfrp mact mtpd msiz matx mfrm mtok mval mfk mfpl mbem mtrs mtrl mrom mtom mnow mfre mkep mtap mlef mtak mbes mrow mint mrnd mplo mhio mtox mtol) (some (.int rr)) := by
  refine MT.go (own := RX9) [(0, .ref (h 0))] (by decide) rfl (Nat.le_of_ble_eq_true rfl) rfl (fun p l e s m args below meth c A Q C hQ => ?_)
  unfold X9_good at hf
  refine jAloadn C dX9_good_0 rfl 0 rfl ?_
  refine gf_RX9_107 C dX9_good_1 ?_
  refine jIfNe C 11 dX9_good_4 (by decide) (fun c1 => ?_) (fun c1 => ?_)
  · replace hf := itn hf c1
    refine jIconst C (0 : Int32) dX9_good_11 ki_0 ?_
    cases hf
    exact jEndIZ C hQ rfl nar_z0 dX9_good_12
  · replace hf := itp hf c1
    refine jIconst C (1 : Int32) dX9_good_7 ki_1 ?_
    refine jGoto C 12 dX9_good_8 (by decide) ?_
    cases hf
    exact jEndIZ C hQ rfl nar_z1 dX9_good_12
noncomputable def X9_errs (mfk : Int32) (mfpl : Int32) (p1 : Int32) (p2 : Int32) : Option (Int32 × Int32) := bd1 (X9_good mfk) (fun q1 => (if q1 = (0 : Int32) then some (mfk, mfpl) else some (p1, p2)))
set_option maxHeartbeats 4000000 in
set_option maxRecDepth 20000 in
theorem X9_errs_ok {p1 : Int32} {p2 : Int32} {omfk : Int32} {omfpl : Int32}  (hf : X9_errs mfk mfpl p1 p2 = some (omfk, omfpl)) : MT yX9_errs cX9_errs 3 none 1 [.ref (h 0), .int p1, .int p2] D cy G (mw h cy mthr mfrp mact mtpd msiz matx mfrm mtok mval mfk mfpl mbem mtrs mtrl mrom mtom mnow mfre mkep mtap mlef mtak mbes mrow mint mrnd mplo mhio mtox mtol) (mw h cy mthr mfrp mact mtpd msiz matx mfrm mtok mval omfk omfpl mbem mtrs mtrl mrom mtom mnow mfre mkep mtap mlef mtak mbes mrow mint mrnd mplo mhio mtox mtol) none := by
  refine MT.go (own := RX9) [(0, .ref (h 0)), (1, .int p1), (2, .int p2)] (by decide) rfl (Nat.le_of_ble_eq_true rfl) rfl (fun p l e s m args below meth c A Q C hQ => ?_)
  unfold X9_errs at hf
  refine jAloadn C dX9_errs_0 rfl 0 rfl ?_
  obtain ⟨q1, e2, hf⟩ := bd1_some hf
  refine jVI C (X9_good_ok  e2) vb_X9_good mk_RX9_110 rfl rcM ⟨Nat.le_of_ble_eq_true rfl, Nat.le_of_ble_eq_true rfl⟩ rfl (Nat.le_of_ble_eq_true rfl) dX9_errs_1 ?_
  refine jIfNe C 8 dX9_errs_4 (by decide) (fun c3 => ?_) (fun c3 => ?_)
  · replace hf := itn hf c3
    refine jAloadn C dX9_errs_8 rfl 0 rfl ?_
    refine jIloadn C dX9_errs_9 rfl 1 rfl ?_
    refine pf_RX9_107 C dX9_errs_10 ?_
    refine jAloadn C dX9_errs_13 rfl 0 rfl ?_
    refine jIloadn C dX9_errs_14 rfl 2 rfl ?_
    refine pf_RX9_24 C dX9_errs_15 ?_
    cases hf
    exact jEndV C hQ rfl dX9_errs_18
  · replace hf := itp hf c3
    cases hf
    exact jEndV C hQ rfl dX9_errs_7
noncomputable def X9_see (msiz : Int32) (mtap : Nat → Int32) (p1 : Int32) : Option Int32 := (if msiz ≤ p1 then some (-1 : Int32) else gin p1 800 (some ((mtap p1.toNatClampNeg) &&& (255 : Int32))))
set_option maxHeartbeats 4000000 in
set_option maxRecDepth 20000 in
theorem X9_see_ok {p1 : Int32} {rr : Int32}  (hf : X9_see msiz mtap p1 = some rr) : MT yX9_see cX9_see 2 (some .int) 0 [.ref (h 0), .int p1] D cy G (mw h cy mthr mfrp mact mtpd msiz matx mfrm mtok mval mfk mfpl mbem mtrs mtrl mrom mtom mnow mfre mkep mtap mlef mtak mbes mrow mint mrnd mplo mhio mtox mtol) (mw h cy mthr mfrp mact mtpd msiz matx mfrm mtok mval mfk mfpl mbem mtrs mtrl mrom mtom mnow mfre mkep mtap mlef mtak mbes mrow mint mrnd mplo mhio mtox mtol) (some (.int rr)) := by
  refine MT.go (own := RX9) [(0, .ref (h 0)), (1, .int p1)] (by decide) rfl (Nat.le_of_ble_eq_true rfl) rfl (fun p l e s m args below meth c A Q C hQ => ?_)
  unfold X9_see at hf
  refine jIloadn C dX9_see_0 rfl 1 rfl ?_
  refine jAloadn C dX9_see_1 rfl 0 rfl ?_
  refine gf_RX9_114 C dX9_see_2 ?_
  refine jCmpGe C 21 dX9_see_5 (by decide) (fun c1 => ?_) (fun c1 => ?_)
  · replace hf := itp hf c1
    refine jIconst C (-1 : Int32) dX9_see_21 ki_m1 ?_
    cases hf
    exact jEndI C hQ rfl dX9_see_22
  · replace hf := itn hf c1
    refine jAloadn C dX9_see_8 rfl 0 rfl ?_
    refine gf_RX9_20 C dX9_see_9 ?_
    refine jIloadn C dX9_see_12 rfl 1 rfl ?_
    obtain ⟨z2, hf⟩ := gin_some hf
    refine al_mtap C z2 dX9_see_13 ?_
    refine jSipush C (255 : Int32) dX9_see_14 ks_255 ?_
    refine jIand C dX9_see_17 ?_
    refine jGoto C 22 dX9_see_18 (by decide) ?_
    cases hf
    exact jEndI C hQ rfl dX9_see_22
noncomputable def X9_advance_h83 (msiz : Int32) (mtap : Nat → Int32) (matx_1 : Int32) (mval : Int32) (r17 : Int32 → Option (Int32 × Int32 × Int32 × Int32)) (matx_15 : Int32) : Option (Int32 × Int32 × Int32 × Int32) := bd1 (X9_see msiz mtap matx_15) (fun q18 => bd1 (X9_in (q18.toInt64) (97 : Int64) (122 : Int64)) (fun q20 => (if q20 = (0 : Int32) then some (matx_15, matx_1, (1 : Int32), mval) else r17 (matx_15 + (1 : Int32)))))
noncomputable def X9_advance_h144 (msiz : Int32) (mtap : Nat → Int32) (matx_1 : Int32) (r30 : Int32 → Int32 → Option (Int32 × Int32 × Int32 × Int32)) (matx_27 : Int32) (mval_28 : Int32) : Option (Int32 × Int32 × Int32 × Int32) := bd1 (X9_see msiz mtap matx_27) (fun q31 => bd1 (X9_in (q31.toInt64) (48 : Int64) (57 : Int64)) (fun q33 => (if q33 = (0 : Int32) then some (matx_27, matx_1, (2 : Int32), mval_28) else bd1 (X9_see msiz mtap matx_27) (fun q36 => r30 (matx_27 + (1 : Int32)) (imin (9999 : Int32) ((((10 : Int32) * mval_28) + q36) - (48 : Int32)))))))
noncomputable def X9_advance_h0 (msiz : Int32) (mtap : Nat → Int32) (mval : Int32) (r3 : Int32 → Option (Int32 × Int32 × Int32 × Int32)) (matx_1 : Int32) : Option (Int32 × Int32 × Int32 × Int32) := bd1 (X9_see msiz mtap matx_1) (fun q4 => (if q4 = (32 : Int32) then r3 (matx_1 + (1 : Int32)) else bd1 (X9_see msiz mtap matx_1) (fun q7 => (if q7 = (10 : Int32) then r3 (matx_1 + (1 : Int32)) else bd1 (X9_see msiz mtap matx_1) (fun q10 => (if q10 = (-1 : Int32) then some (matx_1, matx_1, (0 : Int32), mval) else bd1 (X9_in (q10.toInt64) (97 : Int64) (122 : Int64)) (fun q13 => (if q13 = (0 : Int32) then bd1 (X9_in (q10.toInt64) (48 : Int64) (57 : Int64)) (fun q24 => (if q24 = (0 : Int32) then some ((matx_1 + (1 : Int32)), matx_1, (3 : Int32), q10) else lfp2 (X9_advance_h144 msiz mtap matx_1) matx_1 (0 : Int32))) else lfp1 (X9_advance_h83 msiz mtap matx_1 mval) matx_1))))))))
noncomputable def X9_advance (msiz : Int32) (matx : Int32) (mval : Int32) (mtap : Nat → Int32) : Option (Int32 × Int32 × Int32 × Int32) := lfp1 (X9_advance_h0 msiz mtap mval) matx
set_option maxHeartbeats 4000000 in
set_option maxRecDepth 20000 in
theorem X9_advance_ok  {omatx : Int32} {omfrm : Int32} {omtok : Int32} {omval : Int32}  (hf : X9_advance msiz matx mval mtap = some (omatx, omfrm, omtok, omval)) : MT yX9_advance cX9_advance 2 none 1 [.ref (h 0)] D cy G (mw h cy mthr mfrp mact mtpd msiz matx mfrm mtok mval mfk mfpl mbem mtrs mtrl mrom mtom mnow mfre mkep mtap mlef mtak mbes mrow mint mrnd mplo mhio mtox mtol) (mw h cy mthr mfrp mact mtpd msiz omatx omfrm omtok omval mfk mfpl mbem mtrs mtrl mrom mtom mnow mfre mkep mtap mlef mtak mbes mrow mint mrnd mplo mhio mtox mtol) none := by
  refine MT.go (own := RX9) [(0, .ref (h 0))] (by decide) rfl (Nat.le_of_ble_eq_true rfl) rfl (fun p l e s m args below meth c A Q C hQ => ?_)
  unfold X9_advance at hf
  have hL2 : ∀ (matx_1 : Int32), lfp1 (X9_advance_h0 msiz mtap mval) matx_1 = some (omatx, omfrm, omtok, omval) → J p l e (rmk 1) s m args below meth c D A Q 2 (mw h cy mthr mfrp mact mtpd msiz matx_1 mfrm mtok mval mfk mfpl mbem mtrs mtrl mrom mtom mnow mfre mkep mtap mlef mtak mbes mrow mint mrnd mplo mhio mtox mtol) 0 [(0, .ref (h 0))] [] := by
    intro matx_1 hw
    refine lfp1_walk (P := fun matx_1 => J p l e (rmk 1) s m args below meth c D A Q 2 (mw h cy mthr mfrp mact mtpd msiz matx_1 mfrm mtok mval mfk mfpl mbem mtrs mtrl mrom mtom mnow mfre mkep mtap mlef mtak mbes mrow mint mrnd mplo mhio mtox mtol) 0 [(0, .ref (h 0))] []) ?_ hw
    intro r3 ir3 matx_1 hf
    unfold X9_advance_h0 at hf
    refine jAloadn C dX9_advance_0 rfl 0 rfl ?_
    refine jAloadn C dX9_advance_1 rfl 0 rfl ?_
    refine gf_RX9_117 C dX9_advance_2 ?_
    obtain ⟨q4, e5, hf⟩ := bd1_some hf
    refine jVI C (X9_see_ok  e5) vb_X9_see mk_RX9_120 rfl rcM ⟨Nat.le_of_ble_eq_true rfl, Nat.le_of_ble_eq_true rfl⟩ rfl (Nat.le_of_ble_eq_true rfl) dX9_advance_5 ?_
    refine jBipush C (32 : Int32) dX9_advance_8 kb_32 ?_
    refine jCmpEq C 26 dX9_advance_10 (by decide) (fun c6 => ?_) (fun c6 => ?_)
    · replace hf := itp hf c6
      refine jAloadn C dX9_advance_26 rfl 0 rfl ?_
      refine jDup C dX9_advance_27 rfl ?_
      refine gf_RX9_117 C dX9_advance_28 ?_
      refine jIconst C (1 : Int32) dX9_advance_31 ki_1 ?_
      refine jIadd C dX9_advance_32 ?_
      refine pf_RX9_117 C dX9_advance_33 ?_
      refine jGoto C 0 dX9_advance_36 (by decide) ?_
      exact ir3 (matx_1 + (1 : Int32)) hf
    · replace hf := itn hf c6
      refine jAloadn C dX9_advance_13 rfl 0 rfl ?_
      refine jAloadn C dX9_advance_14 rfl 0 rfl ?_
      refine gf_RX9_117 C dX9_advance_15 ?_
      obtain ⟨q7, e8, hf⟩ := bd1_some hf
      refine jVI C (X9_see_ok  e8) vb_X9_see mk_RX9_120 rfl rcM ⟨Nat.le_of_ble_eq_true rfl, Nat.le_of_ble_eq_true rfl⟩ rfl (Nat.le_of_ble_eq_true rfl) dX9_advance_18 ?_
      refine jBipush C (10 : Int32) dX9_advance_21 kb_10 ?_
      refine jCmpNe C 39 dX9_advance_23 (by decide) (fun c9 => ?_) (fun c9 => ?_)
      · replace hf := itn hf c9
        refine jAloadn C dX9_advance_39 rfl 0 rfl ?_
        refine jAloadn C dX9_advance_40 rfl 0 rfl ?_
        refine gf_RX9_117 C dX9_advance_41 ?_
        refine pf_RX9_123 C dX9_advance_44 ?_
        refine jAloadn C dX9_advance_47 rfl 0 rfl ?_
        refine jAloadn C dX9_advance_48 rfl 0 rfl ?_
        refine gf_RX9_117 C dX9_advance_49 ?_
        obtain ⟨q10, e11, hf⟩ := bd1_some hf
        refine jVI C (X9_see_ok  e11) vb_X9_see mk_RX9_120 rfl rcM ⟨Nat.le_of_ble_eq_true rfl, Nat.le_of_ble_eq_true rfl⟩ rfl (Nat.le_of_ble_eq_true rfl) dX9_advance_52 ?_
        refine jIstoren C dX9_advance_55 rfl (Nat.le_of_ble_eq_true rfl) [(1, .int q10), (0, .ref (h 0))] rfl ?_
        refine jIloadn C dX9_advance_56 rfl 0 rfl ?_
        refine jIconst C (-1 : Int32) dX9_advance_57 ki_m1 ?_
        refine jCmpNe C 69 dX9_advance_58 (by decide) (fun c12 => ?_) (fun c12 => ?_)
        · replace hf := itn hf c12
          refine jIloadn C dX9_advance_69 rfl 0 rfl ?_
          refine jI2l C dX9_advance_70 ?_
          refine jLdc2 C (x := (97 : Int64)) lk_RX9_129 dX9_advance_71 ?_
          refine jLdc2 C (x := (122 : Int64)) lk_RX9_131 dX9_advance_74 ?_
          obtain ⟨q13, e14, hf⟩ := bd1_some hf
          refine jSI C (X9_in_ok  e14) sb_X9_in mk_RX9_63 rfl ⟨Nat.le_of_ble_eq_true rfl, Nat.le_of_ble_eq_true rfl⟩ rfl (Nat.le_of_ble_eq_true rfl) dX9_advance_77 ?_
          have hL16 : ∀ (matx_15 : Int32), lfp1 (X9_advance_h83 msiz mtap matx_1 mval) matx_15 = some (omatx, omfrm, omtok, omval) → J p l e (rmk 1) s m args below meth c D A Q 2 (mw h cy mthr mfrp mact mtpd msiz matx_15 matx_1 mtok mval mfk mfpl mbem mtrs mtrl mrom mtom mnow mfre mkep mtap mlef mtak mbes mrow mint mrnd mplo mhio mtox mtol) 83 [(0, .ref (h 0))] [] := by
            intro matx_15 hw
            refine lfp1_walk (P := fun matx_15 => J p l e (rmk 1) s m args below meth c D A Q 2 (mw h cy mthr mfrp mact mtpd msiz matx_15 matx_1 mtok mval mfk mfpl mbem mtrs mtrl mrom mtom mnow mfre mkep mtap mlef mtak mbes mrow mint mrnd mplo mhio mtox mtol) 83 [(0, .ref (h 0))] []) ?_ hw
            intro r17 ir17 matx_15 hf
            unfold X9_advance_h83 at hf
            refine jAloadn C dX9_advance_83 rfl 0 rfl ?_
            refine jAloadn C dX9_advance_84 rfl 0 rfl ?_
            refine gf_RX9_117 C dX9_advance_85 ?_
            obtain ⟨q18, e19, hf⟩ := bd1_some hf
            refine jVI C (X9_see_ok  e19) vb_X9_see mk_RX9_120 rfl rcM ⟨Nat.le_of_ble_eq_true rfl, Nat.le_of_ble_eq_true rfl⟩ rfl (Nat.le_of_ble_eq_true rfl) dX9_advance_88 ?_
            refine jI2l C dX9_advance_91 ?_
            refine jLdc2 C (x := (97 : Int64)) lk_RX9_129 dX9_advance_92 ?_
            refine jLdc2 C (x := (122 : Int64)) lk_RX9_131 dX9_advance_95 ?_
            obtain ⟨q20, e21, hf⟩ := bd1_some hf
            refine jSI C (X9_in_ok  e21) sb_X9_in mk_RX9_63 rfl ⟨Nat.le_of_ble_eq_true rfl, Nat.le_of_ble_eq_true rfl⟩ rfl (Nat.le_of_ble_eq_true rfl) dX9_advance_98 ?_
            refine jIfEq C 117 dX9_advance_101 (by decide) (fun c22 => ?_) (fun c22 => ?_)
            · replace hf := itp hf c22
              refine jAloadn C dX9_advance_117 rfl 0 rfl ?_
              refine jIconst C (1 : Int32) dX9_advance_118 ki_1 ?_
              refine pf_RX9_126 C dX9_advance_119 ?_
              refine jGoto C 235 dX9_advance_122 (by decide) ?_
              cases hf
              exact jEndV C hQ rfl dX9_advance_235
            · replace hf := itn hf c22
              refine jAloadn C dX9_advance_104 rfl 0 rfl ?_
              refine jDup C dX9_advance_105 rfl ?_
              refine gf_RX9_117 C dX9_advance_106 ?_
              refine jIconst C (1 : Int32) dX9_advance_109 ki_1 ?_
              refine jIadd C dX9_advance_110 ?_
              refine pf_RX9_117 C dX9_advance_111 ?_
              refine jGoto C 83 dX9_advance_114 (by decide) ?_
              exact ir17 (matx_15 + (1 : Int32)) hf
          refine jIfEq C 125 dX9_advance_80 (by decide) (fun c23 => ?_) (fun c23 => ?_)
          · replace hf := itp hf c23
            refine jIloadn C dX9_advance_125 rfl 0 rfl ?_
            refine jI2l C dX9_advance_126 ?_
            refine jLdc2 C (x := (48 : Int64)) lk_RX9_133 dX9_advance_127 ?_
            refine jLdc2 C (x := (57 : Int64)) lk_RX9_135 dX9_advance_130 ?_
            obtain ⟨q24, e25, hf⟩ := bd1_some hf
            refine jSI C (X9_in_ok  e25) sb_X9_in mk_RX9_63 rfl ⟨Nat.le_of_ble_eq_true rfl, Nat.le_of_ble_eq_true rfl⟩ rfl (Nat.le_of_ble_eq_true rfl) dX9_advance_133 ?_
            refine jIfEq C 215 dX9_advance_136 (by decide) (fun c26 => ?_) (fun c26 => ?_)
            · replace hf := itp hf c26
              refine jAloadn C dX9_advance_215 rfl 1 rfl ?_
              refine jIconst C (3 : Int32) dX9_advance_216 ki_3 ?_
              refine pf_RX9_126 C dX9_advance_217 ?_
              refine jAloadn C dX9_advance_220 rfl 1 rfl ?_
              refine jIloadn C dX9_advance_221 rfl 0 rfl ?_
              refine pf_RX9_137 C dX9_advance_222 ?_
              refine jAloadn C dX9_advance_225 rfl 1 rfl ?_
              refine jDup C dX9_advance_226 rfl ?_
              refine gf_RX9_117 C dX9_advance_227 ?_
              refine jIconst C (1 : Int32) dX9_advance_230 ki_1 ?_
              refine jIadd C dX9_advance_231 ?_
              refine pf_RX9_117 C dX9_advance_232 ?_
              cases hf
              exact jEndV C hQ rfl dX9_advance_235
            · replace hf := itn hf c26
              refine jAloadn C dX9_advance_139 rfl 1 rfl ?_
              refine jIconst C (0 : Int32) dX9_advance_140 ki_0 ?_
              refine pf_RX9_137 C dX9_advance_141 ?_
              have hL29 : ∀ (matx_27 : Int32) (mval_28 : Int32), lfp2 (X9_advance_h144 msiz mtap matx_1) matx_27 mval_28 = some (omatx, omfrm, omtok, omval) → J p l e (rmk 1) s m args below meth c D A Q 2 (mw h cy mthr mfrp mact mtpd msiz matx_27 matx_1 mtok mval_28 mfk mfpl mbem mtrs mtrl mrom mtom mnow mfre mkep mtap mlef mtak mbes mrow mint mrnd mplo mhio mtox mtol) 144 [(0, .ref (h 0))] [] := by
                intro matx_27 mval_28 hw
                refine lfp2_walk (P := fun matx_27 mval_28 => J p l e (rmk 1) s m args below meth c D A Q 2 (mw h cy mthr mfrp mact mtpd msiz matx_27 matx_1 mtok mval_28 mfk mfpl mbem mtrs mtrl mrom mtom mnow mfre mkep mtap mlef mtak mbes mrow mint mrnd mplo mhio mtox mtol) 144 [(0, .ref (h 0))] []) ?_ hw
                intro r30 ir30 matx_27 mval_28 hf
                unfold X9_advance_h144 at hf
                refine jAloadn C dX9_advance_144 rfl 0 rfl ?_
                refine jAloadn C dX9_advance_145 rfl 0 rfl ?_
                refine gf_RX9_117 C dX9_advance_146 ?_
                obtain ⟨q31, e32, hf⟩ := bd1_some hf
                refine jVI C (X9_see_ok  e32) vb_X9_see mk_RX9_120 rfl rcM ⟨Nat.le_of_ble_eq_true rfl, Nat.le_of_ble_eq_true rfl⟩ rfl (Nat.le_of_ble_eq_true rfl) dX9_advance_149 ?_
                refine jI2l C dX9_advance_152 ?_
                refine jLdc2 C (x := (48 : Int64)) lk_RX9_133 dX9_advance_153 ?_
                refine jLdc2 C (x := (57 : Int64)) lk_RX9_135 dX9_advance_156 ?_
                obtain ⟨q33, e34, hf⟩ := bd1_some hf
                refine jSI C (X9_in_ok  e34) sb_X9_in mk_RX9_63 rfl ⟨Nat.le_of_ble_eq_true rfl, Nat.le_of_ble_eq_true rfl⟩ rfl (Nat.le_of_ble_eq_true rfl) dX9_advance_159 ?_
                refine jIfEq C 207 dX9_advance_162 (by decide) (fun c35 => ?_) (fun c35 => ?_)
                · replace hf := itp hf c35
                  refine jAloadn C dX9_advance_207 rfl 0 rfl ?_
                  refine jIconst C (2 : Int32) dX9_advance_208 ki_2 ?_
                  refine pf_RX9_126 C dX9_advance_209 ?_
                  refine jGoto C 235 dX9_advance_212 (by decide) ?_
                  cases hf
                  exact jEndV C hQ rfl dX9_advance_235
                · replace hf := itn hf c35
                  refine jAloadn C dX9_advance_165 rfl 0 rfl ?_
                  refine jSipush C (9999 : Int32) dX9_advance_166 ks_9999 ?_
                  refine jBipush C (10 : Int32) dX9_advance_169 kb_10 ?_
                  refine jAloadn C dX9_advance_171 rfl 0 rfl ?_
                  refine gf_RX9_137 C dX9_advance_172 ?_
                  refine jImul C dX9_advance_175 ?_
                  refine jAloadn C dX9_advance_176 rfl 0 rfl ?_
                  refine jAloadn C dX9_advance_177 rfl 0 rfl ?_
                  refine gf_RX9_117 C dX9_advance_178 ?_
                  obtain ⟨q36, e37, hf⟩ := bd1_some hf
                  refine jVI C (X9_see_ok  e37) vb_X9_see mk_RX9_120 rfl rcM ⟨Nat.le_of_ble_eq_true rfl, Nat.le_of_ble_eq_true rfl⟩ rfl (Nat.le_of_ble_eq_true rfl) dX9_advance_181 ?_
                  refine jIadd C dX9_advance_184 ?_
                  refine jBipush C (48 : Int32) dX9_advance_185 kb_48 ?_
                  refine jIsub C dX9_advance_187 ?_
                  refine jMin C mk_RX9_140 ⟨Nat.le_of_ble_eq_true rfl, Nat.le_of_ble_eq_true rfl⟩ dX9_advance_188 ?_
                  refine pf_RX9_137 C dX9_advance_191 ?_
                  refine jAloadn C dX9_advance_194 rfl 0 rfl ?_
                  refine jDup C dX9_advance_195 rfl ?_
                  refine gf_RX9_117 C dX9_advance_196 ?_
                  refine jIconst C (1 : Int32) dX9_advance_199 ki_1 ?_
                  refine jIadd C dX9_advance_200 ?_
                  refine pf_RX9_117 C dX9_advance_201 ?_
                  refine jGoto C 144 dX9_advance_204 (by decide) ?_
                  exact ir30 (matx_27 + (1 : Int32)) (imin (9999 : Int32) ((((10 : Int32) * mval_28) + q36) - (48 : Int32))) hf
              refine jSub [1] rfl ?_
              exact hL29 matx_1 (0 : Int32) hf
          · replace hf := itn hf c23
            refine jSub [1] rfl ?_
            exact hL16 matx_1 hf
        · replace hf := itp hf c12
          refine jAloadn C dX9_advance_61 rfl 1 rfl ?_
          refine jIconst C (0 : Int32) dX9_advance_62 ki_0 ?_
          refine pf_RX9_126 C dX9_advance_63 ?_
          refine jGoto C 235 dX9_advance_66 (by decide) ?_
          cases hf
          exact jEndV C hQ rfl dX9_advance_235
      · replace hf := itp hf c9
        refine jAloadn C dX9_advance_26 rfl 0 rfl ?_
        refine jDup C dX9_advance_27 rfl ?_
        refine gf_RX9_117 C dX9_advance_28 ?_
        refine jIconst C (1 : Int32) dX9_advance_31 ki_1 ?_
        refine jIadd C dX9_advance_32 ?_
        refine pf_RX9_117 C dX9_advance_33 ?_
        refine jGoto C 0 dX9_advance_36 (by decide) ?_
        exact ir3 (matx_1 + (1 : Int32)) hf
  exact hL2 matx hf
noncomputable def X9_isWord_h39 (p1 : Nat) (mfrm : Int32) (mtap : Nat → Int32) (r8 : Int32 → Int32 → Option Int32) (x2_5 : Int32) (x3_6 : Int32) : Option Int32 := bd1 (stlen p1) (fun q9 => (if q9 ≤ x3_6 then gbo x2_5 (some x2_5) else (if x2_5 = (0 : Int32) then gbo x2_5 (some x2_5) else gin (mfrm + x3_6) 800 (bd1 (stch p1 x3_6) (fun q16 => (if (mtap (mfrm + x3_6).toNatClampNeg) = q16 then r8 (1 : Int32) (x3_6 + (1 : Int32)) else r8 (0 : Int32) (x3_6 + (1 : Int32))))))))
noncomputable def X9_isWord_j36 (p1 : Nat) (mfrm : Int32) (mtap : Nat → Int32) (y3 : Int32) : Option Int32 := lfp2 (X9_isWord_h39 p1 mfrm mtap) y3 (0 : Int32)
noncomputable def X9_isWord (matx : Int32) (mfrm : Int32) (mtok : Int32) (mfk : Int32) (mtap : Nat → Int32) (p1 : Nat) : Option Int32 := bd1 (X9_good mfk) (fun q1 => (if q1 = (0 : Int32) then X9_isWord_j36 p1 mfrm mtap (0 : Int32) else (if mtok = (1 : Int32) then bd1 (stlen p1) (fun q21 => (if (matx - mfrm) = q21 then X9_isWord_j36 p1 mfrm mtap (1 : Int32) else X9_isWord_j36 p1 mfrm mtap (0 : Int32))) else X9_isWord_j36 p1 mfrm mtap (0 : Int32))))
set_option maxHeartbeats 4000000 in
set_option maxRecDepth 20000 in
theorem X9_isWord_ok {p1 : Nat} {rr : Int32} (hp1 : p1 < 3) (hf : X9_isWord matx mfrm mtok mfk mtap p1 = some rr) : MT yX9_isWord cX9_isWord 4 (some .boolean) 4 [.ref (h 0), .ref (G (10 + p1))] D cy G (mw h cy mthr mfrp mact mtpd msiz matx mfrm mtok mval mfk mfpl mbem mtrs mtrl mrom mtom mnow mfre mkep mtap mlef mtak mbes mrow mint mrnd mplo mhio mtox mtol) (mw h cy mthr mfrp mact mtpd msiz matx mfrm mtok mval mfk mfpl mbem mtrs mtrl mrom mtom mnow mfre mkep mtap mlef mtak mbes mrow mint mrnd mplo mhio mtox mtol) (some (.int rr)) := by
  refine MT.go (own := RX9) [(0, .ref (h 0)), (1, .ref (G (10 + p1)))] (by decide) rfl (Nat.le_of_ble_eq_true rfl) rfl (fun p l e s m args below meth c A Q C hQ => ?_)
  unfold X9_isWord at hf
  refine jAloadn C dX9_isWord_0 rfl 0 rfl ?_
  obtain ⟨q1, e2, hf⟩ := bd1_some hf
  refine jVI C (X9_good_ok  e2) vb_X9_good mk_RX9_110 rfl rcM ⟨Nat.le_of_ble_eq_true rfl, Nat.le_of_ble_eq_true rfl⟩ rfl (Nat.le_of_ble_eq_true rfl) dX9_isWord_1 ?_
  have hL4 : ∀ (y3 : Int32), X9_isWord_j36 p1 mfrm mtap y3 = some rr → J p l e (rmk 4) s m args below meth c D A Q 4 (mw h cy mthr mfrp mact mtpd msiz matx mfrm mtok mval mfk mfpl mbem mtrs mtrl mrom mtom mnow mfre mkep mtap mlef mtak mbes mrow mint mrnd mplo mhio mtox mtol) 36 [(0, .ref (h 0)), (1, .ref (G (10 + p1)))] [.int y3] := by
    intro y3 hf
    unfold X9_isWord_j36 at hf
    refine jIstoren C dX9_isWord_36 rfl (Nat.le_of_ble_eq_true rfl) [(2, .int y3), (0, .ref (h 0)), (1, .ref (G (10 + p1)))] rfl ?_
    refine jIconst C (0 : Int32) dX9_isWord_37 ki_0 ?_
    refine jIstoren C dX9_isWord_38 rfl (Nat.le_of_ble_eq_true rfl) [(3, .int (0 : Int32)), (2, .int y3), (0, .ref (h 0)), (1, .ref (G (10 + p1)))] rfl ?_
    have hL7 : ∀ (x2_5 : Int32) (x3_6 : Int32), lfp2 (X9_isWord_h39 p1 mfrm mtap) x2_5 x3_6 = some rr → J p l e (rmk 4) s m args below meth c D A Q 4 (mw h cy mthr mfrp mact mtpd msiz matx mfrm mtok mval mfk mfpl mbem mtrs mtrl mrom mtom mnow mfre mkep mtap mlef mtak mbes mrow mint mrnd mplo mhio mtox mtol) 39 [(0, .ref (h 0)), (1, .ref (G (10 + p1))), (2, .int x2_5), (3, .int x3_6)] [] := by
      intro x2_5 x3_6 hw
      refine lfp2_walk (P := fun x2_5 x3_6 => J p l e (rmk 4) s m args below meth c D A Q 4 (mw h cy mthr mfrp mact mtpd msiz matx mfrm mtok mval mfk mfpl mbem mtrs mtrl mrom mtom mnow mfre mkep mtap mlef mtak mbes mrow mint mrnd mplo mhio mtox mtol) 39 [(0, .ref (h 0)), (1, .ref (G (10 + p1))), (2, .int x2_5), (3, .int x3_6)] []) ?_ hw
      intro r8 ir8 x2_5 x3_6 hf
      unfold X9_isWord_h39 at hf
      refine jIloadn C dX9_isWord_39 rfl 3 rfl ?_
      refine jAloadn C dX9_isWord_40 rfl 1 rfl ?_
      obtain ⟨q9, e10, hf⟩ := bd1_some hf
      refine jVsI C (J0_length_ok hp1 e10) vb_J0_length_8abf5 mk_RX9_146 rfl (C.2.2.2.2.2.2.1.2.2.2.2.1 p1 hp1).1 ⟨Nat.le_of_ble_eq_true rfl, Nat.le_of_ble_eq_true rfl⟩ rfl (Nat.le_of_ble_eq_true rfl) dX9_isWord_41 ?_
      refine jCmpGe C 82 dX9_isWord_44 (by decide) (fun c11 => ?_) (fun c11 => ?_)
      · replace hf := itp hf c11
        refine jIloadn C dX9_isWord_82 rfl 2 rfl ?_
        obtain ⟨z12, hf⟩ := gbo_some hf
        cases hf
        exact jEndIZ C hQ rfl z12 dX9_isWord_83
      · replace hf := itn hf c11
        refine jIloadn C dX9_isWord_47 rfl 2 rfl ?_
        refine jIfEq C 82 dX9_isWord_48 (by decide) (fun c13 => ?_) (fun c13 => ?_)
        · replace hf := itp hf c13
          refine jIloadn C dX9_isWord_82 rfl 2 rfl ?_
          obtain ⟨z14, hf⟩ := gbo_some hf
          cases hf
          exact jEndIZ C hQ rfl z14 dX9_isWord_83
        · replace hf := itn hf c13
          refine jAloadn C dX9_isWord_51 rfl 0 rfl ?_
          refine gf_RX9_20 C dX9_isWord_52 ?_
          refine jAloadn C dX9_isWord_55 rfl 0 rfl ?_
          refine gf_RX9_123 C dX9_isWord_56 ?_
          refine jIloadn C dX9_isWord_59 rfl 3 rfl ?_
          refine jIadd C dX9_isWord_60 ?_
          obtain ⟨z15, hf⟩ := gin_some hf
          refine al_mtap C z15 dX9_isWord_61 ?_
          refine jAloadn C dX9_isWord_62 rfl 1 rfl ?_
          refine jIloadn C dX9_isWord_63 rfl 3 rfl ?_
          obtain ⟨q16, e17, hf⟩ := bd1_some hf
          refine jVsI C (J0_charAt_ok hp1 e17) vb_J0_charAt_5068e mk_RX9_152 rfl (C.2.2.2.2.2.2.1.2.2.2.2.1 p1 hp1).1 ⟨Nat.le_of_ble_eq_true rfl, Nat.le_of_ble_eq_true rfl⟩ rfl (Nat.le_of_ble_eq_true rfl) dX9_isWord_64 ?_
          refine jCmpNe C 74 dX9_isWord_67 (by decide) (fun c18 => ?_) (fun c18 => ?_)
          · replace hf := itn hf c18
            refine jIconst C (0 : Int32) dX9_isWord_74 ki_0 ?_
            refine jIstoren C dX9_isWord_75 rfl (Nat.le_of_ble_eq_true rfl) [(2, .int (0 : Int32)), (0, .ref (h 0)), (1, .ref (G (10 + p1))), (3, .int x3_6)] rfl ?_
            refine jIinc C (x3_6 + (1 : Int32)) dX9_isWord_76 3 rfl (congrArg (fun z : Int32 => x3_6 + z) ki_1) (Nat.le_of_ble_eq_true rfl) [(3, .int (x3_6 + (1 : Int32))), (2, .int (0 : Int32)), (0, .ref (h 0)), (1, .ref (G (10 + p1)))] rfl ?_
            refine jGoto C 39 dX9_isWord_79 (by decide) ?_
            refine jSub [2, 3, 1, 0] rfl ?_
            exact ir8 (0 : Int32) (x3_6 + (1 : Int32)) hf
          · replace hf := itp hf c18
            refine jIconst C (1 : Int32) dX9_isWord_70 ki_1 ?_
            refine jGoto C 75 dX9_isWord_71 (by decide) ?_
            refine jIstoren C dX9_isWord_75 rfl (Nat.le_of_ble_eq_true rfl) [(2, .int (1 : Int32)), (0, .ref (h 0)), (1, .ref (G (10 + p1))), (3, .int x3_6)] rfl ?_
            refine jIinc C (x3_6 + (1 : Int32)) dX9_isWord_76 3 rfl (congrArg (fun z : Int32 => x3_6 + z) ki_1) (Nat.le_of_ble_eq_true rfl) [(3, .int (x3_6 + (1 : Int32))), (2, .int (1 : Int32)), (0, .ref (h 0)), (1, .ref (G (10 + p1)))] rfl ?_
            refine jGoto C 39 dX9_isWord_79 (by decide) ?_
            refine jSub [2, 3, 1, 0] rfl ?_
            exact ir8 (1 : Int32) (x3_6 + (1 : Int32)) hf
    refine jSub [2, 3, 1, 0] rfl ?_
    exact hL7 y3 (0 : Int32) hf
  refine jIfEq C 35 dX9_isWord_4 (by decide) (fun c19 => ?_) (fun c19 => ?_)
  · replace hf := itp hf c19
    refine jIconst C (0 : Int32) dX9_isWord_35 ki_0 ?_
    exact hL4 (0 : Int32) hf
  · replace hf := itn hf c19
    refine jAloadn C dX9_isWord_7 rfl 0 rfl ?_
    refine gf_RX9_126 C dX9_isWord_8 ?_
    refine jIconst C (1 : Int32) dX9_isWord_11 ki_1 ?_
    refine jCmpNe C 35 dX9_isWord_12 (by decide) (fun c20 => ?_) (fun c20 => ?_)
    · replace hf := itn hf c20
      refine jIconst C (0 : Int32) dX9_isWord_35 ki_0 ?_
      exact hL4 (0 : Int32) hf
    · replace hf := itp hf c20
      refine jAloadn C dX9_isWord_15 rfl 0 rfl ?_
      refine gf_RX9_117 C dX9_isWord_16 ?_
      refine jAloadn C dX9_isWord_19 rfl 0 rfl ?_
      refine gf_RX9_123 C dX9_isWord_20 ?_
      refine jIsub C dX9_isWord_23 ?_
      refine jAloadn C dX9_isWord_24 rfl 1 rfl ?_
      obtain ⟨q21, e22, hf⟩ := bd1_some hf
      refine jVsI C (J0_length_ok hp1 e22) vb_J0_length_8abf5 mk_RX9_146 rfl (C.2.2.2.2.2.2.1.2.2.2.2.1 p1 hp1).1 ⟨Nat.le_of_ble_eq_true rfl, Nat.le_of_ble_eq_true rfl⟩ rfl (Nat.le_of_ble_eq_true rfl) dX9_isWord_25 ?_
      refine jCmpNe C 35 dX9_isWord_28 (by decide) (fun c23 => ?_) (fun c23 => ?_)
      · replace hf := itn hf c23
        refine jIconst C (0 : Int32) dX9_isWord_35 ki_0 ?_
        exact hL4 (0 : Int32) hf
      · replace hf := itp hf c23
        refine jIconst C (1 : Int32) dX9_isWord_31 ki_1 ?_
        refine jGoto C 36 dX9_isWord_32 (by decide) ?_
        exact hL4 (1 : Int32) hf
noncomputable def X9_eatsByte (msiz : Int32) (matx : Int32) (mfrm : Int32) (mtok : Int32) (mval : Int32) (mfk : Int32) (mtap : Nat → Int32) (p1 : Int32) : Option (Int32 × Int32 × Int32 × Int32 × Int32) := bd1 (X9_good mfk) (fun q1 => (if q1 = (0 : Int32) then some ((0 : Int32), matx, mfrm, mtok, mval) else (if mtok = (3 : Int32) then (if mval = p1 then bd4 (X9_advance msiz matx mval mtap) (fun matx_6 mfrm_7 mtok_8 mval_9 => some ((1 : Int32), matx_6, mfrm_7, mtok_8, mval_9)) else some ((0 : Int32), matx, mfrm, mtok, mval)) else some ((0 : Int32), matx, mfrm, mtok, mval))))
set_option maxHeartbeats 4000000 in
set_option maxRecDepth 20000 in
theorem X9_eatsByte_ok {p1 : Int32} {rr : Int32} {omatx : Int32} {omfrm : Int32} {omtok : Int32} {omval : Int32}  (hf : X9_eatsByte msiz matx mfrm mtok mval mfk mtap p1 = some (rr, omatx, omfrm, omtok, omval)) : MT yX9_eatsByte cX9_eatsByte 2 (some .boolean) 2 [.ref (h 0), .int p1] D cy G (mw h cy mthr mfrp mact mtpd msiz matx mfrm mtok mval mfk mfpl mbem mtrs mtrl mrom mtom mnow mfre mkep mtap mlef mtak mbes mrow mint mrnd mplo mhio mtox mtol) (mw h cy mthr mfrp mact mtpd msiz omatx omfrm omtok omval mfk mfpl mbem mtrs mtrl mrom mtom mnow mfre mkep mtap mlef mtak mbes mrow mint mrnd mplo mhio mtox mtol) (some (.int rr)) := by
  refine MT.go (own := RX9) [(0, .ref (h 0)), (1, .int p1)] (by decide) rfl (Nat.le_of_ble_eq_true rfl) rfl (fun p l e s m args below meth c A Q C hQ => ?_)
  unfold X9_eatsByte at hf
  refine jAloadn C dX9_eatsByte_0 rfl 0 rfl ?_
  obtain ⟨q1, e2, hf⟩ := bd1_some hf
  refine jVI C (X9_good_ok  e2) vb_X9_good mk_RX9_110 rfl rcM ⟨Nat.le_of_ble_eq_true rfl, Nat.le_of_ble_eq_true rfl⟩ rfl (Nat.le_of_ble_eq_true rfl) dX9_eatsByte_1 ?_
  refine jIfEq C 23 dX9_eatsByte_4 (by decide) (fun c3 => ?_) (fun c3 => ?_)
  · replace hf := itp hf c3
    refine jIconst C (0 : Int32) dX9_eatsByte_23 ki_0 ?_
    cases hf
    exact jEndIZ C hQ rfl nar_z0 dX9_eatsByte_24
  · replace hf := itn hf c3
    refine jAloadn C dX9_eatsByte_7 rfl 0 rfl ?_
    refine gf_RX9_126 C dX9_eatsByte_8 ?_
    refine jIconst C (3 : Int32) dX9_eatsByte_11 ki_3 ?_
    refine jCmpNe C 23 dX9_eatsByte_12 (by decide) (fun c4 => ?_) (fun c4 => ?_)
    · replace hf := itn hf c4
      refine jIconst C (0 : Int32) dX9_eatsByte_23 ki_0 ?_
      cases hf
      exact jEndIZ C hQ rfl nar_z0 dX9_eatsByte_24
    · replace hf := itp hf c4
      refine jAloadn C dX9_eatsByte_15 rfl 0 rfl ?_
      refine gf_RX9_137 C dX9_eatsByte_16 ?_
      refine jIloadn C dX9_eatsByte_19 rfl 1 rfl ?_
      refine jCmpEq C 25 dX9_eatsByte_20 (by decide) (fun c5 => ?_) (fun c5 => ?_)
      · replace hf := itp hf c5
        refine jAloadn C dX9_eatsByte_25 rfl 0 rfl ?_
        obtain ⟨matx_6, mfrm_7, mtok_8, mval_9, e10, hf⟩ := bd4_some hf
        refine jVV C (X9_advance_ok  e10) vb_X9_advance mk_RX9_156 rfl rcM ⟨Nat.le_of_ble_eq_true rfl, Nat.le_of_ble_eq_true rfl⟩ rfl (Nat.le_of_ble_eq_true rfl) dX9_eatsByte_26 ?_
        refine jIconst C (1 : Int32) dX9_eatsByte_29 ki_1 ?_
        cases hf
        exact jEndIZ C hQ rfl nar_z1 dX9_eatsByte_30
      · replace hf := itn hf c5
        refine jIconst C (0 : Int32) dX9_eatsByte_23 ki_0 ?_
        cases hf
        exact jEndIZ C hQ rfl nar_z0 dX9_eatsByte_24
noncomputable def X9_readSet_j140 (matx : Int32) (mfrm : Int32) (mtok : Int32) (mval : Int32) (mfre : Nat → Int32) (x2_8 : Int32) (msiz : Int32) (mtap : Nat → Int32) (mfk_17 : Int32) (mfpl_18 : Int32) : Option (Int32 × Int32 × Int32 × Int32 × Int32 × Int32 × (Nat → Int32)) := bd1 (X9_good mfk_17) (fun q20 => (if q20 = (0 : Int32) then some (matx, mfrm, mtok, mval, mfk_17, mfpl_18, mfre) else gin x2_8 128 (bd4 (X9_advance msiz matx mval mtap) (fun matx_24 mfrm_25 mtok_26 mval_27 => some (matx_24, mfrm_25, mtok_26, mval_27, mfk_17, mfpl_18, (upd mfre x2_8.toNatClampNeg (vp_nar .boolean (1 : Int32))))))))
noncomputable def X9_readSet_j115 (mfk_10 : Int32) (matx : Int32) (mfrm : Int32) (mtok : Int32) (mval : Int32) (mfre : Nat → Int32) (x2_8 : Int32) (msiz : Int32) (mtap : Nat → Int32) (mfpl_11 : Int32)  : Option (Int32 × Int32 × Int32 × Int32 × Int32 × Int32 × (Nat → Int32)) := bd1 (X9_good mfk_10) (fun q15 => (if q15 = (0 : Int32) then X9_readSet_j140 matx mfrm mtok mval mfre x2_8 msiz mtap mfk_10 mfpl_11 else gin x2_8 128 ((if (mfre x2_8.toNatClampNeg) = (0 : Int32) then X9_readSet_j140 matx mfrm mtok mval mfre x2_8 msiz mtap mfk_10 mfpl_11 else bd2 (X9_errs mfk_10 mfpl_11 (4 : Int32) mfrm) (fun mfk_32 mfpl_33 => X9_readSet_j140 matx mfrm mtok mval mfre x2_8 msiz mtap mfk_32 mfpl_33)))))
noncomputable def X9_readSet_j95 (r13 : Int32 → Int32 → Int32 → Int32 → Option (Int32 × Int32 × Int32 × Int32 × Int32 × Int32 × (Nat → Int32))) (x2_8 : Int32) (x3_9 : Int32) (q40 : Int32) (mfk_42 : Int32) (mfpl_43 : Int32) : Option (Int32 × Int32 × Int32 × Int32 × Int32 × Int32 × (Nat → Int32)) := bd1 (X9_good mfk_42) (fun q45 => (if q45 = (0 : Int32) then r13 x2_8 (x3_9 + (1 : Int32)) mfk_42 mfpl_43 else r13 (x2_8 ||| ((1 : Int32) <<< ((q40 - (48 : Int32)) &&& 31))) (x3_9 + (1 : Int32)) mfk_42 mfpl_43))
noncomputable def X9_readSet_h42 (matx : Int32) (mfrm : Int32) (mtok : Int32) (mval : Int32) (mfre : Nat → Int32) (msiz : Int32) (mtap : Nat → Int32) (q1 : Int32) (mfrp : Int32) (r13 : Int32 → Int32 → Int32 → Int32 → Option (Int32 × Int32 × Int32 × Int32 × Int32 × Int32 × (Nat → Int32))) (x2_8 : Int32) (x3_9 : Int32) (mfk_10 : Int32) (mfpl_11 : Int32) : Option (Int32 × Int32 × Int32 × Int32 × Int32 × Int32 × (Nat → Int32)) := (if matx ≤ x3_9 then X9_readSet_j115 mfk_10 matx mfrm mtok mval mfre x2_8 msiz mtap mfpl_11 else bd1 (X9_good mfk_10) (fun q36 => (if q36 = (0 : Int32) then X9_readSet_j115 mfk_10 matx mfrm mtok mval mfre x2_8 msiz mtap mfpl_11 else (if q1 = (0 : Int32) then bd1 (X9_see msiz mtap x3_9) (fun q40 => (if mfrp ≤ (q40 - (48 : Int32)) then bd2 (X9_errs mfk_10 mfpl_11 (3 : Int32) x3_9) (fun mfk_49 mfpl_50 => X9_readSet_j95 r13 x2_8 x3_9 q40 mfk_49 mfpl_50) else bd1 (X9_hasBit x2_8 (q40 - (48 : Int32))) (fun q52 => (if q52 = (0 : Int32) then X9_readSet_j95 r13 x2_8 x3_9 q40 mfk_10 mfpl_11 else bd2 (X9_errs mfk_10 mfpl_11 (3 : Int32) x3_9) (fun mfk_55 mfpl_56 => X9_readSet_j95 r13 x2_8 x3_9 q40 mfk_55 mfpl_56))))) else X9_readSet_j115 mfk_10 matx mfrm mtok mval mfre x2_8 msiz mtap mfpl_11))))
noncomputable def X9_readSet_j35 (matx : Int32) (mfrm : Int32) (mtok : Int32) (mval : Int32) (mfre : Nat → Int32) (msiz : Int32) (mtap : Nat → Int32) (q1 : Int32) (mfrp : Int32) (mfk_5 : Int32) (mfpl_6 : Int32) : Option (Int32 × Int32 × Int32 × Int32 × Int32 × Int32 × (Nat → Int32)) := lfp4 (X9_readSet_h42 matx mfrm mtok mval mfre msiz mtap q1 mfrp) (0 : Int32) mfrm mfk_5 mfpl_6
noncomputable def X9_readSet (mfrp : Int32) (msiz : Int32) (matx : Int32) (mfrm : Int32) (mtok : Int32) (mval : Int32) (mfk : Int32) (mfpl : Int32) (mfre : Nat → Int32) (mtap : Nat → Int32) : Option (Int32 × Int32 × Int32 × Int32 × Int32 × Int32 × (Nat → Int32)) := bd1 (X9_isWord matx mfrm mtok mfk mtap 1) (fun q1 => bd1 (X9_good mfk) (fun q3 => (if q3 = (0 : Int32) then X9_readSet_j35 matx mfrm mtok mval mfre msiz mtap q1 mfrp mfk mfpl else (if q1 = (0 : Int32) then (if mtok = (2 : Int32) then X9_readSet_j35 matx mfrm mtok mval mfre msiz mtap q1 mfrp mfk mfpl else bd2 (X9_errs mfk mfpl (1 : Int32) mfrm) (fun mfk_61 mfpl_62 => X9_readSet_j35 matx mfrm mtok mval mfre msiz mtap q1 mfrp mfk_61 mfpl_62)) else X9_readSet_j35 matx mfrm mtok mval mfre msiz mtap q1 mfrp mfk mfpl))))
set_option maxHeartbeats 4000000 in
set_option maxRecDepth 20000 in
theorem X9_readSet_ok  {omatx : Int32} {omfrm : Int32} {omtok : Int32} {omval : Int32} {omfk : Int32} {omfpl : Int32} {omfre : Nat → Int32}  (hf : X9_readSet mfrp msiz matx mfrm mtok mval mfk mfpl mfre mtap = some (omatx, omfrm, omtok, omval, omfk, omfpl, omfre)) : MT yX9_readSet cX9_readSet 5 none 5 [.ref (h 0)] D cy G (mw h cy mthr mfrp mact mtpd msiz matx mfrm mtok mval mfk mfpl mbem mtrs mtrl mrom mtom mnow mfre mkep mtap mlef mtak mbes mrow mint mrnd mplo mhio mtox mtol) (mw h cy mthr mfrp mact mtpd msiz omatx omfrm omtok omval omfk omfpl mbem mtrs mtrl mrom mtom mnow omfre mkep mtap mlef mtak mbes mrow mint mrnd mplo mhio mtox mtol) none := by
  refine MT.go (own := RX9) [(0, .ref (h 0))] (by decide) rfl (Nat.le_of_ble_eq_true rfl) rfl (fun p l e s m args below meth c A Q C hQ => ?_)
  unfold X9_readSet at hf
  refine jAloadn C dX9_readSet_0 rfl 0 rfl ?_
  refine ls_RX9_159 C dX9_readSet_1 ?_
  obtain ⟨q1, e2, hf⟩ := bd1_some hf
  refine jVI C (X9_isWord_ok (by decide) e2) vb_X9_isWord mk_RX9_161 rfl rcM ⟨Nat.le_of_ble_eq_true rfl, Nat.le_of_ble_eq_true rfl⟩ rfl (Nat.le_of_ble_eq_true rfl) dX9_readSet_3 ?_
  refine jIstoren C dX9_readSet_6 rfl (Nat.le_of_ble_eq_true rfl) [(1, .int q1), (0, .ref (h 0))] rfl ?_
  refine jAloadn C dX9_readSet_7 rfl 1 rfl ?_
  obtain ⟨q3, e4, hf⟩ := bd1_some hf
  refine jVI C (X9_good_ok  e4) vb_X9_good mk_RX9_110 rfl rcM ⟨Nat.le_of_ble_eq_true rfl, Nat.le_of_ble_eq_true rfl⟩ rfl (Nat.le_of_ble_eq_true rfl) dX9_readSet_8 ?_
  have hL7 : ∀ (mfk_5 : Int32) (mfpl_6 : Int32), X9_readSet_j35 matx mfrm mtok mval mfre msiz mtap q1 mfrp mfk_5 mfpl_6 = some (omatx, omfrm, omtok, omval, omfk, omfpl, omfre) → J p l e (rmk 5) s m args below meth c D A Q 5 (mw h cy mthr mfrp mact mtpd msiz matx mfrm mtok mval mfk_5 mfpl_6 mbem mtrs mtrl mrom mtom mnow mfre mkep mtap mlef mtak mbes mrow mint mrnd mplo mhio mtox mtol) 35 [(0, .ref (h 0)), (1, .int q1)] [] := by
    intro mfk_5 mfpl_6 hf
    unfold X9_readSet_j35 at hf
    refine jIconst C (0 : Int32) dX9_readSet_35 ki_0 ?_
    refine jIstoren C dX9_readSet_36 rfl (Nat.le_of_ble_eq_true rfl) [(2, .int (0 : Int32)), (0, .ref (h 0)), (1, .int q1)] rfl ?_
    refine jAloadn C dX9_readSet_37 rfl 1 rfl ?_
    refine gf_RX9_123 C dX9_readSet_38 ?_
    refine jIstoren C dX9_readSet_41 rfl (Nat.le_of_ble_eq_true rfl) [(3, .int mfrm), (2, .int (0 : Int32)), (0, .ref (h 0)), (1, .int q1)] rfl ?_
    have hL12 : ∀ (x2_8 : Int32) (x3_9 : Int32) (mfk_10 : Int32) (mfpl_11 : Int32), lfp4 (X9_readSet_h42 matx mfrm mtok mval mfre msiz mtap q1 mfrp) x2_8 x3_9 mfk_10 mfpl_11 = some (omatx, omfrm, omtok, omval, omfk, omfpl, omfre) → J p l e (rmk 5) s m args below meth c D A Q 5 (mw h cy mthr mfrp mact mtpd msiz matx mfrm mtok mval mfk_10 mfpl_11 mbem mtrs mtrl mrom mtom mnow mfre mkep mtap mlef mtak mbes mrow mint mrnd mplo mhio mtox mtol) 42 [(0, .ref (h 0)), (1, .int q1), (2, .int x2_8), (3, .int x3_9)] [] := by
      intro x2_8 x3_9 mfk_10 mfpl_11 hw
      refine lfp4_walk (P := fun x2_8 x3_9 mfk_10 mfpl_11 => J p l e (rmk 5) s m args below meth c D A Q 5 (mw h cy mthr mfrp mact mtpd msiz matx mfrm mtok mval mfk_10 mfpl_11 mbem mtrs mtrl mrom mtom mnow mfre mkep mtap mlef mtak mbes mrow mint mrnd mplo mhio mtox mtol) 42 [(0, .ref (h 0)), (1, .int q1), (2, .int x2_8), (3, .int x3_9)] []) ?_ hw
      intro r13 ir13 x2_8 x3_9 mfk_10 mfpl_11 hf
      unfold X9_readSet_h42 at hf
      refine jIloadn C dX9_readSet_42 rfl 3 rfl ?_
      refine jAloadn C dX9_readSet_43 rfl 0 rfl ?_
      refine gf_RX9_117 C dX9_readSet_44 ?_
      have hL14 : X9_readSet_j115 mfk_10 matx mfrm mtok mval mfre x2_8 msiz mtap mfpl_11  = some (omatx, omfrm, omtok, omval, omfk, omfpl, omfre) → J p l e (rmk 5) s m args below meth c D A Q 5 (mw h cy mthr mfrp mact mtpd msiz matx mfrm mtok mval mfk_10 mfpl_11 mbem mtrs mtrl mrom mtom mnow mfre mkep mtap mlef mtak mbes mrow mint mrnd mplo mhio mtox mtol) 115 [(0, .ref (h 0)), (2, .int x2_8)] [] := by
        intro  hf
        unfold X9_readSet_j115 at hf
        refine jAloadn C dX9_readSet_115 rfl 0 rfl ?_
        obtain ⟨q15, e16, hf⟩ := bd1_some hf
        refine jVI C (X9_good_ok  e16) vb_X9_good mk_RX9_110 rfl rcM ⟨Nat.le_of_ble_eq_true rfl, Nat.le_of_ble_eq_true rfl⟩ rfl (Nat.le_of_ble_eq_true rfl) dX9_readSet_116 ?_
        have hL19 : ∀ (mfk_17 : Int32) (mfpl_18 : Int32), X9_readSet_j140 matx mfrm mtok mval mfre x2_8 msiz mtap mfk_17 mfpl_18 = some (omatx, omfrm, omtok, omval, omfk, omfpl, omfre) → J p l e (rmk 5) s m args below meth c D A Q 5 (mw h cy mthr mfrp mact mtpd msiz matx mfrm mtok mval mfk_17 mfpl_18 mbem mtrs mtrl mrom mtom mnow mfre mkep mtap mlef mtak mbes mrow mint mrnd mplo mhio mtox mtol) 140 [(0, .ref (h 0)), (2, .int x2_8)] [] := by
          intro mfk_17 mfpl_18 hf
          unfold X9_readSet_j140 at hf
          refine jAloadn C dX9_readSet_140 rfl 0 rfl ?_
          obtain ⟨q20, e21, hf⟩ := bd1_some hf
          refine jVI C (X9_good_ok  e21) vb_X9_good mk_RX9_110 rfl rcM ⟨Nat.le_of_ble_eq_true rfl, Nat.le_of_ble_eq_true rfl⟩ rfl (Nat.le_of_ble_eq_true rfl) dX9_readSet_141 ?_
          refine jIfNe C 148 dX9_readSet_144 (by decide) (fun c22 => ?_) (fun c22 => ?_)
          · replace hf := itn hf c22
            refine jAloadn C dX9_readSet_148 rfl 0 rfl ?_
            refine gf_RX9_13 C dX9_readSet_149 ?_
            refine jIloadn C dX9_readSet_152 rfl 1 rfl ?_
            refine jIconst C (1 : Int32) dX9_readSet_153 ki_1 ?_
            obtain ⟨z23, hf⟩ := gin_some hf
            refine as_mfre C z23 dX9_readSet_154 ?_
            refine jAloadn C dX9_readSet_155 rfl 0 rfl ?_
            obtain ⟨matx_24, mfrm_25, mtok_26, mval_27, e28, hf⟩ := bd4_some hf
            refine jVV C (X9_advance_ok  e28) vb_X9_advance mk_RX9_156 rfl rcM ⟨Nat.le_of_ble_eq_true rfl, Nat.le_of_ble_eq_true rfl⟩ rfl (Nat.le_of_ble_eq_true rfl) dX9_readSet_156 ?_
            cases hf
            exact jEndV C hQ rfl dX9_readSet_159
          · replace hf := itp hf c22
            cases hf
            exact jEndV C hQ rfl dX9_readSet_147
        refine jIfEq C 140 dX9_readSet_119 (by decide) (fun c29 => ?_) (fun c29 => ?_)
        · replace hf := itp hf c29
          exact hL19 mfk_10 mfpl_11 hf
        · replace hf := itn hf c29
          refine jAloadn C dX9_readSet_122 rfl 0 rfl ?_
          refine gf_RX9_13 C dX9_readSet_123 ?_
          refine jIloadn C dX9_readSet_126 rfl 1 rfl ?_
          obtain ⟨z30, hf⟩ := gin_some hf
          refine al_mfre C z30 dX9_readSet_127 ?_
          refine jIfEq C 140 dX9_readSet_128 (by decide) (fun c31 => ?_) (fun c31 => ?_)
          · replace hf := itp hf c31
            exact hL19 mfk_10 mfpl_11 hf
          · replace hf := itn hf c31
            refine jAloadn C dX9_readSet_131 rfl 0 rfl ?_
            refine jIconst C (4 : Int32) dX9_readSet_132 ki_4 ?_
            refine jAloadn C dX9_readSet_133 rfl 0 rfl ?_
            refine gf_RX9_123 C dX9_readSet_134 ?_
            obtain ⟨mfk_32, mfpl_33, e34, hf⟩ := bd2_some hf
            refine jVV C (X9_errs_ok  e34) vb_X9_errs mk_RX9_165 rfl rcM ⟨Nat.le_of_ble_eq_true rfl, Nat.le_of_ble_eq_true rfl⟩ rfl (Nat.le_of_ble_eq_true rfl) dX9_readSet_137 ?_
            exact hL19 mfk_32 mfpl_33 hf
      refine jCmpGe C 115 dX9_readSet_47 (by decide) (fun c35 => ?_) (fun c35 => ?_)
      · replace hf := itp hf c35
        refine jSub [0, 2] rfl ?_
        exact hL14  hf
      · replace hf := itn hf c35
        refine jAloadn C dX9_readSet_50 rfl 0 rfl ?_
        obtain ⟨q36, e37, hf⟩ := bd1_some hf
        refine jVI C (X9_good_ok  e37) vb_X9_good mk_RX9_110 rfl rcM ⟨Nat.le_of_ble_eq_true rfl, Nat.le_of_ble_eq_true rfl⟩ rfl (Nat.le_of_ble_eq_true rfl) dX9_readSet_51 ?_
        refine jIfEq C 115 dX9_readSet_54 (by decide) (fun c38 => ?_) (fun c38 => ?_)
        · replace hf := itp hf c38
          refine jSub [0, 2] rfl ?_
          exact hL14  hf
        · replace hf := itn hf c38
          refine jIloadn C dX9_readSet_57 rfl 1 rfl ?_
          refine jIfNe C 115 dX9_readSet_58 (by decide) (fun c39 => ?_) (fun c39 => ?_)
          · replace hf := itn hf c39
            refine jSub [0, 2] rfl ?_
            exact hL14  hf
          · replace hf := itp hf c39
            refine jAloadn C dX9_readSet_61 rfl 0 rfl ?_
            refine jIloadn C dX9_readSet_62 rfl 3 rfl ?_
            obtain ⟨q40, e41, hf⟩ := bd1_some hf
            refine jVI C (X9_see_ok  e41) vb_X9_see mk_RX9_120 rfl rcM ⟨Nat.le_of_ble_eq_true rfl, Nat.le_of_ble_eq_true rfl⟩ rfl (Nat.le_of_ble_eq_true rfl) dX9_readSet_63 ?_
            refine jBipush C (48 : Int32) dX9_readSet_66 kb_48 ?_
            refine jIsub C dX9_readSet_68 ?_
            refine jIstore C dX9_readSet_69 (Nat.le_of_ble_eq_true rfl) [(4, .int (q40 - (48 : Int32))), (0, .ref (h 0)), (1, .int q1), (2, .int x2_8), (3, .int x3_9)] rfl ?_
            refine jIload C dX9_readSet_71 0 rfl ?_
            refine jAloadn C dX9_readSet_73 rfl 1 rfl ?_
            refine gf_RX9_88 C dX9_readSet_74 ?_
            have hL44 : ∀ (mfk_42 : Int32) (mfpl_43 : Int32), X9_readSet_j95 r13 x2_8 x3_9 q40 mfk_42 mfpl_43 = some (omatx, omfrm, omtok, omval, omfk, omfpl, omfre) → J p l e (rmk 5) s m args below meth c D A Q 5 (mw h cy mthr mfrp mact mtpd msiz matx mfrm mtok mval mfk_42 mfpl_43 mbem mtrs mtrl mrom mtom mnow mfre mkep mtap mlef mtak mbes mrow mint mrnd mplo mhio mtox mtol) 95 [(0, .ref (h 0)), (1, .int q1), (2, .int x2_8), (3, .int x3_9), (4, .int (q40 - (48 : Int32)))] [] := by
              intro mfk_42 mfpl_43 hf
              unfold X9_readSet_j95 at hf
              refine jAloadn C dX9_readSet_95 rfl 0 rfl ?_
              obtain ⟨q45, e46, hf⟩ := bd1_some hf
              refine jVI C (X9_good_ok  e46) vb_X9_good mk_RX9_110 rfl rcM ⟨Nat.le_of_ble_eq_true rfl, Nat.le_of_ble_eq_true rfl⟩ rfl (Nat.le_of_ble_eq_true rfl) dX9_readSet_96 ?_
              refine jIfEq C 109 dX9_readSet_99 (by decide) (fun c47 => ?_) (fun c47 => ?_)
              · replace hf := itp hf c47
                refine jIinc C (x3_9 + (1 : Int32)) dX9_readSet_109 3 rfl (congrArg (fun z : Int32 => x3_9 + z) ki_1) (Nat.le_of_ble_eq_true rfl) [(3, .int (x3_9 + (1 : Int32))), (0, .ref (h 0)), (1, .int q1), (2, .int x2_8), (4, .int (q40 - (48 : Int32)))] rfl ?_
                refine jGoto C 42 dX9_readSet_112 (by decide) ?_
                refine jSub [1, 2, 3, 0] rfl ?_
                exact ir13 x2_8 (x3_9 + (1 : Int32)) mfk_42 mfpl_43 hf
              · replace hf := itn hf c47
                refine jIloadn C dX9_readSet_102 rfl 2 rfl ?_
                refine jIconst C (1 : Int32) dX9_readSet_103 ki_1 ?_
                refine jIload C dX9_readSet_104 4 rfl ?_
                refine jIshl C dX9_readSet_106 ?_
                refine jIor C dX9_readSet_107 ?_
                refine jIstoren C dX9_readSet_108 rfl (Nat.le_of_ble_eq_true rfl) [(2, .int (x2_8 ||| ((1 : Int32) <<< ((q40 - (48 : Int32)) &&& 31)))), (0, .ref (h 0)), (1, .int q1), (3, .int x3_9), (4, .int (q40 - (48 : Int32)))] rfl ?_
                refine jIinc C (x3_9 + (1 : Int32)) dX9_readSet_109 3 rfl (congrArg (fun z : Int32 => x3_9 + z) ki_1) (Nat.le_of_ble_eq_true rfl) [(3, .int (x3_9 + (1 : Int32))), (2, .int (x2_8 ||| ((1 : Int32) <<< ((q40 - (48 : Int32)) &&& 31)))), (0, .ref (h 0)), (1, .int q1), (4, .int (q40 - (48 : Int32)))] rfl ?_
                refine jGoto C 42 dX9_readSet_112 (by decide) ?_
                refine jSub [2, 3, 1, 0] rfl ?_
                exact ir13 (x2_8 ||| ((1 : Int32) <<< ((q40 - (48 : Int32)) &&& 31))) (x3_9 + (1 : Int32)) mfk_42 mfpl_43 hf
            refine jCmpGe C 89 dX9_readSet_77 (by decide) (fun c48 => ?_) (fun c48 => ?_)
            · replace hf := itp hf c48
              refine jAloadn C dX9_readSet_89 rfl 1 rfl ?_
              refine jIconst C (3 : Int32) dX9_readSet_90 ki_3 ?_
              refine jIloadn C dX9_readSet_91 rfl 4 rfl ?_
              obtain ⟨mfk_49, mfpl_50, e51, hf⟩ := bd2_some hf
              refine jVV C (X9_errs_ok  e51) vb_X9_errs mk_RX9_165 rfl rcM ⟨Nat.le_of_ble_eq_true rfl, Nat.le_of_ble_eq_true rfl⟩ rfl (Nat.le_of_ble_eq_true rfl) dX9_readSet_92 ?_
              refine jSub [1, 2, 3, 4, 0] rfl ?_
              exact hL44 mfk_49 mfpl_50 hf
            · replace hf := itn hf c48
              refine jIloadn C dX9_readSet_80 rfl 3 rfl ?_
              refine jIload C dX9_readSet_81 0 rfl ?_
              obtain ⟨q52, e53, hf⟩ := bd1_some hf
              refine jSI C (X9_hasBit_ok  e53) sb_X9_hasBit mk_RX9_169 rfl ⟨Nat.le_of_ble_eq_true rfl, Nat.le_of_ble_eq_true rfl⟩ rfl (Nat.le_of_ble_eq_true rfl) dX9_readSet_83 ?_
              refine jIfEq C 95 dX9_readSet_86 (by decide) (fun c54 => ?_) (fun c54 => ?_)
              · replace hf := itp hf c54
                refine jSub [1, 2, 3, 4, 0] rfl ?_
                exact hL44 mfk_10 mfpl_11 hf
              · replace hf := itn hf c54
                refine jAloadn C dX9_readSet_89 rfl 1 rfl ?_
                refine jIconst C (3 : Int32) dX9_readSet_90 ki_3 ?_
                refine jIloadn C dX9_readSet_91 rfl 4 rfl ?_
                obtain ⟨mfk_55, mfpl_56, e57, hf⟩ := bd2_some hf
                refine jVV C (X9_errs_ok  e57) vb_X9_errs mk_RX9_165 rfl rcM ⟨Nat.le_of_ble_eq_true rfl, Nat.le_of_ble_eq_true rfl⟩ rfl (Nat.le_of_ble_eq_true rfl) dX9_readSet_92 ?_
                refine jSub [1, 2, 3, 4, 0] rfl ?_
                exact hL44 mfk_55 mfpl_56 hf
    refine jSub [2, 3, 1, 0] rfl ?_
    exact hL12 (0 : Int32) mfrm mfk_5 mfpl_6 hf
  refine jIfEq C 35 dX9_readSet_11 (by decide) (fun c58 => ?_) (fun c58 => ?_)
  · replace hf := itp hf c58
    refine jSub [1, 0] rfl ?_
    exact hL7 mfk mfpl hf
  · replace hf := itn hf c58
    refine jIloadn C dX9_readSet_14 rfl 0 rfl ?_
    refine jIfNe C 35 dX9_readSet_15 (by decide) (fun c59 => ?_) (fun c59 => ?_)
    · replace hf := itn hf c59
      refine jSub [1, 0] rfl ?_
      exact hL7 mfk mfpl hf
    · replace hf := itp hf c59
      refine jAloadn C dX9_readSet_18 rfl 1 rfl ?_
      refine gf_RX9_126 C dX9_readSet_19 ?_
      refine jIconst C (2 : Int32) dX9_readSet_22 ki_2 ?_
      refine jCmpEq C 35 dX9_readSet_23 (by decide) (fun c60 => ?_) (fun c60 => ?_)
      · replace hf := itp hf c60
        refine jSub [1, 0] rfl ?_
        exact hL7 mfk mfpl hf
      · replace hf := itn hf c60
        refine jAloadn C dX9_readSet_26 rfl 1 rfl ?_
        refine jIconst C (1 : Int32) dX9_readSet_27 ki_1 ?_
        refine jAloadn C dX9_readSet_28 rfl 1 rfl ?_
        refine gf_RX9_123 C dX9_readSet_29 ?_
        obtain ⟨mfk_61, mfpl_62, e63, hf⟩ := bd2_some hf
        refine jVV C (X9_errs_ok  e63) vb_X9_errs mk_RX9_165 rfl rcM ⟨Nat.le_of_ble_eq_true rfl, Nat.le_of_ble_eq_true rfl⟩ rfl (Nat.le_of_ble_eq_true rfl) dX9_readSet_32 ?_
        refine jSub [1, 0] rfl ?_
        exact hL7 mfk_61 mfpl_62 hf
noncomputable def X9_read_j147 (mfrp_28 : Int32) (matx_53 : Int32) (mfrm_54 : Int32) (mtok_55 : Int32) (mval_56 : Int32) (mfre_50 : Nat → Int32) (mfk_58 : Int32) (mfpl_59 : Int32) : Option (Int32 × Int32 × Int32 × Int32 × Int32 × Int32 × Int32 × (Nat → Int32)) := bd1 (X9_good mfk_58) (fun q61 => (if q61 = (0 : Int32) then some (mfrp_28, matx_53, mfrm_54, mtok_55, mval_56, mfk_58, mfpl_59, mfre_50) else (if mtok_55 = (0 : Int32) then some (mfrp_28, matx_53, mfrm_54, mtok_55, mval_56, mfk_58, mfpl_59, mfre_50) else bd2 (X9_errs mfk_58 mfpl_59 (1 : Int32) mfrm_54) (fun mfk_65 mfpl_66 => some (mfrp_28, matx_53, mfrm_54, mtok_55, mval_56, mfk_65, mfpl_66, mfre_50)))))
noncomputable def X9_read_j129 (msiz : Int32) (mtap : Nat → Int32) (mfrp_28 : Int32) (matx_44 : Int32) (mfrm_45 : Int32) (mtok_46 : Int32) (mval_47 : Int32) (mfk_48 : Int32) (mfpl_49 : Int32) (mfre_50 : Nat → Int32) : Option (Int32 × Int32 × Int32 × Int32 × Int32 × Int32 × Int32 × (Nat → Int32)) := bd5 (X9_eatsByte msiz matx_44 mfrm_45 mtok_46 mval_47 mfk_48 mtap (59 : Int32)) (fun q52 matx_53 mfrm_54 mtok_55 mval_56 => (if q52 = (0 : Int32) then bd2 (X9_errs mfk_48 mfpl_49 (1 : Int32) mfrm_54) (fun mfk_69 mfpl_70 => X9_read_j147 mfrp_28 matx_53 mfrm_54 mtok_55 mval_56 mfre_50 mfk_69 mfpl_70) else X9_read_j147 mfrp_28 matx_53 mfrm_54 mtok_55 mval_56 mfre_50 mfk_48 mfpl_49))
noncomputable def X9_read_h116 (mfrp_28 : Int32) (msiz : Int32) (mtap : Nat → Int32) (r80 : Int32 → Int32 → Int32 → Int32 → Int32 → Int32 → (Nat → Int32) → Option (Int32 × Int32 × Int32 × Int32 × Int32 × Int32 × Int32 × (Nat → Int32))) (matx_72 : Int32) (mfrm_73 : Int32) (mtok_74 : Int32) (mval_75 : Int32) (mfk_76 : Int32) (mfpl_77 : Int32) (mfre_78 : Nat → Int32) : Option (Int32 × Int32 × Int32 × Int32 × Int32 × Int32 × Int32 × (Nat → Int32)) := bd7 (X9_readSet mfrp_28 msiz matx_72 mfrm_73 mtok_74 mval_75 mfk_76 mfpl_77 mfre_78 mtap) (fun matx_81 mfrm_82 mtok_83 mval_84 mfk_85 mfpl_86 mfre_87 => bd5 (X9_eatsByte msiz matx_81 mfrm_82 mtok_83 mval_84 mfk_85 mtap (44 : Int32)) (fun q89 matx_90 mfrm_91 mtok_92 mval_93 => (if q89 = (0 : Int32) then X9_read_j129 msiz mtap mfrp_28 matx_90 mfrm_91 mtok_92 mval_93 mfk_85 mfpl_86 mfre_87 else r80 matx_90 mfrm_91 mtok_92 mval_93 mfk_85 mfpl_86 mfre_87)))
noncomputable def X9_read_j107 (msiz : Int32) (mfk_25 : Int32) (mtap : Nat → Int32) (mfrp_28 : Int32) (mfpl_26 : Int32) (mfre_29 : Nat → Int32) (matx_33 : Int32) (mfrm_34 : Int32) (mtok_35 : Int32) (mval_36 : Int32) : Option (Int32 × Int32 × Int32 × Int32 × Int32 × Int32 × Int32 × (Nat → Int32)) := bd5 (X9_eatsByte msiz matx_33 mfrm_34 mtok_35 mval_36 mfk_25 mtap (58 : Int32)) (fun q38 matx_39 mfrm_40 mtok_41 mval_42 => (if q38 = (0 : Int32) then X9_read_j129 msiz mtap mfrp_28 matx_39 mfrm_40 mtok_41 mval_42 mfk_25 mfpl_26 mfre_29 else lfp7 (X9_read_h116 mfrp_28 msiz mtap) matx_39 mfrm_40 mtok_41 mval_42 mfk_25 mfpl_26 mfre_29))
noncomputable def X9_read_j88 (mfre : Nat → Int32) (mval_16 : Int32) (msiz : Int32) (mtap : Nat → Int32) (matx_13 : Int32) (mfrm_14 : Int32) (mtok_15 : Int32) (mfk_25 : Int32) (mfpl_26 : Int32) : Option (Int32 × Int32 × Int32 × Int32 × Int32 × Int32 × Int32 × (Nat → Int32)) := bd2 (X9_clearsFresh mfre mval_16) (fun mfrp_28 mfre_29 => bd1 (X9_good mfk_25) (fun q31 => (if q31 = (0 : Int32) then X9_read_j107 msiz mfk_25 mtap mfrp_28 mfpl_26 mfre_29 matx_13 mfrm_14 mtok_15 mval_16 else bd4 (X9_advance msiz matx_13 mval_16 mtap) (fun matx_98 mfrm_99 mtok_100 mval_101 => X9_read_j107 msiz mfk_25 mtap mfrp_28 mfpl_26 mfre_29 matx_98 mfrm_99 mtok_100 mval_101))))
noncomputable def X9_read_j57 (mfre : Nat → Int32) (mval_16 : Int32) (msiz : Int32) (mtap : Nat → Int32) (matx_13 : Int32) (mfrm_14 : Int32) (mtok_15 : Int32) (mfk_20 : Int32) (mfpl_21 : Int32) : Option (Int32 × Int32 × Int32 × Int32 × Int32 × Int32 × Int32 × (Nat → Int32)) := bd1 (X9_good mfk_20) (fun q23 => (if q23 = (0 : Int32) then X9_read_j88 mfre mval_16 msiz mtap matx_13 mfrm_14 mtok_15 mfk_20 mfpl_21 else bd1 (X9_in (mval_16.toInt64) (1 : Int64) (7 : Int64)) (fun q104 => (if q104 = (0 : Int32) then bd2 (X9_errs mfk_20 mfpl_21 (2 : Int32) mfrm_14) (fun mfk_107 mfpl_108 => X9_read_j88 mfre mval_16 msiz mtap matx_13 mfrm_14 mtok_15 mfk_107 mfpl_108) else X9_read_j88 mfre mval_16 msiz mtap matx_13 mfrm_14 mtok_15 mfk_20 mfpl_21))))
noncomputable def X9_read_j33 (mfk_8 : Int32) (mfre : Nat → Int32) (msiz : Int32) (mtap : Nat → Int32) (mfpl_9 : Int32) (matx_13 : Int32) (mfrm_14 : Int32) (mtok_15 : Int32) (mval_16 : Int32) : Option (Int32 × Int32 × Int32 × Int32 × Int32 × Int32 × Int32 × (Nat → Int32)) := bd1 (X9_good mfk_8) (fun q18 => (if q18 = (0 : Int32) then X9_read_j57 mfre mval_16 msiz mtap matx_13 mfrm_14 mtok_15 mfk_8 mfpl_9 else (if mtok_15 = (2 : Int32) then X9_read_j57 mfre mval_16 msiz mtap matx_13 mfrm_14 mtok_15 mfk_8 mfpl_9 else bd2 (X9_errs mfk_8 mfpl_9 (1 : Int32) mfrm_14) (fun mfk_112 mfpl_113 => X9_read_j57 mfre mval_16 msiz mtap matx_13 mfrm_14 mtok_15 mfk_112 mfpl_113))))
noncomputable def X9_read_j22 (mfre : Nat → Int32) (msiz : Int32) (mtap : Nat → Int32) (matx_1 : Int32) (mfrm_2 : Int32) (mtok_3 : Int32) (mval_4 : Int32) (mfk_8 : Int32) (mfpl_9 : Int32) : Option (Int32 × Int32 × Int32 × Int32 × Int32 × Int32 × Int32 × (Nat → Int32)) := bd1 (X9_good mfk_8) (fun q11 => (if q11 = (0 : Int32) then X9_read_j33 mfk_8 mfre msiz mtap mfpl_9 matx_1 mfrm_2 mtok_3 mval_4 else bd4 (X9_advance msiz matx_1 mval_4 mtap) (fun matx_116 mfrm_117 mtok_118 mval_119 => X9_read_j33 mfk_8 mfre msiz mtap mfpl_9 matx_116 mfrm_117 mtok_118 mval_119)))
noncomputable def X9_read (msiz : Int32) (matx : Int32) (mval : Int32) (mfk : Int32) (mfpl : Int32) (mfre : Nat → Int32) (mtap : Nat → Int32) : Option (Int32 × Int32 × Int32 × Int32 × Int32 × Int32 × Int32 × (Nat → Int32)) := bd4 (X9_advance msiz matx mval mtap) (fun matx_1 mfrm_2 mtok_3 mval_4 => bd1 (X9_isWord matx_1 mfrm_2 mtok_3 mfk mtap 0) (fun q6 => (if q6 = (0 : Int32) then bd2 (X9_errs mfk mfpl (1 : Int32) mfrm_2) (fun mfk_122 mfpl_123 => X9_read_j22 mfre msiz mtap matx_1 mfrm_2 mtok_3 mval_4 mfk_122 mfpl_123) else X9_read_j22 mfre msiz mtap matx_1 mfrm_2 mtok_3 mval_4 mfk mfpl)))
set_option maxHeartbeats 4000000 in
set_option maxRecDepth 20000 in
theorem X9_read_ok  {omfrp : Int32} {omatx : Int32} {omfrm : Int32} {omtok : Int32} {omval : Int32} {omfk : Int32} {omfpl : Int32} {omfre : Nat → Int32}  (hf : X9_read msiz matx mval mfk mfpl mfre mtap = some (omfrp, omatx, omfrm, omtok, omval, omfk, omfpl, omfre)) : MT yX9_read cX9_read 1 none 6 [.ref (h 0)] D cy G (mw h cy mthr mfrp mact mtpd msiz matx mfrm mtok mval mfk mfpl mbem mtrs mtrl mrom mtom mnow mfre mkep mtap mlef mtak mbes mrow mint mrnd mplo mhio mtox mtol) (mw h cy mthr omfrp mact mtpd msiz omatx omfrm omtok omval omfk omfpl mbem mtrs mtrl mrom mtom mnow omfre mkep mtap mlef mtak mbes mrow mint mrnd mplo mhio mtox mtol) none := by
  refine MT.go (own := RX9) [(0, .ref (h 0))] (by decide) rfl (Nat.le_of_ble_eq_true rfl) rfl (fun p l e s m args below meth c A Q C hQ => ?_)
  unfold X9_read at hf
  refine jAloadn C dX9_read_0 rfl 0 rfl ?_
  obtain ⟨matx_1, mfrm_2, mtok_3, mval_4, e5, hf⟩ := bd4_some hf
  refine jVV C (X9_advance_ok  e5) vb_X9_advance mk_RX9_156 rfl rcM ⟨Nat.le_of_ble_eq_true rfl, Nat.le_of_ble_eq_true rfl⟩ rfl (Nat.le_of_ble_eq_true rfl) dX9_read_1 ?_
  refine jAloadn C dX9_read_4 rfl 0 rfl ?_
  refine ls_RX9_172 C dX9_read_5 ?_
  obtain ⟨q6, e7, hf⟩ := bd1_some hf
  refine jVI C (X9_isWord_ok (by decide) e7) vb_X9_isWord mk_RX9_161 rfl rcM ⟨Nat.le_of_ble_eq_true rfl, Nat.le_of_ble_eq_true rfl⟩ rfl (Nat.le_of_ble_eq_true rfl) dX9_read_7 ?_
  have hL10 : ∀ (mfk_8 : Int32) (mfpl_9 : Int32), X9_read_j22 mfre msiz mtap matx_1 mfrm_2 mtok_3 mval_4 mfk_8 mfpl_9 = some (omfrp, omatx, omfrm, omtok, omval, omfk, omfpl, omfre) → J p l e (rmk 6) s m args below meth c D A Q 1 (mw h cy mthr mfrp mact mtpd msiz matx_1 mfrm_2 mtok_3 mval_4 mfk_8 mfpl_9 mbem mtrs mtrl mrom mtom mnow mfre mkep mtap mlef mtak mbes mrow mint mrnd mplo mhio mtox mtol) 22 [(0, .ref (h 0))] [] := by
    intro mfk_8 mfpl_9 hf
    unfold X9_read_j22 at hf
    refine jAloadn C dX9_read_22 rfl 0 rfl ?_
    obtain ⟨q11, e12, hf⟩ := bd1_some hf
    refine jVI C (X9_good_ok  e12) vb_X9_good mk_RX9_110 rfl rcM ⟨Nat.le_of_ble_eq_true rfl, Nat.le_of_ble_eq_true rfl⟩ rfl (Nat.le_of_ble_eq_true rfl) dX9_read_23 ?_
    have hL17 : ∀ (matx_13 : Int32) (mfrm_14 : Int32) (mtok_15 : Int32) (mval_16 : Int32), X9_read_j33 mfk_8 mfre msiz mtap mfpl_9 matx_13 mfrm_14 mtok_15 mval_16 = some (omfrp, omatx, omfrm, omtok, omval, omfk, omfpl, omfre) → J p l e (rmk 6) s m args below meth c D A Q 1 (mw h cy mthr mfrp mact mtpd msiz matx_13 mfrm_14 mtok_15 mval_16 mfk_8 mfpl_9 mbem mtrs mtrl mrom mtom mnow mfre mkep mtap mlef mtak mbes mrow mint mrnd mplo mhio mtox mtol) 33 [(0, .ref (h 0))] [] := by
      intro matx_13 mfrm_14 mtok_15 mval_16 hf
      unfold X9_read_j33 at hf
      refine jAloadn C dX9_read_33 rfl 0 rfl ?_
      obtain ⟨q18, e19, hf⟩ := bd1_some hf
      refine jVI C (X9_good_ok  e19) vb_X9_good mk_RX9_110 rfl rcM ⟨Nat.le_of_ble_eq_true rfl, Nat.le_of_ble_eq_true rfl⟩ rfl (Nat.le_of_ble_eq_true rfl) dX9_read_34 ?_
      have hL22 : ∀ (mfk_20 : Int32) (mfpl_21 : Int32), X9_read_j57 mfre mval_16 msiz mtap matx_13 mfrm_14 mtok_15 mfk_20 mfpl_21 = some (omfrp, omatx, omfrm, omtok, omval, omfk, omfpl, omfre) → J p l e (rmk 6) s m args below meth c D A Q 1 (mw h cy mthr mfrp mact mtpd msiz matx_13 mfrm_14 mtok_15 mval_16 mfk_20 mfpl_21 mbem mtrs mtrl mrom mtom mnow mfre mkep mtap mlef mtak mbes mrow mint mrnd mplo mhio mtox mtol) 57 [(0, .ref (h 0))] [] := by
        intro mfk_20 mfpl_21 hf
        unfold X9_read_j57 at hf
        refine jAloadn C dX9_read_57 rfl 0 rfl ?_
        obtain ⟨q23, e24, hf⟩ := bd1_some hf
        refine jVI C (X9_good_ok  e24) vb_X9_good mk_RX9_110 rfl rcM ⟨Nat.le_of_ble_eq_true rfl, Nat.le_of_ble_eq_true rfl⟩ rfl (Nat.le_of_ble_eq_true rfl) dX9_read_58 ?_
        have hL27 : ∀ (mfk_25 : Int32) (mfpl_26 : Int32), X9_read_j88 mfre mval_16 msiz mtap matx_13 mfrm_14 mtok_15 mfk_25 mfpl_26 = some (omfrp, omatx, omfrm, omtok, omval, omfk, omfpl, omfre) → J p l e (rmk 6) s m args below meth c D A Q 1 (mw h cy mthr mfrp mact mtpd msiz matx_13 mfrm_14 mtok_15 mval_16 mfk_25 mfpl_26 mbem mtrs mtrl mrom mtom mnow mfre mkep mtap mlef mtak mbes mrow mint mrnd mplo mhio mtox mtol) 88 [(0, .ref (h 0))] [] := by
          intro mfk_25 mfpl_26 hf
          unfold X9_read_j88 at hf
          refine jAloadn C dX9_read_88 rfl 0 rfl ?_
          refine jAloadn C dX9_read_89 rfl 0 rfl ?_
          refine gf_RX9_137 C dX9_read_90 ?_
          obtain ⟨mfrp_28, mfre_29, e30, hf⟩ := bd2_some hf
          refine jVV C (X9_clearsFresh_ok  e30) vb_X9_clearsFresh mk_RX9_176 rfl rcM ⟨Nat.le_of_ble_eq_true rfl, Nat.le_of_ble_eq_true rfl⟩ rfl (Nat.le_of_ble_eq_true rfl) dX9_read_93 ?_
          refine jAloadn C dX9_read_96 rfl 0 rfl ?_
          obtain ⟨q31, e32, hf⟩ := bd1_some hf
          refine jVI C (X9_good_ok  e32) vb_X9_good mk_RX9_110 rfl rcM ⟨Nat.le_of_ble_eq_true rfl, Nat.le_of_ble_eq_true rfl⟩ rfl (Nat.le_of_ble_eq_true rfl) dX9_read_97 ?_
          have hL37 : ∀ (matx_33 : Int32) (mfrm_34 : Int32) (mtok_35 : Int32) (mval_36 : Int32), X9_read_j107 msiz mfk_25 mtap mfrp_28 mfpl_26 mfre_29 matx_33 mfrm_34 mtok_35 mval_36 = some (omfrp, omatx, omfrm, omtok, omval, omfk, omfpl, omfre) → J p l e (rmk 6) s m args below meth c D A Q 1 (mw h cy mthr mfrp_28 mact mtpd msiz matx_33 mfrm_34 mtok_35 mval_36 mfk_25 mfpl_26 mbem mtrs mtrl mrom mtom mnow mfre_29 mkep mtap mlef mtak mbes mrow mint mrnd mplo mhio mtox mtol) 107 [(0, .ref (h 0))] [] := by
            intro matx_33 mfrm_34 mtok_35 mval_36 hf
            unfold X9_read_j107 at hf
            refine jAloadn C dX9_read_107 rfl 0 rfl ?_
            refine jBipush C (58 : Int32) dX9_read_108 kb_58 ?_
            obtain ⟨q38, matx_39, mfrm_40, mtok_41, mval_42, e43, hf⟩ := bd5_some hf
            refine jVI C (X9_eatsByte_ok  e43) vb_X9_eatsByte mk_RX9_179 rfl rcM ⟨Nat.le_of_ble_eq_true rfl, Nat.le_of_ble_eq_true rfl⟩ rfl (Nat.le_of_ble_eq_true rfl) dX9_read_110 ?_
            have hL51 : ∀ (matx_44 : Int32) (mfrm_45 : Int32) (mtok_46 : Int32) (mval_47 : Int32) (mfk_48 : Int32) (mfpl_49 : Int32) (mfre_50 : Nat → Int32), X9_read_j129 msiz mtap mfrp_28 matx_44 mfrm_45 mtok_46 mval_47 mfk_48 mfpl_49 mfre_50 = some (omfrp, omatx, omfrm, omtok, omval, omfk, omfpl, omfre) → J p l e (rmk 6) s m args below meth c D A Q 1 (mw h cy mthr mfrp_28 mact mtpd msiz matx_44 mfrm_45 mtok_46 mval_47 mfk_48 mfpl_49 mbem mtrs mtrl mrom mtom mnow mfre_50 mkep mtap mlef mtak mbes mrow mint mrnd mplo mhio mtox mtol) 129 [(0, .ref (h 0))] [] := by
              intro matx_44 mfrm_45 mtok_46 mval_47 mfk_48 mfpl_49 mfre_50 hf
              unfold X9_read_j129 at hf
              refine jAloadn C dX9_read_129 rfl 0 rfl ?_
              refine jBipush C (59 : Int32) dX9_read_130 kb_59 ?_
              obtain ⟨q52, matx_53, mfrm_54, mtok_55, mval_56, e57, hf⟩ := bd5_some hf
              refine jVI C (X9_eatsByte_ok  e57) vb_X9_eatsByte mk_RX9_179 rfl rcM ⟨Nat.le_of_ble_eq_true rfl, Nat.le_of_ble_eq_true rfl⟩ rfl (Nat.le_of_ble_eq_true rfl) dX9_read_132 ?_
              have hL60 : ∀ (mfk_58 : Int32) (mfpl_59 : Int32), X9_read_j147 mfrp_28 matx_53 mfrm_54 mtok_55 mval_56 mfre_50 mfk_58 mfpl_59 = some (omfrp, omatx, omfrm, omtok, omval, omfk, omfpl, omfre) → J p l e (rmk 6) s m args below meth c D A Q 1 (mw h cy mthr mfrp_28 mact mtpd msiz matx_53 mfrm_54 mtok_55 mval_56 mfk_58 mfpl_59 mbem mtrs mtrl mrom mtom mnow mfre_50 mkep mtap mlef mtak mbes mrow mint mrnd mplo mhio mtox mtol) 147 [(0, .ref (h 0))] [] := by
                intro mfk_58 mfpl_59 hf
                unfold X9_read_j147 at hf
                refine jAloadn C dX9_read_147 rfl 0 rfl ?_
                obtain ⟨q61, e62, hf⟩ := bd1_some hf
                refine jVI C (X9_good_ok  e62) vb_X9_good mk_RX9_110 rfl rcM ⟨Nat.le_of_ble_eq_true rfl, Nat.le_of_ble_eq_true rfl⟩ rfl (Nat.le_of_ble_eq_true rfl) dX9_read_148 ?_
                refine jIfEq C 170 dX9_read_151 (by decide) (fun c63 => ?_) (fun c63 => ?_)
                · replace hf := itp hf c63
                  cases hf
                  exact jEndV C hQ rfl dX9_read_170
                · replace hf := itn hf c63
                  refine jAloadn C dX9_read_154 rfl 0 rfl ?_
                  refine gf_RX9_126 C dX9_read_155 ?_
                  refine jIfEq C 170 dX9_read_158 (by decide) (fun c64 => ?_) (fun c64 => ?_)
                  · replace hf := itp hf c64
                    cases hf
                    exact jEndV C hQ rfl dX9_read_170
                  · replace hf := itn hf c64
                    refine jAloadn C dX9_read_161 rfl 0 rfl ?_
                    refine jIconst C (1 : Int32) dX9_read_162 ki_1 ?_
                    refine jAloadn C dX9_read_163 rfl 0 rfl ?_
                    refine gf_RX9_123 C dX9_read_164 ?_
                    obtain ⟨mfk_65, mfpl_66, e67, hf⟩ := bd2_some hf
                    refine jVV C (X9_errs_ok  e67) vb_X9_errs mk_RX9_165 rfl rcM ⟨Nat.le_of_ble_eq_true rfl, Nat.le_of_ble_eq_true rfl⟩ rfl (Nat.le_of_ble_eq_true rfl) dX9_read_167 ?_
                    cases hf
                    exact jEndV C hQ rfl dX9_read_170
              refine jIfNe C 147 dX9_read_135 (by decide) (fun c68 => ?_) (fun c68 => ?_)
              · replace hf := itn hf c68
                exact hL60 mfk_48 mfpl_49 hf
              · replace hf := itp hf c68
                refine jAloadn C dX9_read_138 rfl 0 rfl ?_
                refine jIconst C (1 : Int32) dX9_read_139 ki_1 ?_
                refine jAloadn C dX9_read_140 rfl 0 rfl ?_
                refine gf_RX9_123 C dX9_read_141 ?_
                obtain ⟨mfk_69, mfpl_70, e71, hf⟩ := bd2_some hf
                refine jVV C (X9_errs_ok  e71) vb_X9_errs mk_RX9_165 rfl rcM ⟨Nat.le_of_ble_eq_true rfl, Nat.le_of_ble_eq_true rfl⟩ rfl (Nat.le_of_ble_eq_true rfl) dX9_read_144 ?_
                exact hL60 mfk_69 mfpl_70 hf
            have hL79 : ∀ (matx_72 : Int32) (mfrm_73 : Int32) (mtok_74 : Int32) (mval_75 : Int32) (mfk_76 : Int32) (mfpl_77 : Int32) (mfre_78 : Nat → Int32), lfp7 (X9_read_h116 mfrp_28 msiz mtap) matx_72 mfrm_73 mtok_74 mval_75 mfk_76 mfpl_77 mfre_78 = some (omfrp, omatx, omfrm, omtok, omval, omfk, omfpl, omfre) → J p l e (rmk 6) s m args below meth c D A Q 1 (mw h cy mthr mfrp_28 mact mtpd msiz matx_72 mfrm_73 mtok_74 mval_75 mfk_76 mfpl_77 mbem mtrs mtrl mrom mtom mnow mfre_78 mkep mtap mlef mtak mbes mrow mint mrnd mplo mhio mtox mtol) 116 [(0, .ref (h 0))] [] := by
              intro matx_72 mfrm_73 mtok_74 mval_75 mfk_76 mfpl_77 mfre_78 hw
              refine lfp7_walk (P := fun matx_72 mfrm_73 mtok_74 mval_75 mfk_76 mfpl_77 mfre_78 => J p l e (rmk 6) s m args below meth c D A Q 1 (mw h cy mthr mfrp_28 mact mtpd msiz matx_72 mfrm_73 mtok_74 mval_75 mfk_76 mfpl_77 mbem mtrs mtrl mrom mtom mnow mfre_78 mkep mtap mlef mtak mbes mrow mint mrnd mplo mhio mtox mtol) 116 [(0, .ref (h 0))] []) ?_ hw
              intro r80 ir80 matx_72 mfrm_73 mtok_74 mval_75 mfk_76 mfpl_77 mfre_78 hf
              unfold X9_read_h116 at hf
              refine jAloadn C dX9_read_116 rfl 0 rfl ?_
              obtain ⟨matx_81, mfrm_82, mtok_83, mval_84, mfk_85, mfpl_86, mfre_87, e88, hf⟩ := bd7_some hf
              refine jVV C (X9_readSet_ok  e88) vb_X9_readSet mk_RX9_182 rfl rcM ⟨Nat.le_of_ble_eq_true rfl, Nat.le_of_ble_eq_true rfl⟩ rfl (Nat.le_of_ble_eq_true rfl) dX9_read_117 ?_
              refine jAloadn C dX9_read_120 rfl 0 rfl ?_
              refine jBipush C (44 : Int32) dX9_read_121 kb_44 ?_
              obtain ⟨q89, matx_90, mfrm_91, mtok_92, mval_93, e94, hf⟩ := bd5_some hf
              refine jVI C (X9_eatsByte_ok  e94) vb_X9_eatsByte mk_RX9_179 rfl rcM ⟨Nat.le_of_ble_eq_true rfl, Nat.le_of_ble_eq_true rfl⟩ rfl (Nat.le_of_ble_eq_true rfl) dX9_read_123 ?_
              refine jIfNe C 116 dX9_read_126 (by decide) (fun c95 => ?_) (fun c95 => ?_)
              · replace hf := itn hf c95
                exact ir80 matx_90 mfrm_91 mtok_92 mval_93 mfk_85 mfpl_86 mfre_87 hf
              · replace hf := itp hf c95
                exact hL51 matx_90 mfrm_91 mtok_92 mval_93 mfk_85 mfpl_86 mfre_87 hf
            refine jIfEq C 129 dX9_read_113 (by decide) (fun c96 => ?_) (fun c96 => ?_)
            · replace hf := itp hf c96
              exact hL51 matx_39 mfrm_40 mtok_41 mval_42 mfk_25 mfpl_26 mfre_29 hf
            · replace hf := itn hf c96
              exact hL79 matx_39 mfrm_40 mtok_41 mval_42 mfk_25 mfpl_26 mfre_29 hf
          refine jIfEq C 107 dX9_read_100 (by decide) (fun c97 => ?_) (fun c97 => ?_)
          · replace hf := itp hf c97
            exact hL37 matx_13 mfrm_14 mtok_15 mval_16 hf
          · replace hf := itn hf c97
            refine jAloadn C dX9_read_103 rfl 0 rfl ?_
            obtain ⟨matx_98, mfrm_99, mtok_100, mval_101, e102, hf⟩ := bd4_some hf
            refine jVV C (X9_advance_ok  e102) vb_X9_advance mk_RX9_156 rfl rcM ⟨Nat.le_of_ble_eq_true rfl, Nat.le_of_ble_eq_true rfl⟩ rfl (Nat.le_of_ble_eq_true rfl) dX9_read_104 ?_
            exact hL37 matx_98 mfrm_99 mtok_100 mval_101 hf
        refine jIfEq C 88 dX9_read_61 (by decide) (fun c103 => ?_) (fun c103 => ?_)
        · replace hf := itp hf c103
          exact hL27 mfk_20 mfpl_21 hf
        · replace hf := itn hf c103
          refine jAloadn C dX9_read_64 rfl 0 rfl ?_
          refine gf_RX9_137 C dX9_read_65 ?_
          refine jI2l C dX9_read_68 ?_
          refine jLconst C (1 : Int64) dX9_read_69 rfl ?_
          refine jLdc2 C (x := (7 : Int64)) lk_RX9_174 dX9_read_70 ?_
          obtain ⟨q104, e105, hf⟩ := bd1_some hf
          refine jSI C (X9_in_ok  e105) sb_X9_in mk_RX9_63 rfl ⟨Nat.le_of_ble_eq_true rfl, Nat.le_of_ble_eq_true rfl⟩ rfl (Nat.le_of_ble_eq_true rfl) dX9_read_73 ?_
          refine jIfNe C 88 dX9_read_76 (by decide) (fun c106 => ?_) (fun c106 => ?_)
          · replace hf := itn hf c106
            exact hL27 mfk_20 mfpl_21 hf
          · replace hf := itp hf c106
            refine jAloadn C dX9_read_79 rfl 0 rfl ?_
            refine jIconst C (2 : Int32) dX9_read_80 ki_2 ?_
            refine jAloadn C dX9_read_81 rfl 0 rfl ?_
            refine gf_RX9_123 C dX9_read_82 ?_
            obtain ⟨mfk_107, mfpl_108, e109, hf⟩ := bd2_some hf
            refine jVV C (X9_errs_ok  e109) vb_X9_errs mk_RX9_165 rfl rcM ⟨Nat.le_of_ble_eq_true rfl, Nat.le_of_ble_eq_true rfl⟩ rfl (Nat.le_of_ble_eq_true rfl) dX9_read_85 ?_
            exact hL27 mfk_107 mfpl_108 hf
      refine jIfEq C 57 dX9_read_37 (by decide) (fun c110 => ?_) (fun c110 => ?_)
      · replace hf := itp hf c110
        exact hL22 mfk_8 mfpl_9 hf
      · replace hf := itn hf c110
        refine jAloadn C dX9_read_40 rfl 0 rfl ?_
        refine gf_RX9_126 C dX9_read_41 ?_
        refine jIconst C (2 : Int32) dX9_read_44 ki_2 ?_
        refine jCmpEq C 57 dX9_read_45 (by decide) (fun c111 => ?_) (fun c111 => ?_)
        · replace hf := itp hf c111
          exact hL22 mfk_8 mfpl_9 hf
        · replace hf := itn hf c111
          refine jAloadn C dX9_read_48 rfl 0 rfl ?_
          refine jIconst C (1 : Int32) dX9_read_49 ki_1 ?_
          refine jAloadn C dX9_read_50 rfl 0 rfl ?_
          refine gf_RX9_123 C dX9_read_51 ?_
          obtain ⟨mfk_112, mfpl_113, e114, hf⟩ := bd2_some hf
          refine jVV C (X9_errs_ok  e114) vb_X9_errs mk_RX9_165 rfl rcM ⟨Nat.le_of_ble_eq_true rfl, Nat.le_of_ble_eq_true rfl⟩ rfl (Nat.le_of_ble_eq_true rfl) dX9_read_54 ?_
          exact hL22 mfk_112 mfpl_113 hf
    refine jIfEq C 33 dX9_read_26 (by decide) (fun c115 => ?_) (fun c115 => ?_)
    · replace hf := itp hf c115
      exact hL17 matx_1 mfrm_2 mtok_3 mval_4 hf
    · replace hf := itn hf c115
      refine jAloadn C dX9_read_29 rfl 0 rfl ?_
      obtain ⟨matx_116, mfrm_117, mtok_118, mval_119, e120, hf⟩ := bd4_some hf
      refine jVV C (X9_advance_ok  e120) vb_X9_advance mk_RX9_156 rfl rcM ⟨Nat.le_of_ble_eq_true rfl, Nat.le_of_ble_eq_true rfl⟩ rfl (Nat.le_of_ble_eq_true rfl) dX9_read_30 ?_
      exact hL17 matx_116 mfrm_117 mtok_118 mval_119 hf
  refine jIfNe C 22 dX9_read_10 (by decide) (fun c121 => ?_) (fun c121 => ?_)
  · replace hf := itn hf c121
    exact hL10 mfk mfpl hf
  · replace hf := itp hf c121
    refine jAloadn C dX9_read_13 rfl 0 rfl ?_
    refine jIconst C (1 : Int32) dX9_read_14 ki_1 ?_
    refine jAloadn C dX9_read_15 rfl 0 rfl ?_
    refine gf_RX9_123 C dX9_read_16 ?_
    obtain ⟨mfk_122, mfpl_123, e124, hf⟩ := bd2_some hf
    refine jVV C (X9_errs_ok  e124) vb_X9_errs mk_RX9_165 rfl rcM ⟨Nat.le_of_ble_eq_true rfl, Nat.le_of_ble_eq_true rfl⟩ rfl (Nat.le_of_ble_eq_true rfl) dX9_read_19 ?_
    exact hL10 mfk_122 mfpl_123 hf
end WK
