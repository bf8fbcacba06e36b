section WK
variable {g h : Nat → Nat} {cP : Nat → Int32} {cLo : Nat → Int64} {cHi : Nat → Int64} {cpl : Nat → Int32} {ctb : Nat → Int32} {ctl : Int32} {ctf : Int32} {ctp : Int32} {ctk : Int32} {cts : Int32} {cth : Int32} {cob : Nat → Int32} {col : Int32} {cso : Nat → Int32} {cha : Int32} {chs : Int32} {cbe : Int32} {ctr : Int32} {cgl : Nat → Int64} {cgh : Nat → Int64} {cll : Nat → Int64} {clh : Nat → Int64} {cta : Nat → Int32} {cme : Nat → Int32} {cps : Int32} {cwh : Nat → Int32} {cal : Nat → Int64} {cah : Nat → Int64} {mthr : Int32} {mfrp : Int32} {mact : Int32} {mtpd : Int32} {msiz : Int32} {matx : Int32} {mfrm : Int32} {mtok : Int32} {mval : Int32} {mfk : Int32} {mfpl : Int32} {mbem : Int32} {mtrs : Int32} {mtrl : Int32} {mrom : Int32} {mtom : Int32} {mnow : Nat → Int32} {mfre : Nat → Int32} {mkep : Nat → Int32} {mtap : Nat → Int32} {mlef : Nat → Int32} {mtak : Nat → Int32} {mbes : Nat → Int32} {mrow : Nat → Int32} {mint : Nat → Int32} {mrnd : Nat → Int32} {mplo : Nat → Int32} {mhio : Nat → Int32} {mtox : Nat → Int32} {mtol : Nat → Int32}
variable {D : va_G} {cy : Nat → ClassId} {G : Nat → Nat}
noncomputable def X0_isThere (cP : Nat → Int32) (i0 : Nat) : Option Int32 := (if (cP i0) ≤ (0 : Int32) then some (0 : Int32) else some (1 : Int32))
set_option maxHeartbeats 4000000 in
set_option maxRecDepth 20000 in
theorem X0_isThere_ok {i0 : Nat} {rr : Int32} (hi0 : i0 < 28) (hf : X0_isThere cP i0 = some rr) : MT yX0_isThere cX0_isThere 1 (some .boolean) 0 [.ref (g i0)] D cy G (cw g cy cP cLo cHi cpl ctb ctl ctf ctp ctk cts cth cob col cso cha chs cbe ctr cgl cgh cll clh cta cme cps cwh cal cah) (cw g cy cP cLo cHi cpl ctb ctl ctf ctp ctk cts cth cob col cso cha chs cbe ctr cgl cgh cll clh cta cme cps cwh cal cah) (some (.int rr)) := by
  refine MT.go (own := RX0) [(0, .ref (g i0))] (by decide) rfl (Nat.le_of_ble_eq_true rfl) rfl (fun p l e s m args below meth c A Q C hQ => ?_)
  unfold X0_isThere at hf
  refine jAloadn C dX0_isThere_0 rfl 0 rfl ?_
  refine gf_RX0_9 C hi0 dX0_isThere_1 ?_
  refine jIfLe C 11 dX0_isThere_4 (by decide) (fun c1 => ?_) (fun c1 => ?_)
  · replace hf := itp hf c1
    refine jIconst C (0 : Int32) dX0_isThere_11 ki_0 ?_
    cases hf
    exact jEndIZ C hQ rfl nar_z0 dX0_isThere_12
  · replace hf := itn hf c1
    refine jIconst C (1 : Int32) dX0_isThere_7 ki_1 ?_
    refine jGoto C 12 dX0_isThere_8 (by decide) ?_
    cases hf
    exact jEndIZ C hQ rfl nar_z1 dX0_isThere_12
noncomputable def X0_isEmpty (cLo : Nat → Int64) (cHi : Nat → Int64) (i0 : Nat) : Option Int32 := (if (lg_cmp ((cLo i0) ||| (cHi i0)) (0 : Int64)) = (0 : Int32) then some (1 : Int32) else some (0 : Int32))
set_option maxHeartbeats 4000000 in
set_option maxRecDepth 20000 in
theorem X0_isEmpty_ok {i0 : Nat} {rr : Int32} (hi0 : i0 < 28) (hf : X0_isEmpty cLo cHi i0 = some rr) : MT yX0_isEmpty cX0_isEmpty 1 (some .boolean) 0 [.ref (g i0)] D cy G (cw g cy cP cLo cHi cpl ctb ctl ctf ctp ctk cts cth cob col cso cha chs cbe ctr cgl cgh cll clh cta cme cps cwh cal cah) (cw g cy cP cLo cHi cpl ctb ctl ctf ctp ctk cts cth cob col cso cha chs cbe ctr cgl cgh cll clh cta cme cps cwh cal cah) (some (.int rr)) := by
  refine MT.go (own := RX0) [(0, .ref (g i0))] (by decide) rfl (Nat.le_of_ble_eq_true rfl) rfl (fun p l e s m args below meth c A Q C hQ => ?_)
  unfold X0_isEmpty at hf
  refine jAloadn C dX0_isEmpty_0 rfl 0 rfl ?_
  refine gf_RX0_15 C hi0 dX0_isEmpty_1 ?_
  refine jAloadn C dX0_isEmpty_4 rfl 0 rfl ?_
  refine gf_RX0_19 C hi0 dX0_isEmpty_5 ?_
  refine jLor C dX0_isEmpty_8 ?_
  refine jLconst C (0 : Int64) dX0_isEmpty_9 rfl ?_
  refine jLcmp C dX0_isEmpty_10 ?_
  refine jIfNe C 18 dX0_isEmpty_11 (by decide) (fun c1 => ?_) (fun c1 => ?_)
  · replace hf := itn hf c1
    refine jIconst C (0 : Int32) dX0_isEmpty_18 ki_0 ?_
    cases hf
    exact jEndIZ C hQ rfl nar_z0 dX0_isEmpty_19
  · replace hf := itp hf c1
    refine jIconst C (1 : Int32) dX0_isEmpty_14 ki_1 ?_
    refine jGoto C 19 dX0_isEmpty_15 (by decide) ?_
    cases hf
    exact jEndIZ C hQ rfl nar_z1 dX0_isEmpty_19
noncomputable def X0_isSameAs (cP : Nat → Int32) (cLo : Nat → Int64) (cHi : Nat → Int64) (i0 : Nat) (p1 : Nat) : Option Int32 := (if (cP i0) = (cP p1) then (if (lg_cmp (cLo i0) (cLo p1)) = (0 : Int32) then (if (lg_cmp (cHi i0) (cHi p1)) = (0 : Int32) then some (1 : Int32) else some (0 : Int32)) else some (0 : Int32)) else some (0 : Int32))
set_option maxHeartbeats 4000000 in
set_option maxRecDepth 20000 in
theorem X0_isSameAs_ok {i0 : Nat} {p1 : Nat} {rr : Int32} (hi0 : i0 < 28) (hp1 : p1 < 28) (hf : X0_isSameAs cP cLo cHi i0 p1 = some rr) : MT yX0_isSameAs cX0_isSameAs 2 (some .boolean) 0 [.ref (g i0), .ref (g p1)] D cy G (cw g cy cP cLo cHi cpl ctb ctl ctf ctp ctk cts cth cob col cso cha chs cbe ctr cgl cgh cll clh cta cme cps cwh cal cah) (cw g cy cP cLo cHi cpl ctb ctl ctf ctp ctk cts cth cob col cso cha chs cbe ctr cgl cgh cll clh cta cme cps cwh cal cah) (some (.int rr)) := by
  refine MT.go (own := RX0) [(0, .ref (g i0)), (1, .ref (g p1))] (by decide) rfl (Nat.le_of_ble_eq_true rfl) rfl (fun p l e s m args below meth c A Q C hQ => ?_)
  unfold X0_isSameAs at hf
  refine jAloadn C dX0_isSameAs_0 rfl 0 rfl ?_
  refine gf_RX0_9 C hi0 dX0_isSameAs_1 ?_
  refine jAloadn C dX0_isSameAs_4 rfl 1 rfl ?_
  refine gf_RX0_9 C hp1 dX0_isSameAs_5 ?_
  refine jCmpNe C 39 dX0_isSameAs_8 (by decide) (fun c1 => ?_) (fun c1 => ?_)
  · replace hf := itn hf c1
    refine jIconst C (0 : Int32) dX0_isSameAs_39 ki_0 ?_
    cases hf
    exact jEndIZ C hQ rfl nar_z0 dX0_isSameAs_40
  · replace hf := itp hf c1
    refine jAloadn C dX0_isSameAs_11 rfl 0 rfl ?_
    refine gf_RX0_15 C hi0 dX0_isSameAs_12 ?_
    refine jAloadn C dX0_isSameAs_15 rfl 1 rfl ?_
    refine gf_RX0_15 C hp1 dX0_isSameAs_16 ?_
    refine jLcmp C dX0_isSameAs_19 ?_
    refine jIfNe C 39 dX0_isSameAs_20 (by decide) (fun c2 => ?_) (fun c2 => ?_)
    · replace hf := itn hf c2
      refine jIconst C (0 : Int32) dX0_isSameAs_39 ki_0 ?_
      cases hf
      exact jEndIZ C hQ rfl nar_z0 dX0_isSameAs_40
    · replace hf := itp hf c2
      refine jAloadn C dX0_isSameAs_23 rfl 0 rfl ?_
      refine gf_RX0_19 C hi0 dX0_isSameAs_24 ?_
      refine jAloadn C dX0_isSameAs_27 rfl 1 rfl ?_
      refine gf_RX0_19 C hp1 dX0_isSameAs_28 ?_
      refine jLcmp C dX0_isSameAs_31 ?_
      refine jIfNe C 39 dX0_isSameAs_32 (by decide) (fun c3 => ?_) (fun c3 => ?_)
      · replace hf := itn hf c3
        refine jIconst C (0 : Int32) dX0_isSameAs_39 ki_0 ?_
        cases hf
        exact jEndIZ C hQ rfl nar_z0 dX0_isSameAs_40
      · replace hf := itp hf c3
        refine jIconst C (1 : Int32) dX0_isSameAs_35 ki_1 ?_
        refine jGoto C 40 dX0_isSameAs_36 (by decide) ?_
        cases hf
        exact jEndIZ C hQ rfl nar_z1 dX0_isSameAs_40
noncomputable def X0_span (cP : Nat → Int32) (i0 : Nat) : Option Int32 := some ((1 : Int32) <<< ((cP i0) &&& 31))
set_option maxHeartbeats 4000000 in
set_option maxRecDepth 20000 in
theorem X0_span_ok {i0 : Nat} {rr : Int32} (hi0 : i0 < 28) (hf : X0_span cP i0 = some rr) : MT yX0_span cX0_span 1 (some .int) 0 [.ref (g i0)] D cy G (cw g cy cP cLo cHi cpl ctb ctl ctf ctp ctk cts cth cob col cso cha chs cbe ctr cgl cgh cll clh cta cme cps cwh cal cah) (cw g cy cP cLo cHi cpl ctb ctl ctf ctp ctk cts cth cob col cso cha chs cbe ctr cgl cgh cll clh cta cme cps cwh cal cah) (some (.int rr)) := by
  refine MT.go (own := RX0) [(0, .ref (g i0))] (by decide) rfl (Nat.le_of_ble_eq_true rfl) rfl (fun p l e s m args below meth c A Q C hQ => ?_)
  unfold X0_span at hf
  refine jIconst C (1 : Int32) dX0_span_0 ki_1 ?_
  refine jAloadn C dX0_span_1 rfl 0 rfl ?_
  refine gf_RX0_9 C hi0 dX0_span_2 ?_
  refine jIshl C dX0_span_5 ?_
  cases hf
  exact jEndI C hQ rfl dX0_span_6
noncomputable def X0_knows (cP : Nat → Int32) (i0 : Nat) (p1 : Int32) : Option Int32 := (if p1 < (0 : Int32) then some (0 : Int32) else bd1 (X0_span cP i0) (fun q2 => (if q2 ≤ p1 then some (0 : Int32) else some (1 : Int32))))
set_option maxHeartbeats 4000000 in
set_option maxRecDepth 20000 in
theorem X0_knows_ok {i0 : Nat} {p1 : Int32} {rr : Int32} (hi0 : i0 < 28) (hf : X0_knows cP i0 p1 = some rr) : MT yX0_knows cX0_knows 2 (some .boolean) 1 [.ref (g i0), .int p1] D cy G (cw g cy cP cLo cHi cpl ctb ctl ctf ctp ctk cts cth cob col cso cha chs cbe ctr cgl cgh cll clh cta cme cps cwh cal cah) (cw g cy cP cLo cHi cpl ctb ctl ctf ctp ctk cts cth cob col cso cha chs cbe ctr cgl cgh cll clh cta cme cps cwh cal cah) (some (.int rr)) := by
  refine MT.go (own := RX0) [(0, .ref (g i0)), (1, .int p1)] (by decide) rfl (Nat.le_of_ble_eq_true rfl) rfl (fun p l e s m args below meth c A Q C hQ => ?_)
  unfold X0_knows at hf
  refine jIloadn C dX0_knows_0 rfl 1 rfl ?_
  refine jIfLt C 16 dX0_knows_1 (by decide) (fun c1 => ?_) (fun c1 => ?_)
  · replace hf := itp hf c1
    refine jIconst C (0 : Int32) dX0_knows_16 ki_0 ?_
    cases hf
    exact jEndIZ C hQ rfl nar_z0 dX0_knows_17
  · replace hf := itn hf c1
    refine jIloadn C dX0_knows_4 rfl 1 rfl ?_
    refine jAloadn C dX0_knows_5 rfl 0 rfl ?_
    obtain ⟨q2, e3, hf⟩ := bd1_some hf
    refine jVI C (X0_span_ok hi0 e3) vb_X0_span mk_RX0_22 rfl (rcF hi0) ⟨Nat.le_of_ble_eq_true rfl, Nat.le_of_ble_eq_true rfl⟩ rfl (Nat.le_of_ble_eq_true rfl) dX0_knows_6 ?_
    refine jCmpGe C 16 dX0_knows_9 (by decide) (fun c4 => ?_) (fun c4 => ?_)
    · replace hf := itp hf c4
      refine jIconst C (0 : Int32) dX0_knows_16 ki_0 ?_
      cases hf
      exact jEndIZ C hQ rfl nar_z0 dX0_knows_17
    · replace hf := itn hf c4
      refine jIconst C (1 : Int32) dX0_knows_12 ki_1 ?_
      refine jGoto C 17 dX0_knows_13 (by decide) ?_
      cases hf
      exact jEndIZ C hQ rfl nar_z1 dX0_knows_17
noncomputable def X0_knowsPoint (cP : Nat → Int32) (i0 : Nat) (p1 : Int32) : Option Int32 := (if p1 < (0 : Int32) then some (0 : Int32) else (if (cP i0) ≤ p1 then some (0 : Int32) else some (1 : Int32)))
set_option maxHeartbeats 4000000 in
set_option maxRecDepth 20000 in
theorem X0_knowsPoint_ok {i0 : Nat} {p1 : Int32} {rr : Int32} (hi0 : i0 < 28) (hf : X0_knowsPoint cP i0 p1 = some rr) : MT yX0_knowsPoint cX0_knowsPoint 2 (some .boolean) 0 [.ref (g i0), .int p1] D cy G (cw g cy cP cLo cHi cpl ctb ctl ctf ctp ctk cts cth cob col cso cha chs cbe ctr cgl cgh cll clh cta cme cps cwh cal cah) (cw g cy cP cLo cHi cpl ctb ctl ctf ctp ctk cts cth cob col cso cha chs cbe ctr cgl cgh cll clh cta cme cps cwh cal cah) (some (.int rr)) := by
  refine MT.go (own := RX0) [(0, .ref (g i0)), (1, .int p1)] (by decide) rfl (Nat.le_of_ble_eq_true rfl) rfl (fun p l e s m args below meth c A Q C hQ => ?_)
  unfold X0_knowsPoint at hf
  refine jIloadn C dX0_knowsPoint_0 rfl 1 rfl ?_
  refine jIfLt C 16 dX0_knowsPoint_1 (by decide) (fun c1 => ?_) (fun c1 => ?_)
  · replace hf := itp hf c1
    refine jIconst C (0 : Int32) dX0_knowsPoint_16 ki_0 ?_
    cases hf
    exact jEndIZ C hQ rfl nar_z0 dX0_knowsPoint_17
  · replace hf := itn hf c1
    refine jIloadn C dX0_knowsPoint_4 rfl 1 rfl ?_
    refine jAloadn C dX0_knowsPoint_5 rfl 0 rfl ?_
    refine gf_RX0_9 C hi0 dX0_knowsPoint_6 ?_
    refine jCmpGe C 16 dX0_knowsPoint_9 (by decide) (fun c2 => ?_) (fun c2 => ?_)
    · replace hf := itp hf c2
      refine jIconst C (0 : Int32) dX0_knowsPoint_16 ki_0 ?_
      cases hf
      exact jEndIZ C hQ rfl nar_z0 dX0_knowsPoint_17
    · replace hf := itn hf c2
      refine jIconst C (1 : Int32) dX0_knowsPoint_12 ki_1 ?_
      refine jGoto C 17 dX0_knowsPoint_13 (by decide) ?_
      cases hf
      exact jEndIZ C hQ rfl nar_z1 dX0_knowsPoint_17
noncomputable def X0_holds_j17 (p1 : Int32) (y1 : Int64) : Option Int32 := (if (lg_cmp (((y1.toUInt64 >>> ((p1 &&& (63 : Int32)).toInt64.toUInt64 &&& Int64.toUInt64 63)).toInt64) &&& (1 : Int64)) (1 : Int64)) = (0 : Int32) then some (1 : Int32) else some (0 : Int32))
noncomputable def X0_holds (cLo : Nat → Int64) (cHi : Nat → Int64) (i0 : Nat) (p1 : Int32) : Option Int32 := (if (64 : Int32) ≤ p1 then X0_holds_j17 p1 (cHi i0) else X0_holds_j17 p1 (cLo i0))
set_option maxHeartbeats 4000000 in
set_option maxRecDepth 20000 in
theorem X0_holds_ok {i0 : Nat} {p1 : Int32} {rr : Int32} (hi0 : i0 < 28) (hf : X0_holds cLo cHi i0 p1 = some rr) : MT yX0_holds cX0_holds 4 (some .boolean) 0 [.ref (g i0), .int p1] D cy G (cw g cy cP cLo cHi cpl ctb ctl ctf ctp ctk cts cth cob col cso cha chs cbe ctr cgl cgh cll clh cta cme cps cwh cal cah) (cw g cy cP cLo cHi cpl ctb ctl ctf ctp ctk cts cth cob col cso cha chs cbe ctr cgl cgh cll clh cta cme cps cwh cal cah) (some (.int rr)) := by
  refine MT.go (own := RX0) [(0, .ref (g i0)), (1, .int p1)] (by decide) rfl (Nat.le_of_ble_eq_true rfl) rfl (fun p l e s m args below meth c A Q C hQ => ?_)
  unfold X0_holds at hf
  refine jIloadn C dX0_holds_0 rfl 1 rfl ?_
  refine jBipush C (64 : Int32) dX0_holds_1 kb_64 ?_
  have hL2 : ∀ (y1 : Int64), X0_holds_j17 p1 y1 = some rr → J p l e (rmk 0) s m args below meth c D A Q 4 (cw g cy cP cLo cHi cpl ctb ctl ctf ctp ctk cts cth cob col cso cha chs cbe ctr cgl cgh cll clh cta cme cps cwh cal cah) 17 [(1, .int p1)] [.long y1] := by
    intro y1 hf
    unfold X0_holds_j17 at hf
    refine jLstoren C dX0_holds_17 rfl (Nat.le_of_ble_eq_true rfl) [(2, .long y1), (1, .int p1)] rfl ?_
    refine jLloadn C dX0_holds_18 rfl 0 rfl ?_
    refine jIloadn C dX0_holds_19 rfl 1 rfl ?_
    refine jBipush C (63 : Int32) dX0_holds_20 kb_63 ?_
    refine jIand C dX0_holds_22 ?_
    refine jLushr C dX0_holds_23 ?_
    refine jLconst C (1 : Int64) dX0_holds_24 rfl ?_
    refine jLand C dX0_holds_25 ?_
    refine jLconst C (1 : Int64) dX0_holds_26 rfl ?_
    refine jLcmp C dX0_holds_27 ?_
    refine jIfNe C 35 dX0_holds_28 (by decide) (fun c3 => ?_) (fun c3 => ?_)
    · replace hf := itn hf c3
      refine jIconst C (0 : Int32) dX0_holds_35 ki_0 ?_
      cases hf
      exact jEndIZ C hQ rfl nar_z0 dX0_holds_36
    · replace hf := itp hf c3
      refine jIconst C (1 : Int32) dX0_holds_31 ki_1 ?_
      refine jGoto C 36 dX0_holds_32 (by decide) ?_
      cases hf
      exact jEndIZ C hQ rfl nar_z1 dX0_holds_36
  refine jCmpGe C 13 dX0_holds_3 (by decide) (fun c4 => ?_) (fun c4 => ?_)
  · replace hf := itp hf c4
    refine jAloadn C dX0_holds_13 rfl 0 rfl ?_
    refine gf_RX0_19 C hi0 dX0_holds_14 ?_
    refine jSub [1] rfl ?_
    exact hL2 (cHi i0) hf
  · replace hf := itn hf c4
    refine jAloadn C dX0_holds_6 rfl 0 rfl ?_
    refine gf_RX0_15 C hi0 dX0_holds_7 ?_
    refine jGoto C 17 dX0_holds_10 (by decide) ?_
    refine jSub [1] rfl ?_
    exact hL2 (cLo i0) hf
noncomputable def X0_size (cLo : Nat → Int64) (cHi : Nat → Int64) (i0 : Nat) : Option Int32 := bd1 (J13_bitCount_95d88 (cLo i0)) (fun q1 => bd1 (J13_bitCount_95d88 (cHi i0)) (fun q3 => some (q1 + q3)))
set_option maxHeartbeats 4000000 in
set_option maxRecDepth 20000 in
theorem X0_size_ok {i0 : Nat} {rr : Int32} (hi0 : i0 < 28) (hf : X0_size cLo cHi i0 = some rr) : MT yX0_size cX0_size 1 (some .int) 1 [.ref (g i0)] D cy G (cw g cy cP cLo cHi cpl ctb ctl ctf ctp ctk cts cth cob col cso cha chs cbe ctr cgl cgh cll clh cta cme cps cwh cal cah) (cw g cy cP cLo cHi cpl ctb ctl ctf ctp ctk cts cth cob col cso cha chs cbe ctr cgl cgh cll clh cta cme cps cwh cal cah) (some (.int rr)) := by
  refine MT.go (own := RX0) [(0, .ref (g i0))] (by decide) rfl (Nat.le_of_ble_eq_true rfl) rfl (fun p l e s m args below meth c A Q C hQ => ?_)
  unfold X0_size at hf
  refine jAloadn C dX0_size_0 rfl 0 rfl ?_
  refine gf_RX0_15 C hi0 dX0_size_1 ?_
  obtain ⟨q1, e2, hf⟩ := bd1_some hf
  refine jSI C (J13_bitCount_95d88_ok  e2) sb_J13_bitCount_95d88 mk_RX0_26 rfl ⟨Nat.le_of_ble_eq_true rfl, Nat.le_of_ble_eq_true rfl⟩ rfl (Nat.le_of_ble_eq_true rfl) dX0_size_4 ?_
  refine jAloadn C dX0_size_7 rfl 0 rfl ?_
  refine gf_RX0_19 C hi0 dX0_size_8 ?_
  obtain ⟨q3, e4, hf⟩ := bd1_some hf
  refine jSI C (J13_bitCount_95d88_ok  e4) sb_J13_bitCount_95d88 mk_RX0_26 rfl ⟨Nat.le_of_ble_eq_true rfl, Nat.le_of_ble_eq_true rfl⟩ rfl (Nat.le_of_ble_eq_true rfl) dX0_size_11 ?_
  refine jIadd C dX0_size_14 ?_
  cases hf
  exact jEndI C hQ rfl dX0_size_15
noncomputable def X0_sizeOfLevel_h4 (cP : Nat → Int32) (i0 : Nat) (p1 : Int32) (cLo : Nat → Int64) (cHi : Nat → Int64) (r4 : Int32 → Int32 → Option Int32) (x2_1 : Int32) (x3_2 : Int32) : Option Int32 := bd1 (X0_span cP i0) (fun q5 => (if q5 ≤ x3_2 then some x2_1 else bd1 (J6_bitCount_0f7a4 x3_2) (fun q8 => (if q8 = p1 then bd1 (X0_holds cLo cHi i0 x3_2) (fun q11 => (if q11 = (0 : Int32) then r4 x2_1 (x3_2 + (1 : Int32)) else r4 (x2_1 + (1 : Int32)) (x3_2 + (1 : Int32)))) else r4 x2_1 (x3_2 + (1 : Int32))))))
noncomputable def X0_sizeOfLevel (cP : Nat → Int32) (cLo : Nat → Int64) (cHi : Nat → Int64) (i0 : Nat) (p1 : Int32) : Option Int32 := lfp2 (X0_sizeOfLevel_h4 cP i0 p1 cLo cHi) (0 : Int32) (0 : Int32)
set_option maxHeartbeats 4000000 in
set_option maxRecDepth 20000 in
theorem X0_sizeOfLevel_ok {i0 : Nat} {p1 : Int32} {rr : Int32} (hi0 : i0 < 28) (hf : X0_sizeOfLevel cP cLo cHi i0 p1 = some rr) : MT yX0_sizeOfLevel cX0_sizeOfLevel 4 (some .int) 1 [.ref (g i0), .int p1] D cy G (cw g cy cP cLo cHi cpl ctb ctl ctf ctp ctk cts cth cob col cso cha chs cbe ctr cgl cgh cll clh cta cme cps cwh cal cah) (cw g cy cP cLo cHi cpl ctb ctl ctf ctp ctk cts cth cob col cso cha chs cbe ctr cgl cgh cll clh cta cme cps cwh cal cah) (some (.int rr)) := by
  refine MT.go (own := RX0) [(0, .ref (g i0)), (1, .int p1)] (by decide) rfl (Nat.le_of_ble_eq_true rfl) rfl (fun p l e s m args below meth c A Q C hQ => ?_)
  unfold X0_sizeOfLevel at hf
  refine jIconst C (0 : Int32) dX0_sizeOfLevel_0 ki_0 ?_
  refine jIstoren C dX0_sizeOfLevel_1 rfl (Nat.le_of_ble_eq_true rfl) [(2, .int (0 : Int32)), (0, .ref (g i0)), (1, .int p1)] rfl ?_
  refine jIconst C (0 : Int32) dX0_sizeOfLevel_2 ki_0 ?_
  refine jIstoren C dX0_sizeOfLevel_3 rfl (Nat.le_of_ble_eq_true rfl) [(3, .int (0 : Int32)), (2, .int (0 : Int32)), (0, .ref (g i0)), (1, .int p1)] rfl ?_
  have hL3 : ∀ (x2_1 : Int32) (x3_2 : Int32), lfp2 (X0_sizeOfLevel_h4 cP i0 p1 cLo cHi) x2_1 x3_2 = some rr → J p l e (rmk 1) s m args below meth c D A Q 4 (cw g cy cP cLo cHi cpl ctb ctl ctf ctp ctk cts cth cob col cso cha chs cbe ctr cgl cgh cll clh cta cme cps cwh cal cah) 4 [(0, .ref (g i0)), (1, .int p1), (2, .int x2_1), (3, .int x3_2)] [] := by
    intro x2_1 x3_2 hw
    refine lfp2_walk (P := fun x2_1 x3_2 => J p l e (rmk 1) s m args below meth c D A Q 4 (cw g cy cP cLo cHi cpl ctb ctl ctf ctp ctk cts cth cob col cso cha chs cbe ctr cgl cgh cll clh cta cme cps cwh cal cah) 4 [(0, .ref (g i0)), (1, .int p1), (2, .int x2_1), (3, .int x3_2)] []) ?_ hw
    intro r4 ir4 x2_1 x3_2 hf
    unfold X0_sizeOfLevel_h4 at hf
    refine jIloadn C dX0_sizeOfLevel_4 rfl 3 rfl ?_
    refine jAloadn C dX0_sizeOfLevel_5 rfl 0 rfl ?_
    obtain ⟨q5, e6, hf⟩ := bd1_some hf
    refine jVI C (X0_span_ok hi0 e6) vb_X0_span mk_RX0_22 rfl (rcF hi0) ⟨Nat.le_of_ble_eq_true rfl, Nat.le_of_ble_eq_true rfl⟩ rfl (Nat.le_of_ble_eq_true rfl) dX0_sizeOfLevel_6 ?_
    refine jCmpGe C 37 dX0_sizeOfLevel_9 (by decide) (fun c7 => ?_) (fun c7 => ?_)
    · replace hf := itp hf c7
      refine jIloadn C dX0_sizeOfLevel_37 rfl 2 rfl ?_
      cases hf
      exact jEndI C hQ rfl dX0_sizeOfLevel_38
    · replace hf := itn hf c7
      refine jIloadn C dX0_sizeOfLevel_12 rfl 3 rfl ?_
      obtain ⟨q8, e9, hf⟩ := bd1_some hf
      refine jSI C (J6_bitCount_0f7a4_ok  e9) sb_J6_bitCount_0f7a4 mk_RX0_32 rfl ⟨Nat.le_of_ble_eq_true rfl, Nat.le_of_ble_eq_true rfl⟩ rfl (Nat.le_of_ble_eq_true rfl) dX0_sizeOfLevel_13 ?_
      refine jIloadn C dX0_sizeOfLevel_16 rfl 1 rfl ?_
      refine jCmpNe C 31 dX0_sizeOfLevel_17 (by decide) (fun c10 => ?_) (fun c10 => ?_)
      · replace hf := itn hf c10
        refine jIinc C (x3_2 + (1 : Int32)) dX0_sizeOfLevel_31 3 rfl (congrArg (fun z : Int32 => x3_2 + z) ki_1) (Nat.le_of_ble_eq_true rfl) [(3, .int (x3_2 + (1 : Int32))), (0, .ref (g i0)), (1, .int p1), (2, .int x2_1)] rfl ?_
        refine jGoto C 4 dX0_sizeOfLevel_34 (by decide) ?_
        refine jSub [1, 2, 3, 0] rfl ?_
        exact ir4 x2_1 (x3_2 + (1 : Int32)) hf
      · replace hf := itp hf c10
        refine jAloadn C dX0_sizeOfLevel_20 rfl 0 rfl ?_
        refine jIloadn C dX0_sizeOfLevel_21 rfl 3 rfl ?_
        obtain ⟨q11, e12, hf⟩ := bd1_some hf
        refine jVI C (X0_holds_ok hi0 e12) vb_X0_holds mk_RX0_37 rfl (rcF hi0) ⟨Nat.le_of_ble_eq_true rfl, Nat.le_of_ble_eq_true rfl⟩ rfl (Nat.le_of_ble_eq_true rfl) dX0_sizeOfLevel_22 ?_
        refine jIfEq C 31 dX0_sizeOfLevel_25 (by decide) (fun c13 => ?_) (fun c13 => ?_)
        · replace hf := itp hf c13
          refine jIinc C (x3_2 + (1 : Int32)) dX0_sizeOfLevel_31 3 rfl (congrArg (fun z : Int32 => x3_2 + z) ki_1) (Nat.le_of_ble_eq_true rfl) [(3, .int (x3_2 + (1 : Int32))), (0, .ref (g i0)), (1, .int p1), (2, .int x2_1)] rfl ?_
          refine jGoto C 4 dX0_sizeOfLevel_34 (by decide) ?_
          refine jSub [1, 2, 3, 0] rfl ?_
          exact ir4 x2_1 (x3_2 + (1 : Int32)) hf
        · replace hf := itn hf c13
          refine jIinc C (x2_1 + (1 : Int32)) dX0_sizeOfLevel_28 2 rfl (congrArg (fun z : Int32 => x2_1 + z) ki_1) (Nat.le_of_ble_eq_true rfl) [(2, .int (x2_1 + (1 : Int32))), (0, .ref (g i0)), (1, .int p1), (3, .int x3_2)] rfl ?_
          refine jIinc C (x3_2 + (1 : Int32)) dX0_sizeOfLevel_31 3 rfl (congrArg (fun z : Int32 => x3_2 + z) ki_1) (Nat.le_of_ble_eq_true rfl) [(3, .int (x3_2 + (1 : Int32))), (2, .int (x2_1 + (1 : Int32))), (0, .ref (g i0)), (1, .int p1)] rfl ?_
          refine jGoto C 4 dX0_sizeOfLevel_34 (by decide) ?_
          refine jSub [2, 3, 1, 0] rfl ?_
          exact ir4 (x2_1 + (1 : Int32)) (x3_2 + (1 : Int32)) hf
  refine jSub [2, 3, 1, 0] rfl ?_
  exact hL3 (0 : Int32) (0 : Int32) hf
noncomputable def X0_degreeOf (cLo : Nat → Int64) (cHi : Nat → Int64) (i0 : Nat) (p1 : Int32) : Option Int32 := gin p1 7 (bd1 (J13_bitCount_95d88 ((cLo i0) &&& (loW p1.toNatClampNeg))) (fun q2 => gin p1 7 (bd1 (J13_bitCount_95d88 ((cHi i0) &&& (hiW p1.toNatClampNeg))) (fun q5 => some (q2 + q5)))))
set_option maxHeartbeats 4000000 in
set_option maxRecDepth 20000 in
theorem X0_degreeOf_ok {i0 : Nat} {p1 : Int32} {rr : Int32} (hi0 : i0 < 28) (hf : X0_degreeOf cLo cHi i0 p1 = some rr) : MT yX0_degreeOf cX0_degreeOf 2 (some .int) 1 [.ref (g i0), .int p1] D cy G (cw g cy cP cLo cHi cpl ctb ctl ctf ctp ctk cts cth cob col cso cha chs cbe ctr cgl cgh cll clh cta cme cps cwh cal cah) (cw g cy cP cLo cHi cpl ctb ctl ctf ctp ctk cts cth cob col cso cha chs cbe ctr cgl cgh cll clh cta cme cps cwh cal cah) (some (.int rr)) := by
  refine MT.go (own := RX0) [(0, .ref (g i0)), (1, .int p1)] (by decide) rfl (Nat.le_of_ble_eq_true rfl) rfl (fun p l e s m args below meth c A Q C hQ => ?_)
  unfold X0_degreeOf at hf
  refine jAloadn C dX0_degreeOf_0 rfl 0 rfl ?_
  refine gf_RX0_15 C hi0 dX0_degreeOf_1 ?_
  refine gs_RX0_41 C dX0_degreeOf_4 ?_
  refine jIloadn C dX0_degreeOf_7 rfl 1 rfl ?_
  obtain ⟨z1, hf⟩ := gin_some hf
  refine tl_lo C z1 dX0_degreeOf_8 ?_
  refine jLand C dX0_degreeOf_9 ?_
  obtain ⟨q2, e3, hf⟩ := bd1_some hf
  refine jSI C (J13_bitCount_95d88_ok  e3) sb_J13_bitCount_95d88 mk_RX0_26 rfl ⟨Nat.le_of_ble_eq_true rfl, Nat.le_of_ble_eq_true rfl⟩ rfl (Nat.le_of_ble_eq_true rfl) dX0_degreeOf_10 ?_
  refine jAloadn C dX0_degreeOf_13 rfl 0 rfl ?_
  refine gf_RX0_19 C hi0 dX0_degreeOf_14 ?_
  refine gs_RX0_45 C dX0_degreeOf_17 ?_
  refine jIloadn C dX0_degreeOf_20 rfl 1 rfl ?_
  obtain ⟨z4, hf⟩ := gin_some hf
  refine tl_hi C z4 dX0_degreeOf_21 ?_
  refine jLand C dX0_degreeOf_22 ?_
  obtain ⟨q5, e6, hf⟩ := bd1_some hf
  refine jSI C (J13_bitCount_95d88_ok  e6) sb_J13_bitCount_95d88 mk_RX0_26 rfl ⟨Nat.le_of_ble_eq_true rfl, Nat.le_of_ble_eq_true rfl⟩ rfl (Nat.le_of_ble_eq_true rfl) dX0_degreeOf_23 ?_
  refine jIadd C dX0_degreeOf_26 ?_
  cases hf
  exact jEndI C hQ rfl dX0_degreeOf_27
noncomputable def X0_pick_h4 (cP : Nat → Int32) (i0 : Nat) (cLo : Nat → Int64) (cHi : Nat → Int64) (p1 : Int32) (r4 : Int32 → Int32 → Option Int32) (x2_1 : Int32) (x3_2 : Int32) : Option Int32 := bd1 (X0_span cP i0) (fun q5 => (if q5 ≤ x3_2 then some (-1 : Int32) else bd1 (X0_holds cLo cHi i0 x3_2) (fun q8 => (if q8 = (0 : Int32) then r4 x2_1 (x3_2 + (1 : Int32)) else (if x2_1 = p1 then some x3_2 else r4 (x2_1 + (1 : Int32)) (x3_2 + (1 : Int32)))))))
noncomputable def X0_pick (cP : Nat → Int32) (cLo : Nat → Int64) (cHi : Nat → Int64) (i0 : Nat) (p1 : Int32) : Option Int32 := lfp2 (X0_pick_h4 cP i0 cLo cHi p1) (0 : Int32) (0 : Int32)
set_option maxHeartbeats 4000000 in
set_option maxRecDepth 20000 in
theorem X0_pick_ok {i0 : Nat} {p1 : Int32} {rr : Int32} (hi0 : i0 < 28) (hf : X0_pick cP cLo cHi i0 p1 = some rr) : MT yX0_pick cX0_pick 4 (some .int) 1 [.ref (g i0), .int p1] D cy G (cw g cy cP cLo cHi cpl ctb ctl ctf ctp ctk cts cth cob col cso cha chs cbe ctr cgl cgh cll clh cta cme cps cwh cal cah) (cw g cy cP cLo cHi cpl ctb ctl ctf ctp ctk cts cth cob col cso cha chs cbe ctr cgl cgh cll clh cta cme cps cwh cal cah) (some (.int rr)) := by
  refine MT.go (own := RX0) [(0, .ref (g i0)), (1, .int p1)] (by decide) rfl (Nat.le_of_ble_eq_true rfl) rfl (fun p l e s m args below meth c A Q C hQ => ?_)
  unfold X0_pick at hf
  refine jIconst C (0 : Int32) dX0_pick_0 ki_0 ?_
  refine jIstoren C dX0_pick_1 rfl (Nat.le_of_ble_eq_true rfl) [(2, .int (0 : Int32)), (0, .ref (g i0)), (1, .int p1)] rfl ?_
  refine jIconst C (0 : Int32) dX0_pick_2 ki_0 ?_
  refine jIstoren C dX0_pick_3 rfl (Nat.le_of_ble_eq_true rfl) [(3, .int (0 : Int32)), (2, .int (0 : Int32)), (0, .ref (g i0)), (1, .int p1)] rfl ?_
  have hL3 : ∀ (x2_1 : Int32) (x3_2 : Int32), lfp2 (X0_pick_h4 cP i0 cLo cHi p1) x2_1 x3_2 = some rr → J p l e (rmk 1) s m args below meth c D A Q 4 (cw g cy cP cLo cHi cpl ctb ctl ctf ctp ctk cts cth cob col cso cha chs cbe ctr cgl cgh cll clh cta cme cps cwh cal cah) 4 [(0, .ref (g i0)), (1, .int p1), (2, .int x2_1), (3, .int x3_2)] [] := by
    intro x2_1 x3_2 hw
    refine lfp2_walk (P := fun x2_1 x3_2 => J p l e (rmk 1) s m args below meth c D A Q 4 (cw g cy cP cLo cHi cpl ctb ctl ctf ctp ctk cts cth cob col cso cha chs cbe ctr cgl cgh cll clh cta cme cps cwh cal cah) 4 [(0, .ref (g i0)), (1, .int p1), (2, .int x2_1), (3, .int x3_2)] []) ?_ hw
    intro r4 ir4 x2_1 x3_2 hf
    unfold X0_pick_h4 at hf
    refine jIloadn C dX0_pick_4 rfl 3 rfl ?_
    refine jAloadn C dX0_pick_5 rfl 0 rfl ?_
    obtain ⟨q5, e6, hf⟩ := bd1_some hf
    refine jVI C (X0_span_ok hi0 e6) vb_X0_span mk_RX0_22 rfl (rcF hi0) ⟨Nat.le_of_ble_eq_true rfl, Nat.le_of_ble_eq_true rfl⟩ rfl (Nat.le_of_ble_eq_true rfl) dX0_pick_6 ?_
    refine jCmpGe C 36 dX0_pick_9 (by decide) (fun c7 => ?_) (fun c7 => ?_)
    · replace hf := itp hf c7
      refine jIconst C (-1 : Int32) dX0_pick_36 ki_m1 ?_
      cases hf
      exact jEndI C hQ rfl dX0_pick_37
    · replace hf := itn hf c7
      refine jAloadn C dX0_pick_12 rfl 0 rfl ?_
      refine jIloadn C dX0_pick_13 rfl 3 rfl ?_
      obtain ⟨q8, e9, hf⟩ := bd1_some hf
      refine jVI C (X0_holds_ok hi0 e9) vb_X0_holds mk_RX0_37 rfl (rcF hi0) ⟨Nat.le_of_ble_eq_true rfl, Nat.le_of_ble_eq_true rfl⟩ rfl (Nat.le_of_ble_eq_true rfl) dX0_pick_14 ?_
      refine jIfEq C 30 dX0_pick_17 (by decide) (fun c10 => ?_) (fun c10 => ?_)
      · replace hf := itp hf c10
        refine jIinc C (x3_2 + (1 : Int32)) dX0_pick_30 3 rfl (congrArg (fun z : Int32 => x3_2 + z) ki_1) (Nat.le_of_ble_eq_true rfl) [(3, .int (x3_2 + (1 : Int32))), (0, .ref (g i0)), (1, .int p1), (2, .int x2_1)] rfl ?_
        refine jGoto C 4 dX0_pick_33 (by decide) ?_
        refine jSub [1, 2, 3, 0] rfl ?_
        exact ir4 x2_1 (x3_2 + (1 : Int32)) hf
      · replace hf := itn hf c10
        refine jIloadn C dX0_pick_20 rfl 2 rfl ?_
        refine jIloadn C dX0_pick_21 rfl 1 rfl ?_
        refine jCmpNe C 27 dX0_pick_22 (by decide) (fun c11 => ?_) (fun c11 => ?_)
        · replace hf := itn hf c11
          refine jIinc C (x2_1 + (1 : Int32)) dX0_pick_27 2 rfl (congrArg (fun z : Int32 => x2_1 + z) ki_1) (Nat.le_of_ble_eq_true rfl) [(2, .int (x2_1 + (1 : Int32))), (0, .ref (g i0)), (1, .int p1), (3, .int x3_2)] rfl ?_
          refine jIinc C (x3_2 + (1 : Int32)) dX0_pick_30 3 rfl (congrArg (fun z : Int32 => x3_2 + z) ki_1) (Nat.le_of_ble_eq_true rfl) [(3, .int (x3_2 + (1 : Int32))), (2, .int (x2_1 + (1 : Int32))), (0, .ref (g i0)), (1, .int p1)] rfl ?_
          refine jGoto C 4 dX0_pick_33 (by decide) ?_
          refine jSub [2, 3, 1, 0] rfl ?_
          exact ir4 (x2_1 + (1 : Int32)) (x3_2 + (1 : Int32)) hf
        · replace hf := itp hf c11
          refine jIloadn C dX0_pick_25 rfl 3 rfl ?_
          cases hf
          exact jEndI C hQ rfl dX0_pick_26
  refine jSub [2, 3, 1, 0] rfl ?_
  exact hL3 (0 : Int32) (0 : Int32) hf
noncomputable def X0_firstOfLevel_h2 (cP : Nat → Int32) (i0 : Nat) (p1 : Int32) (cLo : Nat → Int64) (cHi : Nat → Int64) (r3 : Int32 → Option Int32) (x2_1 : Int32) : Option Int32 := bd1 (X0_span cP i0) (fun q4 => (if q4 ≤ x2_1 then some (-1 : Int32) else bd1 (J6_bitCount_0f7a4 x2_1) (fun q7 => (if q7 = p1 then bd1 (X0_holds cLo cHi i0 x2_1) (fun q10 => (if q10 = (0 : Int32) then r3 (x2_1 + (1 : Int32)) else some x2_1)) else r3 (x2_1 + (1 : Int32))))))
noncomputable def X0_firstOfLevel (cP : Nat → Int32) (cLo : Nat → Int64) (cHi : Nat → Int64) (i0 : Nat) (p1 : Int32) : Option Int32 := lfp1 (X0_firstOfLevel_h2 cP i0 p1 cLo cHi) (0 : Int32)
set_option maxHeartbeats 4000000 in
set_option maxRecDepth 20000 in
theorem X0_firstOfLevel_ok {i0 : Nat} {p1 : Int32} {rr : Int32} (hi0 : i0 < 28) (hf : X0_firstOfLevel cP cLo cHi i0 p1 = some rr) : MT yX0_firstOfLevel cX0_firstOfLevel 3 (some .int) 1 [.ref (g i0), .int p1] D cy G (cw g cy cP cLo cHi cpl ctb ctl ctf ctp ctk cts cth cob col cso cha chs cbe ctr cgl cgh cll clh cta cme cps cwh cal cah) (cw g cy cP cLo cHi cpl ctb ctl ctf ctp ctk cts cth cob col cso cha chs cbe ctr cgl cgh cll clh cta cme cps cwh cal cah) (some (.int rr)) := by
  refine MT.go (own := RX0) [(0, .ref (g i0)), (1, .int p1)] (by decide) rfl (Nat.le_of_ble_eq_true rfl) rfl (fun p l e s m args below meth c A Q C hQ => ?_)
  unfold X0_firstOfLevel at hf
  refine jIconst C (0 : Int32) dX0_firstOfLevel_0 ki_0 ?_
  refine jIstoren C dX0_firstOfLevel_1 rfl (Nat.le_of_ble_eq_true rfl) [(2, .int (0 : Int32)), (0, .ref (g i0)), (1, .int p1)] rfl ?_
  have hL2 : ∀ (x2_1 : Int32), lfp1 (X0_firstOfLevel_h2 cP i0 p1 cLo cHi) x2_1 = some rr → J p l e (rmk 1) s m args below meth c D A Q 3 (cw g cy cP cLo cHi cpl ctb ctl ctf ctp ctk cts cth cob col cso cha chs cbe ctr cgl cgh cll clh cta cme cps cwh cal cah) 2 [(0, .ref (g i0)), (1, .int p1), (2, .int x2_1)] [] := by
    intro x2_1 hw
    refine lfp1_walk (P := fun x2_1 => J p l e (rmk 1) s m args below meth c D A Q 3 (cw g cy cP cLo cHi cpl ctb ctl ctf ctp ctk cts cth cob col cso cha chs cbe ctr cgl cgh cll clh cta cme cps cwh cal cah) 2 [(0, .ref (g i0)), (1, .int p1), (2, .int x2_1)] []) ?_ hw
    intro r3 ir3 x2_1 hf
    unfold X0_firstOfLevel_h2 at hf
    refine jIloadn C dX0_firstOfLevel_2 rfl 2 rfl ?_
    refine jAloadn C dX0_firstOfLevel_3 rfl 0 rfl ?_
    obtain ⟨q4, e5, hf⟩ := bd1_some hf
    refine jVI C (X0_span_ok hi0 e5) vb_X0_span mk_RX0_22 rfl (rcF hi0) ⟨Nat.le_of_ble_eq_true rfl, Nat.le_of_ble_eq_true rfl⟩ rfl (Nat.le_of_ble_eq_true rfl) dX0_firstOfLevel_4 ?_
    refine jCmpGe C 34 dX0_firstOfLevel_7 (by decide) (fun c6 => ?_) (fun c6 => ?_)
    · replace hf := itp hf c6
      refine jIconst C (-1 : Int32) dX0_firstOfLevel_34 ki_m1 ?_
      cases hf
      exact jEndI C hQ rfl dX0_firstOfLevel_35
    · replace hf := itn hf c6
      refine jIloadn C dX0_firstOfLevel_10 rfl 2 rfl ?_
      obtain ⟨q7, e8, hf⟩ := bd1_some hf
      refine jSI C (J6_bitCount_0f7a4_ok  e8) sb_J6_bitCount_0f7a4 mk_RX0_32 rfl ⟨Nat.le_of_ble_eq_true rfl, Nat.le_of_ble_eq_true rfl⟩ rfl (Nat.le_of_ble_eq_true rfl) dX0_firstOfLevel_11 ?_
      refine jIloadn C dX0_firstOfLevel_14 rfl 1 rfl ?_
      refine jCmpNe C 28 dX0_firstOfLevel_15 (by decide) (fun c9 => ?_) (fun c9 => ?_)
      · replace hf := itn hf c9
        refine jIinc C (x2_1 + (1 : Int32)) dX0_firstOfLevel_28 2 rfl (congrArg (fun z : Int32 => x2_1 + z) ki_1) (Nat.le_of_ble_eq_true rfl) [(2, .int (x2_1 + (1 : Int32))), (0, .ref (g i0)), (1, .int p1)] rfl ?_
        refine jGoto C 2 dX0_firstOfLevel_31 (by decide) ?_
        refine jSub [1, 2, 0] rfl ?_
        exact ir3 (x2_1 + (1 : Int32)) hf
      · replace hf := itp hf c9
        refine jAloadn C dX0_firstOfLevel_18 rfl 0 rfl ?_
        refine jIloadn C dX0_firstOfLevel_19 rfl 2 rfl ?_
        obtain ⟨q10, e11, hf⟩ := bd1_some hf
        refine jVI C (X0_holds_ok hi0 e11) vb_X0_holds mk_RX0_37 rfl (rcF hi0) ⟨Nat.le_of_ble_eq_true rfl, Nat.le_of_ble_eq_true rfl⟩ rfl (Nat.le_of_ble_eq_true rfl) dX0_firstOfLevel_20 ?_
        refine jIfEq C 28 dX0_firstOfLevel_23 (by decide) (fun c12 => ?_) (fun c12 => ?_)
        · replace hf := itp hf c12
          refine jIinc C (x2_1 + (1 : Int32)) dX0_firstOfLevel_28 2 rfl (congrArg (fun z : Int32 => x2_1 + z) ki_1) (Nat.le_of_ble_eq_true rfl) [(2, .int (x2_1 + (1 : Int32))), (0, .ref (g i0)), (1, .int p1)] rfl ?_
          refine jGoto C 2 dX0_firstOfLevel_31 (by decide) ?_
          refine jSub [1, 2, 0] rfl ?_
          exact ir3 (x2_1 + (1 : Int32)) hf
        · replace hf := itn hf c12
          refine jIloadn C dX0_firstOfLevel_26 rfl 2 rfl ?_
          cases hf
          exact jEndI C hQ rfl dX0_firstOfLevel_27
  refine jSub [1, 2, 0] rfl ?_
  exact hL2 (0 : Int32) hf
noncomputable def X0_leastLevel_h2 (cP : Nat → Int32) (i0 : Nat) (cLo : Nat → Int64) (cHi : Nat → Int64) (r3 : Int32 → Option Int32) (x1_1 : Int32) : Option Int32 := (if (cP i0) < x1_1 then some (-1 : Int32) else bd1 (X0_firstOfLevel cP cLo cHi i0 x1_1) (fun q5 => (if q5 = (-1 : Int32) then r3 (x1_1 + (1 : Int32)) else some x1_1)))
noncomputable def X0_leastLevel (cP : Nat → Int32) (cLo : Nat → Int64) (cHi : Nat → Int64) (i0 : Nat) : Option Int32 := lfp1 (X0_leastLevel_h2 cP i0 cLo cHi) (0 : Int32)
set_option maxHeartbeats 4000000 in
set_option maxRecDepth 20000 in
theorem X0_leastLevel_ok {i0 : Nat} {rr : Int32} (hi0 : i0 < 28) (hf : X0_leastLevel cP cLo cHi i0 = some rr) : MT yX0_leastLevel cX0_leastLevel 2 (some .int) 2 [.ref (g i0)] D cy G (cw g cy cP cLo cHi cpl ctb ctl ctf ctp ctk cts cth cob col cso cha chs cbe ctr cgl cgh cll clh cta cme cps cwh cal cah) (cw g cy cP cLo cHi cpl ctb ctl ctf ctp ctk cts cth cob col cso cha chs cbe ctr cgl cgh cll clh cta cme cps cwh cal cah) (some (.int rr)) := by
  refine MT.go (own := RX0) [(0, .ref (g i0))] (by decide) rfl (Nat.le_of_ble_eq_true rfl) rfl (fun p l e s m args below meth c A Q C hQ => ?_)
  unfold X0_leastLevel at hf
  refine jIconst C (0 : Int32) dX0_leastLevel_0 ki_0 ?_
  refine jIstoren C dX0_leastLevel_1 rfl (Nat.le_of_ble_eq_true rfl) [(1, .int (0 : Int32)), (0, .ref (g i0))] rfl ?_
  have hL2 : ∀ (x1_1 : Int32), lfp1 (X0_leastLevel_h2 cP i0 cLo cHi) x1_1 = some rr → J p l e (rmk 2) s m args below meth c D A Q 2 (cw g cy cP cLo cHi cpl ctb ctl ctf ctp ctk cts cth cob col cso cha chs cbe ctr cgl cgh cll clh cta cme cps cwh cal cah) 2 [(0, .ref (g i0)), (1, .int x1_1)] [] := by
    intro x1_1 hw
    refine lfp1_walk (P := fun x1_1 => J p l e (rmk 2) s m args below meth c D A Q 2 (cw g cy cP cLo cHi cpl ctb ctl ctf ctp ctk cts cth cob col cso cha chs cbe ctr cgl cgh cll clh cta cme cps cwh cal cah) 2 [(0, .ref (g i0)), (1, .int x1_1)] []) ?_ hw
    intro r3 ir3 x1_1 hf
    unfold X0_leastLevel_h2 at hf
    refine jIloadn C dX0_leastLevel_2 rfl 1 rfl ?_
    refine jAloadn C dX0_leastLevel_3 rfl 0 rfl ?_
    refine gf_RX0_9 C hi0 dX0_leastLevel_4 ?_
    refine jCmpGt C 27 dX0_leastLevel_7 (by decide) (fun c4 => ?_) (fun c4 => ?_)
    · replace hf := itp hf c4
      refine jIconst C (-1 : Int32) dX0_leastLevel_27 ki_m1 ?_
      cases hf
      exact jEndI C hQ rfl dX0_leastLevel_28
    · replace hf := itn hf c4
      refine jAloadn C dX0_leastLevel_10 rfl 0 rfl ?_
      refine jIloadn C dX0_leastLevel_11 rfl 1 rfl ?_
      obtain ⟨q5, e6, hf⟩ := bd1_some hf
      refine jVI C (X0_firstOfLevel_ok hi0 e6) vb_X0_firstOfLevel mk_RX0_48 rfl (rcF hi0) ⟨Nat.le_of_ble_eq_true rfl, Nat.le_of_ble_eq_true rfl⟩ rfl (Nat.le_of_ble_eq_true rfl) dX0_leastLevel_12 ?_
      refine jIconst C (-1 : Int32) dX0_leastLevel_15 ki_m1 ?_
      refine jCmpEq C 21 dX0_leastLevel_16 (by decide) (fun c7 => ?_) (fun c7 => ?_)
      · replace hf := itp hf c7
        refine jIinc C (x1_1 + (1 : Int32)) dX0_leastLevel_21 1 rfl (congrArg (fun z : Int32 => x1_1 + z) ki_1) (Nat.le_of_ble_eq_true rfl) [(1, .int (x1_1 + (1 : Int32))), (0, .ref (g i0))] rfl ?_
        refine jGoto C 2 dX0_leastLevel_24 (by decide) ?_
        refine jSub [1, 0] rfl ?_
        exact ir3 (x1_1 + (1 : Int32)) hf
      · replace hf := itn hf c7
        refine jIloadn C dX0_leastLevel_19 rfl 1 rfl ?_
        cases hf
        exact jEndI C hQ rfl dX0_leastLevel_20
  refine jSub [1, 0] rfl ?_
  exact hL2 (0 : Int32) hf
noncomputable def X0_greatestLevel_h5 (cP : Nat → Int32) (cLo : Nat → Int64) (cHi : Nat → Int64) (i0 : Nat) (r3 : Int32 → Option Int32) (x1_1 : Int32) : Option Int32 := (if x1_1 < (0 : Int32) then some (-1 : Int32) else bd1 (X0_firstOfLevel cP cLo cHi i0 x1_1) (fun q5 => (if q5 = (-1 : Int32) then r3 (x1_1 + (-1 : Int32)) else some x1_1)))
noncomputable def X0_greatestLevel (cP : Nat → Int32) (cLo : Nat → Int64) (cHi : Nat → Int64) (i0 : Nat) : Option Int32 := lfp1 (X0_greatestLevel_h5 cP cLo cHi i0) (cP i0)
set_option maxHeartbeats 4000000 in
set_option maxRecDepth 20000 in
theorem X0_greatestLevel_ok {i0 : Nat} {rr : Int32} (hi0 : i0 < 28) (hf : X0_greatestLevel cP cLo cHi i0 = some rr) : MT yX0_greatestLevel cX0_greatestLevel 2 (some .int) 2 [.ref (g i0)] D cy G (cw g cy cP cLo cHi cpl ctb ctl ctf ctp ctk cts cth cob col cso cha chs cbe ctr cgl cgh cll clh cta cme cps cwh cal cah) (cw g cy cP cLo cHi cpl ctb ctl ctf ctp ctk cts cth cob col cso cha chs cbe ctr cgl cgh cll clh cta cme cps cwh cal cah) (some (.int rr)) := by
  refine MT.go (own := RX0) [(0, .ref (g i0))] (by decide) rfl (Nat.le_of_ble_eq_true rfl) rfl (fun p l e s m args below meth c A Q C hQ => ?_)
  unfold X0_greatestLevel at hf
  refine jAloadn C dX0_greatestLevel_0 rfl 0 rfl ?_
  refine gf_RX0_9 C hi0 dX0_greatestLevel_1 ?_
  refine jIstoren C dX0_greatestLevel_4 rfl (Nat.le_of_ble_eq_true rfl) [(1, .int (cP i0)), (0, .ref (g i0))] rfl ?_
  have hL2 : ∀ (x1_1 : Int32), lfp1 (X0_greatestLevel_h5 cP cLo cHi i0) x1_1 = some rr → J p l e (rmk 2) s m args below meth c D A Q 2 (cw g cy cP cLo cHi cpl ctb ctl ctf ctp ctk cts cth cob col cso cha chs cbe ctr cgl cgh cll clh cta cme cps cwh cal cah) 5 [(0, .ref (g i0)), (1, .int x1_1)] [] := by
    intro x1_1 hw
    refine lfp1_walk (P := fun x1_1 => J p l e (rmk 2) s m args below meth c D A Q 2 (cw g cy cP cLo cHi cpl ctb ctl ctf ctp ctk cts cth cob col cso cha chs cbe ctr cgl cgh cll clh cta cme cps cwh cal cah) 5 [(0, .ref (g i0)), (1, .int x1_1)] []) ?_ hw
    intro r3 ir3 x1_1 hf
    unfold X0_greatestLevel_h5 at hf
    refine jIloadn C dX0_greatestLevel_5 rfl 1 rfl ?_
    refine jIfLt C 26 dX0_greatestLevel_6 (by decide) (fun c4 => ?_) (fun c4 => ?_)
    · replace hf := itp hf c4
      refine jIconst C (-1 : Int32) dX0_greatestLevel_26 ki_m1 ?_
      cases hf
      exact jEndI C hQ rfl dX0_greatestLevel_27
    · replace hf := itn hf c4
      refine jAloadn C dX0_greatestLevel_9 rfl 0 rfl ?_
      refine jIloadn C dX0_greatestLevel_10 rfl 1 rfl ?_
      obtain ⟨q5, e6, hf⟩ := bd1_some hf
      refine jVI C (X0_firstOfLevel_ok hi0 e6) vb_X0_firstOfLevel mk_RX0_48 rfl (rcF hi0) ⟨Nat.le_of_ble_eq_true rfl, Nat.le_of_ble_eq_true rfl⟩ rfl (Nat.le_of_ble_eq_true rfl) dX0_greatestLevel_11 ?_
      refine jIconst C (-1 : Int32) dX0_greatestLevel_14 ki_m1 ?_
      refine jCmpEq C 20 dX0_greatestLevel_15 (by decide) (fun c7 => ?_) (fun c7 => ?_)
      · replace hf := itp hf c7
        refine jIinc C (x1_1 + (-1 : Int32)) dX0_greatestLevel_20 1 rfl (congrArg (fun z : Int32 => x1_1 + z) ki_m1) (Nat.le_of_ble_eq_true rfl) [(1, .int (x1_1 + (-1 : Int32))), (0, .ref (g i0))] rfl ?_
        refine jGoto C 5 dX0_greatestLevel_23 (by decide) ?_
        refine jSub [1, 0] rfl ?_
        exact ir3 (x1_1 + (-1 : Int32)) hf
      · replace hf := itn hf c7
        refine jIloadn C dX0_greatestLevel_18 rfl 1 rfl ?_
        cases hf
        exact jEndI C hQ rfl dX0_greatestLevel_19
  refine jSub [1, 0] rfl ?_
  exact hL2 (cP i0) hf
noncomputable def X0_pointsOfSome_h4 (cP : Nat → Int32) (i0 : Nat) (cLo : Nat → Int64) (cHi : Nat → Int64) (r4 : Int32 → Int32 → Option Int32) (x1_1 : Int32) (x2_2 : Int32) : Option Int32 := (if (cP i0) ≤ x2_2 then some x1_1 else bd1 (X0_degreeOf cLo cHi i0 x2_2) (fun q6 => (if q6 ≤ (0 : Int32) then r4 x1_1 (x2_2 + (1 : Int32)) else r4 (x1_1 ||| ((1 : Int32) <<< (x2_2 &&& 31))) (x2_2 + (1 : Int32)))))
noncomputable def X0_pointsOfSome (cP : Nat → Int32) (cLo : Nat → Int64) (cHi : Nat → Int64) (i0 : Nat) : Option Int32 := lfp2 (X0_pointsOfSome_h4 cP i0 cLo cHi) (0 : Int32) (0 : Int32)
set_option maxHeartbeats 4000000 in
set_option maxRecDepth 20000 in
theorem X0_pointsOfSome_ok {i0 : Nat} {rr : Int32} (hi0 : i0 < 28) (hf : X0_pointsOfSome cP cLo cHi i0 = some rr) : MT yX0_pointsOfSome cX0_pointsOfSome 3 (some .int) 2 [.ref (g i0)] D cy G (cw g cy cP cLo cHi cpl ctb ctl ctf ctp ctk cts cth cob col cso cha chs cbe ctr cgl cgh cll clh cta cme cps cwh cal cah) (cw g cy cP cLo cHi cpl ctb ctl ctf ctp ctk cts cth cob col cso cha chs cbe ctr cgl cgh cll clh cta cme cps cwh cal cah) (some (.int rr)) := by
  refine MT.go (own := RX0) [(0, .ref (g i0))] (by decide) rfl (Nat.le_of_ble_eq_true rfl) rfl (fun p l e s m args below meth c A Q C hQ => ?_)
  unfold X0_pointsOfSome at hf
  refine jIconst C (0 : Int32) dX0_pointsOfSome_0 ki_0 ?_
  refine jIstoren C dX0_pointsOfSome_1 rfl (Nat.le_of_ble_eq_true rfl) [(1, .int (0 : Int32)), (0, .ref (g i0))] rfl ?_
  refine jIconst C (0 : Int32) dX0_pointsOfSome_2 ki_0 ?_
  refine jIstoren C dX0_pointsOfSome_3 rfl (Nat.le_of_ble_eq_true rfl) [(2, .int (0 : Int32)), (1, .int (0 : Int32)), (0, .ref (g i0))] rfl ?_
  have hL3 : ∀ (x1_1 : Int32) (x2_2 : Int32), lfp2 (X0_pointsOfSome_h4 cP i0 cLo cHi) x1_1 x2_2 = some rr → J p l e (rmk 2) s m args below meth c D A Q 3 (cw g cy cP cLo cHi cpl ctb ctl ctf ctp ctk cts cth cob col cso cha chs cbe ctr cgl cgh cll clh cta cme cps cwh cal cah) 4 [(0, .ref (g i0)), (1, .int x1_1), (2, .int x2_2)] [] := by
    intro x1_1 x2_2 hw
    refine lfp2_walk (P := fun x1_1 x2_2 => J p l e (rmk 2) s m args below meth c D A Q 3 (cw g cy cP cLo cHi cpl ctb ctl ctf ctp ctk cts cth cob col cso cha chs cbe ctr cgl cgh cll clh cta cme cps cwh cal cah) 4 [(0, .ref (g i0)), (1, .int x1_1), (2, .int x2_2)] []) ?_ hw
    intro r4 ir4 x1_1 x2_2 hf
    unfold X0_pointsOfSome_h4 at hf
    refine jIloadn C dX0_pointsOfSome_4 rfl 2 rfl ?_
    refine jAloadn C dX0_pointsOfSome_5 rfl 0 rfl ?_
    refine gf_RX0_9 C hi0 dX0_pointsOfSome_6 ?_
    refine jCmpGe C 32 dX0_pointsOfSome_9 (by decide) (fun c5 => ?_) (fun c5 => ?_)
    · replace hf := itp hf c5
      refine jIloadn C dX0_pointsOfSome_32 rfl 1 rfl ?_
      cases hf
      exact jEndI C hQ rfl dX0_pointsOfSome_33
    · replace hf := itn hf c5
      refine jAloadn C dX0_pointsOfSome_12 rfl 0 rfl ?_
      refine jIloadn C dX0_pointsOfSome_13 rfl 2 rfl ?_
      obtain ⟨q6, e7, hf⟩ := bd1_some hf
      refine jVI C (X0_degreeOf_ok hi0 e7) vb_X0_degreeOf mk_RX0_51 rfl (rcF hi0) ⟨Nat.le_of_ble_eq_true rfl, Nat.le_of_ble_eq_true rfl⟩ rfl (Nat.le_of_ble_eq_true rfl) dX0_pointsOfSome_14 ?_
      refine jIfLe C 26 dX0_pointsOfSome_17 (by decide) (fun c8 => ?_) (fun c8 => ?_)
      · replace hf := itp hf c8
        refine jIinc C (x2_2 + (1 : Int32)) dX0_pointsOfSome_26 2 rfl (congrArg (fun z : Int32 => x2_2 + z) ki_1) (Nat.le_of_ble_eq_true rfl) [(2, .int (x2_2 + (1 : Int32))), (0, .ref (g i0)), (1, .int x1_1)] rfl ?_
        refine jGoto C 4 dX0_pointsOfSome_29 (by decide) ?_
        refine jSub [1, 2, 0] rfl ?_
        exact ir4 x1_1 (x2_2 + (1 : Int32)) hf
      · replace hf := itn hf c8
        refine jIloadn C dX0_pointsOfSome_20 rfl 1 rfl ?_
        refine jIconst C (1 : Int32) dX0_pointsOfSome_21 ki_1 ?_
        refine jIloadn C dX0_pointsOfSome_22 rfl 2 rfl ?_
        refine jIshl C dX0_pointsOfSome_23 ?_
        refine jIor C dX0_pointsOfSome_24 ?_
        refine jIstoren C dX0_pointsOfSome_25 rfl (Nat.le_of_ble_eq_true rfl) [(1, .int (x1_1 ||| ((1 : Int32) <<< (x2_2 &&& 31)))), (0, .ref (g i0)), (2, .int x2_2)] rfl ?_
        refine jIinc C (x2_2 + (1 : Int32)) dX0_pointsOfSome_26 2 rfl (congrArg (fun z : Int32 => x2_2 + z) ki_1) (Nat.le_of_ble_eq_true rfl) [(2, .int (x2_2 + (1 : Int32))), (1, .int (x1_1 ||| ((1 : Int32) <<< (x2_2 &&& 31)))), (0, .ref (g i0))] rfl ?_
        refine jGoto C 4 dX0_pointsOfSome_29 (by decide) ?_
        refine jSub [2, 1, 0] rfl ?_
        exact ir4 (x1_1 ||| ((1 : Int32) <<< (x2_2 &&& 31))) (x2_2 + (1 : Int32)) hf
  refine jSub [2, 1, 0] rfl ?_
  exact hL3 (0 : Int32) (0 : Int32) hf
noncomputable def X0_pointsOfAll_h4 (cP : Nat → Int32) (i0 : Nat) (cLo : Nat → Int64) (cHi : Nat → Int64) (r4 : Int32 → Int32 → Option Int32) (x1_1 : Int32) (x2_2 : Int32) : Option Int32 := (if (cP i0) ≤ x2_2 then some x1_1 else bd1 (X0_degreeOf cLo cHi i0 x2_2) (fun q6 => bd1 (X0_size cLo cHi i0) (fun q8 => (if q6 = q8 then r4 (x1_1 ||| ((1 : Int32) <<< (x2_2 &&& 31))) (x2_2 + (1 : Int32)) else r4 x1_1 (x2_2 + (1 : Int32))))))
noncomputable def X0_pointsOfAll (cP : Nat → Int32) (cLo : Nat → Int64) (cHi : Nat → Int64) (i0 : Nat) : Option Int32 := lfp2 (X0_pointsOfAll_h4 cP i0 cLo cHi) (0 : Int32) (0 : Int32)
set_option maxHeartbeats 4000000 in
set_option maxRecDepth 20000 in
theorem X0_pointsOfAll_ok {i0 : Nat} {rr : Int32} (hi0 : i0 < 28) (hf : X0_pointsOfAll cP cLo cHi i0 = some rr) : MT yX0_pointsOfAll cX0_pointsOfAll 3 (some .int) 2 [.ref (g i0)] D cy G (cw g cy cP cLo cHi cpl ctb ctl ctf ctp ctk cts cth cob col cso cha chs cbe ctr cgl cgh cll clh cta cme cps cwh cal cah) (cw g cy cP cLo cHi cpl ctb ctl ctf ctp ctk cts cth cob col cso cha chs cbe ctr cgl cgh cll clh cta cme cps cwh cal cah) (some (.int rr)) := by
  refine MT.go (own := RX0) [(0, .ref (g i0))] (by decide) rfl (Nat.le_of_ble_eq_true rfl) rfl (fun p l e s m args below meth c A Q C hQ => ?_)
  unfold X0_pointsOfAll at hf
  refine jIconst C (0 : Int32) dX0_pointsOfAll_0 ki_0 ?_
  refine jIstoren C dX0_pointsOfAll_1 rfl (Nat.le_of_ble_eq_true rfl) [(1, .int (0 : Int32)), (0, .ref (g i0))] rfl ?_
  refine jIconst C (0 : Int32) dX0_pointsOfAll_2 ki_0 ?_
  refine jIstoren C dX0_pointsOfAll_3 rfl (Nat.le_of_ble_eq_true rfl) [(2, .int (0 : Int32)), (1, .int (0 : Int32)), (0, .ref (g i0))] rfl ?_
  have hL3 : ∀ (x1_1 : Int32) (x2_2 : Int32), lfp2 (X0_pointsOfAll_h4 cP i0 cLo cHi) x1_1 x2_2 = some rr → J p l e (rmk 2) s m args below meth c D A Q 3 (cw g cy cP cLo cHi cpl ctb ctl ctf ctp ctk cts cth cob col cso cha chs cbe ctr cgl cgh cll clh cta cme cps cwh cal cah) 4 [(0, .ref (g i0)), (1, .int x1_1), (2, .int x2_2)] [] := by
    intro x1_1 x2_2 hw
    refine lfp2_walk (P := fun x1_1 x2_2 => J p l e (rmk 2) s m args below meth c D A Q 3 (cw g cy cP cLo cHi cpl ctb ctl ctf ctp ctk cts cth cob col cso cha chs cbe ctr cgl cgh cll clh cta cme cps cwh cal cah) 4 [(0, .ref (g i0)), (1, .int x1_1), (2, .int x2_2)] []) ?_ hw
    intro r4 ir4 x1_1 x2_2 hf
    unfold X0_pointsOfAll_h4 at hf
    refine jIloadn C dX0_pointsOfAll_4 rfl 2 rfl ?_
    refine jAloadn C dX0_pointsOfAll_5 rfl 0 rfl ?_
    refine gf_RX0_9 C hi0 dX0_pointsOfAll_6 ?_
    refine jCmpGe C 36 dX0_pointsOfAll_9 (by decide) (fun c5 => ?_) (fun c5 => ?_)
    · replace hf := itp hf c5
      refine jIloadn C dX0_pointsOfAll_36 rfl 1 rfl ?_
      cases hf
      exact jEndI C hQ rfl dX0_pointsOfAll_37
    · replace hf := itn hf c5
      refine jAloadn C dX0_pointsOfAll_12 rfl 0 rfl ?_
      refine jIloadn C dX0_pointsOfAll_13 rfl 2 rfl ?_
      obtain ⟨q6, e7, hf⟩ := bd1_some hf
      refine jVI C (X0_degreeOf_ok hi0 e7) vb_X0_degreeOf mk_RX0_51 rfl (rcF hi0) ⟨Nat.le_of_ble_eq_true rfl, Nat.le_of_ble_eq_true rfl⟩ rfl (Nat.le_of_ble_eq_true rfl) dX0_pointsOfAll_14 ?_
      refine jAloadn C dX0_pointsOfAll_17 rfl 0 rfl ?_
      obtain ⟨q8, e9, hf⟩ := bd1_some hf
      refine jVI C (X0_size_ok hi0 e9) vb_X0_size mk_RX0_54 rfl (rcF hi0) ⟨Nat.le_of_ble_eq_true rfl, Nat.le_of_ble_eq_true rfl⟩ rfl (Nat.le_of_ble_eq_true rfl) dX0_pointsOfAll_18 ?_
      refine jCmpNe C 30 dX0_pointsOfAll_21 (by decide) (fun c10 => ?_) (fun c10 => ?_)
      · replace hf := itn hf c10
        refine jIinc C (x2_2 + (1 : Int32)) dX0_pointsOfAll_30 2 rfl (congrArg (fun z : Int32 => x2_2 + z) ki_1) (Nat.le_of_ble_eq_true rfl) [(2, .int (x2_2 + (1 : Int32))), (0, .ref (g i0)), (1, .int x1_1)] rfl ?_
        refine jGoto C 4 dX0_pointsOfAll_33 (by decide) ?_
        refine jSub [1, 2, 0] rfl ?_
        exact ir4 x1_1 (x2_2 + (1 : Int32)) hf
      · replace hf := itp hf c10
        refine jIloadn C dX0_pointsOfAll_24 rfl 1 rfl ?_
        refine jIconst C (1 : Int32) dX0_pointsOfAll_25 ki_1 ?_
        refine jIloadn C dX0_pointsOfAll_26 rfl 2 rfl ?_
        refine jIshl C dX0_pointsOfAll_27 ?_
        refine jIor C dX0_pointsOfAll_28 ?_
        refine jIstoren C dX0_pointsOfAll_29 rfl (Nat.le_of_ble_eq_true rfl) [(1, .int (x1_1 ||| ((1 : Int32) <<< (x2_2 &&& 31)))), (0, .ref (g i0)), (2, .int x2_2)] rfl ?_
        refine jIinc C (x2_2 + (1 : Int32)) dX0_pointsOfAll_30 2 rfl (congrArg (fun z : Int32 => x2_2 + z) ki_1) (Nat.le_of_ble_eq_true rfl) [(2, .int (x2_2 + (1 : Int32))), (1, .int (x1_1 ||| ((1 : Int32) <<< (x2_2 &&& 31)))), (0, .ref (g i0))] rfl ?_
        refine jGoto C 4 dX0_pointsOfAll_33 (by decide) ?_
        refine jSub [2, 1, 0] rfl ?_
        exact ir4 (x1_1 ||| ((1 : Int32) <<< (x2_2 &&& 31))) (x2_2 + (1 : Int32)) hf
  refine jSub [2, 1, 0] rfl ?_
  exact hL3 (0 : Int32) (0 : Int32) hf
noncomputable def X0_become (cP : Nat → Int32) (cLo : Nat → Int64) (cHi : Nat → Int64) (i0 : Nat) (p1 : Nat) : Option ((Nat → Int32) × (Nat → Int64) × (Nat → Int64)) := some ((va_up cP i0 (cP p1)), (va_up cLo i0 (cLo p1)), (va_up cHi i0 (cHi p1)))
set_option maxHeartbeats 4000000 in
set_option maxRecDepth 20000 in
theorem X0_become_ok {i0 : Nat} {p1 : Nat} {ocP : Nat → Int32} {ocLo : Nat → Int64} {ocHi : Nat → Int64} (hi0 : i0 < 28) (hp1 : p1 < 28) (hf : X0_become cP cLo cHi i0 p1 = some (ocP, ocLo, ocHi)) : MT yX0_become cX0_become 2 none 0 [.ref (g i0), .ref (g p1)] D cy G (cw g cy cP cLo cHi cpl ctb ctl ctf ctp ctk cts cth cob col cso cha chs cbe ctr cgl cgh cll clh cta cme cps cwh cal cah) (cw g cy ocP ocLo ocHi cpl ctb ctl ctf ctp ctk cts cth cob col cso cha chs cbe ctr cgl cgh cll clh cta cme cps cwh cal cah) none := by
  refine MT.go (own := RX0) [(0, .ref (g i0)), (1, .ref (g p1))] (by decide) rfl (Nat.le_of_ble_eq_true rfl) rfl (fun p l e s m args below meth c A Q C hQ => ?_)
  unfold X0_become at hf
  refine jAloadn C dX0_become_0 rfl 0 rfl ?_
  refine jAloadn C dX0_become_1 rfl 1 rfl ?_
  refine gf_RX0_9 C hp1 dX0_become_2 ?_
  refine pf_RX0_9 C hi0 dX0_become_5 ?_
  refine jAloadn C dX0_become_8 rfl 0 rfl ?_
  refine jAloadn C dX0_become_9 rfl 1 rfl ?_
  refine gf_RX0_15 C hp1 dX0_become_10 ?_
  refine pf_RX0_15 C hi0 dX0_become_13 ?_
  refine jAloadn C dX0_become_16 rfl 0 rfl ?_
  refine jAloadn C dX0_become_17 rfl 1 rfl ?_
  refine gf_RX0_19 C hp1 dX0_become_18 ?_
  refine pf_RX0_19 C hi0 dX0_become_21 ?_
  cases hf
  exact jEndV C hQ rfl dX0_become_24
noncomputable def X0_clear (cP : Nat → Int32) (cLo : Nat → Int64) (cHi : Nat → Int64) (i0 : Nat) (p1 : Int32) : Option ((Nat → Int32) × (Nat → Int64) × (Nat → Int64)) := some ((va_up cP i0 p1), (va_up cLo i0 (0 : Int64)), (va_up cHi i0 (0 : Int64)))
set_option maxHeartbeats 4000000 in
set_option maxRecDepth 20000 in
theorem X0_clear_ok {i0 : Nat} {p1 : Int32} {ocP : Nat → Int32} {ocLo : Nat → Int64} {ocHi : Nat → Int64} (hi0 : i0 < 28) (hf : X0_clear cP cLo cHi i0 p1 = some (ocP, ocLo, ocHi)) : MT yX0_clear cX0_clear 2 none 0 [.ref (g i0), .int p1] D cy G (cw g cy cP cLo cHi cpl ctb ctl ctf ctp ctk cts cth cob col cso cha chs cbe ctr cgl cgh cll clh cta cme cps cwh cal cah) (cw g cy ocP ocLo ocHi cpl ctb ctl ctf ctp ctk cts cth cob col cso cha chs cbe ctr cgl cgh cll clh cta cme cps cwh cal cah) none := by
  refine MT.go (own := RX0) [(0, .ref (g i0)), (1, .int p1)] (by decide) rfl (Nat.le_of_ble_eq_true rfl) rfl (fun p l e s m args below meth c A Q C hQ => ?_)
  unfold X0_clear at hf
  refine jAloadn C dX0_clear_0 rfl 0 rfl ?_
  refine jIloadn C dX0_clear_1 rfl 1 rfl ?_
  refine pf_RX0_9 C hi0 dX0_clear_2 ?_
  refine jAloadn C dX0_clear_5 rfl 0 rfl ?_
  refine jLconst C (0 : Int64) dX0_clear_6 rfl ?_
  refine pf_RX0_15 C hi0 dX0_clear_7 ?_
  refine jAloadn C dX0_clear_10 rfl 0 rfl ?_
  refine jLconst C (0 : Int64) dX0_clear_11 rfl ?_
  refine pf_RX0_19 C hi0 dX0_clear_12 ?_
  cases hf
  exact jEndV C hQ rfl dX0_clear_15
noncomputable def X0_fill (cP : Nat → Int32) (cLo : Nat → Int64) (cHi : Nat → Int64) (i0 : Nat) (p1 : Int32) : Option ((Nat → Int32) × (Nat → Int64) × (Nat → Int64)) := (if (6 : Int32) ≤ p1 then (if p1 ≤ (6 : Int32) then some ((va_up cP i0 p1), (va_up cLo i0 (-1 : Int64)), (va_up cHi i0 (0 : Int64))) else some ((va_up cP i0 p1), (va_up cLo i0 (-1 : Int64)), (va_up cHi i0 (-1 : Int64)))) else (if p1 ≤ (6 : Int32) then some ((va_up cP i0 p1), (va_up cLo i0 (((1 : Int64) <<< (((1 : Int32) <<< (p1 &&& 31)).toInt64 &&& 63)) - (1 : Int64))), (va_up cHi i0 (0 : Int64))) else some ((va_up cP i0 p1), (va_up cLo i0 (((1 : Int64) <<< (((1 : Int32) <<< (p1 &&& 31)).toInt64 &&& 63)) - (1 : Int64))), (va_up cHi i0 (-1 : Int64)))))
set_option maxHeartbeats 4000000 in
set_option maxRecDepth 20000 in
theorem X0_fill_ok {i0 : Nat} {p1 : Int32} {ocP : Nat → Int32} {ocLo : Nat → Int64} {ocHi : Nat → Int64} (hi0 : i0 < 28) (hf : X0_fill cP cLo cHi i0 p1 = some (ocP, ocLo, ocHi)) : MT yX0_fill cX0_fill 2 none 0 [.ref (g i0), .int p1] D cy G (cw g cy cP cLo cHi cpl ctb ctl ctf ctp ctk cts cth cob col cso cha chs cbe ctr cgl cgh cll clh cta cme cps cwh cal cah) (cw g cy ocP ocLo ocHi cpl ctb ctl ctf ctp ctk cts cth cob col cso cha chs cbe ctr cgl cgh cll clh cta cme cps cwh cal cah) none := by
  refine MT.go (own := RX0) [(0, .ref (g i0)), (1, .int p1)] (by decide) rfl (Nat.le_of_ble_eq_true rfl) rfl (fun p l e s m args below meth c A Q C hQ => ?_)
  unfold X0_fill at hf
  refine jAloadn C dX0_fill_0 rfl 0 rfl ?_
  refine jIloadn C dX0_fill_1 rfl 1 rfl ?_
  refine pf_RX0_9 C hi0 dX0_fill_2 ?_
  refine jAloadn C dX0_fill_5 rfl 0 rfl ?_
  refine jIloadn C dX0_fill_6 rfl 1 rfl ?_
  refine jBipush C (6 : Int32) dX0_fill_7 kb_6 ?_
  refine jCmpGe C 22 dX0_fill_9 (by decide) (fun c1 => ?_) (fun c1 => ?_)
  · replace hf := itp hf c1
    refine jLdc2 C (x := (-1 : Int64)) lk_RX0_57 dX0_fill_22 ?_
    refine pf_RX0_15 C hi0 dX0_fill_25 ?_
    refine jAloadn C dX0_fill_28 rfl 0 rfl ?_
    refine jIloadn C dX0_fill_29 rfl 1 rfl ?_
    refine jBipush C (6 : Int32) dX0_fill_30 kb_6 ?_
    refine jCmpLe C 41 dX0_fill_32 (by decide) (fun c2 => ?_) (fun c2 => ?_)
    · replace hf := itp hf c2
      refine jLconst C (0 : Int64) dX0_fill_41 rfl ?_
      refine pf_RX0_19 C hi0 dX0_fill_42 ?_
      cases hf
      exact jEndV C hQ rfl dX0_fill_45
    · replace hf := itn hf c2
      refine jLdc2 C (x := (-1 : Int64)) lk_RX0_57 dX0_fill_35 ?_
      refine jGoto C 42 dX0_fill_38 (by decide) ?_
      refine pf_RX0_19 C hi0 dX0_fill_42 ?_
      cases hf
      exact jEndV C hQ rfl dX0_fill_45
  · replace hf := itn hf c1
    refine jLconst C (1 : Int64) dX0_fill_12 rfl ?_
    refine jIconst C (1 : Int32) dX0_fill_13 ki_1 ?_
    refine jIloadn C dX0_fill_14 rfl 1 rfl ?_
    refine jIshl C dX0_fill_15 ?_
    refine jLshl C dX0_fill_16 ?_
    refine jLconst C (1 : Int64) dX0_fill_17 rfl ?_
    refine jLsub C dX0_fill_18 ?_
    refine jGoto C 25 dX0_fill_19 (by decide) ?_
    refine pf_RX0_15 C hi0 dX0_fill_25 ?_
    refine jAloadn C dX0_fill_28 rfl 0 rfl ?_
    refine jIloadn C dX0_fill_29 rfl 1 rfl ?_
    refine jBipush C (6 : Int32) dX0_fill_30 kb_6 ?_
    refine jCmpLe C 41 dX0_fill_32 (by decide) (fun c3 => ?_) (fun c3 => ?_)
    · replace hf := itp hf c3
      refine jLconst C (0 : Int64) dX0_fill_41 rfl ?_
      refine pf_RX0_19 C hi0 dX0_fill_42 ?_
      cases hf
      exact jEndV C hQ rfl dX0_fill_45
    · replace hf := itn hf c3
      refine jLdc2 C (x := (-1 : Int64)) lk_RX0_57 dX0_fill_35 ?_
      refine jGoto C 42 dX0_fill_38 (by decide) ?_
      refine pf_RX0_19 C hi0 dX0_fill_42 ?_
      cases hf
      exact jEndV C hQ rfl dX0_fill_45
noncomputable def X0_put_j25 (p1 : Int32) (cLo : Nat → Int64) (cHi : Nat → Int64) (i0 : Nat)  : Option ((Nat → Int64) × (Nat → Int64)) := (if p1 < (64 : Int32) then some (cLo, cHi) else (if (128 : Int32) ≤ p1 then some (cLo, cHi) else some (cLo, (va_up cHi i0 ((cHi i0) ||| ((1 : Int64) <<< ((p1 - (64 : Int32)).toInt64 &&& 63)))))))
noncomputable def X0_put (cLo : Nat → Int64) (cHi : Nat → Int64) (i0 : Nat) (p1 : Int32) : Option ((Nat → Int64) × (Nat → Int64)) := (if p1 < (0 : Int32) then X0_put_j25 p1 cLo cHi i0 else (if (64 : Int32) ≤ p1 then X0_put_j25 p1 cLo cHi i0 else some ((va_up cLo i0 ((cLo i0) ||| ((1 : Int64) <<< (p1.toInt64 &&& 63)))), cHi)))
set_option maxHeartbeats 4000000 in
set_option maxRecDepth 20000 in
theorem X0_put_ok {i0 : Nat} {p1 : Int32} {ocLo : Nat → Int64} {ocHi : Nat → Int64} (hi0 : i0 < 28) (hf : X0_put cLo cHi i0 p1 = some (ocLo, ocHi)) : MT yX0_put cX0_put 2 none 0 [.ref (g i0), .int p1] D cy G (cw g cy cP cLo cHi cpl ctb ctl ctf ctp ctk cts cth cob col cso cha chs cbe ctr cgl cgh cll clh cta cme cps cwh cal cah) (cw g cy cP ocLo ocHi cpl ctb ctl ctf ctp ctk cts cth cob col cso cha chs cbe ctr cgl cgh cll clh cta cme cps cwh cal cah) none := by
  refine MT.go (own := RX0) [(0, .ref (g i0)), (1, .int p1)] (by decide) rfl (Nat.le_of_ble_eq_true rfl) rfl (fun p l e s m args below meth c A Q C hQ => ?_)
  unfold X0_put at hf
  refine jIloadn C dX0_put_0 rfl 1 rfl ?_
  have hL1 : X0_put_j25 p1 cLo cHi i0  = some (ocLo, ocHi) → J p l e (rmk 0) s m args below meth c D A Q 2 (cw g cy cP cLo cHi cpl ctb ctl ctf ctp ctk cts cth cob col cso cha chs cbe ctr cgl cgh cll clh cta cme cps cwh cal cah) 25 [(0, .ref (g i0)), (1, .int p1)] [] := by
    intro  hf
    unfold X0_put_j25 at hf
    refine jIloadn C dX0_put_25 rfl 1 rfl ?_
    refine jBipush C (64 : Int32) dX0_put_26 kb_64 ?_
    refine jCmpLt C 53 dX0_put_28 (by decide) (fun c2 => ?_) (fun c2 => ?_)
    · replace hf := itp hf c2
      cases hf
      exact jEndV C hQ rfl dX0_put_53
    · replace hf := itn hf c2
      refine jIloadn C dX0_put_31 rfl 1 rfl ?_
      refine jSipush C (128 : Int32) dX0_put_32 ks_128 ?_
      refine jCmpGe C 53 dX0_put_35 (by decide) (fun c3 => ?_) (fun c3 => ?_)
      · replace hf := itp hf c3
        cases hf
        exact jEndV C hQ rfl dX0_put_53
      · replace hf := itn hf c3
        refine jAloadn C dX0_put_38 rfl 0 rfl ?_
        refine jDup C dX0_put_39 rfl ?_
        refine gf_RX0_19 C hi0 dX0_put_40 ?_
        refine jLconst C (1 : Int64) dX0_put_43 rfl ?_
        refine jIloadn C dX0_put_44 rfl 1 rfl ?_
        refine jBipush C (64 : Int32) dX0_put_45 kb_64 ?_
        refine jIsub C dX0_put_47 ?_
        refine jLshl C dX0_put_48 ?_
        refine jLor C dX0_put_49 ?_
        refine pf_RX0_19 C hi0 dX0_put_50 ?_
        cases hf
        exact jEndV C hQ rfl dX0_put_53
  refine jIfLt C 25 dX0_put_1 (by decide) (fun c4 => ?_) (fun c4 => ?_)
  · replace hf := itp hf c4
    exact hL1  hf
  · replace hf := itn hf c4
    refine jIloadn C dX0_put_4 rfl 1 rfl ?_
    refine jBipush C (64 : Int32) dX0_put_5 kb_64 ?_
    refine jCmpGe C 25 dX0_put_7 (by decide) (fun c5 => ?_) (fun c5 => ?_)
    · replace hf := itp hf c5
      exact hL1  hf
    · replace hf := itn hf c5
      refine jAloadn C dX0_put_10 rfl 0 rfl ?_
      refine jDup C dX0_put_11 rfl ?_
      refine gf_RX0_15 C hi0 dX0_put_12 ?_
      refine jLconst C (1 : Int64) dX0_put_15 rfl ?_
      refine jIloadn C dX0_put_16 rfl 1 rfl ?_
      refine jLshl C dX0_put_17 ?_
      refine jLor C dX0_put_18 ?_
      refine pf_RX0_15 C hi0 dX0_put_19 ?_
      refine jGoto C 53 dX0_put_22 (by decide) ?_
      cases hf
      exact jEndV C hQ rfl dX0_put_53
noncomputable def X0_remove_j29 (p1 : Int32) (cLo : Nat → Int64) (cHi : Nat → Int64) (i0 : Nat)  : Option ((Nat → Int64) × (Nat → Int64)) := (if p1 < (64 : Int32) then some (cLo, cHi) else (if (128 : Int32) ≤ p1 then some (cLo, cHi) else some (cLo, (va_up cHi i0 ((cHi i0) &&& (((1 : Int64) <<< ((p1 - (64 : Int32)).toInt64 &&& 63)) ^^^ (-1 : Int64)))))))
noncomputable def X0_remove (cLo : Nat → Int64) (cHi : Nat → Int64) (i0 : Nat) (p1 : Int32) : Option ((Nat → Int64) × (Nat → Int64)) := (if p1 < (0 : Int32) then X0_remove_j29 p1 cLo cHi i0 else (if (64 : Int32) ≤ p1 then X0_remove_j29 p1 cLo cHi i0 else some ((va_up cLo i0 ((cLo i0) &&& (((1 : Int64) <<< (p1.toInt64 &&& 63)) ^^^ (-1 : Int64)))), cHi)))
set_option maxHeartbeats 4000000 in
set_option maxRecDepth 20000 in
theorem X0_remove_ok {i0 : Nat} {p1 : Int32} {ocLo : Nat → Int64} {ocHi : Nat → Int64} (hi0 : i0 < 28) (hf : X0_remove cLo cHi i0 p1 = some (ocLo, ocHi)) : MT yX0_remove cX0_remove 2 none 0 [.ref (g i0), .int p1] D cy G (cw g cy cP cLo cHi cpl ctb ctl ctf ctp ctk cts cth cob col cso cha chs cbe ctr cgl cgh cll clh cta cme cps cwh cal cah) (cw g cy cP ocLo ocHi cpl ctb ctl ctf ctp ctk cts cth cob col cso cha chs cbe ctr cgl cgh cll clh cta cme cps cwh cal cah) none := by
  refine MT.go (own := RX0) [(0, .ref (g i0)), (1, .int p1)] (by decide) rfl (Nat.le_of_ble_eq_true rfl) rfl (fun p l e s m args below meth c A Q C hQ => ?_)
  unfold X0_remove at hf
  refine jIloadn C dX0_remove_0 rfl 1 rfl ?_
  have hL1 : X0_remove_j29 p1 cLo cHi i0  = some (ocLo, ocHi) → J p l e (rmk 0) s m args below meth c D A Q 2 (cw g cy cP cLo cHi cpl ctb ctl ctf ctp ctk cts cth cob col cso cha chs cbe ctr cgl cgh cll clh cta cme cps cwh cal cah) 29 [(0, .ref (g i0)), (1, .int p1)] [] := by
    intro  hf
    unfold X0_remove_j29 at hf
    refine jIloadn C dX0_remove_29 rfl 1 rfl ?_
    refine jBipush C (64 : Int32) dX0_remove_30 kb_64 ?_
    refine jCmpLt C 61 dX0_remove_32 (by decide) (fun c2 => ?_) (fun c2 => ?_)
    · replace hf := itp hf c2
      cases hf
      exact jEndV C hQ rfl dX0_remove_61
    · replace hf := itn hf c2
      refine jIloadn C dX0_remove_35 rfl 1 rfl ?_
      refine jSipush C (128 : Int32) dX0_remove_36 ks_128 ?_
      refine jCmpGe C 61 dX0_remove_39 (by decide) (fun c3 => ?_) (fun c3 => ?_)
      · replace hf := itp hf c3
        cases hf
        exact jEndV C hQ rfl dX0_remove_61
      · replace hf := itn hf c3
        refine jAloadn C dX0_remove_42 rfl 0 rfl ?_
        refine jDup C dX0_remove_43 rfl ?_
        refine gf_RX0_19 C hi0 dX0_remove_44 ?_
        refine jLconst C (1 : Int64) dX0_remove_47 rfl ?_
        refine jIloadn C dX0_remove_48 rfl 1 rfl ?_
        refine jBipush C (64 : Int32) dX0_remove_49 kb_64 ?_
        refine jIsub C dX0_remove_51 ?_
        refine jLshl C dX0_remove_52 ?_
        refine jLdc2 C (x := (-1 : Int64)) lk_RX0_57 dX0_remove_53 ?_
        refine jLxor C dX0_remove_56 ?_
        refine jLand C dX0_remove_57 ?_
        refine pf_RX0_19 C hi0 dX0_remove_58 ?_
        cases hf
        exact jEndV C hQ rfl dX0_remove_61
  refine jIfLt C 29 dX0_remove_1 (by decide) (fun c4 => ?_) (fun c4 => ?_)
  · replace hf := itp hf c4
    exact hL1  hf
  · replace hf := itn hf c4
    refine jIloadn C dX0_remove_4 rfl 1 rfl ?_
    refine jBipush C (64 : Int32) dX0_remove_5 kb_64 ?_
    refine jCmpGe C 29 dX0_remove_7 (by decide) (fun c5 => ?_) (fun c5 => ?_)
    · replace hf := itp hf c5
      exact hL1  hf
    · replace hf := itn hf c5
      refine jAloadn C dX0_remove_10 rfl 0 rfl ?_
      refine jDup C dX0_remove_11 rfl ?_
      refine gf_RX0_15 C hi0 dX0_remove_12 ?_
      refine jLconst C (1 : Int64) dX0_remove_15 rfl ?_
      refine jIloadn C dX0_remove_16 rfl 1 rfl ?_
      refine jLshl C dX0_remove_17 ?_
      refine jLdc2 C (x := (-1 : Int64)) lk_RX0_57 dX0_remove_18 ?_
      refine jLxor C dX0_remove_21 ?_
      refine jLand C dX0_remove_22 ?_
      refine pf_RX0_15 C hi0 dX0_remove_23 ?_
      refine jGoto C 61 dX0_remove_26 (by decide) ?_
      cases hf
      exact jEndV C hQ rfl dX0_remove_61
noncomputable def X0_join (cLo : Nat → Int64) (cHi : Nat → Int64) (i0 : Nat) (p1 : Nat) : Option ((Nat → Int64) × (Nat → Int64)) := some ((va_up cLo i0 ((cLo i0) ||| (cLo p1))), (va_up cHi i0 ((cHi i0) ||| (cHi p1))))
set_option maxHeartbeats 4000000 in
set_option maxRecDepth 20000 in
theorem X0_join_ok {i0 : Nat} {p1 : Nat} {ocLo : Nat → Int64} {ocHi : Nat → Int64} (hi0 : i0 < 28) (hp1 : p1 < 28) (hf : X0_join cLo cHi i0 p1 = some (ocLo, ocHi)) : MT yX0_join cX0_join 2 none 0 [.ref (g i0), .ref (g p1)] D cy G (cw g cy cP cLo cHi cpl ctb ctl ctf ctp ctk cts cth cob col cso cha chs cbe ctr cgl cgh cll clh cta cme cps cwh cal cah) (cw g cy cP ocLo ocHi cpl ctb ctl ctf ctp ctk cts cth cob col cso cha chs cbe ctr cgl cgh cll clh cta cme cps cwh cal cah) none := by
  refine MT.go (own := RX0) [(0, .ref (g i0)), (1, .ref (g p1))] (by decide) rfl (Nat.le_of_ble_eq_true rfl) rfl (fun p l e s m args below meth c A Q C hQ => ?_)
  unfold X0_join at hf
  refine jAloadn C dX0_join_0 rfl 0 rfl ?_
  refine jDup C dX0_join_1 rfl ?_
  refine gf_RX0_15 C hi0 dX0_join_2 ?_
  refine jAloadn C dX0_join_5 rfl 1 rfl ?_
  refine gf_RX0_15 C hp1 dX0_join_6 ?_
  refine jLor C dX0_join_9 ?_
  refine pf_RX0_15 C hi0 dX0_join_10 ?_
  refine jAloadn C dX0_join_13 rfl 0 rfl ?_
  refine jDup C dX0_join_14 rfl ?_
  refine gf_RX0_19 C hi0 dX0_join_15 ?_
  refine jAloadn C dX0_join_18 rfl 1 rfl ?_
  refine gf_RX0_19 C hp1 dX0_join_19 ?_
  refine jLor C dX0_join_22 ?_
  refine pf_RX0_19 C hi0 dX0_join_23 ?_
  cases hf
  exact jEndV C hQ rfl dX0_join_26
noncomputable def X0_keep (cLo : Nat → Int64) (cHi : Nat → Int64) (i0 : Nat) (p1 : Nat) : Option ((Nat → Int64) × (Nat → Int64)) := some ((va_up cLo i0 ((cLo i0) &&& (cLo p1))), (va_up cHi i0 ((cHi i0) &&& (cHi p1))))
set_option maxHeartbeats 4000000 in
set_option maxRecDepth 20000 in
theorem X0_keep_ok {i0 : Nat} {p1 : Nat} {ocLo : Nat → Int64} {ocHi : Nat → Int64} (hi0 : i0 < 28) (hp1 : p1 < 28) (hf : X0_keep cLo cHi i0 p1 = some (ocLo, ocHi)) : MT yX0_keep cX0_keep 2 none 0 [.ref (g i0), .ref (g p1)] D cy G (cw g cy cP cLo cHi cpl ctb ctl ctf ctp ctk cts cth cob col cso cha chs cbe ctr cgl cgh cll clh cta cme cps cwh cal cah) (cw g cy cP ocLo ocHi cpl ctb ctl ctf ctp ctk cts cth cob col cso cha chs cbe ctr cgl cgh cll clh cta cme cps cwh cal cah) none := by
  refine MT.go (own := RX0) [(0, .ref (g i0)), (1, .ref (g p1))] (by decide) rfl (Nat.le_of_ble_eq_true rfl) rfl (fun p l e s m args below meth c A Q C hQ => ?_)
  unfold X0_keep at hf
  refine jAloadn C dX0_keep_0 rfl 0 rfl ?_
  refine jDup C dX0_keep_1 rfl ?_
  refine gf_RX0_15 C hi0 dX0_keep_2 ?_
  refine jAloadn C dX0_keep_5 rfl 1 rfl ?_
  refine gf_RX0_15 C hp1 dX0_keep_6 ?_
  refine jLand C dX0_keep_9 ?_
  refine pf_RX0_15 C hi0 dX0_keep_10 ?_
  refine jAloadn C dX0_keep_13 rfl 0 rfl ?_
  refine jDup C dX0_keep_14 rfl ?_
  refine gf_RX0_19 C hi0 dX0_keep_15 ?_
  refine jAloadn C dX0_keep_18 rfl 1 rfl ?_
  refine gf_RX0_19 C hp1 dX0_keep_19 ?_
  refine jLand C dX0_keep_22 ?_
  refine pf_RX0_19 C hi0 dX0_keep_23 ?_
  cases hf
  exact jEndV C hQ rfl dX0_keep_26
noncomputable def X0_lose (cLo : Nat → Int64) (cHi : Nat → Int64) (i0 : Nat) (p1 : Nat) : Option ((Nat → Int64) × (Nat → Int64)) := some ((va_up cLo i0 ((cLo i0) &&& ((cLo p1) ^^^ (-1 : Int64)))), (va_up cHi i0 ((cHi i0) &&& ((cHi p1) ^^^ (-1 : Int64)))))
set_option maxHeartbeats 4000000 in
set_option maxRecDepth 20000 in
theorem X0_lose_ok {i0 : Nat} {p1 : Nat} {ocLo : Nat → Int64} {ocHi : Nat → Int64} (hi0 : i0 < 28) (hp1 : p1 < 28) (hf : X0_lose cLo cHi i0 p1 = some (ocLo, ocHi)) : MT yX0_lose cX0_lose 2 none 0 [.ref (g i0), .ref (g p1)] D cy G (cw g cy cP cLo cHi cpl ctb ctl ctf ctp ctk cts cth cob col cso cha chs cbe ctr cgl cgh cll clh cta cme cps cwh cal cah) (cw g cy cP ocLo ocHi cpl ctb ctl ctf ctp ctk cts cth cob col cso cha chs cbe ctr cgl cgh cll clh cta cme cps cwh cal cah) none := by
  refine MT.go (own := RX0) [(0, .ref (g i0)), (1, .ref (g p1))] (by decide) rfl (Nat.le_of_ble_eq_true rfl) rfl (fun p l e s m args below meth c A Q C hQ => ?_)
  unfold X0_lose at hf
  refine jAloadn C dX0_lose_0 rfl 0 rfl ?_
  refine jAloadn C dX0_lose_1 rfl 0 rfl ?_
  refine gf_RX0_15 C hi0 dX0_lose_2 ?_
  refine jAloadn C dX0_lose_5 rfl 1 rfl ?_
  refine gf_RX0_15 C hp1 dX0_lose_6 ?_
  refine jLdc2 C (x := (-1 : Int64)) lk_RX0_57 dX0_lose_9 ?_
  refine jLxor C dX0_lose_12 ?_
  refine jLand C dX0_lose_13 ?_
  refine pf_RX0_15 C hi0 dX0_lose_14 ?_
  refine jAloadn C dX0_lose_17 rfl 0 rfl ?_
  refine jAloadn C dX0_lose_18 rfl 0 rfl ?_
  refine gf_RX0_19 C hi0 dX0_lose_19 ?_
  refine jAloadn C dX0_lose_22 rfl 1 rfl ?_
  refine gf_RX0_19 C hp1 dX0_lose_23 ?_
  refine jLdc2 C (x := (-1 : Int64)) lk_RX0_57 dX0_lose_26 ?_
  refine jLxor C dX0_lose_29 ?_
  refine jLand C dX0_lose_30 ?_
  refine pf_RX0_19 C hi0 dX0_lose_31 ?_
  cases hf
  exact jEndV C hQ rfl dX0_lose_34
noncomputable def X0_keepWith (cLo : Nat → Int64) (cHi : Nat → Int64) (i0 : Nat) (p1 : Int32) : Option ((Nat → Int64) × (Nat → Int64)) := gin p1 7 (gin p1 7 (some ((va_up cLo i0 ((cLo i0) &&& (loW p1.toNatClampNeg))), (va_up cHi i0 ((cHi i0) &&& (hiW p1.toNatClampNeg))))))
set_option maxHeartbeats 4000000 in
set_option maxRecDepth 20000 in
theorem X0_keepWith_ok {i0 : Nat} {p1 : Int32} {ocLo : Nat → Int64} {ocHi : Nat → Int64} (hi0 : i0 < 28) (hf : X0_keepWith cLo cHi i0 p1 = some (ocLo, ocHi)) : MT yX0_keepWith cX0_keepWith 2 none 0 [.ref (g i0), .int p1] D cy G (cw g cy cP cLo cHi cpl ctb ctl ctf ctp ctk cts cth cob col cso cha chs cbe ctr cgl cgh cll clh cta cme cps cwh cal cah) (cw g cy cP ocLo ocHi cpl ctb ctl ctf ctp ctk cts cth cob col cso cha chs cbe ctr cgl cgh cll clh cta cme cps cwh cal cah) none := by
  refine MT.go (own := RX0) [(0, .ref (g i0)), (1, .int p1)] (by decide) rfl (Nat.le_of_ble_eq_true rfl) rfl (fun p l e s m args below meth c A Q C hQ => ?_)
  unfold X0_keepWith at hf
  refine jAloadn C dX0_keepWith_0 rfl 0 rfl ?_
  refine jDup C dX0_keepWith_1 rfl ?_
  refine gf_RX0_15 C hi0 dX0_keepWith_2 ?_
  refine gs_RX0_41 C dX0_keepWith_5 ?_
  refine jIloadn C dX0_keepWith_8 rfl 1 rfl ?_
  obtain ⟨z1, hf⟩ := gin_some hf
  refine tl_lo C z1 dX0_keepWith_9 ?_
  refine jLand C dX0_keepWith_10 ?_
  refine pf_RX0_15 C hi0 dX0_keepWith_11 ?_
  refine jAloadn C dX0_keepWith_14 rfl 0 rfl ?_
  refine jDup C dX0_keepWith_15 rfl ?_
  refine gf_RX0_19 C hi0 dX0_keepWith_16 ?_
  refine gs_RX0_45 C dX0_keepWith_19 ?_
  refine jIloadn C dX0_keepWith_22 rfl 1 rfl ?_
  obtain ⟨z2, hf⟩ := gin_some hf
  refine tl_hi C z2 dX0_keepWith_23 ?_
  refine jLand C dX0_keepWith_24 ?_
  refine pf_RX0_19 C hi0 dX0_keepWith_25 ?_
  cases hf
  exact jEndV C hQ rfl dX0_keepWith_28
noncomputable def X0_keepLacking (cLo : Nat → Int64) (cHi : Nat → Int64) (i0 : Nat) (p1 : Int32) : Option ((Nat → Int64) × (Nat → Int64)) := gin p1 7 (gin p1 7 (some ((va_up cLo i0 ((cLo i0) &&& ((loW p1.toNatClampNeg) ^^^ (-1 : Int64)))), (va_up cHi i0 ((cHi i0) &&& ((hiW p1.toNatClampNeg) ^^^ (-1 : Int64)))))))
set_option maxHeartbeats 4000000 in
set_option maxRecDepth 20000 in
theorem X0_keepLacking_ok {i0 : Nat} {p1 : Int32} {ocLo : Nat → Int64} {ocHi : Nat → Int64} (hi0 : i0 < 28) (hf : X0_keepLacking cLo cHi i0 p1 = some (ocLo, ocHi)) : MT yX0_keepLacking cX0_keepLacking 2 none 0 [.ref (g i0), .int p1] D cy G (cw g cy cP cLo cHi cpl ctb ctl ctf ctp ctk cts cth cob col cso cha chs cbe ctr cgl cgh cll clh cta cme cps cwh cal cah) (cw g cy cP ocLo ocHi cpl ctb ctl ctf ctp ctk cts cth cob col cso cha chs cbe ctr cgl cgh cll clh cta cme cps cwh cal cah) none := by
  refine MT.go (own := RX0) [(0, .ref (g i0)), (1, .int p1)] (by decide) rfl (Nat.le_of_ble_eq_true rfl) rfl (fun p l e s m args below meth c A Q C hQ => ?_)
  unfold X0_keepLacking at hf
  refine jAloadn C dX0_keepLacking_0 rfl 0 rfl ?_
  refine jDup C dX0_keepLacking_1 rfl ?_
  refine gf_RX0_15 C hi0 dX0_keepLacking_2 ?_
  refine gs_RX0_41 C dX0_keepLacking_5 ?_
  refine jIloadn C dX0_keepLacking_8 rfl 1 rfl ?_
  obtain ⟨z1, hf⟩ := gin_some hf
  refine tl_lo C z1 dX0_keepLacking_9 ?_
  refine jLdc2 C (x := (-1 : Int64)) lk_RX0_57 dX0_keepLacking_10 ?_
  refine jLxor C dX0_keepLacking_13 ?_
  refine jLand C dX0_keepLacking_14 ?_
  refine pf_RX0_15 C hi0 dX0_keepLacking_15 ?_
  refine jAloadn C dX0_keepLacking_18 rfl 0 rfl ?_
  refine jDup C dX0_keepLacking_19 rfl ?_
  refine gf_RX0_19 C hi0 dX0_keepLacking_20 ?_
  refine gs_RX0_45 C dX0_keepLacking_23 ?_
  refine jIloadn C dX0_keepLacking_26 rfl 1 rfl ?_
  obtain ⟨z2, hf⟩ := gin_some hf
  refine tl_hi C z2 dX0_keepLacking_27 ?_
  refine jLdc2 C (x := (-1 : Int64)) lk_RX0_57 dX0_keepLacking_28 ?_
  refine jLxor C dX0_keepLacking_31 ?_
  refine jLand C dX0_keepLacking_32 ?_
  refine pf_RX0_19 C hi0 dX0_keepLacking_33 ?_
  cases hf
  exact jEndV C hQ rfl dX0_keepLacking_36
noncomputable def X0_keepSharing_h2 (p1 : Int32) (p2 : Int32) (i0 : Nat) (r5 : Int32 → (Nat → Int64) → (Nat → Int64) → Option ((Nat → Int64) × (Nat → Int64))) (x3_1 : Int32) (cLo_2 : Nat → Int64) (cHi_3 : Nat → Int64) : Option ((Nat → Int64) × (Nat → Int64)) := (if (6 : Int32) < x3_1 then some (cLo_2, cHi_3) else (if ((p1 >>> (x3_1 &&& 31)) &&& (1 : Int32)) = (0 : Int32) then r5 (x3_1 + (1 : Int32)) cLo_2 cHi_3 else (if ((p2 >>> (x3_1 &&& 31)) &&& (1 : Int32)) = (1 : Int32) then bd2 (X0_keepWith cLo_2 cHi_3 i0 x3_1) (fun cLo_12 cHi_13 => r5 (x3_1 + (1 : Int32)) cLo_12 cHi_13) else bd2 (X0_keepLacking cLo_2 cHi_3 i0 x3_1) (fun cLo_9 cHi_10 => r5 (x3_1 + (1 : Int32)) cLo_9 cHi_10))))
noncomputable def X0_keepSharing (cLo : Nat → Int64) (cHi : Nat → Int64) (i0 : Nat) (p1 : Int32) (p2 : Int32) : Option ((Nat → Int64) × (Nat → Int64)) := lfp3 (X0_keepSharing_h2 p1 p2 i0) (0 : Int32) cLo cHi
set_option maxHeartbeats 4000000 in
set_option maxRecDepth 20000 in
theorem X0_keepSharing_ok {i0 : Nat} {p1 : Int32} {p2 : Int32} {ocLo : Nat → Int64} {ocHi : Nat → Int64} (hi0 : i0 < 28) (hf : X0_keepSharing cLo cHi i0 p1 p2 = some (ocLo, ocHi)) : MT yX0_keepSharing cX0_keepSharing 4 none 1 [.ref (g i0), .int p1, .int p2] D cy G (cw g cy cP cLo cHi cpl ctb ctl ctf ctp ctk cts cth cob col cso cha chs cbe ctr cgl cgh cll clh cta cme cps cwh cal cah) (cw g cy cP ocLo ocHi cpl ctb ctl ctf ctp ctk cts cth cob col cso cha chs cbe ctr cgl cgh cll clh cta cme cps cwh cal cah) none := by
  refine MT.go (own := RX0) [(0, .ref (g i0)), (1, .int p1), (2, .int p2)] (by decide) rfl (Nat.le_of_ble_eq_true rfl) rfl (fun p l e s m args below meth c A Q C hQ => ?_)
  unfold X0_keepSharing at hf
  refine jIconst C (0 : Int32) dX0_keepSharing_0 ki_0 ?_
  refine jIstoren C dX0_keepSharing_1 rfl (Nat.le_of_ble_eq_true rfl) [(3, .int (0 : Int32)), (0, .ref (g i0)), (1, .int p1), (2, .int p2)] rfl ?_
  have hL4 : ∀ (x3_1 : Int32) (cLo_2 : Nat → Int64) (cHi_3 : Nat → Int64), lfp3 (X0_keepSharing_h2 p1 p2 i0) x3_1 cLo_2 cHi_3 = some (ocLo, ocHi) → J p l e (rmk 1) s m args below meth c D A Q 4 (cw g cy cP cLo_2 cHi_3 cpl ctb ctl ctf ctp ctk cts cth cob col cso cha chs cbe ctr cgl cgh cll clh cta cme cps cwh cal cah) 2 [(0, .ref (g i0)), (1, .int p1), (2, .int p2), (3, .int x3_1)] [] := by
    intro x3_1 cLo_2 cHi_3 hw
    refine lfp3_walk (P := fun x3_1 cLo_2 cHi_3 => J p l e (rmk 1) s m args below meth c D A Q 4 (cw g cy cP cLo_2 cHi_3 cpl ctb ctl ctf ctp ctk cts cth cob col cso cha chs cbe ctr cgl cgh cll clh cta cme cps cwh cal cah) 2 [(0, .ref (g i0)), (1, .int p1), (2, .int p2), (3, .int x3_1)] []) ?_ hw
    intro r5 ir5 x3_1 cLo_2 cHi_3 hf
    unfold X0_keepSharing_h2 at hf
    refine jIloadn C dX0_keepSharing_2 rfl 3 rfl ?_
    refine jBipush C (6 : Int32) dX0_keepSharing_3 kb_6 ?_
    refine jCmpGt C 47 dX0_keepSharing_5 (by decide) (fun c6 => ?_) (fun c6 => ?_)
    · replace hf := itp hf c6
      cases hf
      exact jEndV C hQ rfl dX0_keepSharing_47
    · replace hf := itn hf c6
      refine jIloadn C dX0_keepSharing_8 rfl 1 rfl ?_
      refine jIloadn C dX0_keepSharing_9 rfl 3 rfl ?_
      refine jIshr C dX0_keepSharing_10 ?_
      refine jIconst C (1 : Int32) dX0_keepSharing_11 ki_1 ?_
      refine jIand C dX0_keepSharing_12 ?_
      refine jIfNe C 19 dX0_keepSharing_13 (by decide) (fun c7 => ?_) (fun c7 => ?_)
      · replace hf := itn hf c7
        refine jIloadn C dX0_keepSharing_19 rfl 2 rfl ?_
        refine jIloadn C dX0_keepSharing_20 rfl 3 rfl ?_
        refine jIshr C dX0_keepSharing_21 ?_
        refine jIconst C (1 : Int32) dX0_keepSharing_22 ki_1 ?_
        refine jIand C dX0_keepSharing_23 ?_
        refine jIconst C (1 : Int32) dX0_keepSharing_24 ki_1 ?_
        refine jCmpNe C 36 dX0_keepSharing_25 (by decide) (fun c8 => ?_) (fun c8 => ?_)
        · replace hf := itn hf c8
          refine jAloadn C dX0_keepSharing_36 rfl 0 rfl ?_
          refine jIloadn C dX0_keepSharing_37 rfl 3 rfl ?_
          obtain ⟨cLo_9, cHi_10, e11, hf⟩ := bd2_some hf
          refine jVV C (X0_keepLacking_ok hi0 e11) vb_X0_keepLacking mk_RX0_63 rfl (rcF hi0) ⟨Nat.le_of_ble_eq_true rfl, Nat.le_of_ble_eq_true rfl⟩ rfl (Nat.le_of_ble_eq_true rfl) dX0_keepSharing_38 ?_
          refine jIinc C (x3_1 + (1 : Int32)) dX0_keepSharing_41 3 rfl (congrArg (fun z : Int32 => x3_1 + z) ki_1) (Nat.le_of_ble_eq_true rfl) [(3, .int (x3_1 + (1 : Int32))), (0, .ref (g i0)), (1, .int p1), (2, .int p2)] rfl ?_
          refine jGoto C 2 dX0_keepSharing_44 (by decide) ?_
          refine jSub [1, 2, 3, 0] rfl ?_
          exact ir5 (x3_1 + (1 : Int32)) cLo_9 cHi_10 hf
        · replace hf := itp hf c8
          refine jAloadn C dX0_keepSharing_28 rfl 0 rfl ?_
          refine jIloadn C dX0_keepSharing_29 rfl 3 rfl ?_
          obtain ⟨cLo_12, cHi_13, e14, hf⟩ := bd2_some hf
          refine jVV C (X0_keepWith_ok hi0 e14) vb_X0_keepWith mk_RX0_59 rfl (rcF hi0) ⟨Nat.le_of_ble_eq_true rfl, Nat.le_of_ble_eq_true rfl⟩ rfl (Nat.le_of_ble_eq_true rfl) dX0_keepSharing_30 ?_
          refine jGoto C 41 dX0_keepSharing_33 (by decide) ?_
          refine jIinc C (x3_1 + (1 : Int32)) dX0_keepSharing_41 3 rfl (congrArg (fun z : Int32 => x3_1 + z) ki_1) (Nat.le_of_ble_eq_true rfl) [(3, .int (x3_1 + (1 : Int32))), (0, .ref (g i0)), (1, .int p1), (2, .int p2)] rfl ?_
          refine jGoto C 2 dX0_keepSharing_44 (by decide) ?_
          refine jSub [1, 2, 3, 0] rfl ?_
          exact ir5 (x3_1 + (1 : Int32)) cLo_12 cHi_13 hf
      · replace hf := itp hf c7
        refine jGoto C 41 dX0_keepSharing_16 (by decide) ?_
        refine jIinc C (x3_1 + (1 : Int32)) dX0_keepSharing_41 3 rfl (congrArg (fun z : Int32 => x3_1 + z) ki_1) (Nat.le_of_ble_eq_true rfl) [(3, .int (x3_1 + (1 : Int32))), (0, .ref (g i0)), (1, .int p1), (2, .int p2)] rfl ?_
        refine jGoto C 2 dX0_keepSharing_44 (by decide) ?_
        refine jSub [1, 2, 3, 0] rfl ?_
        exact ir5 (x3_1 + (1 : Int32)) cLo_2 cHi_3 hf
  refine jSub [1, 2, 3, 0] rfl ?_
  exact hL4 (0 : Int32) cLo cHi hf
noncomputable def X0_keepBehind (cLo : Nat → Int64) (cHi : Nat → Int64) (i0 : Nat) (p1 : Int32) : Option ((Nat → Int64) × (Nat → Int64)) := (if (63 : Int32) ≤ p1 then (if p1 ≤ (63 : Int32) then some ((va_up cLo i0 (0 : Int64)), cHi) else (if (127 : Int32) ≤ p1 then some ((va_up cLo i0 (0 : Int64)), (va_up cHi i0 (0 : Int64))) else some ((va_up cLo i0 (0 : Int64)), (va_up cHi i0 ((cHi i0) &&& ((-1 : Int64) <<< ((p1 - (63 : Int32)).toInt64 &&& 63))))))) else some ((va_up cLo i0 ((cLo i0) &&& ((-1 : Int64) <<< ((p1 + (1 : Int32)).toInt64 &&& 63)))), cHi))
set_option maxHeartbeats 4000000 in
set_option maxRecDepth 20000 in
theorem X0_keepBehind_ok {i0 : Nat} {p1 : Int32} {ocLo : Nat → Int64} {ocHi : Nat → Int64} (hi0 : i0 < 28) (hf : X0_keepBehind cLo cHi i0 p1 = some (ocLo, ocHi)) : MT yX0_keepBehind cX0_keepBehind 2 none 0 [.ref (g i0), .int p1] D cy G (cw g cy cP cLo cHi cpl ctb ctl ctf ctp ctk cts cth cob col cso cha chs cbe ctr cgl cgh cll clh cta cme cps cwh cal cah) (cw g cy cP ocLo ocHi cpl ctb ctl ctf ctp ctk cts cth cob col cso cha chs cbe ctr cgl cgh cll clh cta cme cps cwh cal cah) none := by
  refine MT.go (own := RX0) [(0, .ref (g i0)), (1, .int p1)] (by decide) rfl (Nat.le_of_ble_eq_true rfl) rfl (fun p l e s m args below meth c A Q C hQ => ?_)
  unfold X0_keepBehind at hf
  refine jIloadn C dX0_keepBehind_0 rfl 1 rfl ?_
  refine jBipush C (63 : Int32) dX0_keepBehind_1 kb_63 ?_
  refine jCmpGe C 23 dX0_keepBehind_3 (by decide) (fun c1 => ?_) (fun c1 => ?_)
  · replace hf := itp hf c1
    refine jAloadn C dX0_keepBehind_23 rfl 0 rfl ?_
    refine jLconst C (0 : Int64) dX0_keepBehind_24 rfl ?_
    refine pf_RX0_15 C hi0 dX0_keepBehind_25 ?_
    refine jIloadn C dX0_keepBehind_28 rfl 1 rfl ?_
    refine jBipush C (63 : Int32) dX0_keepBehind_29 kb_63 ?_
    refine jCmpLe C 61 dX0_keepBehind_31 (by decide) (fun c2 => ?_) (fun c2 => ?_)
    · replace hf := itp hf c2
      cases hf
      exact jEndV C hQ rfl dX0_keepBehind_61
    · replace hf := itn hf c2
      refine jAloadn C dX0_keepBehind_34 rfl 0 rfl ?_
      refine jIloadn C dX0_keepBehind_35 rfl 1 rfl ?_
      refine jBipush C (127 : Int32) dX0_keepBehind_36 kb_127 ?_
      refine jCmpGe C 57 dX0_keepBehind_38 (by decide) (fun c3 => ?_) (fun c3 => ?_)
      · replace hf := itp hf c3
        refine jLconst C (0 : Int64) dX0_keepBehind_57 rfl ?_
        refine pf_RX0_19 C hi0 dX0_keepBehind_58 ?_
        cases hf
        exact jEndV C hQ rfl dX0_keepBehind_61
      · replace hf := itn hf c3
        refine jAloadn C dX0_keepBehind_41 rfl 0 rfl ?_
        refine gf_RX0_19 C hi0 dX0_keepBehind_42 ?_
        refine jLdc2 C (x := (-1 : Int64)) lk_RX0_57 dX0_keepBehind_45 ?_
        refine jIloadn C dX0_keepBehind_48 rfl 1 rfl ?_
        refine jBipush C (63 : Int32) dX0_keepBehind_49 kb_63 ?_
        refine jIsub C dX0_keepBehind_51 ?_
        refine jLshl C dX0_keepBehind_52 ?_
        refine jLand C dX0_keepBehind_53 ?_
        refine jGoto C 58 dX0_keepBehind_54 (by decide) ?_
        refine pf_RX0_19 C hi0 dX0_keepBehind_58 ?_
        cases hf
        exact jEndV C hQ rfl dX0_keepBehind_61
  · replace hf := itn hf c1
    refine jAloadn C dX0_keepBehind_6 rfl 0 rfl ?_
    refine jDup C dX0_keepBehind_7 rfl ?_
    refine gf_RX0_15 C hi0 dX0_keepBehind_8 ?_
    refine jLdc2 C (x := (-1 : Int64)) lk_RX0_57 dX0_keepBehind_11 ?_
    refine jIloadn C dX0_keepBehind_14 rfl 1 rfl ?_
    refine jIconst C (1 : Int32) dX0_keepBehind_15 ki_1 ?_
    refine jIadd C dX0_keepBehind_16 ?_
    refine jLshl C dX0_keepBehind_17 ?_
    refine jLand C dX0_keepBehind_18 ?_
    refine pf_RX0_15 C hi0 dX0_keepBehind_19 ?_
    cases hf
    exact jEndV C hQ rfl dX0_keepBehind_22
noncomputable def X0_joinLink (cLo : Nat → Int64) (cHi : Nat → Int64) (i0 : Nat) (p1 : Nat) (p2 : Int32) : Option ((Nat → Int64) × (Nat → Int64)) := (if p2 = (6 : Int32) then some ((va_up cLo i0 ((cLo i0) ||| (cHi p1))), cHi) else gin p2 7 (gin p2 7 (some ((va_up cLo i0 ((cLo i0) ||| ((((cLo p1) &&& (loW p2.toNatClampNeg)).toUInt64 >>> (((1 : Int32) <<< (p2 &&& 31)).toInt64.toUInt64 &&& Int64.toUInt64 63)).toInt64))), (va_up cHi i0 ((cHi i0) ||| ((((cHi p1) &&& (hiW p2.toNatClampNeg)).toUInt64 >>> (((1 : Int32) <<< (p2 &&& 31)).toInt64.toUInt64 &&& Int64.toUInt64 63)).toInt64)))))))
set_option maxHeartbeats 4000000 in
set_option maxRecDepth 20000 in
theorem X0_joinLink_ok {i0 : Nat} {p1 : Nat} {p2 : Int32} {ocLo : Nat → Int64} {ocHi : Nat → Int64} (hi0 : i0 < 28) (hp1 : p1 < 28) (hf : X0_joinLink cLo cHi i0 p1 p2 = some (ocLo, ocHi)) : MT yX0_joinLink cX0_joinLink 3 none 0 [.ref (g i0), .ref (g p1), .int p2] D cy G (cw g cy cP cLo cHi cpl ctb ctl ctf ctp ctk cts cth cob col cso cha chs cbe ctr cgl cgh cll clh cta cme cps cwh cal cah) (cw g cy cP ocLo ocHi cpl ctb ctl ctf ctp ctk cts cth cob col cso cha chs cbe ctr cgl cgh cll clh cta cme cps cwh cal cah) none := by
  refine MT.go (own := RX0) [(0, .ref (g i0)), (1, .ref (g p1)), (2, .int p2)] (by decide) rfl (Nat.le_of_ble_eq_true rfl) rfl (fun p l e s m args below meth c A Q C hQ => ?_)
  unfold X0_joinLink at hf
  refine jIloadn C dX0_joinLink_0 rfl 2 rfl ?_
  refine jBipush C (6 : Int32) dX0_joinLink_1 kb_6 ?_
  refine jCmpNe C 20 dX0_joinLink_3 (by decide) (fun c1 => ?_) (fun c1 => ?_)
  · replace hf := itn hf c1
    refine jAloadn C dX0_joinLink_20 rfl 0 rfl ?_
    refine jDup C dX0_joinLink_21 rfl ?_
    refine gf_RX0_15 C hi0 dX0_joinLink_22 ?_
    refine jAloadn C dX0_joinLink_25 rfl 1 rfl ?_
    refine gf_RX0_15 C hp1 dX0_joinLink_26 ?_
    refine gs_RX0_41 C dX0_joinLink_29 ?_
    refine jIloadn C dX0_joinLink_32 rfl 2 rfl ?_
    obtain ⟨z2, hf⟩ := gin_some hf
    refine tl_lo C z2 dX0_joinLink_33 ?_
    refine jLand C dX0_joinLink_34 ?_
    refine jIconst C (1 : Int32) dX0_joinLink_35 ki_1 ?_
    refine jIloadn C dX0_joinLink_36 rfl 2 rfl ?_
    refine jIshl C dX0_joinLink_37 ?_
    refine jLushr C dX0_joinLink_38 ?_
    refine jLor C dX0_joinLink_39 ?_
    refine pf_RX0_15 C hi0 dX0_joinLink_40 ?_
    refine jAloadn C dX0_joinLink_43 rfl 0 rfl ?_
    refine jDup C dX0_joinLink_44 rfl ?_
    refine gf_RX0_19 C hi0 dX0_joinLink_45 ?_
    refine jAloadn C dX0_joinLink_48 rfl 1 rfl ?_
    refine gf_RX0_19 C hp1 dX0_joinLink_49 ?_
    refine gs_RX0_45 C dX0_joinLink_52 ?_
    refine jIloadn C dX0_joinLink_55 rfl 2 rfl ?_
    obtain ⟨z3, hf⟩ := gin_some hf
    refine tl_hi C z3 dX0_joinLink_56 ?_
    refine jLand C dX0_joinLink_57 ?_
    refine jIconst C (1 : Int32) dX0_joinLink_58 ki_1 ?_
    refine jIloadn C dX0_joinLink_59 rfl 2 rfl ?_
    refine jIshl C dX0_joinLink_60 ?_
    refine jLushr C dX0_joinLink_61 ?_
    refine jLor C dX0_joinLink_62 ?_
    refine pf_RX0_19 C hi0 dX0_joinLink_63 ?_
    cases hf
    exact jEndV C hQ rfl dX0_joinLink_66
  · replace hf := itp hf c1
    refine jAloadn C dX0_joinLink_6 rfl 0 rfl ?_
    refine jDup C dX0_joinLink_7 rfl ?_
    refine gf_RX0_15 C hi0 dX0_joinLink_8 ?_
    refine jAloadn C dX0_joinLink_11 rfl 1 rfl ?_
    refine gf_RX0_19 C hp1 dX0_joinLink_12 ?_
    refine jLor C dX0_joinLink_15 ?_
    refine pf_RX0_15 C hi0 dX0_joinLink_16 ?_
    cases hf
    exact jEndV C hQ rfl dX0_joinLink_19
noncomputable def X0_joinRaised (cLo : Nat → Int64) (cHi : Nat → Int64) (i0 : Nat) (p1 : Nat) (p2 : Int32) : Option ((Nat → Int64) × (Nat → Int64)) := (if p2 = (6 : Int32) then some (cLo, (va_up cHi i0 ((cHi i0) ||| (cLo p1)))) else gin p2 7 (gin p2 7 (some ((va_up cLo i0 ((cLo i0) ||| (((cLo p1) &&& ((loW p2.toNatClampNeg) ^^^ (-1 : Int64))) <<< (((1 : Int32) <<< (p2 &&& 31)).toInt64 &&& 63)))), (va_up cHi i0 ((cHi i0) ||| (((cHi p1) &&& ((hiW p2.toNatClampNeg) ^^^ (-1 : Int64))) <<< (((1 : Int32) <<< (p2 &&& 31)).toInt64 &&& 63))))))))
set_option maxHeartbeats 4000000 in
set_option maxRecDepth 20000 in
theorem X0_joinRaised_ok {i0 : Nat} {p1 : Nat} {p2 : Int32} {ocLo : Nat → Int64} {ocHi : Nat → Int64} (hi0 : i0 < 28) (hp1 : p1 < 28) (hf : X0_joinRaised cLo cHi i0 p1 p2 = some (ocLo, ocHi)) : MT yX0_joinRaised cX0_joinRaised 3 none 0 [.ref (g i0), .ref (g p1), .int p2] D cy G (cw g cy cP cLo cHi cpl ctb ctl ctf ctp ctk cts cth cob col cso cha chs cbe ctr cgl cgh cll clh cta cme cps cwh cal cah) (cw g cy cP ocLo ocHi cpl ctb ctl ctf ctp ctk cts cth cob col cso cha chs cbe ctr cgl cgh cll clh cta cme cps cwh cal cah) none := by
  refine MT.go (own := RX0) [(0, .ref (g i0)), (1, .ref (g p1)), (2, .int p2)] (by decide) rfl (Nat.le_of_ble_eq_true rfl) rfl (fun p l e s m args below meth c A Q C hQ => ?_)
  unfold X0_joinRaised at hf
  refine jIloadn C dX0_joinRaised_0 rfl 2 rfl ?_
  refine jBipush C (6 : Int32) dX0_joinRaised_1 kb_6 ?_
  refine jCmpNe C 20 dX0_joinRaised_3 (by decide) (fun c1 => ?_) (fun c1 => ?_)
  · replace hf := itn hf c1
    refine jAloadn C dX0_joinRaised_20 rfl 0 rfl ?_
    refine jDup C dX0_joinRaised_21 rfl ?_
    refine gf_RX0_15 C hi0 dX0_joinRaised_22 ?_
    refine jAloadn C dX0_joinRaised_25 rfl 1 rfl ?_
    refine gf_RX0_15 C hp1 dX0_joinRaised_26 ?_
    refine gs_RX0_41 C dX0_joinRaised_29 ?_
    refine jIloadn C dX0_joinRaised_32 rfl 2 rfl ?_
    obtain ⟨z2, hf⟩ := gin_some hf
    refine tl_lo C z2 dX0_joinRaised_33 ?_
    refine jLdc2 C (x := (-1 : Int64)) lk_RX0_57 dX0_joinRaised_34 ?_
    refine jLxor C dX0_joinRaised_37 ?_
    refine jLand C dX0_joinRaised_38 ?_
    refine jIconst C (1 : Int32) dX0_joinRaised_39 ki_1 ?_
    refine jIloadn C dX0_joinRaised_40 rfl 2 rfl ?_
    refine jIshl C dX0_joinRaised_41 ?_
    refine jLshl C dX0_joinRaised_42 ?_
    refine jLor C dX0_joinRaised_43 ?_
    refine pf_RX0_15 C hi0 dX0_joinRaised_44 ?_
    refine jAloadn C dX0_joinRaised_47 rfl 0 rfl ?_
    refine jDup C dX0_joinRaised_48 rfl ?_
    refine gf_RX0_19 C hi0 dX0_joinRaised_49 ?_
    refine jAloadn C dX0_joinRaised_52 rfl 1 rfl ?_
    refine gf_RX0_19 C hp1 dX0_joinRaised_53 ?_
    refine gs_RX0_45 C dX0_joinRaised_56 ?_
    refine jIloadn C dX0_joinRaised_59 rfl 2 rfl ?_
    obtain ⟨z3, hf⟩ := gin_some hf
    refine tl_hi C z3 dX0_joinRaised_60 ?_
    refine jLdc2 C (x := (-1 : Int64)) lk_RX0_57 dX0_joinRaised_61 ?_
    refine jLxor C dX0_joinRaised_64 ?_
    refine jLand C dX0_joinRaised_65 ?_
    refine jIconst C (1 : Int32) dX0_joinRaised_66 ki_1 ?_
    refine jIloadn C dX0_joinRaised_67 rfl 2 rfl ?_
    refine jIshl C dX0_joinRaised_68 ?_
    refine jLshl C dX0_joinRaised_69 ?_
    refine jLor C dX0_joinRaised_70 ?_
    refine pf_RX0_19 C hi0 dX0_joinRaised_71 ?_
    cases hf
    exact jEndV C hQ rfl dX0_joinRaised_74
  · replace hf := itp hf c1
    refine jAloadn C dX0_joinRaised_6 rfl 0 rfl ?_
    refine jDup C dX0_joinRaised_7 rfl ?_
    refine gf_RX0_19 C hi0 dX0_joinRaised_8 ?_
    refine jAloadn C dX0_joinRaised_11 rfl 1 rfl ?_
    refine gf_RX0_15 C hp1 dX0_joinRaised_12 ?_
    refine jLor C dX0_joinRaised_15 ?_
    refine pf_RX0_19 C hi0 dX0_joinRaised_16 ?_
    cases hf
    exact jEndV C hQ rfl dX0_joinRaised_19
noncomputable def X0_becomeShadow_h10 (cP_1 : Nat → Int32) (i0 : Nat) (p1 : Nat) (r9 : Int32 → (Nat → Int64) → (Nat → Int64) → Option ((Nat → Int32) × (Nat → Int64) × (Nat → Int64))) (x2_5 : Int32) (cLo_6 : Nat → Int64) (cHi_7 : Nat → Int64) : Option ((Nat → Int32) × (Nat → Int64) × (Nat → Int64)) := (if (cP_1 i0) ≤ x2_5 then some (cP_1, cLo_6, cHi_7) else bd2 (X0_joinLink cLo_6 cHi_7 i0 p1 x2_5) (fun cLo_11 cHi_12 => r9 (x2_5 + (1 : Int32)) cLo_11 cHi_12))
noncomputable def X0_becomeShadow (cP : Nat → Int32) (cLo : Nat → Int64) (cHi : Nat → Int64) (i0 : Nat) (p1 : Nat) : Option ((Nat → Int32) × (Nat → Int64) × (Nat → Int64)) := bd3 (X0_clear cP cLo cHi i0 (cP p1)) (fun cP_1 cLo_2 cHi_3 => lfp3 (X0_becomeShadow_h10 cP_1 i0 p1) (0 : Int32) cLo_2 cHi_3)
set_option maxHeartbeats 4000000 in
set_option maxRecDepth 20000 in
theorem X0_becomeShadow_ok {i0 : Nat} {p1 : Nat} {ocP : Nat → Int32} {ocLo : Nat → Int64} {ocHi : Nat → Int64} (hi0 : i0 < 28) (hp1 : p1 < 28) (hf : X0_becomeShadow cP cLo cHi i0 p1 = some (ocP, ocLo, ocHi)) : MT yX0_becomeShadow cX0_becomeShadow 3 none 1 [.ref (g i0), .ref (g p1)] D cy G (cw g cy cP cLo cHi cpl ctb ctl ctf ctp ctk cts cth cob col cso cha chs cbe ctr cgl cgh cll clh cta cme cps cwh cal cah) (cw g cy ocP ocLo ocHi cpl ctb ctl ctf ctp ctk cts cth cob col cso cha chs cbe ctr cgl cgh cll clh cta cme cps cwh cal cah) none := by
  refine MT.go (own := RX0) [(0, .ref (g i0)), (1, .ref (g p1))] (by decide) rfl (Nat.le_of_ble_eq_true rfl) rfl (fun p l e s m args below meth c A Q C hQ => ?_)
  unfold X0_becomeShadow at hf
  refine jAloadn C dX0_becomeShadow_0 rfl 0 rfl ?_
  refine jAloadn C dX0_becomeShadow_1 rfl 1 rfl ?_
  refine gf_RX0_9 C hp1 dX0_becomeShadow_2 ?_
  obtain ⟨cP_1, cLo_2, cHi_3, e4, hf⟩ := bd3_some hf
  refine jVV C (X0_clear_ok hi0 e4) vb_X0_clear mk_RX0_66 rfl (rcF hi0) ⟨Nat.le_of_ble_eq_true rfl, Nat.le_of_ble_eq_true rfl⟩ rfl (Nat.le_of_ble_eq_true rfl) dX0_becomeShadow_5 ?_
  refine jIconst C (0 : Int32) dX0_becomeShadow_8 ki_0 ?_
  refine jIstoren C dX0_becomeShadow_9 rfl (Nat.le_of_ble_eq_true rfl) [(2, .int (0 : Int32)), (0, .ref (g i0)), (1, .ref (g p1))] rfl ?_
  have hL8 : ∀ (x2_5 : Int32) (cLo_6 : Nat → Int64) (cHi_7 : Nat → Int64), lfp3 (X0_becomeShadow_h10 cP_1 i0 p1) x2_5 cLo_6 cHi_7 = some (ocP, ocLo, ocHi) → J p l e (rmk 1) s m args below meth c D A Q 3 (cw g cy cP_1 cLo_6 cHi_7 cpl ctb ctl ctf ctp ctk cts cth cob col cso cha chs cbe ctr cgl cgh cll clh cta cme cps cwh cal cah) 10 [(0, .ref (g i0)), (1, .ref (g p1)), (2, .int x2_5)] [] := by
    intro x2_5 cLo_6 cHi_7 hw
    refine lfp3_walk (P := fun x2_5 cLo_6 cHi_7 => J p l e (rmk 1) s m args below meth c D A Q 3 (cw g cy cP_1 cLo_6 cHi_7 cpl ctb ctl ctf ctp ctk cts cth cob col cso cha chs cbe ctr cgl cgh cll clh cta cme cps cwh cal cah) 10 [(0, .ref (g i0)), (1, .ref (g p1)), (2, .int x2_5)] []) ?_ hw
    intro r9 ir9 x2_5 cLo_6 cHi_7 hf
    unfold X0_becomeShadow_h10 at hf
    refine jIloadn C dX0_becomeShadow_10 rfl 2 rfl ?_
    refine jAloadn C dX0_becomeShadow_11 rfl 0 rfl ?_
    refine gf_RX0_9 C hi0 dX0_becomeShadow_12 ?_
    refine jCmpGe C 30 dX0_becomeShadow_15 (by decide) (fun c10 => ?_) (fun c10 => ?_)
    · replace hf := itp hf c10
      cases hf
      exact jEndV C hQ rfl dX0_becomeShadow_30
    · replace hf := itn hf c10
      refine jAloadn C dX0_becomeShadow_18 rfl 0 rfl ?_
      refine jAloadn C dX0_becomeShadow_19 rfl 1 rfl ?_
      refine jIloadn C dX0_becomeShadow_20 rfl 2 rfl ?_
      obtain ⟨cLo_11, cHi_12, e13, hf⟩ := bd2_some hf
      refine jVV C (X0_joinLink_ok hi0 hp1 e13) vb_X0_joinLink mk_RX0_69 rfl (rcF hi0) ⟨Nat.le_of_ble_eq_true rfl, Nat.le_of_ble_eq_true rfl⟩ rfl (Nat.le_of_ble_eq_true rfl) dX0_becomeShadow_21 ?_
      refine jIinc C (x2_5 + (1 : Int32)) dX0_becomeShadow_24 2 rfl (congrArg (fun z : Int32 => x2_5 + z) ki_1) (Nat.le_of_ble_eq_true rfl) [(2, .int (x2_5 + (1 : Int32))), (0, .ref (g i0)), (1, .ref (g p1))] rfl ?_
      refine jGoto C 10 dX0_becomeShadow_27 (by decide) ?_
      refine jSub [1, 2, 0] rfl ?_
      exact ir9 (x2_5 + (1 : Int32)) cLo_11 cHi_12 hf
  refine jSub [1, 2, 0] rfl ?_
  exact hL8 (0 : Int32) cLo_2 cHi_3 hf
noncomputable def X0_becomeShade_h10 (cP_1 : Nat → Int32) (i0 : Nat) (p1 : Nat) (r9 : Int32 → (Nat → Int64) → (Nat → Int64) → Option ((Nat → Int32) × (Nat → Int64) × (Nat → Int64))) (x2_5 : Int32) (cLo_6 : Nat → Int64) (cHi_7 : Nat → Int64) : Option ((Nat → Int32) × (Nat → Int64) × (Nat → Int64)) := (if (cP_1 i0) ≤ x2_5 then some (cP_1, cLo_6, cHi_7) else bd2 (X0_joinRaised cLo_6 cHi_7 i0 p1 x2_5) (fun cLo_11 cHi_12 => r9 (x2_5 + (1 : Int32)) cLo_11 cHi_12))
noncomputable def X0_becomeShade (cP : Nat → Int32) (cLo : Nat → Int64) (cHi : Nat → Int64) (i0 : Nat) (p1 : Nat) : Option ((Nat → Int32) × (Nat → Int64) × (Nat → Int64)) := bd3 (X0_clear cP cLo cHi i0 (cP p1)) (fun cP_1 cLo_2 cHi_3 => lfp3 (X0_becomeShade_h10 cP_1 i0 p1) (0 : Int32) cLo_2 cHi_3)
set_option maxHeartbeats 4000000 in
set_option maxRecDepth 20000 in
theorem X0_becomeShade_ok {i0 : Nat} {p1 : Nat} {ocP : Nat → Int32} {ocLo : Nat → Int64} {ocHi : Nat → Int64} (hi0 : i0 < 28) (hp1 : p1 < 28) (hf : X0_becomeShade cP cLo cHi i0 p1 = some (ocP, ocLo, ocHi)) : MT yX0_becomeShade cX0_becomeShade 3 none 1 [.ref (g i0), .ref (g p1)] D cy G (cw g cy cP cLo cHi cpl ctb ctl ctf ctp ctk cts cth cob col cso cha chs cbe ctr cgl cgh cll clh cta cme cps cwh cal cah) (cw g cy ocP ocLo ocHi cpl ctb ctl ctf ctp ctk cts cth cob col cso cha chs cbe ctr cgl cgh cll clh cta cme cps cwh cal cah) none := by
  refine MT.go (own := RX0) [(0, .ref (g i0)), (1, .ref (g p1))] (by decide) rfl (Nat.le_of_ble_eq_true rfl) rfl (fun p l e s m args below meth c A Q C hQ => ?_)
  unfold X0_becomeShade at hf
  refine jAloadn C dX0_becomeShade_0 rfl 0 rfl ?_
  refine jAloadn C dX0_becomeShade_1 rfl 1 rfl ?_
  refine gf_RX0_9 C hp1 dX0_becomeShade_2 ?_
  obtain ⟨cP_1, cLo_2, cHi_3, e4, hf⟩ := bd3_some hf
  refine jVV C (X0_clear_ok hi0 e4) vb_X0_clear mk_RX0_66 rfl (rcF hi0) ⟨Nat.le_of_ble_eq_true rfl, Nat.le_of_ble_eq_true rfl⟩ rfl (Nat.le_of_ble_eq_true rfl) dX0_becomeShade_5 ?_
  refine jIconst C (0 : Int32) dX0_becomeShade_8 ki_0 ?_
  refine jIstoren C dX0_becomeShade_9 rfl (Nat.le_of_ble_eq_true rfl) [(2, .int (0 : Int32)), (0, .ref (g i0)), (1, .ref (g p1))] rfl ?_
  have hL8 : ∀ (x2_5 : Int32) (cLo_6 : Nat → Int64) (cHi_7 : Nat → Int64), lfp3 (X0_becomeShade_h10 cP_1 i0 p1) x2_5 cLo_6 cHi_7 = some (ocP, ocLo, ocHi) → J p l e (rmk 1) s m args below meth c D A Q 3 (cw g cy cP_1 cLo_6 cHi_7 cpl ctb ctl ctf ctp ctk cts cth cob col cso cha chs cbe ctr cgl cgh cll clh cta cme cps cwh cal cah) 10 [(0, .ref (g i0)), (1, .ref (g p1)), (2, .int x2_5)] [] := by
    intro x2_5 cLo_6 cHi_7 hw
    refine lfp3_walk (P := fun x2_5 cLo_6 cHi_7 => J p l e (rmk 1) s m args below meth c D A Q 3 (cw g cy cP_1 cLo_6 cHi_7 cpl ctb ctl ctf ctp ctk cts cth cob col cso cha chs cbe ctr cgl cgh cll clh cta cme cps cwh cal cah) 10 [(0, .ref (g i0)), (1, .ref (g p1)), (2, .int x2_5)] []) ?_ hw
    intro r9 ir9 x2_5 cLo_6 cHi_7 hf
    unfold X0_becomeShade_h10 at hf
    refine jIloadn C dX0_becomeShade_10 rfl 2 rfl ?_
    refine jAloadn C dX0_becomeShade_11 rfl 0 rfl ?_
    refine gf_RX0_9 C hi0 dX0_becomeShade_12 ?_
    refine jCmpGe C 30 dX0_becomeShade_15 (by decide) (fun c10 => ?_) (fun c10 => ?_)
    · replace hf := itp hf c10
      cases hf
      exact jEndV C hQ rfl dX0_becomeShade_30
    · replace hf := itn hf c10
      refine jAloadn C dX0_becomeShade_18 rfl 0 rfl ?_
      refine jAloadn C dX0_becomeShade_19 rfl 1 rfl ?_
      refine jIloadn C dX0_becomeShade_20 rfl 2 rfl ?_
      obtain ⟨cLo_11, cHi_12, e13, hf⟩ := bd2_some hf
      refine jVV C (X0_joinRaised_ok hi0 hp1 e13) vb_X0_joinRaised mk_RX0_73 rfl (rcF hi0) ⟨Nat.le_of_ble_eq_true rfl, Nat.le_of_ble_eq_true rfl⟩ rfl (Nat.le_of_ble_eq_true rfl) dX0_becomeShade_21 ?_
      refine jIinc C (x2_5 + (1 : Int32)) dX0_becomeShade_24 2 rfl (congrArg (fun z : Int32 => x2_5 + z) ki_1) (Nat.le_of_ble_eq_true rfl) [(2, .int (x2_5 + (1 : Int32))), (0, .ref (g i0)), (1, .ref (g p1))] rfl ?_
      refine jGoto C 10 dX0_becomeShade_27 (by decide) ?_
      refine jSub [1, 2, 0] rfl ?_
      exact ir9 (x2_5 + (1 : Int32)) cLo_11 cHi_12 hf
  refine jSub [1, 2, 0] rfl ?_
  exact hL8 (0 : Int32) cLo_2 cHi_3 hf
noncomputable def X0_closeDown_h2 (cP : Nat → Int32) (i0 : Nat) (r5 : Int32 → (Nat → Int64) → (Nat → Int64) → Option ((Nat → Int64) × (Nat → Int64))) (x1_1 : Int32) (cLo_2 : Nat → Int64) (cHi_3 : Nat → Int64) : Option ((Nat → Int64) × (Nat → Int64)) := (if (cP i0) ≤ x1_1 then some (cLo_2, cHi_3) else bd2 (X0_joinLink cLo_2 cHi_3 i0 i0 x1_1) (fun cLo_7 cHi_8 => r5 (x1_1 + (1 : Int32)) cLo_7 cHi_8))
noncomputable def X0_closeDown (cP : Nat → Int32) (cLo : Nat → Int64) (cHi : Nat → Int64) (i0 : Nat) : Option ((Nat → Int64) × (Nat → Int64)) := lfp3 (X0_closeDown_h2 cP i0) (0 : Int32) cLo cHi
set_option maxHeartbeats 4000000 in
set_option maxRecDepth 20000 in
theorem X0_closeDown_ok {i0 : Nat} {ocLo : Nat → Int64} {ocHi : Nat → Int64} (hi0 : i0 < 28) (hf : X0_closeDown cP cLo cHi i0 = some (ocLo, ocHi)) : MT yX0_closeDown cX0_closeDown 2 none 1 [.ref (g i0)] D cy G (cw g cy cP cLo cHi cpl ctb ctl ctf ctp ctk cts cth cob col cso cha chs cbe ctr cgl cgh cll clh cta cme cps cwh cal cah) (cw g cy cP ocLo ocHi cpl ctb ctl ctf ctp ctk cts cth cob col cso cha chs cbe ctr cgl cgh cll clh cta cme cps cwh cal cah) none := by
  refine MT.go (own := RX0) [(0, .ref (g i0))] (by decide) rfl (Nat.le_of_ble_eq_true rfl) rfl (fun p l e s m args below meth c A Q C hQ => ?_)
  unfold X0_closeDown at hf
  refine jIconst C (0 : Int32) dX0_closeDown_0 ki_0 ?_
  refine jIstoren C dX0_closeDown_1 rfl (Nat.le_of_ble_eq_true rfl) [(1, .int (0 : Int32)), (0, .ref (g i0))] rfl ?_
  have hL4 : ∀ (x1_1 : Int32) (cLo_2 : Nat → Int64) (cHi_3 : Nat → Int64), lfp3 (X0_closeDown_h2 cP i0) x1_1 cLo_2 cHi_3 = some (ocLo, ocHi) → J p l e (rmk 1) s m args below meth c D A Q 2 (cw g cy cP cLo_2 cHi_3 cpl ctb ctl ctf ctp ctk cts cth cob col cso cha chs cbe ctr cgl cgh cll clh cta cme cps cwh cal cah) 2 [(0, .ref (g i0)), (1, .int x1_1)] [] := by
    intro x1_1 cLo_2 cHi_3 hw
    refine lfp3_walk (P := fun x1_1 cLo_2 cHi_3 => J p l e (rmk 1) s m args below meth c D A Q 2 (cw g cy cP cLo_2 cHi_3 cpl ctb ctl ctf ctp ctk cts cth cob col cso cha chs cbe ctr cgl cgh cll clh cta cme cps cwh cal cah) 2 [(0, .ref (g i0)), (1, .int x1_1)] []) ?_ hw
    intro r5 ir5 x1_1 cLo_2 cHi_3 hf
    unfold X0_closeDown_h2 at hf
    refine jIloadn C dX0_closeDown_2 rfl 1 rfl ?_
    refine jAloadn C dX0_closeDown_3 rfl 0 rfl ?_
    refine gf_RX0_9 C hi0 dX0_closeDown_4 ?_
    refine jCmpGe C 22 dX0_closeDown_7 (by decide) (fun c6 => ?_) (fun c6 => ?_)
    · replace hf := itp hf c6
      cases hf
      exact jEndV C hQ rfl dX0_closeDown_22
    · replace hf := itn hf c6
      refine jAloadn C dX0_closeDown_10 rfl 0 rfl ?_
      refine jAloadn C dX0_closeDown_11 rfl 0 rfl ?_
      refine jIloadn C dX0_closeDown_12 rfl 1 rfl ?_
      obtain ⟨cLo_7, cHi_8, e9, hf⟩ := bd2_some hf
      refine jVV C (X0_joinLink_ok hi0 hi0 e9) vb_X0_joinLink mk_RX0_69 rfl (rcF hi0) ⟨Nat.le_of_ble_eq_true rfl, Nat.le_of_ble_eq_true rfl⟩ rfl (Nat.le_of_ble_eq_true rfl) dX0_closeDown_13 ?_
      refine jIinc C (x1_1 + (1 : Int32)) dX0_closeDown_16 1 rfl (congrArg (fun z : Int32 => x1_1 + z) ki_1) (Nat.le_of_ble_eq_true rfl) [(1, .int (x1_1 + (1 : Int32))), (0, .ref (g i0))] rfl ?_
      refine jGoto C 2 dX0_closeDown_19 (by decide) ?_
      refine jSub [1, 0] rfl ?_
      exact ir5 (x1_1 + (1 : Int32)) cLo_7 cHi_8 hf
  refine jSub [1, 0] rfl ?_
  exact hL4 (0 : Int32) cLo cHi hf
noncomputable def X0_closeUp_h2 (cP : Nat → Int32) (i0 : Nat) (r5 : Int32 → (Nat → Int64) → (Nat → Int64) → Option ((Nat → Int64) × (Nat → Int64))) (x1_1 : Int32) (cLo_2 : Nat → Int64) (cHi_3 : Nat → Int64) : Option ((Nat → Int64) × (Nat → Int64)) := (if (cP i0) ≤ x1_1 then some (cLo_2, cHi_3) else bd2 (X0_joinRaised cLo_2 cHi_3 i0 i0 x1_1) (fun cLo_7 cHi_8 => r5 (x1_1 + (1 : Int32)) cLo_7 cHi_8))
noncomputable def X0_closeUp (cP : Nat → Int32) (cLo : Nat → Int64) (cHi : Nat → Int64) (i0 : Nat) : Option ((Nat → Int64) × (Nat → Int64)) := lfp3 (X0_closeUp_h2 cP i0) (0 : Int32) cLo cHi
set_option maxHeartbeats 4000000 in
set_option maxRecDepth 20000 in
theorem X0_closeUp_ok {i0 : Nat} {ocLo : Nat → Int64} {ocHi : Nat → Int64} (hi0 : i0 < 28) (hf : X0_closeUp cP cLo cHi i0 = some (ocLo, ocHi)) : MT yX0_closeUp cX0_closeUp 2 none 1 [.ref (g i0)] D cy G (cw g cy cP cLo cHi cpl ctb ctl ctf ctp ctk cts cth cob col cso cha chs cbe ctr cgl cgh cll clh cta cme cps cwh cal cah) (cw g cy cP ocLo ocHi cpl ctb ctl ctf ctp ctk cts cth cob col cso cha chs cbe ctr cgl cgh cll clh cta cme cps cwh cal cah) none := by
  refine MT.go (own := RX0) [(0, .ref (g i0))] (by decide) rfl (Nat.le_of_ble_eq_true rfl) rfl (fun p l e s m args below meth c A Q C hQ => ?_)
  unfold X0_closeUp at hf
  refine jIconst C (0 : Int32) dX0_closeUp_0 ki_0 ?_
  refine jIstoren C dX0_closeUp_1 rfl (Nat.le_of_ble_eq_true rfl) [(1, .int (0 : Int32)), (0, .ref (g i0))] rfl ?_
  have hL4 : ∀ (x1_1 : Int32) (cLo_2 : Nat → Int64) (cHi_3 : Nat → Int64), lfp3 (X0_closeUp_h2 cP i0) x1_1 cLo_2 cHi_3 = some (ocLo, ocHi) → J p l e (rmk 1) s m args below meth c D A Q 2 (cw g cy cP cLo_2 cHi_3 cpl ctb ctl ctf ctp ctk cts cth cob col cso cha chs cbe ctr cgl cgh cll clh cta cme cps cwh cal cah) 2 [(0, .ref (g i0)), (1, .int x1_1)] [] := by
    intro x1_1 cLo_2 cHi_3 hw
    refine lfp3_walk (P := fun x1_1 cLo_2 cHi_3 => J p l e (rmk 1) s m args below meth c D A Q 2 (cw g cy cP cLo_2 cHi_3 cpl ctb ctl ctf ctp ctk cts cth cob col cso cha chs cbe ctr cgl cgh cll clh cta cme cps cwh cal cah) 2 [(0, .ref (g i0)), (1, .int x1_1)] []) ?_ hw
    intro r5 ir5 x1_1 cLo_2 cHi_3 hf
    unfold X0_closeUp_h2 at hf
    refine jIloadn C dX0_closeUp_2 rfl 1 rfl ?_
    refine jAloadn C dX0_closeUp_3 rfl 0 rfl ?_
    refine gf_RX0_9 C hi0 dX0_closeUp_4 ?_
    refine jCmpGe C 22 dX0_closeUp_7 (by decide) (fun c6 => ?_) (fun c6 => ?_)
    · replace hf := itp hf c6
      cases hf
      exact jEndV C hQ rfl dX0_closeUp_22
    · replace hf := itn hf c6
      refine jAloadn C dX0_closeUp_10 rfl 0 rfl ?_
      refine jAloadn C dX0_closeUp_11 rfl 0 rfl ?_
      refine jIloadn C dX0_closeUp_12 rfl 1 rfl ?_
      obtain ⟨cLo_7, cHi_8, e9, hf⟩ := bd2_some hf
      refine jVV C (X0_joinRaised_ok hi0 hi0 e9) vb_X0_joinRaised mk_RX0_73 rfl (rcF hi0) ⟨Nat.le_of_ble_eq_true rfl, Nat.le_of_ble_eq_true rfl⟩ rfl (Nat.le_of_ble_eq_true rfl) dX0_closeUp_13 ?_
      refine jIinc C (x1_1 + (1 : Int32)) dX0_closeUp_16 1 rfl (congrArg (fun z : Int32 => x1_1 + z) ki_1) (Nat.le_of_ble_eq_true rfl) [(1, .int (x1_1 + (1 : Int32))), (0, .ref (g i0))] rfl ?_
      refine jGoto C 2 dX0_closeUp_19 (by decide) ?_
      refine jSub [1, 0] rfl ?_
      exact ir5 (x1_1 + (1 : Int32)) cLo_7 cHi_8 hf
  refine jSub [1, 0] rfl ?_
  exact hL4 (0 : Int32) cLo cHi hf
noncomputable def X0_turnOver_h2 (cP : Nat → Int32) (i0 : Nat) (r5 : Int32 → (Nat → Int64) → (Nat → Int64) → Option ((Nat → Int64) × (Nat → Int64))) (x1_1 : Int32) (cLo_2 : Nat → Int64) (cHi_3 : Nat → Int64) : Option ((Nat → Int64) × (Nat → Int64)) := (if (cP i0) ≤ x1_1 then some (cLo_2, cHi_3) else (if x1_1 = (6 : Int32) then r5 (x1_1 + (1 : Int32)) (va_up cLo_2 i0 (cHi_3 i0)) (va_up cHi_3 i0 (cLo_2 i0)) else gin x1_1 7 (gin x1_1 7 (gin x1_1 7 (gin x1_1 7 (r5 (x1_1 + (1 : Int32)) (va_up cLo_2 i0 (((((cLo_2 i0) &&& (loW x1_1.toNatClampNeg)).toUInt64 >>> (((1 : Int32) <<< (x1_1 &&& 31)).toInt64.toUInt64 &&& Int64.toUInt64 63)).toInt64) ||| (((cLo_2 i0) &&& ((loW x1_1.toNatClampNeg) ^^^ (-1 : Int64))) <<< (((1 : Int32) <<< (x1_1 &&& 31)).toInt64 &&& 63)))) (va_up cHi_3 i0 (((((cHi_3 i0) &&& (hiW x1_1.toNatClampNeg)).toUInt64 >>> (((1 : Int32) <<< (x1_1 &&& 31)).toInt64.toUInt64 &&& Int64.toUInt64 63)).toInt64) ||| (((cHi_3 i0) &&& ((hiW x1_1.toNatClampNeg) ^^^ (-1 : Int64))) <<< (((1 : Int32) <<< (x1_1 &&& 31)).toInt64 &&& 63))))))))))
noncomputable def X0_turnOver (cP : Nat → Int32) (cLo : Nat → Int64) (cHi : Nat → Int64) (i0 : Nat) : Option ((Nat → Int64) × (Nat → Int64)) := lfp3 (X0_turnOver_h2 cP i0) (0 : Int32) cLo cHi
set_option maxHeartbeats 4000000 in
set_option maxRecDepth 20000 in
theorem X0_turnOver_ok {i0 : Nat} {ocLo : Nat → Int64} {ocHi : Nat → Int64} (hi0 : i0 < 28) (hf : X0_turnOver cP cLo cHi i0 = some (ocLo, ocHi)) : MT yX0_turnOver cX0_turnOver 7 none 0 [.ref (g i0)] D cy G (cw g cy cP cLo cHi cpl ctb ctl ctf ctp ctk cts cth cob col cso cha chs cbe ctr cgl cgh cll clh cta cme cps cwh cal cah) (cw g cy cP ocLo ocHi cpl ctb ctl ctf ctp ctk cts cth cob col cso cha chs cbe ctr cgl cgh cll clh cta cme cps cwh cal cah) none := by
  refine MT.go (own := RX0) [(0, .ref (g i0))] (by decide) rfl (Nat.le_of_ble_eq_true rfl) rfl (fun p l e s m args below meth c A Q C hQ => ?_)
  unfold X0_turnOver at hf
  refine jIconst C (0 : Int32) dX0_turnOver_0 ki_0 ?_
  refine jIstoren C dX0_turnOver_1 rfl (Nat.le_of_ble_eq_true rfl) [(1, .int (0 : Int32)), (0, .ref (g i0))] rfl ?_
  have hL4 : ∀ (x1_1 : Int32) (cLo_2 : Nat → Int64) (cHi_3 : Nat → Int64), lfp3 (X0_turnOver_h2 cP i0) x1_1 cLo_2 cHi_3 = some (ocLo, ocHi) → J p l e (rmk 0) s m args below meth c D A Q 7 (cw g cy cP cLo_2 cHi_3 cpl ctb ctl ctf ctp ctk cts cth cob col cso cha chs cbe ctr cgl cgh cll clh cta cme cps cwh cal cah) 2 [(0, .ref (g i0)), (1, .int x1_1)] [] := by
    intro x1_1 cLo_2 cHi_3 hw
    refine lfp3_walk (P := fun x1_1 cLo_2 cHi_3 => J p l e (rmk 0) s m args below meth c D A Q 7 (cw g cy cP cLo_2 cHi_3 cpl ctb ctl ctf ctp ctk cts cth cob col cso cha chs cbe ctr cgl cgh cll clh cta cme cps cwh cal cah) 2 [(0, .ref (g i0)), (1, .int x1_1)] []) ?_ hw
    intro r5 ir5 x1_1 cLo_2 cHi_3 hf
    unfold X0_turnOver_h2 at hf
    refine jIloadn C dX0_turnOver_2 rfl 1 rfl ?_
    refine jAloadn C dX0_turnOver_3 rfl 0 rfl ?_
    refine gf_RX0_9 C hi0 dX0_turnOver_4 ?_
    refine jCmpGe C 112 dX0_turnOver_7 (by decide) (fun c6 => ?_) (fun c6 => ?_)
    · replace hf := itp hf c6
      cases hf
      exact jEndV C hQ rfl dX0_turnOver_112
    · replace hf := itn hf c6
      refine jAloadn C dX0_turnOver_10 rfl 0 rfl ?_
      refine gf_RX0_15 C hi0 dX0_turnOver_11 ?_
      refine jLstoren C dX0_turnOver_14 rfl (Nat.le_of_ble_eq_true rfl) [(2, .long (cLo_2 i0)), (0, .ref (g i0)), (1, .int x1_1)] rfl ?_
      refine jAloadn C dX0_turnOver_15 rfl 1 rfl ?_
      refine gf_RX0_19 C hi0 dX0_turnOver_16 ?_
      refine jLstore C dX0_turnOver_19 (Nat.le_of_ble_eq_true rfl) [(4, .long (cHi_3 i0)), (2, .long (cLo_2 i0)), (0, .ref (g i0)), (1, .int x1_1)] rfl ?_
      refine jIloadn C dX0_turnOver_21 rfl 3 rfl ?_
      refine jBipush C (6 : Int32) dX0_turnOver_22 kb_6 ?_
      refine jCmpNe C 41 dX0_turnOver_24 (by decide) (fun c7 => ?_) (fun c7 => ?_)
      · replace hf := itn hf c7
        refine jIconst C (1 : Int32) dX0_turnOver_41 ki_1 ?_
        refine jIloadn C dX0_turnOver_42 rfl 3 rfl ?_
        refine jIshl C dX0_turnOver_43 ?_
        refine jIstore C dX0_turnOver_44 (Nat.le_of_ble_eq_true rfl) [(6, .int ((1 : Int32) <<< (x1_1 &&& 31))), (4, .long (cHi_3 i0)), (2, .long (cLo_2 i0)), (0, .ref (g i0)), (1, .int x1_1)] rfl ?_
        refine jAloadn C dX0_turnOver_46 rfl 3 rfl ?_
        refine jLloadn C dX0_turnOver_47 rfl 2 rfl ?_
        refine gs_RX0_41 C dX0_turnOver_48 ?_
        refine jIloadn C dX0_turnOver_51 rfl 4 rfl ?_
        obtain ⟨z8, hf⟩ := gin_some hf
        refine tl_lo C z8 dX0_turnOver_52 ?_
        refine jLand C dX0_turnOver_53 ?_
        refine jIload C dX0_turnOver_54 0 rfl ?_
        refine jLushr C dX0_turnOver_56 ?_
        refine jLloadn C dX0_turnOver_57 rfl 2 rfl ?_
        refine gs_RX0_41 C dX0_turnOver_58 ?_
        refine jIloadn C dX0_turnOver_61 rfl 4 rfl ?_
        obtain ⟨z9, hf⟩ := gin_some hf
        refine tl_lo C z9 dX0_turnOver_62 ?_
        refine jLdc2 C (x := (-1 : Int64)) lk_RX0_57 dX0_turnOver_63 ?_
        refine jLxor C dX0_turnOver_66 ?_
        refine jLand C dX0_turnOver_67 ?_
        refine jIload C dX0_turnOver_68 0 rfl ?_
        refine jLshl C dX0_turnOver_70 ?_
        refine jLor C dX0_turnOver_71 ?_
        refine pf_RX0_15 C hi0 dX0_turnOver_72 ?_
        refine jAloadn C dX0_turnOver_75 rfl 3 rfl ?_
        refine jLload C dX0_turnOver_76 1 rfl ?_
        refine gs_RX0_45 C dX0_turnOver_78 ?_
        refine jIloadn C dX0_turnOver_81 rfl 4 rfl ?_
        obtain ⟨z10, hf⟩ := gin_some hf
        refine tl_hi C z10 dX0_turnOver_82 ?_
        refine jLand C dX0_turnOver_83 ?_
        refine jIload C dX0_turnOver_84 0 rfl ?_
        refine jLushr C dX0_turnOver_86 ?_
        refine jLload C dX0_turnOver_87 1 rfl ?_
        refine gs_RX0_45 C dX0_turnOver_89 ?_
        refine jIloadn C dX0_turnOver_92 rfl 4 rfl ?_
        obtain ⟨z11, hf⟩ := gin_some hf
        refine tl_hi C z11 dX0_turnOver_93 ?_
        refine jLdc2 C (x := (-1 : Int64)) lk_RX0_57 dX0_turnOver_94 ?_
        refine jLxor C dX0_turnOver_97 ?_
        refine jLand C dX0_turnOver_98 ?_
        refine jIload C dX0_turnOver_99 0 rfl ?_
        refine jLshl C dX0_turnOver_101 ?_
        refine jLor C dX0_turnOver_102 ?_
        refine pf_RX0_19 C hi0 dX0_turnOver_103 ?_
        refine jIinc C (x1_1 + (1 : Int32)) dX0_turnOver_106 4 rfl (congrArg (fun z : Int32 => x1_1 + z) ki_1) (Nat.le_of_ble_eq_true rfl) [(1, .int (x1_1 + (1 : Int32))), (6, .int ((1 : Int32) <<< (x1_1 &&& 31))), (4, .long (cHi_3 i0)), (2, .long (cLo_2 i0)), (0, .ref (g i0))] rfl ?_
        refine jGoto C 2 dX0_turnOver_109 (by decide) ?_
        refine jSub [4, 0] rfl ?_
        exact ir5 (x1_1 + (1 : Int32)) (va_up cLo_2 i0 (((((cLo_2 i0) &&& (loW x1_1.toNatClampNeg)).toUInt64 >>> (((1 : Int32) <<< (x1_1 &&& 31)).toInt64.toUInt64 &&& Int64.toUInt64 63)).toInt64) ||| (((cLo_2 i0) &&& ((loW x1_1.toNatClampNeg) ^^^ (-1 : Int64))) <<< (((1 : Int32) <<< (x1_1 &&& 31)).toInt64 &&& 63)))) (va_up cHi_3 i0 (((((cHi_3 i0) &&& (hiW x1_1.toNatClampNeg)).toUInt64 >>> (((1 : Int32) <<< (x1_1 &&& 31)).toInt64.toUInt64 &&& Int64.toUInt64 63)).toInt64) ||| (((cHi_3 i0) &&& ((hiW x1_1.toNatClampNeg) ^^^ (-1 : Int64))) <<< (((1 : Int32) <<< (x1_1 &&& 31)).toInt64 &&& 63)))) hf
      · replace hf := itp hf c7
        refine jAloadn C dX0_turnOver_27 rfl 2 rfl ?_
        refine jLload C dX0_turnOver_28 0 rfl ?_
        refine pf_RX0_15 C hi0 dX0_turnOver_30 ?_
        refine jAloadn C dX0_turnOver_33 rfl 2 rfl ?_
        refine jLloadn C dX0_turnOver_34 rfl 1 rfl ?_
        refine pf_RX0_19 C hi0 dX0_turnOver_35 ?_
        refine jGoto C 106 dX0_turnOver_38 (by decide) ?_
        refine jIinc C (x1_1 + (1 : Int32)) dX0_turnOver_106 3 rfl (congrArg (fun z : Int32 => x1_1 + z) ki_1) (Nat.le_of_ble_eq_true rfl) [(1, .int (x1_1 + (1 : Int32))), (4, .long (cHi_3 i0)), (2, .long (cLo_2 i0)), (0, .ref (g i0))] rfl ?_
        refine jGoto C 2 dX0_turnOver_109 (by decide) ?_
        refine jSub [3, 0] rfl ?_
        exact ir5 (x1_1 + (1 : Int32)) (va_up cLo_2 i0 (cHi_3 i0)) (va_up cHi_3 i0 (cLo_2 i0)) hf
  refine jSub [1, 0] rfl ?_
  exact hL4 (0 : Int32) cLo cHi hf
noncomputable def X0_cutTo_h2 (cP : Nat → Int32) (i0 : Nat) (p1 : Int32) (r5 : Int32 → (Nat → Int64) → (Nat → Int64) → Option ((Nat → Int64) × (Nat → Int64))) (x2_1 : Int32) (cLo_2 : Nat → Int64) (cHi_3 : Nat → Int64) : Option ((Nat → Int64) × (Nat → Int64)) := (if (cP i0) ≤ x2_1 then some (cLo_2, cHi_3) else (if ((p1 >>> (x2_1 &&& 31)) &&& (1 : Int32)) = (0 : Int32) then bd2 (X0_joinLink cLo_2 cHi_3 i0 i0 x2_1) (fun cLo_8 cHi_9 => bd2 (X0_keepLacking cLo_8 cHi_9 i0 x2_1) (fun cLo_11 cHi_12 => r5 (x2_1 + (1 : Int32)) cLo_11 cHi_12)) else r5 (x2_1 + (1 : Int32)) cLo_2 cHi_3))
noncomputable def X0_cutTo (cP : Nat → Int32) (cLo : Nat → Int64) (cHi : Nat → Int64) (i0 : Nat) (p1 : Int32) : Option ((Nat → Int64) × (Nat → Int64)) := lfp3 (X0_cutTo_h2 cP i0 p1) (0 : Int32) cLo cHi
set_option maxHeartbeats 4000000 in
set_option maxRecDepth 20000 in
theorem X0_cutTo_ok {i0 : Nat} {p1 : Int32} {ocLo : Nat → Int64} {ocHi : Nat → Int64} (hi0 : i0 < 28) (hf : X0_cutTo cP cLo cHi i0 p1 = some (ocLo, ocHi)) : MT yX0_cutTo cX0_cutTo 3 none 1 [.ref (g i0), .int p1] D cy G (cw g cy cP cLo cHi cpl ctb ctl ctf ctp ctk cts cth cob col cso cha chs cbe ctr cgl cgh cll clh cta cme cps cwh cal cah) (cw g cy cP ocLo ocHi cpl ctb ctl ctf ctp ctk cts cth cob col cso cha chs cbe ctr cgl cgh cll clh cta cme cps cwh cal cah) none := by
  refine MT.go (own := RX0) [(0, .ref (g i0)), (1, .int p1)] (by decide) rfl (Nat.le_of_ble_eq_true rfl) rfl (fun p l e s m args below meth c A Q C hQ => ?_)
  unfold X0_cutTo at hf
  refine jIconst C (0 : Int32) dX0_cutTo_0 ki_0 ?_
  refine jIstoren C dX0_cutTo_1 rfl (Nat.le_of_ble_eq_true rfl) [(2, .int (0 : Int32)), (0, .ref (g i0)), (1, .int p1)] rfl ?_
  have hL4 : ∀ (x2_1 : Int32) (cLo_2 : Nat → Int64) (cHi_3 : Nat → Int64), lfp3 (X0_cutTo_h2 cP i0 p1) x2_1 cLo_2 cHi_3 = some (ocLo, ocHi) → J p l e (rmk 1) s m args below meth c D A Q 3 (cw g cy cP cLo_2 cHi_3 cpl ctb ctl ctf ctp ctk cts cth cob col cso cha chs cbe ctr cgl cgh cll clh cta cme cps cwh cal cah) 2 [(0, .ref (g i0)), (1, .int p1), (2, .int x2_1)] [] := by
    intro x2_1 cLo_2 cHi_3 hw
    refine lfp3_walk (P := fun x2_1 cLo_2 cHi_3 => J p l e (rmk 1) s m args below meth c D A Q 3 (cw g cy cP cLo_2 cHi_3 cpl ctb ctl ctf ctp ctk cts cth cob col cso cha chs cbe ctr cgl cgh cll clh cta cme cps cwh cal cah) 2 [(0, .ref (g i0)), (1, .int p1), (2, .int x2_1)] []) ?_ hw
    intro r5 ir5 x2_1 cLo_2 cHi_3 hf
    unfold X0_cutTo_h2 at hf
    refine jIloadn C dX0_cutTo_2 rfl 2 rfl ?_
    refine jAloadn C dX0_cutTo_3 rfl 0 rfl ?_
    refine gf_RX0_9 C hi0 dX0_cutTo_4 ?_
    refine jCmpGe C 35 dX0_cutTo_7 (by decide) (fun c6 => ?_) (fun c6 => ?_)
    · replace hf := itp hf c6
      cases hf
      exact jEndV C hQ rfl dX0_cutTo_35
    · replace hf := itn hf c6
      refine jIloadn C dX0_cutTo_10 rfl 1 rfl ?_
      refine jIloadn C dX0_cutTo_11 rfl 2 rfl ?_
      refine jIshr C dX0_cutTo_12 ?_
      refine jIconst C (1 : Int32) dX0_cutTo_13 ki_1 ?_
      refine jIand C dX0_cutTo_14 ?_
      refine jIfNe C 29 dX0_cutTo_15 (by decide) (fun c7 => ?_) (fun c7 => ?_)
      · replace hf := itn hf c7
        refine jIinc C (x2_1 + (1 : Int32)) dX0_cutTo_29 2 rfl (congrArg (fun z : Int32 => x2_1 + z) ki_1) (Nat.le_of_ble_eq_true rfl) [(2, .int (x2_1 + (1 : Int32))), (0, .ref (g i0)), (1, .int p1)] rfl ?_
        refine jGoto C 2 dX0_cutTo_32 (by decide) ?_
        refine jSub [1, 2, 0] rfl ?_
        exact ir5 (x2_1 + (1 : Int32)) cLo_2 cHi_3 hf
      · replace hf := itp hf c7
        refine jAloadn C dX0_cutTo_18 rfl 0 rfl ?_
        refine jAloadn C dX0_cutTo_19 rfl 0 rfl ?_
        refine jIloadn C dX0_cutTo_20 rfl 2 rfl ?_
        obtain ⟨cLo_8, cHi_9, e10, hf⟩ := bd2_some hf
        refine jVV C (X0_joinLink_ok hi0 hi0 e10) vb_X0_joinLink mk_RX0_69 rfl (rcF hi0) ⟨Nat.le_of_ble_eq_true rfl, Nat.le_of_ble_eq_true rfl⟩ rfl (Nat.le_of_ble_eq_true rfl) dX0_cutTo_21 ?_
        refine jAloadn C dX0_cutTo_24 rfl 0 rfl ?_
        refine jIloadn C dX0_cutTo_25 rfl 2 rfl ?_
        obtain ⟨cLo_11, cHi_12, e13, hf⟩ := bd2_some hf
        refine jVV C (X0_keepLacking_ok hi0 e13) vb_X0_keepLacking mk_RX0_63 rfl (rcF hi0) ⟨Nat.le_of_ble_eq_true rfl, Nat.le_of_ble_eq_true rfl⟩ rfl (Nat.le_of_ble_eq_true rfl) dX0_cutTo_26 ?_
        refine jIinc C (x2_1 + (1 : Int32)) dX0_cutTo_29 2 rfl (congrArg (fun z : Int32 => x2_1 + z) ki_1) (Nat.le_of_ble_eq_true rfl) [(2, .int (x2_1 + (1 : Int32))), (0, .ref (g i0)), (1, .int p1)] rfl ?_
        refine jGoto C 2 dX0_cutTo_32 (by decide) ?_
        refine jSub [1, 2, 0] rfl ?_
        exact ir5 (x2_1 + (1 : Int32)) cLo_11 cHi_12 hf
  refine jSub [1, 2, 0] rfl ?_
  exact hL4 (0 : Int32) cLo cHi hf
noncomputable def X0_widenBy_h2 (cP : Nat → Int32) (i0 : Nat) (p1 : Int32) (r5 : Int32 → (Nat → Int64) → (Nat → Int64) → Option ((Nat → Int64) × (Nat → Int64))) (x2_1 : Int32) (cLo_2 : Nat → Int64) (cHi_3 : Nat → Int64) : Option ((Nat → Int64) × (Nat → Int64)) := (if (cP i0) ≤ x2_1 then some (cLo_2, cHi_3) else (if ((p1 >>> (x2_1 &&& 31)) &&& (1 : Int32)) = (1 : Int32) then bd2 (X0_joinRaised cLo_2 cHi_3 i0 i0 x2_1) (fun cLo_8 cHi_9 => bd2 (X0_keepWith cLo_8 cHi_9 i0 x2_1) (fun cLo_11 cHi_12 => r5 (x2_1 + (1 : Int32)) cLo_11 cHi_12)) else r5 (x2_1 + (1 : Int32)) cLo_2 cHi_3))
noncomputable def X0_widenBy (cP : Nat → Int32) (cLo : Nat → Int64) (cHi : Nat → Int64) (i0 : Nat) (p1 : Int32) : Option ((Nat → Int64) × (Nat → Int64)) := lfp3 (X0_widenBy_h2 cP i0 p1) (0 : Int32) cLo cHi
set_option maxHeartbeats 4000000 in
set_option maxRecDepth 20000 in
theorem X0_widenBy_ok {i0 : Nat} {p1 : Int32} {ocLo : Nat → Int64} {ocHi : Nat → Int64} (hi0 : i0 < 28) (hf : X0_widenBy cP cLo cHi i0 p1 = some (ocLo, ocHi)) : MT yX0_widenBy cX0_widenBy 3 none 1 [.ref (g i0), .int p1] D cy G (cw g cy cP cLo cHi cpl ctb ctl ctf ctp ctk cts cth cob col cso cha chs cbe ctr cgl cgh cll clh cta cme cps cwh cal cah) (cw g cy cP ocLo ocHi cpl ctb ctl ctf ctp ctk cts cth cob col cso cha chs cbe ctr cgl cgh cll clh cta cme cps cwh cal cah) none := by
  refine MT.go (own := RX0) [(0, .ref (g i0)), (1, .int p1)] (by decide) rfl (Nat.le_of_ble_eq_true rfl) rfl (fun p l e s m args below meth c A Q C hQ => ?_)
  unfold X0_widenBy at hf
  refine jIconst C (0 : Int32) dX0_widenBy_0 ki_0 ?_
  refine jIstoren C dX0_widenBy_1 rfl (Nat.le_of_ble_eq_true rfl) [(2, .int (0 : Int32)), (0, .ref (g i0)), (1, .int p1)] rfl ?_
  have hL4 : ∀ (x2_1 : Int32) (cLo_2 : Nat → Int64) (cHi_3 : Nat → Int64), lfp3 (X0_widenBy_h2 cP i0 p1) x2_1 cLo_2 cHi_3 = some (ocLo, ocHi) → J p l e (rmk 1) s m args below meth c D A Q 3 (cw g cy cP cLo_2 cHi_3 cpl ctb ctl ctf ctp ctk cts cth cob col cso cha chs cbe ctr cgl cgh cll clh cta cme cps cwh cal cah) 2 [(0, .ref (g i0)), (1, .int p1), (2, .int x2_1)] [] := by
    intro x2_1 cLo_2 cHi_3 hw
    refine lfp3_walk (P := fun x2_1 cLo_2 cHi_3 => J p l e (rmk 1) s m args below meth c D A Q 3 (cw g cy cP cLo_2 cHi_3 cpl ctb ctl ctf ctp ctk cts cth cob col cso cha chs cbe ctr cgl cgh cll clh cta cme cps cwh cal cah) 2 [(0, .ref (g i0)), (1, .int p1), (2, .int x2_1)] []) ?_ hw
    intro r5 ir5 x2_1 cLo_2 cHi_3 hf
    unfold X0_widenBy_h2 at hf
    refine jIloadn C dX0_widenBy_2 rfl 2 rfl ?_
    refine jAloadn C dX0_widenBy_3 rfl 0 rfl ?_
    refine gf_RX0_9 C hi0 dX0_widenBy_4 ?_
    refine jCmpGe C 36 dX0_widenBy_7 (by decide) (fun c6 => ?_) (fun c6 => ?_)
    · replace hf := itp hf c6
      cases hf
      exact jEndV C hQ rfl dX0_widenBy_36
    · replace hf := itn hf c6
      refine jIloadn C dX0_widenBy_10 rfl 1 rfl ?_
      refine jIloadn C dX0_widenBy_11 rfl 2 rfl ?_
      refine jIshr C dX0_widenBy_12 ?_
      refine jIconst C (1 : Int32) dX0_widenBy_13 ki_1 ?_
      refine jIand C dX0_widenBy_14 ?_
      refine jIconst C (1 : Int32) dX0_widenBy_15 ki_1 ?_
      refine jCmpNe C 30 dX0_widenBy_16 (by decide) (fun c7 => ?_) (fun c7 => ?_)
      · replace hf := itn hf c7
        refine jIinc C (x2_1 + (1 : Int32)) dX0_widenBy_30 2 rfl (congrArg (fun z : Int32 => x2_1 + z) ki_1) (Nat.le_of_ble_eq_true rfl) [(2, .int (x2_1 + (1 : Int32))), (0, .ref (g i0)), (1, .int p1)] rfl ?_
        refine jGoto C 2 dX0_widenBy_33 (by decide) ?_
        refine jSub [1, 2, 0] rfl ?_
        exact ir5 (x2_1 + (1 : Int32)) cLo_2 cHi_3 hf
      · replace hf := itp hf c7
        refine jAloadn C dX0_widenBy_19 rfl 0 rfl ?_
        refine jAloadn C dX0_widenBy_20 rfl 0 rfl ?_
        refine jIloadn C dX0_widenBy_21 rfl 2 rfl ?_
        obtain ⟨cLo_8, cHi_9, e10, hf⟩ := bd2_some hf
        refine jVV C (X0_joinRaised_ok hi0 hi0 e10) vb_X0_joinRaised mk_RX0_73 rfl (rcF hi0) ⟨Nat.le_of_ble_eq_true rfl, Nat.le_of_ble_eq_true rfl⟩ rfl (Nat.le_of_ble_eq_true rfl) dX0_widenBy_22 ?_
        refine jAloadn C dX0_widenBy_25 rfl 0 rfl ?_
        refine jIloadn C dX0_widenBy_26 rfl 2 rfl ?_
        obtain ⟨cLo_11, cHi_12, e13, hf⟩ := bd2_some hf
        refine jVV C (X0_keepWith_ok hi0 e13) vb_X0_keepWith mk_RX0_59 rfl (rcF hi0) ⟨Nat.le_of_ble_eq_true rfl, Nat.le_of_ble_eq_true rfl⟩ rfl (Nat.le_of_ble_eq_true rfl) dX0_widenBy_27 ?_
        refine jIinc C (x2_1 + (1 : Int32)) dX0_widenBy_30 2 rfl (congrArg (fun z : Int32 => x2_1 + z) ki_1) (Nat.le_of_ble_eq_true rfl) [(2, .int (x2_1 + (1 : Int32))), (0, .ref (g i0)), (1, .int p1)] rfl ?_
        refine jGoto C 2 dX0_widenBy_33 (by decide) ?_
        refine jSub [1, 2, 0] rfl ?_
        exact ir5 (x2_1 + (1 : Int32)) cLo_11 cHi_12 hf
  refine jSub [1, 2, 0] rfl ?_
  exact hL4 (0 : Int32) cLo cHi hf
noncomputable def X0_closeByMeets_h2 (p1 : Nat) (p2 : Nat) (i0 : Nat) (r6 : Int32 → (Nat → Int32) → (Nat → Int64) → (Nat → Int64) → Option ((Nat → Int32) × (Nat → Int64) × (Nat → Int64))) (x3_1 : Int32) (cP_2 : Nat → Int32) (cLo_3 : Nat → Int64) (cHi_4 : Nat → Int64) : Option ((Nat → Int32) × (Nat → Int64) × (Nat → Int64)) := bd1 (X0_span cP_2 p1) (fun q7 => (if q7 ≤ x3_1 then some (cP_2, cLo_3, cHi_4) else bd1 (X0_holds cLo_3 cHi_4 p1 x3_1) (fun q10 => (if q10 = (0 : Int32) then r6 (x3_1 + (1 : Int32)) cP_2 cLo_3 cHi_4 else bd3 (X0_become cP_2 cLo_3 cHi_4 p2 i0) (fun cP_13 cLo_14 cHi_15 => bd2 (X0_cutTo cP_13 cLo_14 cHi_15 p2 x3_1) (fun cLo_17 cHi_18 => bd2 (X0_join cLo_17 cHi_18 i0 p2) (fun cLo_20 cHi_21 => r6 (x3_1 + (1 : Int32)) cP_13 cLo_20 cHi_21)))))))
noncomputable def X0_closeByMeets (cP : Nat → Int32) (cLo : Nat → Int64) (cHi : Nat → Int64) (i0 : Nat) (p1 : Nat) (p2 : Nat) : Option ((Nat → Int32) × (Nat → Int64) × (Nat → Int64)) := lfp4 (X0_closeByMeets_h2 p1 p2 i0) (0 : Int32) cP cLo cHi
set_option maxHeartbeats 4000000 in
set_option maxRecDepth 20000 in
theorem X0_closeByMeets_ok {i0 : Nat} {p1 : Nat} {p2 : Nat} {ocP : Nat → Int32} {ocLo : Nat → Int64} {ocHi : Nat → Int64} (hi0 : i0 < 28) (hp1 : p1 < 28) (hp2 : p2 < 28) (hf : X0_closeByMeets cP cLo cHi i0 p1 p2 = some (ocP, ocLo, ocHi)) : MT yX0_closeByMeets cX0_closeByMeets 4 none 2 [.ref (g i0), .ref (g p1), .ref (g p2)] D cy G (cw g cy cP cLo cHi cpl ctb ctl ctf ctp ctk cts cth cob col cso cha chs cbe ctr cgl cgh cll clh cta cme cps cwh cal cah) (cw g cy ocP ocLo ocHi cpl ctb ctl ctf ctp ctk cts cth cob col cso cha chs cbe ctr cgl cgh cll clh cta cme cps cwh cal cah) none := by
  refine MT.go (own := RX0) [(0, .ref (g i0)), (1, .ref (g p1)), (2, .ref (g p2))] (by decide) rfl (Nat.le_of_ble_eq_true rfl) rfl (fun p l e s m args below meth c A Q C hQ => ?_)
  unfold X0_closeByMeets at hf
  refine jIconst C (0 : Int32) dX0_closeByMeets_0 ki_0 ?_
  refine jIstoren C dX0_closeByMeets_1 rfl (Nat.le_of_ble_eq_true rfl) [(3, .int (0 : Int32)), (0, .ref (g i0)), (1, .ref (g p1)), (2, .ref (g p2))] rfl ?_
  have hL5 : ∀ (x3_1 : Int32) (cP_2 : Nat → Int32) (cLo_3 : Nat → Int64) (cHi_4 : Nat → Int64), lfp4 (X0_closeByMeets_h2 p1 p2 i0) x3_1 cP_2 cLo_3 cHi_4 = some (ocP, ocLo, ocHi) → J p l e (rmk 2) s m args below meth c D A Q 4 (cw g cy cP_2 cLo_3 cHi_4 cpl ctb ctl ctf ctp ctk cts cth cob col cso cha chs cbe ctr cgl cgh cll clh cta cme cps cwh cal cah) 2 [(0, .ref (g i0)), (1, .ref (g p1)), (2, .ref (g p2)), (3, .int x3_1)] [] := by
    intro x3_1 cP_2 cLo_3 cHi_4 hw
    refine lfp4_walk (P := fun x3_1 cP_2 cLo_3 cHi_4 => J p l e (rmk 2) s m args below meth c D A Q 4 (cw g cy cP_2 cLo_3 cHi_4 cpl ctb ctl ctf ctp ctk cts cth cob col cso cha chs cbe ctr cgl cgh cll clh cta cme cps cwh cal cah) 2 [(0, .ref (g i0)), (1, .ref (g p1)), (2, .ref (g p2)), (3, .int x3_1)] []) ?_ hw
    intro r6 ir6 x3_1 cP_2 cLo_3 cHi_4 hf
    unfold X0_closeByMeets_h2 at hf
    refine jIloadn C dX0_closeByMeets_2 rfl 3 rfl ?_
    refine jAloadn C dX0_closeByMeets_3 rfl 1 rfl ?_
    obtain ⟨q7, e8, hf⟩ := bd1_some hf
    refine jVI C (X0_span_ok hp1 e8) vb_X0_span mk_RX0_22 rfl (rcF hp1) ⟨Nat.le_of_ble_eq_true rfl, Nat.le_of_ble_eq_true rfl⟩ rfl (Nat.le_of_ble_eq_true rfl) dX0_closeByMeets_4 ?_
    refine jCmpGe C 39 dX0_closeByMeets_7 (by decide) (fun c9 => ?_) (fun c9 => ?_)
    · replace hf := itp hf c9
      cases hf
      exact jEndV C hQ rfl dX0_closeByMeets_39
    · replace hf := itn hf c9
      refine jAloadn C dX0_closeByMeets_10 rfl 1 rfl ?_
      refine jIloadn C dX0_closeByMeets_11 rfl 3 rfl ?_
      obtain ⟨q10, e11, hf⟩ := bd1_some hf
      refine jVI C (X0_holds_ok hp1 e11) vb_X0_holds mk_RX0_37 rfl (rcF hp1) ⟨Nat.le_of_ble_eq_true rfl, Nat.le_of_ble_eq_true rfl⟩ rfl (Nat.le_of_ble_eq_true rfl) dX0_closeByMeets_12 ?_
      refine jIfEq C 33 dX0_closeByMeets_15 (by decide) (fun c12 => ?_) (fun c12 => ?_)
      · replace hf := itp hf c12
        refine jIinc C (x3_1 + (1 : Int32)) dX0_closeByMeets_33 3 rfl (congrArg (fun z : Int32 => x3_1 + z) ki_1) (Nat.le_of_ble_eq_true rfl) [(3, .int (x3_1 + (1 : Int32))), (0, .ref (g i0)), (1, .ref (g p1)), (2, .ref (g p2))] rfl ?_
        refine jGoto C 2 dX0_closeByMeets_36 (by decide) ?_
        refine jSub [1, 2, 3, 0] rfl ?_
        exact ir6 (x3_1 + (1 : Int32)) cP_2 cLo_3 cHi_4 hf
      · replace hf := itn hf c12
        refine jAloadn C dX0_closeByMeets_18 rfl 2 rfl ?_
        refine jAloadn C dX0_closeByMeets_19 rfl 0 rfl ?_
        obtain ⟨cP_13, cLo_14, cHi_15, e16, hf⟩ := bd3_some hf
        refine jVV C (X0_become_ok hp2 hi0 e16) vb_X0_become mk_RX0_76 rfl (rcF hp2) ⟨Nat.le_of_ble_eq_true rfl, Nat.le_of_ble_eq_true rfl⟩ rfl (Nat.le_of_ble_eq_true rfl) dX0_closeByMeets_20 ?_
        refine jAloadn C dX0_closeByMeets_23 rfl 2 rfl ?_
        refine jIloadn C dX0_closeByMeets_24 rfl 3 rfl ?_
        obtain ⟨cLo_17, cHi_18, e19, hf⟩ := bd2_some hf
        refine jVV C (X0_cutTo_ok hp2 e19) vb_X0_cutTo mk_RX0_80 rfl (rcF hp2) ⟨Nat.le_of_ble_eq_true rfl, Nat.le_of_ble_eq_true rfl⟩ rfl (Nat.le_of_ble_eq_true rfl) dX0_closeByMeets_25 ?_
        refine jAloadn C dX0_closeByMeets_28 rfl 0 rfl ?_
        refine jAloadn C dX0_closeByMeets_29 rfl 2 rfl ?_
        obtain ⟨cLo_20, cHi_21, e22, hf⟩ := bd2_some hf
        refine jVV C (X0_join_ok hi0 hp2 e22) vb_X0_join mk_RX0_83 rfl (rcF hi0) ⟨Nat.le_of_ble_eq_true rfl, Nat.le_of_ble_eq_true rfl⟩ rfl (Nat.le_of_ble_eq_true rfl) dX0_closeByMeets_30 ?_
        refine jIinc C (x3_1 + (1 : Int32)) dX0_closeByMeets_33 3 rfl (congrArg (fun z : Int32 => x3_1 + z) ki_1) (Nat.le_of_ble_eq_true rfl) [(3, .int (x3_1 + (1 : Int32))), (0, .ref (g i0)), (1, .ref (g p1)), (2, .ref (g p2))] rfl ?_
        refine jGoto C 2 dX0_closeByMeets_36 (by decide) ?_
        refine jSub [1, 2, 3, 0] rfl ?_
        exact ir6 (x3_1 + (1 : Int32)) cP_13 cLo_20 cHi_21 hf
  refine jSub [1, 2, 3, 0] rfl ?_
  exact hL5 (0 : Int32) cP cLo cHi hf
noncomputable def X0_closeByJoins_h2 (p1 : Nat) (p2 : Nat) (i0 : Nat) (r6 : Int32 → (Nat → Int32) → (Nat → Int64) → (Nat → Int64) → Option ((Nat → Int32) × (Nat → Int64) × (Nat → Int64))) (x3_1 : Int32) (cP_2 : Nat → Int32) (cLo_3 : Nat → Int64) (cHi_4 : Nat → Int64) : Option ((Nat → Int32) × (Nat → Int64) × (Nat → Int64)) := bd1 (X0_span cP_2 p1) (fun q7 => (if q7 ≤ x3_1 then some (cP_2, cLo_3, cHi_4) else bd1 (X0_holds cLo_3 cHi_4 p1 x3_1) (fun q10 => (if q10 = (0 : Int32) then r6 (x3_1 + (1 : Int32)) cP_2 cLo_3 cHi_4 else bd3 (X0_become cP_2 cLo_3 cHi_4 p2 i0) (fun cP_13 cLo_14 cHi_15 => bd2 (X0_widenBy cP_13 cLo_14 cHi_15 p2 x3_1) (fun cLo_17 cHi_18 => bd2 (X0_join cLo_17 cHi_18 i0 p2) (fun cLo_20 cHi_21 => r6 (x3_1 + (1 : Int32)) cP_13 cLo_20 cHi_21)))))))
noncomputable def X0_closeByJoins (cP : Nat → Int32) (cLo : Nat → Int64) (cHi : Nat → Int64) (i0 : Nat) (p1 : Nat) (p2 : Nat) : Option ((Nat → Int32) × (Nat → Int64) × (Nat → Int64)) := lfp4 (X0_closeByJoins_h2 p1 p2 i0) (0 : Int32) cP cLo cHi
set_option maxHeartbeats 4000000 in
set_option maxRecDepth 20000 in
theorem X0_closeByJoins_ok {i0 : Nat} {p1 : Nat} {p2 : Nat} {ocP : Nat → Int32} {ocLo : Nat → Int64} {ocHi : Nat → Int64} (hi0 : i0 < 28) (hp1 : p1 < 28) (hp2 : p2 < 28) (hf : X0_closeByJoins cP cLo cHi i0 p1 p2 = some (ocP, ocLo, ocHi)) : MT yX0_closeByJoins cX0_closeByJoins 4 none 2 [.ref (g i0), .ref (g p1), .ref (g p2)] D cy G (cw g cy cP cLo cHi cpl ctb ctl ctf ctp ctk cts cth cob col cso cha chs cbe ctr cgl cgh cll clh cta cme cps cwh cal cah) (cw g cy ocP ocLo ocHi cpl ctb ctl ctf ctp ctk cts cth cob col cso cha chs cbe ctr cgl cgh cll clh cta cme cps cwh cal cah) none := by
  refine MT.go (own := RX0) [(0, .ref (g i0)), (1, .ref (g p1)), (2, .ref (g p2))] (by decide) rfl (Nat.le_of_ble_eq_true rfl) rfl (fun p l e s m args below meth c A Q C hQ => ?_)
  unfold X0_closeByJoins at hf
  refine jIconst C (0 : Int32) dX0_closeByJoins_0 ki_0 ?_
  refine jIstoren C dX0_closeByJoins_1 rfl (Nat.le_of_ble_eq_true rfl) [(3, .int (0 : Int32)), (0, .ref (g i0)), (1, .ref (g p1)), (2, .ref (g p2))] rfl ?_
  have hL5 : ∀ (x3_1 : Int32) (cP_2 : Nat → Int32) (cLo_3 : Nat → Int64) (cHi_4 : Nat → Int64), lfp4 (X0_closeByJoins_h2 p1 p2 i0) x3_1 cP_2 cLo_3 cHi_4 = some (ocP, ocLo, ocHi) → J p l e (rmk 2) s m args below meth c D A Q 4 (cw g cy cP_2 cLo_3 cHi_4 cpl ctb ctl ctf ctp ctk cts cth cob col cso cha chs cbe ctr cgl cgh cll clh cta cme cps cwh cal cah) 2 [(0, .ref (g i0)), (1, .ref (g p1)), (2, .ref (g p2)), (3, .int x3_1)] [] := by
    intro x3_1 cP_2 cLo_3 cHi_4 hw
    refine lfp4_walk (P := fun x3_1 cP_2 cLo_3 cHi_4 => J p l e (rmk 2) s m args below meth c D A Q 4 (cw g cy cP_2 cLo_3 cHi_4 cpl ctb ctl ctf ctp ctk cts cth cob col cso cha chs cbe ctr cgl cgh cll clh cta cme cps cwh cal cah) 2 [(0, .ref (g i0)), (1, .ref (g p1)), (2, .ref (g p2)), (3, .int x3_1)] []) ?_ hw
    intro r6 ir6 x3_1 cP_2 cLo_3 cHi_4 hf
    unfold X0_closeByJoins_h2 at hf
    refine jIloadn C dX0_closeByJoins_2 rfl 3 rfl ?_
    refine jAloadn C dX0_closeByJoins_3 rfl 1 rfl ?_
    obtain ⟨q7, e8, hf⟩ := bd1_some hf
    refine jVI C (X0_span_ok hp1 e8) vb_X0_span mk_RX0_22 rfl (rcF hp1) ⟨Nat.le_of_ble_eq_true rfl, Nat.le_of_ble_eq_true rfl⟩ rfl (Nat.le_of_ble_eq_true rfl) dX0_closeByJoins_4 ?_
    refine jCmpGe C 39 dX0_closeByJoins_7 (by decide) (fun c9 => ?_) (fun c9 => ?_)
    · replace hf := itp hf c9
      cases hf
      exact jEndV C hQ rfl dX0_closeByJoins_39
    · replace hf := itn hf c9
      refine jAloadn C dX0_closeByJoins_10 rfl 1 rfl ?_
      refine jIloadn C dX0_closeByJoins_11 rfl 3 rfl ?_
      obtain ⟨q10, e11, hf⟩ := bd1_some hf
      refine jVI C (X0_holds_ok hp1 e11) vb_X0_holds mk_RX0_37 rfl (rcF hp1) ⟨Nat.le_of_ble_eq_true rfl, Nat.le_of_ble_eq_true rfl⟩ rfl (Nat.le_of_ble_eq_true rfl) dX0_closeByJoins_12 ?_
      refine jIfEq C 33 dX0_closeByJoins_15 (by decide) (fun c12 => ?_) (fun c12 => ?_)
      · replace hf := itp hf c12
        refine jIinc C (x3_1 + (1 : Int32)) dX0_closeByJoins_33 3 rfl (congrArg (fun z : Int32 => x3_1 + z) ki_1) (Nat.le_of_ble_eq_true rfl) [(3, .int (x3_1 + (1 : Int32))), (0, .ref (g i0)), (1, .ref (g p1)), (2, .ref (g p2))] rfl ?_
        refine jGoto C 2 dX0_closeByJoins_36 (by decide) ?_
        refine jSub [1, 2, 3, 0] rfl ?_
        exact ir6 (x3_1 + (1 : Int32)) cP_2 cLo_3 cHi_4 hf
      · replace hf := itn hf c12
        refine jAloadn C dX0_closeByJoins_18 rfl 2 rfl ?_
        refine jAloadn C dX0_closeByJoins_19 rfl 0 rfl ?_
        obtain ⟨cP_13, cLo_14, cHi_15, e16, hf⟩ := bd3_some hf
        refine jVV C (X0_become_ok hp2 hi0 e16) vb_X0_become mk_RX0_76 rfl (rcF hp2) ⟨Nat.le_of_ble_eq_true rfl, Nat.le_of_ble_eq_true rfl⟩ rfl (Nat.le_of_ble_eq_true rfl) dX0_closeByJoins_20 ?_
        refine jAloadn C dX0_closeByJoins_23 rfl 2 rfl ?_
        refine jIloadn C dX0_closeByJoins_24 rfl 3 rfl ?_
        obtain ⟨cLo_17, cHi_18, e19, hf⟩ := bd2_some hf
        refine jVV C (X0_widenBy_ok hp2 e19) vb_X0_widenBy mk_RX0_86 rfl (rcF hp2) ⟨Nat.le_of_ble_eq_true rfl, Nat.le_of_ble_eq_true rfl⟩ rfl (Nat.le_of_ble_eq_true rfl) dX0_closeByJoins_25 ?_
        refine jAloadn C dX0_closeByJoins_28 rfl 0 rfl ?_
        refine jAloadn C dX0_closeByJoins_29 rfl 2 rfl ?_
        obtain ⟨cLo_20, cHi_21, e22, hf⟩ := bd2_some hf
        refine jVV C (X0_join_ok hi0 hp2 e22) vb_X0_join mk_RX0_83 rfl (rcF hi0) ⟨Nat.le_of_ble_eq_true rfl, Nat.le_of_ble_eq_true rfl⟩ rfl (Nat.le_of_ble_eq_true rfl) dX0_closeByJoins_30 ?_
        refine jIinc C (x3_1 + (1 : Int32)) dX0_closeByJoins_33 3 rfl (congrArg (fun z : Int32 => x3_1 + z) ki_1) (Nat.le_of_ble_eq_true rfl) [(3, .int (x3_1 + (1 : Int32))), (0, .ref (g i0)), (1, .ref (g p1)), (2, .ref (g p2))] rfl ?_
        refine jGoto C 2 dX0_closeByJoins_36 (by decide) ?_
        refine jSub [1, 2, 3, 0] rfl ?_
        exact ir6 (x3_1 + (1 : Int32)) cP_13 cLo_20 cHi_21 hf
  refine jSub [1, 2, 3, 0] rfl ?_
  exact hL5 (0 : Int32) cP cLo cHi hf
noncomputable def X0_becomeRestOf (cLo : Nat → Int64) (cHi : Nat → Int64) (i0 : Nat) (p1 : Nat) : Option ((Nat → Int64) × (Nat → Int64)) := some ((va_up cLo i0 ((cLo p1) &&& ((cLo i0) ^^^ (-1 : Int64)))), (va_up cHi i0 ((cHi p1) &&& ((cHi i0) ^^^ (-1 : Int64)))))
set_option maxHeartbeats 4000000 in
set_option maxRecDepth 20000 in
theorem X0_becomeRestOf_ok {i0 : Nat} {p1 : Nat} {ocLo : Nat → Int64} {ocHi : Nat → Int64} (hi0 : i0 < 28) (hp1 : p1 < 28) (hf : X0_becomeRestOf cLo cHi i0 p1 = some (ocLo, ocHi)) : MT yX0_becomeRestOf cX0_becomeRestOf 2 none 0 [.ref (g i0), .ref (g p1)] D cy G (cw g cy cP cLo cHi cpl ctb ctl ctf ctp ctk cts cth cob col cso cha chs cbe ctr cgl cgh cll clh cta cme cps cwh cal cah) (cw g cy cP ocLo ocHi cpl ctb ctl ctf ctp ctk cts cth cob col cso cha chs cbe ctr cgl cgh cll clh cta cme cps cwh cal cah) none := by
  refine MT.go (own := RX0) [(0, .ref (g i0)), (1, .ref (g p1))] (by decide) rfl (Nat.le_of_ble_eq_true rfl) rfl (fun p l e s m args below meth c A Q C hQ => ?_)
  unfold X0_becomeRestOf at hf
  refine jAloadn C dX0_becomeRestOf_0 rfl 0 rfl ?_
  refine jAloadn C dX0_becomeRestOf_1 rfl 1 rfl ?_
  refine gf_RX0_15 C hp1 dX0_becomeRestOf_2 ?_
  refine jAloadn C dX0_becomeRestOf_5 rfl 0 rfl ?_
  refine gf_RX0_15 C hi0 dX0_becomeRestOf_6 ?_
  refine jLdc2 C (x := (-1 : Int64)) lk_RX0_57 dX0_becomeRestOf_9 ?_
  refine jLxor C dX0_becomeRestOf_12 ?_
  refine jLand C dX0_becomeRestOf_13 ?_
  refine pf_RX0_15 C hi0 dX0_becomeRestOf_14 ?_
  refine jAloadn C dX0_becomeRestOf_17 rfl 0 rfl ?_
  refine jAloadn C dX0_becomeRestOf_18 rfl 1 rfl ?_
  refine gf_RX0_19 C hp1 dX0_becomeRestOf_19 ?_
  refine jAloadn C dX0_becomeRestOf_22 rfl 0 rfl ?_
  refine gf_RX0_19 C hi0 dX0_becomeRestOf_23 ?_
  refine jLdc2 C (x := (-1 : Int64)) lk_RX0_57 dX0_becomeRestOf_26 ?_
  refine jLxor C dX0_becomeRestOf_29 ?_
  refine jLand C dX0_becomeRestOf_30 ?_
  refine pf_RX0_19 C hi0 dX0_becomeRestOf_31 ?_
  cases hf
  exact jEndV C hQ rfl dX0_becomeRestOf_34
noncomputable def X0_becomeLowest (cP : Nat → Int32) (cLo : Nat → Int64) (cHi : Nat → Int64) (i0 : Nat) (p1 : Nat) : Option ((Nat → Int32) × (Nat → Int64) × (Nat → Int64)) := bd3 (X0_becomeShade cP cLo cHi i0 p1) (fun cP_1 cLo_2 cHi_3 => bd2 (X0_closeUp cP_1 cLo_2 cHi_3 i0) (fun cLo_5 cHi_6 => bd2 (X0_becomeRestOf cLo_5 cHi_6 i0 p1) (fun cLo_8 cHi_9 => some (cP_1, cLo_8, cHi_9))))
set_option maxHeartbeats 4000000 in
set_option maxRecDepth 20000 in
theorem X0_becomeLowest_ok {i0 : Nat} {p1 : Nat} {ocP : Nat → Int32} {ocLo : Nat → Int64} {ocHi : Nat → Int64} (hi0 : i0 < 28) (hp1 : p1 < 28) (hf : X0_becomeLowest cP cLo cHi i0 p1 = some (ocP, ocLo, ocHi)) : MT yX0_becomeLowest cX0_becomeLowest 2 none 2 [.ref (g i0), .ref (g p1)] D cy G (cw g cy cP cLo cHi cpl ctb ctl ctf ctp ctk cts cth cob col cso cha chs cbe ctr cgl cgh cll clh cta cme cps cwh cal cah) (cw g cy ocP ocLo ocHi cpl ctb ctl ctf ctp ctk cts cth cob col cso cha chs cbe ctr cgl cgh cll clh cta cme cps cwh cal cah) none := by
  refine MT.go (own := RX0) [(0, .ref (g i0)), (1, .ref (g p1))] (by decide) rfl (Nat.le_of_ble_eq_true rfl) rfl (fun p l e s m args below meth c A Q C hQ => ?_)
  unfold X0_becomeLowest at hf
  refine jAloadn C dX0_becomeLowest_0 rfl 0 rfl ?_
  refine jAloadn C dX0_becomeLowest_1 rfl 1 rfl ?_
  obtain ⟨cP_1, cLo_2, cHi_3, e4, hf⟩ := bd3_some hf
  refine jVV C (X0_becomeShade_ok hi0 hp1 e4) vb_X0_becomeShade mk_RX0_89 rfl (rcF hi0) ⟨Nat.le_of_ble_eq_true rfl, Nat.le_of_ble_eq_true rfl⟩ rfl (Nat.le_of_ble_eq_true rfl) dX0_becomeLowest_2 ?_
  refine jAloadn C dX0_becomeLowest_5 rfl 0 rfl ?_
  obtain ⟨cLo_5, cHi_6, e7, hf⟩ := bd2_some hf
  refine jVV C (X0_closeUp_ok hi0 e7) vb_X0_closeUp mk_RX0_92 rfl (rcF hi0) ⟨Nat.le_of_ble_eq_true rfl, Nat.le_of_ble_eq_true rfl⟩ rfl (Nat.le_of_ble_eq_true rfl) dX0_becomeLowest_6 ?_
  refine jAloadn C dX0_becomeLowest_9 rfl 0 rfl ?_
  refine jAloadn C dX0_becomeLowest_10 rfl 1 rfl ?_
  obtain ⟨cLo_8, cHi_9, e10, hf⟩ := bd2_some hf
  refine jVV C (X0_becomeRestOf_ok hi0 hp1 e10) vb_X0_becomeRestOf mk_RX0_95 rfl (rcF hi0) ⟨Nat.le_of_ble_eq_true rfl, Nat.le_of_ble_eq_true rfl⟩ rfl (Nat.le_of_ble_eq_true rfl) dX0_becomeLowest_11 ?_
  cases hf
  exact jEndV C hQ rfl dX0_becomeLowest_14
noncomputable def X0_becomeHighest (cP : Nat → Int32) (cLo : Nat → Int64) (cHi : Nat → Int64) (i0 : Nat) (p1 : Nat) : Option ((Nat → Int32) × (Nat → Int64) × (Nat → Int64)) := bd3 (X0_becomeShadow cP cLo cHi i0 p1) (fun cP_1 cLo_2 cHi_3 => bd2 (X0_closeDown cP_1 cLo_2 cHi_3 i0) (fun cLo_5 cHi_6 => bd2 (X0_becomeRestOf cLo_5 cHi_6 i0 p1) (fun cLo_8 cHi_9 => some (cP_1, cLo_8, cHi_9))))
set_option maxHeartbeats 4000000 in
set_option maxRecDepth 20000 in
theorem X0_becomeHighest_ok {i0 : Nat} {p1 : Nat} {ocP : Nat → Int32} {ocLo : Nat → Int64} {ocHi : Nat → Int64} (hi0 : i0 < 28) (hp1 : p1 < 28) (hf : X0_becomeHighest cP cLo cHi i0 p1 = some (ocP, ocLo, ocHi)) : MT yX0_becomeHighest cX0_becomeHighest 2 none 2 [.ref (g i0), .ref (g p1)] D cy G (cw g cy cP cLo cHi cpl ctb ctl ctf ctp ctk cts cth cob col cso cha chs cbe ctr cgl cgh cll clh cta cme cps cwh cal cah) (cw g cy ocP ocLo ocHi cpl ctb ctl ctf ctp ctk cts cth cob col cso cha chs cbe ctr cgl cgh cll clh cta cme cps cwh cal cah) none := by
  refine MT.go (own := RX0) [(0, .ref (g i0)), (1, .ref (g p1))] (by decide) rfl (Nat.le_of_ble_eq_true rfl) rfl (fun p l e s m args below meth c A Q C hQ => ?_)
  unfold X0_becomeHighest at hf
  refine jAloadn C dX0_becomeHighest_0 rfl 0 rfl ?_
  refine jAloadn C dX0_becomeHighest_1 rfl 1 rfl ?_
  obtain ⟨cP_1, cLo_2, cHi_3, e4, hf⟩ := bd3_some hf
  refine jVV C (X0_becomeShadow_ok hi0 hp1 e4) vb_X0_becomeShadow mk_RX0_98 rfl (rcF hi0) ⟨Nat.le_of_ble_eq_true rfl, Nat.le_of_ble_eq_true rfl⟩ rfl (Nat.le_of_ble_eq_true rfl) dX0_becomeHighest_2 ?_
  refine jAloadn C dX0_becomeHighest_5 rfl 0 rfl ?_
  obtain ⟨cLo_5, cHi_6, e7, hf⟩ := bd2_some hf
  refine jVV C (X0_closeDown_ok hi0 e7) vb_X0_closeDown mk_RX0_101 rfl (rcF hi0) ⟨Nat.le_of_ble_eq_true rfl, Nat.le_of_ble_eq_true rfl⟩ rfl (Nat.le_of_ble_eq_true rfl) dX0_becomeHighest_6 ?_
  refine jAloadn C dX0_becomeHighest_9 rfl 0 rfl ?_
  refine jAloadn C dX0_becomeHighest_10 rfl 1 rfl ?_
  obtain ⟨cLo_8, cHi_9, e10, hf⟩ := bd2_some hf
  refine jVV C (X0_becomeRestOf_ok hi0 hp1 e10) vb_X0_becomeRestOf mk_RX0_95 rfl (rcF hi0) ⟨Nat.le_of_ble_eq_true rfl, Nat.le_of_ble_eq_true rfl⟩ rfl (Nat.le_of_ble_eq_true rfl) dX0_becomeHighest_11 ?_
  cases hf
  exact jEndV C hQ rfl dX0_becomeHighest_14
noncomputable def X0_becomeAnswers (cP : Nat → Int32) (cLo : Nat → Int64) (cHi : Nat → Int64) (i0 : Nat) (p1 : Nat) : Option ((Nat → Int32) × (Nat → Int64) × (Nat → Int64)) := bd3 (X0_become cP cLo cHi i0 p1) (fun cP_1 cLo_2 cHi_3 => bd2 (X0_closeUp cP_1 cLo_2 cHi_3 i0) (fun cLo_5 cHi_6 => bd2 (X0_turnOver cP_1 cLo_5 cHi_6 i0) (fun cLo_8 cHi_9 => bd3 (X0_fill cP_1 cLo_8 cHi_9 i0 (cP_1 p1)) (fun cP_11 cLo_12 cHi_13 => some (cP_11, (va_up cLo_12 i0 ((cLo_12 i0) &&& ((cLo_8 i0) ^^^ (-1 : Int64)))), (va_up cHi_13 i0 ((cHi_13 i0) &&& ((cHi_9 i0) ^^^ (-1 : Int64)))))))))
set_option maxHeartbeats 4000000 in
set_option maxRecDepth 20000 in
theorem X0_becomeAnswers_ok {i0 : Nat} {p1 : Nat} {ocP : Nat → Int32} {ocLo : Nat → Int64} {ocHi : Nat → Int64} (hi0 : i0 < 28) (hp1 : p1 < 28) (hf : X0_becomeAnswers cP cLo cHi i0 p1 = some (ocP, ocLo, ocHi)) : MT yX0_becomeAnswers cX0_becomeAnswers 6 none 2 [.ref (g i0), .ref (g p1)] D cy G (cw g cy cP cLo cHi cpl ctb ctl ctf ctp ctk cts cth cob col cso cha chs cbe ctr cgl cgh cll clh cta cme cps cwh cal cah) (cw g cy ocP ocLo ocHi cpl ctb ctl ctf ctp ctk cts cth cob col cso cha chs cbe ctr cgl cgh cll clh cta cme cps cwh cal cah) none := by
  refine MT.go (own := RX0) [(0, .ref (g i0)), (1, .ref (g p1))] (by decide) rfl (Nat.le_of_ble_eq_true rfl) rfl (fun p l e s m args below meth c A Q C hQ => ?_)
  unfold X0_becomeAnswers at hf
  refine jAloadn C dX0_becomeAnswers_0 rfl 0 rfl ?_
  refine jAloadn C dX0_becomeAnswers_1 rfl 1 rfl ?_
  obtain ⟨cP_1, cLo_2, cHi_3, e4, hf⟩ := bd3_some hf
  refine jVV C (X0_become_ok hi0 hp1 e4) vb_X0_become mk_RX0_76 rfl (rcF hi0) ⟨Nat.le_of_ble_eq_true rfl, Nat.le_of_ble_eq_true rfl⟩ rfl (Nat.le_of_ble_eq_true rfl) dX0_becomeAnswers_2 ?_
  refine jAloadn C dX0_becomeAnswers_5 rfl 0 rfl ?_
  obtain ⟨cLo_5, cHi_6, e7, hf⟩ := bd2_some hf
  refine jVV C (X0_closeUp_ok hi0 e7) vb_X0_closeUp mk_RX0_92 rfl (rcF hi0) ⟨Nat.le_of_ble_eq_true rfl, Nat.le_of_ble_eq_true rfl⟩ rfl (Nat.le_of_ble_eq_true rfl) dX0_becomeAnswers_6 ?_
  refine jAloadn C dX0_becomeAnswers_9 rfl 0 rfl ?_
  obtain ⟨cLo_8, cHi_9, e10, hf⟩ := bd2_some hf
  refine jVV C (X0_turnOver_ok hi0 e10) vb_X0_turnOver mk_RX0_104 rfl (rcF hi0) ⟨Nat.le_of_ble_eq_true rfl, Nat.le_of_ble_eq_true rfl⟩ rfl (Nat.le_of_ble_eq_true rfl) dX0_becomeAnswers_10 ?_
  refine jAloadn C dX0_becomeAnswers_13 rfl 0 rfl ?_
  refine gf_RX0_15 C hi0 dX0_becomeAnswers_14 ?_
  refine jLdc2 C (x := (-1 : Int64)) lk_RX0_57 dX0_becomeAnswers_17 ?_
  refine jLxor C dX0_becomeAnswers_20 ?_
  refine jLstoren C dX0_becomeAnswers_21 rfl (Nat.le_of_ble_eq_true rfl) [(2, .long ((cLo_8 i0) ^^^ (-1 : Int64))), (0, .ref (g i0)), (1, .ref (g p1))] rfl ?_
  refine jAloadn C dX0_becomeAnswers_22 rfl 1 rfl ?_
  refine gf_RX0_19 C hi0 dX0_becomeAnswers_23 ?_
  refine jLdc2 C (x := (-1 : Int64)) lk_RX0_57 dX0_becomeAnswers_26 ?_
  refine jLxor C dX0_becomeAnswers_29 ?_
  refine jLstore C dX0_becomeAnswers_30 (Nat.le_of_ble_eq_true rfl) [(4, .long ((cHi_9 i0) ^^^ (-1 : Int64))), (2, .long ((cLo_8 i0) ^^^ (-1 : Int64))), (0, .ref (g i0)), (1, .ref (g p1))] rfl ?_
  refine jAloadn C dX0_becomeAnswers_32 rfl 2 rfl ?_
  refine jAloadn C dX0_becomeAnswers_33 rfl 3 rfl ?_
  refine gf_RX0_9 C hp1 dX0_becomeAnswers_34 ?_
  obtain ⟨cP_11, cLo_12, cHi_13, e14, hf⟩ := bd3_some hf
  refine jVV C (X0_fill_ok hi0 e14) vb_X0_fill mk_RX0_107 rfl (rcF hi0) ⟨Nat.le_of_ble_eq_true rfl, Nat.le_of_ble_eq_true rfl⟩ rfl (Nat.le_of_ble_eq_true rfl) dX0_becomeAnswers_37 ?_
  refine jAloadn C dX0_becomeAnswers_40 rfl 2 rfl ?_
  refine jDup C dX0_becomeAnswers_41 rfl ?_
  refine gf_RX0_15 C hi0 dX0_becomeAnswers_42 ?_
  refine jLloadn C dX0_becomeAnswers_45 rfl 1 rfl ?_
  refine jLand C dX0_becomeAnswers_46 ?_
  refine pf_RX0_15 C hi0 dX0_becomeAnswers_47 ?_
  refine jAloadn C dX0_becomeAnswers_50 rfl 2 rfl ?_
  refine jDup C dX0_becomeAnswers_51 rfl ?_
  refine gf_RX0_19 C hi0 dX0_becomeAnswers_52 ?_
  refine jLload C dX0_becomeAnswers_55 0 rfl ?_
  refine jLand C dX0_becomeAnswers_57 ?_
  refine pf_RX0_19 C hi0 dX0_becomeAnswers_58 ?_
  cases hf
  exact jEndV C hQ rfl dX0_becomeAnswers_61
noncomputable def X0_becomeComparable (cP : Nat → Int32) (cLo : Nat → Int64) (cHi : Nat → Int64) (i0 : Nat) (p1 : Nat) (p2 : Int32) (p3 : Nat) : Option ((Nat → Int32) × (Nat → Int64) × (Nat → Int64)) := bd3 (X0_become cP cLo cHi p3 p1) (fun cP_1 cLo_2 cHi_3 => bd2 (X0_keepSharing cLo_2 cHi_3 p3 ((127 : Int32) &&& (p2 ^^^ (-1 : Int32))) (0 : Int32)) (fun cLo_5 cHi_6 => bd3 (X0_become cP_1 cLo_5 cHi_6 i0 p1) (fun cP_8 cLo_9 cHi_10 => bd2 (X0_keepSharing cLo_9 cHi_10 i0 p2 p2) (fun cLo_12 cHi_13 => bd2 (X0_join cLo_12 cHi_13 i0 p3) (fun cLo_15 cHi_16 => some (cP_8, cLo_15, cHi_16))))))
set_option maxHeartbeats 4000000 in
set_option maxRecDepth 20000 in
theorem X0_becomeComparable_ok {i0 : Nat} {p1 : Nat} {p2 : Int32} {p3 : Nat} {ocP : Nat → Int32} {ocLo : Nat → Int64} {ocHi : Nat → Int64} (hi0 : i0 < 28) (hp1 : p1 < 28) (hp3 : p3 < 28) (hf : X0_becomeComparable cP cLo cHi i0 p1 p2 p3 = some (ocP, ocLo, ocHi)) : MT yX0_becomeComparable cX0_becomeComparable 4 none 2 [.ref (g i0), .ref (g p1), .int p2, .ref (g p3)] D cy G (cw g cy cP cLo cHi cpl ctb ctl ctf ctp ctk cts cth cob col cso cha chs cbe ctr cgl cgh cll clh cta cme cps cwh cal cah) (cw g cy ocP ocLo ocHi cpl ctb ctl ctf ctp ctk cts cth cob col cso cha chs cbe ctr cgl cgh cll clh cta cme cps cwh cal cah) none := by
  refine MT.go (own := RX0) [(0, .ref (g i0)), (1, .ref (g p1)), (2, .int p2), (3, .ref (g p3))] (by decide) rfl (Nat.le_of_ble_eq_true rfl) rfl (fun p l e s m args below meth c A Q C hQ => ?_)
  unfold X0_becomeComparable at hf
  refine jAloadn C dX0_becomeComparable_0 rfl 3 rfl ?_
  refine jAloadn C dX0_becomeComparable_1 rfl 1 rfl ?_
  obtain ⟨cP_1, cLo_2, cHi_3, e4, hf⟩ := bd3_some hf
  refine jVV C (X0_become_ok hp3 hp1 e4) vb_X0_become mk_RX0_76 rfl (rcF hp3) ⟨Nat.le_of_ble_eq_true rfl, Nat.le_of_ble_eq_true rfl⟩ rfl (Nat.le_of_ble_eq_true rfl) dX0_becomeComparable_2 ?_
  refine jAloadn C dX0_becomeComparable_5 rfl 3 rfl ?_
  refine jBipush C (127 : Int32) dX0_becomeComparable_6 kb_127 ?_
  refine jIloadn C dX0_becomeComparable_8 rfl 2 rfl ?_
  refine jIconst C (-1 : Int32) dX0_becomeComparable_9 ki_m1 ?_
  refine jIxor C dX0_becomeComparable_10 ?_
  refine jIand C dX0_becomeComparable_11 ?_
  refine jIconst C (0 : Int32) dX0_becomeComparable_12 ki_0 ?_
  obtain ⟨cLo_5, cHi_6, e7, hf⟩ := bd2_some hf
  refine jVV C (X0_keepSharing_ok hp3 e7) vb_X0_keepSharing mk_RX0_110 rfl (rcF hp3) ⟨Nat.le_of_ble_eq_true rfl, Nat.le_of_ble_eq_true rfl⟩ rfl (Nat.le_of_ble_eq_true rfl) dX0_becomeComparable_13 ?_
  refine jAloadn C dX0_becomeComparable_16 rfl 0 rfl ?_
  refine jAloadn C dX0_becomeComparable_17 rfl 1 rfl ?_
  obtain ⟨cP_8, cLo_9, cHi_10, e11, hf⟩ := bd3_some hf
  refine jVV C (X0_become_ok hi0 hp1 e11) vb_X0_become mk_RX0_76 rfl (rcF hi0) ⟨Nat.le_of_ble_eq_true rfl, Nat.le_of_ble_eq_true rfl⟩ rfl (Nat.le_of_ble_eq_true rfl) dX0_becomeComparable_18 ?_
  refine jAloadn C dX0_becomeComparable_21 rfl 0 rfl ?_
  refine jIloadn C dX0_becomeComparable_22 rfl 2 rfl ?_
  refine jIloadn C dX0_becomeComparable_23 rfl 2 rfl ?_
  obtain ⟨cLo_12, cHi_13, e14, hf⟩ := bd2_some hf
  refine jVV C (X0_keepSharing_ok hi0 e14) vb_X0_keepSharing mk_RX0_110 rfl (rcF hi0) ⟨Nat.le_of_ble_eq_true rfl, Nat.le_of_ble_eq_true rfl⟩ rfl (Nat.le_of_ble_eq_true rfl) dX0_becomeComparable_24 ?_
  refine jAloadn C dX0_becomeComparable_27 rfl 0 rfl ?_
  refine jAloadn C dX0_becomeComparable_28 rfl 3 rfl ?_
  obtain ⟨cLo_15, cHi_16, e17, hf⟩ := bd2_some hf
  refine jVV C (X0_join_ok hi0 hp3 e17) vb_X0_join mk_RX0_83 rfl (rcF hi0) ⟨Nat.le_of_ble_eq_true rfl, Nat.le_of_ble_eq_true rfl⟩ rfl (Nat.le_of_ble_eq_true rfl) dX0_becomeComparable_29 ?_
  cases hf
  exact jEndV C hQ rfl dX0_becomeComparable_32
noncomputable def X0_becomeReplaced (cP : Nat → Int32) (cLo : Nat → Int64) (cHi : Nat → Int64) (i0 : Nat) (p1 : Nat) (p2 : Int32) (p3 : Int32) : Option ((Nat → Int32) × (Nat → Int64) × (Nat → Int64)) := bd3 (X0_clear cP cLo cHi i0 (cP p1)) (fun cP_1 cLo_2 cHi_3 => bd2 (X0_joinLink cLo_2 cHi_3 i0 p1 p2) (fun cLo_5 cHi_6 => bd2 (X0_keepLacking cLo_5 cHi_6 i0 p3) (fun cLo_8 cHi_9 => bd2 (X0_joinRaised cLo_8 cHi_9 i0 i0 p3) (fun cLo_11 cHi_12 => bd2 (X0_keepWith cLo_11 cHi_12 i0 p3) (fun cLo_14 cHi_15 => some (cP_1, cLo_14, cHi_15))))))
set_option maxHeartbeats 4000000 in
set_option maxRecDepth 20000 in
theorem X0_becomeReplaced_ok {i0 : Nat} {p1 : Nat} {p2 : Int32} {p3 : Int32} {ocP : Nat → Int32} {ocLo : Nat → Int64} {ocHi : Nat → Int64} (hi0 : i0 < 28) (hp1 : p1 < 28) (hf : X0_becomeReplaced cP cLo cHi i0 p1 p2 p3 = some (ocP, ocLo, ocHi)) : MT yX0_becomeReplaced cX0_becomeReplaced 4 none 1 [.ref (g i0), .ref (g p1), .int p2, .int p3] D cy G (cw g cy cP cLo cHi cpl ctb ctl ctf ctp ctk cts cth cob col cso cha chs cbe ctr cgl cgh cll clh cta cme cps cwh cal cah) (cw g cy ocP ocLo ocHi cpl ctb ctl ctf ctp ctk cts cth cob col cso cha chs cbe ctr cgl cgh cll clh cta cme cps cwh cal cah) none := by
  refine MT.go (own := RX0) [(0, .ref (g i0)), (1, .ref (g p1)), (2, .int p2), (3, .int p3)] (by decide) rfl (Nat.le_of_ble_eq_true rfl) rfl (fun p l e s m args below meth c A Q C hQ => ?_)
  unfold X0_becomeReplaced at hf
  refine jAloadn C dX0_becomeReplaced_0 rfl 0 rfl ?_
  refine jAloadn C dX0_becomeReplaced_1 rfl 1 rfl ?_
  refine gf_RX0_9 C hp1 dX0_becomeReplaced_2 ?_
  obtain ⟨cP_1, cLo_2, cHi_3, e4, hf⟩ := bd3_some hf
  refine jVV C (X0_clear_ok hi0 e4) vb_X0_clear mk_RX0_66 rfl (rcF hi0) ⟨Nat.le_of_ble_eq_true rfl, Nat.le_of_ble_eq_true rfl⟩ rfl (Nat.le_of_ble_eq_true rfl) dX0_becomeReplaced_5 ?_
  refine jAloadn C dX0_becomeReplaced_8 rfl 0 rfl ?_
  refine jAloadn C dX0_becomeReplaced_9 rfl 1 rfl ?_
  refine jIloadn C dX0_becomeReplaced_10 rfl 2 rfl ?_
  obtain ⟨cLo_5, cHi_6, e7, hf⟩ := bd2_some hf
  refine jVV C (X0_joinLink_ok hi0 hp1 e7) vb_X0_joinLink mk_RX0_69 rfl (rcF hi0) ⟨Nat.le_of_ble_eq_true rfl, Nat.le_of_ble_eq_true rfl⟩ rfl (Nat.le_of_ble_eq_true rfl) dX0_becomeReplaced_11 ?_
  refine jAloadn C dX0_becomeReplaced_14 rfl 0 rfl ?_
  refine jIloadn C dX0_becomeReplaced_15 rfl 3 rfl ?_
  obtain ⟨cLo_8, cHi_9, e10, hf⟩ := bd2_some hf
  refine jVV C (X0_keepLacking_ok hi0 e10) vb_X0_keepLacking mk_RX0_63 rfl (rcF hi0) ⟨Nat.le_of_ble_eq_true rfl, Nat.le_of_ble_eq_true rfl⟩ rfl (Nat.le_of_ble_eq_true rfl) dX0_becomeReplaced_16 ?_
  refine jAloadn C dX0_becomeReplaced_19 rfl 0 rfl ?_
  refine jAloadn C dX0_becomeReplaced_20 rfl 0 rfl ?_
  refine jIloadn C dX0_becomeReplaced_21 rfl 3 rfl ?_
  obtain ⟨cLo_11, cHi_12, e13, hf⟩ := bd2_some hf
  refine jVV C (X0_joinRaised_ok hi0 hi0 e13) vb_X0_joinRaised mk_RX0_73 rfl (rcF hi0) ⟨Nat.le_of_ble_eq_true rfl, Nat.le_of_ble_eq_true rfl⟩ rfl (Nat.le_of_ble_eq_true rfl) dX0_becomeReplaced_22 ?_
  refine jAloadn C dX0_becomeReplaced_25 rfl 0 rfl ?_
  refine jIloadn C dX0_becomeReplaced_26 rfl 3 rfl ?_
  obtain ⟨cLo_14, cHi_15, e16, hf⟩ := bd2_some hf
  refine jVV C (X0_keepWith_ok hi0 e16) vb_X0_keepWith mk_RX0_59 rfl (rcF hi0) ⟨Nat.le_of_ble_eq_true rfl, Nat.le_of_ble_eq_true rfl⟩ rfl (Nat.le_of_ble_eq_true rfl) dX0_becomeReplaced_27 ?_
  cases hf
  exact jEndV C hQ rfl dX0_becomeReplaced_30
noncomputable def X0_exchange (cP : Nat → Int32) (cLo : Nat → Int64) (cHi : Nat → Int64) (i0 : Nat) (p1 : Int32) (p2 : Int32) (p3 : Nat) (p4 : Nat) : Option ((Nat → Int32) × (Nat → Int64) × (Nat → Int64)) := bd3 (X0_becomeReplaced cP cLo cHi p3 i0 p1 p2) (fun cP_1 cLo_2 cHi_3 => bd3 (X0_becomeReplaced cP_1 cLo_2 cHi_3 p4 i0 p2 p1) (fun cP_5 cLo_6 cHi_7 => bd2 (X0_join cLo_6 cHi_7 p3 p4) (fun cLo_9 cHi_10 => bd3 (X0_become cP_5 cLo_9 cHi_10 p4 i0) (fun cP_12 cLo_13 cHi_14 => bd2 (X0_keepLacking cLo_13 cHi_14 p4 p1) (fun cLo_16 cHi_17 => bd2 (X0_keepLacking cLo_16 cHi_17 p4 p2) (fun cLo_19 cHi_20 => bd2 (X0_keepWith cLo_19 cHi_20 i0 p1) (fun cLo_22 cHi_23 => bd2 (X0_keepWith cLo_22 cHi_23 i0 p2) (fun cLo_25 cHi_26 => bd2 (X0_join cLo_25 cHi_26 i0 p4) (fun cLo_28 cHi_29 => bd2 (X0_join cLo_28 cHi_29 i0 p3) (fun cLo_31 cHi_32 => some (cP_12, cLo_31, cHi_32)))))))))))
set_option maxHeartbeats 4000000 in
set_option maxRecDepth 20000 in
theorem X0_exchange_ok {i0 : Nat} {p1 : Int32} {p2 : Int32} {p3 : Nat} {p4 : Nat} {ocP : Nat → Int32} {ocLo : Nat → Int64} {ocHi : Nat → Int64} (hi0 : i0 < 28) (hp3 : p3 < 28) (hp4 : p4 < 28) (hf : X0_exchange cP cLo cHi i0 p1 p2 p3 p4 = some (ocP, ocLo, ocHi)) : MT yX0_exchange cX0_exchange 5 none 2 [.ref (g i0), .int p1, .int p2, .ref (g p3), .ref (g p4)] D cy G (cw g cy cP cLo cHi cpl ctb ctl ctf ctp ctk cts cth cob col cso cha chs cbe ctr cgl cgh cll clh cta cme cps cwh cal cah) (cw g cy ocP ocLo ocHi cpl ctb ctl ctf ctp ctk cts cth cob col cso cha chs cbe ctr cgl cgh cll clh cta cme cps cwh cal cah) none := by
  refine MT.go (own := RX0) [(0, .ref (g i0)), (1, .int p1), (2, .int p2), (3, .ref (g p3)), (4, .ref (g p4))] (by decide) rfl (Nat.le_of_ble_eq_true rfl) rfl (fun p l e s m args below meth c A Q C hQ => ?_)
  unfold X0_exchange at hf
  refine jAloadn C dX0_exchange_0 rfl 3 rfl ?_
  refine jAloadn C dX0_exchange_1 rfl 0 rfl ?_
  refine jIloadn C dX0_exchange_2 rfl 1 rfl ?_
  refine jIloadn C dX0_exchange_3 rfl 2 rfl ?_
  obtain ⟨cP_1, cLo_2, cHi_3, e4, hf⟩ := bd3_some hf
  refine jVV C (X0_becomeReplaced_ok hp3 hi0 e4) vb_X0_becomeReplaced mk_RX0_114 rfl (rcF hp3) ⟨Nat.le_of_ble_eq_true rfl, Nat.le_of_ble_eq_true rfl⟩ rfl (Nat.le_of_ble_eq_true rfl) dX0_exchange_4 ?_
  refine jAload C dX0_exchange_7 4 rfl ?_
  refine jAloadn C dX0_exchange_9 rfl 0 rfl ?_
  refine jIloadn C dX0_exchange_10 rfl 2 rfl ?_
  refine jIloadn C dX0_exchange_11 rfl 1 rfl ?_
  obtain ⟨cP_5, cLo_6, cHi_7, e8, hf⟩ := bd3_some hf
  refine jVV C (X0_becomeReplaced_ok hp4 hi0 e8) vb_X0_becomeReplaced mk_RX0_114 rfl (rcF hp4) ⟨Nat.le_of_ble_eq_true rfl, Nat.le_of_ble_eq_true rfl⟩ rfl (Nat.le_of_ble_eq_true rfl) dX0_exchange_12 ?_
  refine jAloadn C dX0_exchange_15 rfl 3 rfl ?_
  refine jAload C dX0_exchange_16 4 rfl ?_
  obtain ⟨cLo_9, cHi_10, e11, hf⟩ := bd2_some hf
  refine jVV C (X0_join_ok hp3 hp4 e11) vb_X0_join mk_RX0_83 rfl (rcF hp3) ⟨Nat.le_of_ble_eq_true rfl, Nat.le_of_ble_eq_true rfl⟩ rfl (Nat.le_of_ble_eq_true rfl) dX0_exchange_18 ?_
  refine jAload C dX0_exchange_21 4 rfl ?_
  refine jAloadn C dX0_exchange_23 rfl 0 rfl ?_
  obtain ⟨cP_12, cLo_13, cHi_14, e15, hf⟩ := bd3_some hf
  refine jVV C (X0_become_ok hp4 hi0 e15) vb_X0_become mk_RX0_76 rfl (rcF hp4) ⟨Nat.le_of_ble_eq_true rfl, Nat.le_of_ble_eq_true rfl⟩ rfl (Nat.le_of_ble_eq_true rfl) dX0_exchange_24 ?_
  refine jAload C dX0_exchange_27 4 rfl ?_
  refine jIloadn C dX0_exchange_29 rfl 1 rfl ?_
  obtain ⟨cLo_16, cHi_17, e18, hf⟩ := bd2_some hf
  refine jVV C (X0_keepLacking_ok hp4 e18) vb_X0_keepLacking mk_RX0_63 rfl (rcF hp4) ⟨Nat.le_of_ble_eq_true rfl, Nat.le_of_ble_eq_true rfl⟩ rfl (Nat.le_of_ble_eq_true rfl) dX0_exchange_30 ?_
  refine jAload C dX0_exchange_33 4 rfl ?_
  refine jIloadn C dX0_exchange_35 rfl 2 rfl ?_
  obtain ⟨cLo_19, cHi_20, e21, hf⟩ := bd2_some hf
  refine jVV C (X0_keepLacking_ok hp4 e21) vb_X0_keepLacking mk_RX0_63 rfl (rcF hp4) ⟨Nat.le_of_ble_eq_true rfl, Nat.le_of_ble_eq_true rfl⟩ rfl (Nat.le_of_ble_eq_true rfl) dX0_exchange_36 ?_
  refine jAloadn C dX0_exchange_39 rfl 0 rfl ?_
  refine jIloadn C dX0_exchange_40 rfl 1 rfl ?_
  obtain ⟨cLo_22, cHi_23, e24, hf⟩ := bd2_some hf
  refine jVV C (X0_keepWith_ok hi0 e24) vb_X0_keepWith mk_RX0_59 rfl (rcF hi0) ⟨Nat.le_of_ble_eq_true rfl, Nat.le_of_ble_eq_true rfl⟩ rfl (Nat.le_of_ble_eq_true rfl) dX0_exchange_41 ?_
  refine jAloadn C dX0_exchange_44 rfl 0 rfl ?_
  refine jIloadn C dX0_exchange_45 rfl 2 rfl ?_
  obtain ⟨cLo_25, cHi_26, e27, hf⟩ := bd2_some hf
  refine jVV C (X0_keepWith_ok hi0 e27) vb_X0_keepWith mk_RX0_59 rfl (rcF hi0) ⟨Nat.le_of_ble_eq_true rfl, Nat.le_of_ble_eq_true rfl⟩ rfl (Nat.le_of_ble_eq_true rfl) dX0_exchange_46 ?_
  refine jAloadn C dX0_exchange_49 rfl 0 rfl ?_
  refine jAload C dX0_exchange_50 4 rfl ?_
  obtain ⟨cLo_28, cHi_29, e30, hf⟩ := bd2_some hf
  refine jVV C (X0_join_ok hi0 hp4 e30) vb_X0_join mk_RX0_83 rfl (rcF hi0) ⟨Nat.le_of_ble_eq_true rfl, Nat.le_of_ble_eq_true rfl⟩ rfl (Nat.le_of_ble_eq_true rfl) dX0_exchange_52 ?_
  refine jAloadn C dX0_exchange_55 rfl 0 rfl ?_
  refine jAloadn C dX0_exchange_56 rfl 3 rfl ?_
  obtain ⟨cLo_31, cHi_32, e33, hf⟩ := bd2_some hf
  refine jVV C (X0_join_ok hi0 hp3 e33) vb_X0_join mk_RX0_83 rfl (rcF hi0) ⟨Nat.le_of_ble_eq_true rfl, Nat.le_of_ble_eq_true rfl⟩ rfl (Nat.le_of_ble_eq_true rfl) dX0_exchange_57 ?_
  cases hf
  exact jEndV C hQ rfl dX0_exchange_60
end WK
