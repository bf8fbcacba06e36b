section WK
variable {g h : Nat → Nat} {cP : Nat → Int32} {cLo : Nat → Int64} {cHi : Nat → Int64} {cpl : Nat → Int32} {ctb : Nat → Int32} {ctl : Int32} {ctf : Int32} {ctp : Int32} {ctk : Int32} {cts : Int32} {cth : Int32} {cob : Nat → Int32} {col : Int32} {cso : Nat → Int32} {cha : Int32} {chs : Int32} {cbe : Int32} {ctr : Int32} {cgl : Nat → Int64} {cgh : Nat → Int64} {cll : Nat → Int64} {clh : Nat → Int64} {cta : Nat → Int32} {cme : Nat → Int32} {cps : Int32} {cwh : Nat → Int32} {cal : Nat → Int64} {cah : Nat → Int64} {mthr : Int32} {mfrp : Int32} {mact : Int32} {mtpd : Int32} {msiz : Int32} {matx : Int32} {mfrm : Int32} {mtok : Int32} {mval : Int32} {mfk : Int32} {mfpl : Int32} {mbem : Int32} {mtrs : Int32} {mtrl : Int32} {mrom : Int32} {mtom : Int32} {mnow : Nat → Int32} {mfre : Nat → Int32} {mkep : Nat → Int32} {mtap : Nat → Int32} {mlef : Nat → Int32} {mtak : Nat → Int32} {mbes : Nat → Int32} {mrow : Nat → Int32} {mint : Nat → Int32} {mrnd : Nat → Int32} {mplo : Nat → Int32} {mhio : Nat → Int32} {mtox : Nat → Int32} {mtol : Nat → Int32}
variable {D : va_G} {cy : Nat → ClassId} {G : Nat → Nat}
noncomputable def X8_takes (cP : Nat → Int32) (cLo : Nat → Int64) (cHi : Nat → Int64) (cso : Nat → Int32) (cha : Int32) (chs : Int32) (cbe : Int32) (ctr : Int32) (cgl : Nat → Int64) (cgh : Nat → Int64) (cll : Nat → Int64) (clh : Nat → Int64) (cta : Nat → Int32) (p1 : Int32) (p2 : Int32) (p3 : Int32) (p4 : Int32) : Option (Int32 × (Nat → Int32) × (Nat → Int64) × (Nat → Int64) × (Nat → Int32) × Int32 × Int32 × Int32 × Int32 × (Nat → Int64) × (Nat → Int64) × (Nat → Int64) × (Nat → Int64) × (Nat → Int32)) := bdo (X8_familyAt cP p1) (some ((-2 : Int32), cP, cLo, cHi, cso, cha, chs, cbe, ctr, cgl, cgh, cll, clh, cta)) (fun f1 => bd1 (X8_isSearch p2 p3) (fun q3 => (if q3 = (0 : Int32) then some ((-2 : Int32), cP, cLo, cHi, cso, cha, chs, cbe, ctr, cgl, cgh, cll, clh, cta) else bd1 (X8_isSlot p4) (fun q6 => (if q6 = (0 : Int32) then some ((-2 : Int32), cP, cLo, cHi, cso, cha, chs, cbe, ctr, cgl, cgh, cll, clh, cta) else bd11 (X5_run cP cLo cHi cgl cgh cll clh cta f1 p2 p3) (fun q9 cP_10 cLo_11 cHi_12 cbe_13 ctr_14 cgl_15 cgh_16 cll_17 clh_18 cta_19 => (if q9 = (0 : Int32) then some ((-3 : Int32), cP_10, cLo_11, cHi_12, cso, cha, chs, cbe_13, ctr_14, cgl_15, cgh_16, cll_17, clh_18, cta_19) else bd7 (X8_comesInto cP_10 cLo_11 cHi_12 cso cha chs p4 16) (fun q22 cP_23 cLo_24 cHi_25 cso_26 cha_27 chs_28 => some (ctr_14, cP_23, cLo_24, cHi_25, cso_26, cha_27, chs_28, cbe_13, ctr_14, cgl_15, cgh_16, cll_17, clh_18, cta_19)))))))))
set_option maxHeartbeats 4000000 in
set_option maxRecDepth 20000 in
theorem X8_takes_ok {p1 : Int32} {p2 : Int32} {p3 : Int32} {p4 : Int32} {rr : Int32} {ocP : Nat → Int32} {ocLo : Nat → Int64} {ocHi : Nat → Int64} {ocso : Nat → Int32} {ocha : Int32} {ochs : Int32} {ocbe : Int32} {octr : Int32} {ocgl : Nat → Int64} {ocgh : Nat → Int64} {ocll : Nat → Int64} {oclh : Nat → Int64} {octa : Nat → Int32}  (hf : X8_takes cP cLo cHi cso cha chs cbe ctr cgl cgh cll clh cta p1 p2 p3 p4 = some (rr, ocP, ocLo, ocHi, ocso, ocha, ochs, ocbe, octr, ocgl, ocgh, ocll, oclh, octa)) : MT yX8_takes cX8_takes 6 (some .int) 6 [.ref (g 28), .int p1, .int p2, .int p3, .int p4] D cy G (cw g cy cP cLo cHi cpl ctb ctl ctf ctp ctk cts cth cob col cso cha chs cbe ctr cgl cgh cll clh cta cme cps cwh cal cah) (cw g cy ocP ocLo ocHi cpl ctb ctl ctf ctp ctk cts cth cob col ocso ocha ochs ocbe octr ocgl ocgh ocll oclh octa cme cps cwh cal cah) (some (.int rr)) := by
  refine MT.go (own := RX8) [(0, .ref (g 28)), (1, .int p1), (2, .int p2), (3, .int p3), (4, .int p4)] (by decide) rfl (Nat.le_of_ble_eq_true rfl) rfl (fun p l e s m args below meth c A Q C hQ => ?_)
  unfold X8_takes at hf
  refine jAloadn C dX8_takes_0 rfl 0 rfl ?_
  refine jIloadn C dX8_takes_1 rfl 1 rfl ?_
  rcases bdo_some hf with ⟨q2, hf⟩ | ⟨f1, q2, hf⟩
  · refine jVN C (X8_familyAt_ok  q2) vb_X8_familyAt mk_RX8_102 rfl rc28 ⟨Nat.le_of_ble_eq_true rfl, Nat.le_of_ble_eq_true rfl⟩ rfl (Nat.le_of_ble_eq_true rfl) dX8_takes_2 ?_
    refine jAstoreN C dX8_takes_5 (Nat.le_of_ble_eq_true rfl) [(5, .null), (0, .ref (g 28)), (1, .int p1), (2, .int p2), (3, .int p3), (4, .int p4)] rfl ?_
    refine jAloadN C dX8_takes_7 0 rfl ?_
    refine jIfnullN C 28 dX8_takes_9 (by decide) ?_
    refine jBipush C (-2 : Int32) dX8_takes_28 kb_m2 ?_
    cases hf
    exact jEndI C hQ rfl dX8_takes_30
  · refine jVA C (X8_familyAt_ok  q2) vb_X8_familyAt mk_RX8_102 rfl rc28 ⟨Nat.le_of_ble_eq_true rfl, Nat.le_of_ble_eq_true rfl⟩ rfl (Nat.le_of_ble_eq_true rfl) dX8_takes_2 ?_
    refine jAstore C dX8_takes_5 (Nat.le_of_ble_eq_true rfl) [(5, .ref (g f1)), (0, .ref (g 28)), (1, .int p1), (2, .int p2), (3, .int p3), (4, .int p4)] rfl ?_
    refine jAload C dX8_takes_7 0 rfl ?_
    refine jIfnull C dX8_takes_9 ?_
    refine jIloadn C dX8_takes_12 rfl 3 rfl ?_
    refine jIloadn C dX8_takes_13 rfl 4 rfl ?_
    obtain ⟨q3, e4, hf⟩ := bd1_some hf
    refine jSI C (X8_isSearch_ok  e4) sb_X8_isSearch mk_RX8_203 rfl ⟨Nat.le_of_ble_eq_true rfl, Nat.le_of_ble_eq_true rfl⟩ rfl (Nat.le_of_ble_eq_true rfl) dX8_takes_14 ?_
    refine jIfEq C 28 dX8_takes_17 (by decide) (fun c5 => ?_) (fun c5 => ?_)
    · replace hf := itp hf c5
      refine jBipush C (-2 : Int32) dX8_takes_28 kb_m2 ?_
      cases hf
      exact jEndI C hQ rfl dX8_takes_30
    · replace hf := itn hf c5
      refine jIload C dX8_takes_20 5 rfl ?_
      obtain ⟨q6, e7, hf⟩ := bd1_some hf
      refine jSI C (X8_isSlot_ok  e7) sb_X8_isSlot mk_RX8_77 rfl ⟨Nat.le_of_ble_eq_true rfl, Nat.le_of_ble_eq_true rfl⟩ rfl (Nat.le_of_ble_eq_true rfl) dX8_takes_22 ?_
      refine jIfNe C 31 dX8_takes_25 (by decide) (fun c8 => ?_) (fun c8 => ?_)
      · replace hf := itn hf c8
        refine jAloadn C dX8_takes_31 rfl 1 rfl ?_
        refine gf_RX8_54 C dX8_takes_32 ?_
        refine jAload C dX8_takes_35 0 rfl ?_
        refine jIloadn C dX8_takes_37 rfl 3 rfl ?_
        refine jIloadn C dX8_takes_38 rfl 4 rfl ?_
        obtain ⟨q9, cP_10, cLo_11, cHi_12, cbe_13, ctr_14, cgl_15, cgh_16, cll_17, clh_18, cta_19, e20, hf⟩ := bd11_some hf
        refine jVI C (X5_run_ok (X8_familyAt_lt q2) e20) vb_X5_run mk_RX8_206 rfl rc38 ⟨Nat.le_of_ble_eq_true rfl, Nat.le_of_ble_eq_true rfl⟩ rfl (Nat.le_of_ble_eq_true rfl) dX8_takes_39 ?_
        refine jIfNe C 48 dX8_takes_42 (by decide) (fun c21 => ?_) (fun c21 => ?_)
        · replace hf := itn hf c21
          refine jAloadn C dX8_takes_48 rfl 1 rfl ?_
          refine jIload C dX8_takes_49 5 rfl ?_
          refine jAloadn C dX8_takes_51 rfl 1 rfl ?_
          refine gf_RX8_54 C dX8_takes_52 ?_
          refine gf_RX8_212 C dX8_takes_55 ?_
          obtain ⟨q22, cP_23, cLo_24, cHi_25, cso_26, cha_27, chs_28, e29, hf⟩ := bd7_some hf
          refine jVI C (X8_comesInto_ok (by decide) e29) vb_X8_comesInto mk_RX8_84 rfl rc28 ⟨Nat.le_of_ble_eq_true rfl, Nat.le_of_ble_eq_true rfl⟩ rfl (Nat.le_of_ble_eq_true rfl) dX8_takes_58 ?_
          refine jPop C dX8_takes_61 rfl ?_
          refine jAloadn C dX8_takes_62 rfl 1 rfl ?_
          refine gf_RX8_54 C dX8_takes_63 ?_
          refine gf_RX8_215 C dX8_takes_66 ?_
          cases hf
          exact jEndI C hQ rfl dX8_takes_69
        · replace hf := itp hf c21
          refine jBipush C (-3 : Int32) dX8_takes_45 kb_m3 ?_
          cases hf
          exact jEndI C hQ rfl dX8_takes_47
      · replace hf := itp hf c8
        refine jBipush C (-2 : Int32) dX8_takes_28 kb_m2 ?_
        cases hf
        exact jEndI C hQ rfl dX8_takes_30
noncomputable def X8_cover (cP : Nat → Int32) (cLo : Nat → Int64) (cHi : Nat → Int64) (p1 : Int32) : Option (Int32 × (Nat → Int32) × (Nat → Int64) × (Nat → Int64)) := bdo (X8_familyAt cP p1) (some ((-2 : Int32), cP, cLo, cHi)) (fun f1 => bd3 (X0_becomeAnswers cP cLo cHi 3 f1) (fun cP_3 cLo_4 cHi_5 => bd1 (X0_leastLevel cP_3 cLo_4 cHi_5 3) (fun q7 => bd1 (X0_firstOfLevel cP_3 cLo_4 cHi_5 3 q7) (fun q9 => some (q9, cP_3, cLo_4, cHi_5)))))
set_option maxHeartbeats 4000000 in
set_option maxRecDepth 20000 in
theorem X8_cover_ok {p1 : Int32} {rr : Int32} {ocP : Nat → Int32} {ocLo : Nat → Int64} {ocHi : Nat → Int64}  (hf : X8_cover cP cLo cHi p1 = some (rr, ocP, ocLo, ocHi)) : MT yX8_cover cX8_cover 3 (some .int) 3 [.ref (g 28), .int p1] D cy G (cw g cy cP cLo cHi cpl ctb ctl ctf ctp ctk cts cth cob col cso cha chs cbe ctr cgl cgh cll clh cta cme cps cwh cal cah) (cw g cy ocP ocLo ocHi cpl ctb ctl ctf ctp ctk cts cth cob col cso cha chs cbe ctr cgl cgh cll clh cta cme cps cwh cal cah) (some (.int rr)) := by
  refine MT.go (own := RX8) [(0, .ref (g 28)), (1, .int p1)] (by decide) rfl (Nat.le_of_ble_eq_true rfl) rfl (fun p l e s m args below meth c A Q C hQ => ?_)
  unfold X8_cover at hf
  refine jAloadn C dX8_cover_0 rfl 0 rfl ?_
  refine jIloadn C dX8_cover_1 rfl 1 rfl ?_
  rcases bdo_some hf with ⟨q2, hf⟩ | ⟨f1, q2, hf⟩
  · refine jVN C (X8_familyAt_ok  q2) vb_X8_familyAt mk_RX8_102 rfl rc28 ⟨Nat.le_of_ble_eq_true rfl, Nat.le_of_ble_eq_true rfl⟩ rfl (Nat.le_of_ble_eq_true rfl) dX8_cover_2 ?_
    refine jAstorenN C dX8_cover_5 rfl (Nat.le_of_ble_eq_true rfl) [(2, .null), (0, .ref (g 28)), (1, .int p1)] rfl ?_
    refine jAloadnN C dX8_cover_6 rfl 0 rfl ?_
    refine jIfnonnullN C dX8_cover_7 ?_
    refine jBipush C (-2 : Int32) dX8_cover_10 kb_m2 ?_
    cases hf
    exact jEndI C hQ rfl dX8_cover_12
  · refine jVA C (X8_familyAt_ok  q2) vb_X8_familyAt mk_RX8_102 rfl rc28 ⟨Nat.le_of_ble_eq_true rfl, Nat.le_of_ble_eq_true rfl⟩ rfl (Nat.le_of_ble_eq_true rfl) dX8_cover_2 ?_
    refine jAstoren C dX8_cover_5 rfl (Nat.le_of_ble_eq_true rfl) [(2, .ref (g f1)), (0, .ref (g 28)), (1, .int p1)] rfl ?_
    refine jAloadn C dX8_cover_6 rfl 0 rfl ?_
    refine jIfnonnull C 13 dX8_cover_7 (by decide) ?_
    refine jAloadn C dX8_cover_13 rfl 1 rfl ?_
    refine gf_RX8_16 C dX8_cover_14 ?_
    refine jAloadn C dX8_cover_17 rfl 0 rfl ?_
    obtain ⟨cP_3, cLo_4, cHi_5, e6, hf⟩ := bd3_some hf
    refine jVV C (X0_becomeAnswers_ok (by decide) (X8_familyAt_lt q2) e6) vb_X0_becomeAnswers mk_RX8_218 rfl (rcF (by decide)) ⟨Nat.le_of_ble_eq_true rfl, Nat.le_of_ble_eq_true rfl⟩ rfl (Nat.le_of_ble_eq_true rfl) dX8_cover_18 ?_
    refine jAloadn C dX8_cover_21 rfl 1 rfl ?_
    refine gf_RX8_16 C dX8_cover_22 ?_
    refine jAloadn C dX8_cover_25 rfl 1 rfl ?_
    refine gf_RX8_16 C dX8_cover_26 ?_
    obtain ⟨q7, e8, hf⟩ := bd1_some hf
    refine jVI C (X0_leastLevel_ok (by decide) e8) vb_X0_leastLevel mk_RX8_221 rfl (rcF (by decide)) ⟨Nat.le_of_ble_eq_true rfl, Nat.le_of_ble_eq_true rfl⟩ rfl (Nat.le_of_ble_eq_true rfl) dX8_cover_29 ?_
    obtain ⟨q9, e10, hf⟩ := bd1_some hf
    refine jVI C (X0_firstOfLevel_ok (by decide) e10) vb_X0_firstOfLevel mk_RX8_224 rfl (rcF (by decide)) ⟨Nat.le_of_ble_eq_true rfl, Nat.le_of_ble_eq_true rfl⟩ rfl (Nat.le_of_ble_eq_true rfl) dX8_cover_32 ?_
    cases hf
    exact jEndI C hQ rfl dX8_cover_35
noncomputable def X8_colours_h43 (f1 : Nat) (p2 : Int32) (r22 : Int32 → (Nat → Int32) → (Nat → Int64) → (Nat → Int64) → (Nat → Int32) → Int32 → (Nat → Int32) → (Nat → Int64) → (Nat → Int64) → Option (Int32 × (Nat → Int32) × (Nat → Int64) × (Nat → Int64) × (Nat → Int32) × Int32 × (Nat → Int32) × (Nat → Int64) × (Nat → Int64))) (x4_12 : Int32) (cP_13 : Nat → Int32) (cLo_14 : Nat → Int64) (cHi_15 : Nat → Int64) (cme_16 : Nat → Int32) (cps_17 : Int32) (cwh_18 : Nat → Int32) (cal_19 : Nat → Int64) (cah_20 : Nat → Int64) : Option (Int32 × (Nat → Int32) × (Nat → Int64) × (Nat → Int64) × (Nat → Int32) × Int32 × (Nat → Int32) × (Nat → Int64) × (Nat → Int64)) := (if (7 : Int32) < x4_12 then some ((-1 : Int32), cP_13, cLo_14, cHi_15, cme_16, cps_17, cwh_18, cal_19, cah_20) else bd9 (X3_run cP_13 cLo_14 cHi_15 cme_16 cwh_18 cal_19 cah_20 f1 x4_12 p2) (fun q24 cP_25 cLo_26 cHi_27 cme_28 cps_29 cwh_30 cal_31 cah_32 => (if q24 = (1 : Int32) then r22 (x4_12 + (1 : Int32)) cP_25 cLo_26 cHi_27 cme_28 cps_29 cwh_30 cal_31 cah_32 else (if q24 = (0 : Int32) then some (x4_12, cP_25, cLo_26, cHi_27, cme_28, cps_29, cwh_30, cal_31, cah_32) else some ((-3 : Int32), cP_25, cLo_26, cHi_27, cme_28, cps_29, cwh_30, cal_31, cah_32)))))
noncomputable def X8_colours (cP : Nat → Int32) (cLo : Nat → Int64) (cHi : Nat → Int64) (cme : Nat → Int32) (cps : Int32) (cwh : Nat → Int32) (cal : Nat → Int64) (cah : Nat → Int64) (p1 : Int32) (p2 : Int32) : Option (Int32 × (Nat → Int32) × (Nat → Int64) × (Nat → Int64) × (Nat → Int32) × Int32 × (Nat → Int32) × (Nat → Int64) × (Nat → Int64)) := bdo (X8_familyAt cP p1) (some ((-2 : Int32), cP, cLo, cHi, cme, cps, cwh, cal, cah)) (fun f1 => bd1 (X8_isTries p2) (fun q3 => (if q3 = (0 : Int32) then some ((-2 : Int32), cP, cLo, cHi, cme, cps, cwh, cal, cah) else bd1 (X0_holds cLo cHi f1 (0 : Int32)) (fun q6 => (if q6 = (0 : Int32) then bd1 (X0_isEmpty cLo cHi f1) (fun q9 => (if q9 = (0 : Int32) then lfp9 (X8_colours_h43 f1 p2) (1 : Int32) cP cLo cHi cme cps cwh cal cah else some ((0 : Int32), cP, cLo, cHi, cme, cps, cwh, cal, cah))) else some ((-6 : Int32), cP, cLo, cHi, cme, cps, cwh, cal, cah))))))
set_option maxHeartbeats 4000000 in
set_option maxRecDepth 20000 in
theorem X8_colours_ok {p1 : Int32} {p2 : Int32} {rr : Int32} {ocP : Nat → Int32} {ocLo : Nat → Int64} {ocHi : Nat → Int64} {ocme : Nat → Int32} {ocps : Int32} {ocwh : Nat → Int32} {ocal : Nat → Int64} {ocah : Nat → Int64}  (hf : X8_colours cP cLo cHi cme cps cwh cal cah p1 p2 = some (rr, ocP, ocLo, ocHi, ocme, ocps, ocwh, ocal, ocah)) : MT yX8_colours cX8_colours 6 (some .int) 4 [.ref (g 28), .int p1, .int p2] D cy G (cw g cy cP cLo cHi cpl ctb ctl ctf ctp ctk cts cth cob col cso cha chs cbe ctr cgl cgh cll clh cta cme cps cwh cal cah) (cw g cy ocP ocLo ocHi cpl ctb ctl ctf ctp ctk cts cth cob col cso cha chs cbe ctr cgl cgh cll clh cta ocme ocps ocwh ocal ocah) (some (.int rr)) := by
  refine MT.go (own := RX8) [(0, .ref (g 28)), (1, .int p1), (2, .int p2)] (by decide) rfl (Nat.le_of_ble_eq_true rfl) rfl (fun p l e s m args below meth c A Q C hQ => ?_)
  unfold X8_colours at hf
  refine jAloadn C dX8_colours_0 rfl 0 rfl ?_
  refine jIloadn C dX8_colours_1 rfl 1 rfl ?_
  rcases bdo_some hf with ⟨q2, hf⟩ | ⟨f1, q2, hf⟩
  · refine jVN C (X8_familyAt_ok  q2) vb_X8_familyAt mk_RX8_102 rfl rc28 ⟨Nat.le_of_ble_eq_true rfl, Nat.le_of_ble_eq_true rfl⟩ rfl (Nat.le_of_ble_eq_true rfl) dX8_colours_2 ?_
    refine jAstorenN C dX8_colours_5 rfl (Nat.le_of_ble_eq_true rfl) [(3, .null), (0, .ref (g 28)), (1, .int p1), (2, .int p2)] rfl ?_
    refine jAloadnN C dX8_colours_6 rfl 0 rfl ?_
    refine jIfnullN C 17 dX8_colours_7 (by decide) ?_
    refine jBipush C (-2 : Int32) dX8_colours_17 kb_m2 ?_
    cases hf
    exact jEndI C hQ rfl dX8_colours_19
  · refine jVA C (X8_familyAt_ok  q2) vb_X8_familyAt mk_RX8_102 rfl rc28 ⟨Nat.le_of_ble_eq_true rfl, Nat.le_of_ble_eq_true rfl⟩ rfl (Nat.le_of_ble_eq_true rfl) dX8_colours_2 ?_
    refine jAstoren C dX8_colours_5 rfl (Nat.le_of_ble_eq_true rfl) [(3, .ref (g f1)), (0, .ref (g 28)), (1, .int p1), (2, .int p2)] rfl ?_
    refine jAloadn C dX8_colours_6 rfl 0 rfl ?_
    refine jIfnull C dX8_colours_7 ?_
    refine jIloadn C dX8_colours_10 rfl 3 rfl ?_
    obtain ⟨q3, e4, hf⟩ := bd1_some hf
    refine jSI C (X8_isTries_ok  e4) sb_X8_isTries mk_RX8_227 rfl ⟨Nat.le_of_ble_eq_true rfl, Nat.le_of_ble_eq_true rfl⟩ rfl (Nat.le_of_ble_eq_true rfl) dX8_colours_11 ?_
    refine jIfNe C 20 dX8_colours_14 (by decide) (fun c5 => ?_) (fun c5 => ?_)
    · replace hf := itn hf c5
      refine jAloadn C dX8_colours_20 rfl 0 rfl ?_
      refine jIconst C (0 : Int32) dX8_colours_21 ki_0 ?_
      obtain ⟨q6, e7, hf⟩ := bd1_some hf
      refine jVI C (X0_holds_ok (X8_familyAt_lt q2) e7) vb_X0_holds mk_RX8_120 rfl (rcF (X8_familyAt_lt q2)) ⟨Nat.le_of_ble_eq_true rfl, Nat.le_of_ble_eq_true rfl⟩ rfl (Nat.le_of_ble_eq_true rfl) dX8_colours_22 ?_
      refine jIfEq C 31 dX8_colours_25 (by decide) (fun c8 => ?_) (fun c8 => ?_)
      · replace hf := itp hf c8
        refine jAloadn C dX8_colours_31 rfl 0 rfl ?_
        obtain ⟨q9, e10, hf⟩ := bd1_some hf
        refine jVI C (X0_isEmpty_ok (X8_familyAt_lt q2) e10) vb_X0_isEmpty mk_RX8_230 rfl (rcF (X8_familyAt_lt q2)) ⟨Nat.le_of_ble_eq_true rfl, Nat.le_of_ble_eq_true rfl⟩ rfl (Nat.le_of_ble_eq_true rfl) dX8_colours_32 ?_
        refine jIfEq C 40 dX8_colours_35 (by decide) (fun c11 => ?_) (fun c11 => ?_)
        · replace hf := itp hf c11
          refine jIconst C (1 : Int32) dX8_colours_40 ki_1 ?_
          refine jIstore C dX8_colours_41 (Nat.le_of_ble_eq_true rfl) [(4, .int (1 : Int32)), (3, .ref (g f1)), (0, .ref (g 28)), (1, .int p1), (2, .int p2)] rfl ?_
          have hL21 : ∀ (x4_12 : Int32) (cP_13 : Nat → Int32) (cLo_14 : Nat → Int64) (cHi_15 : Nat → Int64) (cme_16 : Nat → Int32) (cps_17 : Int32) (cwh_18 : Nat → Int32) (cal_19 : Nat → Int64) (cah_20 : Nat → Int64), lfp9 (X8_colours_h43 f1 p2) x4_12 cP_13 cLo_14 cHi_15 cme_16 cps_17 cwh_18 cal_19 cah_20 = some (rr, ocP, ocLo, ocHi, ocme, ocps, ocwh, ocal, ocah) → J p l e (rmk 4) s m args below meth c D A Q 6 (cw g cy cP_13 cLo_14 cHi_15 cpl ctb ctl ctf ctp ctk cts cth cob col cso cha chs cbe ctr cgl cgh cll clh cta cme_16 cps_17 cwh_18 cal_19 cah_20) 43 [(0, .ref (g 28)), (2, .int p2), (3, .ref (g f1)), (4, .int x4_12)] [] := by
            intro x4_12 cP_13 cLo_14 cHi_15 cme_16 cps_17 cwh_18 cal_19 cah_20 hw
            refine lfp9_walk (P := fun x4_12 cP_13 cLo_14 cHi_15 cme_16 cps_17 cwh_18 cal_19 cah_20 => J p l e (rmk 4) s m args below meth c D A Q 6 (cw g cy cP_13 cLo_14 cHi_15 cpl ctb ctl ctf ctp ctk cts cth cob col cso cha chs cbe ctr cgl cgh cll clh cta cme_16 cps_17 cwh_18 cal_19 cah_20) 43 [(0, .ref (g 28)), (2, .int p2), (3, .ref (g f1)), (4, .int x4_12)] []) ?_ hw
            intro r22 ir22 x4_12 cP_13 cLo_14 cHi_15 cme_16 cps_17 cwh_18 cal_19 cah_20 hf
            unfold X8_colours_h43 at hf
            refine jIload C dX8_colours_43 3 rfl ?_
            refine jBipush C (7 : Int32) dX8_colours_45 kb_7 ?_
            refine jCmpGt C 88 dX8_colours_47 (by decide) (fun c23 => ?_) (fun c23 => ?_)
            · replace hf := itp hf c23
              refine jIconst C (-1 : Int32) dX8_colours_88 ki_m1 ?_
              cases hf
              exact jEndI C hQ rfl dX8_colours_89
            · replace hf := itn hf c23
              refine jAloadn C dX8_colours_50 rfl 0 rfl ?_
              refine gf_RX8_61 C dX8_colours_51 ?_
              refine jAloadn C dX8_colours_54 rfl 2 rfl ?_
              refine jIload C dX8_colours_55 3 rfl ?_
              refine jIloadn C dX8_colours_57 rfl 1 rfl ?_
              obtain ⟨q24, cP_25, cLo_26, cHi_27, cme_28, cps_29, cwh_30, cal_31, cah_32, e33, hf⟩ := bd9_some hf
              refine jVI C (X3_run_ok (X8_familyAt_lt q2) e33) vb_X3_run mk_RX8_234 rfl rc44 ⟨Nat.le_of_ble_eq_true rfl, Nat.le_of_ble_eq_true rfl⟩ rfl (Nat.le_of_ble_eq_true rfl) dX8_colours_58 ?_
              refine jIstore C dX8_colours_61 (Nat.le_of_ble_eq_true rfl) [(5, .int q24), (0, .ref (g 28)), (2, .int p2), (3, .ref (g f1)), (4, .int x4_12)] rfl ?_
              refine jIload C dX8_colours_63 0 rfl ?_
              refine jIconst C (1 : Int32) dX8_colours_65 ki_1 ?_
              refine jCmpEq C 82 dX8_colours_66 (by decide) (fun c34 => ?_) (fun c34 => ?_)
              · replace hf := itp hf c34
                refine jIinc C (x4_12 + (1 : Int32)) dX8_colours_82 4 rfl (congrArg (fun z : Int32 => x4_12 + z) ki_1) (Nat.le_of_ble_eq_true rfl) [(4, .int (x4_12 + (1 : Int32))), (5, .int q24), (0, .ref (g 28)), (2, .int p2), (3, .ref (g f1))] rfl ?_
                refine jGoto C 43 dX8_colours_85 (by decide) ?_
                refine jSub [2, 3, 4, 0] rfl ?_
                exact ir22 (x4_12 + (1 : Int32)) cP_25 cLo_26 cHi_27 cme_28 cps_29 cwh_30 cal_31 cah_32 hf
              · replace hf := itn hf c34
                refine jIload C dX8_colours_69 0 rfl ?_
                refine jIfNe C 79 dX8_colours_71 (by decide) (fun c35 => ?_) (fun c35 => ?_)
                · replace hf := itn hf c35
                  refine jBipush C (-3 : Int32) dX8_colours_79 kb_m3 ?_
                  cases hf
                  exact jEndI C hQ rfl dX8_colours_81
                · replace hf := itp hf c35
                  refine jIload C dX8_colours_74 4 rfl ?_
                  refine jGoto C 81 dX8_colours_76 (by decide) ?_
                  cases hf
                  exact jEndI C hQ rfl dX8_colours_81
          refine jSub [2, 4, 1, 0] rfl ?_
          exact hL21 (1 : Int32) cP cLo cHi cme cps cwh cal cah hf
        · replace hf := itn hf c11
          refine jIconst C (0 : Int32) dX8_colours_38 ki_0 ?_
          cases hf
          exact jEndI C hQ rfl dX8_colours_39
      · replace hf := itn hf c8
        refine jBipush C (-6 : Int32) dX8_colours_28 kb_m6 ?_
        cases hf
        exact jEndI C hQ rfl dX8_colours_30
    · replace hf := itp hf c5
      refine jBipush C (-2 : Int32) dX8_colours_17 kb_m2 ?_
      cases hf
      exact jEndI C hQ rfl dX8_colours_19
noncomputable def X8_colour (cP : Nat → Int32) (cLo : Nat → Int64) (cHi : Nat → Int64) (cme : Nat → Int32) (cps : Int32) (cwh : Nat → Int32) (cal : Nat → Int64) (cah : Nat → Int64) (p1 : Int32) (p2 : Int32) (p3 : Int32) (p4 : Int32) : Option (Int32 × (Nat → Int32) × (Nat → Int64) × (Nat → Int64) × (Nat → Int32) × Int32 × (Nat → Int32) × (Nat → Int64) × (Nat → Int64)) := bdo (X8_familyAt cP p1) (some ((-2 : Int32), cP, cLo, cHi, cme, cps, cwh, cal, cah)) (fun f1 => (if p2 < (1 : Int32) then some ((-2 : Int32), cP, cLo, cHi, cme, cps, cwh, cal, cah) else (if (7 : Int32) < p2 then some ((-2 : Int32), cP, cLo, cHi, cme, cps, cwh, cal, cah) else bd1 (X8_isTries p3) (fun q5 => (if q5 = (0 : Int32) then some ((-2 : Int32), cP, cLo, cHi, cme, cps, cwh, cal, cah) else (if (0 : Int32) ≤ p4 then bd1 (X0_holds cLo cHi f1 (0 : Int32)) (fun q9 => (if q9 = (0 : Int32) then bd1 (X0_size cLo cHi f1) (fun q12 => (if p4 < q12 then bd9 (X3_run cP cLo cHi cme cwh cal cah f1 p2 p3) (fun q15 cP_16 cLo_17 cHi_18 cme_19 cps_20 cwh_21 cal_22 cah_23 => (if q15 = (2 : Int32) then some ((-3 : Int32), cP_16, cLo_17, cHi_18, cme_19, cps_20, cwh_21, cal_22, cah_23) else (if q15 = (0 : Int32) then bd1 (X3_partOf cps_20 cwh_21 p4) (fun q27 => some (q27, cP_16, cLo_17, cHi_18, cme_19, cps_20, cwh_21, cal_22, cah_23)) else some ((-1 : Int32), cP_16, cLo_17, cHi_18, cme_19, cps_20, cwh_21, cal_22, cah_23)))) else some ((-1 : Int32), cP, cLo, cHi, cme, cps, cwh, cal, cah))) else some ((-6 : Int32), cP, cLo, cHi, cme, cps, cwh, cal, cah))) else some ((-2 : Int32), cP, cLo, cHi, cme, cps, cwh, cal, cah)))))))
set_option maxHeartbeats 4000000 in
set_option maxRecDepth 20000 in
theorem X8_colour_ok {p1 : Int32} {p2 : Int32} {p3 : Int32} {p4 : Int32} {rr : Int32} {ocP : Nat → Int32} {ocLo : Nat → Int64} {ocHi : Nat → Int64} {ocme : Nat → Int32} {ocps : Int32} {ocwh : Nat → Int32} {ocal : Nat → Int64} {ocah : Nat → Int64}  (hf : X8_colour cP cLo cHi cme cps cwh cal cah p1 p2 p3 p4 = some (rr, ocP, ocLo, ocHi, ocme, ocps, ocwh, ocal, ocah)) : MT yX8_colour cX8_colour 7 (some .int) 4 [.ref (g 28), .int p1, .int p2, .int p3, .int p4] D cy G (cw g cy cP cLo cHi cpl ctb ctl ctf ctp ctk cts cth cob col cso cha chs cbe ctr cgl cgh cll clh cta cme cps cwh cal cah) (cw g cy ocP ocLo ocHi cpl ctb ctl ctf ctp ctk cts cth cob col cso cha chs cbe ctr cgl cgh cll clh cta ocme ocps ocwh ocal ocah) (some (.int rr)) := by
  refine MT.go (own := RX8) [(0, .ref (g 28)), (1, .int p1), (2, .int p2), (3, .int p3), (4, .int p4)] (by decide) rfl (Nat.le_of_ble_eq_true rfl) rfl (fun p l e s m args below meth c A Q C hQ => ?_)
  unfold X8_colour at hf
  refine jAloadn C dX8_colour_0 rfl 0 rfl ?_
  refine jIloadn C dX8_colour_1 rfl 1 rfl ?_
  rcases bdo_some hf with ⟨q2, hf⟩ | ⟨f1, q2, hf⟩
  · refine jVN C (X8_familyAt_ok  q2) vb_X8_familyAt mk_RX8_102 rfl rc28 ⟨Nat.le_of_ble_eq_true rfl, Nat.le_of_ble_eq_true rfl⟩ rfl (Nat.le_of_ble_eq_true rfl) dX8_colour_2 ?_
    refine jAstoreN C dX8_colour_5 (Nat.le_of_ble_eq_true rfl) [(5, .null), (0, .ref (g 28)), (1, .int p1), (2, .int p2), (3, .int p3), (4, .int p4)] rfl ?_
    refine jAloadN C dX8_colour_7 0 rfl ?_
    refine jIfnullN C 35 dX8_colour_9 (by decide) ?_
    refine jBipush C (-2 : Int32) dX8_colour_35 kb_m2 ?_
    cases hf
    exact jEndI C hQ rfl dX8_colour_37
  · refine jVA C (X8_familyAt_ok  q2) vb_X8_familyAt mk_RX8_102 rfl rc28 ⟨Nat.le_of_ble_eq_true rfl, Nat.le_of_ble_eq_true rfl⟩ rfl (Nat.le_of_ble_eq_true rfl) dX8_colour_2 ?_
    refine jAstore C dX8_colour_5 (Nat.le_of_ble_eq_true rfl) [(5, .ref (g f1)), (0, .ref (g 28)), (1, .int p1), (2, .int p2), (3, .int p3), (4, .int p4)] rfl ?_
    refine jAload C dX8_colour_7 0 rfl ?_
    refine jIfnull C dX8_colour_9 ?_
    refine jIloadn C dX8_colour_12 rfl 3 rfl ?_
    refine jIconst C (1 : Int32) dX8_colour_13 ki_1 ?_
    refine jCmpLt C 35 dX8_colour_14 (by decide) (fun c3 => ?_) (fun c3 => ?_)
    · replace hf := itp hf c3
      refine jBipush C (-2 : Int32) dX8_colour_35 kb_m2 ?_
      cases hf
      exact jEndI C hQ rfl dX8_colour_37
    · replace hf := itn hf c3
      refine jIloadn C dX8_colour_17 rfl 3 rfl ?_
      refine jBipush C (7 : Int32) dX8_colour_18 kb_7 ?_
      refine jCmpGt C 35 dX8_colour_20 (by decide) (fun c4 => ?_) (fun c4 => ?_)
      · replace hf := itp hf c4
        refine jBipush C (-2 : Int32) dX8_colour_35 kb_m2 ?_
        cases hf
        exact jEndI C hQ rfl dX8_colour_37
      · replace hf := itn hf c4
        refine jIloadn C dX8_colour_23 rfl 4 rfl ?_
        obtain ⟨q5, e6, hf⟩ := bd1_some hf
        refine jSI C (X8_isTries_ok  e6) sb_X8_isTries mk_RX8_227 rfl ⟨Nat.le_of_ble_eq_true rfl, Nat.le_of_ble_eq_true rfl⟩ rfl (Nat.le_of_ble_eq_true rfl) dX8_colour_24 ?_
        refine jIfEq C 35 dX8_colour_27 (by decide) (fun c7 => ?_) (fun c7 => ?_)
        · replace hf := itp hf c7
          refine jBipush C (-2 : Int32) dX8_colour_35 kb_m2 ?_
          cases hf
          exact jEndI C hQ rfl dX8_colour_37
        · replace hf := itn hf c7
          refine jIload C dX8_colour_30 5 rfl ?_
          refine jIfGe C 38 dX8_colour_32 (by decide) (fun c8 => ?_) (fun c8 => ?_)
          · replace hf := itp hf c8
            refine jAload C dX8_colour_38 0 rfl ?_
            refine jIconst C (0 : Int32) dX8_colour_40 ki_0 ?_
            obtain ⟨q9, e10, hf⟩ := bd1_some hf
            refine jVI C (X0_holds_ok (X8_familyAt_lt q2) e10) vb_X0_holds mk_RX8_120 rfl (rcF (X8_familyAt_lt q2)) ⟨Nat.le_of_ble_eq_true rfl, Nat.le_of_ble_eq_true rfl⟩ rfl (Nat.le_of_ble_eq_true rfl) dX8_colour_41 ?_
            refine jIfEq C 50 dX8_colour_44 (by decide) (fun c11 => ?_) (fun c11 => ?_)
            · replace hf := itp hf c11
              refine jIload C dX8_colour_50 5 rfl ?_
              refine jAload C dX8_colour_52 0 rfl ?_
              obtain ⟨q12, e13, hf⟩ := bd1_some hf
              refine jVI C (X0_size_ok (X8_familyAt_lt q2) e13) vb_X0_size mk_RX8_236 rfl (rcF (X8_familyAt_lt q2)) ⟨Nat.le_of_ble_eq_true rfl, Nat.le_of_ble_eq_true rfl⟩ rfl (Nat.le_of_ble_eq_true rfl) dX8_colour_54 ?_
              refine jCmpLt C 62 dX8_colour_57 (by decide) (fun c14 => ?_) (fun c14 => ?_)
              · replace hf := itp hf c14
                refine jAloadn C dX8_colour_62 rfl 1 rfl ?_
                refine gf_RX8_61 C dX8_colour_63 ?_
                refine jAload C dX8_colour_66 0 rfl ?_
                refine jIloadn C dX8_colour_68 rfl 3 rfl ?_
                refine jIloadn C dX8_colour_69 rfl 4 rfl ?_
                obtain ⟨q15, cP_16, cLo_17, cHi_18, cme_19, cps_20, cwh_21, cal_22, cah_23, e24, hf⟩ := bd9_some hf
                refine jVI C (X3_run_ok (X8_familyAt_lt q2) e24) vb_X3_run mk_RX8_234 rfl rc44 ⟨Nat.le_of_ble_eq_true rfl, Nat.le_of_ble_eq_true rfl⟩ rfl (Nat.le_of_ble_eq_true rfl) dX8_colour_70 ?_
                refine jIstore C dX8_colour_73 (Nat.le_of_ble_eq_true rfl) [(6, .int q15), (5, .ref (g f1)), (0, .ref (g 28)), (1, .int p1), (2, .int p2), (3, .int p3), (4, .int p4)] rfl ?_
                refine jIload C dX8_colour_75 0 rfl ?_
                refine jIconst C (2 : Int32) dX8_colour_77 ki_2 ?_
                refine jCmpNe C 84 dX8_colour_78 (by decide) (fun c25 => ?_) (fun c25 => ?_)
                · replace hf := itn hf c25
                  refine jIload C dX8_colour_84 0 rfl ?_
                  refine jIfNe C 101 dX8_colour_86 (by decide) (fun c26 => ?_) (fun c26 => ?_)
                  · replace hf := itn hf c26
                    refine jIconst C (-1 : Int32) dX8_colour_101 ki_m1 ?_
                    cases hf
                    exact jEndI C hQ rfl dX8_colour_102
                  · replace hf := itp hf c26
                    refine jAloadn C dX8_colour_89 rfl 2 rfl ?_
                    refine gf_RX8_61 C dX8_colour_90 ?_
                    refine jIload C dX8_colour_93 6 rfl ?_
                    obtain ⟨q27, e28, hf⟩ := bd1_some hf
                    refine jVI C (X3_partOf_ok  e28) vb_X3_partOf mk_RX8_238 rfl rc44 ⟨Nat.le_of_ble_eq_true rfl, Nat.le_of_ble_eq_true rfl⟩ rfl (Nat.le_of_ble_eq_true rfl) dX8_colour_95 ?_
                    refine jGoto C 102 dX8_colour_98 (by decide) ?_
                    cases hf
                    exact jEndI C hQ rfl dX8_colour_102
                · replace hf := itp hf c25
                  refine jBipush C (-3 : Int32) dX8_colour_81 kb_m3 ?_
                  cases hf
                  exact jEndI C hQ rfl dX8_colour_83
              · replace hf := itn hf c14
                refine jIconst C (-1 : Int32) dX8_colour_60 ki_m1 ?_
                cases hf
                exact jEndI C hQ rfl dX8_colour_61
            · replace hf := itn hf c11
              refine jBipush C (-6 : Int32) dX8_colour_47 kb_m6 ?_
              cases hf
              exact jEndI C hQ rfl dX8_colour_49
          · replace hf := itn hf c8
            refine jBipush C (-2 : Int32) dX8_colour_35 kb_m2 ?_
            cases hf
            exact jEndI C hQ rfl dX8_colour_37
noncomputable def X8_walk_h30 (cP_8 : Nat → Int32) (p3 : Int32) (r16 : Int32 → (Nat → Int64) → (Nat → Int64) → Option (Int32 × (Nat → Int32) × (Nat → Int64) × (Nat → Int64))) (x4_12 : Int32) (cLo_13 : Nat → Int64) (cHi_14 : Nat → Int64) : Option (Int32 × (Nat → Int32) × (Nat → Int64) × (Nat → Int64)) := (if (128 : Int32) ≤ x4_12 then some ((-1 : Int32), cP_8, cLo_13, cHi_14) else bd1 (X0_holds cLo_13 cHi_14 3 p3) (fun q18 => (if q18 = (0 : Int32) then bd2 (X0_lose cLo_13 cHi_14 5 3) (fun cLo_21 cHi_22 => bd2 (X0_closeUp cP_8 cLo_21 cHi_22 3) (fun cLo_24 cHi_25 => bd2 (X0_turnOver cP_8 cLo_24 cHi_25 3) (fun cLo_27 cHi_28 => bd2 (X0_keep cLo_27 cHi_28 3 5) (fun cLo_30 cHi_31 => bd1 (X0_isEmpty cLo_30 cHi_31 3) (fun q33 => (if q33 = (0 : Int32) then r16 (x4_12 + (1 : Int32)) cLo_30 cHi_31 else some ((-1 : Int32), cP_8, cLo_30, cHi_31))))))) else some (x4_12, cP_8, cLo_13, cHi_14))))
noncomputable def X8_walk (cP : Nat → Int32) (cLo : Nat → Int64) (cHi : Nat → Int64) (p1 : Nat) (p2 : Int32) (p3 : Int32) : Option (Int32 × (Nat → Int32) × (Nat → Int64) × (Nat → Int64)) := bd3 (X0_clear cP cLo cHi 3 (cP p1)) (fun cP_1 cLo_2 cHi_3 => bd2 (X0_put cLo_2 cHi_3 3 p2) (fun cLo_5 cHi_6 => bd3 (X0_become cP_1 cLo_5 cHi_6 5 p1) (fun cP_8 cLo_9 cHi_10 => lfp3 (X8_walk_h30 cP_8 p3) (0 : Int32) cLo_9 cHi_10)))
set_option maxHeartbeats 4000000 in
set_option maxRecDepth 20000 in
theorem X8_walk_ok {p1 : Nat} {p2 : Int32} {p3 : Int32} {rr : Int32} {ocP : Nat → Int32} {ocLo : Nat → Int64} {ocHi : Nat → Int64} (hp1 : p1 < 28) (hf : X8_walk cP cLo cHi p1 p2 p3 = some (rr, ocP, ocLo, ocHi)) : MT yX8_walk cX8_walk 5 (some .int) 2 [.ref (g 28), .ref (g p1), .int p2, .int p3] D cy G (cw g cy cP cLo cHi cpl ctb ctl ctf ctp ctk cts cth cob col cso cha chs cbe ctr cgl cgh cll clh cta cme cps cwh cal cah) (cw g cy ocP ocLo ocHi cpl ctb ctl ctf ctp ctk cts cth cob col cso cha chs cbe ctr cgl cgh cll clh cta cme cps cwh cal cah) (some (.int rr)) := by
  refine MT.go (own := RX8) [(0, .ref (g 28)), (1, .ref (g p1)), (2, .int p2), (3, .int p3)] (by decide) rfl (Nat.le_of_ble_eq_true rfl) rfl (fun p l e s m args below meth c A Q C hQ => ?_)
  unfold X8_walk at hf
  refine jAloadn C dX8_walk_0 rfl 0 rfl ?_
  refine gf_RX8_16 C dX8_walk_1 ?_
  refine jAloadn C dX8_walk_4 rfl 1 rfl ?_
  refine gf_RX8_133 C hp1 dX8_walk_5 ?_
  obtain ⟨cP_1, cLo_2, cHi_3, e4, hf⟩ := bd3_some hf
  refine jVV C (X0_clear_ok (by decide) e4) vb_X0_clear mk_RX8_146 rfl (rcF (by decide)) ⟨Nat.le_of_ble_eq_true rfl, Nat.le_of_ble_eq_true rfl⟩ rfl (Nat.le_of_ble_eq_true rfl) dX8_walk_8 ?_
  refine jAloadn C dX8_walk_11 rfl 0 rfl ?_
  refine gf_RX8_16 C dX8_walk_12 ?_
  refine jIloadn C dX8_walk_15 rfl 2 rfl ?_
  obtain ⟨cLo_5, cHi_6, e7, hf⟩ := bd2_some hf
  refine jVV C (X0_put_ok (by decide) e7) vb_X0_put mk_RX8_187 rfl (rcF (by decide)) ⟨Nat.le_of_ble_eq_true rfl, Nat.le_of_ble_eq_true rfl⟩ rfl (Nat.le_of_ble_eq_true rfl) dX8_walk_16 ?_
  refine jAloadn C dX8_walk_19 rfl 0 rfl ?_
  refine gf_RX8_23 C dX8_walk_20 ?_
  refine jAloadn C dX8_walk_23 rfl 1 rfl ?_
  obtain ⟨cP_8, cLo_9, cHi_10, e11, hf⟩ := bd3_some hf
  refine jVV C (X0_become_ok (by decide) hp1 e11) vb_X0_become mk_RX8_152 rfl (rcF (by decide)) ⟨Nat.le_of_ble_eq_true rfl, Nat.le_of_ble_eq_true rfl⟩ rfl (Nat.le_of_ble_eq_true rfl) dX8_walk_24 ?_
  refine jIconst C (0 : Int32) dX8_walk_27 ki_0 ?_
  refine jIstore C dX8_walk_28 (Nat.le_of_ble_eq_true rfl) [(4, .int (0 : Int32)), (0, .ref (g 28)), (1, .ref (g p1)), (2, .int p2), (3, .int p3)] rfl ?_
  have hL15 : ∀ (x4_12 : Int32) (cLo_13 : Nat → Int64) (cHi_14 : Nat → Int64), lfp3 (X8_walk_h30 cP_8 p3) x4_12 cLo_13 cHi_14 = some (rr, ocP, ocLo, ocHi) → J p l e (rmk 2) s m args below meth c D A Q 5 (cw g cy cP_8 cLo_13 cHi_14 cpl ctb ctl ctf ctp ctk cts cth cob col cso cha chs cbe ctr cgl cgh cll clh cta cme cps cwh cal cah) 30 [(0, .ref (g 28)), (3, .int p3), (4, .int x4_12)] [] := by
    intro x4_12 cLo_13 cHi_14 hw
    refine lfp3_walk (P := fun x4_12 cLo_13 cHi_14 => J p l e (rmk 2) s m args below meth c D A Q 5 (cw g cy cP_8 cLo_13 cHi_14 cpl ctb ctl ctf ctp ctk cts cth cob col cso cha chs cbe ctr cgl cgh cll clh cta cme cps cwh cal cah) 30 [(0, .ref (g 28)), (3, .int p3), (4, .int x4_12)] []) ?_ hw
    intro r16 ir16 x4_12 cLo_13 cHi_14 hf
    unfold X8_walk_h30 at hf
    refine jIload C dX8_walk_30 2 rfl ?_
    refine jSipush C (128 : Int32) dX8_walk_32 ks_128 ?_
    refine jCmpGe C 106 dX8_walk_35 (by decide) (fun c17 => ?_) (fun c17 => ?_)
    · replace hf := itp hf c17
      refine jIconst C (-1 : Int32) dX8_walk_106 ki_m1 ?_
      cases hf
      exact jEndI C hQ rfl dX8_walk_107
    · replace hf := itn hf c17
      refine jAloadn C dX8_walk_38 rfl 0 rfl ?_
      refine gf_RX8_16 C dX8_walk_39 ?_
      refine jIloadn C dX8_walk_42 rfl 1 rfl ?_
      obtain ⟨q18, e19, hf⟩ := bd1_some hf
      refine jVI C (X0_holds_ok (by decide) e19) vb_X0_holds mk_RX8_120 rfl (rcF (by decide)) ⟨Nat.le_of_ble_eq_true rfl, Nat.le_of_ble_eq_true rfl⟩ rfl (Nat.le_of_ble_eq_true rfl) dX8_walk_43 ?_
      refine jIfEq C 52 dX8_walk_46 (by decide) (fun c20 => ?_) (fun c20 => ?_)
      · replace hf := itp hf c20
        refine jAloadn C dX8_walk_52 rfl 0 rfl ?_
        refine gf_RX8_23 C dX8_walk_53 ?_
        refine jAloadn C dX8_walk_56 rfl 0 rfl ?_
        refine gf_RX8_16 C dX8_walk_57 ?_
        obtain ⟨cLo_21, cHi_22, e23, hf⟩ := bd2_some hf
        refine jVV C (X0_lose_ok (by decide) (by decide) e23) vb_X0_lose mk_RX8_310 rfl (rcF (by decide)) ⟨Nat.le_of_ble_eq_true rfl, Nat.le_of_ble_eq_true rfl⟩ rfl (Nat.le_of_ble_eq_true rfl) dX8_walk_60 ?_
        refine jAloadn C dX8_walk_63 rfl 0 rfl ?_
        refine gf_RX8_16 C dX8_walk_64 ?_
        obtain ⟨cLo_24, cHi_25, e26, hf⟩ := bd2_some hf
        refine jVV C (X0_closeUp_ok (by decide) e26) vb_X0_closeUp mk_RX8_376 rfl (rcF (by decide)) ⟨Nat.le_of_ble_eq_true rfl, Nat.le_of_ble_eq_true rfl⟩ rfl (Nat.le_of_ble_eq_true rfl) dX8_walk_67 ?_
        refine jAloadn C dX8_walk_70 rfl 0 rfl ?_
        refine gf_RX8_16 C dX8_walk_71 ?_
        obtain ⟨cLo_27, cHi_28, e29, hf⟩ := bd2_some hf
        refine jVV C (X0_turnOver_ok (by decide) e29) vb_X0_turnOver mk_RX8_379 rfl (rcF (by decide)) ⟨Nat.le_of_ble_eq_true rfl, Nat.le_of_ble_eq_true rfl⟩ rfl (Nat.le_of_ble_eq_true rfl) dX8_walk_74 ?_
        refine jAloadn C dX8_walk_77 rfl 0 rfl ?_
        refine gf_RX8_16 C dX8_walk_78 ?_
        refine jAloadn C dX8_walk_81 rfl 0 rfl ?_
        refine gf_RX8_23 C dX8_walk_82 ?_
        obtain ⟨cLo_30, cHi_31, e32, hf⟩ := bd2_some hf
        refine jVV C (X0_keep_ok (by decide) (by decide) e32) vb_X0_keep mk_RX8_283 rfl (rcF (by decide)) ⟨Nat.le_of_ble_eq_true rfl, Nat.le_of_ble_eq_true rfl⟩ rfl (Nat.le_of_ble_eq_true rfl) dX8_walk_85 ?_
        refine jAloadn C dX8_walk_88 rfl 0 rfl ?_
        refine gf_RX8_16 C dX8_walk_89 ?_
        obtain ⟨q33, e34, hf⟩ := bd1_some hf
        refine jVI C (X0_isEmpty_ok (by decide) e34) vb_X0_isEmpty mk_RX8_230 rfl (rcF (by decide)) ⟨Nat.le_of_ble_eq_true rfl, Nat.le_of_ble_eq_true rfl⟩ rfl (Nat.le_of_ble_eq_true rfl) dX8_walk_92 ?_
        refine jIfEq C 100 dX8_walk_95 (by decide) (fun c35 => ?_) (fun c35 => ?_)
        · replace hf := itp hf c35
          refine jIinc C (x4_12 + (1 : Int32)) dX8_walk_100 2 rfl (congrArg (fun z : Int32 => x4_12 + z) ki_1) (Nat.le_of_ble_eq_true rfl) [(4, .int (x4_12 + (1 : Int32))), (0, .ref (g 28)), (3, .int p3)] rfl ?_
          refine jGoto C 30 dX8_walk_103 (by decide) ?_
          refine jSub [1, 2, 0] rfl ?_
          exact ir16 (x4_12 + (1 : Int32)) cLo_30 cHi_31 hf
        · replace hf := itn hf c35
          refine jIconst C (-1 : Int32) dX8_walk_98 ki_m1 ?_
          cases hf
          exact jEndI C hQ rfl dX8_walk_99
      · replace hf := itn hf c20
        refine jIload C dX8_walk_49 2 rfl ?_
        cases hf
        exact jEndI C hQ rfl dX8_walk_51
  refine jSub [1, 4, 0] rfl ?_
  exact hL15 (0 : Int32) cLo_9 cHi_10 hf
noncomputable def X8_steps (cP : Nat → Int32) (cLo : Nat → Int64) (cHi : Nat → Int64) (p1 : Int32) (p2 : Int32) (p3 : Int32) : Option (Int32 × (Nat → Int32) × (Nat → Int64) × (Nat → Int64)) := bdo (X8_familyAt cP p1) (some ((-2 : Int32), cP, cLo, cHi)) (fun f1 => bd1 (X0_knows cP f1 p2) (fun q3 => (if q3 = (0 : Int32) then some ((-2 : Int32), cP, cLo, cHi) else bd1 (X0_knows cP f1 p3) (fun q6 => (if q6 = (0 : Int32) then some ((-2 : Int32), cP, cLo, cHi) else bd1 (X0_holds cLo cHi f1 p2) (fun q9 => (if q9 = (0 : Int32) then some ((-6 : Int32), cP, cLo, cHi) else bd1 (X0_holds cLo cHi f1 p3) (fun q12 => (if q12 = (0 : Int32) then some ((-6 : Int32), cP, cLo, cHi) else bd4 (X8_walk cP cLo cHi f1 p2 p3) (fun q15 cP_16 cLo_17 cHi_18 => some (q15, cP_16, cLo_17, cHi_18)))))))))))
set_option maxHeartbeats 4000000 in
set_option maxRecDepth 20000 in
theorem X8_steps_ok {p1 : Int32} {p2 : Int32} {p3 : Int32} {rr : Int32} {ocP : Nat → Int32} {ocLo : Nat → Int64} {ocHi : Nat → Int64}  (hf : X8_steps cP cLo cHi p1 p2 p3 = some (rr, ocP, ocLo, ocHi)) : MT yX8_steps cX8_steps 5 (some .int) 3 [.ref (g 28), .int p1, .int p2, .int p3] D cy G (cw g cy cP cLo cHi cpl ctb ctl ctf ctp ctk cts cth cob col cso cha chs cbe ctr cgl cgh cll clh cta cme cps cwh cal cah) (cw g cy ocP ocLo ocHi cpl ctb ctl ctf ctp ctk cts cth cob col cso cha chs cbe ctr cgl cgh cll clh cta cme cps cwh cal cah) (some (.int rr)) := by
  refine MT.go (own := RX8) [(0, .ref (g 28)), (1, .int p1), (2, .int p2), (3, .int p3)] (by decide) rfl (Nat.le_of_ble_eq_true rfl) rfl (fun p l e s m args below meth c A Q C hQ => ?_)
  unfold X8_steps at hf
  refine jAloadn C dX8_steps_0 rfl 0 rfl ?_
  refine jIloadn C dX8_steps_1 rfl 1 rfl ?_
  rcases bdo_some hf with ⟨q2, hf⟩ | ⟨f1, q2, hf⟩
  · refine jVN C (X8_familyAt_ok  q2) vb_X8_familyAt mk_RX8_102 rfl rc28 ⟨Nat.le_of_ble_eq_true rfl, Nat.le_of_ble_eq_true rfl⟩ rfl (Nat.le_of_ble_eq_true rfl) dX8_steps_2 ?_
    refine jAstoreN C dX8_steps_5 (Nat.le_of_ble_eq_true rfl) [(4, .null), (0, .ref (g 28)), (1, .int p1), (2, .int p2), (3, .int p3)] rfl ?_
    refine jAloadN C dX8_steps_7 0 rfl ?_
    refine jIfnullN C 30 dX8_steps_9 (by decide) ?_
    refine jBipush C (-2 : Int32) dX8_steps_30 kb_m2 ?_
    cases hf
    exact jEndI C hQ rfl dX8_steps_32
  · refine jVA C (X8_familyAt_ok  q2) vb_X8_familyAt mk_RX8_102 rfl rc28 ⟨Nat.le_of_ble_eq_true rfl, Nat.le_of_ble_eq_true rfl⟩ rfl (Nat.le_of_ble_eq_true rfl) dX8_steps_2 ?_
    refine jAstore C dX8_steps_5 (Nat.le_of_ble_eq_true rfl) [(4, .ref (g f1)), (0, .ref (g 28)), (1, .int p1), (2, .int p2), (3, .int p3)] rfl ?_
    refine jAload C dX8_steps_7 0 rfl ?_
    refine jIfnull C dX8_steps_9 ?_
    refine jAload C dX8_steps_12 0 rfl ?_
    refine jIloadn C dX8_steps_14 rfl 3 rfl ?_
    obtain ⟨q3, e4, hf⟩ := bd1_some hf
    refine jVI C (X0_knows_ok (X8_familyAt_lt q2) e4) vb_X0_knows mk_RX8_117 rfl (rcF (X8_familyAt_lt q2)) ⟨Nat.le_of_ble_eq_true rfl, Nat.le_of_ble_eq_true rfl⟩ rfl (Nat.le_of_ble_eq_true rfl) dX8_steps_15 ?_
    refine jIfEq C 30 dX8_steps_18 (by decide) (fun c5 => ?_) (fun c5 => ?_)
    · replace hf := itp hf c5
      refine jBipush C (-2 : Int32) dX8_steps_30 kb_m2 ?_
      cases hf
      exact jEndI C hQ rfl dX8_steps_32
    · replace hf := itn hf c5
      refine jAload C dX8_steps_21 0 rfl ?_
      refine jIloadn C dX8_steps_23 rfl 4 rfl ?_
      obtain ⟨q6, e7, hf⟩ := bd1_some hf
      refine jVI C (X0_knows_ok (X8_familyAt_lt q2) e7) vb_X0_knows mk_RX8_117 rfl (rcF (X8_familyAt_lt q2)) ⟨Nat.le_of_ble_eq_true rfl, Nat.le_of_ble_eq_true rfl⟩ rfl (Nat.le_of_ble_eq_true rfl) dX8_steps_24 ?_
      refine jIfNe C 33 dX8_steps_27 (by decide) (fun c8 => ?_) (fun c8 => ?_)
      · replace hf := itn hf c8
        refine jAload C dX8_steps_33 0 rfl ?_
        refine jIloadn C dX8_steps_35 rfl 3 rfl ?_
        obtain ⟨q9, e10, hf⟩ := bd1_some hf
        refine jVI C (X0_holds_ok (X8_familyAt_lt q2) e10) vb_X0_holds mk_RX8_120 rfl (rcF (X8_familyAt_lt q2)) ⟨Nat.le_of_ble_eq_true rfl, Nat.le_of_ble_eq_true rfl⟩ rfl (Nat.le_of_ble_eq_true rfl) dX8_steps_36 ?_
        refine jIfEq C 51 dX8_steps_39 (by decide) (fun c11 => ?_) (fun c11 => ?_)
        · replace hf := itp hf c11
          refine jBipush C (-6 : Int32) dX8_steps_51 kb_m6 ?_
          cases hf
          exact jEndI C hQ rfl dX8_steps_53
        · replace hf := itn hf c11
          refine jAload C dX8_steps_42 0 rfl ?_
          refine jIloadn C dX8_steps_44 rfl 4 rfl ?_
          obtain ⟨q12, e13, hf⟩ := bd1_some hf
          refine jVI C (X0_holds_ok (X8_familyAt_lt q2) e13) vb_X0_holds mk_RX8_120 rfl (rcF (X8_familyAt_lt q2)) ⟨Nat.le_of_ble_eq_true rfl, Nat.le_of_ble_eq_true rfl⟩ rfl (Nat.le_of_ble_eq_true rfl) dX8_steps_45 ?_
          refine jIfNe C 54 dX8_steps_48 (by decide) (fun c14 => ?_) (fun c14 => ?_)
          · replace hf := itn hf c14
            refine jAloadn C dX8_steps_54 rfl 1 rfl ?_
            refine jAload C dX8_steps_55 0 rfl ?_
            refine jIloadn C dX8_steps_57 rfl 3 rfl ?_
            refine jIloadn C dX8_steps_58 rfl 4 rfl ?_
            obtain ⟨q15, cP_16, cLo_17, cHi_18, e19, hf⟩ := bd4_some hf
            refine jVI C (X8_walk_ok (X8_familyAt_lt q2) e19) vb_X8_walk mk_RX8_241 rfl rc28 ⟨Nat.le_of_ble_eq_true rfl, Nat.le_of_ble_eq_true rfl⟩ rfl (Nat.le_of_ble_eq_true rfl) dX8_steps_59 ?_
            cases hf
            exact jEndI C hQ rfl dX8_steps_62
          · replace hf := itp hf c14
            refine jBipush C (-6 : Int32) dX8_steps_51 kb_m6 ?_
            cases hf
            exact jEndI C hQ rfl dX8_steps_53
      · replace hf := itp hf c8
        refine jBipush C (-2 : Int32) dX8_steps_30 kb_m2 ?_
        cases hf
        exact jEndI C hQ rfl dX8_steps_32
noncomputable def X8_arcsOf_h53 (cP : Nat → Int32) (p1 : Nat) (r14 : Int32 → Int32 → Option Int32) (x4_12 : Int32) (cLo : Nat → Int64) (cHi : Nat → Int64) (cpl : Nat → Int32) (r20 : Int32 → Int32 → Int32 → Option Int32) (x3_16 : Int32) (x5_17 : Int32) (x6_18 : Int32) : Option Int32 := (if (cP p1) ≤ x6_18 then r14 x3_16 (x4_12 + (1 : Int32)) else gnz (cP p1) (gin (((x4_12 + x6_18) - (1 : Int32)) - ((x4_12 + x6_18) - (1 : Int32)) / (cP p1) * (cP p1)) 7 (bd1 (X0_holds cLo cHi p1 (x5_17 ||| ((1 : Int32) <<< ((cpl (((x4_12 + x6_18) - (1 : Int32)) - ((x4_12 + x6_18) - (1 : Int32)) / (cP p1) * (cP p1)).toNatClampNeg) &&& 31)))) (fun q24 => (if q24 = (0 : Int32) then r20 x3_16 (x5_17 ||| ((1 : Int32) <<< ((cpl (((x4_12 + x6_18) - (1 : Int32)) - ((x4_12 + x6_18) - (1 : Int32)) / (cP p1) * (cP p1)).toNatClampNeg) &&& 31))) (x6_18 + (1 : Int32)) else r20 (x3_16 + (1 : Int32)) (x5_17 ||| ((1 : Int32) <<< ((cpl (((x4_12 + x6_18) - (1 : Int32)) - ((x4_12 + x6_18) - (1 : Int32)) / (cP p1) * (cP p1)).toNatClampNeg) &&& 31))) (x6_18 + (1 : Int32)))))))
noncomputable def X8_arcsOf_h41 (cP : Nat → Int32) (p1 : Nat) (cLo : Nat → Int64) (cHi : Nat → Int64) (cpl : Nat → Int32) (r14 : Int32 → Int32 → Option Int32) (x3_11 : Int32) (x4_12 : Int32) : Option Int32 := (if (cP p1) ≤ x4_12 then some x3_11 else lfp3 (X8_arcsOf_h53 cP p1 r14 x4_12 cLo cHi cpl) x3_11 (0 : Int32) (1 : Int32))
noncomputable def X8_arcsOf_j36 (cP : Nat → Int32) (p1 : Nat) (cLo : Nat → Int64) (cHi : Nat → Int64) (cpl : Nat → Int32) (y3 : Int32) (y9 : Int32) : Option Int32 := lfp2 (X8_arcsOf_h41 cP p1 cLo cHi cpl) (y3 + y9) (0 : Int32)
noncomputable def X8_arcsOf_j18 (cP : Nat → Int32) (p1 : Nat) (cLo : Nat → Int64) (cHi : Nat → Int64) (cpl : Nat → Int32) (y3 : Int32) : Option Int32 := bd1 (X0_span cP p1) (fun q5 => bd1 (X0_holds cLo cHi p1 (q5 - (1 : Int32))) (fun q7 => (if q7 = (0 : Int32) then X8_arcsOf_j36 cP p1 cLo cHi cpl y3 (0 : Int32) else X8_arcsOf_j36 cP p1 cLo cHi cpl y3 (1 : Int32))))
noncomputable def X8_arcsOf (cP : Nat → Int32) (cLo : Nat → Int64) (cHi : Nat → Int64) (cpl : Nat → Int32) (p1 : Nat) : Option Int32 := bd1 (X0_holds cLo cHi p1 (0 : Int32)) (fun q1 => (if q1 = (0 : Int32) then X8_arcsOf_j18 cP p1 cLo cHi cpl (0 : Int32) else X8_arcsOf_j18 cP p1 cLo cHi cpl (1 : Int32)))
set_option maxHeartbeats 4000000 in
set_option maxRecDepth 20000 in
theorem X8_arcsOf_ok {p1 : Nat} {rr : Int32} (hp1 : p1 < 28) (hf : X8_arcsOf cP cLo cHi cpl p1 = some rr) : MT yX8_arcsOf cX8_arcsOf 7 (some .int) 1 [.ref (g 28), .ref (g p1)] D cy G (cw g cy cP cLo cHi cpl ctb ctl ctf ctp ctk cts cth cob col cso cha chs cbe ctr cgl cgh cll clh cta cme cps cwh cal cah) (cw g cy cP cLo cHi cpl ctb ctl ctf ctp ctk cts cth cob col cso cha chs cbe ctr cgl cgh cll clh cta cme cps cwh cal cah) (some (.int rr)) := by
  refine MT.go (own := RX8) [(0, .ref (g 28)), (1, .ref (g p1))] (by decide) rfl (Nat.le_of_ble_eq_true rfl) rfl (fun p l e s m args below meth c A Q C hQ => ?_)
  unfold X8_arcsOf at hf
  refine jAloadn C dX8_arcsOf_0 rfl 1 rfl ?_
  refine gf_RX8_133 C hp1 dX8_arcsOf_1 ?_
  refine jIstoren C dX8_arcsOf_4 rfl (Nat.le_of_ble_eq_true rfl) [(2, .int (cP p1)), (0, .ref (g 28)), (1, .ref (g p1))] rfl ?_
  refine jAloadn C dX8_arcsOf_5 rfl 2 rfl ?_
  refine jIconst C (0 : Int32) dX8_arcsOf_6 ki_0 ?_
  obtain ⟨q1, e2, hf⟩ := bd1_some hf
  refine jVI C (X0_holds_ok hp1 e2) vb_X0_holds mk_RX8_120 rfl (rcF hp1) ⟨Nat.le_of_ble_eq_true rfl, Nat.le_of_ble_eq_true rfl⟩ rfl (Nat.le_of_ble_eq_true rfl) dX8_arcsOf_7 ?_
  have hL4 : ∀ (y3 : Int32), X8_arcsOf_j18 cP p1 cLo cHi cpl y3 = some rr → J p l e (rmk 1) s m args below meth c D A Q 7 (cw g cy cP cLo cHi cpl ctb ctl ctf ctp ctk cts cth cob col cso cha chs cbe ctr cgl cgh cll clh cta cme cps cwh cal cah) 18 [(0, .ref (g 28)), (1, .ref (g p1)), (2, .int (cP p1))] [.int y3] := by
    intro y3 hf
    unfold X8_arcsOf_j18 at hf
    refine jAloadn C dX8_arcsOf_18 rfl 1 rfl ?_
    refine jAloadn C dX8_arcsOf_19 rfl 1 rfl ?_
    obtain ⟨q5, e6, hf⟩ := bd1_some hf
    refine jVI C (X0_span_ok hp1 e6) vb_X0_span mk_RX8_270 rfl (rcF hp1) ⟨Nat.le_of_ble_eq_true rfl, Nat.le_of_ble_eq_true rfl⟩ rfl (Nat.le_of_ble_eq_true rfl) dX8_arcsOf_20 ?_
    refine jIconst C (1 : Int32) dX8_arcsOf_23 ki_1 ?_
    refine jIsub C dX8_arcsOf_24 ?_
    obtain ⟨q7, e8, hf⟩ := bd1_some hf
    refine jVI C (X0_holds_ok hp1 e8) vb_X0_holds mk_RX8_120 rfl (rcF hp1) ⟨Nat.le_of_ble_eq_true rfl, Nat.le_of_ble_eq_true rfl⟩ rfl (Nat.le_of_ble_eq_true rfl) dX8_arcsOf_25 ?_
    have hL10 : ∀ (y9 : Int32), X8_arcsOf_j36 cP p1 cLo cHi cpl y3 y9 = some rr → J p l e (rmk 1) s m args below meth c D A Q 7 (cw g cy cP cLo cHi cpl ctb ctl ctf ctp ctk cts cth cob col cso cha chs cbe ctr cgl cgh cll clh cta cme cps cwh cal cah) 36 [(0, .ref (g 28)), (1, .ref (g p1)), (2, .int (cP p1))] [.int y9, .int y3] := by
      intro y9 hf
      unfold X8_arcsOf_j36 at hf
      refine jIadd C dX8_arcsOf_36 ?_
      refine jIstoren C dX8_arcsOf_37 rfl (Nat.le_of_ble_eq_true rfl) [(3, .int (y3 + y9)), (0, .ref (g 28)), (1, .ref (g p1)), (2, .int (cP p1))] rfl ?_
      refine jIconst C (0 : Int32) dX8_arcsOf_38 ki_0 ?_
      refine jIstore C dX8_arcsOf_39 (Nat.le_of_ble_eq_true rfl) [(4, .int (0 : Int32)), (3, .int (y3 + y9)), (0, .ref (g 28)), (1, .ref (g p1)), (2, .int (cP p1))] rfl ?_
      have hL13 : ∀ (x3_11 : Int32) (x4_12 : Int32), lfp2 (X8_arcsOf_h41 cP p1 cLo cHi cpl) x3_11 x4_12 = some rr → J p l e (rmk 1) s m args below meth c D A Q 7 (cw g cy cP cLo cHi cpl ctb ctl ctf ctp ctk cts cth cob col cso cha chs cbe ctr cgl cgh cll clh cta cme cps cwh cal cah) 41 [(0, .ref (g 28)), (1, .ref (g p1)), (2, .int (cP p1)), (3, .int x3_11), (4, .int x4_12)] [] := by
        intro x3_11 x4_12 hw
        refine lfp2_walk (P := fun x3_11 x4_12 => J p l e (rmk 1) s m args below meth c D A Q 7 (cw g cy cP cLo cHi cpl ctb ctl ctf ctp ctk cts cth cob col cso cha chs cbe ctr cgl cgh cll clh cta cme cps cwh cal cah) 41 [(0, .ref (g 28)), (1, .ref (g p1)), (2, .int (cP p1)), (3, .int x3_11), (4, .int x4_12)] []) ?_ hw
        intro r14 ir14 x3_11 x4_12 hf
        unfold X8_arcsOf_h41 at hf
        refine jIload C dX8_arcsOf_41 4 rfl ?_
        refine jIloadn C dX8_arcsOf_43 rfl 2 rfl ?_
        refine jCmpGe C 104 dX8_arcsOf_44 (by decide) (fun c15 => ?_) (fun c15 => ?_)
        · replace hf := itp hf c15
          refine jIloadn C dX8_arcsOf_104 rfl 3 rfl ?_
          cases hf
          exact jEndI C hQ rfl dX8_arcsOf_105
        · replace hf := itn hf c15
          refine jIconst C (0 : Int32) dX8_arcsOf_47 ki_0 ?_
          refine jIstore C dX8_arcsOf_48 (Nat.le_of_ble_eq_true rfl) [(5, .int (0 : Int32)), (0, .ref (g 28)), (1, .ref (g p1)), (2, .int (cP p1)), (3, .int x3_11), (4, .int x4_12)] rfl ?_
          refine jIconst C (1 : Int32) dX8_arcsOf_50 ki_1 ?_
          refine jIstore C dX8_arcsOf_51 (Nat.le_of_ble_eq_true rfl) [(6, .int (1 : Int32)), (5, .int (0 : Int32)), (0, .ref (g 28)), (1, .ref (g p1)), (2, .int (cP p1)), (3, .int x3_11), (4, .int x4_12)] rfl ?_
          have hL19 : ∀ (x3_16 : Int32) (x5_17 : Int32) (x6_18 : Int32), lfp3 (X8_arcsOf_h53 cP p1 r14 x4_12 cLo cHi cpl) x3_16 x5_17 x6_18 = some rr → J p l e (rmk 1) s m args below meth c D A Q 7 (cw g cy cP cLo cHi cpl ctb ctl ctf ctp ctk cts cth cob col cso cha chs cbe ctr cgl cgh cll clh cta cme cps cwh cal cah) 53 [(0, .ref (g 28)), (1, .ref (g p1)), (2, .int (cP p1)), (3, .int x3_16), (4, .int x4_12), (5, .int x5_17), (6, .int x6_18)] [] := by
            intro x3_16 x5_17 x6_18 hw
            refine lfp3_walk (P := fun x3_16 x5_17 x6_18 => J p l e (rmk 1) s m args below meth c D A Q 7 (cw g cy cP cLo cHi cpl ctb ctl ctf ctp ctk cts cth cob col cso cha chs cbe ctr cgl cgh cll clh cta cme cps cwh cal cah) 53 [(0, .ref (g 28)), (1, .ref (g p1)), (2, .int (cP p1)), (3, .int x3_16), (4, .int x4_12), (5, .int x5_17), (6, .int x6_18)] []) ?_ hw
            intro r20 ir20 x3_16 x5_17 x6_18 hf
            unfold X8_arcsOf_h53 at hf
            refine jIload C dX8_arcsOf_53 6 rfl ?_
            refine jIloadn C dX8_arcsOf_55 rfl 2 rfl ?_
            refine jCmpGe C 98 dX8_arcsOf_56 (by decide) (fun c21 => ?_) (fun c21 => ?_)
            · replace hf := itp hf c21
              refine jIinc C (x4_12 + (1 : Int32)) dX8_arcsOf_98 4 rfl (congrArg (fun z : Int32 => x4_12 + z) ki_1) (Nat.le_of_ble_eq_true rfl) [(4, .int (x4_12 + (1 : Int32))), (0, .ref (g 28)), (1, .ref (g p1)), (2, .int (cP p1)), (3, .int x3_16), (5, .int x5_17), (6, .int x6_18)] rfl ?_
              refine jGoto C 41 dX8_arcsOf_101 (by decide) ?_
              refine jSub [1, 2, 3, 4, 0] rfl ?_
              exact ir14 x3_16 (x4_12 + (1 : Int32)) hf
            · replace hf := itn hf c21
              refine jIload C dX8_arcsOf_59 5 rfl ?_
              refine jIconst C (1 : Int32) dX8_arcsOf_61 ki_1 ?_
              refine jAloadn C dX8_arcsOf_62 rfl 0 rfl ?_
              refine gf_RX8_26 C dX8_arcsOf_63 ?_
              refine jIload C dX8_arcsOf_66 4 rfl ?_
              refine jIload C dX8_arcsOf_68 6 rfl ?_
              refine jIadd C dX8_arcsOf_70 ?_
              refine jIconst C (1 : Int32) dX8_arcsOf_71 ki_1 ?_
              refine jIsub C dX8_arcsOf_72 ?_
              refine jIloadn C dX8_arcsOf_73 rfl 2 rfl ?_
              obtain ⟨z22, hf⟩ := gnz_some hf
              refine jIrem C dX8_arcsOf_74 z22 ?_
              obtain ⟨z23, hf⟩ := gin_some hf
              refine al_cpl C z23 dX8_arcsOf_75 ?_
              refine jIshl C dX8_arcsOf_76 ?_
              refine jIor C dX8_arcsOf_77 ?_
              refine jIstore C dX8_arcsOf_78 (Nat.le_of_ble_eq_true rfl) [(5, .int (x5_17 ||| ((1 : Int32) <<< ((cpl (((x4_12 + x6_18) - (1 : Int32)) - ((x4_12 + x6_18) - (1 : Int32)) / (cP p1) * (cP p1)).toNatClampNeg) &&& 31)))), (0, .ref (g 28)), (1, .ref (g p1)), (2, .int (cP p1)), (3, .int x3_16), (4, .int x4_12), (6, .int x6_18)] rfl ?_
              refine jAloadn C dX8_arcsOf_80 rfl 2 rfl ?_
              refine jIload C dX8_arcsOf_81 0 rfl ?_
              obtain ⟨q24, e25, hf⟩ := bd1_some hf
              refine jVI C (X0_holds_ok hp1 e25) vb_X0_holds mk_RX8_120 rfl (rcF hp1) ⟨Nat.le_of_ble_eq_true rfl, Nat.le_of_ble_eq_true rfl⟩ rfl (Nat.le_of_ble_eq_true rfl) dX8_arcsOf_83 ?_
              refine jIfEq C 92 dX8_arcsOf_86 (by decide) (fun c26 => ?_) (fun c26 => ?_)
              · replace hf := itp hf c26
                refine jIinc C (x6_18 + (1 : Int32)) dX8_arcsOf_92 6 rfl (congrArg (fun z : Int32 => x6_18 + z) ki_1) (Nat.le_of_ble_eq_true rfl) [(6, .int (x6_18 + (1 : Int32))), (5, .int (x5_17 ||| ((1 : Int32) <<< ((cpl (((x4_12 + x6_18) - (1 : Int32)) - ((x4_12 + x6_18) - (1 : Int32)) / (cP p1) * (cP p1)).toNatClampNeg) &&& 31)))), (0, .ref (g 28)), (1, .ref (g p1)), (2, .int (cP p1)), (3, .int x3_16), (4, .int x4_12)] rfl ?_
                refine jGoto C 53 dX8_arcsOf_95 (by decide) ?_
                refine jSub [2, 3, 4, 5, 6, 1, 0] rfl ?_
                exact ir20 x3_16 (x5_17 ||| ((1 : Int32) <<< ((cpl (((x4_12 + x6_18) - (1 : Int32)) - ((x4_12 + x6_18) - (1 : Int32)) / (cP p1) * (cP p1)).toNatClampNeg) &&& 31))) (x6_18 + (1 : Int32)) hf
              · replace hf := itn hf c26
                refine jIinc C (x3_16 + (1 : Int32)) dX8_arcsOf_89 4 rfl (congrArg (fun z : Int32 => x3_16 + z) ki_1) (Nat.le_of_ble_eq_true rfl) [(3, .int (x3_16 + (1 : Int32))), (5, .int (x5_17 ||| ((1 : Int32) <<< ((cpl (((x4_12 + x6_18) - (1 : Int32)) - ((x4_12 + x6_18) - (1 : Int32)) / (cP p1) * (cP p1)).toNatClampNeg) &&& 31)))), (0, .ref (g 28)), (1, .ref (g p1)), (2, .int (cP p1)), (4, .int x4_12), (6, .int x6_18)] rfl ?_
                refine jIinc C (x6_18 + (1 : Int32)) dX8_arcsOf_92 6 rfl (congrArg (fun z : Int32 => x6_18 + z) ki_1) (Nat.le_of_ble_eq_true rfl) [(6, .int (x6_18 + (1 : Int32))), (3, .int (x3_16 + (1 : Int32))), (5, .int (x5_17 ||| ((1 : Int32) <<< ((cpl (((x4_12 + x6_18) - (1 : Int32)) - ((x4_12 + x6_18) - (1 : Int32)) / (cP p1) * (cP p1)).toNatClampNeg) &&& 31)))), (0, .ref (g 28)), (1, .ref (g p1)), (2, .int (cP p1)), (4, .int x4_12)] rfl ?_
                refine jGoto C 53 dX8_arcsOf_95 (by decide) ?_
                refine jSub [3, 4, 5, 1, 6, 2, 0] rfl ?_
                exact ir20 (x3_16 + (1 : Int32)) (x5_17 ||| ((1 : Int32) <<< ((cpl (((x4_12 + x6_18) - (1 : Int32)) - ((x4_12 + x6_18) - (1 : Int32)) / (cP p1) * (cP p1)).toNatClampNeg) &&& 31))) (x6_18 + (1 : Int32)) hf
          refine jSub [2, 3, 4, 5, 6, 1, 0] rfl ?_
          exact hL19 x3_11 (0 : Int32) (1 : Int32) hf
      refine jSub [2, 3, 4, 1, 0] rfl ?_
      exact hL13 (y3 + y9) (0 : Int32) hf
    refine jIfEq C 35 dX8_arcsOf_28 (by decide) (fun c27 => ?_) (fun c27 => ?_)
    · replace hf := itp hf c27
      refine jIconst C (0 : Int32) dX8_arcsOf_35 ki_0 ?_
      exact hL10 (0 : Int32) hf
    · replace hf := itn hf c27
      refine jIconst C (1 : Int32) dX8_arcsOf_31 ki_1 ?_
      refine jGoto C 36 dX8_arcsOf_32 (by decide) ?_
      exact hL10 (1 : Int32) hf
  refine jIfEq C 17 dX8_arcsOf_10 (by decide) (fun c28 => ?_) (fun c28 => ?_)
  · replace hf := itp hf c28
    refine jIconst C (0 : Int32) dX8_arcsOf_17 ki_0 ?_
    refine jSub [1, 2, 0] rfl ?_
    exact hL4 (0 : Int32) hf
  · replace hf := itn hf c28
    refine jIconst C (1 : Int32) dX8_arcsOf_13 ki_1 ?_
    refine jGoto C 18 dX8_arcsOf_14 (by decide) ?_
    refine jSub [1, 2, 0] rfl ?_
    exact hL4 (1 : Int32) hf
noncomputable def X8_arcs (cP : Nat → Int32) (cLo : Nat → Int64) (cHi : Nat → Int64) (cpl : Nat → Int32) (p1 : Int32) (p2 : Int32) : Option (Int32 × (Nat → Int32)) := bdo (X8_familyAt cP p1) (some ((-2 : Int32), cpl)) (fun f1 => bd1 (X4_isRound (cP f1) p2) (fun q3 => (if q3 = (0 : Int32) then some ((-2 : Int32), cpl) else bd1 (X4_lay cpl (cP f1) p2) (fun cpl_6 => bd1 (X8_arcsOf cP cLo cHi cpl_6 f1) (fun q8 => some (q8, cpl_6))))))
set_option maxHeartbeats 4000000 in
set_option maxRecDepth 20000 in
theorem X8_arcs_ok {p1 : Int32} {p2 : Int32} {rr : Int32} {ocpl : Nat → Int32}  (hf : X8_arcs cP cLo cHi cpl p1 p2 = some (rr, ocpl)) : MT yX8_arcs cX8_arcs 4 (some .int) 2 [.ref (g 28), .int p1, .int p2] D cy G (cw g cy cP cLo cHi cpl ctb ctl ctf ctp ctk cts cth cob col cso cha chs cbe ctr cgl cgh cll clh cta cme cps cwh cal cah) (cw g cy cP cLo cHi ocpl ctb ctl ctf ctp ctk cts cth cob col cso cha chs cbe ctr cgl cgh cll clh cta cme cps cwh cal cah) (some (.int rr)) := by
  refine MT.go (own := RX8) [(0, .ref (g 28)), (1, .int p1), (2, .int p2)] (by decide) rfl (Nat.le_of_ble_eq_true rfl) rfl (fun p l e s m args below meth c A Q C hQ => ?_)
  unfold X8_arcs at hf
  refine jAloadn C dX8_arcs_0 rfl 0 rfl ?_
  refine jIloadn C dX8_arcs_1 rfl 1 rfl ?_
  rcases bdo_some hf with ⟨q2, hf⟩ | ⟨f1, q2, hf⟩
  · refine jVN C (X8_familyAt_ok  q2) vb_X8_familyAt mk_RX8_102 rfl rc28 ⟨Nat.le_of_ble_eq_true rfl, Nat.le_of_ble_eq_true rfl⟩ rfl (Nat.le_of_ble_eq_true rfl) dX8_arcs_2 ?_
    refine jAstorenN C dX8_arcs_5 rfl (Nat.le_of_ble_eq_true rfl) [(3, .null), (0, .ref (g 28)), (1, .int p1), (2, .int p2)] rfl ?_
    refine jAloadnN C dX8_arcs_6 rfl 0 rfl ?_
    refine jIfnullN C 21 dX8_arcs_7 (by decide) ?_
    refine jBipush C (-2 : Int32) dX8_arcs_21 kb_m2 ?_
    cases hf
    exact jEndI C hQ rfl dX8_arcs_23
  · refine jVA C (X8_familyAt_ok  q2) vb_X8_familyAt mk_RX8_102 rfl rc28 ⟨Nat.le_of_ble_eq_true rfl, Nat.le_of_ble_eq_true rfl⟩ rfl (Nat.le_of_ble_eq_true rfl) dX8_arcs_2 ?_
    refine jAstoren C dX8_arcs_5 rfl (Nat.le_of_ble_eq_true rfl) [(3, .ref (g f1)), (0, .ref (g 28)), (1, .int p1), (2, .int p2)] rfl ?_
    refine jAloadn C dX8_arcs_6 rfl 0 rfl ?_
    refine jIfnull C dX8_arcs_7 ?_
    refine jAloadn C dX8_arcs_10 rfl 0 rfl ?_
    refine gf_RX8_133 C (X8_familyAt_lt q2) dX8_arcs_11 ?_
    refine jIloadn C dX8_arcs_14 rfl 3 rfl ?_
    obtain ⟨q3, e4, hf⟩ := bd1_some hf
    refine jSI C (X4_isRound_ok  e4) sb_X4_isRound mk_RX8_244 rfl ⟨Nat.le_of_ble_eq_true rfl, Nat.le_of_ble_eq_true rfl⟩ rfl (Nat.le_of_ble_eq_true rfl) dX8_arcs_15 ?_
    refine jIfNe C 24 dX8_arcs_18 (by decide) (fun c5 => ?_) (fun c5 => ?_)
    · replace hf := itn hf c5
      refine jAloadn C dX8_arcs_24 rfl 0 rfl ?_
      refine gf_RX8_133 C (X8_familyAt_lt q2) dX8_arcs_25 ?_
      refine jIloadn C dX8_arcs_28 rfl 3 rfl ?_
      refine jAloadn C dX8_arcs_29 rfl 1 rfl ?_
      refine gf_RX8_26 C dX8_arcs_30 ?_
      obtain ⟨cpl_6, e7, hf⟩ := bd1_some hf
      refine jSV C (X4_lay_ok  e7) sb_X4_lay mk_RX8_249 rfl ⟨Nat.le_of_ble_eq_true rfl, Nat.le_of_ble_eq_true rfl⟩ rfl (Nat.le_of_ble_eq_true rfl) dX8_arcs_33 ?_
      refine jAloadn C dX8_arcs_36 rfl 1 rfl ?_
      refine jAloadn C dX8_arcs_37 rfl 0 rfl ?_
      obtain ⟨q8, e9, hf⟩ := bd1_some hf
      refine jVI C (X8_arcsOf_ok (X8_familyAt_lt q2) e9) vb_X8_arcsOf mk_RX8_253 rfl rc28 ⟨Nat.le_of_ble_eq_true rfl, Nat.le_of_ble_eq_true rfl⟩ rfl (Nat.le_of_ble_eq_true rfl) dX8_arcs_38 ?_
      cases hf
      exact jEndI C hQ rfl dX8_arcs_41
    · replace hf := itp hf c5
      refine jBipush C (-2 : Int32) dX8_arcs_21 kb_m2 ?_
      cases hf
      exact jEndI C hQ rfl dX8_arcs_23
noncomputable def X8_around (cpl : Nat → Int32) (p1 : Int32) (p2 : Int32) (p3 : Int32) : Option (Int32 × (Nat → Int32)) := bd1 (X8_isPointCount p1) (fun q1 => (if q1 = (0 : Int32) then some ((-2 : Int32), cpl) else bd1 (X4_isRound p1 p2) (fun q4 => (if q4 = (0 : Int32) then some ((-2 : Int32), cpl) else (if p3 < (0 : Int32) then some ((-2 : Int32), cpl) else (if p3 < p1 then bd1 (X4_lay cpl p1 p2) (fun cpl_9 => gin p3 7 (some ((cpl_9 p3.toNatClampNeg), cpl_9))) else some ((-2 : Int32), cpl)))))))
set_option maxHeartbeats 4000000 in
set_option maxRecDepth 20000 in
theorem X8_around_ok {p1 : Int32} {p2 : Int32} {p3 : Int32} {rr : Int32} {ocpl : Nat → Int32}  (hf : X8_around cpl p1 p2 p3 = some (rr, ocpl)) : MT yX8_around cX8_around 4 (some .int) 2 [.ref (g 28), .int p1, .int p2, .int p3] D cy G (cw g cy cP cLo cHi cpl ctb ctl ctf ctp ctk cts cth cob col cso cha chs cbe ctr cgl cgh cll clh cta cme cps cwh cal cah) (cw g cy cP cLo cHi ocpl ctb ctl ctf ctp ctk cts cth cob col cso cha chs cbe ctr cgl cgh cll clh cta cme cps cwh cal cah) (some (.int rr)) := by
  refine MT.go (own := RX8) [(0, .ref (g 28)), (1, .int p1), (2, .int p2), (3, .int p3)] (by decide) rfl (Nat.le_of_ble_eq_true rfl) rfl (fun p l e s m args below meth c A Q C hQ => ?_)
  unfold X8_around at hf
  refine jIloadn C dX8_around_0 rfl 1 rfl ?_
  obtain ⟨q1, e2, hf⟩ := bd1_some hf
  refine jSI C (X8_isPointCount_ok  e2) sb_X8_isPointCount mk_RX8_174 rfl ⟨Nat.le_of_ble_eq_true rfl, Nat.le_of_ble_eq_true rfl⟩ rfl (Nat.le_of_ble_eq_true rfl) dX8_around_1 ?_
  refine jIfEq C 24 dX8_around_4 (by decide) (fun c3 => ?_) (fun c3 => ?_)
  · replace hf := itp hf c3
    refine jBipush C (-2 : Int32) dX8_around_24 kb_m2 ?_
    cases hf
    exact jEndI C hQ rfl dX8_around_26
  · replace hf := itn hf c3
    refine jIloadn C dX8_around_7 rfl 1 rfl ?_
    refine jIloadn C dX8_around_8 rfl 2 rfl ?_
    obtain ⟨q4, e5, hf⟩ := bd1_some hf
    refine jSI C (X4_isRound_ok  e5) sb_X4_isRound mk_RX8_244 rfl ⟨Nat.le_of_ble_eq_true rfl, Nat.le_of_ble_eq_true rfl⟩ rfl (Nat.le_of_ble_eq_true rfl) dX8_around_9 ?_
    refine jIfEq C 24 dX8_around_12 (by decide) (fun c6 => ?_) (fun c6 => ?_)
    · replace hf := itp hf c6
      refine jBipush C (-2 : Int32) dX8_around_24 kb_m2 ?_
      cases hf
      exact jEndI C hQ rfl dX8_around_26
    · replace hf := itn hf c6
      refine jIloadn C dX8_around_15 rfl 3 rfl ?_
      refine jIfLt C 24 dX8_around_16 (by decide) (fun c7 => ?_) (fun c7 => ?_)
      · replace hf := itp hf c7
        refine jBipush C (-2 : Int32) dX8_around_24 kb_m2 ?_
        cases hf
        exact jEndI C hQ rfl dX8_around_26
      · replace hf := itn hf c7
        refine jIloadn C dX8_around_19 rfl 3 rfl ?_
        refine jIloadn C dX8_around_20 rfl 1 rfl ?_
        refine jCmpLt C 27 dX8_around_21 (by decide) (fun c8 => ?_) (fun c8 => ?_)
        · replace hf := itp hf c8
          refine jIloadn C dX8_around_27 rfl 1 rfl ?_
          refine jIloadn C dX8_around_28 rfl 2 rfl ?_
          refine jAloadn C dX8_around_29 rfl 0 rfl ?_
          refine gf_RX8_26 C dX8_around_30 ?_
          obtain ⟨cpl_9, e10, hf⟩ := bd1_some hf
          refine jSV C (X4_lay_ok  e10) sb_X4_lay mk_RX8_249 rfl ⟨Nat.le_of_ble_eq_true rfl, Nat.le_of_ble_eq_true rfl⟩ rfl (Nat.le_of_ble_eq_true rfl) dX8_around_33 ?_
          refine jAloadn C dX8_around_36 rfl 0 rfl ?_
          refine gf_RX8_26 C dX8_around_37 ?_
          refine jIloadn C dX8_around_40 rfl 3 rfl ?_
          obtain ⟨z11, hf⟩ := gin_some hf
          refine al_cpl C z11 dX8_around_41 ?_
          cases hf
          exact jEndI C hQ rfl dX8_around_42
        · replace hf := itn hf c8
          refine jBipush C (-2 : Int32) dX8_around_24 kb_m2 ?_
          cases hf
          exact jEndI C hQ rfl dX8_around_26
noncomputable def X8_rounds (p1 : Int32) (p2 : Int32) : Option Int32 := bd1 (X8_isPointCount p1) (fun q1 => (if q1 = (0 : Int32) then some (-2 : Int32) else (if p2 < (0 : Int32) then some (-2 : Int32) else (if p2 < ((1 : Int32) <<< (p1 &&& 31)) then bd1 (J6_bitCount_0f7a4 p2) (fun q6 => bd1 (X4_roundsWithArc p1 q6) (fun q8 => some q8)) else some (-2 : Int32)))))
set_option maxHeartbeats 4000000 in
set_option maxRecDepth 20000 in
theorem X8_rounds_ok {p1 : Int32} {p2 : Int32} {rr : Int32}  (hf : X8_rounds p1 p2 = some rr) : MT yX8_rounds cX8_rounds 3 (some .int) 1 [.ref (g 28), .int p1, .int p2] D cy G (cw g cy cP cLo cHi cpl ctb ctl ctf ctp ctk cts cth cob col cso cha chs cbe ctr cgl cgh cll clh cta cme cps cwh cal cah) (cw g cy cP cLo cHi cpl ctb ctl ctf ctp ctk cts cth cob col cso cha chs cbe ctr cgl cgh cll clh cta cme cps cwh cal cah) (some (.int rr)) := by
  refine MT.go (own := RX8) [(0, .ref (g 28)), (1, .int p1), (2, .int p2)] (by decide) rfl (Nat.le_of_ble_eq_true rfl) rfl (fun p l e s m args below meth c A Q C hQ => ?_)
  unfold X8_rounds at hf
  refine jIloadn C dX8_rounds_0 rfl 1 rfl ?_
  obtain ⟨q1, e2, hf⟩ := bd1_some hf
  refine jSI C (X8_isPointCount_ok  e2) sb_X8_isPointCount mk_RX8_174 rfl ⟨Nat.le_of_ble_eq_true rfl, Nat.le_of_ble_eq_true rfl⟩ rfl (Nat.le_of_ble_eq_true rfl) dX8_rounds_1 ?_
  refine jIfEq C 18 dX8_rounds_4 (by decide) (fun c3 => ?_) (fun c3 => ?_)
  · replace hf := itp hf c3
    refine jBipush C (-2 : Int32) dX8_rounds_18 kb_m2 ?_
    cases hf
    exact jEndI C hQ rfl dX8_rounds_20
  · replace hf := itn hf c3
    refine jIloadn C dX8_rounds_7 rfl 2 rfl ?_
    refine jIfLt C 18 dX8_rounds_8 (by decide) (fun c4 => ?_) (fun c4 => ?_)
    · replace hf := itp hf c4
      refine jBipush C (-2 : Int32) dX8_rounds_18 kb_m2 ?_
      cases hf
      exact jEndI C hQ rfl dX8_rounds_20
    · replace hf := itn hf c4
      refine jIloadn C dX8_rounds_11 rfl 2 rfl ?_
      refine jIconst C (1 : Int32) dX8_rounds_12 ki_1 ?_
      refine jIloadn C dX8_rounds_13 rfl 1 rfl ?_
      refine jIshl C dX8_rounds_14 ?_
      refine jCmpLt C 21 dX8_rounds_15 (by decide) (fun c5 => ?_) (fun c5 => ?_)
      · replace hf := itp hf c5
        refine jIloadn C dX8_rounds_21 rfl 1 rfl ?_
        refine jIloadn C dX8_rounds_22 rfl 2 rfl ?_
        obtain ⟨q6, e7, hf⟩ := bd1_some hf
        refine jSI C (J6_bitCount_0f7a4_ok  e7) sb_J6_bitCount_0f7a4 mk_RX8_190 rfl ⟨Nat.le_of_ble_eq_true rfl, Nat.le_of_ble_eq_true rfl⟩ rfl (Nat.le_of_ble_eq_true rfl) dX8_rounds_23 ?_
        obtain ⟨q8, e9, hf⟩ := bd1_some hf
        refine jSI C (X4_roundsWithArc_ok  e9) sb_X4_roundsWithArc mk_RX8_256 rfl ⟨Nat.le_of_ble_eq_true rfl, Nat.le_of_ble_eq_true rfl⟩ rfl (Nat.le_of_ble_eq_true rfl) dX8_rounds_26 ?_
        cases hf
        exact jEndI C hQ rfl dX8_rounds_29
      · replace hf := itn hf c5
        refine jBipush C (-2 : Int32) dX8_rounds_18 kb_m2 ?_
        cases hf
        exact jEndI C hQ rfl dX8_rounds_20
noncomputable def X8_sum_h31 (cP : Nat → Int32) (f1 : Nat) (p2 : Int32) (cLo : Nat → Int64) (cHi : Nat → Int64) (r9 : Int64 → Int64 → Int32 → Option Int32) (x4_5 : Int64) (x6_6 : Int64) (x8_7 : Int32) : Option Int32 := (if (cP f1) < x8_7 then (if p2 = (0 : Int32) then some (x4_5.toInt32) else some (x6_6.toInt32)) else bd1 (X2_binomial (cP f1) x8_7) (fun q12 => bd1 (X0_sizeOfLevel cP cLo cHi f1 x8_7) (fun q14 => bd1 (X2_commonDivisor ((x4_5 * q12) + (x6_6 * (q14.toInt64))) (x6_6 * q12)) (fun q16 => bd1 (X2_quotient ((x4_5 * q12) + (x6_6 * (q14.toInt64))) q16) (fun q18 => bd1 (X2_quotient (x6_6 * q12) q16) (fun q20 => r9 q18 q20 (x8_7 + (1 : Int32))))))))
noncomputable def X8_sum (cP : Nat → Int32) (cLo : Nat → Int64) (cHi : Nat → Int64) (p1 : Int32) (p2 : Int32) : Option Int32 := bdo (X8_familyAt cP p1) (some (-2 : Int32)) (fun f1 => (if p2 < (0 : Int32) then some (-2 : Int32) else (if p2 ≤ (1 : Int32) then lfp3 (X8_sum_h31 cP f1 p2 cLo cHi) (0 : Int64) (1 : Int64) (0 : Int32) else some (-2 : Int32))))
set_option maxHeartbeats 4000000 in
set_option maxRecDepth 20000 in
theorem X8_sum_ok {p1 : Int32} {p2 : Int32} {rr : Int32}  (hf : X8_sum cP cLo cHi p1 p2 = some rr) : MT yX8_sum cX8_sum 13 (some .int) 2 [.ref (g 28), .int p1, .int p2] D cy G (cw g cy cP cLo cHi cpl ctb ctl ctf ctp ctk cts cth cob col cso cha chs cbe ctr cgl cgh cll clh cta cme cps cwh cal cah) (cw g cy cP cLo cHi cpl ctb ctl ctf ctp ctk cts cth cob col cso cha chs cbe ctr cgl cgh cll clh cta cme cps cwh cal cah) (some (.int rr)) := by
  refine MT.go (own := RX8) [(0, .ref (g 28)), (1, .int p1), (2, .int p2)] (by decide) rfl (Nat.le_of_ble_eq_true rfl) rfl (fun p l e s m args below meth c A Q C hQ => ?_)
  unfold X8_sum at hf
  refine jAloadn C dX8_sum_0 rfl 0 rfl ?_
  refine jIloadn C dX8_sum_1 rfl 1 rfl ?_
  rcases bdo_some hf with ⟨q2, hf⟩ | ⟨f1, q2, hf⟩
  · refine jVN C (X8_familyAt_ok  q2) vb_X8_familyAt mk_RX8_102 rfl rc28 ⟨Nat.le_of_ble_eq_true rfl, Nat.le_of_ble_eq_true rfl⟩ rfl (Nat.le_of_ble_eq_true rfl) dX8_sum_2 ?_
    refine jAstorenN C dX8_sum_5 rfl (Nat.le_of_ble_eq_true rfl) [(3, .null), (0, .ref (g 28)), (1, .int p1), (2, .int p2)] rfl ?_
    refine jAloadnN C dX8_sum_6 rfl 0 rfl ?_
    refine jIfnullN C 19 dX8_sum_7 (by decide) ?_
    refine jBipush C (-2 : Int32) dX8_sum_19 kb_m2 ?_
    cases hf
    exact jEndI C hQ rfl dX8_sum_21
  · refine jVA C (X8_familyAt_ok  q2) vb_X8_familyAt mk_RX8_102 rfl rc28 ⟨Nat.le_of_ble_eq_true rfl, Nat.le_of_ble_eq_true rfl⟩ rfl (Nat.le_of_ble_eq_true rfl) dX8_sum_2 ?_
    refine jAstoren C dX8_sum_5 rfl (Nat.le_of_ble_eq_true rfl) [(3, .ref (g f1)), (0, .ref (g 28)), (1, .int p1), (2, .int p2)] rfl ?_
    refine jAloadn C dX8_sum_6 rfl 0 rfl ?_
    refine jIfnull C dX8_sum_7 ?_
    refine jIloadn C dX8_sum_10 rfl 3 rfl ?_
    refine jIfLt C 19 dX8_sum_11 (by decide) (fun c3 => ?_) (fun c3 => ?_)
    · replace hf := itp hf c3
      refine jBipush C (-2 : Int32) dX8_sum_19 kb_m2 ?_
      cases hf
      exact jEndI C hQ rfl dX8_sum_21
    · replace hf := itn hf c3
      refine jIloadn C dX8_sum_14 rfl 3 rfl ?_
      refine jIconst C (1 : Int32) dX8_sum_15 ki_1 ?_
      refine jCmpLe C 22 dX8_sum_16 (by decide) (fun c4 => ?_) (fun c4 => ?_)
      · replace hf := itp hf c4
        refine jLconst C (0 : Int64) dX8_sum_22 rfl ?_
        refine jLstore C dX8_sum_23 (Nat.le_of_ble_eq_true rfl) [(4, .long (0 : Int64)), (3, .ref (g f1)), (0, .ref (g 28)), (1, .int p1), (2, .int p2)] rfl ?_
        refine jLconst C (1 : Int64) dX8_sum_25 rfl ?_
        refine jLstore C dX8_sum_26 (Nat.le_of_ble_eq_true rfl) [(6, .long (1 : Int64)), (4, .long (0 : Int64)), (3, .ref (g f1)), (0, .ref (g 28)), (1, .int p1), (2, .int p2)] rfl ?_
        refine jIconst C (0 : Int32) dX8_sum_28 ki_0 ?_
        refine jIstore C dX8_sum_29 (Nat.le_of_ble_eq_true rfl) [(8, .int (0 : Int32)), (6, .long (1 : Int64)), (4, .long (0 : Int64)), (3, .ref (g f1)), (0, .ref (g 28)), (1, .int p1), (2, .int p2)] rfl ?_
        have hL8 : ∀ (x4_5 : Int64) (x6_6 : Int64) (x8_7 : Int32), lfp3 (X8_sum_h31 cP f1 p2 cLo cHi) x4_5 x6_6 x8_7 = some rr → J p l e (rmk 2) s m args below meth c D A Q 13 (cw g cy cP cLo cHi cpl ctb ctl ctf ctp ctk cts cth cob col cso cha chs cbe ctr cgl cgh cll clh cta cme cps cwh cal cah) 31 [(2, .int p2), (3, .ref (g f1)), (4, .long x4_5), (6, .long x6_6), (8, .int x8_7)] [] := by
          intro x4_5 x6_6 x8_7 hw
          refine lfp3_walk (P := fun x4_5 x6_6 x8_7 => J p l e (rmk 2) s m args below meth c D A Q 13 (cw g cy cP cLo cHi cpl ctb ctl ctf ctp ctk cts cth cob col cso cha chs cbe ctr cgl cgh cll clh cta cme cps cwh cal cah) 31 [(2, .int p2), (3, .ref (g f1)), (4, .long x4_5), (6, .long x6_6), (8, .int x8_7)] []) ?_ hw
          intro r9 ir9 x4_5 x6_6 x8_7 hf
          unfold X8_sum_h31 at hf
          refine jIload C dX8_sum_31 4 rfl ?_
          refine jAloadn C dX8_sum_33 rfl 1 rfl ?_
          refine gf_RX8_133 C (X8_familyAt_lt q2) dX8_sum_34 ?_
          refine jCmpGt C 109 dX8_sum_37 (by decide) (fun c10 => ?_) (fun c10 => ?_)
          · replace hf := itp hf c10
            refine jIloadn C dX8_sum_109 rfl 0 rfl ?_
            refine jIfNe C 118 dX8_sum_110 (by decide) (fun c11 => ?_) (fun c11 => ?_)
            · replace hf := itn hf c11
              refine jLload C dX8_sum_118 3 rfl ?_
              refine jL2i C dX8_sum_120 ?_
              cases hf
              exact jEndI C hQ rfl dX8_sum_121
            · replace hf := itp hf c11
              refine jLload C dX8_sum_113 2 rfl ?_
              refine jGoto C 120 dX8_sum_115 (by decide) ?_
              refine jL2i C dX8_sum_120 ?_
              cases hf
              exact jEndI C hQ rfl dX8_sum_121
          · replace hf := itn hf c10
            refine jAloadn C dX8_sum_40 rfl 1 rfl ?_
            refine gf_RX8_133 C (X8_familyAt_lt q2) dX8_sum_41 ?_
            refine jIload C dX8_sum_44 4 rfl ?_
            obtain ⟨q12, e13, hf⟩ := bd1_some hf
            refine jSL C (X2_binomial_ok  e13) sb_X2_binomial mk_RX8_177 rfl ⟨Nat.le_of_ble_eq_true rfl, Nat.le_of_ble_eq_true rfl⟩ rfl (Nat.le_of_ble_eq_true rfl) dX8_sum_46 ?_
            refine jLstore C dX8_sum_49 (Nat.le_of_ble_eq_true rfl) [(9, .long q12), (2, .int p2), (3, .ref (g f1)), (4, .long x4_5), (6, .long x6_6), (8, .int x8_7)] rfl ?_
            refine jLload C dX8_sum_51 3 rfl ?_
            refine jLload C dX8_sum_53 0 rfl ?_
            refine jLmul C dX8_sum_55 ?_
            refine jLload C dX8_sum_56 4 rfl ?_
            refine jAloadn C dX8_sum_58 rfl 2 rfl ?_
            refine jIload C dX8_sum_59 5 rfl ?_
            obtain ⟨q14, e15, hf⟩ := bd1_some hf
            refine jVI C (X0_sizeOfLevel_ok (X8_familyAt_lt q2) e15) vb_X0_sizeOfLevel mk_RX8_139 rfl (rcF (X8_familyAt_lt q2)) ⟨Nat.le_of_ble_eq_true rfl, Nat.le_of_ble_eq_true rfl⟩ rfl (Nat.le_of_ble_eq_true rfl) dX8_sum_61 ?_
            refine jI2l C dX8_sum_64 ?_
            refine jLmul C dX8_sum_65 ?_
            refine jLadd C dX8_sum_66 ?_
            refine jLstore C dX8_sum_67 (Nat.le_of_ble_eq_true rfl) [(4, .long ((x4_5 * q12) + (x6_6 * (q14.toInt64)))), (9, .long q12), (2, .int p2), (3, .ref (g f1)), (6, .long x6_6), (8, .int x8_7)] rfl ?_
            refine jLload C dX8_sum_69 4 rfl ?_
            refine jLload C dX8_sum_71 1 rfl ?_
            refine jLmul C dX8_sum_73 ?_
            refine jLstore C dX8_sum_74 (Nat.le_of_ble_eq_true rfl) [(6, .long (x6_6 * q12)), (4, .long ((x4_5 * q12) + (x6_6 * (q14.toInt64)))), (9, .long q12), (2, .int p2), (3, .ref (g f1)), (8, .int x8_7)] rfl ?_
            refine jLload C dX8_sum_76 1 rfl ?_
            refine jLload C dX8_sum_78 0 rfl ?_
            obtain ⟨q16, e17, hf⟩ := bd1_some hf
            refine jSL C (X2_commonDivisor_ok  e17) sb_X2_commonDivisor mk_RX8_260 rfl ⟨Nat.le_of_ble_eq_true rfl, Nat.le_of_ble_eq_true rfl⟩ rfl (Nat.le_of_ble_eq_true rfl) dX8_sum_80 ?_
            refine jLstore C dX8_sum_83 (Nat.le_of_ble_eq_true rfl) [(11, .long q16), (6, .long (x6_6 * q12)), (4, .long ((x4_5 * q12) + (x6_6 * (q14.toInt64)))), (9, .long q12), (2, .int p2), (3, .ref (g f1)), (8, .int x8_7)] rfl ?_
            refine jLload C dX8_sum_85 2 rfl ?_
            refine jLload C dX8_sum_87 0 rfl ?_
            obtain ⟨q18, e19, hf⟩ := bd1_some hf
            refine jSL C (X2_quotient_ok  e19) sb_X2_quotient mk_RX8_264 rfl ⟨Nat.le_of_ble_eq_true rfl, Nat.le_of_ble_eq_true rfl⟩ rfl (Nat.le_of_ble_eq_true rfl) dX8_sum_89 ?_
            refine jLstore C dX8_sum_92 (Nat.le_of_ble_eq_true rfl) [(4, .long q18), (11, .long q16), (6, .long (x6_6 * q12)), (9, .long q12), (2, .int p2), (3, .ref (g f1)), (8, .int x8_7)] rfl ?_
            refine jLload C dX8_sum_94 2 rfl ?_
            refine jLload C dX8_sum_96 1 rfl ?_
            obtain ⟨q20, e21, hf⟩ := bd1_some hf
            refine jSL C (X2_quotient_ok  e21) sb_X2_quotient mk_RX8_264 rfl ⟨Nat.le_of_ble_eq_true rfl, Nat.le_of_ble_eq_true rfl⟩ rfl (Nat.le_of_ble_eq_true rfl) dX8_sum_98 ?_
            refine jLstore C dX8_sum_101 (Nat.le_of_ble_eq_true rfl) [(6, .long q20), (4, .long q18), (11, .long q16), (9, .long q12), (2, .int p2), (3, .ref (g f1)), (8, .int x8_7)] rfl ?_
            refine jIinc C (x8_7 + (1 : Int32)) dX8_sum_103 6 rfl (congrArg (fun z : Int32 => x8_7 + z) ki_1) (Nat.le_of_ble_eq_true rfl) [(8, .int (x8_7 + (1 : Int32))), (6, .long q20), (4, .long q18), (11, .long q16), (9, .long q12), (2, .int p2), (3, .ref (g f1))] rfl ?_
            refine jGoto C 31 dX8_sum_106 (by decide) ?_
            refine jSub [5, 6, 2, 1, 0] rfl ?_
            exact ir9 q18 q20 (x8_7 + (1 : Int32)) hf
        refine jSub [6, 3, 2, 1, 0] rfl ?_
        exact hL8 (0 : Int64) (1 : Int64) (0 : Int32) hf
      · replace hf := itn hf c4
        refine jBipush C (-2 : Int32) dX8_sum_19 kb_m2 ?_
        cases hf
        exact jEndI C hQ rfl dX8_sum_21
noncomputable def X8_isShattered (cP : Nat → Int32) (cLo : Nat → Int64) (cHi : Nat → Int64) (p1 : Nat) (p2 : Int32) : Option (Int32 × (Nat → Int32) × (Nat → Int64) × (Nat → Int64)) := bd3 (X0_become cP cLo cHi 3 p1) (fun cP_1 cLo_2 cHi_3 => bd2 (X0_cutTo cP_1 cLo_2 cHi_3 3 p2) (fun cLo_5 cHi_6 => bd1 (X0_size cLo_5 cHi_6 3) (fun q8 => bd1 (J6_bitCount_0f7a4 p2) (fun q10 => (if q8 = ((1 : Int32) <<< (q10 &&& 31)) then some ((1 : Int32), cP_1, cLo_5, cHi_6) else some ((0 : Int32), cP_1, cLo_5, cHi_6))))))
set_option maxHeartbeats 4000000 in
set_option maxRecDepth 20000 in
theorem X8_isShattered_ok {p1 : Nat} {p2 : Int32} {rr : Int32} {ocP : Nat → Int32} {ocLo : Nat → Int64} {ocHi : Nat → Int64} (hp1 : p1 < 28) (hf : X8_isShattered cP cLo cHi p1 p2 = some (rr, ocP, ocLo, ocHi)) : MT yX8_isShattered cX8_isShattered 3 (some .boolean) 2 [.ref (g 28), .ref (g p1), .int p2] D cy G (cw g cy cP cLo cHi cpl ctb ctl ctf ctp ctk cts cth cob col cso cha chs cbe ctr cgl cgh cll clh cta cme cps cwh cal cah) (cw g cy ocP ocLo ocHi cpl ctb ctl ctf ctp ctk cts cth cob col cso cha chs cbe ctr cgl cgh cll clh cta cme cps cwh cal cah) (some (.int rr)) := by
  refine MT.go (own := RX8) [(0, .ref (g 28)), (1, .ref (g p1)), (2, .int p2)] (by decide) rfl (Nat.le_of_ble_eq_true rfl) rfl (fun p l e s m args below meth c A Q C hQ => ?_)
  unfold X8_isShattered at hf
  refine jAloadn C dX8_isShattered_0 rfl 0 rfl ?_
  refine gf_RX8_16 C dX8_isShattered_1 ?_
  refine jAloadn C dX8_isShattered_4 rfl 1 rfl ?_
  obtain ⟨cP_1, cLo_2, cHi_3, e4, hf⟩ := bd3_some hf
  refine jVV C (X0_become_ok (by decide) hp1 e4) vb_X0_become mk_RX8_152 rfl (rcF (by decide)) ⟨Nat.le_of_ble_eq_true rfl, Nat.le_of_ble_eq_true rfl⟩ rfl (Nat.le_of_ble_eq_true rfl) dX8_isShattered_5 ?_
  refine jAloadn C dX8_isShattered_8 rfl 0 rfl ?_
  refine gf_RX8_16 C dX8_isShattered_9 ?_
  refine jIloadn C dX8_isShattered_12 rfl 2 rfl ?_
  obtain ⟨cLo_5, cHi_6, e7, hf⟩ := bd2_some hf
  refine jVV C (X0_cutTo_ok (by decide) e7) vb_X0_cutTo mk_RX8_325 rfl (rcF (by decide)) ⟨Nat.le_of_ble_eq_true rfl, Nat.le_of_ble_eq_true rfl⟩ rfl (Nat.le_of_ble_eq_true rfl) dX8_isShattered_13 ?_
  refine jAloadn C dX8_isShattered_16 rfl 0 rfl ?_
  refine gf_RX8_16 C dX8_isShattered_17 ?_
  obtain ⟨q8, e9, hf⟩ := bd1_some hf
  refine jVI C (X0_size_ok (by decide) e9) vb_X0_size mk_RX8_236 rfl (rcF (by decide)) ⟨Nat.le_of_ble_eq_true rfl, Nat.le_of_ble_eq_true rfl⟩ rfl (Nat.le_of_ble_eq_true rfl) dX8_isShattered_20 ?_
  refine jIconst C (1 : Int32) dX8_isShattered_23 ki_1 ?_
  refine jIloadn C dX8_isShattered_24 rfl 2 rfl ?_
  obtain ⟨q10, e11, hf⟩ := bd1_some hf
  refine jSI C (J6_bitCount_0f7a4_ok  e11) sb_J6_bitCount_0f7a4 mk_RX8_190 rfl ⟨Nat.le_of_ble_eq_true rfl, Nat.le_of_ble_eq_true rfl⟩ rfl (Nat.le_of_ble_eq_true rfl) dX8_isShattered_25 ?_
  refine jIshl C dX8_isShattered_28 ?_
  refine jCmpNe C 36 dX8_isShattered_29 (by decide) (fun c12 => ?_) (fun c12 => ?_)
  · replace hf := itn hf c12
    refine jIconst C (0 : Int32) dX8_isShattered_36 ki_0 ?_
    cases hf
    exact jEndIZ C hQ rfl nar_z0 dX8_isShattered_37
  · replace hf := itp hf c12
    refine jIconst C (1 : Int32) dX8_isShattered_32 ki_1 ?_
    refine jGoto C 37 dX8_isShattered_33 (by decide) ?_
    cases hf
    exact jEndIZ C hQ rfl nar_z1 dX8_isShattered_37
noncomputable def X8_shattered (cP : Nat → Int32) (cLo : Nat → Int64) (cHi : Nat → Int64) (p1 : Int32) (p2 : Int32) : Option (Int32 × (Nat → Int32) × (Nat → Int64) × (Nat → Int64)) := bdo (X8_familyAt cP p1) (some ((-2 : Int32), cP, cLo, cHi)) (fun f1 => bd1 (X0_knows cP f1 p2) (fun q3 => (if q3 = (0 : Int32) then some ((-2 : Int32), cP, cLo, cHi) else bd4 (X8_isShattered cP cLo cHi f1 p2) (fun q6 cP_7 cLo_8 cHi_9 => (if q6 = (0 : Int32) then some ((0 : Int32), cP_7, cLo_8, cHi_9) else some ((1 : Int32), cP_7, cLo_8, cHi_9))))))
set_option maxHeartbeats 4000000 in
set_option maxRecDepth 20000 in
theorem X8_shattered_ok {p1 : Int32} {p2 : Int32} {rr : Int32} {ocP : Nat → Int32} {ocLo : Nat → Int64} {ocHi : Nat → Int64}  (hf : X8_shattered cP cLo cHi p1 p2 = some (rr, ocP, ocLo, ocHi)) : MT yX8_shattered cX8_shattered 4 (some .int) 3 [.ref (g 28), .int p1, .int p2] D cy G (cw g cy cP cLo cHi cpl ctb ctl ctf ctp ctk cts cth cob col cso cha chs cbe ctr cgl cgh cll clh cta cme cps cwh cal cah) (cw g cy ocP ocLo ocHi cpl ctb ctl ctf ctp ctk cts cth cob col cso cha chs cbe ctr cgl cgh cll clh cta cme cps cwh cal cah) (some (.int rr)) := by
  refine MT.go (own := RX8) [(0, .ref (g 28)), (1, .int p1), (2, .int p2)] (by decide) rfl (Nat.le_of_ble_eq_true rfl) rfl (fun p l e s m args below meth c A Q C hQ => ?_)
  unfold X8_shattered at hf
  refine jAloadn C dX8_shattered_0 rfl 0 rfl ?_
  refine jIloadn C dX8_shattered_1 rfl 1 rfl ?_
  rcases bdo_some hf with ⟨q2, hf⟩ | ⟨f1, q2, hf⟩
  · refine jVN C (X8_familyAt_ok  q2) vb_X8_familyAt mk_RX8_102 rfl rc28 ⟨Nat.le_of_ble_eq_true rfl, Nat.le_of_ble_eq_true rfl⟩ rfl (Nat.le_of_ble_eq_true rfl) dX8_shattered_2 ?_
    refine jAstorenN C dX8_shattered_5 rfl (Nat.le_of_ble_eq_true rfl) [(3, .null), (0, .ref (g 28)), (1, .int p1), (2, .int p2)] rfl ?_
    refine jAloadnN C dX8_shattered_6 rfl 0 rfl ?_
    refine jIfnullN C 18 dX8_shattered_7 (by decide) ?_
    refine jBipush C (-2 : Int32) dX8_shattered_18 kb_m2 ?_
    cases hf
    exact jEndI C hQ rfl dX8_shattered_20
  · refine jVA C (X8_familyAt_ok  q2) vb_X8_familyAt mk_RX8_102 rfl rc28 ⟨Nat.le_of_ble_eq_true rfl, Nat.le_of_ble_eq_true rfl⟩ rfl (Nat.le_of_ble_eq_true rfl) dX8_shattered_2 ?_
    refine jAstoren C dX8_shattered_5 rfl (Nat.le_of_ble_eq_true rfl) [(3, .ref (g f1)), (0, .ref (g 28)), (1, .int p1), (2, .int p2)] rfl ?_
    refine jAloadn C dX8_shattered_6 rfl 0 rfl ?_
    refine jIfnull C dX8_shattered_7 ?_
    refine jAloadn C dX8_shattered_10 rfl 0 rfl ?_
    refine jIloadn C dX8_shattered_11 rfl 3 rfl ?_
    obtain ⟨q3, e4, hf⟩ := bd1_some hf
    refine jVI C (X0_knows_ok (X8_familyAt_lt q2) e4) vb_X0_knows mk_RX8_117 rfl (rcF (X8_familyAt_lt q2)) ⟨Nat.le_of_ble_eq_true rfl, Nat.le_of_ble_eq_true rfl⟩ rfl (Nat.le_of_ble_eq_true rfl) dX8_shattered_12 ?_
    refine jIfNe C 21 dX8_shattered_15 (by decide) (fun c5 => ?_) (fun c5 => ?_)
    · replace hf := itn hf c5
      refine jAloadn C dX8_shattered_21 rfl 1 rfl ?_
      refine jAloadn C dX8_shattered_22 rfl 0 rfl ?_
      refine jIloadn C dX8_shattered_23 rfl 3 rfl ?_
      obtain ⟨q6, cP_7, cLo_8, cHi_9, e10, hf⟩ := bd4_some hf
      refine jVI C (X8_isShattered_ok (X8_familyAt_lt q2) e10) vb_X8_isShattered mk_RX8_267 rfl rc28 ⟨Nat.le_of_ble_eq_true rfl, Nat.le_of_ble_eq_true rfl⟩ rfl (Nat.le_of_ble_eq_true rfl) dX8_shattered_24 ?_
      refine jIfEq C 34 dX8_shattered_27 (by decide) (fun c11 => ?_) (fun c11 => ?_)
      · replace hf := itp hf c11
        refine jIconst C (0 : Int32) dX8_shattered_34 ki_0 ?_
        cases hf
        exact jEndI C hQ rfl dX8_shattered_35
      · replace hf := itn hf c11
        refine jIconst C (1 : Int32) dX8_shattered_30 ki_1 ?_
        refine jGoto C 35 dX8_shattered_31 (by decide) ?_
        cases hf
        exact jEndI C hQ rfl dX8_shattered_35
    · replace hf := itp hf c5
      refine jBipush C (-2 : Int32) dX8_shattered_18 kb_m2 ?_
      cases hf
      exact jEndI C hQ rfl dX8_shattered_20
noncomputable def X8_shatters_h36 (f1 : Nat) (p2 : Int32) (r14 : Int32 → (Nat → Int32) → (Nat → Int64) → (Nat → Int64) → Option (Int32 × (Nat → Int32) × (Nat → Int64) × (Nat → Int64))) (x4_9 : Int32) (cP_10 : Nat → Int32) (cLo_11 : Nat → Int64) (cHi_12 : Nat → Int64) : Option (Int32 × (Nat → Int32) × (Nat → Int64) × (Nat → Int64)) := bd1 (X0_span cP_10 f1) (fun q15 => (if q15 ≤ x4_9 then (if p2 = (0 : Int32) then bd1 (X0_size cLo_11 cHi_12 4) (fun q21 => some (q21, cP_10, cLo_11, cHi_12)) else bd1 (X0_greatestLevel cP_10 cLo_11 cHi_12 4) (fun q19 => some (q19, cP_10, cLo_11, cHi_12))) else bd4 (X8_isShattered cP_10 cLo_11 cHi_12 f1 x4_9) (fun q23 cP_24 cLo_25 cHi_26 => (if q23 = (0 : Int32) then r14 (x4_9 + (1 : Int32)) cP_24 cLo_25 cHi_26 else bd2 (X0_put cLo_25 cHi_26 4 x4_9) (fun cLo_29 cHi_30 => r14 (x4_9 + (1 : Int32)) cP_24 cLo_29 cHi_30)))))
noncomputable def X8_shatters (cP : Nat → Int32) (cLo : Nat → Int64) (cHi : Nat → Int64) (p1 : Int32) (p2 : Int32) : Option (Int32 × (Nat → Int32) × (Nat → Int64) × (Nat → Int64)) := bdo (X8_familyAt cP p1) (some ((-2 : Int32), cP, cLo, cHi)) (fun f1 => (if p2 < (0 : Int32) then some ((-2 : Int32), cP, cLo, cHi) else (if p2 ≤ (1 : Int32) then bd3 (X0_clear cP cLo cHi 4 (cP f1)) (fun cP_5 cLo_6 cHi_7 => lfp4 (X8_shatters_h36 f1 p2) (0 : Int32) cP_5 cLo_6 cHi_7) else some ((-2 : Int32), cP, cLo, cHi))))
set_option maxHeartbeats 4000000 in
set_option maxRecDepth 20000 in
theorem X8_shatters_ok {p1 : Int32} {p2 : Int32} {rr : Int32} {ocP : Nat → Int32} {ocLo : Nat → Int64} {ocHi : Nat → Int64}  (hf : X8_shatters cP cLo cHi p1 p2 = some (rr, ocP, ocLo, ocHi)) : MT yX8_shatters cX8_shatters 5 (some .int) 3 [.ref (g 28), .int p1, .int p2] D cy G (cw g cy cP cLo cHi cpl ctb ctl ctf ctp ctk cts cth cob col cso cha chs cbe ctr cgl cgh cll clh cta cme cps cwh cal cah) (cw g cy ocP ocLo ocHi cpl ctb ctl ctf ctp ctk cts cth cob col cso cha chs cbe ctr cgl cgh cll clh cta cme cps cwh cal cah) (some (.int rr)) := by
  refine MT.go (own := RX8) [(0, .ref (g 28)), (1, .int p1), (2, .int p2)] (by decide) rfl (Nat.le_of_ble_eq_true rfl) rfl (fun p l e s m args below meth c A Q C hQ => ?_)
  unfold X8_shatters at hf
  refine jAloadn C dX8_shatters_0 rfl 0 rfl ?_
  refine jIloadn C dX8_shatters_1 rfl 1 rfl ?_
  rcases bdo_some hf with ⟨q2, hf⟩ | ⟨f1, q2, hf⟩
  · refine jVN C (X8_familyAt_ok  q2) vb_X8_familyAt mk_RX8_102 rfl rc28 ⟨Nat.le_of_ble_eq_true rfl, Nat.le_of_ble_eq_true rfl⟩ rfl (Nat.le_of_ble_eq_true rfl) dX8_shatters_2 ?_
    refine jAstorenN C dX8_shatters_5 rfl (Nat.le_of_ble_eq_true rfl) [(3, .null), (0, .ref (g 28)), (1, .int p1), (2, .int p2)] rfl ?_
    refine jAloadnN C dX8_shatters_6 rfl 0 rfl ?_
    refine jIfnullN C 19 dX8_shatters_7 (by decide) ?_
    refine jBipush C (-2 : Int32) dX8_shatters_19 kb_m2 ?_
    cases hf
    exact jEndI C hQ rfl dX8_shatters_21
  · refine jVA C (X8_familyAt_ok  q2) vb_X8_familyAt mk_RX8_102 rfl rc28 ⟨Nat.le_of_ble_eq_true rfl, Nat.le_of_ble_eq_true rfl⟩ rfl (Nat.le_of_ble_eq_true rfl) dX8_shatters_2 ?_
    refine jAstoren C dX8_shatters_5 rfl (Nat.le_of_ble_eq_true rfl) [(3, .ref (g f1)), (0, .ref (g 28)), (1, .int p1), (2, .int p2)] rfl ?_
    refine jAloadn C dX8_shatters_6 rfl 0 rfl ?_
    refine jIfnull C dX8_shatters_7 ?_
    refine jIloadn C dX8_shatters_10 rfl 3 rfl ?_
    refine jIfLt C 19 dX8_shatters_11 (by decide) (fun c3 => ?_) (fun c3 => ?_)
    · replace hf := itp hf c3
      refine jBipush C (-2 : Int32) dX8_shatters_19 kb_m2 ?_
      cases hf
      exact jEndI C hQ rfl dX8_shatters_21
    · replace hf := itn hf c3
      refine jIloadn C dX8_shatters_14 rfl 3 rfl ?_
      refine jIconst C (1 : Int32) dX8_shatters_15 ki_1 ?_
      refine jCmpLe C 22 dX8_shatters_16 (by decide) (fun c4 => ?_) (fun c4 => ?_)
      · replace hf := itp hf c4
        refine jAloadn C dX8_shatters_22 rfl 1 rfl ?_
        refine gf_RX8_20 C dX8_shatters_23 ?_
        refine jAloadn C dX8_shatters_26 rfl 0 rfl ?_
        refine gf_RX8_133 C (X8_familyAt_lt q2) dX8_shatters_27 ?_
        obtain ⟨cP_5, cLo_6, cHi_7, e8, hf⟩ := bd3_some hf
        refine jVV C (X0_clear_ok (by decide) e8) vb_X0_clear mk_RX8_146 rfl (rcF (by decide)) ⟨Nat.le_of_ble_eq_true rfl, Nat.le_of_ble_eq_true rfl⟩ rfl (Nat.le_of_ble_eq_true rfl) dX8_shatters_30 ?_
        refine jIconst C (0 : Int32) dX8_shatters_33 ki_0 ?_
        refine jIstore C dX8_shatters_34 (Nat.le_of_ble_eq_true rfl) [(4, .int (0 : Int32)), (3, .ref (g f1)), (0, .ref (g 28)), (1, .int p1), (2, .int p2)] rfl ?_
        have hL13 : ∀ (x4_9 : Int32) (cP_10 : Nat → Int32) (cLo_11 : Nat → Int64) (cHi_12 : Nat → Int64), lfp4 (X8_shatters_h36 f1 p2) x4_9 cP_10 cLo_11 cHi_12 = some (rr, ocP, ocLo, ocHi) → J p l e (rmk 3) s m args below meth c D A Q 5 (cw g cy cP_10 cLo_11 cHi_12 cpl ctb ctl ctf ctp ctk cts cth cob col cso cha chs cbe ctr cgl cgh cll clh cta cme cps cwh cal cah) 36 [(0, .ref (g 28)), (2, .int p2), (3, .ref (g f1)), (4, .int x4_9)] [] := by
          intro x4_9 cP_10 cLo_11 cHi_12 hw
          refine lfp4_walk (P := fun x4_9 cP_10 cLo_11 cHi_12 => J p l e (rmk 3) s m args below meth c D A Q 5 (cw g cy cP_10 cLo_11 cHi_12 cpl ctb ctl ctf ctp ctk cts cth cob col cso cha chs cbe ctr cgl cgh cll clh cta cme cps cwh cal cah) 36 [(0, .ref (g 28)), (2, .int p2), (3, .ref (g f1)), (4, .int x4_9)] []) ?_ hw
          intro r14 ir14 x4_9 cP_10 cLo_11 cHi_12 hf
          unfold X8_shatters_h36 at hf
          refine jIload C dX8_shatters_36 3 rfl ?_
          refine jAloadn C dX8_shatters_38 rfl 2 rfl ?_
          obtain ⟨q15, e16, hf⟩ := bd1_some hf
          refine jVI C (X0_span_ok (X8_familyAt_lt q2) e16) vb_X0_span mk_RX8_270 rfl (rcF (X8_familyAt_lt q2)) ⟨Nat.le_of_ble_eq_true rfl, Nat.le_of_ble_eq_true rfl⟩ rfl (Nat.le_of_ble_eq_true rfl) dX8_shatters_39 ?_
          refine jCmpGe C 70 dX8_shatters_42 (by decide) (fun c17 => ?_) (fun c17 => ?_)
          · replace hf := itp hf c17
            refine jIloadn C dX8_shatters_70 rfl 1 rfl ?_
            refine jIfNe C 84 dX8_shatters_71 (by decide) (fun c18 => ?_) (fun c18 => ?_)
            · replace hf := itn hf c18
              refine jAloadn C dX8_shatters_84 rfl 0 rfl ?_
              refine gf_RX8_20 C dX8_shatters_85 ?_
              obtain ⟨q19, e20, hf⟩ := bd1_some hf
              refine jVI C (X0_greatestLevel_ok (by decide) e20) vb_X0_greatestLevel mk_RX8_273 rfl (rcF (by decide)) ⟨Nat.le_of_ble_eq_true rfl, Nat.le_of_ble_eq_true rfl⟩ rfl (Nat.le_of_ble_eq_true rfl) dX8_shatters_88 ?_
              cases hf
              exact jEndI C hQ rfl dX8_shatters_91
            · replace hf := itp hf c18
              refine jAloadn C dX8_shatters_74 rfl 0 rfl ?_
              refine gf_RX8_20 C dX8_shatters_75 ?_
              obtain ⟨q21, e22, hf⟩ := bd1_some hf
              refine jVI C (X0_size_ok (by decide) e22) vb_X0_size mk_RX8_236 rfl (rcF (by decide)) ⟨Nat.le_of_ble_eq_true rfl, Nat.le_of_ble_eq_true rfl⟩ rfl (Nat.le_of_ble_eq_true rfl) dX8_shatters_78 ?_
              refine jGoto C 91 dX8_shatters_81 (by decide) ?_
              cases hf
              exact jEndI C hQ rfl dX8_shatters_91
          · replace hf := itn hf c17
            refine jAloadn C dX8_shatters_45 rfl 0 rfl ?_
            refine jAloadn C dX8_shatters_46 rfl 2 rfl ?_
            refine jIload C dX8_shatters_47 3 rfl ?_
            obtain ⟨q23, cP_24, cLo_25, cHi_26, e27, hf⟩ := bd4_some hf
            refine jVI C (X8_isShattered_ok (X8_familyAt_lt q2) e27) vb_X8_isShattered mk_RX8_267 rfl rc28 ⟨Nat.le_of_ble_eq_true rfl, Nat.le_of_ble_eq_true rfl⟩ rfl (Nat.le_of_ble_eq_true rfl) dX8_shatters_49 ?_
            refine jIfEq C 64 dX8_shatters_52 (by decide) (fun c28 => ?_) (fun c28 => ?_)
            · replace hf := itp hf c28
              refine jIinc C (x4_9 + (1 : Int32)) dX8_shatters_64 3 rfl (congrArg (fun z : Int32 => x4_9 + z) ki_1) (Nat.le_of_ble_eq_true rfl) [(4, .int (x4_9 + (1 : Int32))), (0, .ref (g 28)), (2, .int p2), (3, .ref (g f1))] rfl ?_
              refine jGoto C 36 dX8_shatters_67 (by decide) ?_
              refine jSub [1, 2, 3, 0] rfl ?_
              exact ir14 (x4_9 + (1 : Int32)) cP_24 cLo_25 cHi_26 hf
            · replace hf := itn hf c28
              refine jAloadn C dX8_shatters_55 rfl 0 rfl ?_
              refine gf_RX8_20 C dX8_shatters_56 ?_
              refine jIload C dX8_shatters_59 3 rfl ?_
              obtain ⟨cLo_29, cHi_30, e31, hf⟩ := bd2_some hf
              refine jVV C (X0_put_ok (by decide) e31) vb_X0_put mk_RX8_187 rfl (rcF (by decide)) ⟨Nat.le_of_ble_eq_true rfl, Nat.le_of_ble_eq_true rfl⟩ rfl (Nat.le_of_ble_eq_true rfl) dX8_shatters_61 ?_
              refine jIinc C (x4_9 + (1 : Int32)) dX8_shatters_64 3 rfl (congrArg (fun z : Int32 => x4_9 + z) ki_1) (Nat.le_of_ble_eq_true rfl) [(4, .int (x4_9 + (1 : Int32))), (0, .ref (g 28)), (2, .int p2), (3, .ref (g f1))] rfl ?_
              refine jGoto C 36 dX8_shatters_67 (by decide) ?_
              refine jSub [1, 2, 3, 0] rfl ?_
              exact ir14 (x4_9 + (1 : Int32)) cP_24 cLo_29 cHi_30 hf
        refine jSub [2, 4, 1, 0] rfl ?_
        exact hL13 (0 : Int32) cP_5 cLo_6 cHi_7 hf
      · replace hf := itn hf c4
        refine jBipush C (-2 : Int32) dX8_shatters_19 kb_m2 ?_
        cases hf
        exact jEndI C hQ rfl dX8_shatters_21
noncomputable def X8_findFlower_h32 (p1 : Nat) (r7 : Int32 → Int32 → (Nat → Int32) → (Nat → Int64) → (Nat → Int64) → Option (Int32 × (Nat → Int32) × (Nat → Int64) × (Nat → Int64))) (x4_2 : Int32) (p2 : Int32) (r21 : Int32 → Int32 → (Nat → Int32) → (Nat → Int64) → (Nat → Int64) → Option (Int32 × (Nat → Int32) × (Nat → Int64) × (Nat → Int64))) (x3_15 : Int32) (x5_16 : Int32) (cP_17 : Nat → Int32) (cLo_18 : Nat → Int64) (cHi_19 : Nat → Int64) : Option (Int32 × (Nat → Int32) × (Nat → Int64) × (Nat → Int64)) := bd1 (X0_span cP_17 p1) (fun q22 => (if q22 ≤ x5_16 then r7 x3_15 (x4_2 + (1 : Int32)) cP_17 cLo_18 cHi_19 else bd1 (X0_holds cLo_18 cHi_19 p1 x5_16) (fun q25 => (if q25 = (0 : Int32) then r21 x3_15 (x5_16 + (1 : Int32)) cP_17 cLo_18 cHi_19 else bd3 (X0_become cP_17 cLo_18 cHi_19 3 p1) (fun cP_28 cLo_29 cHi_30 => bd2 (X0_keepSharing cLo_29 cHi_30 3 (x4_2 ||| x5_16) (x4_2 &&& x5_16)) (fun cLo_32 cHi_33 => bd2 (X0_keepBehind cLo_32 cHi_33 3 x5_16) (fun cLo_35 cHi_36 => bd1 (X0_size cLo_35 cHi_36 3) (fun q38 => (if p2 = (-1 : Int32) then r21 (x3_15 + q38) (x5_16 + (1 : Int32)) cP_28 cLo_35 cHi_36 else (if q38 ≤ (p2 - x3_15) then r21 (x3_15 + q38) (x5_16 + (1 : Int32)) cP_28 cLo_35 cHi_36 else bd1 (X0_pick cP_28 cLo_35 cHi_36 3 (p2 - x3_15)) (fun q42 => some (((((1000000 : Int32) * x4_2) + ((1000 : Int32) * x5_16)) + q42), cP_28, cLo_35, cHi_36))))))))))))
noncomputable def X8_findFlower_h5 (p1 : Nat) (p2 : Int32) (r7 : Int32 → Int32 → (Nat → Int32) → (Nat → Int64) → (Nat → Int64) → Option (Int32 × (Nat → Int32) × (Nat → Int64) × (Nat → Int64))) (x3_1 : Int32) (x4_2 : Int32) (cP_3 : Nat → Int32) (cLo_4 : Nat → Int64) (cHi_5 : Nat → Int64) : Option (Int32 × (Nat → Int32) × (Nat → Int64) × (Nat → Int64)) := bd1 (X0_span cP_3 p1) (fun q8 => (if q8 ≤ x4_2 then (if p2 = (-1 : Int32) then some (x3_1, cP_3, cLo_4, cHi_5) else some ((-1 : Int32), cP_3, cLo_4, cHi_5)) else bd1 (X0_holds cLo_4 cHi_5 p1 x4_2) (fun q12 => (if q12 = (0 : Int32) then r7 x3_1 (x4_2 + (1 : Int32)) cP_3 cLo_4 cHi_5 else lfp5 (X8_findFlower_h32 p1 r7 x4_2 p2) x3_1 (x4_2 + (1 : Int32)) cP_3 cLo_4 cHi_5))))
noncomputable def X8_findFlower (cP : Nat → Int32) (cLo : Nat → Int64) (cHi : Nat → Int64) (p1 : Nat) (p2 : Int32) : Option (Int32 × (Nat → Int32) × (Nat → Int64) × (Nat → Int64)) := lfp5 (X8_findFlower_h5 p1 p2) (0 : Int32) (0 : Int32) cP cLo cHi
set_option maxHeartbeats 4000000 in
set_option maxRecDepth 20000 in
theorem X8_findFlower_ok {p1 : Nat} {p2 : Int32} {rr : Int32} {ocP : Nat → Int32} {ocLo : Nat → Int64} {ocHi : Nat → Int64} (hp1 : p1 < 28) (hf : X8_findFlower cP cLo cHi p1 p2 = some (rr, ocP, ocLo, ocHi)) : MT yX8_findFlower cX8_findFlower 7 (some .int) 2 [.ref (g 28), .ref (g p1), .int p2] D cy G (cw g cy cP cLo cHi cpl ctb ctl ctf ctp ctk cts cth cob col cso cha chs cbe ctr cgl cgh cll clh cta cme cps cwh cal cah) (cw g cy ocP ocLo ocHi cpl ctb ctl ctf ctp ctk cts cth cob col cso cha chs cbe ctr cgl cgh cll clh cta cme cps cwh cal cah) (some (.int rr)) := by
  refine MT.go (own := RX8) [(0, .ref (g 28)), (1, .ref (g p1)), (2, .int p2)] (by decide) rfl (Nat.le_of_ble_eq_true rfl) rfl (fun p l e s m args below meth c A Q C hQ => ?_)
  unfold X8_findFlower at hf
  refine jIconst C (0 : Int32) dX8_findFlower_0 ki_0 ?_
  refine jIstoren C dX8_findFlower_1 rfl (Nat.le_of_ble_eq_true rfl) [(3, .int (0 : Int32)), (0, .ref (g 28)), (1, .ref (g p1)), (2, .int p2)] rfl ?_
  refine jIconst C (0 : Int32) dX8_findFlower_2 ki_0 ?_
  refine jIstore C dX8_findFlower_3 (Nat.le_of_ble_eq_true rfl) [(4, .int (0 : Int32)), (3, .int (0 : Int32)), (0, .ref (g 28)), (1, .ref (g p1)), (2, .int p2)] rfl ?_
  have hL6 : ∀ (x3_1 : Int32) (x4_2 : Int32) (cP_3 : Nat → Int32) (cLo_4 : Nat → Int64) (cHi_5 : Nat → Int64), lfp5 (X8_findFlower_h5 p1 p2) x3_1 x4_2 cP_3 cLo_4 cHi_5 = some (rr, ocP, ocLo, ocHi) → J p l e (rmk 2) s m args below meth c D A Q 7 (cw g cy cP_3 cLo_4 cHi_5 cpl ctb ctl ctf ctp ctk cts cth cob col cso cha chs cbe ctr cgl cgh cll clh cta cme cps cwh cal cah) 5 [(0, .ref (g 28)), (1, .ref (g p1)), (2, .int p2), (3, .int x3_1), (4, .int x4_2)] [] := by
    intro x3_1 x4_2 cP_3 cLo_4 cHi_5 hw
    refine lfp5_walk (P := fun x3_1 x4_2 cP_3 cLo_4 cHi_5 => J p l e (rmk 2) s m args below meth c D A Q 7 (cw g cy cP_3 cLo_4 cHi_5 cpl ctb ctl ctf ctp ctk cts cth cob col cso cha chs cbe ctr cgl cgh cll clh cta cme cps cwh cal cah) 5 [(0, .ref (g 28)), (1, .ref (g p1)), (2, .int p2), (3, .int x3_1), (4, .int x4_2)] []) ?_ hw
    intro r7 ir7 x3_1 x4_2 cP_3 cLo_4 cHi_5 hf
    unfold X8_findFlower_h5 at hf
    refine jIload C dX8_findFlower_5 4 rfl ?_
    refine jAloadn C dX8_findFlower_7 rfl 1 rfl ?_
    obtain ⟨q8, e9, hf⟩ := bd1_some hf
    refine jVI C (X0_span_ok hp1 e9) vb_X0_span mk_RX8_270 rfl (rcF hp1) ⟨Nat.le_of_ble_eq_true rfl, Nat.le_of_ble_eq_true rfl⟩ rfl (Nat.le_of_ble_eq_true rfl) dX8_findFlower_8 ?_
    refine jCmpGe C 151 dX8_findFlower_11 (by decide) (fun c10 => ?_) (fun c10 => ?_)
    · replace hf := itp hf c10
      refine jIloadn C dX8_findFlower_151 rfl 2 rfl ?_
      refine jIconst C (-1 : Int32) dX8_findFlower_152 ki_m1 ?_
      refine jCmpNe C 160 dX8_findFlower_153 (by decide) (fun c11 => ?_) (fun c11 => ?_)
      · replace hf := itn hf c11
        refine jIconst C (-1 : Int32) dX8_findFlower_160 ki_m1 ?_
        cases hf
        exact jEndI C hQ rfl dX8_findFlower_161
      · replace hf := itp hf c11
        refine jIloadn C dX8_findFlower_156 rfl 3 rfl ?_
        refine jGoto C 161 dX8_findFlower_157 (by decide) ?_
        cases hf
        exact jEndI C hQ rfl dX8_findFlower_161
    · replace hf := itn hf c10
      refine jAloadn C dX8_findFlower_14 rfl 1 rfl ?_
      refine jIload C dX8_findFlower_15 4 rfl ?_
      obtain ⟨q12, e13, hf⟩ := bd1_some hf
      refine jVI C (X0_holds_ok hp1 e13) vb_X0_holds mk_RX8_120 rfl (rcF hp1) ⟨Nat.le_of_ble_eq_true rfl, Nat.le_of_ble_eq_true rfl⟩ rfl (Nat.le_of_ble_eq_true rfl) dX8_findFlower_17 ?_
      refine jIfNe C 26 dX8_findFlower_20 (by decide) (fun c14 => ?_) (fun c14 => ?_)
      · replace hf := itn hf c14
        refine jIload C dX8_findFlower_26 4 rfl ?_
        refine jIconst C (1 : Int32) dX8_findFlower_28 ki_1 ?_
        refine jIadd C dX8_findFlower_29 ?_
        refine jIstore C dX8_findFlower_30 (Nat.le_of_ble_eq_true rfl) [(5, .int (x4_2 + (1 : Int32))), (0, .ref (g 28)), (1, .ref (g p1)), (2, .int p2), (3, .int x3_1), (4, .int x4_2)] rfl ?_
        have hL20 : ∀ (x3_15 : Int32) (x5_16 : Int32) (cP_17 : Nat → Int32) (cLo_18 : Nat → Int64) (cHi_19 : Nat → Int64), lfp5 (X8_findFlower_h32 p1 r7 x4_2 p2) x3_15 x5_16 cP_17 cLo_18 cHi_19 = some (rr, ocP, ocLo, ocHi) → J p l e (rmk 2) s m args below meth c D A Q 7 (cw g cy cP_17 cLo_18 cHi_19 cpl ctb ctl ctf ctp ctk cts cth cob col cso cha chs cbe ctr cgl cgh cll clh cta cme cps cwh cal cah) 32 [(0, .ref (g 28)), (1, .ref (g p1)), (2, .int p2), (3, .int x3_15), (4, .int x4_2), (5, .int x5_16)] [] := by
          intro x3_15 x5_16 cP_17 cLo_18 cHi_19 hw
          refine lfp5_walk (P := fun x3_15 x5_16 cP_17 cLo_18 cHi_19 => J p l e (rmk 2) s m args below meth c D A Q 7 (cw g cy cP_17 cLo_18 cHi_19 cpl ctb ctl ctf ctp ctk cts cth cob col cso cha chs cbe ctr cgl cgh cll clh cta cme cps cwh cal cah) 32 [(0, .ref (g 28)), (1, .ref (g p1)), (2, .int p2), (3, .int x3_15), (4, .int x4_2), (5, .int x5_16)] []) ?_ hw
          intro r21 ir21 x3_15 x5_16 cP_17 cLo_18 cHi_19 hf
          unfold X8_findFlower_h32 at hf
          refine jIload C dX8_findFlower_32 5 rfl ?_
          refine jAloadn C dX8_findFlower_34 rfl 1 rfl ?_
          obtain ⟨q22, e23, hf⟩ := bd1_some hf
          refine jVI C (X0_span_ok hp1 e23) vb_X0_span mk_RX8_270 rfl (rcF hp1) ⟨Nat.le_of_ble_eq_true rfl, Nat.le_of_ble_eq_true rfl⟩ rfl (Nat.le_of_ble_eq_true rfl) dX8_findFlower_35 ?_
          refine jCmpGe C 145 dX8_findFlower_38 (by decide) (fun c24 => ?_) (fun c24 => ?_)
          · replace hf := itp hf c24
            refine jIinc C (x4_2 + (1 : Int32)) dX8_findFlower_145 4 rfl (congrArg (fun z : Int32 => x4_2 + z) ki_1) (Nat.le_of_ble_eq_true rfl) [(4, .int (x4_2 + (1 : Int32))), (0, .ref (g 28)), (1, .ref (g p1)), (2, .int p2), (3, .int x3_15), (5, .int x5_16)] rfl ?_
            refine jGoto C 5 dX8_findFlower_148 (by decide) ?_
            refine jSub [1, 2, 3, 4, 0] rfl ?_
            exact ir7 x3_15 (x4_2 + (1 : Int32)) cP_17 cLo_18 cHi_19 hf
          · replace hf := itn hf c24
            refine jAloadn C dX8_findFlower_41 rfl 1 rfl ?_
            refine jIload C dX8_findFlower_42 5 rfl ?_
            obtain ⟨q25, e26, hf⟩ := bd1_some hf
            refine jVI C (X0_holds_ok hp1 e26) vb_X0_holds mk_RX8_120 rfl (rcF hp1) ⟨Nat.le_of_ble_eq_true rfl, Nat.le_of_ble_eq_true rfl⟩ rfl (Nat.le_of_ble_eq_true rfl) dX8_findFlower_44 ?_
            refine jIfNe C 53 dX8_findFlower_47 (by decide) (fun c27 => ?_) (fun c27 => ?_)
            · replace hf := itn hf c27
              refine jAloadn C dX8_findFlower_53 rfl 0 rfl ?_
              refine gf_RX8_16 C dX8_findFlower_54 ?_
              refine jAloadn C dX8_findFlower_57 rfl 1 rfl ?_
              obtain ⟨cP_28, cLo_29, cHi_30, e31, hf⟩ := bd3_some hf
              refine jVV C (X0_become_ok (by decide) hp1 e31) vb_X0_become mk_RX8_152 rfl (rcF (by decide)) ⟨Nat.le_of_ble_eq_true rfl, Nat.le_of_ble_eq_true rfl⟩ rfl (Nat.le_of_ble_eq_true rfl) dX8_findFlower_58 ?_
              refine jAloadn C dX8_findFlower_61 rfl 0 rfl ?_
              refine gf_RX8_16 C dX8_findFlower_62 ?_
              refine jIload C dX8_findFlower_65 4 rfl ?_
              refine jIload C dX8_findFlower_67 5 rfl ?_
              refine jIor C dX8_findFlower_69 ?_
              refine jIload C dX8_findFlower_70 4 rfl ?_
              refine jIload C dX8_findFlower_72 5 rfl ?_
              refine jIand C dX8_findFlower_74 ?_
              obtain ⟨cLo_32, cHi_33, e34, hf⟩ := bd2_some hf
              refine jVV C (X0_keepSharing_ok (by decide) e34) vb_X0_keepSharing mk_RX8_398 rfl (rcF (by decide)) ⟨Nat.le_of_ble_eq_true rfl, Nat.le_of_ble_eq_true rfl⟩ rfl (Nat.le_of_ble_eq_true rfl) dX8_findFlower_75 ?_
              refine jAloadn C dX8_findFlower_78 rfl 0 rfl ?_
              refine gf_RX8_16 C dX8_findFlower_79 ?_
              refine jIload C dX8_findFlower_82 5 rfl ?_
              obtain ⟨cLo_35, cHi_36, e37, hf⟩ := bd2_some hf
              refine jVV C (X0_keepBehind_ok (by decide) e37) vb_X0_keepBehind mk_RX8_402 rfl (rcF (by decide)) ⟨Nat.le_of_ble_eq_true rfl, Nat.le_of_ble_eq_true rfl⟩ rfl (Nat.le_of_ble_eq_true rfl) dX8_findFlower_84 ?_
              refine jAloadn C dX8_findFlower_87 rfl 0 rfl ?_
              refine gf_RX8_16 C dX8_findFlower_88 ?_
              obtain ⟨q38, e39, hf⟩ := bd1_some hf
              refine jVI C (X0_size_ok (by decide) e39) vb_X0_size mk_RX8_236 rfl (rcF (by decide)) ⟨Nat.le_of_ble_eq_true rfl, Nat.le_of_ble_eq_true rfl⟩ rfl (Nat.le_of_ble_eq_true rfl) dX8_findFlower_91 ?_
              refine jIstore C dX8_findFlower_94 (Nat.le_of_ble_eq_true rfl) [(6, .int q38), (0, .ref (g 28)), (1, .ref (g p1)), (2, .int p2), (3, .int x3_15), (4, .int x4_2), (5, .int x5_16)] rfl ?_
              refine jIloadn C dX8_findFlower_96 rfl 3 rfl ?_
              refine jIconst C (-1 : Int32) dX8_findFlower_97 ki_m1 ?_
              refine jCmpEq C 134 dX8_findFlower_98 (by decide) (fun c40 => ?_) (fun c40 => ?_)
              · replace hf := itp hf c40
                refine jIloadn C dX8_findFlower_134 rfl 4 rfl ?_
                refine jIload C dX8_findFlower_135 0 rfl ?_
                refine jIadd C dX8_findFlower_137 ?_
                refine jIstoren C dX8_findFlower_138 rfl (Nat.le_of_ble_eq_true rfl) [(3, .int (x3_15 + q38)), (6, .int q38), (0, .ref (g 28)), (1, .ref (g p1)), (2, .int p2), (4, .int x4_2), (5, .int x5_16)] rfl ?_
                refine jIinc C (x5_16 + (1 : Int32)) dX8_findFlower_139 6 rfl (congrArg (fun z : Int32 => x5_16 + z) ki_1) (Nat.le_of_ble_eq_true rfl) [(5, .int (x5_16 + (1 : Int32))), (3, .int (x3_15 + q38)), (6, .int q38), (0, .ref (g 28)), (1, .ref (g p1)), (2, .int p2), (4, .int x4_2)] rfl ?_
                refine jGoto C 32 dX8_findFlower_142 (by decide) ?_
                refine jSub [3, 4, 5, 1, 6, 0] rfl ?_
                exact ir21 (x3_15 + q38) (x5_16 + (1 : Int32)) cP_28 cLo_35 cHi_36 hf
              · replace hf := itn hf c40
                refine jIloadn C dX8_findFlower_101 rfl 3 rfl ?_
                refine jIloadn C dX8_findFlower_102 rfl 4 rfl ?_
                refine jIsub C dX8_findFlower_103 ?_
                refine jIload C dX8_findFlower_104 0 rfl ?_
                refine jCmpGe C 134 dX8_findFlower_106 (by decide) (fun c41 => ?_) (fun c41 => ?_)
                · replace hf := itp hf c41
                  refine jIloadn C dX8_findFlower_134 rfl 4 rfl ?_
                  refine jIload C dX8_findFlower_135 0 rfl ?_
                  refine jIadd C dX8_findFlower_137 ?_
                  refine jIstoren C dX8_findFlower_138 rfl (Nat.le_of_ble_eq_true rfl) [(3, .int (x3_15 + q38)), (6, .int q38), (0, .ref (g 28)), (1, .ref (g p1)), (2, .int p2), (4, .int x4_2), (5, .int x5_16)] rfl ?_
                  refine jIinc C (x5_16 + (1 : Int32)) dX8_findFlower_139 6 rfl (congrArg (fun z : Int32 => x5_16 + z) ki_1) (Nat.le_of_ble_eq_true rfl) [(5, .int (x5_16 + (1 : Int32))), (3, .int (x3_15 + q38)), (6, .int q38), (0, .ref (g 28)), (1, .ref (g p1)), (2, .int p2), (4, .int x4_2)] rfl ?_
                  refine jGoto C 32 dX8_findFlower_142 (by decide) ?_
                  refine jSub [3, 4, 5, 1, 6, 0] rfl ?_
                  exact ir21 (x3_15 + q38) (x5_16 + (1 : Int32)) cP_28 cLo_35 cHi_36 hf
                · replace hf := itn hf c41
                  refine jLdcw C (x := (1000000 : Int32)) ik_RX8_405 dX8_findFlower_109 ?_
                  refine jIload C dX8_findFlower_112 5 rfl ?_
                  refine jImul C dX8_findFlower_114 ?_
                  refine jSipush C (1000 : Int32) dX8_findFlower_115 ks_1000 ?_
                  refine jIload C dX8_findFlower_118 6 rfl ?_
                  refine jImul C dX8_findFlower_120 ?_
                  refine jIadd C dX8_findFlower_121 ?_
                  refine jAloadn C dX8_findFlower_122 rfl 1 rfl ?_
                  refine gf_RX8_16 C dX8_findFlower_123 ?_
                  refine jIloadn C dX8_findFlower_126 rfl 3 rfl ?_
                  refine jIloadn C dX8_findFlower_127 rfl 4 rfl ?_
                  refine jIsub C dX8_findFlower_128 ?_
                  obtain ⟨q42, e43, hf⟩ := bd1_some hf
                  refine jVI C (X0_pick_ok (by decide) e43) vb_X0_pick mk_RX8_113 rfl (rcF (by decide)) ⟨Nat.le_of_ble_eq_true rfl, Nat.le_of_ble_eq_true rfl⟩ rfl (Nat.le_of_ble_eq_true rfl) dX8_findFlower_129 ?_
                  refine jIadd C dX8_findFlower_132 ?_
                  cases hf
                  exact jEndI C hQ rfl dX8_findFlower_133
            · replace hf := itp hf c27
              refine jGoto C 139 dX8_findFlower_50 (by decide) ?_
              refine jIinc C (x5_16 + (1 : Int32)) dX8_findFlower_139 5 rfl (congrArg (fun z : Int32 => x5_16 + z) ki_1) (Nat.le_of_ble_eq_true rfl) [(5, .int (x5_16 + (1 : Int32))), (0, .ref (g 28)), (1, .ref (g p1)), (2, .int p2), (3, .int x3_15), (4, .int x4_2)] rfl ?_
              refine jGoto C 32 dX8_findFlower_142 (by decide) ?_
              refine jSub [1, 2, 3, 4, 5, 0] rfl ?_
              exact ir21 x3_15 (x5_16 + (1 : Int32)) cP_17 cLo_18 cHi_19 hf
        refine jSub [1, 2, 3, 4, 5, 0] rfl ?_
        exact hL20 x3_1 (x4_2 + (1 : Int32)) cP_3 cLo_4 cHi_5 hf
      · replace hf := itp hf c14
        refine jGoto C 145 dX8_findFlower_23 (by decide) ?_
        refine jIinc C (x4_2 + (1 : Int32)) dX8_findFlower_145 4 rfl (congrArg (fun z : Int32 => x4_2 + z) ki_1) (Nat.le_of_ble_eq_true rfl) [(4, .int (x4_2 + (1 : Int32))), (0, .ref (g 28)), (1, .ref (g p1)), (2, .int p2), (3, .int x3_1)] rfl ?_
        refine jGoto C 5 dX8_findFlower_148 (by decide) ?_
        refine jSub [1, 2, 3, 4, 0] rfl ?_
        exact ir7 x3_1 (x4_2 + (1 : Int32)) cP_3 cLo_4 cHi_5 hf
  refine jSub [2, 3, 4, 1, 0] rfl ?_
  exact hL6 (0 : Int32) (0 : Int32) cP cLo cHi hf
noncomputable def X8_flower (cP : Nat → Int32) (cLo : Nat → Int64) (cHi : Nat → Int64) (p1 : Int32) (p2 : Int32) : Option (Int32 × (Nat → Int32) × (Nat → Int64) × (Nat → Int64)) := bdo (X8_familyAt cP p1) (some ((-2 : Int32), cP, cLo, cHi)) (fun f1 => (if (-1 : Int32) ≤ p2 then bd4 (X8_findFlower cP cLo cHi f1 p2) (fun q4 cP_5 cLo_6 cHi_7 => some (q4, cP_5, cLo_6, cHi_7)) else some ((-2 : Int32), cP, cLo, cHi)))
set_option maxHeartbeats 4000000 in
set_option maxRecDepth 20000 in
theorem X8_flower_ok {p1 : Int32} {p2 : Int32} {rr : Int32} {ocP : Nat → Int32} {ocLo : Nat → Int64} {ocHi : Nat → Int64}  (hf : X8_flower cP cLo cHi p1 p2 = some (rr, ocP, ocLo, ocHi)) : MT yX8_flower cX8_flower 4 (some .int) 3 [.ref (g 28), .int p1, .int p2] D cy G (cw g cy cP cLo cHi cpl ctb ctl ctf ctp ctk cts cth cob col cso cha chs cbe ctr cgl cgh cll clh cta cme cps cwh cal cah) (cw g cy ocP ocLo ocHi cpl ctb ctl ctf ctp ctk cts cth cob col cso cha chs cbe ctr cgl cgh cll clh cta cme cps cwh cal cah) (some (.int rr)) := by
  refine MT.go (own := RX8) [(0, .ref (g 28)), (1, .int p1), (2, .int p2)] (by decide) rfl (Nat.le_of_ble_eq_true rfl) rfl (fun p l e s m args below meth c A Q C hQ => ?_)
  unfold X8_flower at hf
  refine jAloadn C dX8_flower_0 rfl 0 rfl ?_
  refine jIloadn C dX8_flower_1 rfl 1 rfl ?_
  rcases bdo_some hf with ⟨q2, hf⟩ | ⟨f1, q2, hf⟩
  · refine jVN C (X8_familyAt_ok  q2) vb_X8_familyAt mk_RX8_102 rfl rc28 ⟨Nat.le_of_ble_eq_true rfl, Nat.le_of_ble_eq_true rfl⟩ rfl (Nat.le_of_ble_eq_true rfl) dX8_flower_2 ?_
    refine jAstorenN C dX8_flower_5 rfl (Nat.le_of_ble_eq_true rfl) [(3, .null), (0, .ref (g 28)), (1, .int p1), (2, .int p2)] rfl ?_
    refine jAloadnN C dX8_flower_6 rfl 0 rfl ?_
    refine jIfnullN C 15 dX8_flower_7 (by decide) ?_
    refine jBipush C (-2 : Int32) dX8_flower_15 kb_m2 ?_
    cases hf
    exact jEndI C hQ rfl dX8_flower_17
  · refine jVA C (X8_familyAt_ok  q2) vb_X8_familyAt mk_RX8_102 rfl rc28 ⟨Nat.le_of_ble_eq_true rfl, Nat.le_of_ble_eq_true rfl⟩ rfl (Nat.le_of_ble_eq_true rfl) dX8_flower_2 ?_
    refine jAstoren C dX8_flower_5 rfl (Nat.le_of_ble_eq_true rfl) [(3, .ref (g f1)), (0, .ref (g 28)), (1, .int p1), (2, .int p2)] rfl ?_
    refine jAloadn C dX8_flower_6 rfl 0 rfl ?_
    refine jIfnull C dX8_flower_7 ?_
    refine jIloadn C dX8_flower_10 rfl 3 rfl ?_
    refine jIconst C (-1 : Int32) dX8_flower_11 ki_m1 ?_
    refine jCmpGe C 18 dX8_flower_12 (by decide) (fun c3 => ?_) (fun c3 => ?_)
    · replace hf := itp hf c3
      refine jAloadn C dX8_flower_18 rfl 1 rfl ?_
      refine jAloadn C dX8_flower_19 rfl 0 rfl ?_
      refine jIloadn C dX8_flower_20 rfl 3 rfl ?_
      obtain ⟨q4, cP_5, cLo_6, cHi_7, e8, hf⟩ := bd4_some hf
      refine jVI C (X8_findFlower_ok (X8_familyAt_lt q2) e8) vb_X8_findFlower mk_RX8_276 rfl rc28 ⟨Nat.le_of_ble_eq_true rfl, Nat.le_of_ble_eq_true rfl⟩ rfl (Nat.le_of_ble_eq_true rfl) dX8_flower_21 ?_
      cases hf
      exact jEndI C hQ rfl dX8_flower_24
    · replace hf := itn hf c3
      refine jBipush C (-2 : Int32) dX8_flower_15 kb_m2 ?_
      cases hf
      exact jEndI C hQ rfl dX8_flower_17
noncomputable def X8_twosApartAcross_h5 (p1 : Nat) (p2 : Nat) (r7 : Int32 → Int32 → (Nat → Int32) → (Nat → Int64) → (Nat → Int64) → Option (Int32 × (Nat → Int32) × (Nat → Int64) × (Nat → Int64))) (x3_1 : Int32) (x4_2 : Int32) (cP_3 : Nat → Int32) (cLo_4 : Nat → Int64) (cHi_5 : Nat → Int64) : Option (Int32 × (Nat → Int32) × (Nat → Int64) × (Nat → Int64)) := bd1 (X0_span cP_3 p1) (fun q8 => (if q8 ≤ x4_2 then some (x3_1, cP_3, cLo_4, cHi_5) else bd1 (X0_holds cLo_4 cHi_5 p1 x4_2) (fun q11 => (if q11 = (0 : Int32) then r7 x3_1 (x4_2 + (1 : Int32)) cP_3 cLo_4 cHi_5 else bd3 (X0_become cP_3 cLo_4 cHi_5 3 p2) (fun cP_14 cLo_15 cHi_16 => bd2 (X0_keepSharing cLo_15 cHi_16 3 x4_2 (0 : Int32)) (fun cLo_18 cHi_19 => bd1 (X0_size cLo_18 cHi_19 3) (fun q21 => r7 (x3_1 + q21) (x4_2 + (1 : Int32)) cP_14 cLo_18 cHi_19)))))))
noncomputable def X8_twosApartAcross (cP : Nat → Int32) (cLo : Nat → Int64) (cHi : Nat → Int64) (p1 : Nat) (p2 : Nat) : Option (Int32 × (Nat → Int32) × (Nat → Int64) × (Nat → Int64)) := lfp5 (X8_twosApartAcross_h5 p1 p2) (0 : Int32) (0 : Int32) cP cLo cHi
set_option maxHeartbeats 4000000 in
set_option maxRecDepth 20000 in
theorem X8_twosApartAcross_ok {p1 : Nat} {p2 : Nat} {rr : Int32} {ocP : Nat → Int32} {ocLo : Nat → Int64} {ocHi : Nat → Int64} (hp1 : p1 < 28) (hp2 : p2 < 28) (hf : X8_twosApartAcross cP cLo cHi p1 p2 = some (rr, ocP, ocLo, ocHi)) : MT yX8_twosApartAcross cX8_twosApartAcross 5 (some .int) 2 [.ref (g 28), .ref (g p1), .ref (g p2)] D cy G (cw g cy cP cLo cHi cpl ctb ctl ctf ctp ctk cts cth cob col cso cha chs cbe ctr cgl cgh cll clh cta cme cps cwh cal cah) (cw g cy ocP ocLo ocHi cpl ctb ctl ctf ctp ctk cts cth cob col cso cha chs cbe ctr cgl cgh cll clh cta cme cps cwh cal cah) (some (.int rr)) := by
  refine MT.go (own := RX8) [(0, .ref (g 28)), (1, .ref (g p1)), (2, .ref (g p2))] (by decide) rfl (Nat.le_of_ble_eq_true rfl) rfl (fun p l e s m args below meth c A Q C hQ => ?_)
  unfold X8_twosApartAcross at hf
  refine jIconst C (0 : Int32) dX8_twosApartAcross_0 ki_0 ?_
  refine jIstoren C dX8_twosApartAcross_1 rfl (Nat.le_of_ble_eq_true rfl) [(3, .int (0 : Int32)), (0, .ref (g 28)), (1, .ref (g p1)), (2, .ref (g p2))] rfl ?_
  refine jIconst C (0 : Int32) dX8_twosApartAcross_2 ki_0 ?_
  refine jIstore C dX8_twosApartAcross_3 (Nat.le_of_ble_eq_true rfl) [(4, .int (0 : Int32)), (3, .int (0 : Int32)), (0, .ref (g 28)), (1, .ref (g p1)), (2, .ref (g p2))] rfl ?_
  have hL6 : ∀ (x3_1 : Int32) (x4_2 : Int32) (cP_3 : Nat → Int32) (cLo_4 : Nat → Int64) (cHi_5 : Nat → Int64), lfp5 (X8_twosApartAcross_h5 p1 p2) x3_1 x4_2 cP_3 cLo_4 cHi_5 = some (rr, ocP, ocLo, ocHi) → J p l e (rmk 2) s m args below meth c D A Q 5 (cw g cy cP_3 cLo_4 cHi_5 cpl ctb ctl ctf ctp ctk cts cth cob col cso cha chs cbe ctr cgl cgh cll clh cta cme cps cwh cal cah) 5 [(0, .ref (g 28)), (1, .ref (g p1)), (2, .ref (g p2)), (3, .int x3_1), (4, .int x4_2)] [] := by
    intro x3_1 x4_2 cP_3 cLo_4 cHi_5 hw
    refine lfp5_walk (P := fun x3_1 x4_2 cP_3 cLo_4 cHi_5 => J p l e (rmk 2) s m args below meth c D A Q 5 (cw g cy cP_3 cLo_4 cHi_5 cpl ctb ctl ctf ctp ctk cts cth cob col cso cha chs cbe ctr cgl cgh cll clh cta cme cps cwh cal cah) 5 [(0, .ref (g 28)), (1, .ref (g p1)), (2, .ref (g p2)), (3, .int x3_1), (4, .int x4_2)] []) ?_ hw
    intro r7 ir7 x3_1 x4_2 cP_3 cLo_4 cHi_5 hf
    unfold X8_twosApartAcross_h5 at hf
    refine jIload C dX8_twosApartAcross_5 4 rfl ?_
    refine jAloadn C dX8_twosApartAcross_7 rfl 1 rfl ?_
    obtain ⟨q8, e9, hf⟩ := bd1_some hf
    refine jVI C (X0_span_ok hp1 e9) vb_X0_span mk_RX8_270 rfl (rcF hp1) ⟨Nat.le_of_ble_eq_true rfl, Nat.le_of_ble_eq_true rfl⟩ rfl (Nat.le_of_ble_eq_true rfl) dX8_twosApartAcross_8 ?_
    refine jCmpGe C 57 dX8_twosApartAcross_11 (by decide) (fun c10 => ?_) (fun c10 => ?_)
    · replace hf := itp hf c10
      refine jIloadn C dX8_twosApartAcross_57 rfl 3 rfl ?_
      cases hf
      exact jEndI C hQ rfl dX8_twosApartAcross_58
    · replace hf := itn hf c10
      refine jAloadn C dX8_twosApartAcross_14 rfl 1 rfl ?_
      refine jIload C dX8_twosApartAcross_15 4 rfl ?_
      obtain ⟨q11, e12, hf⟩ := bd1_some hf
      refine jVI C (X0_holds_ok hp1 e12) vb_X0_holds mk_RX8_120 rfl (rcF hp1) ⟨Nat.le_of_ble_eq_true rfl, Nat.le_of_ble_eq_true rfl⟩ rfl (Nat.le_of_ble_eq_true rfl) dX8_twosApartAcross_17 ?_
      refine jIfEq C 51 dX8_twosApartAcross_20 (by decide) (fun c13 => ?_) (fun c13 => ?_)
      · replace hf := itp hf c13
        refine jIinc C (x4_2 + (1 : Int32)) dX8_twosApartAcross_51 4 rfl (congrArg (fun z : Int32 => x4_2 + z) ki_1) (Nat.le_of_ble_eq_true rfl) [(4, .int (x4_2 + (1 : Int32))), (0, .ref (g 28)), (1, .ref (g p1)), (2, .ref (g p2)), (3, .int x3_1)] rfl ?_
        refine jGoto C 5 dX8_twosApartAcross_54 (by decide) ?_
        refine jSub [1, 2, 3, 4, 0] rfl ?_
        exact ir7 x3_1 (x4_2 + (1 : Int32)) cP_3 cLo_4 cHi_5 hf
      · replace hf := itn hf c13
        refine jAloadn C dX8_twosApartAcross_23 rfl 0 rfl ?_
        refine gf_RX8_16 C dX8_twosApartAcross_24 ?_
        refine jAloadn C dX8_twosApartAcross_27 rfl 2 rfl ?_
        obtain ⟨cP_14, cLo_15, cHi_16, e17, hf⟩ := bd3_some hf
        refine jVV C (X0_become_ok (by decide) hp2 e17) vb_X0_become mk_RX8_152 rfl (rcF (by decide)) ⟨Nat.le_of_ble_eq_true rfl, Nat.le_of_ble_eq_true rfl⟩ rfl (Nat.le_of_ble_eq_true rfl) dX8_twosApartAcross_28 ?_
        refine jAloadn C dX8_twosApartAcross_31 rfl 0 rfl ?_
        refine gf_RX8_16 C dX8_twosApartAcross_32 ?_
        refine jIload C dX8_twosApartAcross_35 4 rfl ?_
        refine jIconst C (0 : Int32) dX8_twosApartAcross_37 ki_0 ?_
        obtain ⟨cLo_18, cHi_19, e20, hf⟩ := bd2_some hf
        refine jVV C (X0_keepSharing_ok (by decide) e20) vb_X0_keepSharing mk_RX8_398 rfl (rcF (by decide)) ⟨Nat.le_of_ble_eq_true rfl, Nat.le_of_ble_eq_true rfl⟩ rfl (Nat.le_of_ble_eq_true rfl) dX8_twosApartAcross_38 ?_
        refine jIloadn C dX8_twosApartAcross_41 rfl 3 rfl ?_
        refine jAloadn C dX8_twosApartAcross_42 rfl 0 rfl ?_
        refine gf_RX8_16 C dX8_twosApartAcross_43 ?_
        obtain ⟨q21, e22, hf⟩ := bd1_some hf
        refine jVI C (X0_size_ok (by decide) e22) vb_X0_size mk_RX8_236 rfl (rcF (by decide)) ⟨Nat.le_of_ble_eq_true rfl, Nat.le_of_ble_eq_true rfl⟩ rfl (Nat.le_of_ble_eq_true rfl) dX8_twosApartAcross_46 ?_
        refine jIadd C dX8_twosApartAcross_49 ?_
        refine jIstoren C dX8_twosApartAcross_50 rfl (Nat.le_of_ble_eq_true rfl) [(3, .int (x3_1 + q21)), (0, .ref (g 28)), (1, .ref (g p1)), (2, .ref (g p2)), (4, .int x4_2)] rfl ?_
        refine jIinc C (x4_2 + (1 : Int32)) dX8_twosApartAcross_51 4 rfl (congrArg (fun z : Int32 => x4_2 + z) ki_1) (Nat.le_of_ble_eq_true rfl) [(4, .int (x4_2 + (1 : Int32))), (3, .int (x3_1 + q21)), (0, .ref (g 28)), (1, .ref (g p1)), (2, .ref (g p2))] rfl ?_
        refine jGoto C 5 dX8_twosApartAcross_54 (by decide) ?_
        refine jSub [2, 3, 4, 1, 0] rfl ?_
        exact ir7 (x3_1 + q21) (x4_2 + (1 : Int32)) cP_14 cLo_18 cHi_19 hf
  refine jSub [2, 3, 4, 1, 0] rfl ?_
  exact hL6 (0 : Int32) (0 : Int32) cP cLo cHi hf
noncomputable def X8_across (cP : Nat → Int32) (cLo : Nat → Int64) (cHi : Nat → Int64) (p1 : Int32) (p2 : Int32) (p3 : Int32) : Option (Int32 × (Nat → Int32) × (Nat → Int64) × (Nat → Int64)) := bdo (X8_familyAt cP p1) (bdo (X8_familyAt cP p2) (some ((-2 : Int32), cP, cLo, cHi)) (fun f3 => some ((-2 : Int32), cP, cLo, cHi))) (fun f1 => bdo (X8_familyAt cP p2) (some ((-2 : Int32), cP, cLo, cHi)) (fun f5 => (if p3 < (0 : Int32) then some ((-2 : Int32), cP, cLo, cHi) else (if p3 ≤ (3 : Int32) then (if p3 = (0 : Int32) then bd1 (X0_size cLo cHi f1) (fun q10 => bd1 (X0_size cLo cHi f5) (fun q12 => bd4 (X8_twosApartAcross cP cLo cHi f1 f5) (fun q14 cP_15 cLo_16 cHi_17 => some (((q10 * q12) - q14), cP_15, cLo_16, cHi_17)))) else (if p3 = (1 : Int32) then bd4 (X8_twosApartAcross cP cLo cHi f1 f5) (fun q20 cP_21 cLo_22 cHi_23 => some (q20, cP_21, cLo_22, cHi_23)) else (if p3 = (2 : Int32) then bd3 (X0_become cP cLo cHi 3 f1) (fun cP_26 cLo_27 cHi_28 => bd2 (X0_keep cLo_27 cHi_28 3 f5) (fun cLo_30 cHi_31 => bd1 (X0_size cLo_30 cHi_31 3) (fun q33 => some (q33, cP_26, cLo_30, cHi_31)))) else bd3 (X0_become cP cLo cHi 3 f1) (fun cP_35 cLo_36 cHi_37 => bd2 (X0_join cLo_36 cHi_37 3 f5) (fun cLo_39 cHi_40 => bd1 (X0_size cLo_39 cHi_40 3) (fun q42 => some (q42, cP_35, cLo_39, cHi_40))))))) else some ((-2 : Int32), cP, cLo, cHi)))))
set_option maxHeartbeats 4000000 in
set_option maxRecDepth 20000 in
theorem X8_across_ok {p1 : Int32} {p2 : Int32} {p3 : Int32} {rr : Int32} {ocP : Nat → Int32} {ocLo : Nat → Int64} {ocHi : Nat → Int64}  (hf : X8_across cP cLo cHi p1 p2 p3 = some (rr, ocP, ocLo, ocHi)) : MT yX8_across cX8_across 6 (some .int) 3 [.ref (g 28), .int p1, .int p2, .int p3] D cy G (cw g cy cP cLo cHi cpl ctb ctl ctf ctp ctk cts cth cob col cso cha chs cbe ctr cgl cgh cll clh cta cme cps cwh cal cah) (cw g cy ocP ocLo ocHi cpl ctb ctl ctf ctp ctk cts cth cob col cso cha chs cbe ctr cgl cgh cll clh cta cme cps cwh cal cah) (some (.int rr)) := by
  refine MT.go (own := RX8) [(0, .ref (g 28)), (1, .int p1), (2, .int p2), (3, .int p3)] (by decide) rfl (Nat.le_of_ble_eq_true rfl) rfl (fun p l e s m args below meth c A Q C hQ => ?_)
  unfold X8_across at hf
  refine jAloadn C dX8_across_0 rfl 0 rfl ?_
  refine jIloadn C dX8_across_1 rfl 1 rfl ?_
  rcases bdo_some hf with ⟨q2, hf⟩ | ⟨f1, q2, hf⟩
  · refine jVN C (X8_familyAt_ok  q2) vb_X8_familyAt mk_RX8_102 rfl rc28 ⟨Nat.le_of_ble_eq_true rfl, Nat.le_of_ble_eq_true rfl⟩ rfl (Nat.le_of_ble_eq_true rfl) dX8_across_2 ?_
    refine jAstoreN C dX8_across_5 (Nat.le_of_ble_eq_true rfl) [(4, .null), (0, .ref (g 28)), (1, .int p1), (2, .int p2), (3, .int p3)] rfl ?_
    refine jAloadn C dX8_across_7 rfl 1 rfl ?_
    refine jIloadn C dX8_across_8 rfl 3 rfl ?_
    rcases bdo_some hf with ⟨q4, hf⟩ | ⟨f3, q4, hf⟩
    · refine jVN C (X8_familyAt_ok  q4) vb_X8_familyAt mk_RX8_102 rfl rc28 ⟨Nat.le_of_ble_eq_true rfl, Nat.le_of_ble_eq_true rfl⟩ rfl (Nat.le_of_ble_eq_true rfl) dX8_across_9 ?_
      refine jAstoreN C dX8_across_12 (Nat.le_of_ble_eq_true rfl) [(5, .null), (4, .null), (0, .ref (g 28)), (1, .int p1), (2, .int p2), (3, .int p3)] rfl ?_
      refine jAloadN C dX8_across_14 1 rfl ?_
      refine jIfnullN C 33 dX8_across_16 (by decide) ?_
      refine jBipush C (-2 : Int32) dX8_across_33 kb_m2 ?_
      cases hf
      exact jEndI C hQ rfl dX8_across_35
    · refine jVA C (X8_familyAt_ok  q4) vb_X8_familyAt mk_RX8_102 rfl rc28 ⟨Nat.le_of_ble_eq_true rfl, Nat.le_of_ble_eq_true rfl⟩ rfl (Nat.le_of_ble_eq_true rfl) dX8_across_9 ?_
      refine jAstore C dX8_across_12 (Nat.le_of_ble_eq_true rfl) [(5, .ref (g f3)), (4, .null), (0, .ref (g 28)), (1, .int p1), (2, .int p2), (3, .int p3)] rfl ?_
      refine jAloadN C dX8_across_14 1 rfl ?_
      refine jIfnullN C 33 dX8_across_16 (by decide) ?_
      refine jBipush C (-2 : Int32) dX8_across_33 kb_m2 ?_
      cases hf
      exact jEndI C hQ rfl dX8_across_35
  · refine jVA C (X8_familyAt_ok  q2) vb_X8_familyAt mk_RX8_102 rfl rc28 ⟨Nat.le_of_ble_eq_true rfl, Nat.le_of_ble_eq_true rfl⟩ rfl (Nat.le_of_ble_eq_true rfl) dX8_across_2 ?_
    refine jAstore C dX8_across_5 (Nat.le_of_ble_eq_true rfl) [(4, .ref (g f1)), (0, .ref (g 28)), (1, .int p1), (2, .int p2), (3, .int p3)] rfl ?_
    refine jAloadn C dX8_across_7 rfl 1 rfl ?_
    refine jIloadn C dX8_across_8 rfl 3 rfl ?_
    rcases bdo_some hf with ⟨q6, hf⟩ | ⟨f5, q6, hf⟩
    · refine jVN C (X8_familyAt_ok  q6) vb_X8_familyAt mk_RX8_102 rfl rc28 ⟨Nat.le_of_ble_eq_true rfl, Nat.le_of_ble_eq_true rfl⟩ rfl (Nat.le_of_ble_eq_true rfl) dX8_across_9 ?_
      refine jAstoreN C dX8_across_12 (Nat.le_of_ble_eq_true rfl) [(5, .null), (4, .ref (g f1)), (0, .ref (g 28)), (1, .int p1), (2, .int p2), (3, .int p3)] rfl ?_
      refine jAload C dX8_across_14 1 rfl ?_
      refine jIfnull C dX8_across_16 ?_
      refine jAloadN C dX8_across_19 0 rfl ?_
      refine jIfnullN C 33 dX8_across_21 (by decide) ?_
      refine jBipush C (-2 : Int32) dX8_across_33 kb_m2 ?_
      cases hf
      exact jEndI C hQ rfl dX8_across_35
    · refine jVA C (X8_familyAt_ok  q6) vb_X8_familyAt mk_RX8_102 rfl rc28 ⟨Nat.le_of_ble_eq_true rfl, Nat.le_of_ble_eq_true rfl⟩ rfl (Nat.le_of_ble_eq_true rfl) dX8_across_9 ?_
      refine jAstore C dX8_across_12 (Nat.le_of_ble_eq_true rfl) [(5, .ref (g f5)), (4, .ref (g f1)), (0, .ref (g 28)), (1, .int p1), (2, .int p2), (3, .int p3)] rfl ?_
      refine jAload C dX8_across_14 1 rfl ?_
      refine jIfnull C dX8_across_16 ?_
      refine jAload C dX8_across_19 0 rfl ?_
      refine jIfnull C dX8_across_21 ?_
      refine jIloadn C dX8_across_24 rfl 5 rfl ?_
      refine jIfLt C 33 dX8_across_25 (by decide) (fun c7 => ?_) (fun c7 => ?_)
      · replace hf := itp hf c7
        refine jBipush C (-2 : Int32) dX8_across_33 kb_m2 ?_
        cases hf
        exact jEndI C hQ rfl dX8_across_35
      · replace hf := itn hf c7
        refine jIloadn C dX8_across_28 rfl 5 rfl ?_
        refine jIconst C (3 : Int32) dX8_across_29 ki_3 ?_
        refine jCmpLe C 36 dX8_across_30 (by decide) (fun c8 => ?_) (fun c8 => ?_)
        · replace hf := itp hf c8
          refine jIloadn C dX8_across_36 rfl 5 rfl ?_
          by_cases c9 : p3 = (0 : Int32)
          · replace hf := itp hf c9
            refine jTabIn C 64 dX8_across_37 (by rw [c9]; decide) (by rw [c9]; decide) (by rw [c9]; rfl) (by decide) ?_
            refine jAload C dX8_across_64 1 rfl ?_
            obtain ⟨q10, e11, hf⟩ := bd1_some hf
            refine jVI C (X0_size_ok (X8_familyAt_lt q2) e11) vb_X0_size mk_RX8_236 rfl (rcF (X8_familyAt_lt q2)) ⟨Nat.le_of_ble_eq_true rfl, Nat.le_of_ble_eq_true rfl⟩ rfl (Nat.le_of_ble_eq_true rfl) dX8_across_66 ?_
            refine jAload C dX8_across_69 0 rfl ?_
            obtain ⟨q12, e13, hf⟩ := bd1_some hf
            refine jVI C (X0_size_ok (X8_familyAt_lt q6) e13) vb_X0_size mk_RX8_236 rfl (rcF (X8_familyAt_lt q6)) ⟨Nat.le_of_ble_eq_true rfl, Nat.le_of_ble_eq_true rfl⟩ rfl (Nat.le_of_ble_eq_true rfl) dX8_across_71 ?_
            refine jImul C dX8_across_74 ?_
            refine jAloadn C dX8_across_75 rfl 2 rfl ?_
            refine jAload C dX8_across_76 1 rfl ?_
            refine jAload C dX8_across_78 0 rfl ?_
            obtain ⟨q14, cP_15, cLo_16, cHi_17, e18, hf⟩ := bd4_some hf
            refine jVI C (X8_twosApartAcross_ok (X8_familyAt_lt q2) (X8_familyAt_lt q6) e18) vb_X8_twosApartAcross mk_RX8_279 rfl rc28 ⟨Nat.le_of_ble_eq_true rfl, Nat.le_of_ble_eq_true rfl⟩ rfl (Nat.le_of_ble_eq_true rfl) dX8_across_80 ?_
            refine jIsub C dX8_across_83 ?_
            cases hf
            exact jEndI C hQ rfl dX8_across_84
          replace hf := itn hf c9
          by_cases c19 : p3 = (1 : Int32)
          · replace hf := itp hf c19
            refine jTabIn C 85 dX8_across_37 (by rw [c19]; decide) (by rw [c19]; decide) (by rw [c19]; rfl) (by decide) ?_
            refine jAloadn C dX8_across_85 rfl 2 rfl ?_
            refine jAload C dX8_across_86 1 rfl ?_
            refine jAload C dX8_across_88 0 rfl ?_
            obtain ⟨q20, cP_21, cLo_22, cHi_23, e24, hf⟩ := bd4_some hf
            refine jVI C (X8_twosApartAcross_ok (X8_familyAt_lt q2) (X8_familyAt_lt q6) e24) vb_X8_twosApartAcross mk_RX8_279 rfl rc28 ⟨Nat.le_of_ble_eq_true rfl, Nat.le_of_ble_eq_true rfl⟩ rfl (Nat.le_of_ble_eq_true rfl) dX8_across_90 ?_
            cases hf
            exact jEndI C hQ rfl dX8_across_93
          replace hf := itn hf c19
          by_cases c25 : p3 = (2 : Int32)
          · replace hf := itp hf c25
            refine jTabIn C 94 dX8_across_37 (by rw [c25]; decide) (by rw [c25]; decide) (by rw [c25]; rfl) (by decide) ?_
            refine jAloadn C dX8_across_94 rfl 2 rfl ?_
            refine gf_RX8_16 C dX8_across_95 ?_
            refine jAload C dX8_across_98 1 rfl ?_
            obtain ⟨cP_26, cLo_27, cHi_28, e29, hf⟩ := bd3_some hf
            refine jVV C (X0_become_ok (by decide) (X8_familyAt_lt q2) e29) vb_X0_become mk_RX8_152 rfl (rcF (by decide)) ⟨Nat.le_of_ble_eq_true rfl, Nat.le_of_ble_eq_true rfl⟩ rfl (Nat.le_of_ble_eq_true rfl) dX8_across_100 ?_
            refine jAloadn C dX8_across_103 rfl 2 rfl ?_
            refine gf_RX8_16 C dX8_across_104 ?_
            refine jAload C dX8_across_107 0 rfl ?_
            obtain ⟨cLo_30, cHi_31, e32, hf⟩ := bd2_some hf
            refine jVV C (X0_keep_ok (by decide) (X8_familyAt_lt q6) e32) vb_X0_keep mk_RX8_283 rfl (rcF (by decide)) ⟨Nat.le_of_ble_eq_true rfl, Nat.le_of_ble_eq_true rfl⟩ rfl (Nat.le_of_ble_eq_true rfl) dX8_across_109 ?_
            refine jAloadn C dX8_across_112 rfl 2 rfl ?_
            refine gf_RX8_16 C dX8_across_113 ?_
            obtain ⟨q33, e34, hf⟩ := bd1_some hf
            refine jVI C (X0_size_ok (by decide) e34) vb_X0_size mk_RX8_236 rfl (rcF (by decide)) ⟨Nat.le_of_ble_eq_true rfl, Nat.le_of_ble_eq_true rfl⟩ rfl (Nat.le_of_ble_eq_true rfl) dX8_across_116 ?_
            cases hf
            exact jEndI C hQ rfl dX8_across_119
          replace hf := itn hf c25
          refine jTabOut C 120 dX8_across_37 (by have ac9 := lv_neT (a := 0) c9 (by decide); have ac19 := lv_neT (a := 1) c19 (by decide); have ac25 := lv_neT (a := 2) c25 (by decide); omega) (by decide) ?_
          refine jAloadn C dX8_across_120 rfl 2 rfl ?_
          refine gf_RX8_16 C dX8_across_121 ?_
          refine jAload C dX8_across_124 1 rfl ?_
          obtain ⟨cP_35, cLo_36, cHi_37, e38, hf⟩ := bd3_some hf
          refine jVV C (X0_become_ok (by decide) (X8_familyAt_lt q2) e38) vb_X0_become mk_RX8_152 rfl (rcF (by decide)) ⟨Nat.le_of_ble_eq_true rfl, Nat.le_of_ble_eq_true rfl⟩ rfl (Nat.le_of_ble_eq_true rfl) dX8_across_126 ?_
          refine jAloadn C dX8_across_129 rfl 2 rfl ?_
          refine gf_RX8_16 C dX8_across_130 ?_
          refine jAload C dX8_across_133 0 rfl ?_
          obtain ⟨cLo_39, cHi_40, e41, hf⟩ := bd2_some hf
          refine jVV C (X0_join_ok (by decide) (X8_familyAt_lt q6) e41) vb_X0_join mk_RX8_286 rfl (rcF (by decide)) ⟨Nat.le_of_ble_eq_true rfl, Nat.le_of_ble_eq_true rfl⟩ rfl (Nat.le_of_ble_eq_true rfl) dX8_across_135 ?_
          refine jAloadn C dX8_across_138 rfl 2 rfl ?_
          refine gf_RX8_16 C dX8_across_139 ?_
          obtain ⟨q42, e43, hf⟩ := bd1_some hf
          refine jVI C (X0_size_ok (by decide) e43) vb_X0_size mk_RX8_236 rfl (rcF (by decide)) ⟨Nat.le_of_ble_eq_true rfl, Nat.le_of_ble_eq_true rfl⟩ rfl (Nat.le_of_ble_eq_true rfl) dX8_across_142 ?_
          cases hf
          exact jEndI C hQ rfl dX8_across_145
        · replace hf := itn hf c8
          refine jBipush C (-2 : Int32) dX8_across_33 kb_m2 ?_
          cases hf
          exact jEndI C hQ rfl dX8_across_35
noncomputable def X8_answers (cP : Nat → Int32) (cLo : Nat → Int64) (cHi : Nat → Int64) (p1 : Int32) (p2 : Int32) : Option (Int32 × (Nat → Int32) × (Nat → Int64) × (Nat → Int64)) := bdo (X8_familyAt cP p1) (some ((-2 : Int32), cP, cLo, cHi)) (fun f1 => (if p2 < (0 : Int32) then some ((-2 : Int32), cP, cLo, cHi) else (if p2 ≤ (cP f1) then bd3 (X0_becomeAnswers cP cLo cHi 3 f1) (fun cP_5 cLo_6 cHi_7 => bd1 (X0_sizeOfLevel cP_5 cLo_6 cHi_7 3 p2) (fun q9 => some (q9, cP_5, cLo_6, cHi_7))) else some ((-2 : Int32), cP, cLo, cHi))))
set_option maxHeartbeats 4000000 in
set_option maxRecDepth 20000 in
theorem X8_answers_ok {p1 : Int32} {p2 : Int32} {rr : Int32} {ocP : Nat → Int32} {ocLo : Nat → Int64} {ocHi : Nat → Int64}  (hf : X8_answers cP cLo cHi p1 p2 = some (rr, ocP, ocLo, ocHi)) : MT yX8_answers cX8_answers 4 (some .int) 3 [.ref (g 28), .int p1, .int p2] D cy G (cw g cy cP cLo cHi cpl ctb ctl ctf ctp ctk cts cth cob col cso cha chs cbe ctr cgl cgh cll clh cta cme cps cwh cal cah) (cw g cy ocP ocLo ocHi cpl ctb ctl ctf ctp ctk cts cth cob col cso cha chs cbe ctr cgl cgh cll clh cta cme cps cwh cal cah) (some (.int rr)) := by
  refine MT.go (own := RX8) [(0, .ref (g 28)), (1, .int p1), (2, .int p2)] (by decide) rfl (Nat.le_of_ble_eq_true rfl) rfl (fun p l e s m args below meth c A Q C hQ => ?_)
  unfold X8_answers at hf
  refine jAloadn C dX8_answers_0 rfl 0 rfl ?_
  refine jIloadn C dX8_answers_1 rfl 1 rfl ?_
  rcases bdo_some hf with ⟨q2, hf⟩ | ⟨f1, q2, hf⟩
  · refine jVN C (X8_familyAt_ok  q2) vb_X8_familyAt mk_RX8_102 rfl rc28 ⟨Nat.le_of_ble_eq_true rfl, Nat.le_of_ble_eq_true rfl⟩ rfl (Nat.le_of_ble_eq_true rfl) dX8_answers_2 ?_
    refine jAstorenN C dX8_answers_5 rfl (Nat.le_of_ble_eq_true rfl) [(3, .null), (0, .ref (g 28)), (1, .int p1), (2, .int p2)] rfl ?_
    refine jAloadnN C dX8_answers_6 rfl 0 rfl ?_
    refine jIfnullN C 22 dX8_answers_7 (by decide) ?_
    refine jBipush C (-2 : Int32) dX8_answers_22 kb_m2 ?_
    cases hf
    exact jEndI C hQ rfl dX8_answers_24
  · refine jVA C (X8_familyAt_ok  q2) vb_X8_familyAt mk_RX8_102 rfl rc28 ⟨Nat.le_of_ble_eq_true rfl, Nat.le_of_ble_eq_true rfl⟩ rfl (Nat.le_of_ble_eq_true rfl) dX8_answers_2 ?_
    refine jAstoren C dX8_answers_5 rfl (Nat.le_of_ble_eq_true rfl) [(3, .ref (g f1)), (0, .ref (g 28)), (1, .int p1), (2, .int p2)] rfl ?_
    refine jAloadn C dX8_answers_6 rfl 0 rfl ?_
    refine jIfnull C dX8_answers_7 ?_
    refine jIloadn C dX8_answers_10 rfl 3 rfl ?_
    refine jIfLt C 22 dX8_answers_11 (by decide) (fun c3 => ?_) (fun c3 => ?_)
    · replace hf := itp hf c3
      refine jBipush C (-2 : Int32) dX8_answers_22 kb_m2 ?_
      cases hf
      exact jEndI C hQ rfl dX8_answers_24
    · replace hf := itn hf c3
      refine jIloadn C dX8_answers_14 rfl 3 rfl ?_
      refine jAloadn C dX8_answers_15 rfl 0 rfl ?_
      refine gf_RX8_133 C (X8_familyAt_lt q2) dX8_answers_16 ?_
      refine jCmpLe C 25 dX8_answers_19 (by decide) (fun c4 => ?_) (fun c4 => ?_)
      · replace hf := itp hf c4
        refine jAloadn C dX8_answers_25 rfl 1 rfl ?_
        refine gf_RX8_16 C dX8_answers_26 ?_
        refine jAloadn C dX8_answers_29 rfl 0 rfl ?_
        obtain ⟨cP_5, cLo_6, cHi_7, e8, hf⟩ := bd3_some hf
        refine jVV C (X0_becomeAnswers_ok (by decide) (X8_familyAt_lt q2) e8) vb_X0_becomeAnswers mk_RX8_218 rfl (rcF (by decide)) ⟨Nat.le_of_ble_eq_true rfl, Nat.le_of_ble_eq_true rfl⟩ rfl (Nat.le_of_ble_eq_true rfl) dX8_answers_30 ?_
        refine jAloadn C dX8_answers_33 rfl 1 rfl ?_
        refine gf_RX8_16 C dX8_answers_34 ?_
        refine jIloadn C dX8_answers_37 rfl 3 rfl ?_
        obtain ⟨q9, e10, hf⟩ := bd1_some hf
        refine jVI C (X0_sizeOfLevel_ok (by decide) e10) vb_X0_sizeOfLevel mk_RX8_139 rfl (rcF (by decide)) ⟨Nat.le_of_ble_eq_true rfl, Nat.le_of_ble_eq_true rfl⟩ rfl (Nat.le_of_ble_eq_true rfl) dX8_answers_38 ?_
        cases hf
        exact jEndI C hQ rfl dX8_answers_41
      · replace hf := itn hf c4
        refine jBipush C (-2 : Int32) dX8_answers_22 kb_m2 ?_
        cases hf
        exact jEndI C hQ rfl dX8_answers_24
noncomputable def X8_namings_j136 (x4_15 : Int32) (r22 : Int32 → Int32 → Int32 → (Nat → Int32) → (Nat → Int64) → (Nat → Int64) → (Nat → Int32) → Option (Int32 × (Nat → Int32) × (Nat → Int64) × (Nat → Int64) × (Nat → Int32))) (x3_14 : Int32) (x5_16 : Int32) (cP_30 : Nat → Int32) (cLo_31 : Nat → Int64) (cHi_32 : Nat → Int64) (cpl_20 : Nat → Int32) (y36 : Int32) : Option (Int32 × (Nat → Int32) × (Nat → Int64) × (Nat → Int64) × (Nat → Int32)) := gin x4_15 7 (gin x4_15 7 (r22 (x3_14 + y36) (1 : Int32) (x5_16 + (1 : Int32)) cP_30 cLo_31 cHi_32 (upd cpl_20 x4_15.toNatClampNeg ((cpl_20 x4_15.toNatClampNeg) + (1 : Int32)))))
noncomputable def X8_namings_j106 (cP_17 : Nat → Int32) (cLo_18 : Nat → Int64) (cHi_19 : Nat → Int64) (x4_15 : Int32) (p2 : Nat) (r22 : Int32 → Int32 → Int32 → (Nat → Int32) → (Nat → Int64) → (Nat → Int64) → (Nat → Int32) → Option (Int32 × (Nat → Int32) × (Nat → Int64) × (Nat → Int64) × (Nat → Int32))) (x3_14 : Int32) (x5_16 : Int32) (cpl_20 : Nat → Int32) (y28 : Int32) : Option (Int32 × (Nat → Int32) × (Nat → Int64) × (Nat → Int64) × (Nat → Int32)) := bd3 (X0_exchange cP_17 cLo_18 cHi_19 3 y28 x4_15 4 5) (fun cP_30 cLo_31 cHi_32 => bd1 (X0_isSameAs cP_30 cLo_31 cHi_32 3 p2) (fun q34 => (if q34 = (0 : Int32) then X8_namings_j136 x4_15 r22 x3_14 x5_16 cP_30 cLo_31 cHi_32 cpl_20 (0 : Int32) else X8_namings_j136 x4_15 r22 x3_14 x5_16 cP_30 cLo_31 cHi_32 cpl_20 (1 : Int32))))
noncomputable def X8_namings_h55 (p1 : Nat) (p2 : Nat) (r22 : Int32 → Int32 → Int32 → (Nat → Int32) → (Nat → Int64) → (Nat → Int64) → (Nat → Int32) → Option (Int32 × (Nat → Int32) × (Nat → Int64) × (Nat → Int64) × (Nat → Int32))) (x3_14 : Int32) (x4_15 : Int32) (x5_16 : Int32) (cP_17 : Nat → Int32) (cLo_18 : Nat → Int64) (cHi_19 : Nat → Int64) (cpl_20 : Nat → Int32) : Option (Int32 × (Nat → Int32) × (Nat → Int64) × (Nat → Int64) × (Nat → Int32)) := (if (20000 : Int32) ≤ x5_16 then some (x3_14, cP_17, cLo_18, cHi_19, cpl_20) else (if (cP_17 p1) ≤ x4_15 then some (x3_14, cP_17, cLo_18, cHi_19, cpl_20) else gin x4_15 7 ((if x4_15 ≤ (cpl_20 x4_15.toNatClampNeg) then gin x4_15 7 (r22 x3_14 (x4_15 + (1 : Int32)) (x5_16 + (1 : Int32)) cP_17 cLo_18 cHi_19 (upd cpl_20 x4_15.toNatClampNeg (0 : Int32))) else (if (x4_15 - x4_15 / (2 : Int32) * (2 : Int32)) = (0 : Int32) then X8_namings_j106 cP_17 cLo_18 cHi_19 x4_15 p2 r22 x3_14 x5_16 cpl_20 (0 : Int32) else gin x4_15 7 (X8_namings_j106 cP_17 cLo_18 cHi_19 x4_15 p2 r22 x3_14 x5_16 cpl_20 (cpl_20 x4_15.toNatClampNeg)))))))
noncomputable def X8_namings_h28 (p1 : Nat) (p2 : Nat) (y7 : Int32) (cP_1 : Nat → Int32) (cLo_2 : Nat → Int64) (cHi_3 : Nat → Int64) (r12 : Int32 → (Nat → Int32) → Option (Int32 × (Nat → Int32) × (Nat → Int64) × (Nat → Int64) × (Nat → Int32))) (x4_9 : Int32) (cpl_10 : Nat → Int32) : Option (Int32 × (Nat → Int32) × (Nat → Int64) × (Nat → Int64) × (Nat → Int32)) := (if (7 : Int32) ≤ x4_9 then lfp7 (X8_namings_h55 p1 p2) y7 (1 : Int32) (0 : Int32) cP_1 cLo_2 cHi_3 cpl_10 else gin x4_9 7 (r12 (x4_9 + (1 : Int32)) (upd cpl_10 x4_9.toNatClampNeg (0 : Int32))))
noncomputable def X8_namings_j24 (p1 : Nat) (p2 : Nat) (cP_1 : Nat → Int32) (cLo_2 : Nat → Int64) (cHi_3 : Nat → Int64) (cpl : Nat → Int32) (y7 : Int32) : Option (Int32 × (Nat → Int32) × (Nat → Int64) × (Nat → Int64) × (Nat → Int32)) := lfp2 (X8_namings_h28 p1 p2 y7 cP_1 cLo_2 cHi_3) (0 : Int32) cpl
noncomputable def X8_namings (cP : Nat → Int32) (cLo : Nat → Int64) (cHi : Nat → Int64) (cpl : Nat → Int32) (p1 : Nat) (p2 : Nat) : Option (Int32 × (Nat → Int32) × (Nat → Int64) × (Nat → Int64) × (Nat → Int32)) := bd3 (X0_become cP cLo cHi 3 p1) (fun cP_1 cLo_2 cHi_3 => bd1 (X0_isSameAs cP_1 cLo_2 cHi_3 3 p2) (fun q5 => (if q5 = (0 : Int32) then X8_namings_j24 p1 p2 cP_1 cLo_2 cHi_3 cpl (0 : Int32) else X8_namings_j24 p1 p2 cP_1 cLo_2 cHi_3 cpl (1 : Int32))))
set_option maxHeartbeats 4000000 in
set_option maxRecDepth 20000 in
theorem X8_namings_ok {p1 : Nat} {p2 : Nat} {rr : Int32} {ocP : Nat → Int32} {ocLo : Nat → Int64} {ocHi : Nat → Int64} {ocpl : Nat → Int32} (hp1 : p1 < 28) (hp2 : p2 < 28) (hf : X8_namings cP cLo cHi cpl p1 p2 = some (rr, ocP, ocLo, ocHi, ocpl)) : MT yX8_namings cX8_namings 6 (some .int) 3 [.ref (g 28), .ref (g p1), .ref (g p2)] D cy G (cw g cy cP cLo cHi cpl ctb ctl ctf ctp ctk cts cth cob col cso cha chs cbe ctr cgl cgh cll clh cta cme cps cwh cal cah) (cw g cy ocP ocLo ocHi ocpl ctb ctl ctf ctp ctk cts cth cob col cso cha chs cbe ctr cgl cgh cll clh cta cme cps cwh cal cah) (some (.int rr)) := by
  refine MT.go (own := RX8) [(0, .ref (g 28)), (1, .ref (g p1)), (2, .ref (g p2))] (by decide) rfl (Nat.le_of_ble_eq_true rfl) rfl (fun p l e s m args below meth c A Q C hQ => ?_)
  unfold X8_namings at hf
  refine jAloadn C dX8_namings_0 rfl 0 rfl ?_
  refine gf_RX8_16 C dX8_namings_1 ?_
  refine jAloadn C dX8_namings_4 rfl 1 rfl ?_
  obtain ⟨cP_1, cLo_2, cHi_3, e4, hf⟩ := bd3_some hf
  refine jVV C (X0_become_ok (by decide) hp1 e4) vb_X0_become mk_RX8_152 rfl (rcF (by decide)) ⟨Nat.le_of_ble_eq_true rfl, Nat.le_of_ble_eq_true rfl⟩ rfl (Nat.le_of_ble_eq_true rfl) dX8_namings_5 ?_
  refine jAloadn C dX8_namings_8 rfl 0 rfl ?_
  refine gf_RX8_16 C dX8_namings_9 ?_
  refine jAloadn C dX8_namings_12 rfl 2 rfl ?_
  obtain ⟨q5, e6, hf⟩ := bd1_some hf
  refine jVI C (X0_isSameAs_ok (by decide) hp2 e6) vb_X0_isSameAs mk_RX8_337 rfl (rcF (by decide)) ⟨Nat.le_of_ble_eq_true rfl, Nat.le_of_ble_eq_true rfl⟩ rfl (Nat.le_of_ble_eq_true rfl) dX8_namings_13 ?_
  have hL8 : ∀ (y7 : Int32), X8_namings_j24 p1 p2 cP_1 cLo_2 cHi_3 cpl y7 = some (rr, ocP, ocLo, ocHi, ocpl) → J p l e (rmk 3) s m args below meth c D A Q 6 (cw g cy cP_1 cLo_2 cHi_3 cpl ctb ctl ctf ctp ctk cts cth cob col cso cha chs cbe ctr cgl cgh cll clh cta cme cps cwh cal cah) 24 [(0, .ref (g 28)), (1, .ref (g p1)), (2, .ref (g p2))] [.int y7] := by
    intro y7 hf
    unfold X8_namings_j24 at hf
    refine jIstoren C dX8_namings_24 rfl (Nat.le_of_ble_eq_true rfl) [(3, .int y7), (0, .ref (g 28)), (1, .ref (g p1)), (2, .ref (g p2))] rfl ?_
    refine jIconst C (0 : Int32) dX8_namings_25 ki_0 ?_
    refine jIstore C dX8_namings_26 (Nat.le_of_ble_eq_true rfl) [(4, .int (0 : Int32)), (3, .int y7), (0, .ref (g 28)), (1, .ref (g p1)), (2, .ref (g p2))] rfl ?_
    have hL11 : ∀ (x4_9 : Int32) (cpl_10 : Nat → Int32), lfp2 (X8_namings_h28 p1 p2 y7 cP_1 cLo_2 cHi_3) x4_9 cpl_10 = some (rr, ocP, ocLo, ocHi, ocpl) → J p l e (rmk 3) s m args below meth c D A Q 6 (cw g cy cP_1 cLo_2 cHi_3 cpl_10 ctb ctl ctf ctp ctk cts cth cob col cso cha chs cbe ctr cgl cgh cll clh cta cme cps cwh cal cah) 28 [(0, .ref (g 28)), (1, .ref (g p1)), (2, .ref (g p2)), (3, .int y7), (4, .int x4_9)] [] := by
      intro x4_9 cpl_10 hw
      refine lfp2_walk (P := fun x4_9 cpl_10 => J p l e (rmk 3) s m args below meth c D A Q 6 (cw g cy cP_1 cLo_2 cHi_3 cpl_10 ctb ctl ctf ctp ctk cts cth cob col cso cha chs cbe ctr cgl cgh cll clh cta cme cps cwh cal cah) 28 [(0, .ref (g 28)), (1, .ref (g p1)), (2, .ref (g p2)), (3, .int y7), (4, .int x4_9)] []) ?_ hw
      intro r12 ir12 x4_9 cpl_10 hf
      unfold X8_namings_h28 at hf
      refine jIload C dX8_namings_28 4 rfl ?_
      refine jBipush C (7 : Int32) dX8_namings_30 kb_7 ?_
      refine jCmpGe C 49 dX8_namings_32 (by decide) (fun c13 => ?_) (fun c13 => ?_)
      · replace hf := itp hf c13
        refine jIconst C (1 : Int32) dX8_namings_49 ki_1 ?_
        refine jIstore C dX8_namings_50 (Nat.le_of_ble_eq_true rfl) [(4, .int (1 : Int32)), (0, .ref (g 28)), (1, .ref (g p1)), (2, .ref (g p2)), (3, .int y7)] rfl ?_
        refine jIconst C (0 : Int32) dX8_namings_52 ki_0 ?_
        refine jIstore C dX8_namings_53 (Nat.le_of_ble_eq_true rfl) [(5, .int (0 : Int32)), (4, .int (1 : Int32)), (0, .ref (g 28)), (1, .ref (g p1)), (2, .ref (g p2)), (3, .int y7)] rfl ?_
        have hL21 : ∀ (x3_14 : Int32) (x4_15 : Int32) (x5_16 : Int32) (cP_17 : Nat → Int32) (cLo_18 : Nat → Int64) (cHi_19 : Nat → Int64) (cpl_20 : Nat → Int32), lfp7 (X8_namings_h55 p1 p2) x3_14 x4_15 x5_16 cP_17 cLo_18 cHi_19 cpl_20 = some (rr, ocP, ocLo, ocHi, ocpl) → J p l e (rmk 3) s m args below meth c D A Q 6 (cw g cy cP_17 cLo_18 cHi_19 cpl_20 ctb ctl ctf ctp ctk cts cth cob col cso cha chs cbe ctr cgl cgh cll clh cta cme cps cwh cal cah) 55 [(0, .ref (g 28)), (1, .ref (g p1)), (2, .ref (g p2)), (3, .int x3_14), (4, .int x4_15), (5, .int x5_16)] [] := by
          intro x3_14 x4_15 x5_16 cP_17 cLo_18 cHi_19 cpl_20 hw
          refine lfp7_walk (P := fun x3_14 x4_15 x5_16 cP_17 cLo_18 cHi_19 cpl_20 => J p l e (rmk 3) s m args below meth c D A Q 6 (cw g cy cP_17 cLo_18 cHi_19 cpl_20 ctb ctl ctf ctp ctk cts cth cob col cso cha chs cbe ctr cgl cgh cll clh cta cme cps cwh cal cah) 55 [(0, .ref (g 28)), (1, .ref (g p1)), (2, .ref (g p2)), (3, .int x3_14), (4, .int x4_15), (5, .int x5_16)] []) ?_ hw
          intro r22 ir22 x3_14 x4_15 x5_16 cP_17 cLo_18 cHi_19 cpl_20 hf
          unfold X8_namings_h55 at hf
          refine jIload C dX8_namings_55 5 rfl ?_
          refine jSipush C (20000 : Int32) dX8_namings_57 ks_20000 ?_
          refine jCmpGe C 172 dX8_namings_60 (by decide) (fun c23 => ?_) (fun c23 => ?_)
          · replace hf := itp hf c23
            refine jIloadn C dX8_namings_172 rfl 3 rfl ?_
            cases hf
            exact jEndI C hQ rfl dX8_namings_173
          · replace hf := itn hf c23
            refine jIload C dX8_namings_63 4 rfl ?_
            refine jAloadn C dX8_namings_65 rfl 1 rfl ?_
            refine gf_RX8_133 C hp1 dX8_namings_66 ?_
            refine jCmpGe C 172 dX8_namings_69 (by decide) (fun c24 => ?_) (fun c24 => ?_)
            · replace hf := itp hf c24
              refine jIloadn C dX8_namings_172 rfl 3 rfl ?_
              cases hf
              exact jEndI C hQ rfl dX8_namings_173
            · replace hf := itn hf c24
              refine jAloadn C dX8_namings_72 rfl 0 rfl ?_
              refine gf_RX8_26 C dX8_namings_73 ?_
              refine jIload C dX8_namings_76 4 rfl ?_
              obtain ⟨z25, hf⟩ := gin_some hf
              refine al_cpl C z25 dX8_namings_78 ?_
              refine jIload C dX8_namings_79 4 rfl ?_
              refine jCmpGe C 155 dX8_namings_81 (by decide) (fun c26 => ?_) (fun c26 => ?_)
              · replace hf := itp hf c26
                refine jAloadn C dX8_namings_155 rfl 0 rfl ?_
                refine gf_RX8_26 C dX8_namings_156 ?_
                refine jIload C dX8_namings_159 4 rfl ?_
                refine jIconst C (0 : Int32) dX8_namings_161 ki_0 ?_
                obtain ⟨z27, hf⟩ := gin_some hf
                refine as_cpl C z27 dX8_namings_162 ?_
                refine jIinc C (x4_15 + (1 : Int32)) dX8_namings_163 4 rfl (congrArg (fun z : Int32 => x4_15 + z) ki_1) (Nat.le_of_ble_eq_true rfl) [(4, .int (x4_15 + (1 : Int32))), (0, .ref (g 28)), (1, .ref (g p1)), (2, .ref (g p2)), (3, .int x3_14), (5, .int x5_16)] rfl ?_
                refine jIinc C (x5_16 + (1 : Int32)) dX8_namings_166 5 rfl (congrArg (fun z : Int32 => x5_16 + z) ki_1) (Nat.le_of_ble_eq_true rfl) [(5, .int (x5_16 + (1 : Int32))), (4, .int (x4_15 + (1 : Int32))), (0, .ref (g 28)), (1, .ref (g p1)), (2, .ref (g p2)), (3, .int x3_14)] rfl ?_
                refine jGoto C 55 dX8_namings_169 (by decide) ?_
                refine jSub [2, 3, 4, 5, 1, 0] rfl ?_
                exact ir22 x3_14 (x4_15 + (1 : Int32)) (x5_16 + (1 : Int32)) cP_17 cLo_18 cHi_19 (upd cpl_20 x4_15.toNatClampNeg (0 : Int32)) hf
              · replace hf := itn hf c26
                refine jAloadn C dX8_namings_84 rfl 0 rfl ?_
                refine gf_RX8_16 C dX8_namings_85 ?_
                refine jIload C dX8_namings_88 4 rfl ?_
                refine jIconst C (2 : Int32) dX8_namings_90 ki_2 ?_
                refine jIrem C dX8_namings_91 (by decide) ?_
                have hL29 : ∀ (y28 : Int32), X8_namings_j106 cP_17 cLo_18 cHi_19 x4_15 p2 r22 x3_14 x5_16 cpl_20 y28 = some (rr, ocP, ocLo, ocHi, ocpl) → J p l e (rmk 3) s m args below meth c D A Q 6 (cw g cy cP_17 cLo_18 cHi_19 cpl_20 ctb ctl ctf ctp ctk cts cth cob col cso cha chs cbe ctr cgl cgh cll clh cta cme cps cwh cal cah) 106 [(0, .ref (g 28)), (1, .ref (g p1)), (2, .ref (g p2)), (3, .int x3_14), (4, .int x4_15), (5, .int x5_16)] [.int y28, .ref (g 3)] := by
                  intro y28 hf
                  unfold X8_namings_j106 at hf
                  refine jIload C dX8_namings_106 4 rfl ?_
                  refine jAloadn C dX8_namings_108 rfl 0 rfl ?_
                  refine gf_RX8_20 C dX8_namings_109 ?_
                  refine jAloadn C dX8_namings_112 rfl 0 rfl ?_
                  refine gf_RX8_23 C dX8_namings_113 ?_
                  obtain ⟨cP_30, cLo_31, cHi_32, e33, hf⟩ := bd3_some hf
                  refine jVV C (X0_exchange_ok (by decide) (by decide) (by decide) e33) vb_X0_exchange mk_RX8_406 rfl (rcF (by decide)) ⟨Nat.le_of_ble_eq_true rfl, Nat.le_of_ble_eq_true rfl⟩ rfl (Nat.le_of_ble_eq_true rfl) dX8_namings_116 ?_
                  refine jIloadn C dX8_namings_119 rfl 3 rfl ?_
                  refine jAloadn C dX8_namings_120 rfl 0 rfl ?_
                  refine gf_RX8_16 C dX8_namings_121 ?_
                  refine jAloadn C dX8_namings_124 rfl 2 rfl ?_
                  obtain ⟨q34, e35, hf⟩ := bd1_some hf
                  refine jVI C (X0_isSameAs_ok (by decide) hp2 e35) vb_X0_isSameAs mk_RX8_337 rfl (rcF (by decide)) ⟨Nat.le_of_ble_eq_true rfl, Nat.le_of_ble_eq_true rfl⟩ rfl (Nat.le_of_ble_eq_true rfl) dX8_namings_125 ?_
                  have hL37 : ∀ (y36 : Int32), X8_namings_j136 x4_15 r22 x3_14 x5_16 cP_30 cLo_31 cHi_32 cpl_20 y36 = some (rr, ocP, ocLo, ocHi, ocpl) → J p l e (rmk 3) s m args below meth c D A Q 6 (cw g cy cP_30 cLo_31 cHi_32 cpl_20 ctb ctl ctf ctp ctk cts cth cob col cso cha chs cbe ctr cgl cgh cll clh cta cme cps cwh cal cah) 136 [(0, .ref (g 28)), (1, .ref (g p1)), (2, .ref (g p2)), (4, .int x4_15), (5, .int x5_16)] [.int y36, .int x3_14] := by
                    intro y36 hf
                    unfold X8_namings_j136 at hf
                    refine jIadd C dX8_namings_136 ?_
                    refine jIstoren C dX8_namings_137 rfl (Nat.le_of_ble_eq_true rfl) [(3, .int (x3_14 + y36)), (0, .ref (g 28)), (1, .ref (g p1)), (2, .ref (g p2)), (4, .int x4_15), (5, .int x5_16)] rfl ?_
                    refine jAloadn C dX8_namings_138 rfl 1 rfl ?_
                    refine gf_RX8_26 C dX8_namings_139 ?_
                    refine jIload C dX8_namings_142 4 rfl ?_
                    refine jDup2 C dX8_namings_144 rfl rfl ?_
                    obtain ⟨z38, hf⟩ := gin_some hf
                    refine al_cpl C z38 dX8_namings_145 ?_
                    refine jIconst C (1 : Int32) dX8_namings_146 ki_1 ?_
                    refine jIadd C dX8_namings_147 ?_
                    obtain ⟨z39, hf⟩ := gin_some hf
                    refine as_cpl C z39 dX8_namings_148 ?_
                    refine jIconst C (1 : Int32) dX8_namings_149 ki_1 ?_
                    refine jIstore C dX8_namings_150 (Nat.le_of_ble_eq_true rfl) [(4, .int (1 : Int32)), (3, .int (x3_14 + y36)), (0, .ref (g 28)), (1, .ref (g p1)), (2, .ref (g p2)), (5, .int x5_16)] rfl ?_
                    refine jGoto C 166 dX8_namings_152 (by decide) ?_
                    refine jIinc C (x5_16 + (1 : Int32)) dX8_namings_166 5 rfl (congrArg (fun z : Int32 => x5_16 + z) ki_1) (Nat.le_of_ble_eq_true rfl) [(5, .int (x5_16 + (1 : Int32))), (4, .int (1 : Int32)), (3, .int (x3_14 + y36)), (0, .ref (g 28)), (1, .ref (g p1)), (2, .ref (g p2))] rfl ?_
                    refine jGoto C 55 dX8_namings_169 (by decide) ?_
                    refine jSub [3, 4, 5, 2, 1, 0] rfl ?_
                    exact ir22 (x3_14 + y36) (1 : Int32) (x5_16 + (1 : Int32)) cP_30 cLo_31 cHi_32 (upd cpl_20 x4_15.toNatClampNeg ((cpl_20 x4_15.toNatClampNeg) + (1 : Int32))) hf
                  refine jIfEq C 135 dX8_namings_128 (by decide) (fun c40 => ?_) (fun c40 => ?_)
                  · replace hf := itp hf c40
                    refine jIconst C (0 : Int32) dX8_namings_135 ki_0 ?_
                    refine jSub [0, 1, 2, 4, 5] rfl ?_
                    exact hL37 (0 : Int32) hf
                  · replace hf := itn hf c40
                    refine jIconst C (1 : Int32) dX8_namings_131 ki_1 ?_
                    refine jGoto C 136 dX8_namings_132 (by decide) ?_
                    refine jSub [0, 1, 2, 4, 5] rfl ?_
                    exact hL37 (1 : Int32) hf
                refine jIfNe C 99 dX8_namings_92 (by decide) (fun c41 => ?_) (fun c41 => ?_)
                · replace hf := itn hf c41
                  refine jAloadn C dX8_namings_99 rfl 0 rfl ?_
                  refine gf_RX8_26 C dX8_namings_100 ?_
                  refine jIload C dX8_namings_103 4 rfl ?_
                  obtain ⟨z42, hf⟩ := gin_some hf
                  refine al_cpl C z42 dX8_namings_105 ?_
                  exact hL29 (cpl_20 x4_15.toNatClampNeg) hf
                · replace hf := itp hf c41
                  refine jIconst C (0 : Int32) dX8_namings_95 ki_0 ?_
                  refine jGoto C 106 dX8_namings_96 (by decide) ?_
                  exact hL29 (0 : Int32) hf
        refine jSub [2, 3, 4, 5, 1, 0] rfl ?_
        exact hL21 y7 (1 : Int32) (0 : Int32) cP_1 cLo_2 cHi_3 cpl_10 hf
      · replace hf := itn hf c13
        refine jAloadn C dX8_namings_35 rfl 0 rfl ?_
        refine gf_RX8_26 C dX8_namings_36 ?_
        refine jIload C dX8_namings_39 4 rfl ?_
        refine jIconst C (0 : Int32) dX8_namings_41 ki_0 ?_
        obtain ⟨z43, hf⟩ := gin_some hf
        refine as_cpl C z43 dX8_namings_42 ?_
        refine jIinc C (x4_9 + (1 : Int32)) dX8_namings_43 4 rfl (congrArg (fun z : Int32 => x4_9 + z) ki_1) (Nat.le_of_ble_eq_true rfl) [(4, .int (x4_9 + (1 : Int32))), (0, .ref (g 28)), (1, .ref (g p1)), (2, .ref (g p2)), (3, .int y7)] rfl ?_
        refine jGoto C 28 dX8_namings_46 (by decide) ?_
        refine jSub [1, 2, 3, 4, 0] rfl ?_
        exact ir12 (x4_9 + (1 : Int32)) (upd cpl_10 x4_9.toNatClampNeg (0 : Int32)) hf
    refine jSub [2, 3, 4, 1, 0] rfl ?_
    exact hL11 (0 : Int32) cpl hf
  refine jIfEq C 23 dX8_namings_16 (by decide) (fun c44 => ?_) (fun c44 => ?_)
  · replace hf := itp hf c44
    refine jIconst C (0 : Int32) dX8_namings_23 ki_0 ?_
    exact hL8 (0 : Int32) hf
  · replace hf := itn hf c44
    refine jIconst C (1 : Int32) dX8_namings_19 ki_1 ?_
    refine jGoto C 24 dX8_namings_20 (by decide) ?_
    exact hL8 (1 : Int32) hf
noncomputable def X8_alike (cP : Nat → Int32) (cLo : Nat → Int64) (cHi : Nat → Int64) (cpl : Nat → Int32) (p1 : Int32) (p2 : Int32) : Option (Int32 × (Nat → Int32) × (Nat → Int64) × (Nat → Int64) × (Nat → Int32)) := bdo (X8_familyAt cP p1) (bdo (X8_familyAt cP p2) (some ((-2 : Int32), cP, cLo, cHi, cpl)) (fun f3 => some ((-2 : Int32), cP, cLo, cHi, cpl))) (fun f1 => bdo (X8_familyAt cP p2) (some ((-2 : Int32), cP, cLo, cHi, cpl)) (fun f5 => (if (cP f1) = (cP f5) then bd5 (X8_namings cP cLo cHi cpl f1 f5) (fun q8 cP_9 cLo_10 cHi_11 cpl_12 => (if q8 ≤ (0 : Int32) then some ((0 : Int32), cP_9, cLo_10, cHi_11, cpl_12) else some ((1 : Int32), cP_9, cLo_10, cHi_11, cpl_12))) else some ((0 : Int32), cP, cLo, cHi, cpl))))
set_option maxHeartbeats 4000000 in
set_option maxRecDepth 20000 in
theorem X8_alike_ok {p1 : Int32} {p2 : Int32} {rr : Int32} {ocP : Nat → Int32} {ocLo : Nat → Int64} {ocHi : Nat → Int64} {ocpl : Nat → Int32}  (hf : X8_alike cP cLo cHi cpl p1 p2 = some (rr, ocP, ocLo, ocHi, ocpl)) : MT yX8_alike cX8_alike 5 (some .int) 4 [.ref (g 28), .int p1, .int p2] D cy G (cw g cy cP cLo cHi cpl ctb ctl ctf ctp ctk cts cth cob col cso cha chs cbe ctr cgl cgh cll clh cta cme cps cwh cal cah) (cw g cy ocP ocLo ocHi ocpl ctb ctl ctf ctp ctk cts cth cob col cso cha chs cbe ctr cgl cgh cll clh cta cme cps cwh cal cah) (some (.int rr)) := by
  refine MT.go (own := RX8) [(0, .ref (g 28)), (1, .int p1), (2, .int p2)] (by decide) rfl (Nat.le_of_ble_eq_true rfl) rfl (fun p l e s m args below meth c A Q C hQ => ?_)
  unfold X8_alike at hf
  refine jAloadn C dX8_alike_0 rfl 0 rfl ?_
  refine jIloadn C dX8_alike_1 rfl 1 rfl ?_
  rcases bdo_some hf with ⟨q2, hf⟩ | ⟨f1, q2, hf⟩
  · refine jVN C (X8_familyAt_ok  q2) vb_X8_familyAt mk_RX8_102 rfl rc28 ⟨Nat.le_of_ble_eq_true rfl, Nat.le_of_ble_eq_true rfl⟩ rfl (Nat.le_of_ble_eq_true rfl) dX8_alike_2 ?_
    refine jAstorenN C dX8_alike_5 rfl (Nat.le_of_ble_eq_true rfl) [(3, .null), (0, .ref (g 28)), (1, .int p1), (2, .int p2)] rfl ?_
    refine jAloadn C dX8_alike_6 rfl 1 rfl ?_
    refine jIloadn C dX8_alike_7 rfl 3 rfl ?_
    rcases bdo_some hf with ⟨q4, hf⟩ | ⟨f3, q4, hf⟩
    · refine jVN C (X8_familyAt_ok  q4) vb_X8_familyAt mk_RX8_102 rfl rc28 ⟨Nat.le_of_ble_eq_true rfl, Nat.le_of_ble_eq_true rfl⟩ rfl (Nat.le_of_ble_eq_true rfl) dX8_alike_8 ?_
      refine jAstoreN C dX8_alike_11 (Nat.le_of_ble_eq_true rfl) [(4, .null), (3, .null), (0, .ref (g 28)), (1, .int p1), (2, .int p2)] rfl ?_
      refine jAloadnN C dX8_alike_13 rfl 1 rfl ?_
      refine jIfnullN C 22 dX8_alike_14 (by decide) ?_
      refine jBipush C (-2 : Int32) dX8_alike_22 kb_m2 ?_
      cases hf
      exact jEndI C hQ rfl dX8_alike_24
    · refine jVA C (X8_familyAt_ok  q4) vb_X8_familyAt mk_RX8_102 rfl rc28 ⟨Nat.le_of_ble_eq_true rfl, Nat.le_of_ble_eq_true rfl⟩ rfl (Nat.le_of_ble_eq_true rfl) dX8_alike_8 ?_
      refine jAstore C dX8_alike_11 (Nat.le_of_ble_eq_true rfl) [(4, .ref (g f3)), (3, .null), (0, .ref (g 28)), (1, .int p1), (2, .int p2)] rfl ?_
      refine jAloadnN C dX8_alike_13 rfl 1 rfl ?_
      refine jIfnullN C 22 dX8_alike_14 (by decide) ?_
      refine jBipush C (-2 : Int32) dX8_alike_22 kb_m2 ?_
      cases hf
      exact jEndI C hQ rfl dX8_alike_24
  · refine jVA C (X8_familyAt_ok  q2) vb_X8_familyAt mk_RX8_102 rfl rc28 ⟨Nat.le_of_ble_eq_true rfl, Nat.le_of_ble_eq_true rfl⟩ rfl (Nat.le_of_ble_eq_true rfl) dX8_alike_2 ?_
    refine jAstoren C dX8_alike_5 rfl (Nat.le_of_ble_eq_true rfl) [(3, .ref (g f1)), (0, .ref (g 28)), (1, .int p1), (2, .int p2)] rfl ?_
    refine jAloadn C dX8_alike_6 rfl 1 rfl ?_
    refine jIloadn C dX8_alike_7 rfl 3 rfl ?_
    rcases bdo_some hf with ⟨q6, hf⟩ | ⟨f5, q6, hf⟩
    · refine jVN C (X8_familyAt_ok  q6) vb_X8_familyAt mk_RX8_102 rfl rc28 ⟨Nat.le_of_ble_eq_true rfl, Nat.le_of_ble_eq_true rfl⟩ rfl (Nat.le_of_ble_eq_true rfl) dX8_alike_8 ?_
      refine jAstoreN C dX8_alike_11 (Nat.le_of_ble_eq_true rfl) [(4, .null), (3, .ref (g f1)), (0, .ref (g 28)), (1, .int p1), (2, .int p2)] rfl ?_
      refine jAloadn C dX8_alike_13 rfl 1 rfl ?_
      refine jIfnull C dX8_alike_14 ?_
      refine jAloadN C dX8_alike_17 0 rfl ?_
      refine jIfnonnullN C dX8_alike_19 ?_
      refine jBipush C (-2 : Int32) dX8_alike_22 kb_m2 ?_
      cases hf
      exact jEndI C hQ rfl dX8_alike_24
    · refine jVA C (X8_familyAt_ok  q6) vb_X8_familyAt mk_RX8_102 rfl rc28 ⟨Nat.le_of_ble_eq_true rfl, Nat.le_of_ble_eq_true rfl⟩ rfl (Nat.le_of_ble_eq_true rfl) dX8_alike_8 ?_
      refine jAstore C dX8_alike_11 (Nat.le_of_ble_eq_true rfl) [(4, .ref (g f5)), (3, .ref (g f1)), (0, .ref (g 28)), (1, .int p1), (2, .int p2)] rfl ?_
      refine jAloadn C dX8_alike_13 rfl 1 rfl ?_
      refine jIfnull C dX8_alike_14 ?_
      refine jAload C dX8_alike_17 0 rfl ?_
      refine jIfnonnull C 25 dX8_alike_19 (by decide) ?_
      refine jAloadn C dX8_alike_25 rfl 1 rfl ?_
      refine gf_RX8_133 C (X8_familyAt_lt q2) dX8_alike_26 ?_
      refine jAload C dX8_alike_29 0 rfl ?_
      refine gf_RX8_133 C (X8_familyAt_lt q6) dX8_alike_31 ?_
      refine jCmpNe C 51 dX8_alike_34 (by decide) (fun c7 => ?_) (fun c7 => ?_)
      · replace hf := itn hf c7
        refine jIconst C (0 : Int32) dX8_alike_51 ki_0 ?_
        cases hf
        exact jEndI C hQ rfl dX8_alike_52
      · replace hf := itp hf c7
        refine jAloadn C dX8_alike_37 rfl 2 rfl ?_
        refine jAloadn C dX8_alike_38 rfl 1 rfl ?_
        refine jAload C dX8_alike_39 0 rfl ?_
        obtain ⟨q8, cP_9, cLo_10, cHi_11, cpl_12, e13, hf⟩ := bd5_some hf
        refine jVI C (X8_namings_ok (X8_familyAt_lt q2) (X8_familyAt_lt q6) e13) vb_X8_namings mk_RX8_289 rfl rc28 ⟨Nat.le_of_ble_eq_true rfl, Nat.le_of_ble_eq_true rfl⟩ rfl (Nat.le_of_ble_eq_true rfl) dX8_alike_41 ?_
        refine jIfLe C 51 dX8_alike_44 (by decide) (fun c14 => ?_) (fun c14 => ?_)
        · replace hf := itp hf c14
          refine jIconst C (0 : Int32) dX8_alike_51 ki_0 ?_
          cases hf
          exact jEndI C hQ rfl dX8_alike_52
        · replace hf := itn hf c14
          refine jIconst C (1 : Int32) dX8_alike_47 ki_1 ?_
          refine jGoto C 52 dX8_alike_48 (by decide) ?_
          cases hf
          exact jEndI C hQ rfl dX8_alike_52
noncomputable def X8_selves (cP : Nat → Int32) (cLo : Nat → Int64) (cHi : Nat → Int64) (cpl : Nat → Int32) (p1 : Int32) : Option (Int32 × (Nat → Int32) × (Nat → Int64) × (Nat → Int64) × (Nat → Int32)) := bdo (X8_familyAt cP p1) (some ((-2 : Int32), cP, cLo, cHi, cpl)) (fun f1 => bd5 (X8_namings cP cLo cHi cpl f1 f1) (fun q3 cP_4 cLo_5 cHi_6 cpl_7 => some (q3, cP_4, cLo_5, cHi_6, cpl_7)))
set_option maxHeartbeats 4000000 in
set_option maxRecDepth 20000 in
theorem X8_selves_ok {p1 : Int32} {rr : Int32} {ocP : Nat → Int32} {ocLo : Nat → Int64} {ocHi : Nat → Int64} {ocpl : Nat → Int32}  (hf : X8_selves cP cLo cHi cpl p1 = some (rr, ocP, ocLo, ocHi, ocpl)) : MT yX8_selves cX8_selves 3 (some .int) 4 [.ref (g 28), .int p1] D cy G (cw g cy cP cLo cHi cpl ctb ctl ctf ctp ctk cts cth cob col cso cha chs cbe ctr cgl cgh cll clh cta cme cps cwh cal cah) (cw g cy ocP ocLo ocHi ocpl ctb ctl ctf ctp ctk cts cth cob col cso cha chs cbe ctr cgl cgh cll clh cta cme cps cwh cal cah) (some (.int rr)) := by
  refine MT.go (own := RX8) [(0, .ref (g 28)), (1, .int p1)] (by decide) rfl (Nat.le_of_ble_eq_true rfl) rfl (fun p l e s m args below meth c A Q C hQ => ?_)
  unfold X8_selves at hf
  refine jAloadn C dX8_selves_0 rfl 0 rfl ?_
  refine jIloadn C dX8_selves_1 rfl 1 rfl ?_
  rcases bdo_some hf with ⟨q2, hf⟩ | ⟨f1, q2, hf⟩
  · refine jVN C (X8_familyAt_ok  q2) vb_X8_familyAt mk_RX8_102 rfl rc28 ⟨Nat.le_of_ble_eq_true rfl, Nat.le_of_ble_eq_true rfl⟩ rfl (Nat.le_of_ble_eq_true rfl) dX8_selves_2 ?_
    refine jAstorenN C dX8_selves_5 rfl (Nat.le_of_ble_eq_true rfl) [(2, .null), (0, .ref (g 28)), (1, .int p1)] rfl ?_
    refine jAloadnN C dX8_selves_6 rfl 0 rfl ?_
    refine jIfnonnullN C dX8_selves_7 ?_
    refine jBipush C (-2 : Int32) dX8_selves_10 kb_m2 ?_
    cases hf
    exact jEndI C hQ rfl dX8_selves_12
  · refine jVA C (X8_familyAt_ok  q2) vb_X8_familyAt mk_RX8_102 rfl rc28 ⟨Nat.le_of_ble_eq_true rfl, Nat.le_of_ble_eq_true rfl⟩ rfl (Nat.le_of_ble_eq_true rfl) dX8_selves_2 ?_
    refine jAstoren C dX8_selves_5 rfl (Nat.le_of_ble_eq_true rfl) [(2, .ref (g f1)), (0, .ref (g 28)), (1, .int p1)] rfl ?_
    refine jAloadn C dX8_selves_6 rfl 0 rfl ?_
    refine jIfnonnull C 13 dX8_selves_7 (by decide) ?_
    refine jAloadn C dX8_selves_13 rfl 1 rfl ?_
    refine jAloadn C dX8_selves_14 rfl 0 rfl ?_
    refine jAloadn C dX8_selves_15 rfl 0 rfl ?_
    obtain ⟨q3, cP_4, cLo_5, cHi_6, cpl_7, e8, hf⟩ := bd5_some hf
    refine jVI C (X8_namings_ok (X8_familyAt_lt q2) (X8_familyAt_lt q2) e8) vb_X8_namings mk_RX8_289 rfl rc28 ⟨Nat.le_of_ble_eq_true rfl, Nat.le_of_ble_eq_true rfl⟩ rfl (Nat.le_of_ble_eq_true rfl) dX8_selves_16 ?_
    cases hf
    exact jEndI C hQ rfl dX8_selves_19
noncomputable def X8_adds (cP : Nat → Int32) (cLo : Nat → Int64) (cHi : Nat → Int64) (cso : Nat → Int32) (cha : Int32) (chs : Int32) (p1 : Int32) (p2 : Int32) : Option (Int32 × (Nat → Int32) × (Nat → Int64) × (Nat → Int64) × (Nat → Int32) × Int32 × Int32) := bdo (X8_familyAt cP p1) (some ((-2 : Int32), cP, cLo, cHi, cso, cha, chs)) (fun f1 => bd1 (X0_knows cP f1 p2) (fun q3 => (if q3 = (0 : Int32) then some ((-2 : Int32), cP, cLo, cHi, cso, cha, chs) else bd1 (X0_holds cLo cHi f1 p2) (fun q6 => (if q6 = (0 : Int32) then bd3 (X0_become cP cLo cHi 3 f1) (fun cP_9 cLo_10 cHi_11 => bd2 (X0_put cLo_10 cHi_11 3 p2) (fun cLo_13 cHi_14 => bd7 (X8_comesInto cP_9 cLo_13 cHi_14 cso cha chs p1 3) (fun q16 cP_17 cLo_18 cHi_19 cso_20 cha_21 chs_22 => some (q16, cP_17, cLo_18, cHi_19, cso_20, cha_21, chs_22)))) else some ((-5 : Int32), cP, cLo, cHi, cso, cha, chs))))))
set_option maxHeartbeats 4000000 in
set_option maxRecDepth 20000 in
theorem X8_adds_ok {p1 : Int32} {p2 : Int32} {rr : Int32} {ocP : Nat → Int32} {ocLo : Nat → Int64} {ocHi : Nat → Int64} {ocso : Nat → Int32} {ocha : Int32} {ochs : Int32}  (hf : X8_adds cP cLo cHi cso cha chs p1 p2 = some (rr, ocP, ocLo, ocHi, ocso, ocha, ochs)) : MT yX8_adds cX8_adds 4 (some .int) 3 [.ref (g 28), .int p1, .int p2] D cy G (cw g cy cP cLo cHi cpl ctb ctl ctf ctp ctk cts cth cob col cso cha chs cbe ctr cgl cgh cll clh cta cme cps cwh cal cah) (cw g cy ocP ocLo ocHi cpl ctb ctl ctf ctp ctk cts cth cob col ocso ocha ochs cbe ctr cgl cgh cll clh cta cme cps cwh cal cah) (some (.int rr)) := by
  refine MT.go (own := RX8) [(0, .ref (g 28)), (1, .int p1), (2, .int p2)] (by decide) rfl (Nat.le_of_ble_eq_true rfl) rfl (fun p l e s m args below meth c A Q C hQ => ?_)
  unfold X8_adds at hf
  refine jAloadn C dX8_adds_0 rfl 0 rfl ?_
  refine jIloadn C dX8_adds_1 rfl 1 rfl ?_
  rcases bdo_some hf with ⟨q2, hf⟩ | ⟨f1, q2, hf⟩
  · refine jVN C (X8_familyAt_ok  q2) vb_X8_familyAt mk_RX8_102 rfl rc28 ⟨Nat.le_of_ble_eq_true rfl, Nat.le_of_ble_eq_true rfl⟩ rfl (Nat.le_of_ble_eq_true rfl) dX8_adds_2 ?_
    refine jAstorenN C dX8_adds_5 rfl (Nat.le_of_ble_eq_true rfl) [(3, .null), (0, .ref (g 28)), (1, .int p1), (2, .int p2)] rfl ?_
    refine jAloadnN C dX8_adds_6 rfl 0 rfl ?_
    refine jIfnullN C 18 dX8_adds_7 (by decide) ?_
    refine jBipush C (-2 : Int32) dX8_adds_18 kb_m2 ?_
    cases hf
    exact jEndI C hQ rfl dX8_adds_20
  · refine jVA C (X8_familyAt_ok  q2) vb_X8_familyAt mk_RX8_102 rfl rc28 ⟨Nat.le_of_ble_eq_true rfl, Nat.le_of_ble_eq_true rfl⟩ rfl (Nat.le_of_ble_eq_true rfl) dX8_adds_2 ?_
    refine jAstoren C dX8_adds_5 rfl (Nat.le_of_ble_eq_true rfl) [(3, .ref (g f1)), (0, .ref (g 28)), (1, .int p1), (2, .int p2)] rfl ?_
    refine jAloadn C dX8_adds_6 rfl 0 rfl ?_
    refine jIfnull C dX8_adds_7 ?_
    refine jAloadn C dX8_adds_10 rfl 0 rfl ?_
    refine jIloadn C dX8_adds_11 rfl 3 rfl ?_
    obtain ⟨q3, e4, hf⟩ := bd1_some hf
    refine jVI C (X0_knows_ok (X8_familyAt_lt q2) e4) vb_X0_knows mk_RX8_117 rfl (rcF (X8_familyAt_lt q2)) ⟨Nat.le_of_ble_eq_true rfl, Nat.le_of_ble_eq_true rfl⟩ rfl (Nat.le_of_ble_eq_true rfl) dX8_adds_12 ?_
    refine jIfNe C 21 dX8_adds_15 (by decide) (fun c5 => ?_) (fun c5 => ?_)
    · replace hf := itn hf c5
      refine jAloadn C dX8_adds_21 rfl 0 rfl ?_
      refine jIloadn C dX8_adds_22 rfl 3 rfl ?_
      obtain ⟨q6, e7, hf⟩ := bd1_some hf
      refine jVI C (X0_holds_ok (X8_familyAt_lt q2) e7) vb_X0_holds mk_RX8_120 rfl (rcF (X8_familyAt_lt q2)) ⟨Nat.le_of_ble_eq_true rfl, Nat.le_of_ble_eq_true rfl⟩ rfl (Nat.le_of_ble_eq_true rfl) dX8_adds_23 ?_
      refine jIfEq C 32 dX8_adds_26 (by decide) (fun c8 => ?_) (fun c8 => ?_)
      · replace hf := itp hf c8
        refine jAloadn C dX8_adds_32 rfl 1 rfl ?_
        refine gf_RX8_16 C dX8_adds_33 ?_
        refine jAloadn C dX8_adds_36 rfl 0 rfl ?_
        obtain ⟨cP_9, cLo_10, cHi_11, e12, hf⟩ := bd3_some hf
        refine jVV C (X0_become_ok (by decide) (X8_familyAt_lt q2) e12) vb_X0_become mk_RX8_152 rfl (rcF (by decide)) ⟨Nat.le_of_ble_eq_true rfl, Nat.le_of_ble_eq_true rfl⟩ rfl (Nat.le_of_ble_eq_true rfl) dX8_adds_37 ?_
        refine jAloadn C dX8_adds_40 rfl 1 rfl ?_
        refine gf_RX8_16 C dX8_adds_41 ?_
        refine jIloadn C dX8_adds_44 rfl 3 rfl ?_
        obtain ⟨cLo_13, cHi_14, e15, hf⟩ := bd2_some hf
        refine jVV C (X0_put_ok (by decide) e15) vb_X0_put mk_RX8_187 rfl (rcF (by decide)) ⟨Nat.le_of_ble_eq_true rfl, Nat.le_of_ble_eq_true rfl⟩ rfl (Nat.le_of_ble_eq_true rfl) dX8_adds_45 ?_
        refine jAloadn C dX8_adds_48 rfl 1 rfl ?_
        refine jIloadn C dX8_adds_49 rfl 2 rfl ?_
        refine jAloadn C dX8_adds_50 rfl 1 rfl ?_
        refine gf_RX8_16 C dX8_adds_51 ?_
        obtain ⟨q16, cP_17, cLo_18, cHi_19, cso_20, cha_21, chs_22, e23, hf⟩ := bd7_some hf
        refine jVI C (X8_comesInto_ok (by decide) e23) vb_X8_comesInto mk_RX8_84 rfl rc28 ⟨Nat.le_of_ble_eq_true rfl, Nat.le_of_ble_eq_true rfl⟩ rfl (Nat.le_of_ble_eq_true rfl) dX8_adds_54 ?_
        cases hf
        exact jEndI C hQ rfl dX8_adds_57
      · replace hf := itn hf c8
        refine jBipush C (-5 : Int32) dX8_adds_29 kb_m5 ?_
        cases hf
        exact jEndI C hQ rfl dX8_adds_31
    · replace hf := itp hf c5
      refine jBipush C (-2 : Int32) dX8_adds_18 kb_m2 ?_
      cases hf
      exact jEndI C hQ rfl dX8_adds_20
noncomputable def X8_without (cP : Nat → Int32) (cLo : Nat → Int64) (cHi : Nat → Int64) (p1 : Int32) (p2 : Int32) (p3 : Int32) : Option (Int32 × (Nat → Int32) × (Nat → Int64) × (Nat → Int64)) := bdo (X8_familyAt cP p1) (some ((-2 : Int32), cP, cLo, cHi)) (fun f1 => bd1 (X0_knows cP f1 p2) (fun q3 => (if q3 = (0 : Int32) then some ((-2 : Int32), cP, cLo, cHi) else bd1 (X8_isLookable p3) (fun q6 => (if q6 = (0 : Int32) then some ((-2 : Int32), cP, cLo, cHi) else bd1 (X0_holds cLo cHi f1 p2) (fun q9 => (if q9 = (0 : Int32) then some ((-6 : Int32), cP, cLo, cHi) else bd3 (X0_become cP cLo cHi 4 f1) (fun cP_12 cLo_13 cHi_14 => bd2 (X0_remove cLo_13 cHi_14 4 p2) (fun cLo_16 cHi_17 => bd4 (X8_measure cP_12 cLo_16 cHi_17 4 p3) (fun q19 cP_20 cLo_21 cHi_22 => some (q19, cP_20, cLo_21, cHi_22)))))))))))
set_option maxHeartbeats 4000000 in
set_option maxRecDepth 20000 in
theorem X8_without_ok {p1 : Int32} {p2 : Int32} {p3 : Int32} {rr : Int32} {ocP : Nat → Int32} {ocLo : Nat → Int64} {ocHi : Nat → Int64}  (hf : X8_without cP cLo cHi p1 p2 p3 = some (rr, ocP, ocLo, ocHi)) : MT yX8_without cX8_without 5 (some .int) 4 [.ref (g 28), .int p1, .int p2, .int p3] D cy G (cw g cy cP cLo cHi cpl ctb ctl ctf ctp ctk cts cth cob col cso cha chs cbe ctr cgl cgh cll clh cta cme cps cwh cal cah) (cw g cy ocP ocLo ocHi cpl ctb ctl ctf ctp ctk cts cth cob col cso cha chs cbe ctr cgl cgh cll clh cta cme cps cwh cal cah) (some (.int rr)) := by
  refine MT.go (own := RX8) [(0, .ref (g 28)), (1, .int p1), (2, .int p2), (3, .int p3)] (by decide) rfl (Nat.le_of_ble_eq_true rfl) rfl (fun p l e s m args below meth c A Q C hQ => ?_)
  unfold X8_without at hf
  refine jAloadn C dX8_without_0 rfl 0 rfl ?_
  refine jIloadn C dX8_without_1 rfl 1 rfl ?_
  rcases bdo_some hf with ⟨q2, hf⟩ | ⟨f1, q2, hf⟩
  · refine jVN C (X8_familyAt_ok  q2) vb_X8_familyAt mk_RX8_102 rfl rc28 ⟨Nat.le_of_ble_eq_true rfl, Nat.le_of_ble_eq_true rfl⟩ rfl (Nat.le_of_ble_eq_true rfl) dX8_without_2 ?_
    refine jAstoreN C dX8_without_5 (Nat.le_of_ble_eq_true rfl) [(4, .null), (0, .ref (g 28)), (1, .int p1), (2, .int p2), (3, .int p3)] rfl ?_
    refine jAloadN C dX8_without_7 0 rfl ?_
    refine jIfnullN C 28 dX8_without_9 (by decide) ?_
    refine jBipush C (-2 : Int32) dX8_without_28 kb_m2 ?_
    cases hf
    exact jEndI C hQ rfl dX8_without_30
  · refine jVA C (X8_familyAt_ok  q2) vb_X8_familyAt mk_RX8_102 rfl rc28 ⟨Nat.le_of_ble_eq_true rfl, Nat.le_of_ble_eq_true rfl⟩ rfl (Nat.le_of_ble_eq_true rfl) dX8_without_2 ?_
    refine jAstore C dX8_without_5 (Nat.le_of_ble_eq_true rfl) [(4, .ref (g f1)), (0, .ref (g 28)), (1, .int p1), (2, .int p2), (3, .int p3)] rfl ?_
    refine jAload C dX8_without_7 0 rfl ?_
    refine jIfnull C dX8_without_9 ?_
    refine jAload C dX8_without_12 0 rfl ?_
    refine jIloadn C dX8_without_14 rfl 3 rfl ?_
    obtain ⟨q3, e4, hf⟩ := bd1_some hf
    refine jVI C (X0_knows_ok (X8_familyAt_lt q2) e4) vb_X0_knows mk_RX8_117 rfl (rcF (X8_familyAt_lt q2)) ⟨Nat.le_of_ble_eq_true rfl, Nat.le_of_ble_eq_true rfl⟩ rfl (Nat.le_of_ble_eq_true rfl) dX8_without_15 ?_
    refine jIfEq C 28 dX8_without_18 (by decide) (fun c5 => ?_) (fun c5 => ?_)
    · replace hf := itp hf c5
      refine jBipush C (-2 : Int32) dX8_without_28 kb_m2 ?_
      cases hf
      exact jEndI C hQ rfl dX8_without_30
    · replace hf := itn hf c5
      refine jIloadn C dX8_without_21 rfl 4 rfl ?_
      obtain ⟨q6, e7, hf⟩ := bd1_some hf
      refine jSI C (X8_isLookable_ok  e7) sb_X8_isLookable mk_RX8_106 rfl ⟨Nat.le_of_ble_eq_true rfl, Nat.le_of_ble_eq_true rfl⟩ rfl (Nat.le_of_ble_eq_true rfl) dX8_without_22 ?_
      refine jIfNe C 31 dX8_without_25 (by decide) (fun c8 => ?_) (fun c8 => ?_)
      · replace hf := itn hf c8
        refine jAload C dX8_without_31 0 rfl ?_
        refine jIloadn C dX8_without_33 rfl 3 rfl ?_
        obtain ⟨q9, e10, hf⟩ := bd1_some hf
        refine jVI C (X0_holds_ok (X8_familyAt_lt q2) e10) vb_X0_holds mk_RX8_120 rfl (rcF (X8_familyAt_lt q2)) ⟨Nat.le_of_ble_eq_true rfl, Nat.le_of_ble_eq_true rfl⟩ rfl (Nat.le_of_ble_eq_true rfl) dX8_without_34 ?_
        refine jIfNe C 43 dX8_without_37 (by decide) (fun c11 => ?_) (fun c11 => ?_)
        · replace hf := itn hf c11
          refine jAloadn C dX8_without_43 rfl 1 rfl ?_
          refine gf_RX8_20 C dX8_without_44 ?_
          refine jAload C dX8_without_47 0 rfl ?_
          obtain ⟨cP_12, cLo_13, cHi_14, e15, hf⟩ := bd3_some hf
          refine jVV C (X0_become_ok (by decide) (X8_familyAt_lt q2) e15) vb_X0_become mk_RX8_152 rfl (rcF (by decide)) ⟨Nat.le_of_ble_eq_true rfl, Nat.le_of_ble_eq_true rfl⟩ rfl (Nat.le_of_ble_eq_true rfl) dX8_without_49 ?_
          refine jAloadn C dX8_without_52 rfl 1 rfl ?_
          refine gf_RX8_20 C dX8_without_53 ?_
          refine jIloadn C dX8_without_56 rfl 3 rfl ?_
          obtain ⟨cLo_16, cHi_17, e18, hf⟩ := bd2_some hf
          refine jVV C (X0_remove_ok (by decide) e18) vb_X0_remove mk_RX8_292 rfl (rcF (by decide)) ⟨Nat.le_of_ble_eq_true rfl, Nat.le_of_ble_eq_true rfl⟩ rfl (Nat.le_of_ble_eq_true rfl) dX8_without_57 ?_
          refine jAloadn C dX8_without_60 rfl 1 rfl ?_
          refine jAloadn C dX8_without_61 rfl 1 rfl ?_
          refine gf_RX8_20 C dX8_without_62 ?_
          refine jIloadn C dX8_without_65 rfl 4 rfl ?_
          obtain ⟨q19, cP_20, cLo_21, cHi_22, e23, hf⟩ := bd4_some hf
          refine jVI C (X8_measure_ok (by decide) e23) vb_X8_measure mk_RX8_109 rfl rc28 ⟨Nat.le_of_ble_eq_true rfl, Nat.le_of_ble_eq_true rfl⟩ rfl (Nat.le_of_ble_eq_true rfl) dX8_without_66 ?_
          cases hf
          exact jEndI C hQ rfl dX8_without_69
        · replace hf := itp hf c11
          refine jBipush C (-6 : Int32) dX8_without_40 kb_m6 ?_
          cases hf
          exact jEndI C hQ rfl dX8_without_42
      · replace hf := itp hf c8
        refine jBipush C (-2 : Int32) dX8_without_28 kb_m2 ?_
        cases hf
        exact jEndI C hQ rfl dX8_without_30
noncomputable def X8_cuts (cP : Nat → Int32) (cLo : Nat → Int64) (cHi : Nat → Int64) (cso : Nat → Int32) (cha : Int32) (chs : Int32) (p1 : Int32) (p2 : Int32) : Option (Int32 × (Nat → Int32) × (Nat → Int64) × (Nat → Int64) × (Nat → Int32) × Int32 × Int32) := bdo (X8_familyAt cP p1) (some ((-2 : Int32), cP, cLo, cHi, cso, cha, chs)) (fun f1 => bd1 (X0_knows cP f1 p2) (fun q3 => (if q3 = (0 : Int32) then some ((-2 : Int32), cP, cLo, cHi, cso, cha, chs) else bd1 (X0_holds cLo cHi f1 p2) (fun q6 => (if q6 = (0 : Int32) then some ((-6 : Int32), cP, cLo, cHi, cso, cha, chs) else bd3 (X0_become cP cLo cHi 3 f1) (fun cP_9 cLo_10 cHi_11 => bd2 (X0_remove cLo_10 cHi_11 3 p2) (fun cLo_13 cHi_14 => bd7 (X8_comesInto cP_9 cLo_13 cHi_14 cso cha chs p1 3) (fun q16 cP_17 cLo_18 cHi_19 cso_20 cha_21 chs_22 => some (q16, cP_17, cLo_18, cHi_19, cso_20, cha_21, chs_22)))))))))
set_option maxHeartbeats 4000000 in
set_option maxRecDepth 20000 in
theorem X8_cuts_ok {p1 : Int32} {p2 : Int32} {rr : Int32} {ocP : Nat → Int32} {ocLo : Nat → Int64} {ocHi : Nat → Int64} {ocso : Nat → Int32} {ocha : Int32} {ochs : Int32}  (hf : X8_cuts cP cLo cHi cso cha chs p1 p2 = some (rr, ocP, ocLo, ocHi, ocso, ocha, ochs)) : MT yX8_cuts cX8_cuts 4 (some .int) 3 [.ref (g 28), .int p1, .int p2] D cy G (cw g cy cP cLo cHi cpl ctb ctl ctf ctp ctk cts cth cob col cso cha chs cbe ctr cgl cgh cll clh cta cme cps cwh cal cah) (cw g cy ocP ocLo ocHi cpl ctb ctl ctf ctp ctk cts cth cob col ocso ocha ochs cbe ctr cgl cgh cll clh cta cme cps cwh cal cah) (some (.int rr)) := by
  refine MT.go (own := RX8) [(0, .ref (g 28)), (1, .int p1), (2, .int p2)] (by decide) rfl (Nat.le_of_ble_eq_true rfl) rfl (fun p l e s m args below meth c A Q C hQ => ?_)
  unfold X8_cuts at hf
  refine jAloadn C dX8_cuts_0 rfl 0 rfl ?_
  refine jIloadn C dX8_cuts_1 rfl 1 rfl ?_
  rcases bdo_some hf with ⟨q2, hf⟩ | ⟨f1, q2, hf⟩
  · refine jVN C (X8_familyAt_ok  q2) vb_X8_familyAt mk_RX8_102 rfl rc28 ⟨Nat.le_of_ble_eq_true rfl, Nat.le_of_ble_eq_true rfl⟩ rfl (Nat.le_of_ble_eq_true rfl) dX8_cuts_2 ?_
    refine jAstorenN C dX8_cuts_5 rfl (Nat.le_of_ble_eq_true rfl) [(3, .null), (0, .ref (g 28)), (1, .int p1), (2, .int p2)] rfl ?_
    refine jAloadnN C dX8_cuts_6 rfl 0 rfl ?_
    refine jIfnullN C 18 dX8_cuts_7 (by decide) ?_
    refine jBipush C (-2 : Int32) dX8_cuts_18 kb_m2 ?_
    cases hf
    exact jEndI C hQ rfl dX8_cuts_20
  · refine jVA C (X8_familyAt_ok  q2) vb_X8_familyAt mk_RX8_102 rfl rc28 ⟨Nat.le_of_ble_eq_true rfl, Nat.le_of_ble_eq_true rfl⟩ rfl (Nat.le_of_ble_eq_true rfl) dX8_cuts_2 ?_
    refine jAstoren C dX8_cuts_5 rfl (Nat.le_of_ble_eq_true rfl) [(3, .ref (g f1)), (0, .ref (g 28)), (1, .int p1), (2, .int p2)] rfl ?_
    refine jAloadn C dX8_cuts_6 rfl 0 rfl ?_
    refine jIfnull C dX8_cuts_7 ?_
    refine jAloadn C dX8_cuts_10 rfl 0 rfl ?_
    refine jIloadn C dX8_cuts_11 rfl 3 rfl ?_
    obtain ⟨q3, e4, hf⟩ := bd1_some hf
    refine jVI C (X0_knows_ok (X8_familyAt_lt q2) e4) vb_X0_knows mk_RX8_117 rfl (rcF (X8_familyAt_lt q2)) ⟨Nat.le_of_ble_eq_true rfl, Nat.le_of_ble_eq_true rfl⟩ rfl (Nat.le_of_ble_eq_true rfl) dX8_cuts_12 ?_
    refine jIfNe C 21 dX8_cuts_15 (by decide) (fun c5 => ?_) (fun c5 => ?_)
    · replace hf := itn hf c5
      refine jAloadn C dX8_cuts_21 rfl 0 rfl ?_
      refine jIloadn C dX8_cuts_22 rfl 3 rfl ?_
      obtain ⟨q6, e7, hf⟩ := bd1_some hf
      refine jVI C (X0_holds_ok (X8_familyAt_lt q2) e7) vb_X0_holds mk_RX8_120 rfl (rcF (X8_familyAt_lt q2)) ⟨Nat.le_of_ble_eq_true rfl, Nat.le_of_ble_eq_true rfl⟩ rfl (Nat.le_of_ble_eq_true rfl) dX8_cuts_23 ?_
      refine jIfNe C 32 dX8_cuts_26 (by decide) (fun c8 => ?_) (fun c8 => ?_)
      · replace hf := itn hf c8
        refine jAloadn C dX8_cuts_32 rfl 1 rfl ?_
        refine gf_RX8_16 C dX8_cuts_33 ?_
        refine jAloadn C dX8_cuts_36 rfl 0 rfl ?_
        obtain ⟨cP_9, cLo_10, cHi_11, e12, hf⟩ := bd3_some hf
        refine jVV C (X0_become_ok (by decide) (X8_familyAt_lt q2) e12) vb_X0_become mk_RX8_152 rfl (rcF (by decide)) ⟨Nat.le_of_ble_eq_true rfl, Nat.le_of_ble_eq_true rfl⟩ rfl (Nat.le_of_ble_eq_true rfl) dX8_cuts_37 ?_
        refine jAloadn C dX8_cuts_40 rfl 1 rfl ?_
        refine gf_RX8_16 C dX8_cuts_41 ?_
        refine jIloadn C dX8_cuts_44 rfl 3 rfl ?_
        obtain ⟨cLo_13, cHi_14, e15, hf⟩ := bd2_some hf
        refine jVV C (X0_remove_ok (by decide) e15) vb_X0_remove mk_RX8_292 rfl (rcF (by decide)) ⟨Nat.le_of_ble_eq_true rfl, Nat.le_of_ble_eq_true rfl⟩ rfl (Nat.le_of_ble_eq_true rfl) dX8_cuts_45 ?_
        refine jAloadn C dX8_cuts_48 rfl 1 rfl ?_
        refine jIloadn C dX8_cuts_49 rfl 2 rfl ?_
        refine jAloadn C dX8_cuts_50 rfl 1 rfl ?_
        refine gf_RX8_16 C dX8_cuts_51 ?_
        obtain ⟨q16, cP_17, cLo_18, cHi_19, cso_20, cha_21, chs_22, e23, hf⟩ := bd7_some hf
        refine jVI C (X8_comesInto_ok (by decide) e23) vb_X8_comesInto mk_RX8_84 rfl rc28 ⟨Nat.le_of_ble_eq_true rfl, Nat.le_of_ble_eq_true rfl⟩ rfl (Nat.le_of_ble_eq_true rfl) dX8_cuts_54 ?_
        cases hf
        exact jEndI C hQ rfl dX8_cuts_57
      · replace hf := itp hf c8
        refine jBipush C (-6 : Int32) dX8_cuts_29 kb_m6 ?_
        cases hf
        exact jEndI C hQ rfl dX8_cuts_31
    · replace hf := itp hf c5
      refine jBipush C (-2 : Int32) dX8_cuts_18 kb_m2 ?_
      cases hf
      exact jEndI C hQ rfl dX8_cuts_20
noncomputable def X8_drops (cP : Nat → Int32) (cLo : Nat → Int64) (cHi : Nat → Int64) (cso : Nat → Int32) (cha : Int32) (chs : Int32) (p1 : Int32) : Option (Int32 × (Nat → Int32) × (Nat → Int64) × (Nat → Int64) × (Nat → Int32) × Int32 × Int32) := bd1 (X8_isSlot p1) (fun q1 => (if q1 = (0 : Int32) then some ((-2 : Int32), cP, cLo, cHi, cso, cha, chs) else bdo (X8_familyAt cP p1) (some ((0 : Int32), cP, cLo, cHi, cso, cha, chs)) (fun f4 => bd3 (X0_clear cP cLo cHi 3 (0 : Int32)) (fun cP_6 cLo_7 cHi_8 => bd7 (X8_comesInto cP_6 cLo_7 cHi_8 cso cha chs p1 3) (fun q10 cP_11 cLo_12 cHi_13 cso_14 cha_15 chs_16 => some ((1 : Int32), cP_11, cLo_12, cHi_13, cso_14, cha_15, chs_16))))))
set_option maxHeartbeats 4000000 in
set_option maxRecDepth 20000 in
theorem X8_drops_ok {p1 : Int32} {rr : Int32} {ocP : Nat → Int32} {ocLo : Nat → Int64} {ocHi : Nat → Int64} {ocso : Nat → Int32} {ocha : Int32} {ochs : Int32}  (hf : X8_drops cP cLo cHi cso cha chs p1 = some (rr, ocP, ocLo, ocHi, ocso, ocha, ochs)) : MT yX8_drops cX8_drops 2 (some .int) 3 [.ref (g 28), .int p1] D cy G (cw g cy cP cLo cHi cpl ctb ctl ctf ctp ctk cts cth cob col cso cha chs cbe ctr cgl cgh cll clh cta cme cps cwh cal cah) (cw g cy ocP ocLo ocHi cpl ctb ctl ctf ctp ctk cts cth cob col ocso ocha ochs cbe ctr cgl cgh cll clh cta cme cps cwh cal cah) (some (.int rr)) := by
  refine MT.go (own := RX8) [(0, .ref (g 28)), (1, .int p1)] (by decide) rfl (Nat.le_of_ble_eq_true rfl) rfl (fun p l e s m args below meth c A Q C hQ => ?_)
  unfold X8_drops at hf
  refine jIloadn C dX8_drops_0 rfl 1 rfl ?_
  obtain ⟨q1, e2, hf⟩ := bd1_some hf
  refine jSI C (X8_isSlot_ok  e2) sb_X8_isSlot mk_RX8_77 rfl ⟨Nat.le_of_ble_eq_true rfl, Nat.le_of_ble_eq_true rfl⟩ rfl (Nat.le_of_ble_eq_true rfl) dX8_drops_1 ?_
  refine jIfNe C 10 dX8_drops_4 (by decide) (fun c3 => ?_) (fun c3 => ?_)
  · replace hf := itn hf c3
    refine jAloadn C dX8_drops_10 rfl 0 rfl ?_
    refine jIloadn C dX8_drops_11 rfl 1 rfl ?_
    rcases bdo_some hf with ⟨q5, hf⟩ | ⟨f4, q5, hf⟩
    · refine jVN C (X8_familyAt_ok  q5) vb_X8_familyAt mk_RX8_102 rfl rc28 ⟨Nat.le_of_ble_eq_true rfl, Nat.le_of_ble_eq_true rfl⟩ rfl (Nat.le_of_ble_eq_true rfl) dX8_drops_12 ?_
      refine jIfnonnullN C dX8_drops_15 ?_
      refine jIconst C (0 : Int32) dX8_drops_18 ki_0 ?_
      cases hf
      exact jEndI C hQ rfl dX8_drops_19
    · refine jVA C (X8_familyAt_ok  q5) vb_X8_familyAt mk_RX8_102 rfl rc28 ⟨Nat.le_of_ble_eq_true rfl, Nat.le_of_ble_eq_true rfl⟩ rfl (Nat.le_of_ble_eq_true rfl) dX8_drops_12 ?_
      refine jIfnonnull C 20 dX8_drops_15 (by decide) ?_
      refine jAloadn C dX8_drops_20 rfl 0 rfl ?_
      refine gf_RX8_16 C dX8_drops_21 ?_
      refine jIconst C (0 : Int32) dX8_drops_24 ki_0 ?_
      obtain ⟨cP_6, cLo_7, cHi_8, e9, hf⟩ := bd3_some hf
      refine jVV C (X0_clear_ok (by decide) e9) vb_X0_clear mk_RX8_146 rfl (rcF (by decide)) ⟨Nat.le_of_ble_eq_true rfl, Nat.le_of_ble_eq_true rfl⟩ rfl (Nat.le_of_ble_eq_true rfl) dX8_drops_25 ?_
      refine jAloadn C dX8_drops_28 rfl 0 rfl ?_
      refine jIloadn C dX8_drops_29 rfl 1 rfl ?_
      refine jAloadn C dX8_drops_30 rfl 0 rfl ?_
      refine gf_RX8_16 C dX8_drops_31 ?_
      obtain ⟨q10, cP_11, cLo_12, cHi_13, cso_14, cha_15, chs_16, e17, hf⟩ := bd7_some hf
      refine jVI C (X8_comesInto_ok (by decide) e17) vb_X8_comesInto mk_RX8_84 rfl rc28 ⟨Nat.le_of_ble_eq_true rfl, Nat.le_of_ble_eq_true rfl⟩ rfl (Nat.le_of_ble_eq_true rfl) dX8_drops_34 ?_
      refine jPop C dX8_drops_37 rfl ?_
      refine jIconst C (1 : Int32) dX8_drops_38 ki_1 ?_
      cases hf
      exact jEndI C hQ rfl dX8_drops_39
  · replace hf := itp hf c3
    refine jBipush C (-2 : Int32) dX8_drops_7 kb_m2 ?_
    cases hf
    exact jEndI C hQ rfl dX8_drops_9
noncomputable def X8_undo (cP : Nat → Int32) (cLo : Nat → Int64) (cHi : Nat → Int64) (cso : Nat → Int32) (cha : Int32) (chs : Int32) : Option (Int32 × (Nat → Int32) × (Nat → Int64) × (Nat → Int64) × Int32 × Int32) := (if chs = (0 : Int32) then some ((-1 : Int32), cP, cLo, cHi, cha, chs) else bd1 (X1_latestSlot cso cha) (fun q2 => bd1 (X8_isSlot q2) (fun q4 => (if q4 = (0 : Int32) then some (chs, cP, cLo, cHi, cha, chs) else gin q2 3 (bd5 (X1_restore cP cLo cHi cha chs (q2.toNatClampNeg)) (fun cP_8 cLo_9 cHi_10 cha_11 chs_12 => some (chs_12, cP_8, cLo_9, cHi_10, cha_11, chs_12)))))))
set_option maxHeartbeats 4000000 in
set_option maxRecDepth 20000 in
theorem X8_undo_ok  {rr : Int32} {ocP : Nat → Int32} {ocLo : Nat → Int64} {ocHi : Nat → Int64} {ocha : Int32} {ochs : Int32}  (hf : X8_undo cP cLo cHi cso cha chs = some (rr, ocP, ocLo, ocHi, ocha, ochs)) : MT yX8_undo cX8_undo 2 (some .int) 2 [.ref (g 28)] D cy G (cw g cy cP cLo cHi cpl ctb ctl ctf ctp ctk cts cth cob col cso cha chs cbe ctr cgl cgh cll clh cta cme cps cwh cal cah) (cw g cy ocP ocLo ocHi cpl ctb ctl ctf ctp ctk cts cth cob col cso ocha ochs cbe ctr cgl cgh cll clh cta cme cps cwh cal cah) (some (.int rr)) := by
  refine MT.go (own := RX8) [(0, .ref (g 28))] (by decide) rfl (Nat.le_of_ble_eq_true rfl) rfl (fun p l e s m args below meth c A Q C hQ => ?_)
  unfold X8_undo at hf
  refine jAloadn C dX8_undo_0 rfl 0 rfl ?_
  refine gf_RX8_47 C dX8_undo_1 ?_
  refine gf_RX8_98 C dX8_undo_4 ?_
  refine jIfNe C 12 dX8_undo_7 (by decide) (fun c1 => ?_) (fun c1 => ?_)
  · replace hf := itn hf c1
    refine jAloadn C dX8_undo_12 rfl 0 rfl ?_
    refine gf_RX8_47 C dX8_undo_13 ?_
    obtain ⟨q2, e3, hf⟩ := bd1_some hf
    refine jVI C (X1_latestSlot_ok  e3) vb_X1_latestSlot mk_RX8_295 rfl rc35 ⟨Nat.le_of_ble_eq_true rfl, Nat.le_of_ble_eq_true rfl⟩ rfl (Nat.le_of_ble_eq_true rfl) dX8_undo_16 ?_
    refine jIstoren C dX8_undo_19 rfl (Nat.le_of_ble_eq_true rfl) [(1, .int q2), (0, .ref (g 28))] rfl ?_
    refine jIloadn C dX8_undo_20 rfl 0 rfl ?_
    obtain ⟨q4, e5, hf⟩ := bd1_some hf
    refine jSI C (X8_isSlot_ok  e5) sb_X8_isSlot mk_RX8_77 rfl ⟨Nat.le_of_ble_eq_true rfl, Nat.le_of_ble_eq_true rfl⟩ rfl (Nat.le_of_ble_eq_true rfl) dX8_undo_21 ?_
    refine jIfEq C 40 dX8_undo_24 (by decide) (fun c6 => ?_) (fun c6 => ?_)
    · replace hf := itp hf c6
      refine jAloadn C dX8_undo_40 rfl 1 rfl ?_
      refine gf_RX8_47 C dX8_undo_41 ?_
      refine gf_RX8_98 C dX8_undo_44 ?_
      cases hf
      exact jEndI C hQ rfl dX8_undo_47
    · replace hf := itn hf c6
      refine jAloadn C dX8_undo_27 rfl 1 rfl ?_
      refine gf_RX8_47 C dX8_undo_28 ?_
      refine jAloadn C dX8_undo_31 rfl 1 rfl ?_
      refine gf_RX8_11 C dX8_undo_32 ?_
      refine jIloadn C dX8_undo_35 rfl 0 rfl ?_
      obtain ⟨z7, hf⟩ := gin_some hf
      refine rl_29 C z7 dX8_undo_36 ?_
      obtain ⟨cP_8, cLo_9, cHi_10, cha_11, chs_12, e13, hf⟩ := bd5_some hf
      refine jVV C (X1_restore_ok (ix3 z7) e13) vb_X1_restore mk_RX8_298 rfl rc35 ⟨Nat.le_of_ble_eq_true rfl, Nat.le_of_ble_eq_true rfl⟩ rfl (Nat.le_of_ble_eq_true rfl) dX8_undo_37 ?_
      refine jAloadn C dX8_undo_40 rfl 1 rfl ?_
      refine gf_RX8_47 C dX8_undo_41 ?_
      refine gf_RX8_98 C dX8_undo_44 ?_
      cases hf
      exact jEndI C hQ rfl dX8_undo_47
  · replace hf := itp hf c1
    refine jIconst C (-1 : Int32) dX8_undo_10 ki_m1 ?_
    cases hf
    exact jEndI C hQ rfl dX8_undo_11
noncomputable def X8_tell (cP : Nat → Int32) (cLo : Nat → Int64) (cHi : Nat → Int64) (cob : Nat → Int32) (col : Int32) (p1 : Int32) : Option (Int32 × (Nat → Int32) × Int32) := bdo (X8_familyAt cP p1) (some ((-2 : Int32), cob, col)) (fun f1 => bd2 (X7_write cP cLo cHi cob f1) (fun cob_3 col_4 => some (col_4, cob_3, col_4)))
set_option maxHeartbeats 4000000 in
set_option maxRecDepth 20000 in
theorem X8_tell_ok {p1 : Int32} {rr : Int32} {ocob : Nat → Int32} {ocol : Int32}  (hf : X8_tell cP cLo cHi cob col p1 = some (rr, ocob, ocol)) : MT yX8_tell cX8_tell 3 (some .int) 7 [.ref (g 28), .int p1] D cy G (cw g cy cP cLo cHi cpl ctb ctl ctf ctp ctk cts cth cob col cso cha chs cbe ctr cgl cgh cll clh cta cme cps cwh cal cah) (cw g cy cP cLo cHi cpl ctb ctl ctf ctp ctk cts cth ocob ocol cso cha chs cbe ctr cgl cgh cll clh cta cme cps cwh cal cah) (some (.int rr)) := by
  refine MT.go (own := RX8) [(0, .ref (g 28)), (1, .int p1)] (by decide) rfl (Nat.le_of_ble_eq_true rfl) rfl (fun p l e s m args below meth c A Q C hQ => ?_)
  unfold X8_tell at hf
  refine jAloadn C dX8_tell_0 rfl 0 rfl ?_
  refine jIloadn C dX8_tell_1 rfl 1 rfl ?_
  rcases bdo_some hf with ⟨q2, hf⟩ | ⟨f1, q2, hf⟩
  · refine jVN C (X8_familyAt_ok  q2) vb_X8_familyAt mk_RX8_102 rfl rc28 ⟨Nat.le_of_ble_eq_true rfl, Nat.le_of_ble_eq_true rfl⟩ rfl (Nat.le_of_ble_eq_true rfl) dX8_tell_2 ?_
    refine jAstorenN C dX8_tell_5 rfl (Nat.le_of_ble_eq_true rfl) [(2, .null), (0, .ref (g 28)), (1, .int p1)] rfl ?_
    refine jAloadnN C dX8_tell_6 rfl 0 rfl ?_
    refine jIfnonnullN C dX8_tell_7 ?_
    refine jBipush C (-2 : Int32) dX8_tell_10 kb_m2 ?_
    cases hf
    exact jEndI C hQ rfl dX8_tell_12
  · refine jVA C (X8_familyAt_ok  q2) vb_X8_familyAt mk_RX8_102 rfl rc28 ⟨Nat.le_of_ble_eq_true rfl, Nat.le_of_ble_eq_true rfl⟩ rfl (Nat.le_of_ble_eq_true rfl) dX8_tell_2 ?_
    refine jAstoren C dX8_tell_5 rfl (Nat.le_of_ble_eq_true rfl) [(2, .ref (g f1)), (0, .ref (g 28)), (1, .int p1)] rfl ?_
    refine jAloadn C dX8_tell_6 rfl 0 rfl ?_
    refine jIfnonnull C 13 dX8_tell_7 (by decide) ?_
    refine jAloadn C dX8_tell_13 rfl 1 rfl ?_
    refine gf_RX8_40 C dX8_tell_14 ?_
    refine jAloadn C dX8_tell_17 rfl 0 rfl ?_
    obtain ⟨cob_3, col_4, e5, hf⟩ := bd2_some hf
    refine jVV C (X7_write_ok (X8_familyAt_lt q2) e5) vb_X7_write mk_RX8_301 rfl rc33 ⟨Nat.le_of_ble_eq_true rfl, Nat.le_of_ble_eq_true rfl⟩ rfl (Nat.le_of_ble_eq_true rfl) dX8_tell_18 ?_
    refine jAloadn C dX8_tell_21 rfl 1 rfl ?_
    refine gf_RX8_40 C dX8_tell_22 ?_
    refine gf_RX8_101 C dX8_tell_25 ?_
    cases hf
    exact jEndI C hQ rfl dX8_tell_28
noncomputable def X8_octet (cob : Nat → Int32) (col : Int32) (p1 : Int32) : Option Int32 := bd1 (X7_byteAt cob col p1) (fun q1 => some q1)
set_option maxHeartbeats 4000000 in
set_option maxRecDepth 20000 in
theorem X8_octet_ok {p1 : Int32} {rr : Int32}  (hf : X8_octet cob col p1 = some rr) : MT yX8_octet cX8_octet 2 (some .int) 1 [.ref (g 28), .int p1] D cy G (cw g cy cP cLo cHi cpl ctb ctl ctf ctp ctk cts cth cob col cso cha chs cbe ctr cgl cgh cll clh cta cme cps cwh cal cah) (cw g cy cP cLo cHi cpl ctb ctl ctf ctp ctk cts cth cob col cso cha chs cbe ctr cgl cgh cll clh cta cme cps cwh cal cah) (some (.int rr)) := by
  refine MT.go (own := RX8) [(0, .ref (g 28)), (1, .int p1)] (by decide) rfl (Nat.le_of_ble_eq_true rfl) rfl (fun p l e s m args below meth c A Q C hQ => ?_)
  unfold X8_octet at hf
  refine jAloadn C dX8_octet_0 rfl 0 rfl ?_
  refine gf_RX8_40 C dX8_octet_1 ?_
  refine jIloadn C dX8_octet_4 rfl 1 rfl ?_
  obtain ⟨q1, e2, hf⟩ := bd1_some hf
  refine jVI C (X7_byteAt_ok  e2) vb_X7_byteAt mk_RX8_304 rfl rc33 ⟨Nat.le_of_ble_eq_true rfl, Nat.le_of_ble_eq_true rfl⟩ rfl (Nat.le_of_ble_eq_true rfl) dX8_octet_5 ?_
  cases hf
  exact jEndI C hQ rfl dX8_octet_8
noncomputable def X8_common_h43 (cP : Nat → Int32) (f1 : Nat) (cLo : Nat → Int64) (cHi : Nat → Int64) (p2 : Int32) (p3 : Int32) (r11 : Int32 → Int32 → Option Int32) (x5_8 : Int32) (x6_9 : Int32) : Option Int32 := bd1 (X0_span cP f1) (fun q12 => (if q12 ≤ x6_9 then some x5_8 else bd1 (X0_holds cLo cHi f1 x6_9) (fun q15 => (if q15 = (0 : Int32) then r11 x5_8 (x6_9 + (1 : Int32)) else bd1 (J6_bitCount_0f7a4 (x6_9 &&& p2)) (fun q18 => (if q18 = p3 then r11 (x5_8 + (1 : Int32)) (x6_9 + (1 : Int32)) else r11 x5_8 (x6_9 + (1 : Int32))))))))
noncomputable def X8_common (cP : Nat → Int32) (cLo : Nat → Int64) (cHi : Nat → Int64) (p1 : Int32) (p2 : Int32) (p3 : Int32) : Option Int32 := bdo (X8_familyAt cP p1) (some (-2 : Int32)) (fun f1 => bd1 (X0_knows cP f1 p2) (fun q3 => (if q3 = (0 : Int32) then some (-2 : Int32) else (if p3 < (0 : Int32) then some (-2 : Int32) else (if p3 ≤ (cP f1) then lfp2 (X8_common_h43 cP f1 cLo cHi p2 p3) (0 : Int32) (0 : Int32) else some (-2 : Int32))))))
set_option maxHeartbeats 4000000 in
set_option maxRecDepth 20000 in
theorem X8_common_ok {p1 : Int32} {p2 : Int32} {p3 : Int32} {rr : Int32}  (hf : X8_common cP cLo cHi p1 p2 p3 = some rr) : MT yX8_common cX8_common 7 (some .int) 2 [.ref (g 28), .int p1, .int p2, .int p3] D cy G (cw g cy cP cLo cHi cpl ctb ctl ctf ctp ctk cts cth cob col cso cha chs cbe ctr cgl cgh cll clh cta cme cps cwh cal cah) (cw g cy cP cLo cHi cpl ctb ctl ctf ctp ctk cts cth cob col cso cha chs cbe ctr cgl cgh cll clh cta cme cps cwh cal cah) (some (.int rr)) := by
  refine MT.go (own := RX8) [(0, .ref (g 28)), (1, .int p1), (2, .int p2), (3, .int p3)] (by decide) rfl (Nat.le_of_ble_eq_true rfl) rfl (fun p l e s m args below meth c A Q C hQ => ?_)
  unfold X8_common at hf
  refine jAloadn C dX8_common_0 rfl 0 rfl ?_
  refine jIloadn C dX8_common_1 rfl 1 rfl ?_
  rcases bdo_some hf with ⟨q2, hf⟩ | ⟨f1, q2, hf⟩
  · refine jVN C (X8_familyAt_ok  q2) vb_X8_familyAt mk_RX8_102 rfl rc28 ⟨Nat.le_of_ble_eq_true rfl, Nat.le_of_ble_eq_true rfl⟩ rfl (Nat.le_of_ble_eq_true rfl) dX8_common_2 ?_
    refine jAstoreN C dX8_common_5 (Nat.le_of_ble_eq_true rfl) [(4, .null), (0, .ref (g 28)), (1, .int p1), (2, .int p2), (3, .int p3)] rfl ?_
    refine jAloadN C dX8_common_7 0 rfl ?_
    refine jIfnullN C 34 dX8_common_9 (by decide) ?_
    refine jBipush C (-2 : Int32) dX8_common_34 kb_m2 ?_
    cases hf
    exact jEndI C hQ rfl dX8_common_36
  · refine jVA C (X8_familyAt_ok  q2) vb_X8_familyAt mk_RX8_102 rfl rc28 ⟨Nat.le_of_ble_eq_true rfl, Nat.le_of_ble_eq_true rfl⟩ rfl (Nat.le_of_ble_eq_true rfl) dX8_common_2 ?_
    refine jAstore C dX8_common_5 (Nat.le_of_ble_eq_true rfl) [(4, .ref (g f1)), (0, .ref (g 28)), (1, .int p1), (2, .int p2), (3, .int p3)] rfl ?_
    refine jAload C dX8_common_7 0 rfl ?_
    refine jIfnull C dX8_common_9 ?_
    refine jAload C dX8_common_12 0 rfl ?_
    refine jIloadn C dX8_common_14 rfl 3 rfl ?_
    obtain ⟨q3, e4, hf⟩ := bd1_some hf
    refine jVI C (X0_knows_ok (X8_familyAt_lt q2) e4) vb_X0_knows mk_RX8_117 rfl (rcF (X8_familyAt_lt q2)) ⟨Nat.le_of_ble_eq_true rfl, Nat.le_of_ble_eq_true rfl⟩ rfl (Nat.le_of_ble_eq_true rfl) dX8_common_15 ?_
    refine jIfEq C 34 dX8_common_18 (by decide) (fun c5 => ?_) (fun c5 => ?_)
    · replace hf := itp hf c5
      refine jBipush C (-2 : Int32) dX8_common_34 kb_m2 ?_
      cases hf
      exact jEndI C hQ rfl dX8_common_36
    · replace hf := itn hf c5
      refine jIloadn C dX8_common_21 rfl 4 rfl ?_
      refine jIfLt C 34 dX8_common_22 (by decide) (fun c6 => ?_) (fun c6 => ?_)
      · replace hf := itp hf c6
        refine jBipush C (-2 : Int32) dX8_common_34 kb_m2 ?_
        cases hf
        exact jEndI C hQ rfl dX8_common_36
      · replace hf := itn hf c6
        refine jIloadn C dX8_common_25 rfl 4 rfl ?_
        refine jAload C dX8_common_26 0 rfl ?_
        refine gf_RX8_133 C (X8_familyAt_lt q2) dX8_common_28 ?_
        refine jCmpLe C 37 dX8_common_31 (by decide) (fun c7 => ?_) (fun c7 => ?_)
        · replace hf := itp hf c7
          refine jIconst C (0 : Int32) dX8_common_37 ki_0 ?_
          refine jIstore C dX8_common_38 (Nat.le_of_ble_eq_true rfl) [(5, .int (0 : Int32)), (4, .ref (g f1)), (0, .ref (g 28)), (1, .int p1), (2, .int p2), (3, .int p3)] rfl ?_
          refine jIconst C (0 : Int32) dX8_common_40 ki_0 ?_
          refine jIstore C dX8_common_41 (Nat.le_of_ble_eq_true rfl) [(6, .int (0 : Int32)), (5, .int (0 : Int32)), (4, .ref (g f1)), (0, .ref (g 28)), (1, .int p1), (2, .int p2), (3, .int p3)] rfl ?_
          have hL10 : ∀ (x5_8 : Int32) (x6_9 : Int32), lfp2 (X8_common_h43 cP f1 cLo cHi p2 p3) x5_8 x6_9 = some rr → J p l e (rmk 2) s m args below meth c D A Q 7 (cw g cy cP cLo cHi cpl ctb ctl ctf ctp ctk cts cth cob col cso cha chs cbe ctr cgl cgh cll clh cta cme cps cwh cal cah) 43 [(2, .int p2), (3, .int p3), (4, .ref (g f1)), (5, .int x5_8), (6, .int x6_9)] [] := by
            intro x5_8 x6_9 hw
            refine lfp2_walk (P := fun x5_8 x6_9 => J p l e (rmk 2) s m args below meth c D A Q 7 (cw g cy cP cLo cHi cpl ctb ctl ctf ctp ctk cts cth cob col cso cha chs cbe ctr cgl cgh cll clh cta cme cps cwh cal cah) 43 [(2, .int p2), (3, .int p3), (4, .ref (g f1)), (5, .int x5_8), (6, .int x6_9)] []) ?_ hw
            intro r11 ir11 x5_8 x6_9 hf
            unfold X8_common_h43 at hf
            refine jIload C dX8_common_43 4 rfl ?_
            refine jAload C dX8_common_45 2 rfl ?_
            obtain ⟨q12, e13, hf⟩ := bd1_some hf
            refine jVI C (X0_span_ok (X8_familyAt_lt q2) e13) vb_X0_span mk_RX8_270 rfl (rcF (X8_familyAt_lt q2)) ⟨Nat.le_of_ble_eq_true rfl, Nat.le_of_ble_eq_true rfl⟩ rfl (Nat.le_of_ble_eq_true rfl) dX8_common_47 ?_
            refine jCmpGe C 83 dX8_common_50 (by decide) (fun c14 => ?_) (fun c14 => ?_)
            · replace hf := itp hf c14
              refine jIload C dX8_common_83 3 rfl ?_
              cases hf
              exact jEndI C hQ rfl dX8_common_85
            · replace hf := itn hf c14
              refine jAload C dX8_common_53 2 rfl ?_
              refine jIload C dX8_common_55 4 rfl ?_
              obtain ⟨q15, e16, hf⟩ := bd1_some hf
              refine jVI C (X0_holds_ok (X8_familyAt_lt q2) e16) vb_X0_holds mk_RX8_120 rfl (rcF (X8_familyAt_lt q2)) ⟨Nat.le_of_ble_eq_true rfl, Nat.le_of_ble_eq_true rfl⟩ rfl (Nat.le_of_ble_eq_true rfl) dX8_common_57 ?_
              refine jIfEq C 77 dX8_common_60 (by decide) (fun c17 => ?_) (fun c17 => ?_)
              · replace hf := itp hf c17
                refine jIinc C (x6_9 + (1 : Int32)) dX8_common_77 4 rfl (congrArg (fun z : Int32 => x6_9 + z) ki_1) (Nat.le_of_ble_eq_true rfl) [(6, .int (x6_9 + (1 : Int32))), (2, .int p2), (3, .int p3), (4, .ref (g f1)), (5, .int x5_8)] rfl ?_
                refine jGoto C 43 dX8_common_80 (by decide) ?_
                refine jSub [1, 2, 3, 4, 0] rfl ?_
                exact ir11 x5_8 (x6_9 + (1 : Int32)) hf
              · replace hf := itn hf c17
                refine jIload C dX8_common_63 4 rfl ?_
                refine jIloadn C dX8_common_65 rfl 0 rfl ?_
                refine jIand C dX8_common_66 ?_
                obtain ⟨q18, e19, hf⟩ := bd1_some hf
                refine jSI C (J6_bitCount_0f7a4_ok  e19) sb_J6_bitCount_0f7a4 mk_RX8_190 rfl ⟨Nat.le_of_ble_eq_true rfl, Nat.le_of_ble_eq_true rfl⟩ rfl (Nat.le_of_ble_eq_true rfl) dX8_common_67 ?_
                refine jIloadn C dX8_common_70 rfl 1 rfl ?_
                refine jCmpNe C 77 dX8_common_71 (by decide) (fun c20 => ?_) (fun c20 => ?_)
                · replace hf := itn hf c20
                  refine jIinc C (x6_9 + (1 : Int32)) dX8_common_77 4 rfl (congrArg (fun z : Int32 => x6_9 + z) ki_1) (Nat.le_of_ble_eq_true rfl) [(6, .int (x6_9 + (1 : Int32))), (2, .int p2), (3, .int p3), (4, .ref (g f1)), (5, .int x5_8)] rfl ?_
                  refine jGoto C 43 dX8_common_80 (by decide) ?_
                  refine jSub [1, 2, 3, 4, 0] rfl ?_
                  exact ir11 x5_8 (x6_9 + (1 : Int32)) hf
                · replace hf := itp hf c20
                  refine jIinc C (x5_8 + (1 : Int32)) dX8_common_74 3 rfl (congrArg (fun z : Int32 => x5_8 + z) ki_1) (Nat.le_of_ble_eq_true rfl) [(5, .int (x5_8 + (1 : Int32))), (2, .int p2), (3, .int p3), (4, .ref (g f1)), (6, .int x6_9)] rfl ?_
                  refine jIinc C (x6_9 + (1 : Int32)) dX8_common_77 4 rfl (congrArg (fun z : Int32 => x6_9 + z) ki_1) (Nat.le_of_ble_eq_true rfl) [(6, .int (x6_9 + (1 : Int32))), (5, .int (x5_8 + (1 : Int32))), (2, .int p2), (3, .int p3), (4, .ref (g f1))] rfl ?_
                  refine jGoto C 43 dX8_common_80 (by decide) ?_
                  refine jSub [2, 3, 4, 1, 0] rfl ?_
                  exact ir11 (x5_8 + (1 : Int32)) (x6_9 + (1 : Int32)) hf
          refine jSub [5, 6, 2, 1, 0] rfl ?_
          exact hL10 (0 : Int32) (0 : Int32) hf
        · replace hf := itn hf c7
          refine jBipush C (-2 : Int32) dX8_common_34 kb_m2 ?_
          cases hf
          exact jEndI C hQ rfl dX8_common_36
noncomputable def X8_lacks (cP : Nat → Int32) (cLo : Nat → Int64) (cHi : Nat → Int64) (p1 : Int32) (p2 : Int32) : Option (Int32 × (Nat → Int32) × (Nat → Int64) × (Nat → Int64)) := bdo (X8_familyAt cP p1) (some ((-2 : Int32), cP, cLo, cHi)) (fun f1 => (if (0 : Int32) ≤ p2 then bd3 (X0_fill cP cLo cHi 3 (cP f1)) (fun cP_4 cLo_5 cHi_6 => bd2 (X0_lose cLo_5 cHi_6 3 f1) (fun cLo_8 cHi_9 => bd1 (X0_pick cP_4 cLo_8 cHi_9 3 p2) (fun q11 => some (q11, cP_4, cLo_8, cHi_9)))) else some ((-2 : Int32), cP, cLo, cHi)))
set_option maxHeartbeats 4000000 in
set_option maxRecDepth 20000 in
theorem X8_lacks_ok {p1 : Int32} {p2 : Int32} {rr : Int32} {ocP : Nat → Int32} {ocLo : Nat → Int64} {ocHi : Nat → Int64}  (hf : X8_lacks cP cLo cHi p1 p2 = some (rr, ocP, ocLo, ocHi)) : MT yX8_lacks cX8_lacks 4 (some .int) 2 [.ref (g 28), .int p1, .int p2] D cy G (cw g cy cP cLo cHi cpl ctb ctl ctf ctp ctk cts cth cob col cso cha chs cbe ctr cgl cgh cll clh cta cme cps cwh cal cah) (cw g cy ocP ocLo ocHi cpl ctb ctl ctf ctp ctk cts cth cob col cso cha chs cbe ctr cgl cgh cll clh cta cme cps cwh cal cah) (some (.int rr)) := by
  refine MT.go (own := RX8) [(0, .ref (g 28)), (1, .int p1), (2, .int p2)] (by decide) rfl (Nat.le_of_ble_eq_true rfl) rfl (fun p l e s m args below meth c A Q C hQ => ?_)
  unfold X8_lacks at hf
  refine jAloadn C dX8_lacks_0 rfl 0 rfl ?_
  refine jIloadn C dX8_lacks_1 rfl 1 rfl ?_
  rcases bdo_some hf with ⟨q2, hf⟩ | ⟨f1, q2, hf⟩
  · refine jVN C (X8_familyAt_ok  q2) vb_X8_familyAt mk_RX8_102 rfl rc28 ⟨Nat.le_of_ble_eq_true rfl, Nat.le_of_ble_eq_true rfl⟩ rfl (Nat.le_of_ble_eq_true rfl) dX8_lacks_2 ?_
    refine jAstorenN C dX8_lacks_5 rfl (Nat.le_of_ble_eq_true rfl) [(3, .null), (0, .ref (g 28)), (1, .int p1), (2, .int p2)] rfl ?_
    refine jAloadnN C dX8_lacks_6 rfl 0 rfl ?_
    refine jIfnullN C 14 dX8_lacks_7 (by decide) ?_
    refine jBipush C (-2 : Int32) dX8_lacks_14 kb_m2 ?_
    cases hf
    exact jEndI C hQ rfl dX8_lacks_16
  · refine jVA C (X8_familyAt_ok  q2) vb_X8_familyAt mk_RX8_102 rfl rc28 ⟨Nat.le_of_ble_eq_true rfl, Nat.le_of_ble_eq_true rfl⟩ rfl (Nat.le_of_ble_eq_true rfl) dX8_lacks_2 ?_
    refine jAstoren C dX8_lacks_5 rfl (Nat.le_of_ble_eq_true rfl) [(3, .ref (g f1)), (0, .ref (g 28)), (1, .int p1), (2, .int p2)] rfl ?_
    refine jAloadn C dX8_lacks_6 rfl 0 rfl ?_
    refine jIfnull C dX8_lacks_7 ?_
    refine jIloadn C dX8_lacks_10 rfl 3 rfl ?_
    refine jIfGe C 17 dX8_lacks_11 (by decide) (fun c3 => ?_) (fun c3 => ?_)
    · replace hf := itp hf c3
      refine jAloadn C dX8_lacks_17 rfl 1 rfl ?_
      refine gf_RX8_16 C dX8_lacks_18 ?_
      refine jAloadn C dX8_lacks_21 rfl 0 rfl ?_
      refine gf_RX8_133 C (X8_familyAt_lt q2) dX8_lacks_22 ?_
      obtain ⟨cP_4, cLo_5, cHi_6, e7, hf⟩ := bd3_some hf
      refine jVV C (X0_fill_ok (by decide) e7) vb_X0_fill mk_RX8_307 rfl (rcF (by decide)) ⟨Nat.le_of_ble_eq_true rfl, Nat.le_of_ble_eq_true rfl⟩ rfl (Nat.le_of_ble_eq_true rfl) dX8_lacks_25 ?_
      refine jAloadn C dX8_lacks_28 rfl 1 rfl ?_
      refine gf_RX8_16 C dX8_lacks_29 ?_
      refine jAloadn C dX8_lacks_32 rfl 0 rfl ?_
      obtain ⟨cLo_8, cHi_9, e10, hf⟩ := bd2_some hf
      refine jVV C (X0_lose_ok (by decide) (X8_familyAt_lt q2) e10) vb_X0_lose mk_RX8_310 rfl (rcF (by decide)) ⟨Nat.le_of_ble_eq_true rfl, Nat.le_of_ble_eq_true rfl⟩ rfl (Nat.le_of_ble_eq_true rfl) dX8_lacks_33 ?_
      refine jAloadn C dX8_lacks_36 rfl 1 rfl ?_
      refine gf_RX8_16 C dX8_lacks_37 ?_
      refine jIloadn C dX8_lacks_40 rfl 3 rfl ?_
      obtain ⟨q11, e12, hf⟩ := bd1_some hf
      refine jVI C (X0_pick_ok (by decide) e12) vb_X0_pick mk_RX8_113 rfl (rcF (by decide)) ⟨Nat.le_of_ble_eq_true rfl, Nat.le_of_ble_eq_true rfl⟩ rfl (Nat.le_of_ble_eq_true rfl) dX8_lacks_41 ?_
      cases hf
      exact jEndI C hQ rfl dX8_lacks_44
    · replace hf := itn hf c3
      refine jBipush C (-2 : Int32) dX8_lacks_14 kb_m2 ?_
      cases hf
      exact jEndI C hQ rfl dX8_lacks_16
noncomputable def X8_moved (cP : Nat → Int32) (cLo : Nat → Int64) (cHi : Nat → Int64) (p1 : Int32) : Option (Int32 × (Nat → Int32) × (Nat → Int64) × (Nat → Int64)) := bdo (X8_familyAt cP p1) (some ((-2 : Int32), cP, cLo, cHi)) (fun f1 => bd4 (X8_changingShifts cP cLo cHi f1) (fun q3 cP_4 cLo_5 cHi_6 => some (q3, cP_4, cLo_5, cHi_6)))
set_option maxHeartbeats 4000000 in
set_option maxRecDepth 20000 in
theorem X8_moved_ok {p1 : Int32} {rr : Int32} {ocP : Nat → Int32} {ocLo : Nat → Int64} {ocHi : Nat → Int64}  (hf : X8_moved cP cLo cHi p1 = some (rr, ocP, ocLo, ocHi)) : MT yX8_moved cX8_moved 3 (some .int) 4 [.ref (g 28), .int p1] D cy G (cw g cy cP cLo cHi cpl ctb ctl ctf ctp ctk cts cth cob col cso cha chs cbe ctr cgl cgh cll clh cta cme cps cwh cal cah) (cw g cy ocP ocLo ocHi cpl ctb ctl ctf ctp ctk cts cth cob col cso cha chs cbe ctr cgl cgh cll clh cta cme cps cwh cal cah) (some (.int rr)) := by
  refine MT.go (own := RX8) [(0, .ref (g 28)), (1, .int p1)] (by decide) rfl (Nat.le_of_ble_eq_true rfl) rfl (fun p l e s m args below meth c A Q C hQ => ?_)
  unfold X8_moved at hf
  refine jAloadn C dX8_moved_0 rfl 0 rfl ?_
  refine jIloadn C dX8_moved_1 rfl 1 rfl ?_
  rcases bdo_some hf with ⟨q2, hf⟩ | ⟨f1, q2, hf⟩
  · refine jVN C (X8_familyAt_ok  q2) vb_X8_familyAt mk_RX8_102 rfl rc28 ⟨Nat.le_of_ble_eq_true rfl, Nat.le_of_ble_eq_true rfl⟩ rfl (Nat.le_of_ble_eq_true rfl) dX8_moved_2 ?_
    refine jAstorenN C dX8_moved_5 rfl (Nat.le_of_ble_eq_true rfl) [(2, .null), (0, .ref (g 28)), (1, .int p1)] rfl ?_
    refine jAloadnN C dX8_moved_6 rfl 0 rfl ?_
    refine jIfnonnullN C dX8_moved_7 ?_
    refine jBipush C (-2 : Int32) dX8_moved_10 kb_m2 ?_
    cases hf
    exact jEndI C hQ rfl dX8_moved_12
  · refine jVA C (X8_familyAt_ok  q2) vb_X8_familyAt mk_RX8_102 rfl rc28 ⟨Nat.le_of_ble_eq_true rfl, Nat.le_of_ble_eq_true rfl⟩ rfl (Nat.le_of_ble_eq_true rfl) dX8_moved_2 ?_
    refine jAstoren C dX8_moved_5 rfl (Nat.le_of_ble_eq_true rfl) [(2, .ref (g f1)), (0, .ref (g 28)), (1, .int p1)] rfl ?_
    refine jAloadn C dX8_moved_6 rfl 0 rfl ?_
    refine jIfnonnull C 13 dX8_moved_7 (by decide) ?_
    refine jAloadn C dX8_moved_13 rfl 1 rfl ?_
    refine jAloadn C dX8_moved_14 rfl 0 rfl ?_
    obtain ⟨q3, cP_4, cLo_5, cHi_6, e7, hf⟩ := bd4_some hf
    refine jVI C (X8_changingShifts_ok (X8_familyAt_lt q2) e7) vb_X8_changingShifts mk_RX8_313 rfl rc28 ⟨Nat.le_of_ble_eq_true rfl, Nat.le_of_ble_eq_true rfl⟩ rfl (Nat.le_of_ble_eq_true rfl) dX8_moved_15 ?_
    cases hf
    exact jEndI C hQ rfl dX8_moved_18
noncomputable def X8_together (cP : Nat → Int32) (cLo : Nat → Int64) (cHi : Nat → Int64) (p1 : Int32) (p2 : Int32) (p3 : Int32) (p4 : Int32) : Option (Int32 × (Nat → Int32) × (Nat → Int64) × (Nat → Int64)) := bdo (X8_familyAt cP p1) (some ((-2 : Int32), cP, cLo, cHi)) (fun f1 => bd1 (X0_knowsPoint cP f1 p2) (fun q3 => (if q3 = (0 : Int32) then some ((-2 : Int32), cP, cLo, cHi) else bd1 (X0_knowsPoint cP f1 p3) (fun q6 => (if q6 = (0 : Int32) then some ((-2 : Int32), cP, cLo, cHi) else (if p4 < (0 : Int32) then some ((-2 : Int32), cP, cLo, cHi) else (if p4 ≤ (1 : Int32) then bd3 (X0_become cP cLo cHi 3 f1) (fun cP_11 cLo_12 cHi_13 => bd2 (X0_keepWith cLo_12 cHi_13 3 p2) (fun cLo_15 cHi_16 => bd2 (X0_keepWith cLo_15 cHi_16 3 p3) (fun cLo_18 cHi_19 => bd1 (X0_size cLo_18 cHi_19 3) (fun q21 => (if p4 = (0 : Int32) then some (q21, cP_11, cLo_18, cHi_19) else bd1 (X0_degreeOf cLo_18 cHi_19 f1 p2) (fun q24 => bd1 (X0_degreeOf cLo_18 cHi_19 f1 p3) (fun q26 => some (((q24 + q26) - ((2 : Int32) * q21)), cP_11, cLo_18, cHi_19)))))))) else some ((-2 : Int32), cP, cLo, cHi))))))))
set_option maxHeartbeats 4000000 in
set_option maxRecDepth 20000 in
theorem X8_together_ok {p1 : Int32} {p2 : Int32} {p3 : Int32} {p4 : Int32} {rr : Int32} {ocP : Nat → Int32} {ocLo : Nat → Int64} {ocHi : Nat → Int64}  (hf : X8_together cP cLo cHi p1 p2 p3 p4 = some (rr, ocP, ocLo, ocHi)) : MT yX8_together cX8_together 7 (some .int) 2 [.ref (g 28), .int p1, .int p2, .int p3, .int p4] D cy G (cw g cy cP cLo cHi cpl ctb ctl ctf ctp ctk cts cth cob col cso cha chs cbe ctr cgl cgh cll clh cta cme cps cwh cal cah) (cw g cy ocP ocLo ocHi cpl ctb ctl ctf ctp ctk cts cth cob col cso cha chs cbe ctr cgl cgh cll clh cta cme cps cwh cal cah) (some (.int rr)) := by
  refine MT.go (own := RX8) [(0, .ref (g 28)), (1, .int p1), (2, .int p2), (3, .int p3), (4, .int p4)] (by decide) rfl (Nat.le_of_ble_eq_true rfl) rfl (fun p l e s m args below meth c A Q C hQ => ?_)
  unfold X8_together at hf
  refine jAloadn C dX8_together_0 rfl 0 rfl ?_
  refine jIloadn C dX8_together_1 rfl 1 rfl ?_
  rcases bdo_some hf with ⟨q2, hf⟩ | ⟨f1, q2, hf⟩
  · refine jVN C (X8_familyAt_ok  q2) vb_X8_familyAt mk_RX8_102 rfl rc28 ⟨Nat.le_of_ble_eq_true rfl, Nat.le_of_ble_eq_true rfl⟩ rfl (Nat.le_of_ble_eq_true rfl) dX8_together_2 ?_
    refine jAstoreN C dX8_together_5 (Nat.le_of_ble_eq_true rfl) [(5, .null), (0, .ref (g 28)), (1, .int p1), (2, .int p2), (3, .int p3), (4, .int p4)] rfl ?_
    refine jAloadN C dX8_together_7 0 rfl ?_
    refine jIfnullN C 41 dX8_together_9 (by decide) ?_
    refine jBipush C (-2 : Int32) dX8_together_41 kb_m2 ?_
    cases hf
    exact jEndI C hQ rfl dX8_together_43
  · refine jVA C (X8_familyAt_ok  q2) vb_X8_familyAt mk_RX8_102 rfl rc28 ⟨Nat.le_of_ble_eq_true rfl, Nat.le_of_ble_eq_true rfl⟩ rfl (Nat.le_of_ble_eq_true rfl) dX8_together_2 ?_
    refine jAstore C dX8_together_5 (Nat.le_of_ble_eq_true rfl) [(5, .ref (g f1)), (0, .ref (g 28)), (1, .int p1), (2, .int p2), (3, .int p3), (4, .int p4)] rfl ?_
    refine jAload C dX8_together_7 0 rfl ?_
    refine jIfnull C dX8_together_9 ?_
    refine jAload C dX8_together_12 0 rfl ?_
    refine jIloadn C dX8_together_14 rfl 3 rfl ?_
    obtain ⟨q3, e4, hf⟩ := bd1_some hf
    refine jVI C (X0_knowsPoint_ok (X8_familyAt_lt q2) e4) vb_X0_knowsPoint mk_RX8_127 rfl (rcF (X8_familyAt_lt q2)) ⟨Nat.le_of_ble_eq_true rfl, Nat.le_of_ble_eq_true rfl⟩ rfl (Nat.le_of_ble_eq_true rfl) dX8_together_15 ?_
    refine jIfEq C 41 dX8_together_18 (by decide) (fun c5 => ?_) (fun c5 => ?_)
    · replace hf := itp hf c5
      refine jBipush C (-2 : Int32) dX8_together_41 kb_m2 ?_
      cases hf
      exact jEndI C hQ rfl dX8_together_43
    · replace hf := itn hf c5
      refine jAload C dX8_together_21 0 rfl ?_
      refine jIloadn C dX8_together_23 rfl 4 rfl ?_
      obtain ⟨q6, e7, hf⟩ := bd1_some hf
      refine jVI C (X0_knowsPoint_ok (X8_familyAt_lt q2) e7) vb_X0_knowsPoint mk_RX8_127 rfl (rcF (X8_familyAt_lt q2)) ⟨Nat.le_of_ble_eq_true rfl, Nat.le_of_ble_eq_true rfl⟩ rfl (Nat.le_of_ble_eq_true rfl) dX8_together_24 ?_
      refine jIfEq C 41 dX8_together_27 (by decide) (fun c8 => ?_) (fun c8 => ?_)
      · replace hf := itp hf c8
        refine jBipush C (-2 : Int32) dX8_together_41 kb_m2 ?_
        cases hf
        exact jEndI C hQ rfl dX8_together_43
      · replace hf := itn hf c8
        refine jIload C dX8_together_30 5 rfl ?_
        refine jIfLt C 41 dX8_together_32 (by decide) (fun c9 => ?_) (fun c9 => ?_)
        · replace hf := itp hf c9
          refine jBipush C (-2 : Int32) dX8_together_41 kb_m2 ?_
          cases hf
          exact jEndI C hQ rfl dX8_together_43
        · replace hf := itn hf c9
          refine jIload C dX8_together_35 5 rfl ?_
          refine jIconst C (1 : Int32) dX8_together_37 ki_1 ?_
          refine jCmpLe C 44 dX8_together_38 (by decide) (fun c10 => ?_) (fun c10 => ?_)
          · replace hf := itp hf c10
            refine jAloadn C dX8_together_44 rfl 1 rfl ?_
            refine gf_RX8_16 C dX8_together_45 ?_
            refine jAload C dX8_together_48 0 rfl ?_
            obtain ⟨cP_11, cLo_12, cHi_13, e14, hf⟩ := bd3_some hf
            refine jVV C (X0_become_ok (by decide) (X8_familyAt_lt q2) e14) vb_X0_become mk_RX8_152 rfl (rcF (by decide)) ⟨Nat.le_of_ble_eq_true rfl, Nat.le_of_ble_eq_true rfl⟩ rfl (Nat.le_of_ble_eq_true rfl) dX8_together_50 ?_
            refine jAloadn C dX8_together_53 rfl 1 rfl ?_
            refine gf_RX8_16 C dX8_together_54 ?_
            refine jIloadn C dX8_together_57 rfl 3 rfl ?_
            obtain ⟨cLo_15, cHi_16, e17, hf⟩ := bd2_some hf
            refine jVV C (X0_keepWith_ok (by decide) e17) vb_X0_keepWith mk_RX8_316 rfl (rcF (by decide)) ⟨Nat.le_of_ble_eq_true rfl, Nat.le_of_ble_eq_true rfl⟩ rfl (Nat.le_of_ble_eq_true rfl) dX8_together_58 ?_
            refine jAloadn C dX8_together_61 rfl 1 rfl ?_
            refine gf_RX8_16 C dX8_together_62 ?_
            refine jIloadn C dX8_together_65 rfl 4 rfl ?_
            obtain ⟨cLo_18, cHi_19, e20, hf⟩ := bd2_some hf
            refine jVV C (X0_keepWith_ok (by decide) e20) vb_X0_keepWith mk_RX8_316 rfl (rcF (by decide)) ⟨Nat.le_of_ble_eq_true rfl, Nat.le_of_ble_eq_true rfl⟩ rfl (Nat.le_of_ble_eq_true rfl) dX8_together_66 ?_
            refine jAloadn C dX8_together_69 rfl 1 rfl ?_
            refine gf_RX8_16 C dX8_together_70 ?_
            obtain ⟨q21, e22, hf⟩ := bd1_some hf
            refine jVI C (X0_size_ok (by decide) e22) vb_X0_size mk_RX8_236 rfl (rcF (by decide)) ⟨Nat.le_of_ble_eq_true rfl, Nat.le_of_ble_eq_true rfl⟩ rfl (Nat.le_of_ble_eq_true rfl) dX8_together_73 ?_
            refine jIstore C dX8_together_76 (Nat.le_of_ble_eq_true rfl) [(6, .int q21), (5, .ref (g f1)), (0, .ref (g 28)), (1, .int p1), (2, .int p2), (3, .int p3), (4, .int p4)] rfl ?_
            refine jIload C dX8_together_78 6 rfl ?_
            refine jIfNe C 88 dX8_together_80 (by decide) (fun c23 => ?_) (fun c23 => ?_)
            · replace hf := itn hf c23
              refine jAload C dX8_together_88 1 rfl ?_
              refine jIloadn C dX8_together_90 rfl 4 rfl ?_
              obtain ⟨q24, e25, hf⟩ := bd1_some hf
              refine jVI C (X0_degreeOf_ok (X8_familyAt_lt q2) e25) vb_X0_degreeOf mk_RX8_130 rfl (rcF (X8_familyAt_lt q2)) ⟨Nat.le_of_ble_eq_true rfl, Nat.le_of_ble_eq_true rfl⟩ rfl (Nat.le_of_ble_eq_true rfl) dX8_together_91 ?_
              refine jAload C dX8_together_94 1 rfl ?_
              refine jIloadn C dX8_together_96 rfl 5 rfl ?_
              obtain ⟨q26, e27, hf⟩ := bd1_some hf
              refine jVI C (X0_degreeOf_ok (X8_familyAt_lt q2) e27) vb_X0_degreeOf mk_RX8_130 rfl (rcF (X8_familyAt_lt q2)) ⟨Nat.le_of_ble_eq_true rfl, Nat.le_of_ble_eq_true rfl⟩ rfl (Nat.le_of_ble_eq_true rfl) dX8_together_97 ?_
              refine jIadd C dX8_together_100 ?_
              refine jIconst C (2 : Int32) dX8_together_101 ki_2 ?_
              refine jIload C dX8_together_102 0 rfl ?_
              refine jImul C dX8_together_104 ?_
              refine jIsub C dX8_together_105 ?_
              cases hf
              exact jEndI C hQ rfl dX8_together_106
            · replace hf := itp hf c23
              refine jIload C dX8_together_83 0 rfl ?_
              refine jGoto C 106 dX8_together_85 (by decide) ?_
              cases hf
              exact jEndI C hQ rfl dX8_together_106
          · replace hf := itn hf c10
            refine jBipush C (-2 : Int32) dX8_together_41 kb_m2 ?_
            cases hf
            exact jEndI C hQ rfl dX8_together_43
noncomputable def X8_half_h18 (cP : Nat → Int32) (f1 : Nat) (cLo : Nat → Int64) (cHi : Nat → Int64) (r6 : Int32 → Int32 → Option Int32) (x3_3 : Int32) (x4_4 : Int32) : Option Int32 := (if (cP f1) ≤ x4_4 then some x3_3 else bd1 (X0_degreeOf cLo cHi f1 x4_4) (fun q8 => bd1 (X0_size cLo cHi f1) (fun q10 => (if ((2 : Int32) * q8) < q10 then r6 x3_3 (x4_4 + (1 : Int32)) else r6 (x3_3 ||| ((1 : Int32) <<< (x4_4 &&& 31))) (x4_4 + (1 : Int32))))))
noncomputable def X8_half (cP : Nat → Int32) (cLo : Nat → Int64) (cHi : Nat → Int64) (p1 : Int32) : Option Int32 := bdo (X8_familyAt cP p1) (some (-2 : Int32)) (fun f1 => lfp2 (X8_half_h18 cP f1 cLo cHi) (0 : Int32) (0 : Int32))
set_option maxHeartbeats 4000000 in
set_option maxRecDepth 20000 in
theorem X8_half_ok {p1 : Int32} {rr : Int32}  (hf : X8_half cP cLo cHi p1 = some rr) : MT yX8_half cX8_half 5 (some .int) 2 [.ref (g 28), .int p1] D cy G (cw g cy cP cLo cHi cpl ctb ctl ctf ctp ctk cts cth cob col cso cha chs cbe ctr cgl cgh cll clh cta cme cps cwh cal cah) (cw g cy cP cLo cHi cpl ctb ctl ctf ctp ctk cts cth cob col cso cha chs cbe ctr cgl cgh cll clh cta cme cps cwh cal cah) (some (.int rr)) := by
  refine MT.go (own := RX8) [(0, .ref (g 28)), (1, .int p1)] (by decide) rfl (Nat.le_of_ble_eq_true rfl) rfl (fun p l e s m args below meth c A Q C hQ => ?_)
  unfold X8_half at hf
  refine jAloadn C dX8_half_0 rfl 0 rfl ?_
  refine jIloadn C dX8_half_1 rfl 1 rfl ?_
  rcases bdo_some hf with ⟨q2, hf⟩ | ⟨f1, q2, hf⟩
  · refine jVN C (X8_familyAt_ok  q2) vb_X8_familyAt mk_RX8_102 rfl rc28 ⟨Nat.le_of_ble_eq_true rfl, Nat.le_of_ble_eq_true rfl⟩ rfl (Nat.le_of_ble_eq_true rfl) dX8_half_2 ?_
    refine jAstorenN C dX8_half_5 rfl (Nat.le_of_ble_eq_true rfl) [(2, .null), (0, .ref (g 28)), (1, .int p1)] rfl ?_
    refine jAloadnN C dX8_half_6 rfl 0 rfl ?_
    refine jIfnonnullN C dX8_half_7 ?_
    refine jBipush C (-2 : Int32) dX8_half_10 kb_m2 ?_
    cases hf
    exact jEndI C hQ rfl dX8_half_12
  · refine jVA C (X8_familyAt_ok  q2) vb_X8_familyAt mk_RX8_102 rfl rc28 ⟨Nat.le_of_ble_eq_true rfl, Nat.le_of_ble_eq_true rfl⟩ rfl (Nat.le_of_ble_eq_true rfl) dX8_half_2 ?_
    refine jAstoren C dX8_half_5 rfl (Nat.le_of_ble_eq_true rfl) [(2, .ref (g f1)), (0, .ref (g 28)), (1, .int p1)] rfl ?_
    refine jAloadn C dX8_half_6 rfl 0 rfl ?_
    refine jIfnonnull C 13 dX8_half_7 (by decide) ?_
    refine jIconst C (0 : Int32) dX8_half_13 ki_0 ?_
    refine jIstoren C dX8_half_14 rfl (Nat.le_of_ble_eq_true rfl) [(3, .int (0 : Int32)), (2, .ref (g f1)), (0, .ref (g 28)), (1, .int p1)] rfl ?_
    refine jIconst C (0 : Int32) dX8_half_15 ki_0 ?_
    refine jIstore C dX8_half_16 (Nat.le_of_ble_eq_true rfl) [(4, .int (0 : Int32)), (3, .int (0 : Int32)), (2, .ref (g f1)), (0, .ref (g 28)), (1, .int p1)] rfl ?_
    have hL5 : ∀ (x3_3 : Int32) (x4_4 : Int32), lfp2 (X8_half_h18 cP f1 cLo cHi) x3_3 x4_4 = some rr → J p l e (rmk 2) s m args below meth c D A Q 5 (cw g cy cP cLo cHi cpl ctb ctl ctf ctp ctk cts cth cob col cso cha chs cbe ctr cgl cgh cll clh cta cme cps cwh cal cah) 18 [(2, .ref (g f1)), (3, .int x3_3), (4, .int x4_4)] [] := by
      intro x3_3 x4_4 hw
      refine lfp2_walk (P := fun x3_3 x4_4 => J p l e (rmk 2) s m args below meth c D A Q 5 (cw g cy cP cLo cHi cpl ctb ctl ctf ctp ctk cts cth cob col cso cha chs cbe ctr cgl cgh cll clh cta cme cps cwh cal cah) 18 [(2, .ref (g f1)), (3, .int x3_3), (4, .int x4_4)] []) ?_ hw
      intro r6 ir6 x3_3 x4_4 hf
      unfold X8_half_h18 at hf
      refine jIload C dX8_half_18 2 rfl ?_
      refine jAloadn C dX8_half_20 rfl 0 rfl ?_
      refine gf_RX8_133 C (X8_familyAt_lt q2) dX8_half_21 ?_
      refine jCmpGe C 55 dX8_half_24 (by decide) (fun c7 => ?_) (fun c7 => ?_)
      · replace hf := itp hf c7
        refine jIloadn C dX8_half_55 rfl 1 rfl ?_
        cases hf
        exact jEndI C hQ rfl dX8_half_56
      · replace hf := itn hf c7
        refine jIconst C (2 : Int32) dX8_half_27 ki_2 ?_
        refine jAloadn C dX8_half_28 rfl 0 rfl ?_
        refine jIload C dX8_half_29 2 rfl ?_
        obtain ⟨q8, e9, hf⟩ := bd1_some hf
        refine jVI C (X0_degreeOf_ok (X8_familyAt_lt q2) e9) vb_X0_degreeOf mk_RX8_130 rfl (rcF (X8_familyAt_lt q2)) ⟨Nat.le_of_ble_eq_true rfl, Nat.le_of_ble_eq_true rfl⟩ rfl (Nat.le_of_ble_eq_true rfl) dX8_half_31 ?_
        refine jImul C dX8_half_34 ?_
        refine jAloadn C dX8_half_35 rfl 0 rfl ?_
        obtain ⟨q10, e11, hf⟩ := bd1_some hf
        refine jVI C (X0_size_ok (X8_familyAt_lt q2) e11) vb_X0_size mk_RX8_236 rfl (rcF (X8_familyAt_lt q2)) ⟨Nat.le_of_ble_eq_true rfl, Nat.le_of_ble_eq_true rfl⟩ rfl (Nat.le_of_ble_eq_true rfl) dX8_half_36 ?_
        refine jCmpLt C 49 dX8_half_39 (by decide) (fun c12 => ?_) (fun c12 => ?_)
        · replace hf := itp hf c12
          refine jIinc C (x4_4 + (1 : Int32)) dX8_half_49 2 rfl (congrArg (fun z : Int32 => x4_4 + z) ki_1) (Nat.le_of_ble_eq_true rfl) [(4, .int (x4_4 + (1 : Int32))), (2, .ref (g f1)), (3, .int x3_3)] rfl ?_
          refine jGoto C 18 dX8_half_52 (by decide) ?_
          refine jSub [1, 2, 0] rfl ?_
          exact ir6 x3_3 (x4_4 + (1 : Int32)) hf
        · replace hf := itn hf c12
          refine jIloadn C dX8_half_42 rfl 1 rfl ?_
          refine jIconst C (1 : Int32) dX8_half_43 ki_1 ?_
          refine jIload C dX8_half_44 2 rfl ?_
          refine jIshl C dX8_half_46 ?_
          refine jIor C dX8_half_47 ?_
          refine jIstoren C dX8_half_48 rfl (Nat.le_of_ble_eq_true rfl) [(3, .int (x3_3 ||| ((1 : Int32) <<< (x4_4 &&& 31)))), (2, .ref (g f1)), (4, .int x4_4)] rfl ?_
          refine jIinc C (x4_4 + (1 : Int32)) dX8_half_49 2 rfl (congrArg (fun z : Int32 => x4_4 + z) ki_1) (Nat.le_of_ble_eq_true rfl) [(4, .int (x4_4 + (1 : Int32))), (3, .int (x3_3 ||| ((1 : Int32) <<< (x4_4 &&& 31)))), (2, .ref (g f1))] rfl ?_
          refine jGoto C 18 dX8_half_52 (by decide) ?_
          refine jSub [2, 1, 0] rfl ?_
          exact ir6 (x3_3 ||| ((1 : Int32) <<< (x4_4 &&& 31))) (x4_4 + (1 : Int32)) hf
    refine jSub [2, 1, 0] rfl ?_
    exact hL5 (0 : Int32) (0 : Int32) hf
noncomputable def X8_next (cP : Nat → Int32) (p1 : Int32) (p2 : Int32) : Option Int32 := bdo (X8_familyAt cP p1) (some (-2 : Int32)) (fun f1 => bd1 (X0_knows cP f1 p2) (fun q3 => (if q3 = (0 : Int32) then some (-2 : Int32) else bd1 (J6_bitCount_0f7a4 p2) (fun q6 => bd1 (X2_nextOfLevel p2 q6 (cP f1)) (fun q8 => some q8)))))
set_option maxHeartbeats 4000000 in
set_option maxRecDepth 20000 in
theorem X8_next_ok {p1 : Int32} {p2 : Int32} {rr : Int32}  (hf : X8_next cP p1 p2 = some rr) : MT yX8_next cX8_next 4 (some .int) 2 [.ref (g 28), .int p1, .int p2] D cy G (cw g cy cP cLo cHi cpl ctb ctl ctf ctp ctk cts cth cob col cso cha chs cbe ctr cgl cgh cll clh cta cme cps cwh cal cah) (cw g cy cP cLo cHi cpl ctb ctl ctf ctp ctk cts cth cob col cso cha chs cbe ctr cgl cgh cll clh cta cme cps cwh cal cah) (some (.int rr)) := by
  refine MT.go (own := RX8) [(0, .ref (g 28)), (1, .int p1), (2, .int p2)] (by decide) rfl (Nat.le_of_ble_eq_true rfl) rfl (fun p l e s m args below meth c A Q C hQ => ?_)
  unfold X8_next at hf
  refine jAloadn C dX8_next_0 rfl 0 rfl ?_
  refine jIloadn C dX8_next_1 rfl 1 rfl ?_
  rcases bdo_some hf with ⟨q2, hf⟩ | ⟨f1, q2, hf⟩
  · refine jVN C (X8_familyAt_ok  q2) vb_X8_familyAt mk_RX8_102 rfl rc28 ⟨Nat.le_of_ble_eq_true rfl, Nat.le_of_ble_eq_true rfl⟩ rfl (Nat.le_of_ble_eq_true rfl) dX8_next_2 ?_
    refine jAstorenN C dX8_next_5 rfl (Nat.le_of_ble_eq_true rfl) [(3, .null), (0, .ref (g 28)), (1, .int p1), (2, .int p2)] rfl ?_
    refine jAloadnN C dX8_next_6 rfl 0 rfl ?_
    refine jIfnullN C 18 dX8_next_7 (by decide) ?_
    refine jBipush C (-2 : Int32) dX8_next_18 kb_m2 ?_
    cases hf
    exact jEndI C hQ rfl dX8_next_20
  · refine jVA C (X8_familyAt_ok  q2) vb_X8_familyAt mk_RX8_102 rfl rc28 ⟨Nat.le_of_ble_eq_true rfl, Nat.le_of_ble_eq_true rfl⟩ rfl (Nat.le_of_ble_eq_true rfl) dX8_next_2 ?_
    refine jAstoren C dX8_next_5 rfl (Nat.le_of_ble_eq_true rfl) [(3, .ref (g f1)), (0, .ref (g 28)), (1, .int p1), (2, .int p2)] rfl ?_
    refine jAloadn C dX8_next_6 rfl 0 rfl ?_
    refine jIfnull C dX8_next_7 ?_
    refine jAloadn C dX8_next_10 rfl 0 rfl ?_
    refine jIloadn C dX8_next_11 rfl 3 rfl ?_
    obtain ⟨q3, e4, hf⟩ := bd1_some hf
    refine jVI C (X0_knows_ok (X8_familyAt_lt q2) e4) vb_X0_knows mk_RX8_117 rfl (rcF (X8_familyAt_lt q2)) ⟨Nat.le_of_ble_eq_true rfl, Nat.le_of_ble_eq_true rfl⟩ rfl (Nat.le_of_ble_eq_true rfl) dX8_next_12 ?_
    refine jIfNe C 21 dX8_next_15 (by decide) (fun c5 => ?_) (fun c5 => ?_)
    · replace hf := itn hf c5
      refine jIloadn C dX8_next_21 rfl 3 rfl ?_
      refine jIloadn C dX8_next_22 rfl 3 rfl ?_
      obtain ⟨q6, e7, hf⟩ := bd1_some hf
      refine jSI C (J6_bitCount_0f7a4_ok  e7) sb_J6_bitCount_0f7a4 mk_RX8_190 rfl ⟨Nat.le_of_ble_eq_true rfl, Nat.le_of_ble_eq_true rfl⟩ rfl (Nat.le_of_ble_eq_true rfl) dX8_next_23 ?_
      refine jAloadn C dX8_next_26 rfl 0 rfl ?_
      refine gf_RX8_133 C (X8_familyAt_lt q2) dX8_next_27 ?_
      obtain ⟨q8, e9, hf⟩ := bd1_some hf
      refine jSI C (X2_nextOfLevel_ok  e9) sb_X2_nextOfLevel mk_RX8_183 rfl ⟨Nat.le_of_ble_eq_true rfl, Nat.le_of_ble_eq_true rfl⟩ rfl (Nat.le_of_ble_eq_true rfl) dX8_next_30 ?_
      cases hf
      exact jEndI C hQ rfl dX8_next_33
    · replace hf := itp hf c5
      refine jBipush C (-2 : Int32) dX8_next_18 kb_m2 ?_
      cases hf
      exact jEndI C hQ rfl dX8_next_20
noncomputable def X8_apart (cP : Nat → Int32) (cLo : Nat → Int64) (cHi : Nat → Int64) (p1 : Int32) (p2 : Int32) : Option (Int32 × (Nat → Int32) × (Nat → Int64) × (Nat → Int64)) := bdo (X8_familyAt cP p1) (some ((-2 : Int32), cP, cLo, cHi)) (fun f1 => (if (-1 : Int32) ≤ p2 then bd4 (X8_findApart cP cLo cHi f1 p2) (fun q4 cP_5 cLo_6 cHi_7 => some (q4, cP_5, cLo_6, cHi_7)) else some ((-2 : Int32), cP, cLo, cHi)))
set_option maxHeartbeats 4000000 in
set_option maxRecDepth 20000 in
theorem X8_apart_ok {p1 : Int32} {p2 : Int32} {rr : Int32} {ocP : Nat → Int32} {ocLo : Nat → Int64} {ocHi : Nat → Int64}  (hf : X8_apart cP cLo cHi p1 p2 = some (rr, ocP, ocLo, ocHi)) : MT yX8_apart cX8_apart 4 (some .int) 3 [.ref (g 28), .int p1, .int p2] D cy G (cw g cy cP cLo cHi cpl ctb ctl ctf ctp ctk cts cth cob col cso cha chs cbe ctr cgl cgh cll clh cta cme cps cwh cal cah) (cw g cy ocP ocLo ocHi cpl ctb ctl ctf ctp ctk cts cth cob col cso cha chs cbe ctr cgl cgh cll clh cta cme cps cwh cal cah) (some (.int rr)) := by
  refine MT.go (own := RX8) [(0, .ref (g 28)), (1, .int p1), (2, .int p2)] (by decide) rfl (Nat.le_of_ble_eq_true rfl) rfl (fun p l e s m args below meth c A Q C hQ => ?_)
  unfold X8_apart at hf
  refine jAloadn C dX8_apart_0 rfl 0 rfl ?_
  refine jIloadn C dX8_apart_1 rfl 1 rfl ?_
  rcases bdo_some hf with ⟨q2, hf⟩ | ⟨f1, q2, hf⟩
  · refine jVN C (X8_familyAt_ok  q2) vb_X8_familyAt mk_RX8_102 rfl rc28 ⟨Nat.le_of_ble_eq_true rfl, Nat.le_of_ble_eq_true rfl⟩ rfl (Nat.le_of_ble_eq_true rfl) dX8_apart_2 ?_
    refine jAstorenN C dX8_apart_5 rfl (Nat.le_of_ble_eq_true rfl) [(3, .null), (0, .ref (g 28)), (1, .int p1), (2, .int p2)] rfl ?_
    refine jAloadnN C dX8_apart_6 rfl 0 rfl ?_
    refine jIfnullN C 15 dX8_apart_7 (by decide) ?_
    refine jBipush C (-2 : Int32) dX8_apart_15 kb_m2 ?_
    cases hf
    exact jEndI C hQ rfl dX8_apart_17
  · refine jVA C (X8_familyAt_ok  q2) vb_X8_familyAt mk_RX8_102 rfl rc28 ⟨Nat.le_of_ble_eq_true rfl, Nat.le_of_ble_eq_true rfl⟩ rfl (Nat.le_of_ble_eq_true rfl) dX8_apart_2 ?_
    refine jAstoren C dX8_apart_5 rfl (Nat.le_of_ble_eq_true rfl) [(3, .ref (g f1)), (0, .ref (g 28)), (1, .int p1), (2, .int p2)] rfl ?_
    refine jAloadn C dX8_apart_6 rfl 0 rfl ?_
    refine jIfnull C dX8_apart_7 ?_
    refine jIloadn C dX8_apart_10 rfl 3 rfl ?_
    refine jIconst C (-1 : Int32) dX8_apart_11 ki_m1 ?_
    refine jCmpGe C 18 dX8_apart_12 (by decide) (fun c3 => ?_) (fun c3 => ?_)
    · replace hf := itp hf c3
      refine jAloadn C dX8_apart_18 rfl 1 rfl ?_
      refine jAloadn C dX8_apart_19 rfl 0 rfl ?_
      refine jIloadn C dX8_apart_20 rfl 3 rfl ?_
      obtain ⟨q4, cP_5, cLo_6, cHi_7, e8, hf⟩ := bd4_some hf
      refine jVI C (X8_findApart_ok (X8_familyAt_lt q2) e8) vb_X8_findApart mk_RX8_319 rfl rc28 ⟨Nat.le_of_ble_eq_true rfl, Nat.le_of_ble_eq_true rfl⟩ rfl (Nat.le_of_ble_eq_true rfl) dX8_apart_21 ?_
      cases hf
      exact jEndI C hQ rfl dX8_apart_24
    · replace hf := itn hf c3
      refine jBipush C (-2 : Int32) dX8_apart_15 kb_m2 ?_
      cases hf
      exact jEndI C hQ rfl dX8_apart_17
noncomputable def X8_covers (cP : Nat → Int32) (cLo : Nat → Int64) (cHi : Nat → Int64) (p1 : Int32) (p2 : Int32) : Option (Int32 × (Nat → Int32) × (Nat → Int64) × (Nat → Int64)) := bdo (X8_familyAt cP p1) (some ((-2 : Int32), cP, cLo, cHi)) (fun f1 => (if (-1 : Int32) ≤ p2 then bd3 (X0_becomeAnswers cP cLo cHi 3 f1) (fun cP_4 cLo_5 cHi_6 => (if p2 = (-1 : Int32) then bd1 (X0_size cLo_5 cHi_6 3) (fun q11 => some (q11, cP_4, cLo_5, cHi_6)) else bd1 (X0_pick cP_4 cLo_5 cHi_6 3 p2) (fun q9 => some (q9, cP_4, cLo_5, cHi_6)))) else some ((-2 : Int32), cP, cLo, cHi)))
set_option maxHeartbeats 4000000 in
set_option maxRecDepth 20000 in
theorem X8_covers_ok {p1 : Int32} {p2 : Int32} {rr : Int32} {ocP : Nat → Int32} {ocLo : Nat → Int64} {ocHi : Nat → Int64}  (hf : X8_covers cP cLo cHi p1 p2 = some (rr, ocP, ocLo, ocHi)) : MT yX8_covers cX8_covers 4 (some .int) 3 [.ref (g 28), .int p1, .int p2] D cy G (cw g cy cP cLo cHi cpl ctb ctl ctf ctp ctk cts cth cob col cso cha chs cbe ctr cgl cgh cll clh cta cme cps cwh cal cah) (cw g cy ocP ocLo ocHi cpl ctb ctl ctf ctp ctk cts cth cob col cso cha chs cbe ctr cgl cgh cll clh cta cme cps cwh cal cah) (some (.int rr)) := by
  refine MT.go (own := RX8) [(0, .ref (g 28)), (1, .int p1), (2, .int p2)] (by decide) rfl (Nat.le_of_ble_eq_true rfl) rfl (fun p l e s m args below meth c A Q C hQ => ?_)
  unfold X8_covers at hf
  refine jAloadn C dX8_covers_0 rfl 0 rfl ?_
  refine jIloadn C dX8_covers_1 rfl 1 rfl ?_
  rcases bdo_some hf with ⟨q2, hf⟩ | ⟨f1, q2, hf⟩
  · refine jVN C (X8_familyAt_ok  q2) vb_X8_familyAt mk_RX8_102 rfl rc28 ⟨Nat.le_of_ble_eq_true rfl, Nat.le_of_ble_eq_true rfl⟩ rfl (Nat.le_of_ble_eq_true rfl) dX8_covers_2 ?_
    refine jAstorenN C dX8_covers_5 rfl (Nat.le_of_ble_eq_true rfl) [(3, .null), (0, .ref (g 28)), (1, .int p1), (2, .int p2)] rfl ?_
    refine jAloadnN C dX8_covers_6 rfl 0 rfl ?_
    refine jIfnullN C 15 dX8_covers_7 (by decide) ?_
    refine jBipush C (-2 : Int32) dX8_covers_15 kb_m2 ?_
    cases hf
    exact jEndI C hQ rfl dX8_covers_17
  · refine jVA C (X8_familyAt_ok  q2) vb_X8_familyAt mk_RX8_102 rfl rc28 ⟨Nat.le_of_ble_eq_true rfl, Nat.le_of_ble_eq_true rfl⟩ rfl (Nat.le_of_ble_eq_true rfl) dX8_covers_2 ?_
    refine jAstoren C dX8_covers_5 rfl (Nat.le_of_ble_eq_true rfl) [(3, .ref (g f1)), (0, .ref (g 28)), (1, .int p1), (2, .int p2)] rfl ?_
    refine jAloadn C dX8_covers_6 rfl 0 rfl ?_
    refine jIfnull C dX8_covers_7 ?_
    refine jIloadn C dX8_covers_10 rfl 3 rfl ?_
    refine jIconst C (-1 : Int32) dX8_covers_11 ki_m1 ?_
    refine jCmpGe C 18 dX8_covers_12 (by decide) (fun c3 => ?_) (fun c3 => ?_)
    · replace hf := itp hf c3
      refine jAloadn C dX8_covers_18 rfl 1 rfl ?_
      refine gf_RX8_16 C dX8_covers_19 ?_
      refine jAloadn C dX8_covers_22 rfl 0 rfl ?_
      obtain ⟨cP_4, cLo_5, cHi_6, e7, hf⟩ := bd3_some hf
      refine jVV C (X0_becomeAnswers_ok (by decide) (X8_familyAt_lt q2) e7) vb_X0_becomeAnswers mk_RX8_218 rfl (rcF (by decide)) ⟨Nat.le_of_ble_eq_true rfl, Nat.le_of_ble_eq_true rfl⟩ rfl (Nat.le_of_ble_eq_true rfl) dX8_covers_23 ?_
      refine jIloadn C dX8_covers_26 rfl 3 rfl ?_
      refine jIconst C (-1 : Int32) dX8_covers_27 ki_m1 ?_
      refine jCmpNe C 41 dX8_covers_28 (by decide) (fun c8 => ?_) (fun c8 => ?_)
      · replace hf := itn hf c8
        refine jAloadn C dX8_covers_41 rfl 1 rfl ?_
        refine gf_RX8_16 C dX8_covers_42 ?_
        refine jIloadn C dX8_covers_45 rfl 3 rfl ?_
        obtain ⟨q9, e10, hf⟩ := bd1_some hf
        refine jVI C (X0_pick_ok (by decide) e10) vb_X0_pick mk_RX8_113 rfl (rcF (by decide)) ⟨Nat.le_of_ble_eq_true rfl, Nat.le_of_ble_eq_true rfl⟩ rfl (Nat.le_of_ble_eq_true rfl) dX8_covers_46 ?_
        cases hf
        exact jEndI C hQ rfl dX8_covers_49
      · replace hf := itp hf c8
        refine jAloadn C dX8_covers_31 rfl 1 rfl ?_
        refine gf_RX8_16 C dX8_covers_32 ?_
        obtain ⟨q11, e12, hf⟩ := bd1_some hf
        refine jVI C (X0_size_ok (by decide) e12) vb_X0_size mk_RX8_236 rfl (rcF (by decide)) ⟨Nat.le_of_ble_eq_true rfl, Nat.le_of_ble_eq_true rfl⟩ rfl (Nat.le_of_ble_eq_true rfl) dX8_covers_35 ?_
        refine jGoto C 49 dX8_covers_38 (by decide) ?_
        cases hf
        exact jEndI C hQ rfl dX8_covers_49
    · replace hf := itn hf c3
      refine jBipush C (-2 : Int32) dX8_covers_15 kb_m2 ?_
      cases hf
      exact jEndI C hQ rfl dX8_covers_17
noncomputable def X8_chainUpTo_h10 (p2 : Int32) (r10 : Int32 → (Nat → Int32) → (Nat → Int64) → (Nat → Int64) → Option (Int32 × (Nat → Int32) × (Nat → Int64) × (Nat → Int64))) (x3_5 : Int32) (cP_6 : Nat → Int32) (cLo_7 : Nat → Int64) (cHi_8 : Nat → Int64) : Option (Int32 × (Nat → Int32) × (Nat → Int64) × (Nat → Int64)) := (if (8 : Int32) < x3_5 then some ((-1 : Int32), cP_6, cLo_7, cHi_8) else bd3 (X0_becomeLowest cP_6 cLo_7 cHi_8 3 4) (fun cP_12 cLo_13 cHi_14 => bd1 (X0_holds cLo_13 cHi_14 3 p2) (fun q16 => (if q16 = (0 : Int32) then bd2 (X0_lose cLo_13 cHi_14 4 3) (fun cLo_19 cHi_20 => r10 (x3_5 + (1 : Int32)) cP_12 cLo_19 cHi_20) else some (x3_5, cP_12, cLo_13, cHi_14)))))
noncomputable def X8_chainUpTo (cP : Nat → Int32) (cLo : Nat → Int64) (cHi : Nat → Int64) (p1 : Nat) (p2 : Int32) : Option (Int32 × (Nat → Int32) × (Nat → Int64) × (Nat → Int64)) := bd3 (X0_become cP cLo cHi 4 p1) (fun cP_1 cLo_2 cHi_3 => lfp4 (X8_chainUpTo_h10 p2) (1 : Int32) cP_1 cLo_2 cHi_3)
set_option maxHeartbeats 4000000 in
set_option maxRecDepth 20000 in
theorem X8_chainUpTo_ok {p1 : Nat} {p2 : Int32} {rr : Int32} {ocP : Nat → Int32} {ocLo : Nat → Int64} {ocHi : Nat → Int64} (hp1 : p1 < 28) (hf : X8_chainUpTo cP cLo cHi p1 p2 = some (rr, ocP, ocLo, ocHi)) : MT yX8_chainUpTo cX8_chainUpTo 4 (some .int) 3 [.ref (g 28), .ref (g p1), .int p2] D cy G (cw g cy cP cLo cHi cpl ctb ctl ctf ctp ctk cts cth cob col cso cha chs cbe ctr cgl cgh cll clh cta cme cps cwh cal cah) (cw g cy ocP ocLo ocHi cpl ctb ctl ctf ctp ctk cts cth cob col cso cha chs cbe ctr cgl cgh cll clh cta cme cps cwh cal cah) (some (.int rr)) := by
  refine MT.go (own := RX8) [(0, .ref (g 28)), (1, .ref (g p1)), (2, .int p2)] (by decide) rfl (Nat.le_of_ble_eq_true rfl) rfl (fun p l e s m args below meth c A Q C hQ => ?_)
  unfold X8_chainUpTo at hf
  refine jAloadn C dX8_chainUpTo_0 rfl 0 rfl ?_
  refine gf_RX8_20 C dX8_chainUpTo_1 ?_
  refine jAloadn C dX8_chainUpTo_4 rfl 1 rfl ?_
  obtain ⟨cP_1, cLo_2, cHi_3, e4, hf⟩ := bd3_some hf
  refine jVV C (X0_become_ok (by decide) hp1 e4) vb_X0_become mk_RX8_152 rfl (rcF (by decide)) ⟨Nat.le_of_ble_eq_true rfl, Nat.le_of_ble_eq_true rfl⟩ rfl (Nat.le_of_ble_eq_true rfl) dX8_chainUpTo_5 ?_
  refine jIconst C (1 : Int32) dX8_chainUpTo_8 ki_1 ?_
  refine jIstoren C dX8_chainUpTo_9 rfl (Nat.le_of_ble_eq_true rfl) [(3, .int (1 : Int32)), (0, .ref (g 28)), (1, .ref (g p1)), (2, .int p2)] rfl ?_
  have hL9 : ∀ (x3_5 : Int32) (cP_6 : Nat → Int32) (cLo_7 : Nat → Int64) (cHi_8 : Nat → Int64), lfp4 (X8_chainUpTo_h10 p2) x3_5 cP_6 cLo_7 cHi_8 = some (rr, ocP, ocLo, ocHi) → J p l e (rmk 3) s m args below meth c D A Q 4 (cw g cy cP_6 cLo_7 cHi_8 cpl ctb ctl ctf ctp ctk cts cth cob col cso cha chs cbe ctr cgl cgh cll clh cta cme cps cwh cal cah) 10 [(0, .ref (g 28)), (2, .int p2), (3, .int x3_5)] [] := by
    intro x3_5 cP_6 cLo_7 cHi_8 hw
    refine lfp4_walk (P := fun x3_5 cP_6 cLo_7 cHi_8 => J p l e (rmk 3) s m args below meth c D A Q 4 (cw g cy cP_6 cLo_7 cHi_8 cpl ctb ctl ctf ctp ctk cts cth cob col cso cha chs cbe ctr cgl cgh cll clh cta cme cps cwh cal cah) 10 [(0, .ref (g 28)), (2, .int p2), (3, .int x3_5)] []) ?_ hw
    intro r10 ir10 x3_5 cP_6 cLo_7 cHi_8 hf
    unfold X8_chainUpTo_h10 at hf
    refine jIloadn C dX8_chainUpTo_10 rfl 2 rfl ?_
    refine jBipush C (8 : Int32) dX8_chainUpTo_11 kb_8 ?_
    refine jCmpGt C 57 dX8_chainUpTo_13 (by decide) (fun c11 => ?_) (fun c11 => ?_)
    · replace hf := itp hf c11
      refine jIconst C (-1 : Int32) dX8_chainUpTo_57 ki_m1 ?_
      cases hf
      exact jEndI C hQ rfl dX8_chainUpTo_58
    · replace hf := itn hf c11
      refine jAloadn C dX8_chainUpTo_16 rfl 0 rfl ?_
      refine gf_RX8_16 C dX8_chainUpTo_17 ?_
      refine jAloadn C dX8_chainUpTo_20 rfl 0 rfl ?_
      refine gf_RX8_20 C dX8_chainUpTo_21 ?_
      obtain ⟨cP_12, cLo_13, cHi_14, e15, hf⟩ := bd3_some hf
      refine jVV C (X0_becomeLowest_ok (by decide) (by decide) e15) vb_X0_becomeLowest mk_RX8_388 rfl (rcF (by decide)) ⟨Nat.le_of_ble_eq_true rfl, Nat.le_of_ble_eq_true rfl⟩ rfl (Nat.le_of_ble_eq_true rfl) dX8_chainUpTo_24 ?_
      refine jAloadn C dX8_chainUpTo_27 rfl 0 rfl ?_
      refine gf_RX8_16 C dX8_chainUpTo_28 ?_
      refine jIloadn C dX8_chainUpTo_31 rfl 1 rfl ?_
      obtain ⟨q16, e17, hf⟩ := bd1_some hf
      refine jVI C (X0_holds_ok (by decide) e17) vb_X0_holds mk_RX8_120 rfl (rcF (by decide)) ⟨Nat.le_of_ble_eq_true rfl, Nat.le_of_ble_eq_true rfl⟩ rfl (Nat.le_of_ble_eq_true rfl) dX8_chainUpTo_32 ?_
      refine jIfEq C 40 dX8_chainUpTo_35 (by decide) (fun c18 => ?_) (fun c18 => ?_)
      · replace hf := itp hf c18
        refine jAloadn C dX8_chainUpTo_40 rfl 0 rfl ?_
        refine gf_RX8_20 C dX8_chainUpTo_41 ?_
        refine jAloadn C dX8_chainUpTo_44 rfl 0 rfl ?_
        refine gf_RX8_16 C dX8_chainUpTo_45 ?_
        obtain ⟨cLo_19, cHi_20, e21, hf⟩ := bd2_some hf
        refine jVV C (X0_lose_ok (by decide) (by decide) e21) vb_X0_lose mk_RX8_310 rfl (rcF (by decide)) ⟨Nat.le_of_ble_eq_true rfl, Nat.le_of_ble_eq_true rfl⟩ rfl (Nat.le_of_ble_eq_true rfl) dX8_chainUpTo_48 ?_
        refine jIinc C (x3_5 + (1 : Int32)) dX8_chainUpTo_51 2 rfl (congrArg (fun z : Int32 => x3_5 + z) ki_1) (Nat.le_of_ble_eq_true rfl) [(3, .int (x3_5 + (1 : Int32))), (0, .ref (g 28)), (2, .int p2)] rfl ?_
        refine jGoto C 10 dX8_chainUpTo_54 (by decide) ?_
        refine jSub [1, 2, 0] rfl ?_
        exact ir10 (x3_5 + (1 : Int32)) cP_12 cLo_19 cHi_20 hf
      · replace hf := itn hf c18
        refine jIloadn C dX8_chainUpTo_38 rfl 2 rfl ?_
        cases hf
        exact jEndI C hQ rfl dX8_chainUpTo_39
  refine jSub [1, 3, 0] rfl ?_
  exact hL9 (1 : Int32) cP_1 cLo_2 cHi_3 hf
noncomputable def X8_height (cP : Nat → Int32) (cLo : Nat → Int64) (cHi : Nat → Int64) (p1 : Int32) (p2 : Int32) : Option (Int32 × (Nat → Int32) × (Nat → Int64) × (Nat → Int64)) := bdo (X8_familyAt cP p1) (some ((-2 : Int32), cP, cLo, cHi)) (fun f1 => bd1 (X0_knows cP f1 p2) (fun q3 => (if q3 = (0 : Int32) then some ((-2 : Int32), cP, cLo, cHi) else bd1 (X0_holds cLo cHi f1 p2) (fun q6 => (if q6 = (0 : Int32) then some ((-6 : Int32), cP, cLo, cHi) else bd4 (X8_chainUpTo cP cLo cHi f1 p2) (fun q9 cP_10 cLo_11 cHi_12 => some (q9, cP_10, cLo_11, cHi_12)))))))
set_option maxHeartbeats 4000000 in
set_option maxRecDepth 20000 in
theorem X8_height_ok {p1 : Int32} {p2 : Int32} {rr : Int32} {ocP : Nat → Int32} {ocLo : Nat → Int64} {ocHi : Nat → Int64}  (hf : X8_height cP cLo cHi p1 p2 = some (rr, ocP, ocLo, ocHi)) : MT yX8_height cX8_height 4 (some .int) 4 [.ref (g 28), .int p1, .int p2] D cy G (cw g cy cP cLo cHi cpl ctb ctl ctf ctp ctk cts cth cob col cso cha chs cbe ctr cgl cgh cll clh cta cme cps cwh cal cah) (cw g cy ocP ocLo ocHi cpl ctb ctl ctf ctp ctk cts cth cob col cso cha chs cbe ctr cgl cgh cll clh cta cme cps cwh cal cah) (some (.int rr)) := by
  refine MT.go (own := RX8) [(0, .ref (g 28)), (1, .int p1), (2, .int p2)] (by decide) rfl (Nat.le_of_ble_eq_true rfl) rfl (fun p l e s m args below meth c A Q C hQ => ?_)
  unfold X8_height at hf
  refine jAloadn C dX8_height_0 rfl 0 rfl ?_
  refine jIloadn C dX8_height_1 rfl 1 rfl ?_
  rcases bdo_some hf with ⟨q2, hf⟩ | ⟨f1, q2, hf⟩
  · refine jVN C (X8_familyAt_ok  q2) vb_X8_familyAt mk_RX8_102 rfl rc28 ⟨Nat.le_of_ble_eq_true rfl, Nat.le_of_ble_eq_true rfl⟩ rfl (Nat.le_of_ble_eq_true rfl) dX8_height_2 ?_
    refine jAstorenN C dX8_height_5 rfl (Nat.le_of_ble_eq_true rfl) [(3, .null), (0, .ref (g 28)), (1, .int p1), (2, .int p2)] rfl ?_
    refine jAloadnN C dX8_height_6 rfl 0 rfl ?_
    refine jIfnullN C 18 dX8_height_7 (by decide) ?_
    refine jBipush C (-2 : Int32) dX8_height_18 kb_m2 ?_
    cases hf
    exact jEndI C hQ rfl dX8_height_20
  · refine jVA C (X8_familyAt_ok  q2) vb_X8_familyAt mk_RX8_102 rfl rc28 ⟨Nat.le_of_ble_eq_true rfl, Nat.le_of_ble_eq_true rfl⟩ rfl (Nat.le_of_ble_eq_true rfl) dX8_height_2 ?_
    refine jAstoren C dX8_height_5 rfl (Nat.le_of_ble_eq_true rfl) [(3, .ref (g f1)), (0, .ref (g 28)), (1, .int p1), (2, .int p2)] rfl ?_
    refine jAloadn C dX8_height_6 rfl 0 rfl ?_
    refine jIfnull C dX8_height_7 ?_
    refine jAloadn C dX8_height_10 rfl 0 rfl ?_
    refine jIloadn C dX8_height_11 rfl 3 rfl ?_
    obtain ⟨q3, e4, hf⟩ := bd1_some hf
    refine jVI C (X0_knows_ok (X8_familyAt_lt q2) e4) vb_X0_knows mk_RX8_117 rfl (rcF (X8_familyAt_lt q2)) ⟨Nat.le_of_ble_eq_true rfl, Nat.le_of_ble_eq_true rfl⟩ rfl (Nat.le_of_ble_eq_true rfl) dX8_height_12 ?_
    refine jIfNe C 21 dX8_height_15 (by decide) (fun c5 => ?_) (fun c5 => ?_)
    · replace hf := itn hf c5
      refine jAloadn C dX8_height_21 rfl 0 rfl ?_
      refine jIloadn C dX8_height_22 rfl 3 rfl ?_
      obtain ⟨q6, e7, hf⟩ := bd1_some hf
      refine jVI C (X0_holds_ok (X8_familyAt_lt q2) e7) vb_X0_holds mk_RX8_120 rfl (rcF (X8_familyAt_lt q2)) ⟨Nat.le_of_ble_eq_true rfl, Nat.le_of_ble_eq_true rfl⟩ rfl (Nat.le_of_ble_eq_true rfl) dX8_height_23 ?_
      refine jIfEq C 38 dX8_height_26 (by decide) (fun c8 => ?_) (fun c8 => ?_)
      · replace hf := itp hf c8
        refine jBipush C (-6 : Int32) dX8_height_38 kb_m6 ?_
        cases hf
        exact jEndI C hQ rfl dX8_height_40
      · replace hf := itn hf c8
        refine jAloadn C dX8_height_29 rfl 1 rfl ?_
        refine jAloadn C dX8_height_30 rfl 0 rfl ?_
        refine jIloadn C dX8_height_31 rfl 3 rfl ?_
        obtain ⟨q9, cP_10, cLo_11, cHi_12, e13, hf⟩ := bd4_some hf
        refine jVI C (X8_chainUpTo_ok (X8_familyAt_lt q2) e13) vb_X8_chainUpTo mk_RX8_322 rfl rc28 ⟨Nat.le_of_ble_eq_true rfl, Nat.le_of_ble_eq_true rfl⟩ rfl (Nat.le_of_ble_eq_true rfl) dX8_height_32 ?_
        refine jGoto C 40 dX8_height_35 (by decide) ?_
        cases hf
        exact jEndI C hQ rfl dX8_height_40
    · replace hf := itp hf c5
      refine jBipush C (-2 : Int32) dX8_height_18 kb_m2 ?_
      cases hf
      exact jEndI C hQ rfl dX8_height_20
noncomputable def X8_trace (cP : Nat → Int32) (cLo : Nat → Int64) (cHi : Nat → Int64) (cso : Nat → Int32) (cha : Int32) (chs : Int32) (p1 : Int32) (p2 : Int32) (p3 : Int32) : Option (Int32 × (Nat → Int32) × (Nat → Int64) × (Nat → Int64) × (Nat → Int32) × Int32 × Int32) := bdo (X8_familyAt cP p1) (some ((-2 : Int32), cP, cLo, cHi, cso, cha, chs)) (fun f1 => bd1 (X0_knows cP f1 p2) (fun q3 => (if q3 = (0 : Int32) then some ((-2 : Int32), cP, cLo, cHi, cso, cha, chs) else bd1 (X8_isSlot p3) (fun q6 => (if q6 = (0 : Int32) then some ((-2 : Int32), cP, cLo, cHi, cso, cha, chs) else bd3 (X0_become cP cLo cHi 3 f1) (fun cP_9 cLo_10 cHi_11 => bd2 (X0_cutTo cP_9 cLo_10 cHi_11 3 p2) (fun cLo_13 cHi_14 => bd7 (X8_comesInto cP_9 cLo_13 cHi_14 cso cha chs p3 3) (fun q16 cP_17 cLo_18 cHi_19 cso_20 cha_21 chs_22 => some (q16, cP_17, cLo_18, cHi_19, cso_20, cha_21, chs_22)))))))))
set_option maxHeartbeats 4000000 in
set_option maxRecDepth 20000 in
theorem X8_trace_ok {p1 : Int32} {p2 : Int32} {p3 : Int32} {rr : Int32} {ocP : Nat → Int32} {ocLo : Nat → Int64} {ocHi : Nat → Int64} {ocso : Nat → Int32} {ocha : Int32} {ochs : Int32}  (hf : X8_trace cP cLo cHi cso cha chs p1 p2 p3 = some (rr, ocP, ocLo, ocHi, ocso, ocha, ochs)) : MT yX8_trace cX8_trace 5 (some .int) 3 [.ref (g 28), .int p1, .int p2, .int p3] D cy G (cw g cy cP cLo cHi cpl ctb ctl ctf ctp ctk cts cth cob col cso cha chs cbe ctr cgl cgh cll clh cta cme cps cwh cal cah) (cw g cy ocP ocLo ocHi cpl ctb ctl ctf ctp ctk cts cth cob col ocso ocha ochs cbe ctr cgl cgh cll clh cta cme cps cwh cal cah) (some (.int rr)) := by
  refine MT.go (own := RX8) [(0, .ref (g 28)), (1, .int p1), (2, .int p2), (3, .int p3)] (by decide) rfl (Nat.le_of_ble_eq_true rfl) rfl (fun p l e s m args below meth c A Q C hQ => ?_)
  unfold X8_trace at hf
  refine jAloadn C dX8_trace_0 rfl 0 rfl ?_
  refine jIloadn C dX8_trace_1 rfl 1 rfl ?_
  rcases bdo_some hf with ⟨q2, hf⟩ | ⟨f1, q2, hf⟩
  · refine jVN C (X8_familyAt_ok  q2) vb_X8_familyAt mk_RX8_102 rfl rc28 ⟨Nat.le_of_ble_eq_true rfl, Nat.le_of_ble_eq_true rfl⟩ rfl (Nat.le_of_ble_eq_true rfl) dX8_trace_2 ?_
    refine jAstoreN C dX8_trace_5 (Nat.le_of_ble_eq_true rfl) [(4, .null), (0, .ref (g 28)), (1, .int p1), (2, .int p2), (3, .int p3)] rfl ?_
    refine jAloadN C dX8_trace_7 0 rfl ?_
    refine jIfnullN C 28 dX8_trace_9 (by decide) ?_
    refine jBipush C (-2 : Int32) dX8_trace_28 kb_m2 ?_
    cases hf
    exact jEndI C hQ rfl dX8_trace_30
  · refine jVA C (X8_familyAt_ok  q2) vb_X8_familyAt mk_RX8_102 rfl rc28 ⟨Nat.le_of_ble_eq_true rfl, Nat.le_of_ble_eq_true rfl⟩ rfl (Nat.le_of_ble_eq_true rfl) dX8_trace_2 ?_
    refine jAstore C dX8_trace_5 (Nat.le_of_ble_eq_true rfl) [(4, .ref (g f1)), (0, .ref (g 28)), (1, .int p1), (2, .int p2), (3, .int p3)] rfl ?_
    refine jAload C dX8_trace_7 0 rfl ?_
    refine jIfnull C dX8_trace_9 ?_
    refine jAload C dX8_trace_12 0 rfl ?_
    refine jIloadn C dX8_trace_14 rfl 3 rfl ?_
    obtain ⟨q3, e4, hf⟩ := bd1_some hf
    refine jVI C (X0_knows_ok (X8_familyAt_lt q2) e4) vb_X0_knows mk_RX8_117 rfl (rcF (X8_familyAt_lt q2)) ⟨Nat.le_of_ble_eq_true rfl, Nat.le_of_ble_eq_true rfl⟩ rfl (Nat.le_of_ble_eq_true rfl) dX8_trace_15 ?_
    refine jIfEq C 28 dX8_trace_18 (by decide) (fun c5 => ?_) (fun c5 => ?_)
    · replace hf := itp hf c5
      refine jBipush C (-2 : Int32) dX8_trace_28 kb_m2 ?_
      cases hf
      exact jEndI C hQ rfl dX8_trace_30
    · replace hf := itn hf c5
      refine jIloadn C dX8_trace_21 rfl 4 rfl ?_
      obtain ⟨q6, e7, hf⟩ := bd1_some hf
      refine jSI C (X8_isSlot_ok  e7) sb_X8_isSlot mk_RX8_77 rfl ⟨Nat.le_of_ble_eq_true rfl, Nat.le_of_ble_eq_true rfl⟩ rfl (Nat.le_of_ble_eq_true rfl) dX8_trace_22 ?_
      refine jIfNe C 31 dX8_trace_25 (by decide) (fun c8 => ?_) (fun c8 => ?_)
      · replace hf := itn hf c8
        refine jAloadn C dX8_trace_31 rfl 1 rfl ?_
        refine gf_RX8_16 C dX8_trace_32 ?_
        refine jAload C dX8_trace_35 0 rfl ?_
        obtain ⟨cP_9, cLo_10, cHi_11, e12, hf⟩ := bd3_some hf
        refine jVV C (X0_become_ok (by decide) (X8_familyAt_lt q2) e12) vb_X0_become mk_RX8_152 rfl (rcF (by decide)) ⟨Nat.le_of_ble_eq_true rfl, Nat.le_of_ble_eq_true rfl⟩ rfl (Nat.le_of_ble_eq_true rfl) dX8_trace_37 ?_
        refine jAloadn C dX8_trace_40 rfl 1 rfl ?_
        refine gf_RX8_16 C dX8_trace_41 ?_
        refine jIloadn C dX8_trace_44 rfl 3 rfl ?_
        obtain ⟨cLo_13, cHi_14, e15, hf⟩ := bd2_some hf
        refine jVV C (X0_cutTo_ok (by decide) e15) vb_X0_cutTo mk_RX8_325 rfl (rcF (by decide)) ⟨Nat.le_of_ble_eq_true rfl, Nat.le_of_ble_eq_true rfl⟩ rfl (Nat.le_of_ble_eq_true rfl) dX8_trace_45 ?_
        refine jAloadn C dX8_trace_48 rfl 1 rfl ?_
        refine jIloadn C dX8_trace_49 rfl 4 rfl ?_
        refine jAloadn C dX8_trace_50 rfl 1 rfl ?_
        refine gf_RX8_16 C dX8_trace_51 ?_
        obtain ⟨q16, cP_17, cLo_18, cHi_19, cso_20, cha_21, chs_22, e23, hf⟩ := bd7_some hf
        refine jVI C (X8_comesInto_ok (by decide) e23) vb_X8_comesInto mk_RX8_84 rfl rc28 ⟨Nat.le_of_ble_eq_true rfl, Nat.le_of_ble_eq_true rfl⟩ rfl (Nat.le_of_ble_eq_true rfl) dX8_trace_54 ?_
        cases hf
        exact jEndI C hQ rfl dX8_trace_57
      · replace hf := itp hf c8
        refine jBipush C (-2 : Int32) dX8_trace_28 kb_m2 ?_
        cases hf
        exact jEndI C hQ rfl dX8_trace_30
noncomputable def X8_joinsAcross_h13 (p2 : Nat) (p1 : Nat) (r10 : Int32 → (Nat → Int32) → (Nat → Int64) → (Nat → Int64) → Option ((Nat → Int32) × (Nat → Int64) × (Nat → Int64))) (x3_5 : Int32) (cP_6 : Nat → Int32) (cLo_7 : Nat → Int64) (cHi_8 : Nat → Int64) : Option ((Nat → Int32) × (Nat → Int64) × (Nat → Int64)) := bd1 (X0_span cP_6 p2) (fun q11 => (if q11 ≤ x3_5 then some (cP_6, cLo_7, cHi_8) else bd1 (X0_holds cLo_7 cHi_8 p2 x3_5) (fun q14 => (if q14 = (0 : Int32) then r10 (x3_5 + (1 : Int32)) cP_6 cLo_7 cHi_8 else bd3 (X0_become cP_6 cLo_7 cHi_8 4 p1) (fun cP_17 cLo_18 cHi_19 => bd2 (X0_widenBy cP_17 cLo_18 cHi_19 4 x3_5) (fun cLo_21 cHi_22 => bd2 (X0_join cLo_21 cHi_22 3 4) (fun cLo_24 cHi_25 => r10 (x3_5 + (1 : Int32)) cP_17 cLo_24 cHi_25)))))))
noncomputable def X8_joinsAcross (cP : Nat → Int32) (cLo : Nat → Int64) (cHi : Nat → Int64) (p1 : Nat) (p2 : Nat) : Option ((Nat → Int32) × (Nat → Int64) × (Nat → Int64)) := bd3 (X0_clear cP cLo cHi 3 (cP p1)) (fun cP_1 cLo_2 cHi_3 => lfp4 (X8_joinsAcross_h13 p2 p1) (0 : Int32) cP_1 cLo_2 cHi_3)
set_option maxHeartbeats 4000000 in
set_option maxRecDepth 20000 in
theorem X8_joinsAcross_ok {p1 : Nat} {p2 : Nat} {ocP : Nat → Int32} {ocLo : Nat → Int64} {ocHi : Nat → Int64} (hp1 : p1 < 28) (hp2 : p2 < 28) (hf : X8_joinsAcross cP cLo cHi p1 p2 = some (ocP, ocLo, ocHi)) : MT yX8_joinsAcross cX8_joinsAcross 4 none 2 [.ref (g 28), .ref (g p1), .ref (g p2)] D cy G (cw g cy cP cLo cHi cpl ctb ctl ctf ctp ctk cts cth cob col cso cha chs cbe ctr cgl cgh cll clh cta cme cps cwh cal cah) (cw g cy ocP ocLo ocHi cpl ctb ctl ctf ctp ctk cts cth cob col cso cha chs cbe ctr cgl cgh cll clh cta cme cps cwh cal cah) none := by
  refine MT.go (own := RX8) [(0, .ref (g 28)), (1, .ref (g p1)), (2, .ref (g p2))] (by decide) rfl (Nat.le_of_ble_eq_true rfl) rfl (fun p l e s m args below meth c A Q C hQ => ?_)
  unfold X8_joinsAcross at hf
  refine jAloadn C dX8_joinsAcross_0 rfl 0 rfl ?_
  refine gf_RX8_16 C dX8_joinsAcross_1 ?_
  refine jAloadn C dX8_joinsAcross_4 rfl 1 rfl ?_
  refine gf_RX8_133 C hp1 dX8_joinsAcross_5 ?_
  obtain ⟨cP_1, cLo_2, cHi_3, e4, hf⟩ := bd3_some hf
  refine jVV C (X0_clear_ok (by decide) e4) vb_X0_clear mk_RX8_146 rfl (rcF (by decide)) ⟨Nat.le_of_ble_eq_true rfl, Nat.le_of_ble_eq_true rfl⟩ rfl (Nat.le_of_ble_eq_true rfl) dX8_joinsAcross_8 ?_
  refine jIconst C (0 : Int32) dX8_joinsAcross_11 ki_0 ?_
  refine jIstoren C dX8_joinsAcross_12 rfl (Nat.le_of_ble_eq_true rfl) [(3, .int (0 : Int32)), (0, .ref (g 28)), (1, .ref (g p1)), (2, .ref (g p2))] rfl ?_
  have hL9 : ∀ (x3_5 : Int32) (cP_6 : Nat → Int32) (cLo_7 : Nat → Int64) (cHi_8 : Nat → Int64), lfp4 (X8_joinsAcross_h13 p2 p1) x3_5 cP_6 cLo_7 cHi_8 = some (ocP, ocLo, ocHi) → J p l e (rmk 2) s m args below meth c D A Q 4 (cw g cy cP_6 cLo_7 cHi_8 cpl ctb ctl ctf ctp ctk cts cth cob col cso cha chs cbe ctr cgl cgh cll clh cta cme cps cwh cal cah) 13 [(0, .ref (g 28)), (1, .ref (g p1)), (2, .ref (g p2)), (3, .int x3_5)] [] := by
    intro x3_5 cP_6 cLo_7 cHi_8 hw
    refine lfp4_walk (P := fun x3_5 cP_6 cLo_7 cHi_8 => J p l e (rmk 2) s m args below meth c D A Q 4 (cw g cy cP_6 cLo_7 cHi_8 cpl ctb ctl ctf ctp ctk cts cth cob col cso cha chs cbe ctr cgl cgh cll clh cta cme cps cwh cal cah) 13 [(0, .ref (g 28)), (1, .ref (g p1)), (2, .ref (g p2)), (3, .int x3_5)] []) ?_ hw
    intro r10 ir10 x3_5 cP_6 cLo_7 cHi_8 hf
    unfold X8_joinsAcross_h13 at hf
    refine jIloadn C dX8_joinsAcross_13 rfl 3 rfl ?_
    refine jAloadn C dX8_joinsAcross_14 rfl 2 rfl ?_
    obtain ⟨q11, e12, hf⟩ := bd1_some hf
    refine jVI C (X0_span_ok hp2 e12) vb_X0_span mk_RX8_270 rfl (rcF hp2) ⟨Nat.le_of_ble_eq_true rfl, Nat.le_of_ble_eq_true rfl⟩ rfl (Nat.le_of_ble_eq_true rfl) dX8_joinsAcross_15 ?_
    refine jCmpGe C 62 dX8_joinsAcross_18 (by decide) (fun c13 => ?_) (fun c13 => ?_)
    · replace hf := itp hf c13
      cases hf
      exact jEndV C hQ rfl dX8_joinsAcross_62
    · replace hf := itn hf c13
      refine jAloadn C dX8_joinsAcross_21 rfl 2 rfl ?_
      refine jIloadn C dX8_joinsAcross_22 rfl 3 rfl ?_
      obtain ⟨q14, e15, hf⟩ := bd1_some hf
      refine jVI C (X0_holds_ok hp2 e15) vb_X0_holds mk_RX8_120 rfl (rcF hp2) ⟨Nat.le_of_ble_eq_true rfl, Nat.le_of_ble_eq_true rfl⟩ rfl (Nat.le_of_ble_eq_true rfl) dX8_joinsAcross_23 ?_
      refine jIfEq C 56 dX8_joinsAcross_26 (by decide) (fun c16 => ?_) (fun c16 => ?_)
      · replace hf := itp hf c16
        refine jIinc C (x3_5 + (1 : Int32)) dX8_joinsAcross_56 3 rfl (congrArg (fun z : Int32 => x3_5 + z) ki_1) (Nat.le_of_ble_eq_true rfl) [(3, .int (x3_5 + (1 : Int32))), (0, .ref (g 28)), (1, .ref (g p1)), (2, .ref (g p2))] rfl ?_
        refine jGoto C 13 dX8_joinsAcross_59 (by decide) ?_
        refine jSub [1, 2, 3, 0] rfl ?_
        exact ir10 (x3_5 + (1 : Int32)) cP_6 cLo_7 cHi_8 hf
      · replace hf := itn hf c16
        refine jAloadn C dX8_joinsAcross_29 rfl 0 rfl ?_
        refine gf_RX8_20 C dX8_joinsAcross_30 ?_
        refine jAloadn C dX8_joinsAcross_33 rfl 1 rfl ?_
        obtain ⟨cP_17, cLo_18, cHi_19, e20, hf⟩ := bd3_some hf
        refine jVV C (X0_become_ok (by decide) hp1 e20) vb_X0_become mk_RX8_152 rfl (rcF (by decide)) ⟨Nat.le_of_ble_eq_true rfl, Nat.le_of_ble_eq_true rfl⟩ rfl (Nat.le_of_ble_eq_true rfl) dX8_joinsAcross_34 ?_
        refine jAloadn C dX8_joinsAcross_37 rfl 0 rfl ?_
        refine gf_RX8_20 C dX8_joinsAcross_38 ?_
        refine jIloadn C dX8_joinsAcross_41 rfl 3 rfl ?_
        obtain ⟨cLo_21, cHi_22, e23, hf⟩ := bd2_some hf
        refine jVV C (X0_widenBy_ok (by decide) e23) vb_X0_widenBy mk_RX8_410 rfl (rcF (by decide)) ⟨Nat.le_of_ble_eq_true rfl, Nat.le_of_ble_eq_true rfl⟩ rfl (Nat.le_of_ble_eq_true rfl) dX8_joinsAcross_42 ?_
        refine jAloadn C dX8_joinsAcross_45 rfl 0 rfl ?_
        refine gf_RX8_16 C dX8_joinsAcross_46 ?_
        refine jAloadn C dX8_joinsAcross_49 rfl 0 rfl ?_
        refine gf_RX8_20 C dX8_joinsAcross_50 ?_
        obtain ⟨cLo_24, cHi_25, e26, hf⟩ := bd2_some hf
        refine jVV C (X0_join_ok (by decide) (by decide) e26) vb_X0_join mk_RX8_286 rfl (rcF (by decide)) ⟨Nat.le_of_ble_eq_true rfl, Nat.le_of_ble_eq_true rfl⟩ rfl (Nat.le_of_ble_eq_true rfl) dX8_joinsAcross_53 ?_
        refine jIinc C (x3_5 + (1 : Int32)) dX8_joinsAcross_56 3 rfl (congrArg (fun z : Int32 => x3_5 + z) ki_1) (Nat.le_of_ble_eq_true rfl) [(3, .int (x3_5 + (1 : Int32))), (0, .ref (g 28)), (1, .ref (g p1)), (2, .ref (g p2))] rfl ?_
        refine jGoto C 13 dX8_joinsAcross_59 (by decide) ?_
        refine jSub [1, 2, 3, 0] rfl ?_
        exact ir10 (x3_5 + (1 : Int32)) cP_17 cLo_24 cHi_25 hf
  refine jSub [1, 2, 3, 0] rfl ?_
  exact hL9 (0 : Int32) cP_1 cLo_2 cHi_3 hf
noncomputable def X8_joint (cP : Nat → Int32) (cLo : Nat → Int64) (cHi : Nat → Int64) (cso : Nat → Int32) (cha : Int32) (chs : Int32) (p1 : Int32) (p2 : Int32) (p3 : Int32) (p4 : Int32) : Option (Int32 × (Nat → Int32) × (Nat → Int64) × (Nat → Int64) × (Nat → Int32) × Int32 × Int32) := bdo (X8_familyAt cP p1) (bdo (X8_familyAt cP p2) (some ((-2 : Int32), cP, cLo, cHi, cso, cha, chs)) (fun f3 => some ((-2 : Int32), cP, cLo, cHi, cso, cha, chs))) (fun f1 => bdo (X8_familyAt cP p2) (some ((-2 : Int32), cP, cLo, cHi, cso, cha, chs)) (fun f5 => (if p3 < (0 : Int32) then some ((-2 : Int32), cP, cLo, cHi, cso, cha, chs) else (if (3 : Int32) < p3 then some ((-2 : Int32), cP, cLo, cHi, cso, cha, chs) else bd1 (X8_isSlot p4) (fun q9 => (if q9 = (0 : Int32) then some ((-2 : Int32), cP, cLo, cHi, cso, cha, chs) else (if (cP f1) = (cP f5) then bd3 (X0_become cP cLo cHi 3 f1) (fun cP_13 cLo_14 cHi_15 => (if p3 = (0 : Int32) then bd2 (X0_join cLo_14 cHi_15 3 f5) (fun cLo_18 cHi_19 => bd7 (X8_comesInto cP_13 cLo_18 cHi_19 cso cha chs p4 3) (fun q21 cP_22 cLo_23 cHi_24 cso_25 cha_26 chs_27 => some (q21, cP_22, cLo_23, cHi_24, cso_25, cha_26, chs_27))) else (if p3 = (1 : Int32) then bd2 (X0_keep cLo_14 cHi_15 3 f5) (fun cLo_30 cHi_31 => bd7 (X8_comesInto cP_13 cLo_30 cHi_31 cso cha chs p4 3) (fun q33 cP_34 cLo_35 cHi_36 cso_37 cha_38 chs_39 => some (q33, cP_34, cLo_35, cHi_36, cso_37, cha_38, chs_39))) else (if p3 = (2 : Int32) then bd2 (X0_lose cLo_14 cHi_15 3 f5) (fun cLo_42 cHi_43 => bd7 (X8_comesInto cP_13 cLo_42 cHi_43 cso cha chs p4 3) (fun q45 cP_46 cLo_47 cHi_48 cso_49 cha_50 chs_51 => some (q45, cP_46, cLo_47, cHi_48, cso_49, cha_50, chs_51))) else bd3 (X8_joinsAcross cP_13 cLo_14 cHi_15 f1 f5) (fun cP_53 cLo_54 cHi_55 => bd7 (X8_comesInto cP_53 cLo_54 cHi_55 cso cha chs p4 3) (fun q57 cP_58 cLo_59 cHi_60 cso_61 cha_62 chs_63 => some (q57, cP_58, cLo_59, cHi_60, cso_61, cha_62, chs_63))))))) else some ((-6 : Int32), cP, cLo, cHi, cso, cha, chs))))))))
set_option maxHeartbeats 4000000 in
set_option maxRecDepth 20000 in
theorem X8_joint_ok {p1 : Int32} {p2 : Int32} {p3 : Int32} {p4 : Int32} {rr : Int32} {ocP : Nat → Int32} {ocLo : Nat → Int64} {ocHi : Nat → Int64} {ocso : Nat → Int32} {ocha : Int32} {ochs : Int32}  (hf : X8_joint cP cLo cHi cso cha chs p1 p2 p3 p4 = some (rr, ocP, ocLo, ocHi, ocso, ocha, ochs)) : MT yX8_joint cX8_joint 7 (some .int) 3 [.ref (g 28), .int p1, .int p2, .int p3, .int p4] D cy G (cw g cy cP cLo cHi cpl ctb ctl ctf ctp ctk cts cth cob col cso cha chs cbe ctr cgl cgh cll clh cta cme cps cwh cal cah) (cw g cy ocP ocLo ocHi cpl ctb ctl ctf ctp ctk cts cth cob col ocso ocha ochs cbe ctr cgl cgh cll clh cta cme cps cwh cal cah) (some (.int rr)) := by
  refine MT.go (own := RX8) [(0, .ref (g 28)), (1, .int p1), (2, .int p2), (3, .int p3), (4, .int p4)] (by decide) rfl (Nat.le_of_ble_eq_true rfl) rfl (fun p l e s m args below meth c A Q C hQ => ?_)
  unfold X8_joint at hf
  refine jAloadn C dX8_joint_0 rfl 0 rfl ?_
  refine jIloadn C dX8_joint_1 rfl 1 rfl ?_
  rcases bdo_some hf with ⟨q2, hf⟩ | ⟨f1, q2, hf⟩
  · refine jVN C (X8_familyAt_ok  q2) vb_X8_familyAt mk_RX8_102 rfl rc28 ⟨Nat.le_of_ble_eq_true rfl, Nat.le_of_ble_eq_true rfl⟩ rfl (Nat.le_of_ble_eq_true rfl) dX8_joint_2 ?_
    refine jAstoreN C dX8_joint_5 (Nat.le_of_ble_eq_true rfl) [(5, .null), (0, .ref (g 28)), (1, .int p1), (2, .int p2), (3, .int p3), (4, .int p4)] rfl ?_
    refine jAloadn C dX8_joint_7 rfl 1 rfl ?_
    refine jIloadn C dX8_joint_8 rfl 3 rfl ?_
    rcases bdo_some hf with ⟨q4, hf⟩ | ⟨f3, q4, hf⟩
    · refine jVN C (X8_familyAt_ok  q4) vb_X8_familyAt mk_RX8_102 rfl rc28 ⟨Nat.le_of_ble_eq_true rfl, Nat.le_of_ble_eq_true rfl⟩ rfl (Nat.le_of_ble_eq_true rfl) dX8_joint_9 ?_
      refine jAstoreN C dX8_joint_12 (Nat.le_of_ble_eq_true rfl) [(6, .null), (5, .null), (0, .ref (g 28)), (1, .int p1), (2, .int p2), (3, .int p3), (4, .int p4)] rfl ?_
      refine jAloadN C dX8_joint_14 1 rfl ?_
      refine jIfnullN C 41 dX8_joint_16 (by decide) ?_
      refine jBipush C (-2 : Int32) dX8_joint_41 kb_m2 ?_
      cases hf
      exact jEndI C hQ rfl dX8_joint_43
    · refine jVA C (X8_familyAt_ok  q4) vb_X8_familyAt mk_RX8_102 rfl rc28 ⟨Nat.le_of_ble_eq_true rfl, Nat.le_of_ble_eq_true rfl⟩ rfl (Nat.le_of_ble_eq_true rfl) dX8_joint_9 ?_
      refine jAstore C dX8_joint_12 (Nat.le_of_ble_eq_true rfl) [(6, .ref (g f3)), (5, .null), (0, .ref (g 28)), (1, .int p1), (2, .int p2), (3, .int p3), (4, .int p4)] rfl ?_
      refine jAloadN C dX8_joint_14 1 rfl ?_
      refine jIfnullN C 41 dX8_joint_16 (by decide) ?_
      refine jBipush C (-2 : Int32) dX8_joint_41 kb_m2 ?_
      cases hf
      exact jEndI C hQ rfl dX8_joint_43
  · refine jVA C (X8_familyAt_ok  q2) vb_X8_familyAt mk_RX8_102 rfl rc28 ⟨Nat.le_of_ble_eq_true rfl, Nat.le_of_ble_eq_true rfl⟩ rfl (Nat.le_of_ble_eq_true rfl) dX8_joint_2 ?_
    refine jAstore C dX8_joint_5 (Nat.le_of_ble_eq_true rfl) [(5, .ref (g f1)), (0, .ref (g 28)), (1, .int p1), (2, .int p2), (3, .int p3), (4, .int p4)] rfl ?_
    refine jAloadn C dX8_joint_7 rfl 1 rfl ?_
    refine jIloadn C dX8_joint_8 rfl 3 rfl ?_
    rcases bdo_some hf with ⟨q6, hf⟩ | ⟨f5, q6, hf⟩
    · refine jVN C (X8_familyAt_ok  q6) vb_X8_familyAt mk_RX8_102 rfl rc28 ⟨Nat.le_of_ble_eq_true rfl, Nat.le_of_ble_eq_true rfl⟩ rfl (Nat.le_of_ble_eq_true rfl) dX8_joint_9 ?_
      refine jAstoreN C dX8_joint_12 (Nat.le_of_ble_eq_true rfl) [(6, .null), (5, .ref (g f1)), (0, .ref (g 28)), (1, .int p1), (2, .int p2), (3, .int p3), (4, .int p4)] rfl ?_
      refine jAload C dX8_joint_14 1 rfl ?_
      refine jIfnull C dX8_joint_16 ?_
      refine jAloadN C dX8_joint_19 0 rfl ?_
      refine jIfnullN C 41 dX8_joint_21 (by decide) ?_
      refine jBipush C (-2 : Int32) dX8_joint_41 kb_m2 ?_
      cases hf
      exact jEndI C hQ rfl dX8_joint_43
    · refine jVA C (X8_familyAt_ok  q6) vb_X8_familyAt mk_RX8_102 rfl rc28 ⟨Nat.le_of_ble_eq_true rfl, Nat.le_of_ble_eq_true rfl⟩ rfl (Nat.le_of_ble_eq_true rfl) dX8_joint_9 ?_
      refine jAstore C dX8_joint_12 (Nat.le_of_ble_eq_true rfl) [(6, .ref (g f5)), (5, .ref (g f1)), (0, .ref (g 28)), (1, .int p1), (2, .int p2), (3, .int p3), (4, .int p4)] rfl ?_
      refine jAload C dX8_joint_14 1 rfl ?_
      refine jIfnull C dX8_joint_16 ?_
      refine jAload C dX8_joint_19 0 rfl ?_
      refine jIfnull C dX8_joint_21 ?_
      refine jIloadn C dX8_joint_24 rfl 5 rfl ?_
      refine jIfLt C 41 dX8_joint_25 (by decide) (fun c7 => ?_) (fun c7 => ?_)
      · replace hf := itp hf c7
        refine jBipush C (-2 : Int32) dX8_joint_41 kb_m2 ?_
        cases hf
        exact jEndI C hQ rfl dX8_joint_43
      · replace hf := itn hf c7
        refine jIloadn C dX8_joint_28 rfl 5 rfl ?_
        refine jIconst C (3 : Int32) dX8_joint_29 ki_3 ?_
        refine jCmpGt C 41 dX8_joint_30 (by decide) (fun c8 => ?_) (fun c8 => ?_)
        · replace hf := itp hf c8
          refine jBipush C (-2 : Int32) dX8_joint_41 kb_m2 ?_
          cases hf
          exact jEndI C hQ rfl dX8_joint_43
        · replace hf := itn hf c8
          refine jIload C dX8_joint_33 6 rfl ?_
          obtain ⟨q9, e10, hf⟩ := bd1_some hf
          refine jSI C (X8_isSlot_ok  e10) sb_X8_isSlot mk_RX8_77 rfl ⟨Nat.le_of_ble_eq_true rfl, Nat.le_of_ble_eq_true rfl⟩ rfl (Nat.le_of_ble_eq_true rfl) dX8_joint_35 ?_
          refine jIfNe C 44 dX8_joint_38 (by decide) (fun c11 => ?_) (fun c11 => ?_)
          · replace hf := itn hf c11
            refine jAload C dX8_joint_44 1 rfl ?_
            refine gf_RX8_133 C (X8_familyAt_lt q2) dX8_joint_46 ?_
            refine jAload C dX8_joint_49 0 rfl ?_
            refine gf_RX8_133 C (X8_familyAt_lt q6) dX8_joint_51 ?_
            refine jCmpEq C 60 dX8_joint_54 (by decide) (fun c12 => ?_) (fun c12 => ?_)
            · replace hf := itp hf c12
              refine jAloadn C dX8_joint_60 rfl 2 rfl ?_
              refine gf_RX8_16 C dX8_joint_61 ?_
              refine jAload C dX8_joint_64 1 rfl ?_
              obtain ⟨cP_13, cLo_14, cHi_15, e16, hf⟩ := bd3_some hf
              refine jVV C (X0_become_ok (by decide) (X8_familyAt_lt q2) e16) vb_X0_become mk_RX8_152 rfl (rcF (by decide)) ⟨Nat.le_of_ble_eq_true rfl, Nat.le_of_ble_eq_true rfl⟩ rfl (Nat.le_of_ble_eq_true rfl) dX8_joint_66 ?_
              refine jIloadn C dX8_joint_69 rfl 5 rfl ?_
              by_cases c17 : p3 = (0 : Int32)
              · replace hf := itp hf c17
                refine jTabIn C 96 dX8_joint_70 (by rw [c17]; decide) (by rw [c17]; decide) (by rw [c17]; rfl) (by decide) ?_
                refine jAloadn C dX8_joint_96 rfl 2 rfl ?_
                refine gf_RX8_16 C dX8_joint_97 ?_
                refine jAload C dX8_joint_100 0 rfl ?_
                obtain ⟨cLo_18, cHi_19, e20, hf⟩ := bd2_some hf
                refine jVV C (X0_join_ok (by decide) (X8_familyAt_lt q6) e20) vb_X0_join mk_RX8_286 rfl (rcF (by decide)) ⟨Nat.le_of_ble_eq_true rfl, Nat.le_of_ble_eq_true rfl⟩ rfl (Nat.le_of_ble_eq_true rfl) dX8_joint_102 ?_
                refine jGoto C 140 dX8_joint_105 (by decide) ?_
                refine jAloadn C dX8_joint_140 rfl 2 rfl ?_
                refine jIload C dX8_joint_141 6 rfl ?_
                refine jAloadn C dX8_joint_143 rfl 2 rfl ?_
                refine gf_RX8_16 C dX8_joint_144 ?_
                obtain ⟨q21, cP_22, cLo_23, cHi_24, cso_25, cha_26, chs_27, e28, hf⟩ := bd7_some hf
                refine jVI C (X8_comesInto_ok (by decide) e28) vb_X8_comesInto mk_RX8_84 rfl rc28 ⟨Nat.le_of_ble_eq_true rfl, Nat.le_of_ble_eq_true rfl⟩ rfl (Nat.le_of_ble_eq_true rfl) dX8_joint_147 ?_
                cases hf
                exact jEndI C hQ rfl dX8_joint_150
              replace hf := itn hf c17
              by_cases c29 : p3 = (1 : Int32)
              · replace hf := itp hf c29
                refine jTabIn C 108 dX8_joint_70 (by rw [c29]; decide) (by rw [c29]; decide) (by rw [c29]; rfl) (by decide) ?_
                refine jAloadn C dX8_joint_108 rfl 2 rfl ?_
                refine gf_RX8_16 C dX8_joint_109 ?_
                refine jAload C dX8_joint_112 0 rfl ?_
                obtain ⟨cLo_30, cHi_31, e32, hf⟩ := bd2_some hf
                refine jVV C (X0_keep_ok (by decide) (X8_familyAt_lt q6) e32) vb_X0_keep mk_RX8_283 rfl (rcF (by decide)) ⟨Nat.le_of_ble_eq_true rfl, Nat.le_of_ble_eq_true rfl⟩ rfl (Nat.le_of_ble_eq_true rfl) dX8_joint_114 ?_
                refine jGoto C 140 dX8_joint_117 (by decide) ?_
                refine jAloadn C dX8_joint_140 rfl 2 rfl ?_
                refine jIload C dX8_joint_141 6 rfl ?_
                refine jAloadn C dX8_joint_143 rfl 2 rfl ?_
                refine gf_RX8_16 C dX8_joint_144 ?_
                obtain ⟨q33, cP_34, cLo_35, cHi_36, cso_37, cha_38, chs_39, e40, hf⟩ := bd7_some hf
                refine jVI C (X8_comesInto_ok (by decide) e40) vb_X8_comesInto mk_RX8_84 rfl rc28 ⟨Nat.le_of_ble_eq_true rfl, Nat.le_of_ble_eq_true rfl⟩ rfl (Nat.le_of_ble_eq_true rfl) dX8_joint_147 ?_
                cases hf
                exact jEndI C hQ rfl dX8_joint_150
              replace hf := itn hf c29
              by_cases c41 : p3 = (2 : Int32)
              · replace hf := itp hf c41
                refine jTabIn C 120 dX8_joint_70 (by rw [c41]; decide) (by rw [c41]; decide) (by rw [c41]; rfl) (by decide) ?_
                refine jAloadn C dX8_joint_120 rfl 2 rfl ?_
                refine gf_RX8_16 C dX8_joint_121 ?_
                refine jAload C dX8_joint_124 0 rfl ?_
                obtain ⟨cLo_42, cHi_43, e44, hf⟩ := bd2_some hf
                refine jVV C (X0_lose_ok (by decide) (X8_familyAt_lt q6) e44) vb_X0_lose mk_RX8_310 rfl (rcF (by decide)) ⟨Nat.le_of_ble_eq_true rfl, Nat.le_of_ble_eq_true rfl⟩ rfl (Nat.le_of_ble_eq_true rfl) dX8_joint_126 ?_
                refine jGoto C 140 dX8_joint_129 (by decide) ?_
                refine jAloadn C dX8_joint_140 rfl 2 rfl ?_
                refine jIload C dX8_joint_141 6 rfl ?_
                refine jAloadn C dX8_joint_143 rfl 2 rfl ?_
                refine gf_RX8_16 C dX8_joint_144 ?_
                obtain ⟨q45, cP_46, cLo_47, cHi_48, cso_49, cha_50, chs_51, e52, hf⟩ := bd7_some hf
                refine jVI C (X8_comesInto_ok (by decide) e52) vb_X8_comesInto mk_RX8_84 rfl rc28 ⟨Nat.le_of_ble_eq_true rfl, Nat.le_of_ble_eq_true rfl⟩ rfl (Nat.le_of_ble_eq_true rfl) dX8_joint_147 ?_
                cases hf
                exact jEndI C hQ rfl dX8_joint_150
              replace hf := itn hf c41
              refine jTabOut C 132 dX8_joint_70 (by have ac17 := lv_neT (a := 0) c17 (by decide); have ac29 := lv_neT (a := 1) c29 (by decide); have ac41 := lv_neT (a := 2) c41 (by decide); omega) (by decide) ?_
              refine jAloadn C dX8_joint_132 rfl 2 rfl ?_
              refine jAload C dX8_joint_133 1 rfl ?_
              refine jAload C dX8_joint_135 0 rfl ?_
              obtain ⟨cP_53, cLo_54, cHi_55, e56, hf⟩ := bd3_some hf
              refine jVV C (X8_joinsAcross_ok (X8_familyAt_lt q2) (X8_familyAt_lt q6) e56) vb_X8_joinsAcross mk_RX8_328 rfl rc28 ⟨Nat.le_of_ble_eq_true rfl, Nat.le_of_ble_eq_true rfl⟩ rfl (Nat.le_of_ble_eq_true rfl) dX8_joint_137 ?_
              refine jAloadn C dX8_joint_140 rfl 2 rfl ?_
              refine jIload C dX8_joint_141 6 rfl ?_
              refine jAloadn C dX8_joint_143 rfl 2 rfl ?_
              refine gf_RX8_16 C dX8_joint_144 ?_
              obtain ⟨q57, cP_58, cLo_59, cHi_60, cso_61, cha_62, chs_63, e64, hf⟩ := bd7_some hf
              refine jVI C (X8_comesInto_ok (by decide) e64) vb_X8_comesInto mk_RX8_84 rfl rc28 ⟨Nat.le_of_ble_eq_true rfl, Nat.le_of_ble_eq_true rfl⟩ rfl (Nat.le_of_ble_eq_true rfl) dX8_joint_147 ?_
              cases hf
              exact jEndI C hQ rfl dX8_joint_150
            · replace hf := itn hf c12
              refine jBipush C (-6 : Int32) dX8_joint_57 kb_m6 ?_
              cases hf
              exact jEndI C hQ rfl dX8_joint_59
          · replace hf := itp hf c11
            refine jBipush C (-2 : Int32) dX8_joint_41 kb_m2 ?_
            cases hf
            exact jEndI C hQ rfl dX8_joint_43
noncomputable def X8_rank_h18 (p1 : Int32) (r6 : Int32 → Int32 → Option Int32) (x2_3 : Int32) (x3_4 : Int32) : Option Int32 := (if p1 ≤ x3_4 then some x2_3 else bd1 (J6_bitCount_0f7a4 x3_4) (fun q8 => bd1 (J6_bitCount_0f7a4 p1) (fun q10 => (if q8 = q10 then r6 (x2_3 + (1 : Int32)) (x3_4 + (1 : Int32)) else r6 x2_3 (x3_4 + (1 : Int32))))))
noncomputable def X8_rank (p1 : Int32) : Option Int32 := (if p1 < (0 : Int32) then some (-2 : Int32) else (if p1 < (128 : Int32) then lfp2 (X8_rank_h18 p1) (0 : Int32) (0 : Int32) else some (-2 : Int32)))
set_option maxHeartbeats 4000000 in
set_option maxRecDepth 20000 in
theorem X8_rank_ok {p1 : Int32} {rr : Int32}  (hf : X8_rank p1 = some rr) : MT yX8_rank cX8_rank 4 (some .int) 1 [.ref (g 28), .int p1] D cy G (cw g cy cP cLo cHi cpl ctb ctl ctf ctp ctk cts cth cob col cso cha chs cbe ctr cgl cgh cll clh cta cme cps cwh cal cah) (cw g cy cP cLo cHi cpl ctb ctl ctf ctp ctk cts cth cob col cso cha chs cbe ctr cgl cgh cll clh cta cme cps cwh cal cah) (some (.int rr)) := by
  refine MT.go (own := RX8) [(0, .ref (g 28)), (1, .int p1)] (by decide) rfl (Nat.le_of_ble_eq_true rfl) rfl (fun p l e s m args below meth c A Q C hQ => ?_)
  unfold X8_rank at hf
  refine jIloadn C dX8_rank_0 rfl 1 rfl ?_
  refine jIfLt C 11 dX8_rank_1 (by decide) (fun c1 => ?_) (fun c1 => ?_)
  · replace hf := itp hf c1
    refine jBipush C (-2 : Int32) dX8_rank_11 kb_m2 ?_
    cases hf
    exact jEndI C hQ rfl dX8_rank_13
  · replace hf := itn hf c1
    refine jIloadn C dX8_rank_4 rfl 1 rfl ?_
    refine jSipush C (128 : Int32) dX8_rank_5 ks_128 ?_
    refine jCmpLt C 14 dX8_rank_8 (by decide) (fun c2 => ?_) (fun c2 => ?_)
    · replace hf := itp hf c2
      refine jIconst C (0 : Int32) dX8_rank_14 ki_0 ?_
      refine jIstoren C dX8_rank_15 rfl (Nat.le_of_ble_eq_true rfl) [(2, .int (0 : Int32)), (0, .ref (g 28)), (1, .int p1)] rfl ?_
      refine jIconst C (0 : Int32) dX8_rank_16 ki_0 ?_
      refine jIstoren C dX8_rank_17 rfl (Nat.le_of_ble_eq_true rfl) [(3, .int (0 : Int32)), (2, .int (0 : Int32)), (0, .ref (g 28)), (1, .int p1)] rfl ?_
      have hL5 : ∀ (x2_3 : Int32) (x3_4 : Int32), lfp2 (X8_rank_h18 p1) x2_3 x3_4 = some rr → J p l e (rmk 1) s m args below meth c D A Q 4 (cw g cy cP cLo cHi cpl ctb ctl ctf ctp ctk cts cth cob col cso cha chs cbe ctr cgl cgh cll clh cta cme cps cwh cal cah) 18 [(1, .int p1), (2, .int x2_3), (3, .int x3_4)] [] := by
        intro x2_3 x3_4 hw
        refine lfp2_walk (P := fun x2_3 x3_4 => J p l e (rmk 1) s m args below meth c D A Q 4 (cw g cy cP cLo cHi cpl ctb ctl ctf ctp ctk cts cth cob col cso cha chs cbe ctr cgl cgh cll clh cta cme cps cwh cal cah) 18 [(1, .int p1), (2, .int x2_3), (3, .int x3_4)] []) ?_ hw
        intro r6 ir6 x2_3 x3_4 hf
        unfold X8_rank_h18 at hf
        refine jIloadn C dX8_rank_18 rfl 2 rfl ?_
        refine jIloadn C dX8_rank_19 rfl 0 rfl ?_
        refine jCmpGe C 43 dX8_rank_20 (by decide) (fun c7 => ?_) (fun c7 => ?_)
        · replace hf := itp hf c7
          refine jIloadn C dX8_rank_43 rfl 1 rfl ?_
          cases hf
          exact jEndI C hQ rfl dX8_rank_44
        · replace hf := itn hf c7
          refine jIloadn C dX8_rank_23 rfl 2 rfl ?_
          obtain ⟨q8, e9, hf⟩ := bd1_some hf
          refine jSI C (J6_bitCount_0f7a4_ok  e9) sb_J6_bitCount_0f7a4 mk_RX8_190 rfl ⟨Nat.le_of_ble_eq_true rfl, Nat.le_of_ble_eq_true rfl⟩ rfl (Nat.le_of_ble_eq_true rfl) dX8_rank_24 ?_
          refine jIloadn C dX8_rank_27 rfl 0 rfl ?_
          obtain ⟨q10, e11, hf⟩ := bd1_some hf
          refine jSI C (J6_bitCount_0f7a4_ok  e11) sb_J6_bitCount_0f7a4 mk_RX8_190 rfl ⟨Nat.le_of_ble_eq_true rfl, Nat.le_of_ble_eq_true rfl⟩ rfl (Nat.le_of_ble_eq_true rfl) dX8_rank_28 ?_
          refine jCmpNe C 37 dX8_rank_31 (by decide) (fun c12 => ?_) (fun c12 => ?_)
          · replace hf := itn hf c12
            refine jIinc C (x3_4 + (1 : Int32)) dX8_rank_37 2 rfl (congrArg (fun z : Int32 => x3_4 + z) ki_1) (Nat.le_of_ble_eq_true rfl) [(3, .int (x3_4 + (1 : Int32))), (1, .int p1), (2, .int x2_3)] rfl ?_
            refine jGoto C 18 dX8_rank_40 (by decide) ?_
            refine jSub [1, 2, 0] rfl ?_
            exact ir6 x2_3 (x3_4 + (1 : Int32)) hf
          · replace hf := itp hf c12
            refine jIinc C (x2_3 + (1 : Int32)) dX8_rank_34 1 rfl (congrArg (fun z : Int32 => x2_3 + z) ki_1) (Nat.le_of_ble_eq_true rfl) [(2, .int (x2_3 + (1 : Int32))), (1, .int p1), (3, .int x3_4)] rfl ?_
            refine jIinc C (x3_4 + (1 : Int32)) dX8_rank_37 2 rfl (congrArg (fun z : Int32 => x3_4 + z) ki_1) (Nat.le_of_ble_eq_true rfl) [(3, .int (x3_4 + (1 : Int32))), (2, .int (x2_3 + (1 : Int32))), (1, .int p1)] rfl ?_
            refine jGoto C 18 dX8_rank_40 (by decide) ?_
            refine jSub [2, 1, 0] rfl ?_
            exact ir6 (x2_3 + (1 : Int32)) (x3_4 + (1 : Int32)) hf
      refine jSub [3, 1, 0] rfl ?_
      exact hL5 (0 : Int32) (0 : Int32) hf
    · replace hf := itn hf c2
      refine jBipush C (-2 : Int32) dX8_rank_11 kb_m2 ?_
      cases hf
      exact jEndI C hQ rfl dX8_rank_13
noncomputable def X8_ranked_h22 (p1 : Int32) (p2 : Int32) (r7 : Int32 → Int32 → Option Int32) (x3_4 : Int32) (x4_5 : Int32) : Option Int32 := (if (128 : Int32) ≤ x4_5 then some (-1 : Int32) else bd1 (J6_bitCount_0f7a4 x4_5) (fun q9 => (if q9 = p1 then (if x3_4 = p2 then some x4_5 else r7 (x3_4 + (1 : Int32)) (x4_5 + (1 : Int32))) else r7 x3_4 (x4_5 + (1 : Int32)))))
noncomputable def X8_ranked (p1 : Int32) (p2 : Int32) : Option Int32 := (if p1 < (0 : Int32) then some (-2 : Int32) else (if (7 : Int32) < p1 then some (-2 : Int32) else (if (0 : Int32) ≤ p2 then lfp2 (X8_ranked_h22 p1 p2) (0 : Int32) (0 : Int32) else some (-2 : Int32))))
set_option maxHeartbeats 4000000 in
set_option maxRecDepth 20000 in
theorem X8_ranked_ok {p1 : Int32} {p2 : Int32} {rr : Int32}  (hf : X8_ranked p1 p2 = some rr) : MT yX8_ranked cX8_ranked 5 (some .int) 1 [.ref (g 28), .int p1, .int p2] D cy G (cw g cy cP cLo cHi cpl ctb ctl ctf ctp ctk cts cth cob col cso cha chs cbe ctr cgl cgh cll clh cta cme cps cwh cal cah) (cw g cy cP cLo cHi cpl ctb ctl ctf ctp ctk cts cth cob col cso cha chs cbe ctr cgl cgh cll clh cta cme cps cwh cal cah) (some (.int rr)) := by
  refine MT.go (own := RX8) [(0, .ref (g 28)), (1, .int p1), (2, .int p2)] (by decide) rfl (Nat.le_of_ble_eq_true rfl) rfl (fun p l e s m args below meth c A Q C hQ => ?_)
  unfold X8_ranked at hf
  refine jIloadn C dX8_ranked_0 rfl 1 rfl ?_
  refine jIfLt C 14 dX8_ranked_1 (by decide) (fun c1 => ?_) (fun c1 => ?_)
  · replace hf := itp hf c1
    refine jBipush C (-2 : Int32) dX8_ranked_14 kb_m2 ?_
    cases hf
    exact jEndI C hQ rfl dX8_ranked_16
  · replace hf := itn hf c1
    refine jIloadn C dX8_ranked_4 rfl 1 rfl ?_
    refine jBipush C (7 : Int32) dX8_ranked_5 kb_7 ?_
    refine jCmpGt C 14 dX8_ranked_7 (by decide) (fun c2 => ?_) (fun c2 => ?_)
    · replace hf := itp hf c2
      refine jBipush C (-2 : Int32) dX8_ranked_14 kb_m2 ?_
      cases hf
      exact jEndI C hQ rfl dX8_ranked_16
    · replace hf := itn hf c2
      refine jIloadn C dX8_ranked_10 rfl 2 rfl ?_
      refine jIfGe C 17 dX8_ranked_11 (by decide) (fun c3 => ?_) (fun c3 => ?_)
      · replace hf := itp hf c3
        refine jIconst C (0 : Int32) dX8_ranked_17 ki_0 ?_
        refine jIstoren C dX8_ranked_18 rfl (Nat.le_of_ble_eq_true rfl) [(3, .int (0 : Int32)), (0, .ref (g 28)), (1, .int p1), (2, .int p2)] rfl ?_
        refine jIconst C (0 : Int32) dX8_ranked_19 ki_0 ?_
        refine jIstore C dX8_ranked_20 (Nat.le_of_ble_eq_true rfl) [(4, .int (0 : Int32)), (3, .int (0 : Int32)), (0, .ref (g 28)), (1, .int p1), (2, .int p2)] rfl ?_
        have hL6 : ∀ (x3_4 : Int32) (x4_5 : Int32), lfp2 (X8_ranked_h22 p1 p2) x3_4 x4_5 = some rr → J p l e (rmk 1) s m args below meth c D A Q 5 (cw g cy cP cLo cHi cpl ctb ctl ctf ctp ctk cts cth cob col cso cha chs cbe ctr cgl cgh cll clh cta cme cps cwh cal cah) 22 [(1, .int p1), (2, .int p2), (3, .int x3_4), (4, .int x4_5)] [] := by
          intro x3_4 x4_5 hw
          refine lfp2_walk (P := fun x3_4 x4_5 => J p l e (rmk 1) s m args below meth c D A Q 5 (cw g cy cP cLo cHi cpl ctb ctl ctf ctp ctk cts cth cob col cso cha chs cbe ctr cgl cgh cll clh cta cme cps cwh cal cah) 22 [(1, .int p1), (2, .int p2), (3, .int x3_4), (4, .int x4_5)] []) ?_ hw
          intro r7 ir7 x3_4 x4_5 hf
          unfold X8_ranked_h22 at hf
          refine jIload C dX8_ranked_22 3 rfl ?_
          refine jSipush C (128 : Int32) dX8_ranked_24 ks_128 ?_
          refine jCmpGe C 56 dX8_ranked_27 (by decide) (fun c8 => ?_) (fun c8 => ?_)
          · replace hf := itp hf c8
            refine jIconst C (-1 : Int32) dX8_ranked_56 ki_m1 ?_
            cases hf
            exact jEndI C hQ rfl dX8_ranked_57
          · replace hf := itn hf c8
            refine jIload C dX8_ranked_30 3 rfl ?_
            obtain ⟨q9, e10, hf⟩ := bd1_some hf
            refine jSI C (J6_bitCount_0f7a4_ok  e10) sb_J6_bitCount_0f7a4 mk_RX8_190 rfl ⟨Nat.le_of_ble_eq_true rfl, Nat.le_of_ble_eq_true rfl⟩ rfl (Nat.le_of_ble_eq_true rfl) dX8_ranked_32 ?_
            refine jIloadn C dX8_ranked_35 rfl 0 rfl ?_
            refine jCmpNe C 50 dX8_ranked_36 (by decide) (fun c11 => ?_) (fun c11 => ?_)
            · replace hf := itn hf c11
              refine jIinc C (x4_5 + (1 : Int32)) dX8_ranked_50 3 rfl (congrArg (fun z : Int32 => x4_5 + z) ki_1) (Nat.le_of_ble_eq_true rfl) [(4, .int (x4_5 + (1 : Int32))), (1, .int p1), (2, .int p2), (3, .int x3_4)] rfl ?_
              refine jGoto C 22 dX8_ranked_53 (by decide) ?_
              refine jSub [1, 2, 3, 0] rfl ?_
              exact ir7 x3_4 (x4_5 + (1 : Int32)) hf
            · replace hf := itp hf c11
              refine jIloadn C dX8_ranked_39 rfl 2 rfl ?_
              refine jIloadn C dX8_ranked_40 rfl 1 rfl ?_
              refine jCmpNe C 47 dX8_ranked_41 (by decide) (fun c12 => ?_) (fun c12 => ?_)
              · replace hf := itn hf c12
                refine jIinc C (x3_4 + (1 : Int32)) dX8_ranked_47 2 rfl (congrArg (fun z : Int32 => x3_4 + z) ki_1) (Nat.le_of_ble_eq_true rfl) [(3, .int (x3_4 + (1 : Int32))), (1, .int p1), (2, .int p2), (4, .int x4_5)] rfl ?_
                refine jIinc C (x4_5 + (1 : Int32)) dX8_ranked_50 3 rfl (congrArg (fun z : Int32 => x4_5 + z) ki_1) (Nat.le_of_ble_eq_true rfl) [(4, .int (x4_5 + (1 : Int32))), (3, .int (x3_4 + (1 : Int32))), (1, .int p1), (2, .int p2)] rfl ?_
                refine jGoto C 22 dX8_ranked_53 (by decide) ?_
                refine jSub [2, 3, 1, 0] rfl ?_
                exact ir7 (x3_4 + (1 : Int32)) (x4_5 + (1 : Int32)) hf
              · replace hf := itp hf c12
                refine jIload C dX8_ranked_44 3 rfl ?_
                cases hf
                exact jEndI C hQ rfl dX8_ranked_46
        refine jSub [3, 4, 1, 0] rfl ?_
        exact hL6 (0 : Int32) (0 : Int32) hf
      · replace hf := itn hf c3
        refine jBipush C (-2 : Int32) dX8_ranked_14 kb_m2 ?_
        cases hf
        exact jEndI C hQ rfl dX8_ranked_16
end WK
