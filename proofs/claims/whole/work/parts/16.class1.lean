section WK
variable {g h : Nat → Nat} {cP : Nat → Int32} {cLo : Nat → Int64} {cHi : Nat → Int64} {cpl : Nat → Int32} {ctb : Nat → Int32} {ctl : Int32} {ctf : Int32} {ctp : Int32} {ctk : Int32} {cts : Int32} {cth : Int32} {cob : Nat → Int32} {col : Int32} {cso : Nat → Int32} {cha : Int32} {chs : Int32} {cbe : Int32} {ctr : Int32} {cgl : Nat → Int64} {cgh : Nat → Int64} {cll : Nat → Int64} {clh : Nat → Int64} {cta : Nat → Int32} {cme : Nat → Int32} {cps : Int32} {cwh : Nat → Int32} {cal : Nat → Int64} {cah : Nat → Int64} {mthr : Int32} {mfrp : Int32} {mact : Int32} {mtpd : Int32} {msiz : Int32} {matx : Int32} {mfrm : Int32} {mtok : Int32} {mval : Int32} {mfk : Int32} {mfpl : Int32} {mbem : Int32} {mtrs : Int32} {mtrl : Int32} {mrom : Int32} {mtom : Int32} {mnow : Nat → Int32} {mfre : Nat → Int32} {mkep : Nat → Int32} {mtap : Nat → Int32} {mlef : Nat → Int32} {mtak : Nat → Int32} {mbes : Nat → Int32} {mrow : Nat → Int32} {mint : Nat → Int32} {mrnd : Nat → Int32} {mplo : Nat → Int32} {mhio : Nat → Int32} {mtox : Nat → Int32} {mtol : Nat → Int32}
variable {D : va_G} {cy : Nat → ClassId} {G : Nat → Nat}
noncomputable def X1_remember (cP : Nat → Int32) (cLo : Nat → Int64) (cHi : Nat → Int64) (cso : Nat → Int32) (cha : Int32) (chs : Int32) (p1 : Int32) (p2 : Nat) : Option ((Nat → Int32) × (Nat → Int64) × (Nat → Int64) × (Nat → Int32) × Int32 × Int32) := gin cha 10 (gin cha 10 (bd3 (X0_become cP cLo cHi (6 + cha.toNatClampNeg) p2) (fun cP_3 cLo_4 cHi_5 => some (cP_3, cLo_4, cHi_5, (upd cso cha.toNatClampNeg p1), ((cha + (1 : Int32)) - (cha + (1 : Int32)) / (10 : Int32) * (10 : Int32)), (imin (10 : Int32) (chs + (1 : Int32)))))))
set_option maxHeartbeats 4000000 in
set_option maxRecDepth 20000 in
theorem X1_remember_ok {p1 : Int32} {p2 : Nat} {ocP : Nat → Int32} {ocLo : Nat → Int64} {ocHi : Nat → Int64} {ocso : Nat → Int32} {ocha : Int32} {ochs : Int32} (hp2 : p2 < 28) (hf : X1_remember cP cLo cHi cso cha chs p1 p2 = some (ocP, ocLo, ocHi, ocso, ocha, ochs)) : MT yX1_remember cX1_remember 3 none 1 [.ref (g 35), .int p1, .ref (g p2)] D cy G (cw g cy cP cLo cHi cpl ctb ctl ctf ctp ctk cts cth cob col cso cha chs cbe ctr cgl cgh cll clh cta cme cps cwh cal cah) (cw g cy ocP ocLo ocHi cpl ctb ctl ctf ctp ctk cts cth cob col ocso ocha ochs cbe ctr cgl cgh cll clh cta cme cps cwh cal cah) none := by
  refine MT.go (own := RX1) [(0, .ref (g 35)), (1, .int p1), (2, .ref (g p2))] (by decide) rfl (Nat.le_of_ble_eq_true rfl) rfl (fun p l e s m args below meth c A Q C hQ => ?_)
  unfold X1_remember at hf
  refine jAloadn C dX1_remember_0 rfl 0 rfl ?_
  refine gf_RX1_9 C dX1_remember_1 ?_
  refine jAloadn C dX1_remember_4 rfl 0 rfl ?_
  refine gf_RX1_20 C dX1_remember_5 ?_
  refine jIloadn C dX1_remember_8 rfl 1 rfl ?_
  obtain ⟨z1, hf⟩ := gin_some hf
  refine as_cso C z1 dX1_remember_9 ?_
  refine jAloadn C dX1_remember_10 rfl 0 rfl ?_
  refine gf_RX1_15 C dX1_remember_11 ?_
  refine jAloadn C dX1_remember_14 rfl 0 rfl ?_
  refine gf_RX1_20 C dX1_remember_15 ?_
  obtain ⟨z2, hf⟩ := gin_some hf
  refine rl_37 C z2 dX1_remember_18 ?_
  refine jAloadn C dX1_remember_19 rfl 2 rfl ?_
  obtain ⟨cP_3, cLo_4, cHi_5, e6, hf⟩ := bd3_some hf
  refine jVV C (X0_become_ok (ix10 z2) hp2 e6) vb_X0_become mk_RX1_24 rfl (rcF (ix10 z2)) ⟨Nat.le_of_ble_eq_true rfl, Nat.le_of_ble_eq_true rfl⟩ rfl (Nat.le_of_ble_eq_true rfl) dX1_remember_20 ?_
  refine jAloadn C dX1_remember_23 rfl 0 rfl ?_
  refine jAloadn C dX1_remember_24 rfl 0 rfl ?_
  refine gf_RX1_20 C dX1_remember_25 ?_
  refine jIconst C (1 : Int32) dX1_remember_28 ki_1 ?_
  refine jIadd C dX1_remember_29 ?_
  refine jBipush C (10 : Int32) dX1_remember_30 kb_10 ?_
  refine jIrem C dX1_remember_32 (by decide) ?_
  refine pf_RX1_20 C dX1_remember_33 ?_
  refine jAloadn C dX1_remember_36 rfl 0 rfl ?_
  refine jBipush C (10 : Int32) dX1_remember_37 kb_10 ?_
  refine jAloadn C dX1_remember_39 rfl 0 rfl ?_
  refine gf_RX1_28 C dX1_remember_40 ?_
  refine jIconst C (1 : Int32) dX1_remember_43 ki_1 ?_
  refine jIadd C dX1_remember_44 ?_
  refine jMin C mk_RX1_31 ⟨Nat.le_of_ble_eq_true rfl, Nat.le_of_ble_eq_true rfl⟩ dX1_remember_45 ?_
  refine pf_RX1_28 C dX1_remember_48 ?_
  cases hf
  exact jEndV C hQ rfl dX1_remember_51
noncomputable def X1_latest (cha : Int32) : Option Int32 := some (((cha + (10 : Int32)) - (1 : Int32)) - ((cha + (10 : Int32)) - (1 : Int32)) / (10 : Int32) * (10 : Int32))
set_option maxHeartbeats 4000000 in
set_option maxRecDepth 20000 in
theorem X1_latest_ok  {rr : Int32}  (hf : X1_latest cha = some rr) : MT yX1_latest cX1_latest 1 (some .int) 0 [.ref (g 35)] D cy G (cw g cy cP cLo cHi cpl ctb ctl ctf ctp ctk cts cth cob col cso cha chs cbe ctr cgl cgh cll clh cta cme cps cwh cal cah) (cw g cy cP cLo cHi cpl ctb ctl ctf ctp ctk cts cth cob col cso cha chs cbe ctr cgl cgh cll clh cta cme cps cwh cal cah) (some (.int rr)) := by
  refine MT.go (own := RX1) [(0, .ref (g 35))] (by decide) rfl (Nat.le_of_ble_eq_true rfl) rfl (fun p l e s m args below meth c A Q C hQ => ?_)
  unfold X1_latest at hf
  refine jAloadn C dX1_latest_0 rfl 0 rfl ?_
  refine gf_RX1_20 C dX1_latest_1 ?_
  refine jBipush C (10 : Int32) dX1_latest_4 kb_10 ?_
  refine jIadd C dX1_latest_6 ?_
  refine jIconst C (1 : Int32) dX1_latest_7 ki_1 ?_
  refine jIsub C dX1_latest_8 ?_
  refine jBipush C (10 : Int32) dX1_latest_9 kb_10 ?_
  refine jIrem C dX1_latest_11 (by decide) ?_
  cases hf
  exact jEndI C hQ rfl dX1_latest_12
noncomputable def X1_latestSlot (cso : Nat → Int32) (cha : Int32) : Option Int32 := bd1 (X1_latest cha) (fun q1 => gin q1 10 (some (cso q1.toNatClampNeg)))
set_option maxHeartbeats 4000000 in
set_option maxRecDepth 20000 in
theorem X1_latestSlot_ok  {rr : Int32}  (hf : X1_latestSlot cso cha = some rr) : MT yX1_latestSlot cX1_latestSlot 1 (some .int) 1 [.ref (g 35)] D cy G (cw g cy cP cLo cHi cpl ctb ctl ctf ctp ctk cts cth cob col cso cha chs cbe ctr cgl cgh cll clh cta cme cps cwh cal cah) (cw g cy cP cLo cHi cpl ctb ctl ctf ctp ctk cts cth cob col cso cha chs cbe ctr cgl cgh cll clh cta cme cps cwh cal cah) (some (.int rr)) := by
  refine MT.go (own := RX1) [(0, .ref (g 35))] (by decide) rfl (Nat.le_of_ble_eq_true rfl) rfl (fun p l e s m args below meth c A Q C hQ => ?_)
  unfold X1_latestSlot at hf
  refine jAloadn C dX1_latestSlot_0 rfl 0 rfl ?_
  refine gf_RX1_9 C dX1_latestSlot_1 ?_
  refine jAloadn C dX1_latestSlot_4 rfl 0 rfl ?_
  obtain ⟨q1, e2, hf⟩ := bd1_some hf
  refine jVI C (X1_latest_ok  e2) vb_X1_latest mk_RX1_37 rfl rc35 ⟨Nat.le_of_ble_eq_true rfl, Nat.le_of_ble_eq_true rfl⟩ rfl (Nat.le_of_ble_eq_true rfl) dX1_latestSlot_5 ?_
  obtain ⟨z3, hf⟩ := gin_some hf
  refine al_cso C z3 dX1_latestSlot_8 ?_
  cases hf
  exact jEndI C hQ rfl dX1_latestSlot_9
noncomputable def X1_restore (cP : Nat → Int32) (cLo : Nat → Int64) (cHi : Nat → Int64) (cha : Int32) (chs : Int32) (p1 : Nat) : Option ((Nat → Int32) × (Nat → Int64) × (Nat → Int64) × Int32 × Int32) := bd1 (X1_latest cha) (fun q1 => gin q1 10 (bd3 (X0_become cP cLo cHi p1 (6 + q1.toNatClampNeg)) (fun cP_4 cLo_5 cHi_6 => some (cP_4, cLo_5, cHi_6, q1, (imax (0 : Int32) (chs - (1 : Int32)))))))
set_option maxHeartbeats 4000000 in
set_option maxRecDepth 20000 in
theorem X1_restore_ok {p1 : Nat} {ocP : Nat → Int32} {ocLo : Nat → Int64} {ocHi : Nat → Int64} {ocha : Int32} {ochs : Int32} (hp1 : p1 < 28) (hf : X1_restore cP cLo cHi cha chs p1 = some (ocP, ocLo, ocHi, ocha, ochs)) : MT yX1_restore cX1_restore 2 none 1 [.ref (g 35), .ref (g p1)] D cy G (cw g cy cP cLo cHi cpl ctb ctl ctf ctp ctk cts cth cob col cso cha chs cbe ctr cgl cgh cll clh cta cme cps cwh cal cah) (cw g cy ocP ocLo ocHi cpl ctb ctl ctf ctp ctk cts cth cob col cso ocha ochs cbe ctr cgl cgh cll clh cta cme cps cwh cal cah) none := by
  refine MT.go (own := RX1) [(0, .ref (g 35)), (1, .ref (g p1))] (by decide) rfl (Nat.le_of_ble_eq_true rfl) rfl (fun p l e s m args below meth c A Q C hQ => ?_)
  unfold X1_restore at hf
  refine jAloadn C dX1_restore_0 rfl 0 rfl ?_
  refine jAloadn C dX1_restore_1 rfl 0 rfl ?_
  obtain ⟨q1, e2, hf⟩ := bd1_some hf
  refine jVI C (X1_latest_ok  e2) vb_X1_latest mk_RX1_37 rfl rc35 ⟨Nat.le_of_ble_eq_true rfl, Nat.le_of_ble_eq_true rfl⟩ rfl (Nat.le_of_ble_eq_true rfl) dX1_restore_2 ?_
  refine pf_RX1_20 C dX1_restore_5 ?_
  refine jAloadn C dX1_restore_8 rfl 1 rfl ?_
  refine jAloadn C dX1_restore_9 rfl 0 rfl ?_
  refine gf_RX1_15 C dX1_restore_10 ?_
  refine jAloadn C dX1_restore_13 rfl 0 rfl ?_
  refine gf_RX1_20 C dX1_restore_14 ?_
  obtain ⟨z3, hf⟩ := gin_some hf
  refine rl_37 C z3 dX1_restore_17 ?_
  obtain ⟨cP_4, cLo_5, cHi_6, e7, hf⟩ := bd3_some hf
  refine jVV C (X0_become_ok hp1 (ix10 z3) e7) vb_X0_become mk_RX1_24 rfl (rcF hp1) ⟨Nat.le_of_ble_eq_true rfl, Nat.le_of_ble_eq_true rfl⟩ rfl (Nat.le_of_ble_eq_true rfl) dX1_restore_18 ?_
  refine jAloadn C dX1_restore_21 rfl 0 rfl ?_
  refine jIconst C (0 : Int32) dX1_restore_22 ki_0 ?_
  refine jAloadn C dX1_restore_23 rfl 0 rfl ?_
  refine gf_RX1_28 C dX1_restore_24 ?_
  refine jIconst C (1 : Int32) dX1_restore_27 ki_1 ?_
  refine jIsub C dX1_restore_28 ?_
  refine jMax C mk_RX1_41 ⟨Nat.le_of_ble_eq_true rfl, Nat.le_of_ble_eq_true rfl⟩ dX1_restore_29 ?_
  refine pf_RX1_28 C dX1_restore_32 ?_
  cases hf
  exact jEndV C hQ rfl dX1_restore_35
noncomputable def X2_binomial_h16 (p1 : Int32) (p0 : Int32) (r6 : Int64 → Int32 → Option Int64) (x2_3 : Int64) (x4_4 : Int32) : Option Int64 := (if p1 < x4_4 then some x2_3 else gnzL (x4_4.toInt64) (r6 ((x2_3 * (((p0 - p1) + x4_4).toInt64)) / (x4_4.toInt64)) (x4_4 + (1 : Int32))))
noncomputable def X2_binomial (p0 : Int32) (p1 : Int32) : Option Int64 := (if p1 < (0 : Int32) then some (0 : Int64) else (if p1 ≤ p0 then lfp2 (X2_binomial_h16 p1 p0) (1 : Int64) (1 : Int32) else some (0 : Int64)))
set_option maxHeartbeats 4000000 in
set_option maxRecDepth 20000 in
theorem X2_binomial_ok {D : va_G} {cy : Nat → ClassId} {G : Nat → Nat} {ws : va_W} {p0 : Int32} {p1 : Int32} {rr : Int64}  (hf : X2_binomial p0 p1 = some rr) : MT yX2_binomial cX2_binomial 5 (some .long) 0 [.int p0, .int p1] D cy G ws ws (some (.long rr)) := by
  refine MT.go (own := RX2) [(0, .int p0), (1, .int p1)] (by decide) rfl (Nat.le_of_ble_eq_true rfl) rfl (fun p l e s m args below meth c A Q C hQ => ?_)
  unfold X2_binomial at hf
  refine jIloadn C dX2_binomial_0 rfl 1 rfl ?_
  refine jIfLt C 9 dX2_binomial_1 (by decide) (fun c1 => ?_) (fun c1 => ?_)
  · replace hf := itp hf c1
    refine jLconst C (0 : Int64) dX2_binomial_9 rfl ?_
    cases hf
    exact jEndL C hQ rfl dX2_binomial_10
  · replace hf := itn hf c1
    refine jIloadn C dX2_binomial_4 rfl 1 rfl ?_
    refine jIloadn C dX2_binomial_5 rfl 0 rfl ?_
    refine jCmpLe C 11 dX2_binomial_6 (by decide) (fun c2 => ?_) (fun c2 => ?_)
    · replace hf := itp hf c2
      refine jLconst C (1 : Int64) dX2_binomial_11 rfl ?_
      refine jLstoren C dX2_binomial_12 rfl (Nat.le_of_ble_eq_true rfl) [(2, .long (1 : Int64)), (0, .int p0), (1, .int p1)] rfl ?_
      refine jIconst C (1 : Int32) dX2_binomial_13 ki_1 ?_
      refine jIstore C dX2_binomial_14 (Nat.le_of_ble_eq_true rfl) [(4, .int (1 : Int32)), (2, .long (1 : Int64)), (0, .int p0), (1, .int p1)] rfl ?_
      have hL5 : ∀ (x2_3 : Int64) (x4_4 : Int32), lfp2 (X2_binomial_h16 p1 p0) x2_3 x4_4 = some rr → J p l e (rmk 0) s m args below meth c D A Q 5 ws 16 [(0, .int p0), (1, .int p1), (2, .long x2_3), (4, .int x4_4)] [] := by
        intro x2_3 x4_4 hw
        refine lfp2_walk (P := fun x2_3 x4_4 => J p l e (rmk 0) s m args below meth c D A Q 5 ws 16 [(0, .int p0), (1, .int p1), (2, .long x2_3), (4, .int x4_4)] []) ?_ hw
        intro r6 ir6 x2_3 x4_4 hf
        unfold X2_binomial_h16 at hf
        refine jIload C dX2_binomial_16 3 rfl ?_
        refine jIloadn C dX2_binomial_18 rfl 1 rfl ?_
        refine jCmpGt C 42 dX2_binomial_19 (by decide) (fun c7 => ?_) (fun c7 => ?_)
        · replace hf := itp hf c7
          refine jLloadn C dX2_binomial_42 rfl 2 rfl ?_
          cases hf
          exact jEndL C hQ rfl dX2_binomial_43
        · replace hf := itn hf c7
          refine jLloadn C dX2_binomial_22 rfl 2 rfl ?_
          refine jIloadn C dX2_binomial_23 rfl 0 rfl ?_
          refine jIloadn C dX2_binomial_24 rfl 1 rfl ?_
          refine jIsub C dX2_binomial_25 ?_
          refine jIload C dX2_binomial_26 3 rfl ?_
          refine jIadd C dX2_binomial_28 ?_
          refine jI2l C dX2_binomial_29 ?_
          refine jLmul C dX2_binomial_30 ?_
          refine jIload C dX2_binomial_31 3 rfl ?_
          refine jI2l C dX2_binomial_33 ?_
          obtain ⟨z8, hf⟩ := gnzL_some hf
          refine jLdiv C dX2_binomial_34 z8 ?_
          refine jLstoren C dX2_binomial_35 rfl (Nat.le_of_ble_eq_true rfl) [(2, .long ((x2_3 * (((p0 - p1) + x4_4).toInt64)) / (x4_4.toInt64))), (0, .int p0), (1, .int p1), (4, .int x4_4)] rfl ?_
          refine jIinc C (x4_4 + (1 : Int32)) dX2_binomial_36 3 rfl (congrArg (fun z : Int32 => x4_4 + z) ki_1) (Nat.le_of_ble_eq_true rfl) [(4, .int (x4_4 + (1 : Int32))), (2, .long ((x2_3 * (((p0 - p1) + x4_4).toInt64)) / (x4_4.toInt64))), (0, .int p0), (1, .int p1)] rfl ?_
          refine jGoto C 16 dX2_binomial_39 (by decide) ?_
          refine jSub [2, 3, 1, 0] rfl ?_
          exact ir6 ((x2_3 * (((p0 - p1) + x4_4).toInt64)) / (x4_4.toInt64)) (x4_4 + (1 : Int32)) hf
      refine jSub [2, 3, 1, 0] rfl ?_
      exact hL5 (1 : Int64) (1 : Int32) hf
    · replace hf := itn hf c2
      refine jLconst C (0 : Int64) dX2_binomial_9 rfl ?_
      cases hf
      exact jEndL C hQ rfl dX2_binomial_10
noncomputable def X2_top_h9 (p1 : Int32) (p0 : Int32) (r4 : Int32 → Option Int32) (x2_2 : Int32) : Option Int32 := (if (1000 : Int32) ≤ x2_2 then some x2_2 else bd1 (X2_binomial (x2_2 + (1 : Int32)) p1) (fun q6 => (if (0 : Int32) < (lg_cmp q6 (p0.toInt64)) then some x2_2 else r4 (x2_2 + (1 : Int32)))))
noncomputable def X2_top (p0 : Int32) (p1 : Int32) : Option Int32 := (if (1 : Int32) < p1 then lfp1 (X2_top_h9 p1 p0) p1 else some p0)
set_option maxHeartbeats 4000000 in
set_option maxRecDepth 20000 in
theorem X2_top_ok {D : va_G} {cy : Nat → ClassId} {G : Nat → Nat} {ws : va_W} {p0 : Int32} {p1 : Int32} {rr : Int32}  (hf : X2_top p0 p1 = some rr) : MT yX2_top cX2_top 3 (some .int) 1 [.int p0, .int p1] D cy G ws ws (some (.int rr)) := by
  refine MT.go (own := RX2) [(0, .int p0), (1, .int p1)] (by decide) rfl (Nat.le_of_ble_eq_true rfl) rfl (fun p l e s m args below meth c A Q C hQ => ?_)
  unfold X2_top at hf
  refine jIloadn C dX2_top_0 rfl 1 rfl ?_
  refine jIconst C (1 : Int32) dX2_top_1 ki_1 ?_
  refine jCmpGt C 7 dX2_top_2 (by decide) (fun c1 => ?_) (fun c1 => ?_)
  · replace hf := itp hf c1
    refine jIloadn C dX2_top_7 rfl 1 rfl ?_
    refine jIstoren C dX2_top_8 rfl (Nat.le_of_ble_eq_true rfl) [(2, .int p1), (0, .int p0), (1, .int p1)] rfl ?_
    have hL3 : ∀ (x2_2 : Int32), lfp1 (X2_top_h9 p1 p0) x2_2 = some rr → J p l e (rmk 1) s m args below meth c D A Q 3 ws 9 [(0, .int p0), (1, .int p1), (2, .int x2_2)] [] := by
      intro x2_2 hw
      refine lfp1_walk (P := fun x2_2 => J p l e (rmk 1) s m args below meth c D A Q 3 ws 9 [(0, .int p0), (1, .int p1), (2, .int x2_2)] []) ?_ hw
      intro r4 ir4 x2_2 hf
      unfold X2_top_h9 at hf
      refine jIloadn C dX2_top_9 rfl 2 rfl ?_
      refine jSipush C (1000 : Int32) dX2_top_10 ks_1000 ?_
      refine jCmpGe C 35 dX2_top_13 (by decide) (fun c5 => ?_) (fun c5 => ?_)
      · replace hf := itp hf c5
        refine jIloadn C dX2_top_35 rfl 2 rfl ?_
        cases hf
        exact jEndI C hQ rfl dX2_top_36
      · replace hf := itn hf c5
        refine jIloadn C dX2_top_16 rfl 2 rfl ?_
        refine jIconst C (1 : Int32) dX2_top_17 ki_1 ?_
        refine jIadd C dX2_top_18 ?_
        refine jIloadn C dX2_top_19 rfl 1 rfl ?_
        obtain ⟨q6, e7, hf⟩ := bd1_some hf
        refine jSL C (X2_binomial_ok  e7) sb_X2_binomial mk_RX2_9 rfl ⟨Nat.le_of_ble_eq_true rfl, Nat.le_of_ble_eq_true rfl⟩ rfl (Nat.le_of_ble_eq_true rfl) dX2_top_20 ?_
        refine jIloadn C dX2_top_23 rfl 0 rfl ?_
        refine jI2l C dX2_top_24 ?_
        refine jLcmp C dX2_top_25 ?_
        refine jIfGt C 35 dX2_top_26 (by decide) (fun c8 => ?_) (fun c8 => ?_)
        · replace hf := itp hf c8
          refine jIloadn C dX2_top_35 rfl 2 rfl ?_
          cases hf
          exact jEndI C hQ rfl dX2_top_36
        · replace hf := itn hf c8
          refine jIinc C (x2_2 + (1 : Int32)) dX2_top_29 2 rfl (congrArg (fun z : Int32 => x2_2 + z) ki_1) (Nat.le_of_ble_eq_true rfl) [(2, .int (x2_2 + (1 : Int32))), (0, .int p0), (1, .int p1)] rfl ?_
          refine jGoto C 9 dX2_top_32 (by decide) ?_
          refine jSub [1, 2, 0] rfl ?_
          exact ir4 (x2_2 + (1 : Int32)) hf
    refine jSub [1, 2, 0] rfl ?_
    exact hL3 p1 hf
  · replace hf := itn hf c1
    refine jIloadn C dX2_top_5 rfl 0 rfl ?_
    cases hf
    exact jEndI C hQ rfl dX2_top_6
noncomputable def X2_tops_h8 (p1 : Int32) (r6 : Int32 → Int32 → Int32 → (Nat → Int32) → Option (Int32 × (Nat → Int32))) (x3_1 : Int32) (x4_2 : Int32) (x5_3 : Int32) (cpl_4 : Nat → Int32) : Option (Int32 × (Nat → Int32)) := (if p1 ≤ x5_3 then some (x4_2, cpl_4) else (if x3_1 ≤ (0 : Int32) then some (x4_2, cpl_4) else (if (7 : Int32) ≤ x5_3 then some (x4_2, cpl_4) else bd1 (X2_top x3_1 (p1 - x5_3)) (fun q10 => gin x5_3 7 (gin x5_3 7 (bd1 (X2_binomial ((upd cpl_4 x5_3.toNatClampNeg q10) x5_3.toNatClampNeg) (p1 - x5_3)) (fun q14 => r6 (x3_1 - (q14.toInt32)) (x4_2 + (1 : Int32)) (x5_3 + (1 : Int32)) (upd cpl_4 x5_3.toNatClampNeg q10))))))))
noncomputable def X2_tops (cpl : Nat → Int32) (p0 : Int32) (p1 : Int32) : Option (Int32 × (Nat → Int32)) := lfp4 (X2_tops_h8 p1) p0 (0 : Int32) (0 : Int32) cpl
set_option maxHeartbeats 4000000 in
set_option maxRecDepth 20000 in
theorem X2_tops_ok {p0 : Int32} {p1 : Int32} {rr : Int32} {ocpl : Nat → Int32}  (hf : X2_tops cpl p0 p1 = some (rr, ocpl)) : MT yX2_tops cX2_tops 6 (some .int) 2 [.int p0, .int p1, .ref (g 30)] D cy G (cw g cy cP cLo cHi cpl ctb ctl ctf ctp ctk cts cth cob col cso cha chs cbe ctr cgl cgh cll clh cta cme cps cwh cal cah) (cw g cy cP cLo cHi ocpl ctb ctl ctf ctp ctk cts cth cob col cso cha chs cbe ctr cgl cgh cll clh cta cme cps cwh cal cah) (some (.int rr)) := by
  refine MT.go (own := RX2) [(0, .int p0), (1, .int p1), (2, .ref (g 30))] (by decide) rfl (Nat.le_of_ble_eq_true rfl) rfl (fun p l e s m args below meth c A Q C hQ => ?_)
  unfold X2_tops at hf
  refine jIloadn C dX2_tops_0 rfl 0 rfl ?_
  refine jIstoren C dX2_tops_1 rfl (Nat.le_of_ble_eq_true rfl) [(3, .int p0), (0, .int p0), (1, .int p1), (2, .ref (g 30))] rfl ?_
  refine jIconst C (0 : Int32) dX2_tops_2 ki_0 ?_
  refine jIstore C dX2_tops_3 (Nat.le_of_ble_eq_true rfl) [(4, .int (0 : Int32)), (3, .int p0), (0, .int p0), (1, .int p1), (2, .ref (g 30))] rfl ?_
  refine jIconst C (0 : Int32) dX2_tops_5 ki_0 ?_
  refine jIstore C dX2_tops_6 (Nat.le_of_ble_eq_true rfl) [(5, .int (0 : Int32)), (4, .int (0 : Int32)), (3, .int p0), (0, .int p0), (1, .int p1), (2, .ref (g 30))] rfl ?_
  have hL5 : ∀ (x3_1 : Int32) (x4_2 : Int32) (x5_3 : Int32) (cpl_4 : Nat → Int32), lfp4 (X2_tops_h8 p1) x3_1 x4_2 x5_3 cpl_4 = some (rr, ocpl) → J p l e (rmk 2) s m args below meth c D A Q 6 (cw g cy cP cLo cHi cpl_4 ctb ctl ctf ctp ctk cts cth cob col cso cha chs cbe ctr cgl cgh cll clh cta cme cps cwh cal cah) 8 [(1, .int p1), (2, .ref (g 30)), (3, .int x3_1), (4, .int x4_2), (5, .int x5_3)] [] := by
    intro x3_1 x4_2 x5_3 cpl_4 hw
    refine lfp4_walk (P := fun x3_1 x4_2 x5_3 cpl_4 => J p l e (rmk 2) s m args below meth c D A Q 6 (cw g cy cP cLo cHi cpl_4 ctb ctl ctf ctp ctk cts cth cob col cso cha chs cbe ctr cgl cgh cll clh cta cme cps cwh cal cah) 8 [(1, .int p1), (2, .ref (g 30)), (3, .int x3_1), (4, .int x4_2), (5, .int x5_3)] []) ?_ hw
    intro r6 ir6 x3_1 x4_2 x5_3 cpl_4 hf
    unfold X2_tops_h8 at hf
    refine jIload C dX2_tops_8 4 rfl ?_
    refine jIloadn C dX2_tops_10 rfl 0 rfl ?_
    refine jCmpGe C 61 dX2_tops_11 (by decide) (fun c7 => ?_) (fun c7 => ?_)
    · replace hf := itp hf c7
      refine jIload C dX2_tops_61 3 rfl ?_
      cases hf
      exact jEndI C hQ rfl dX2_tops_63
    · replace hf := itn hf c7
      refine jIloadn C dX2_tops_14 rfl 2 rfl ?_
      refine jIfLe C 61 dX2_tops_15 (by decide) (fun c8 => ?_) (fun c8 => ?_)
      · replace hf := itp hf c8
        refine jIload C dX2_tops_61 3 rfl ?_
        cases hf
        exact jEndI C hQ rfl dX2_tops_63
      · replace hf := itn hf c8
        refine jIload C dX2_tops_18 4 rfl ?_
        refine jAloadn C dX2_tops_20 rfl 1 rfl ?_
        refine tn_pl C dX2_tops_21 ?_
        refine jCmpGe C 61 dX2_tops_22 (by decide) (fun c9 => ?_) (fun c9 => ?_)
        · replace hf := itp hf c9
          refine jIload C dX2_tops_61 3 rfl ?_
          cases hf
          exact jEndI C hQ rfl dX2_tops_63
        · replace hf := itn hf c9
          refine jAloadn C dX2_tops_25 rfl 1 rfl ?_
          refine jIload C dX2_tops_26 4 rfl ?_
          refine jIloadn C dX2_tops_28 rfl 2 rfl ?_
          refine jIloadn C dX2_tops_29 rfl 0 rfl ?_
          refine jIload C dX2_tops_30 4 rfl ?_
          refine jIsub C dX2_tops_32 ?_
          obtain ⟨q10, e11, hf⟩ := bd1_some hf
          refine jSI C (X2_top_ok  e11) sb_X2_top mk_RX2_15 rfl ⟨Nat.le_of_ble_eq_true rfl, Nat.le_of_ble_eq_true rfl⟩ rfl (Nat.le_of_ble_eq_true rfl) dX2_tops_33 ?_
          obtain ⟨z12, hf⟩ := gin_some hf
          refine as_cpl C z12 dX2_tops_36 ?_
          refine jIloadn C dX2_tops_37 rfl 2 rfl ?_
          refine jAloadn C dX2_tops_38 rfl 1 rfl ?_
          refine jIload C dX2_tops_39 4 rfl ?_
          obtain ⟨z13, hf⟩ := gin_some hf
          refine al_cpl C z13 dX2_tops_41 ?_
          refine jIloadn C dX2_tops_42 rfl 0 rfl ?_
          refine jIload C dX2_tops_43 4 rfl ?_
          refine jIsub C dX2_tops_45 ?_
          obtain ⟨q14, e15, hf⟩ := bd1_some hf
          refine jSL C (X2_binomial_ok  e15) sb_X2_binomial mk_RX2_9 rfl ⟨Nat.le_of_ble_eq_true rfl, Nat.le_of_ble_eq_true rfl⟩ rfl (Nat.le_of_ble_eq_true rfl) dX2_tops_46 ?_
          refine jL2i C dX2_tops_49 ?_
          refine jIsub C dX2_tops_50 ?_
          refine jIstoren C dX2_tops_51 rfl (Nat.le_of_ble_eq_true rfl) [(3, .int (x3_1 - (q14.toInt32))), (1, .int p1), (2, .ref (g 30)), (4, .int x4_2), (5, .int x5_3)] rfl ?_
          refine jIinc C (x4_2 + (1 : Int32)) dX2_tops_52 3 rfl (congrArg (fun z : Int32 => x4_2 + z) ki_1) (Nat.le_of_ble_eq_true rfl) [(4, .int (x4_2 + (1 : Int32))), (3, .int (x3_1 - (q14.toInt32))), (1, .int p1), (2, .ref (g 30)), (5, .int x5_3)] rfl ?_
          refine jIinc C (x5_3 + (1 : Int32)) dX2_tops_55 4 rfl (congrArg (fun z : Int32 => x5_3 + z) ki_1) (Nat.le_of_ble_eq_true rfl) [(5, .int (x5_3 + (1 : Int32))), (4, .int (x4_2 + (1 : Int32))), (3, .int (x3_1 - (q14.toInt32))), (1, .int p1), (2, .ref (g 30))] rfl ?_
          refine jGoto C 8 dX2_tops_58 (by decide) ?_
          refine jSub [3, 4, 2, 1, 0] rfl ?_
          exact ir6 (x3_1 - (q14.toInt32)) (x4_2 + (1 : Int32)) (x5_3 + (1 : Int32)) (upd cpl_4 x5_3.toNatClampNeg q10) hf
  refine jSub [4, 5, 2, 1, 0] rfl ?_
  exact hL5 p0 (0 : Int32) (0 : Int32) cpl hf
noncomputable def X2_nextOfLevel_h4 (p2 : Int32) (p1 : Int32) (r3 : Int32 → Option Int32) (x3_1 : Int32) : Option Int32 := (if ((1 : Int32) <<< (p2 &&& 31)) ≤ x3_1 then some (-1 : Int32) else bd1 (J6_bitCount_0f7a4 x3_1) (fun q5 => (if q5 = p1 then some x3_1 else r3 (x3_1 + (1 : Int32)))))
noncomputable def X2_nextOfLevel (p0 : Int32) (p1 : Int32) (p2 : Int32) : Option Int32 := lfp1 (X2_nextOfLevel_h4 p2 p1) (p0 + (1 : Int32))
set_option maxHeartbeats 4000000 in
set_option maxRecDepth 20000 in
theorem X2_nextOfLevel_ok {D : va_G} {cy : Nat → ClassId} {G : Nat → Nat} {ws : va_W} {p0 : Int32} {p1 : Int32} {p2 : Int32} {rr : Int32}  (hf : X2_nextOfLevel p0 p1 p2 = some rr) : MT yX2_nextOfLevel cX2_nextOfLevel 4 (some .int) 1 [.int p0, .int p1, .int p2] D cy G ws ws (some (.int rr)) := by
  refine MT.go (own := RX2) [(0, .int p0), (1, .int p1), (2, .int p2)] (by decide) rfl (Nat.le_of_ble_eq_true rfl) rfl (fun p l e s m args below meth c A Q C hQ => ?_)
  unfold X2_nextOfLevel at hf
  refine jIloadn C dX2_nextOfLevel_0 rfl 0 rfl ?_
  refine jIconst C (1 : Int32) dX2_nextOfLevel_1 ki_1 ?_
  refine jIadd C dX2_nextOfLevel_2 ?_
  refine jIstoren C dX2_nextOfLevel_3 rfl (Nat.le_of_ble_eq_true rfl) [(3, .int (p0 + (1 : Int32))), (0, .int p0), (1, .int p1), (2, .int p2)] rfl ?_
  have hL2 : ∀ (x3_1 : Int32), lfp1 (X2_nextOfLevel_h4 p2 p1) x3_1 = some rr → J p l e (rmk 1) s m args below meth c D A Q 4 ws 4 [(1, .int p1), (2, .int p2), (3, .int x3_1)] [] := by
    intro x3_1 hw
    refine lfp1_walk (P := fun x3_1 => J p l e (rmk 1) s m args below meth c D A Q 4 ws 4 [(1, .int p1), (2, .int p2), (3, .int x3_1)] []) ?_ hw
    intro r3 ir3 x3_1 hf
    unfold X2_nextOfLevel_h4 at hf
    refine jIloadn C dX2_nextOfLevel_4 rfl 2 rfl ?_
    refine jIconst C (1 : Int32) dX2_nextOfLevel_5 ki_1 ?_
    refine jIloadn C dX2_nextOfLevel_6 rfl 1 rfl ?_
    refine jIshl C dX2_nextOfLevel_7 ?_
    refine jCmpGe C 27 dX2_nextOfLevel_8 (by decide) (fun c4 => ?_) (fun c4 => ?_)
    · replace hf := itp hf c4
      refine jIconst C (-1 : Int32) dX2_nextOfLevel_27 ki_m1 ?_
      cases hf
      exact jEndI C hQ rfl dX2_nextOfLevel_28
    · replace hf := itn hf c4
      refine jIloadn C dX2_nextOfLevel_11 rfl 2 rfl ?_
      obtain ⟨q5, e6, hf⟩ := bd1_some hf
      refine jSI C (J6_bitCount_0f7a4_ok  e6) sb_J6_bitCount_0f7a4 mk_RX2_19 rfl ⟨Nat.le_of_ble_eq_true rfl, Nat.le_of_ble_eq_true rfl⟩ rfl (Nat.le_of_ble_eq_true rfl) dX2_nextOfLevel_12 ?_
      refine jIloadn C dX2_nextOfLevel_15 rfl 0 rfl ?_
      refine jCmpNe C 21 dX2_nextOfLevel_16 (by decide) (fun c7 => ?_) (fun c7 => ?_)
      · replace hf := itn hf c7
        refine jIinc C (x3_1 + (1 : Int32)) dX2_nextOfLevel_21 2 rfl (congrArg (fun z : Int32 => x3_1 + z) ki_1) (Nat.le_of_ble_eq_true rfl) [(3, .int (x3_1 + (1 : Int32))), (1, .int p1), (2, .int p2)] rfl ?_
        refine jGoto C 4 dX2_nextOfLevel_24 (by decide) ?_
        refine jSub [1, 2, 0] rfl ?_
        exact ir3 (x3_1 + (1 : Int32)) hf
      · replace hf := itp hf c7
        refine jIloadn C dX2_nextOfLevel_19 rfl 2 rfl ?_
        cases hf
        exact jEndI C hQ rfl dX2_nextOfLevel_20
  refine jSub [2, 3, 0] rfl ?_
  exact hL2 (p0 + (1 : Int32)) hf
noncomputable def X2_commonDivisor_h9  (r5 : Int64 → Int64 → Int32 → Option Int64) (x4_1 : Int64) (x6_2 : Int64) (x8_3 : Int32) : Option Int64 := (if (1000 : Int32) ≤ x8_3 then some x4_1 else (if (lg_cmp x6_2 (0 : Int64)) = (0 : Int32) then some x4_1 else gnzL x6_2 (r5 x6_2 (x4_1 - x4_1 / x6_2 * x6_2) (x8_3 + (1 : Int32)))))
noncomputable def X2_commonDivisor (p0 : Int64) (p2 : Int64) : Option Int64 := lfp3 X2_commonDivisor_h9 p0 p2 (0 : Int32)
set_option maxHeartbeats 4000000 in
set_option maxRecDepth 20000 in
theorem X2_commonDivisor_ok {D : va_G} {cy : Nat → ClassId} {G : Nat → Nat} {ws : va_W} {p0 : Int64} {p2 : Int64} {rr : Int64}  (hf : X2_commonDivisor p0 p2 = some rr) : MT yX2_commonDivisor cX2_commonDivisor 11 (some .long) 0 [.long p0, .long p2] D cy G ws ws (some (.long rr)) := by
  refine MT.go (own := RX2) [(0, .long p0), (2, .long p2)] (by decide) rfl (Nat.le_of_ble_eq_true rfl) rfl (fun p l e s m args below meth c A Q C hQ => ?_)
  unfold X2_commonDivisor at hf
  refine jLloadn C dX2_commonDivisor_0 rfl 0 rfl ?_
  refine jLstore C dX2_commonDivisor_1 (Nat.le_of_ble_eq_true rfl) [(4, .long p0), (0, .long p0), (2, .long p2)] rfl ?_
  refine jLloadn C dX2_commonDivisor_3 rfl 2 rfl ?_
  refine jLstore C dX2_commonDivisor_4 (Nat.le_of_ble_eq_true rfl) [(6, .long p2), (4, .long p0), (0, .long p0), (2, .long p2)] rfl ?_
  refine jIconst C (0 : Int32) dX2_commonDivisor_6 ki_0 ?_
  refine jIstore C dX2_commonDivisor_7 (Nat.le_of_ble_eq_true rfl) [(8, .int (0 : Int32)), (6, .long p2), (4, .long p0), (0, .long p0), (2, .long p2)] rfl ?_
  have hL4 : ∀ (x4_1 : Int64) (x6_2 : Int64) (x8_3 : Int32), lfp3 X2_commonDivisor_h9 x4_1 x6_2 x8_3 = some rr → J p l e (rmk 0) s m args below meth c D A Q 11 ws 9 [(4, .long x4_1), (6, .long x6_2), (8, .int x8_3)] [] := by
    intro x4_1 x6_2 x8_3 hw
    refine lfp3_walk (P := fun x4_1 x6_2 x8_3 => J p l e (rmk 0) s m args below meth c D A Q 11 ws 9 [(4, .long x4_1), (6, .long x6_2), (8, .int x8_3)] []) ?_ hw
    intro r5 ir5 x4_1 x6_2 x8_3 hf
    unfold X2_commonDivisor_h9 at hf
    refine jIload C dX2_commonDivisor_9 2 rfl ?_
    refine jSipush C (1000 : Int32) dX2_commonDivisor_11 ks_1000 ?_
    refine jCmpGe C 45 dX2_commonDivisor_14 (by decide) (fun c6 => ?_) (fun c6 => ?_)
    · replace hf := itp hf c6
      refine jLload C dX2_commonDivisor_45 0 rfl ?_
      cases hf
      exact jEndL C hQ rfl dX2_commonDivisor_47
    · replace hf := itn hf c6
      refine jLload C dX2_commonDivisor_17 1 rfl ?_
      refine jLconst C (0 : Int64) dX2_commonDivisor_19 rfl ?_
      refine jLcmp C dX2_commonDivisor_20 ?_
      refine jIfEq C 45 dX2_commonDivisor_21 (by decide) (fun c7 => ?_) (fun c7 => ?_)
      · replace hf := itp hf c7
        refine jLload C dX2_commonDivisor_45 0 rfl ?_
        cases hf
        exact jEndL C hQ rfl dX2_commonDivisor_47
      · replace hf := itn hf c7
        refine jLload C dX2_commonDivisor_24 0 rfl ?_
        refine jLload C dX2_commonDivisor_26 1 rfl ?_
        obtain ⟨z8, hf⟩ := gnzL_some hf
        refine jLrem C dX2_commonDivisor_28 z8 ?_
        refine jLstore C dX2_commonDivisor_29 (Nat.le_of_ble_eq_true rfl) [(9, .long (x4_1 - x4_1 / x6_2 * x6_2)), (4, .long x4_1), (6, .long x6_2), (8, .int x8_3)] rfl ?_
        refine jLload C dX2_commonDivisor_31 2 rfl ?_
        refine jLstore C dX2_commonDivisor_33 (Nat.le_of_ble_eq_true rfl) [(4, .long x6_2), (9, .long (x4_1 - x4_1 / x6_2 * x6_2)), (6, .long x6_2), (8, .int x8_3)] rfl ?_
        refine jLload C dX2_commonDivisor_35 1 rfl ?_
        refine jLstore C dX2_commonDivisor_37 (Nat.le_of_ble_eq_true rfl) [(6, .long (x4_1 - x4_1 / x6_2 * x6_2)), (4, .long x6_2), (9, .long (x4_1 - x4_1 / x6_2 * x6_2)), (8, .int x8_3)] rfl ?_
        refine jIinc C (x8_3 + (1 : Int32)) dX2_commonDivisor_39 3 rfl (congrArg (fun z : Int32 => x8_3 + z) ki_1) (Nat.le_of_ble_eq_true rfl) [(8, .int (x8_3 + (1 : Int32))), (6, .long (x4_1 - x4_1 / x6_2 * x6_2)), (4, .long x6_2), (9, .long (x4_1 - x4_1 / x6_2 * x6_2))] rfl ?_
        refine jGoto C 9 dX2_commonDivisor_42 (by decide) ?_
        refine jSub [2, 1, 0] rfl ?_
        exact ir5 x6_2 (x4_1 - x4_1 / x6_2 * x6_2) (x8_3 + (1 : Int32)) hf
  refine jSub [2, 1, 0] rfl ?_
  exact hL4 p0 p2 (0 : Int32) hf
noncomputable def X2_quotient (p0 : Int64) (p2 : Int64) : Option Int64 := (if (lg_cmp p2 (0 : Int64)) = (0 : Int32) then some p0 else gnzL p2 (some (p0 / p2)))
set_option maxHeartbeats 4000000 in
set_option maxRecDepth 20000 in
theorem X2_quotient_ok {D : va_G} {cy : Nat → ClassId} {G : Nat → Nat} {ws : va_W} {p0 : Int64} {p2 : Int64} {rr : Int64}  (hf : X2_quotient p0 p2 = some rr) : MT yX2_quotient cX2_quotient 4 (some .long) 0 [.long p0, .long p2] D cy G ws ws (some (.long rr)) := by
  refine MT.go (own := RX2) [(0, .long p0), (2, .long p2)] (by decide) rfl (Nat.le_of_ble_eq_true rfl) rfl (fun p l e s m args below meth c A Q C hQ => ?_)
  unfold X2_quotient at hf
  refine jLloadn C dX2_quotient_0 rfl 1 rfl ?_
  refine jLconst C (0 : Int64) dX2_quotient_1 rfl ?_
  refine jLcmp C dX2_quotient_2 ?_
  refine jIfNe C 10 dX2_quotient_3 (by decide) (fun c1 => ?_) (fun c1 => ?_)
  · replace hf := itn hf c1
    refine jLloadn C dX2_quotient_10 rfl 0 rfl ?_
    refine jLloadn C dX2_quotient_11 rfl 1 rfl ?_
    obtain ⟨z2, hf⟩ := gnzL_some hf
    refine jLdiv C dX2_quotient_12 z2 ?_
    cases hf
    exact jEndL C hQ rfl dX2_quotient_13
  · replace hf := itp hf c1
    refine jLloadn C dX2_quotient_6 rfl 0 rfl ?_
    refine jGoto C 13 dX2_quotient_7 (by decide) ?_
    cases hf
    exact jEndL C hQ rfl dX2_quotient_13
noncomputable def X3_partOf (cps : Int32) (cwh : Nat → Int32) (p1 : Int32) : Option Int32 := (if p1 < (0 : Int32) then some (-1 : Int32) else (if cps ≤ p1 then some (-1 : Int32) else gin p1 128 (some (cwh p1.toNatClampNeg))))
set_option maxHeartbeats 4000000 in
set_option maxRecDepth 20000 in
theorem X3_partOf_ok {p1 : Int32} {rr : Int32}  (hf : X3_partOf cps cwh p1 = some rr) : MT yX3_partOf cX3_partOf 2 (some .int) 0 [.ref (g 44), .int p1] D cy G (cw g cy cP cLo cHi cpl ctb ctl ctf ctp ctk cts cth cob col cso cha chs cbe ctr cgl cgh cll clh cta cme cps cwh cal cah) (cw g cy cP cLo cHi cpl ctb ctl ctf ctp ctk cts cth cob col cso cha chs cbe ctr cgl cgh cll clh cta cme cps cwh cal cah) (some (.int rr)) := by
  refine MT.go (own := RX3) [(0, .ref (g 44)), (1, .int p1)] (by decide) rfl (Nat.le_of_ble_eq_true rfl) rfl (fun p l e s m args below meth c A Q C hQ => ?_)
  unfold X3_partOf at hf
  refine jIloadn C dX3_partOf_0 rfl 1 rfl ?_
  refine jIfLt C 21 dX3_partOf_1 (by decide) (fun c1 => ?_) (fun c1 => ?_)
  · replace hf := itp hf c1
    refine jIconst C (-1 : Int32) dX3_partOf_21 ki_m1 ?_
    cases hf
    exact jEndI C hQ rfl dX3_partOf_22
  · replace hf := itn hf c1
    refine jIloadn C dX3_partOf_4 rfl 1 rfl ?_
    refine jAloadn C dX3_partOf_5 rfl 0 rfl ?_
    refine gf_RX3_36 C dX3_partOf_6 ?_
    refine jCmpGe C 21 dX3_partOf_9 (by decide) (fun c2 => ?_) (fun c2 => ?_)
    · replace hf := itp hf c2
      refine jIconst C (-1 : Int32) dX3_partOf_21 ki_m1 ?_
      cases hf
      exact jEndI C hQ rfl dX3_partOf_22
    · replace hf := itn hf c2
      refine jAloadn C dX3_partOf_12 rfl 0 rfl ?_
      refine gf_RX3_15 C dX3_partOf_13 ?_
      refine jIloadn C dX3_partOf_16 rfl 1 rfl ?_
      obtain ⟨z3, hf⟩ := gin_some hf
      refine al_cwh C z3 dX3_partOf_17 ?_
      refine jGoto C 22 dX3_partOf_18 (by decide) ?_
      cases hf
      exact jEndI C hQ rfl dX3_partOf_22
noncomputable def X3_gather_h104 (cme_5 : Nat → Int32) (cps_6 : Int32) (cwh_7 : Nat → Int32) (cal_8 : Nat → Int64) (cah_9 : Nat → Int64) (p1 : Nat) (r20 : Int32 → (Nat → Int32) → (Nat → Int64) → (Nat → Int64) → Option ((Nat → Int32) × (Nat → Int64) × (Nat → Int64) × (Nat → Int32) × Int32 × (Nat → Int32) × (Nat → Int64) × (Nat → Int64))) (x2_15 : Int32) (cP_16 : Nat → Int32) (cLo_17 : Nat → Int64) (cHi_18 : Nat → Int64) : Option ((Nat → Int32) × (Nat → Int64) × (Nat → Int64) × (Nat → Int32) × Int32 × (Nat → Int32) × (Nat → Int64) × (Nat → Int64)) := (if (7 : Int32) ≤ x2_15 then some (cP_16, cLo_17, cHi_18, cme_5, cps_6, cwh_7, cal_8, cah_9) else gin x2_15 7 (bd3 (X0_clear cP_16 cLo_17 cHi_18 (20 + x2_15.toNatClampNeg) (cP_16 p1)) (fun cP_23 cLo_24 cHi_25 => r20 (x2_15 + (1 : Int32)) cP_23 cLo_24 cHi_25)))
noncomputable def X3_gather_h7 (p1 : Nat) (r11 : Int32 → (Nat → Int32) → (Nat → Int64) → (Nat → Int64) → (Nat → Int32) → Int32 → (Nat → Int32) → (Nat → Int64) → (Nat → Int64) → Option ((Nat → Int32) × (Nat → Int64) × (Nat → Int64) × (Nat → Int32) × Int32 × (Nat → Int32) × (Nat → Int64) × (Nat → Int64))) (x2_1 : Int32) (cP_2 : Nat → Int32) (cLo_3 : Nat → Int64) (cHi_4 : Nat → Int64) (cme_5 : Nat → Int32) (cps_6 : Int32) (cwh_7 : Nat → Int32) (cal_8 : Nat → Int64) (cah_9 : Nat → Int64) : Option ((Nat → Int32) × (Nat → Int64) × (Nat → Int64) × (Nat → Int32) × Int32 × (Nat → Int32) × (Nat → Int64) × (Nat → Int64)) := bd1 (X0_span cP_2 p1) (fun q12 => (if q12 ≤ x2_1 then lfp4 (X3_gather_h104 cme_5 cps_6 cwh_7 cal_8 cah_9 p1) (0 : Int32) cP_2 cLo_3 cHi_4 else bd1 (X0_holds cLo_3 cHi_4 p1 x2_1) (fun q27 => (if q27 = (0 : Int32) then r11 (x2_1 + (1 : Int32)) cP_2 cLo_3 cHi_4 cme_5 cps_6 cwh_7 cal_8 cah_9 else bd3 (X0_become cP_2 cLo_3 cHi_4 27 p1) (fun cP_30 cLo_31 cHi_32 => bd2 (X0_keepSharing cLo_31 cHi_32 27 x2_1 (0 : Int32)) (fun cLo_34 cHi_35 => gin x2_1 128 (gin x2_1 128 (gin cps_6 128 (gin cps_6 128 (r11 (x2_1 + (1 : Int32)) cP_30 cLo_34 cHi_35 (upd cme_5 cps_6.toNatClampNeg x2_1) (cps_6 + (1 : Int32)) (upd cwh_7 cps_6.toNatClampNeg (-1 : Int32)) (vp_updL cal_8 x2_1.toNatClampNeg (cLo_34 27)) (vp_updL cah_9 x2_1.toNatClampNeg (cHi_35 27))))))))))))
noncomputable def X3_gather (cP : Nat → Int32) (cLo : Nat → Int64) (cHi : Nat → Int64) (cme : Nat → Int32) (cwh : Nat → Int32) (cal : Nat → Int64) (cah : Nat → Int64) (p1 : Nat) : Option ((Nat → Int32) × (Nat → Int64) × (Nat → Int64) × (Nat → Int32) × Int32 × (Nat → Int32) × (Nat → Int64) × (Nat → Int64)) := lfp9 (X3_gather_h7 p1) (0 : Int32) cP cLo cHi cme (0 : Int32) cwh cal cah
set_option maxHeartbeats 4000000 in
set_option maxRecDepth 20000 in
theorem X3_gather_ok {p1 : Nat} {ocP : Nat → Int32} {ocLo : Nat → Int64} {ocHi : Nat → Int64} {ocme : Nat → Int32} {ocps : Int32} {ocwh : Nat → Int32} {ocal : Nat → Int64} {ocah : Nat → Int64} (hp1 : p1 < 28) (hf : X3_gather cP cLo cHi cme cwh cal cah p1 = some (ocP, ocLo, ocHi, ocme, ocps, ocwh, ocal, ocah)) : MT yX3_gather cX3_gather 3 none 2 [.ref (g 44), .ref (g p1)] D cy G (cw g cy cP cLo cHi cpl ctb ctl ctf ctp ctk cts cth cob col cso cha chs cbe ctr cgl cgh cll clh cta cme cps cwh cal cah) (cw g cy ocP ocLo ocHi cpl ctb ctl ctf ctp ctk cts cth cob col cso cha chs cbe ctr cgl cgh cll clh cta ocme ocps ocwh ocal ocah) none := by
  refine MT.go (own := RX3) [(0, .ref (g 44)), (1, .ref (g p1))] (by decide) rfl (Nat.le_of_ble_eq_true rfl) rfl (fun p l e s m args below meth c A Q C hQ => ?_)
  unfold X3_gather at hf
  refine jAloadn C dX3_gather_0 rfl 0 rfl ?_
  refine jIconst C (0 : Int32) dX3_gather_1 ki_0 ?_
  refine pf_RX3_36 C dX3_gather_2 ?_
  refine jIconst C (0 : Int32) dX3_gather_5 ki_0 ?_
  refine jIstoren C dX3_gather_6 rfl (Nat.le_of_ble_eq_true rfl) [(2, .int (0 : Int32)), (0, .ref (g 44)), (1, .ref (g p1))] rfl ?_
  have hL10 : ∀ (x2_1 : Int32) (cP_2 : Nat → Int32) (cLo_3 : Nat → Int64) (cHi_4 : Nat → Int64) (cme_5 : Nat → Int32) (cps_6 : Int32) (cwh_7 : Nat → Int32) (cal_8 : Nat → Int64) (cah_9 : Nat → Int64), lfp9 (X3_gather_h7 p1) x2_1 cP_2 cLo_3 cHi_4 cme_5 cps_6 cwh_7 cal_8 cah_9 = some (ocP, ocLo, ocHi, ocme, ocps, ocwh, ocal, ocah) → J p l e (rmk 2) s m args below meth c D A Q 3 (cw g cy cP_2 cLo_3 cHi_4 cpl ctb ctl ctf ctp ctk cts cth cob col cso cha chs cbe ctr cgl cgh cll clh cta cme_5 cps_6 cwh_7 cal_8 cah_9) 7 [(0, .ref (g 44)), (1, .ref (g p1)), (2, .int x2_1)] [] := by
    intro x2_1 cP_2 cLo_3 cHi_4 cme_5 cps_6 cwh_7 cal_8 cah_9 hw
    refine lfp9_walk (P := fun x2_1 cP_2 cLo_3 cHi_4 cme_5 cps_6 cwh_7 cal_8 cah_9 => J p l e (rmk 2) s m args below meth c D A Q 3 (cw g cy cP_2 cLo_3 cHi_4 cpl ctb ctl ctf ctp ctk cts cth cob col cso cha chs cbe ctr cgl cgh cll clh cta cme_5 cps_6 cwh_7 cal_8 cah_9) 7 [(0, .ref (g 44)), (1, .ref (g p1)), (2, .int x2_1)] []) ?_ hw
    intro r11 ir11 x2_1 cP_2 cLo_3 cHi_4 cme_5 cps_6 cwh_7 cal_8 cah_9 hf
    unfold X3_gather_h7 at hf
    refine jIloadn C dX3_gather_7 rfl 2 rfl ?_
    refine jAloadn C dX3_gather_8 rfl 1 rfl ?_
    obtain ⟨q12, e13, hf⟩ := bd1_some hf
    refine jVI C (X0_span_ok hp1 e13) vb_X0_span mk_RX3_69 rfl (rcF hp1) ⟨Nat.le_of_ble_eq_true rfl, Nat.le_of_ble_eq_true rfl⟩ rfl (Nat.le_of_ble_eq_true rfl) dX3_gather_9 ?_
    refine jCmpGe C 102 dX3_gather_12 (by decide) (fun c14 => ?_) (fun c14 => ?_)
    · replace hf := itp hf c14
      refine jIconst C (0 : Int32) dX3_gather_102 ki_0 ?_
      refine jIstoren C dX3_gather_103 rfl (Nat.le_of_ble_eq_true rfl) [(2, .int (0 : Int32)), (0, .ref (g 44)), (1, .ref (g p1))] rfl ?_
      have hL19 : ∀ (x2_15 : Int32) (cP_16 : Nat → Int32) (cLo_17 : Nat → Int64) (cHi_18 : Nat → Int64), lfp4 (X3_gather_h104 cme_5 cps_6 cwh_7 cal_8 cah_9 p1) x2_15 cP_16 cLo_17 cHi_18 = some (ocP, ocLo, ocHi, ocme, ocps, ocwh, ocal, ocah) → J p l e (rmk 2) s m args below meth c D A Q 3 (cw g cy cP_16 cLo_17 cHi_18 cpl ctb ctl ctf ctp ctk cts cth cob col cso cha chs cbe ctr cgl cgh cll clh cta cme_5 cps_6 cwh_7 cal_8 cah_9) 104 [(0, .ref (g 44)), (1, .ref (g p1)), (2, .int x2_15)] [] := by
        intro x2_15 cP_16 cLo_17 cHi_18 hw
        refine lfp4_walk (P := fun x2_15 cP_16 cLo_17 cHi_18 => J p l e (rmk 2) s m args below meth c D A Q 3 (cw g cy cP_16 cLo_17 cHi_18 cpl ctb ctl ctf ctp ctk cts cth cob col cso cha chs cbe ctr cgl cgh cll clh cta cme_5 cps_6 cwh_7 cal_8 cah_9) 104 [(0, .ref (g 44)), (1, .ref (g p1)), (2, .int x2_15)] []) ?_ hw
        intro r20 ir20 x2_15 cP_16 cLo_17 cHi_18 hf
        unfold X3_gather_h104 at hf
        refine jIloadn C dX3_gather_104 rfl 2 rfl ?_
        refine jBipush C (7 : Int32) dX3_gather_105 kb_7 ?_
        refine jCmpGe C 129 dX3_gather_107 (by decide) (fun c21 => ?_) (fun c21 => ?_)
        · replace hf := itp hf c21
          cases hf
          exact jEndV C hQ rfl dX3_gather_129
        · replace hf := itn hf c21
          refine jAloadn C dX3_gather_110 rfl 0 rfl ?_
          refine gf_RX3_27 C dX3_gather_111 ?_
          refine jIloadn C dX3_gather_114 rfl 2 rfl ?_
          obtain ⟨z22, hf⟩ := gin_some hf
          refine rl_49 C z22 dX3_gather_115 ?_
          refine jAloadn C dX3_gather_116 rfl 1 rfl ?_
          refine gf_RX3_84 C hp1 dX3_gather_117 ?_
          obtain ⟨cP_23, cLo_24, cHi_25, e26, hf⟩ := bd3_some hf
          refine jVV C (X0_clear_ok (ix7 z22) e26) vb_X0_clear mk_RX3_87 rfl (rcF (ix7 z22)) ⟨Nat.le_of_ble_eq_true rfl, Nat.le_of_ble_eq_true rfl⟩ rfl (Nat.le_of_ble_eq_true rfl) dX3_gather_120 ?_
          refine jIinc C (x2_15 + (1 : Int32)) dX3_gather_123 2 rfl (congrArg (fun z : Int32 => x2_15 + z) ki_1) (Nat.le_of_ble_eq_true rfl) [(2, .int (x2_15 + (1 : Int32))), (0, .ref (g 44)), (1, .ref (g p1))] rfl ?_
          refine jGoto C 104 dX3_gather_126 (by decide) ?_
          refine jSub [1, 2, 0] rfl ?_
          exact ir20 (x2_15 + (1 : Int32)) cP_23 cLo_24 cHi_25 hf
      refine jSub [1, 2, 0] rfl ?_
      exact hL19 (0 : Int32) cP_2 cLo_3 cHi_4 hf
    · replace hf := itn hf c14
      refine jAloadn C dX3_gather_15 rfl 1 rfl ?_
      refine jIloadn C dX3_gather_16 rfl 2 rfl ?_
      obtain ⟨q27, e28, hf⟩ := bd1_some hf
      refine jVI C (X0_holds_ok hp1 e28) vb_X0_holds mk_RX3_73 rfl (rcF hp1) ⟨Nat.le_of_ble_eq_true rfl, Nat.le_of_ble_eq_true rfl⟩ rfl (Nat.le_of_ble_eq_true rfl) dX3_gather_17 ?_
      refine jIfEq C 96 dX3_gather_20 (by decide) (fun c29 => ?_) (fun c29 => ?_)
      · replace hf := itp hf c29
        refine jIinc C (x2_1 + (1 : Int32)) dX3_gather_96 2 rfl (congrArg (fun z : Int32 => x2_1 + z) ki_1) (Nat.le_of_ble_eq_true rfl) [(2, .int (x2_1 + (1 : Int32))), (0, .ref (g 44)), (1, .ref (g p1))] rfl ?_
        refine jGoto C 7 dX3_gather_99 (by decide) ?_
        refine jSub [1, 2, 0] rfl ?_
        exact ir11 (x2_1 + (1 : Int32)) cP_2 cLo_3 cHi_4 cme_5 cps_6 cwh_7 cal_8 cah_9 hf
      · replace hf := itn hf c29
        refine jAloadn C dX3_gather_23 rfl 0 rfl ?_
        refine gf_RX3_32 C dX3_gather_24 ?_
        refine jAloadn C dX3_gather_27 rfl 1 rfl ?_
        obtain ⟨cP_30, cLo_31, cHi_32, e33, hf⟩ := bd3_some hf
        refine jVV C (X0_become_ok (by decide) hp1 e33) vb_X0_become mk_RX3_77 rfl (rcF (by decide)) ⟨Nat.le_of_ble_eq_true rfl, Nat.le_of_ble_eq_true rfl⟩ rfl (Nat.le_of_ble_eq_true rfl) dX3_gather_28 ?_
        refine jAloadn C dX3_gather_31 rfl 0 rfl ?_
        refine gf_RX3_32 C dX3_gather_32 ?_
        refine jIloadn C dX3_gather_35 rfl 2 rfl ?_
        refine jIconst C (0 : Int32) dX3_gather_36 ki_0 ?_
        obtain ⟨cLo_34, cHi_35, e36, hf⟩ := bd2_some hf
        refine jVV C (X0_keepSharing_ok (by decide) e36) vb_X0_keepSharing mk_RX3_80 rfl (rcF (by decide)) ⟨Nat.le_of_ble_eq_true rfl, Nat.le_of_ble_eq_true rfl⟩ rfl (Nat.le_of_ble_eq_true rfl) dX3_gather_37 ?_
        refine jAloadn C dX3_gather_40 rfl 0 rfl ?_
        refine gf_RX3_18 C dX3_gather_41 ?_
        refine jIloadn C dX3_gather_44 rfl 2 rfl ?_
        refine jAloadn C dX3_gather_45 rfl 0 rfl ?_
        refine gf_RX3_32 C dX3_gather_46 ?_
        refine gf_RX3_62 C (by decide) dX3_gather_49 ?_
        obtain ⟨z37, hf⟩ := gin_some hf
        refine as_cal C z37 dX3_gather_52 ?_
        refine jAloadn C dX3_gather_53 rfl 0 rfl ?_
        refine gf_RX3_22 C dX3_gather_54 ?_
        refine jIloadn C dX3_gather_57 rfl 2 rfl ?_
        refine jAloadn C dX3_gather_58 rfl 0 rfl ?_
        refine gf_RX3_32 C dX3_gather_59 ?_
        refine gf_RX3_66 C (by decide) dX3_gather_62 ?_
        obtain ⟨z38, hf⟩ := gin_some hf
        refine as_cah C z38 dX3_gather_65 ?_
        refine jAloadn C dX3_gather_66 rfl 0 rfl ?_
        refine gf_RX3_9 C dX3_gather_67 ?_
        refine jAloadn C dX3_gather_70 rfl 0 rfl ?_
        refine gf_RX3_36 C dX3_gather_71 ?_
        refine jIloadn C dX3_gather_74 rfl 2 rfl ?_
        obtain ⟨z39, hf⟩ := gin_some hf
        refine as_cme C z39 dX3_gather_75 ?_
        refine jAloadn C dX3_gather_76 rfl 0 rfl ?_
        refine gf_RX3_15 C dX3_gather_77 ?_
        refine jAloadn C dX3_gather_80 rfl 0 rfl ?_
        refine gf_RX3_36 C dX3_gather_81 ?_
        refine jIconst C (-1 : Int32) dX3_gather_84 ki_m1 ?_
        obtain ⟨z40, hf⟩ := gin_some hf
        refine as_cwh C z40 dX3_gather_85 ?_
        refine jAloadn C dX3_gather_86 rfl 0 rfl ?_
        refine jDup C dX3_gather_87 rfl ?_
        refine gf_RX3_36 C dX3_gather_88 ?_
        refine jIconst C (1 : Int32) dX3_gather_91 ki_1 ?_
        refine jIadd C dX3_gather_92 ?_
        refine pf_RX3_36 C dX3_gather_93 ?_
        refine jIinc C (x2_1 + (1 : Int32)) dX3_gather_96 2 rfl (congrArg (fun z : Int32 => x2_1 + z) ki_1) (Nat.le_of_ble_eq_true rfl) [(2, .int (x2_1 + (1 : Int32))), (0, .ref (g 44)), (1, .ref (g p1))] rfl ?_
        refine jGoto C 7 dX3_gather_99 (by decide) ?_
        refine jSub [1, 2, 0] rfl ?_
        exact ir11 (x2_1 + (1 : Int32)) cP_30 cLo_34 cHi_35 (upd cme_5 cps_6.toNatClampNeg x2_1) (cps_6 + (1 : Int32)) (upd cwh_7 cps_6.toNatClampNeg (-1 : Int32)) (vp_updL cal_8 x2_1.toNatClampNeg (cLo_34 27)) (vp_updL cah_9 x2_1.toNatClampNeg (cHi_35 27)) hf
  refine jSub [1, 2, 0] rfl ?_
  exact hL10 (0 : Int32) cP cLo cHi cme (0 : Int32) cwh cal cah hf
noncomputable def X3_nextPart_j45 (x4_3 : Int32) (cme : Nat → Int32) (p1 : Int32) (cLo : Nat → Int64) (cal : Nat → Int64) (cHi : Nat → Int64) (cah : Nat → Int64) (r5 : Int32 → Option Int32)  : Option Int32 := gin x4_3 7 (gin (cme p1.toNatClampNeg) 128 (gin x4_3 7 (gin (cme p1.toNatClampNeg) 128 ((if (lg_cmp (((cLo (20 + x4_3.toNatClampNeg)) &&& (cal (cme p1.toNatClampNeg).toNatClampNeg)) ||| ((cHi (20 + x4_3.toNatClampNeg)) &&& (cah (cme p1.toNatClampNeg).toNatClampNeg))) (0 : Int64)) = (0 : Int32) then some x4_3 else r5 (x4_3 + (1 : Int32)))))))
noncomputable def X3_nextPart_h17 (p2 : Int32) (cme : Nat → Int32) (p1 : Int32) (cLo : Nat → Int64) (cal : Nat → Int64) (cHi : Nat → Int64) (cah : Nat → Int64) (r5 : Int32 → Option Int32) (x4_3 : Int32) : Option Int32 := (if p2 ≤ x4_3 then some (-1 : Int32) else (if x4_3 ≤ (0 : Int32) then X3_nextPart_j45 x4_3 cme p1 cLo cal cHi cah r5 else gin (x4_3 - (1 : Int32)) 7 (bd1 (X0_isEmpty cLo cHi (20 + (x4_3 - (1 : Int32)).toNatClampNeg)) (fun q15 => (if q15 = (0 : Int32) then X3_nextPart_j45 x4_3 cme p1 cLo cal cHi cah r5 else some (-1 : Int32))))))
noncomputable def X3_nextPart (cLo : Nat → Int64) (cHi : Nat → Int64) (cme : Nat → Int32) (cwh : Nat → Int32) (cal : Nat → Int64) (cah : Nat → Int64) (p1 : Int32) (p2 : Int32) : Option Int32 := gin p1 128 (gin p1 128 (lfp1 (X3_nextPart_h17 p2 cme p1 cLo cal cHi cah) ((cwh p1.toNatClampNeg) + (1 : Int32))))
set_option maxHeartbeats 4000000 in
set_option maxRecDepth 20000 in
theorem X3_nextPart_ok {p1 : Int32} {p2 : Int32} {rr : Int32}  (hf : X3_nextPart cLo cHi cme cwh cal cah p1 p2 = some rr) : MT yX3_nextPart cX3_nextPart 5 (some .int) 1 [.ref (g 44), .int p1, .int p2] D cy G (cw g cy cP cLo cHi cpl ctb ctl ctf ctp ctk cts cth cob col cso cha chs cbe ctr cgl cgh cll clh cta cme cps cwh cal cah) (cw g cy cP cLo cHi cpl ctb ctl ctf ctp ctk cts cth cob col cso cha chs cbe ctr cgl cgh cll clh cta cme cps cwh cal cah) (some (.int rr)) := by
  refine MT.go (own := RX3) [(0, .ref (g 44)), (1, .int p1), (2, .int p2)] (by decide) rfl (Nat.le_of_ble_eq_true rfl) rfl (fun p l e s m args below meth c A Q C hQ => ?_)
  unfold X3_nextPart at hf
  refine jAloadn C dX3_nextPart_0 rfl 0 rfl ?_
  refine gf_RX3_9 C dX3_nextPart_1 ?_
  refine jIloadn C dX3_nextPart_4 rfl 1 rfl ?_
  obtain ⟨z1, hf⟩ := gin_some hf
  refine al_cme C z1 dX3_nextPart_5 ?_
  refine jIstoren C dX3_nextPart_6 rfl (Nat.le_of_ble_eq_true rfl) [(3, .int (cme p1.toNatClampNeg)), (0, .ref (g 44)), (1, .int p1), (2, .int p2)] rfl ?_
  refine jAloadn C dX3_nextPart_7 rfl 1 rfl ?_
  refine gf_RX3_15 C dX3_nextPart_8 ?_
  refine jIloadn C dX3_nextPart_11 rfl 2 rfl ?_
  obtain ⟨z2, hf⟩ := gin_some hf
  refine al_cwh C z2 dX3_nextPart_12 ?_
  refine jIconst C (1 : Int32) dX3_nextPart_13 ki_1 ?_
  refine jIadd C dX3_nextPart_14 ?_
  refine jIstore C dX3_nextPart_15 (Nat.le_of_ble_eq_true rfl) [(4, .int ((cwh p1.toNatClampNeg) + (1 : Int32))), (3, .int (cme p1.toNatClampNeg)), (0, .ref (g 44)), (1, .int p1), (2, .int p2)] rfl ?_
  have hL4 : ∀ (x4_3 : Int32), lfp1 (X3_nextPart_h17 p2 cme p1 cLo cal cHi cah) x4_3 = some rr → J p l e (rmk 1) s m args below meth c D A Q 5 (cw g cy cP cLo cHi cpl ctb ctl ctf ctp ctk cts cth cob col cso cha chs cbe ctr cgl cgh cll clh cta cme cps cwh cal cah) 17 [(0, .ref (g 44)), (2, .int p2), (3, .int (cme p1.toNatClampNeg)), (4, .int x4_3)] [] := by
    intro x4_3 hw
    refine lfp1_walk (P := fun x4_3 => J p l e (rmk 1) s m args below meth c D A Q 5 (cw g cy cP cLo cHi cpl ctb ctl ctf ctp ctk cts cth cob col cso cha chs cbe ctr cgl cgh cll clh cta cme cps cwh cal cah) 17 [(0, .ref (g 44)), (2, .int p2), (3, .int (cme p1.toNatClampNeg)), (4, .int x4_3)] []) ?_ hw
    intro r5 ir5 x4_3 hf
    unfold X3_nextPart_h17 at hf
    refine jIload C dX3_nextPart_17 3 rfl ?_
    refine jIloadn C dX3_nextPart_19 rfl 1 rfl ?_
    refine jCmpGe C 94 dX3_nextPart_20 (by decide) (fun c6 => ?_) (fun c6 => ?_)
    · replace hf := itp hf c6
      refine jIconst C (-1 : Int32) dX3_nextPart_94 ki_m1 ?_
      cases hf
      exact jEndI C hQ rfl dX3_nextPart_95
    · replace hf := itn hf c6
      refine jIload C dX3_nextPart_23 3 rfl ?_
      have hL7 : X3_nextPart_j45 x4_3 cme p1 cLo cal cHi cah r5  = some rr → J p l e (rmk 1) s m args below meth c D A Q 5 (cw g cy cP cLo cHi cpl ctb ctl ctf ctp ctk cts cth cob col cso cha chs cbe ctr cgl cgh cll clh cta cme cps cwh cal cah) 45 [(0, .ref (g 44)), (2, .int p2), (3, .int (cme p1.toNatClampNeg)), (4, .int x4_3)] [] := by
        intro  hf
        unfold X3_nextPart_j45 at hf
        refine jAloadn C dX3_nextPart_45 rfl 0 rfl ?_
        refine gf_RX3_27 C dX3_nextPart_46 ?_
        refine jIload C dX3_nextPart_49 3 rfl ?_
        obtain ⟨z8, hf⟩ := gin_some hf
        refine rl_49 C z8 dX3_nextPart_51 ?_
        refine gf_RX3_62 C (ix7 z8) dX3_nextPart_52 ?_
        refine jAloadn C dX3_nextPart_55 rfl 0 rfl ?_
        refine gf_RX3_18 C dX3_nextPart_56 ?_
        refine jIloadn C dX3_nextPart_59 rfl 2 rfl ?_
        obtain ⟨z9, hf⟩ := gin_some hf
        refine al_cal C z9 dX3_nextPart_60 ?_
        refine jLand C dX3_nextPart_61 ?_
        refine jAloadn C dX3_nextPart_62 rfl 0 rfl ?_
        refine gf_RX3_27 C dX3_nextPart_63 ?_
        refine jIload C dX3_nextPart_66 3 rfl ?_
        obtain ⟨z10, hf⟩ := gin_some hf
        refine rl_49 C z10 dX3_nextPart_68 ?_
        refine gf_RX3_66 C (ix7 z10) dX3_nextPart_69 ?_
        refine jAloadn C dX3_nextPart_72 rfl 0 rfl ?_
        refine gf_RX3_22 C dX3_nextPart_73 ?_
        refine jIloadn C dX3_nextPart_76 rfl 2 rfl ?_
        obtain ⟨z11, hf⟩ := gin_some hf
        refine al_cah C z11 dX3_nextPart_77 ?_
        refine jLand C dX3_nextPart_78 ?_
        refine jLor C dX3_nextPart_79 ?_
        refine jLconst C (0 : Int64) dX3_nextPart_80 rfl ?_
        refine jLcmp C dX3_nextPart_81 ?_
        refine jIfNe C 88 dX3_nextPart_82 (by decide) (fun c12 => ?_) (fun c12 => ?_)
        · replace hf := itn hf c12
          refine jIinc C (x4_3 + (1 : Int32)) dX3_nextPart_88 3 rfl (congrArg (fun z : Int32 => x4_3 + z) ki_1) (Nat.le_of_ble_eq_true rfl) [(4, .int (x4_3 + (1 : Int32))), (0, .ref (g 44)), (2, .int p2), (3, .int (cme p1.toNatClampNeg))] rfl ?_
          refine jGoto C 17 dX3_nextPart_91 (by decide) ?_
          refine jSub [1, 2, 3, 0] rfl ?_
          exact ir5 (x4_3 + (1 : Int32)) hf
        · replace hf := itp hf c12
          refine jIload C dX3_nextPart_85 3 rfl ?_
          cases hf
          exact jEndI C hQ rfl dX3_nextPart_87
      refine jIfLe C 45 dX3_nextPart_25 (by decide) (fun c13 => ?_) (fun c13 => ?_)
      · replace hf := itp hf c13
        exact hL7  hf
      · replace hf := itn hf c13
        refine jAloadn C dX3_nextPart_28 rfl 0 rfl ?_
        refine gf_RX3_27 C dX3_nextPart_29 ?_
        refine jIload C dX3_nextPart_32 3 rfl ?_
        refine jIconst C (1 : Int32) dX3_nextPart_34 ki_1 ?_
        refine jIsub C dX3_nextPart_35 ?_
        obtain ⟨z14, hf⟩ := gin_some hf
        refine rl_49 C z14 dX3_nextPart_36 ?_
        obtain ⟨q15, e16, hf⟩ := bd1_some hf
        refine jVI C (X0_isEmpty_ok (ix7 z14) e16) vb_X0_isEmpty mk_RX3_58 rfl (rcF (ix7 z14)) ⟨Nat.le_of_ble_eq_true rfl, Nat.le_of_ble_eq_true rfl⟩ rfl (Nat.le_of_ble_eq_true rfl) dX3_nextPart_37 ?_
        refine jIfEq C 45 dX3_nextPart_40 (by decide) (fun c17 => ?_) (fun c17 => ?_)
        · replace hf := itp hf c17
          exact hL7  hf
        · replace hf := itn hf c17
          refine jIconst C (-1 : Int32) dX3_nextPart_43 ki_m1 ?_
          cases hf
          exact jEndI C hQ rfl dX3_nextPart_44
  refine jSub [2, 4, 1, 0] rfl ?_
  exact hL4 ((cwh p1.toNatClampNeg) + (1 : Int32)) hf
noncomputable def X3_takeOut (cLo : Nat → Int64) (cHi : Nat → Int64) (cme : Nat → Int32) (cwh : Nat → Int32) (p1 : Int32) : Option ((Nat → Int64) × (Nat → Int64)) := gin p1 128 ((if (cwh p1.toNatClampNeg) < (0 : Int32) then some (cLo, cHi) else (if (7 : Int32) ≤ (cwh p1.toNatClampNeg) then some (cLo, cHi) else gin (cwh p1.toNatClampNeg) 7 (gin p1 128 (bd2 (X0_remove cLo cHi (20 + (cwh p1.toNatClampNeg).toNatClampNeg) (cme p1.toNatClampNeg)) (fun cLo_6 cHi_7 => some (cLo_6, cHi_7)))))))
set_option maxHeartbeats 4000000 in
set_option maxRecDepth 20000 in
theorem X3_takeOut_ok {p1 : Int32} {ocLo : Nat → Int64} {ocHi : Nat → Int64}  (hf : X3_takeOut cLo cHi cme cwh p1 = some (ocLo, ocHi)) : MT yX3_takeOut cX3_takeOut 3 none 1 [.ref (g 44), .int p1] D cy G (cw g cy cP cLo cHi cpl ctb ctl ctf ctp ctk cts cth cob col cso cha chs cbe ctr cgl cgh cll clh cta cme cps cwh cal cah) (cw g cy cP ocLo ocHi cpl ctb ctl ctf ctp ctk cts cth cob col cso cha chs cbe ctr cgl cgh cll clh cta cme cps cwh cal cah) none := by
  refine MT.go (own := RX3) [(0, .ref (g 44)), (1, .int p1)] (by decide) rfl (Nat.le_of_ble_eq_true rfl) rfl (fun p l e s m args below meth c A Q C hQ => ?_)
  unfold X3_takeOut at hf
  refine jAloadn C dX3_takeOut_0 rfl 0 rfl ?_
  refine gf_RX3_15 C dX3_takeOut_1 ?_
  refine jIloadn C dX3_takeOut_4 rfl 1 rfl ?_
  obtain ⟨z1, hf⟩ := gin_some hf
  refine al_cwh C z1 dX3_takeOut_5 ?_
  refine jIstoren C dX3_takeOut_6 rfl (Nat.le_of_ble_eq_true rfl) [(2, .int (cwh p1.toNatClampNeg)), (0, .ref (g 44)), (1, .int p1)] rfl ?_
  refine jIloadn C dX3_takeOut_7 rfl 0 rfl ?_
  refine jIfLt C 32 dX3_takeOut_8 (by decide) (fun c2 => ?_) (fun c2 => ?_)
  · replace hf := itp hf c2
    cases hf
    exact jEndV C hQ rfl dX3_takeOut_32
  · replace hf := itn hf c2
    refine jIloadn C dX3_takeOut_11 rfl 0 rfl ?_
    refine jBipush C (7 : Int32) dX3_takeOut_12 kb_7 ?_
    refine jCmpGe C 32 dX3_takeOut_14 (by decide) (fun c3 => ?_) (fun c3 => ?_)
    · replace hf := itp hf c3
      cases hf
      exact jEndV C hQ rfl dX3_takeOut_32
    · replace hf := itn hf c3
      refine jAloadn C dX3_takeOut_17 rfl 1 rfl ?_
      refine gf_RX3_27 C dX3_takeOut_18 ?_
      refine jIloadn C dX3_takeOut_21 rfl 0 rfl ?_
      obtain ⟨z4, hf⟩ := gin_some hf
      refine rl_49 C z4 dX3_takeOut_22 ?_
      refine jAloadn C dX3_takeOut_23 rfl 1 rfl ?_
      refine gf_RX3_9 C dX3_takeOut_24 ?_
      refine jIloadn C dX3_takeOut_27 rfl 2 rfl ?_
      obtain ⟨z5, hf⟩ := gin_some hf
      refine al_cme C z5 dX3_takeOut_28 ?_
      obtain ⟨cLo_6, cHi_7, e8, hf⟩ := bd2_some hf
      refine jVV C (X0_remove_ok (ix7 z4) e8) vb_X0_remove mk_RX3_55 rfl (rcF (ix7 z4)) ⟨Nat.le_of_ble_eq_true rfl, Nat.le_of_ble_eq_true rfl⟩ rfl (Nat.le_of_ble_eq_true rfl) dX3_takeOut_29 ?_
      cases hf
      exact jEndV C hQ rfl dX3_takeOut_32
noncomputable def X3_run_h14 (p3 : Int32) (cP_1 : Nat → Int32) (cme_4 : Nat → Int32) (cps_5 : Int32) (cal_7 : Nat → Int64) (cah_8 : Nat → Int64) (p2 : Int32) (r17 : Int32 → Int32 → Int32 → (Nat → Int64) → (Nat → Int64) → (Nat → Int32) → Option (Int32 × (Nat → Int32) × (Nat → Int64) × (Nat → Int64) × (Nat → Int32) × Int32 × (Nat → Int32) × (Nat → Int64) × (Nat → Int64))) (x4_10 : Int32) (x5_11 : Int32) (x6_12 : Int32) (cLo_13 : Nat → Int64) (cHi_14 : Nat → Int64) (cwh_15 : Nat → Int32) : Option (Int32 × (Nat → Int32) × (Nat → Int64) × (Nat → Int64) × (Nat → Int32) × Int32 × (Nat → Int32) × (Nat → Int64) × (Nat → Int64)) := (if (((2 : Int32) * p3) + (2 : Int32)) < x6_12 then some ((0 : Int32), cP_1, cLo_13, cHi_14, cme_4, cps_5, cwh_15, cal_7, cah_8) else (if cps_5 ≤ x5_11 then some ((0 : Int32), cP_1, cLo_13, cHi_14, cme_4, cps_5, cwh_15, cal_7, cah_8) else bd1 (X3_nextPart cLo_13 cHi_14 cme_4 cwh_15 cal_7 cah_8 x5_11 p2) (fun q20 => (if q20 = (-1 : Int32) then gin x5_11 128 ((if (0 : Int32) ≤ (x5_11 + (-1 : Int32)) then bd2 (X3_takeOut cLo_13 cHi_14 cme_4 (upd cwh_15 x5_11.toNatClampNeg (-1 : Int32)) (x5_11 + (-1 : Int32))) (fun cLo_32 cHi_33 => r17 x4_10 (x5_11 + (-1 : Int32)) (x6_12 + (1 : Int32)) cLo_32 cHi_33 (upd cwh_15 x5_11.toNatClampNeg (-1 : Int32))) else some ((1 : Int32), cP_1, cLo_13, cHi_14, cme_4, cps_5, (upd cwh_15 x5_11.toNatClampNeg (-1 : Int32)), cal_7, cah_8))) else (if (x4_10 + (1 : Int32)) ≤ p3 then gin x5_11 128 (gin q20 7 (gin x5_11 128 (bd2 (X0_put cLo_13 cHi_14 (20 + q20.toNatClampNeg) (cme_4 x5_11.toNatClampNeg)) (fun cLo_27 cHi_28 => r17 (x4_10 + (1 : Int32)) (x5_11 + (1 : Int32)) (x6_12 + (1 : Int32)) cLo_27 cHi_28 (upd cwh_15 x5_11.toNatClampNeg q20))))) else some ((2 : Int32), cP_1, cLo_13, cHi_14, cme_4, cps_5, cwh_15, cal_7, cah_8))))))
noncomputable def X3_run (cP : Nat → Int32) (cLo : Nat → Int64) (cHi : Nat → Int64) (cme : Nat → Int32) (cwh : Nat → Int32) (cal : Nat → Int64) (cah : Nat → Int64) (p1 : Nat) (p2 : Int32) (p3 : Int32) : Option (Int32 × (Nat → Int32) × (Nat → Int64) × (Nat → Int64) × (Nat → Int32) × Int32 × (Nat → Int32) × (Nat → Int64) × (Nat → Int64)) := bd8 (X3_gather cP cLo cHi cme cwh cal cah p1) (fun cP_1 cLo_2 cHi_3 cme_4 cps_5 cwh_6 cal_7 cah_8 => lfp6 (X3_run_h14 p3 cP_1 cme_4 cps_5 cal_7 cah_8 p2) (0 : Int32) (0 : Int32) (0 : Int32) cLo_2 cHi_3 cwh_6)
set_option maxHeartbeats 4000000 in
set_option maxRecDepth 20000 in
theorem X3_run_ok {p1 : Nat} {p2 : Int32} {p3 : Int32} {rr : Int32} {ocP : Nat → Int32} {ocLo : Nat → Int64} {ocHi : Nat → Int64} {ocme : Nat → Int32} {ocps : Int32} {ocwh : Nat → Int32} {ocal : Nat → Int64} {ocah : Nat → Int64} (hp1 : p1 < 28) (hf : X3_run cP cLo cHi cme cwh cal cah p1 p2 p3 = some (rr, ocP, ocLo, ocHi, ocme, ocps, ocwh, ocal, ocah)) : MT yX3_run cX3_run 8 (some .int) 3 [.ref (g 44), .ref (g p1), .int p2, .int p3] D cy G (cw g cy cP cLo cHi cpl ctb ctl ctf ctp ctk cts cth cob col cso cha chs cbe ctr cgl cgh cll clh cta cme cps cwh cal cah) (cw g cy ocP ocLo ocHi cpl ctb ctl ctf ctp ctk cts cth cob col cso cha chs cbe ctr cgl cgh cll clh cta ocme ocps ocwh ocal ocah) (some (.int rr)) := by
  refine MT.go (own := RX3) [(0, .ref (g 44)), (1, .ref (g p1)), (2, .int p2), (3, .int p3)] (by decide) rfl (Nat.le_of_ble_eq_true rfl) rfl (fun p l e s m args below meth c A Q C hQ => ?_)
  unfold X3_run at hf
  refine jAloadn C dX3_run_0 rfl 0 rfl ?_
  refine jAloadn C dX3_run_1 rfl 1 rfl ?_
  obtain ⟨cP_1, cLo_2, cHi_3, cme_4, cps_5, cwh_6, cal_7, cah_8, e9, hf⟩ := bd8_some hf
  refine jVV C (X3_gather_ok hp1 e9) vb_X3_gather mk_RX3_40 rfl rc44 ⟨Nat.le_of_ble_eq_true rfl, Nat.le_of_ble_eq_true rfl⟩ rfl (Nat.le_of_ble_eq_true rfl) dX3_run_2 ?_
  refine jIconst C (0 : Int32) dX3_run_5 ki_0 ?_
  refine jIstore C dX3_run_6 (Nat.le_of_ble_eq_true rfl) [(4, .int (0 : Int32)), (0, .ref (g 44)), (1, .ref (g p1)), (2, .int p2), (3, .int p3)] rfl ?_
  refine jIconst C (0 : Int32) dX3_run_8 ki_0 ?_
  refine jIstore C dX3_run_9 (Nat.le_of_ble_eq_true rfl) [(5, .int (0 : Int32)), (4, .int (0 : Int32)), (0, .ref (g 44)), (1, .ref (g p1)), (2, .int p2), (3, .int p3)] rfl ?_
  refine jIconst C (0 : Int32) dX3_run_11 ki_0 ?_
  refine jIstore C dX3_run_12 (Nat.le_of_ble_eq_true rfl) [(6, .int (0 : Int32)), (5, .int (0 : Int32)), (4, .int (0 : Int32)), (0, .ref (g 44)), (1, .ref (g p1)), (2, .int p2), (3, .int p3)] rfl ?_
  have hL16 : ∀ (x4_10 : Int32) (x5_11 : Int32) (x6_12 : Int32) (cLo_13 : Nat → Int64) (cHi_14 : Nat → Int64) (cwh_15 : Nat → Int32), lfp6 (X3_run_h14 p3 cP_1 cme_4 cps_5 cal_7 cah_8 p2) x4_10 x5_11 x6_12 cLo_13 cHi_14 cwh_15 = some (rr, ocP, ocLo, ocHi, ocme, ocps, ocwh, ocal, ocah) → J p l e (rmk 3) s m args below meth c D A Q 8 (cw g cy cP_1 cLo_13 cHi_14 cpl ctb ctl ctf ctp ctk cts cth cob col cso cha chs cbe ctr cgl cgh cll clh cta cme_4 cps_5 cwh_15 cal_7 cah_8) 14 [(0, .ref (g 44)), (2, .int p2), (3, .int p3), (4, .int x4_10), (5, .int x5_11), (6, .int x6_12)] [] := by
    intro x4_10 x5_11 x6_12 cLo_13 cHi_14 cwh_15 hw
    refine lfp6_walk (P := fun x4_10 x5_11 x6_12 cLo_13 cHi_14 cwh_15 => J p l e (rmk 3) s m args below meth c D A Q 8 (cw g cy cP_1 cLo_13 cHi_14 cpl ctb ctl ctf ctp ctk cts cth cob col cso cha chs cbe ctr cgl cgh cll clh cta cme_4 cps_5 cwh_15 cal_7 cah_8) 14 [(0, .ref (g 44)), (2, .int p2), (3, .int p3), (4, .int x4_10), (5, .int x5_11), (6, .int x6_12)] []) ?_ hw
    intro r17 ir17 x4_10 x5_11 x6_12 cLo_13 cHi_14 cwh_15 hf
    unfold X3_run_h14 at hf
    refine jIload C dX3_run_14 5 rfl ?_
    refine jIconst C (2 : Int32) dX3_run_16 ki_2 ?_
    refine jIloadn C dX3_run_17 rfl 2 rfl ?_
    refine jImul C dX3_run_18 ?_
    refine jIconst C (2 : Int32) dX3_run_19 ki_2 ?_
    refine jIadd C dX3_run_20 ?_
    refine jCmpGt C 121 dX3_run_21 (by decide) (fun c18 => ?_) (fun c18 => ?_)
    · replace hf := itp hf c18
      refine jIconst C (0 : Int32) dX3_run_121 ki_0 ?_
      cases hf
      exact jEndI C hQ rfl dX3_run_122
    · replace hf := itn hf c18
      refine jIload C dX3_run_24 4 rfl ?_
      refine jAloadn C dX3_run_26 rfl 0 rfl ?_
      refine gf_RX3_36 C dX3_run_27 ?_
      refine jCmpGe C 121 dX3_run_30 (by decide) (fun c19 => ?_) (fun c19 => ?_)
      · replace hf := itp hf c19
        refine jIconst C (0 : Int32) dX3_run_121 ki_0 ?_
        cases hf
        exact jEndI C hQ rfl dX3_run_122
      · replace hf := itn hf c19
        refine jAloadn C dX3_run_33 rfl 0 rfl ?_
        refine jIload C dX3_run_34 4 rfl ?_
        refine jIloadn C dX3_run_36 rfl 1 rfl ?_
        obtain ⟨q20, e21, hf⟩ := bd1_some hf
        refine jVI C (X3_nextPart_ok  e21) vb_X3_nextPart mk_RX3_44 rfl rc44 ⟨Nat.le_of_ble_eq_true rfl, Nat.le_of_ble_eq_true rfl⟩ rfl (Nat.le_of_ble_eq_true rfl) dX3_run_37 ?_
        refine jIstore C dX3_run_40 (Nat.le_of_ble_eq_true rfl) [(7, .int q20), (0, .ref (g 44)), (2, .int p2), (3, .int p3), (4, .int x4_10), (5, .int x5_11), (6, .int x6_12)] rfl ?_
        refine jIload C dX3_run_42 0 rfl ?_
        refine jIconst C (-1 : Int32) dX3_run_44 ki_m1 ?_
        refine jCmpNe C 75 dX3_run_45 (by decide) (fun c22 => ?_) (fun c22 => ?_)
        · replace hf := itn hf c22
          refine jIinc C (x4_10 + (1 : Int32)) dX3_run_75 4 rfl (congrArg (fun z : Int32 => x4_10 + z) ki_1) (Nat.le_of_ble_eq_true rfl) [(4, .int (x4_10 + (1 : Int32))), (7, .int q20), (0, .ref (g 44)), (2, .int p2), (3, .int p3), (5, .int x5_11), (6, .int x6_12)] rfl ?_
          refine jIload C dX3_run_78 0 rfl ?_
          refine jIloadn C dX3_run_80 rfl 4 rfl ?_
          refine jCmpLe C 86 dX3_run_81 (by decide) (fun c23 => ?_) (fun c23 => ?_)
          · replace hf := itp hf c23
            refine jAloadn C dX3_run_86 rfl 2 rfl ?_
            refine gf_RX3_15 C dX3_run_87 ?_
            refine jIload C dX3_run_90 5 rfl ?_
            refine jIload C dX3_run_92 1 rfl ?_
            obtain ⟨z24, hf⟩ := gin_some hf
            refine as_cwh C z24 dX3_run_94 ?_
            refine jAloadn C dX3_run_95 rfl 2 rfl ?_
            refine gf_RX3_27 C dX3_run_96 ?_
            refine jIload C dX3_run_99 1 rfl ?_
            obtain ⟨z25, hf⟩ := gin_some hf
            refine rl_49 C z25 dX3_run_101 ?_
            refine jAloadn C dX3_run_102 rfl 2 rfl ?_
            refine gf_RX3_9 C dX3_run_103 ?_
            refine jIload C dX3_run_106 5 rfl ?_
            obtain ⟨z26, hf⟩ := gin_some hf
            refine al_cme C z26 dX3_run_108 ?_
            obtain ⟨cLo_27, cHi_28, e29, hf⟩ := bd2_some hf
            refine jVV C (X0_put_ok (ix7 z25) e29) vb_X0_put mk_RX3_52 rfl (rcF (ix7 z25)) ⟨Nat.le_of_ble_eq_true rfl, Nat.le_of_ble_eq_true rfl⟩ rfl (Nat.le_of_ble_eq_true rfl) dX3_run_109 ?_
            refine jIinc C (x5_11 + (1 : Int32)) dX3_run_112 5 rfl (congrArg (fun z : Int32 => x5_11 + z) ki_1) (Nat.le_of_ble_eq_true rfl) [(5, .int (x5_11 + (1 : Int32))), (4, .int (x4_10 + (1 : Int32))), (7, .int q20), (0, .ref (g 44)), (2, .int p2), (3, .int p3), (6, .int x6_12)] rfl ?_
            refine jIinc C (x6_12 + (1 : Int32)) dX3_run_115 6 rfl (congrArg (fun z : Int32 => x6_12 + z) ki_1) (Nat.le_of_ble_eq_true rfl) [(6, .int (x6_12 + (1 : Int32))), (5, .int (x5_11 + (1 : Int32))), (4, .int (x4_10 + (1 : Int32))), (7, .int q20), (0, .ref (g 44)), (2, .int p2), (3, .int p3)] rfl ?_
            refine jGoto C 14 dX3_run_118 (by decide) ?_
            refine jSub [4, 5, 6, 2, 1, 0] rfl ?_
            exact ir17 (x4_10 + (1 : Int32)) (x5_11 + (1 : Int32)) (x6_12 + (1 : Int32)) cLo_27 cHi_28 (upd cwh_15 x5_11.toNatClampNeg q20) hf
          · replace hf := itn hf c23
            refine jIconst C (2 : Int32) dX3_run_84 ki_2 ?_
            cases hf
            exact jEndI C hQ rfl dX3_run_85
        · replace hf := itp hf c22
          refine jAloadn C dX3_run_48 rfl 1 rfl ?_
          refine gf_RX3_15 C dX3_run_49 ?_
          refine jIload C dX3_run_52 5 rfl ?_
          refine jIconst C (-1 : Int32) dX3_run_54 ki_m1 ?_
          obtain ⟨z30, hf⟩ := gin_some hf
          refine as_cwh C z30 dX3_run_55 ?_
          refine jIinc C (x5_11 + (-1 : Int32)) dX3_run_56 5 rfl (congrArg (fun z : Int32 => x5_11 + z) ki_m1) (Nat.le_of_ble_eq_true rfl) [(5, .int (x5_11 + (-1 : Int32))), (7, .int q20), (0, .ref (g 44)), (2, .int p2), (3, .int p3), (4, .int x4_10), (6, .int x6_12)] rfl ?_
          refine jIload C dX3_run_59 0 rfl ?_
          refine jIfGe C 66 dX3_run_61 (by decide) (fun c31 => ?_) (fun c31 => ?_)
          · replace hf := itp hf c31
            refine jAloadn C dX3_run_66 rfl 2 rfl ?_
            refine jIload C dX3_run_67 0 rfl ?_
            obtain ⟨cLo_32, cHi_33, e34, hf⟩ := bd2_some hf
            refine jVV C (X3_takeOut_ok  e34) vb_X3_takeOut mk_RX3_48 rfl rc44 ⟨Nat.le_of_ble_eq_true rfl, Nat.le_of_ble_eq_true rfl⟩ rfl (Nat.le_of_ble_eq_true rfl) dX3_run_69 ?_
            refine jGoto C 115 dX3_run_72 (by decide) ?_
            refine jIinc C (x6_12 + (1 : Int32)) dX3_run_115 6 rfl (congrArg (fun z : Int32 => x6_12 + z) ki_1) (Nat.le_of_ble_eq_true rfl) [(6, .int (x6_12 + (1 : Int32))), (5, .int (x5_11 + (-1 : Int32))), (7, .int q20), (0, .ref (g 44)), (2, .int p2), (3, .int p3), (4, .int x4_10)] rfl ?_
            refine jGoto C 14 dX3_run_118 (by decide) ?_
            refine jSub [3, 4, 5, 6, 1, 0] rfl ?_
            exact ir17 x4_10 (x5_11 + (-1 : Int32)) (x6_12 + (1 : Int32)) cLo_32 cHi_33 (upd cwh_15 x5_11.toNatClampNeg (-1 : Int32)) hf
          · replace hf := itn hf c31
            refine jIconst C (1 : Int32) dX3_run_64 ki_1 ?_
            cases hf
            exact jEndI C hQ rfl dX3_run_65
  refine jSub [3, 5, 6, 2, 1, 0] rfl ?_
  exact hL16 (0 : Int32) (0 : Int32) (0 : Int32) cLo_2 cHi_3 cwh_6 hf
noncomputable def X4_isRound (p0 : Int32) (p1 : Int32) : Option Int32 := (if p0 < (1 : Int32) then some (0 : Int32) else (if (8 : Int32) ≤ p0 then some (0 : Int32) else (if p1 < (0 : Int32) then some (0 : Int32) else gin (p0 - (1 : Int32)) 8 ((if (facW (p0 - (1 : Int32)).toNatClampNeg) ≤ p1 then some (0 : Int32) else some (1 : Int32))))))
set_option maxHeartbeats 4000000 in
set_option maxRecDepth 20000 in
theorem X4_isRound_ok {D : va_G} {cy : Nat → ClassId} {G : Nat → Nat} {ws : va_W} {p0 : Int32} {p1 : Int32} {rr : Int32}  (hf : X4_isRound p0 p1 = some rr) : MT yX4_isRound cX4_isRound 2 (some .boolean) 0 [.int p0, .int p1] D cy G ws ws (some (.int rr)) := by
  refine MT.go (own := RX4) [(0, .int p0), (1, .int p1)] (by decide) rfl (Nat.le_of_ble_eq_true rfl) rfl (fun p l e s m args below meth c A Q C hQ => ?_)
  unfold X4_isRound at hf
  refine jIloadn C dX4_isRound_0 rfl 0 rfl ?_
  refine jIconst C (1 : Int32) dX4_isRound_1 ki_1 ?_
  refine jCmpLt C 32 dX4_isRound_2 (by decide) (fun c1 => ?_) (fun c1 => ?_)
  · replace hf := itp hf c1
    refine jIconst C (0 : Int32) dX4_isRound_32 ki_0 ?_
    cases hf
    exact jEndIZ C hQ rfl nar_z0 dX4_isRound_33
  · replace hf := itn hf c1
    refine jIloadn C dX4_isRound_5 rfl 0 rfl ?_
    refine gs_RX4_9 C dX4_isRound_6 ?_
    refine tn_fa C dX4_isRound_9 ?_
    refine jCmpGe C 32 dX4_isRound_10 (by decide) (fun c2 => ?_) (fun c2 => ?_)
    · replace hf := itp hf c2
      refine jIconst C (0 : Int32) dX4_isRound_32 ki_0 ?_
      cases hf
      exact jEndIZ C hQ rfl nar_z0 dX4_isRound_33
    · replace hf := itn hf c2
      refine jIloadn C dX4_isRound_13 rfl 1 rfl ?_
      refine jIfLt C 32 dX4_isRound_14 (by decide) (fun c3 => ?_) (fun c3 => ?_)
      · replace hf := itp hf c3
        refine jIconst C (0 : Int32) dX4_isRound_32 ki_0 ?_
        cases hf
        exact jEndIZ C hQ rfl nar_z0 dX4_isRound_33
      · replace hf := itn hf c3
        refine jIloadn C dX4_isRound_17 rfl 1 rfl ?_
        refine gs_RX4_9 C dX4_isRound_18 ?_
        refine jIloadn C dX4_isRound_21 rfl 0 rfl ?_
        refine jIconst C (1 : Int32) dX4_isRound_22 ki_1 ?_
        refine jIsub C dX4_isRound_23 ?_
        obtain ⟨z4, hf⟩ := gin_some hf
        refine tl_fa C z4 dX4_isRound_24 ?_
        refine jCmpGe C 32 dX4_isRound_25 (by decide) (fun c5 => ?_) (fun c5 => ?_)
        · replace hf := itp hf c5
          refine jIconst C (0 : Int32) dX4_isRound_32 ki_0 ?_
          cases hf
          exact jEndIZ C hQ rfl nar_z0 dX4_isRound_33
        · replace hf := itn hf c5
          refine jIconst C (1 : Int32) dX4_isRound_28 ki_1 ?_
          refine jGoto C 33 dX4_isRound_29 (by decide) ?_
          cases hf
          exact jEndIZ C hQ rfl nar_z1 dX4_isRound_33
noncomputable def X4_point_h4 (p0 : Int32) (p1 : Int32) (r4 : Int32 → Int32 → Option Int32) (x2_1 : Int32) (x3_2 : Int32) : Option Int32 := (if (7 : Int32) ≤ x3_2 then some (0 : Int32) else (if ((p0 >>> (x3_2 &&& 31)) &&& (1 : Int32)) = (1 : Int32) then (if x2_1 = p1 then some x3_2 else r4 (x2_1 + (1 : Int32)) (x3_2 + (1 : Int32))) else r4 x2_1 (x3_2 + (1 : Int32))))
noncomputable def X4_point (p0 : Int32) (p1 : Int32) : Option Int32 := lfp2 (X4_point_h4 p0 p1) (0 : Int32) (0 : Int32)
set_option maxHeartbeats 4000000 in
set_option maxRecDepth 20000 in
theorem X4_point_ok {D : va_G} {cy : Nat → ClassId} {G : Nat → Nat} {ws : va_W} {p0 : Int32} {p1 : Int32} {rr : Int32}  (hf : X4_point p0 p1 = some rr) : MT yX4_point cX4_point 4 (some .int) 0 [.int p0, .int p1] D cy G ws ws (some (.int rr)) := by
  refine MT.go (own := RX4) [(0, .int p0), (1, .int p1)] (by decide) rfl (Nat.le_of_ble_eq_true rfl) rfl (fun p l e s m args below meth c A Q C hQ => ?_)
  unfold X4_point at hf
  refine jIconst C (0 : Int32) dX4_point_0 ki_0 ?_
  refine jIstoren C dX4_point_1 rfl (Nat.le_of_ble_eq_true rfl) [(2, .int (0 : Int32)), (0, .int p0), (1, .int p1)] rfl ?_
  refine jIconst C (0 : Int32) dX4_point_2 ki_0 ?_
  refine jIstoren C dX4_point_3 rfl (Nat.le_of_ble_eq_true rfl) [(3, .int (0 : Int32)), (2, .int (0 : Int32)), (0, .int p0), (1, .int p1)] rfl ?_
  have hL3 : ∀ (x2_1 : Int32) (x3_2 : Int32), lfp2 (X4_point_h4 p0 p1) x2_1 x3_2 = some rr → J p l e (rmk 0) s m args below meth c D A Q 4 ws 4 [(0, .int p0), (1, .int p1), (2, .int x2_1), (3, .int x3_2)] [] := by
    intro x2_1 x3_2 hw
    refine lfp2_walk (P := fun x2_1 x3_2 => J p l e (rmk 0) s m args below meth c D A Q 4 ws 4 [(0, .int p0), (1, .int p1), (2, .int x2_1), (3, .int x3_2)] []) ?_ hw
    intro r4 ir4 x2_1 x3_2 hf
    unfold X4_point_h4 at hf
    refine jIloadn C dX4_point_4 rfl 3 rfl ?_
    refine jBipush C (7 : Int32) dX4_point_5 kb_7 ?_
    refine jCmpGe C 35 dX4_point_7 (by decide) (fun c5 => ?_) (fun c5 => ?_)
    · replace hf := itp hf c5
      refine jIconst C (0 : Int32) dX4_point_35 ki_0 ?_
      cases hf
      exact jEndI C hQ rfl dX4_point_36
    · replace hf := itn hf c5
      refine jIloadn C dX4_point_10 rfl 0 rfl ?_
      refine jIloadn C dX4_point_11 rfl 3 rfl ?_
      refine jIshr C dX4_point_12 ?_
      refine jIconst C (1 : Int32) dX4_point_13 ki_1 ?_
      refine jIand C dX4_point_14 ?_
      refine jIconst C (1 : Int32) dX4_point_15 ki_1 ?_
      refine jCmpNe C 29 dX4_point_16 (by decide) (fun c6 => ?_) (fun c6 => ?_)
      · replace hf := itn hf c6
        refine jIinc C (x3_2 + (1 : Int32)) dX4_point_29 3 rfl (congrArg (fun z : Int32 => x3_2 + z) ki_1) (Nat.le_of_ble_eq_true rfl) [(3, .int (x3_2 + (1 : Int32))), (0, .int p0), (1, .int p1), (2, .int x2_1)] rfl ?_
        refine jGoto C 4 dX4_point_32 (by decide) ?_
        refine jSub [1, 2, 3, 0] rfl ?_
        exact ir4 x2_1 (x3_2 + (1 : Int32)) hf
      · replace hf := itp hf c6
        refine jIloadn C dX4_point_19 rfl 2 rfl ?_
        refine jIloadn C dX4_point_20 rfl 1 rfl ?_
        refine jCmpNe C 26 dX4_point_21 (by decide) (fun c7 => ?_) (fun c7 => ?_)
        · replace hf := itn hf c7
          refine jIinc C (x2_1 + (1 : Int32)) dX4_point_26 2 rfl (congrArg (fun z : Int32 => x2_1 + z) ki_1) (Nat.le_of_ble_eq_true rfl) [(2, .int (x2_1 + (1 : Int32))), (0, .int p0), (1, .int p1), (3, .int x3_2)] rfl ?_
          refine jIinc C (x3_2 + (1 : Int32)) dX4_point_29 3 rfl (congrArg (fun z : Int32 => x3_2 + z) ki_1) (Nat.le_of_ble_eq_true rfl) [(3, .int (x3_2 + (1 : Int32))), (2, .int (x2_1 + (1 : Int32))), (0, .int p0), (1, .int p1)] rfl ?_
          refine jGoto C 4 dX4_point_32 (by decide) ?_
          refine jSub [2, 3, 1, 0] rfl ?_
          exact ir4 (x2_1 + (1 : Int32)) (x3_2 + (1 : Int32)) hf
        · replace hf := itp hf c7
          refine jIloadn C dX4_point_24 rfl 3 rfl ?_
          cases hf
          exact jEndI C hQ rfl dX4_point_25
  refine jSub [2, 3, 1, 0] rfl ?_
  exact hL3 (0 : Int32) (0 : Int32) hf
noncomputable def X4_lay_h20 (p0 : Int32) (r7 : Int32 → Int32 → Int32 → (Nat → Int32) → Option (Nat → Int32)) (x3_2 : Int32) (x4_3 : Int32) (x5_4 : Int32) (cpl_5 : Nat → Int32) : Option (Nat → Int32) := (if p0 ≤ x5_4 then some cpl_5 else gin ((p0 - (1 : Int32)) - x5_4) 8 (gnz (facW ((p0 - (1 : Int32)) - x5_4).toNatClampNeg) (bd1 (X4_point x3_2 (x4_3 / (facW ((p0 - (1 : Int32)) - x5_4).toNatClampNeg))) (fun q11 => gin x5_4 7 (gin x5_4 7 (gnz (facW ((p0 - (1 : Int32)) - x5_4).toNatClampNeg) (r7 (x3_2 &&& (((1 : Int32) <<< (((upd cpl_5 x5_4.toNatClampNeg q11) x5_4.toNatClampNeg) &&& 31)) ^^^ (-1 : Int32))) (x4_3 - x4_3 / (facW ((p0 - (1 : Int32)) - x5_4).toNatClampNeg) * (facW ((p0 - (1 : Int32)) - x5_4).toNatClampNeg)) (x5_4 + (1 : Int32)) (upd cpl_5 x5_4.toNatClampNeg q11))))))))
noncomputable def X4_lay (cpl : Nat → Int32) (p0 : Int32) (p1 : Int32) : Option (Nat → Int32) := gin (0 : Int32) 7 (lfp4 (X4_lay_h20 p0) (((1 : Int32) <<< ((p0 - (1 : Int32)) &&& 31)) - (1 : Int32)) p1 (1 : Int32) (upd cpl (0 : Int32).toNatClampNeg (p0 - (1 : Int32))))
set_option maxHeartbeats 4000000 in
set_option maxRecDepth 20000 in
theorem X4_lay_ok {p0 : Int32} {p1 : Int32} {ocpl : Nat → Int32}  (hf : X4_lay cpl p0 p1 = some ocpl) : MT yX4_lay cX4_lay 7 none 1 [.int p0, .int p1, .ref (g 30)] D cy G (cw g cy cP cLo cHi cpl ctb ctl ctf ctp ctk cts cth cob col cso cha chs cbe ctr cgl cgh cll clh cta cme cps cwh cal cah) (cw g cy cP cLo cHi ocpl ctb ctl ctf ctp ctk cts cth cob col cso cha chs cbe ctr cgl cgh cll clh cta cme cps cwh cal cah) none := by
  refine MT.go (own := RX4) [(0, .int p0), (1, .int p1), (2, .ref (g 30))] (by decide) rfl (Nat.le_of_ble_eq_true rfl) rfl (fun p l e s m args below meth c A Q C hQ => ?_)
  unfold X4_lay at hf
  refine jAloadn C dX4_lay_0 rfl 2 rfl ?_
  refine jIconst C (0 : Int32) dX4_lay_1 ki_0 ?_
  refine jIloadn C dX4_lay_2 rfl 0 rfl ?_
  refine jIconst C (1 : Int32) dX4_lay_3 ki_1 ?_
  refine jIsub C dX4_lay_4 ?_
  obtain ⟨z1, hf⟩ := gin_some hf
  refine as_cpl C z1 dX4_lay_5 ?_
  refine jIconst C (1 : Int32) dX4_lay_6 ki_1 ?_
  refine jIloadn C dX4_lay_7 rfl 0 rfl ?_
  refine jIconst C (1 : Int32) dX4_lay_8 ki_1 ?_
  refine jIsub C dX4_lay_9 ?_
  refine jIshl C dX4_lay_10 ?_
  refine jIconst C (1 : Int32) dX4_lay_11 ki_1 ?_
  refine jIsub C dX4_lay_12 ?_
  refine jIstoren C dX4_lay_13 rfl (Nat.le_of_ble_eq_true rfl) [(3, .int (((1 : Int32) <<< ((p0 - (1 : Int32)) &&& 31)) - (1 : Int32))), (0, .int p0), (1, .int p1), (2, .ref (g 30))] rfl ?_
  refine jIloadn C dX4_lay_14 rfl 2 rfl ?_
  refine jIstore C dX4_lay_15 (Nat.le_of_ble_eq_true rfl) [(4, .int p1), (3, .int (((1 : Int32) <<< ((p0 - (1 : Int32)) &&& 31)) - (1 : Int32))), (0, .int p0), (1, .int p1), (2, .ref (g 30))] rfl ?_
  refine jIconst C (1 : Int32) dX4_lay_17 ki_1 ?_
  refine jIstore C dX4_lay_18 (Nat.le_of_ble_eq_true rfl) [(5, .int (1 : Int32)), (4, .int p1), (3, .int (((1 : Int32) <<< ((p0 - (1 : Int32)) &&& 31)) - (1 : Int32))), (0, .int p0), (1, .int p1), (2, .ref (g 30))] rfl ?_
  have hL6 : ∀ (x3_2 : Int32) (x4_3 : Int32) (x5_4 : Int32) (cpl_5 : Nat → Int32), lfp4 (X4_lay_h20 p0) x3_2 x4_3 x5_4 cpl_5 = some ocpl → J p l e (rmk 1) s m args below meth c D A Q 7 (cw g cy cP cLo cHi cpl_5 ctb ctl ctf ctp ctk cts cth cob col cso cha chs cbe ctr cgl cgh cll clh cta cme cps cwh cal cah) 20 [(0, .int p0), (2, .ref (g 30)), (3, .int x3_2), (4, .int x4_3), (5, .int x5_4)] [] := by
    intro x3_2 x4_3 x5_4 cpl_5 hw
    refine lfp4_walk (P := fun x3_2 x4_3 x5_4 cpl_5 => J p l e (rmk 1) s m args below meth c D A Q 7 (cw g cy cP cLo cHi cpl_5 ctb ctl ctf ctp ctk cts cth cob col cso cha chs cbe ctr cgl cgh cll clh cta cme cps cwh cal cah) 20 [(0, .int p0), (2, .ref (g 30)), (3, .int x3_2), (4, .int x4_3), (5, .int x5_4)] []) ?_ hw
    intro r7 ir7 x3_2 x4_3 x5_4 cpl_5 hf
    unfold X4_lay_h20 at hf
    refine jIload C dX4_lay_20 4 rfl ?_
    refine jIloadn C dX4_lay_22 rfl 0 rfl ?_
    refine jCmpGe C 75 dX4_lay_23 (by decide) (fun c8 => ?_) (fun c8 => ?_)
    · replace hf := itp hf c8
      cases hf
      exact jEndV C hQ rfl dX4_lay_75
    · replace hf := itn hf c8
      refine gs_RX4_9 C dX4_lay_26 ?_
      refine jIloadn C dX4_lay_29 rfl 0 rfl ?_
      refine jIconst C (1 : Int32) dX4_lay_30 ki_1 ?_
      refine jIsub C dX4_lay_31 ?_
      refine jIload C dX4_lay_32 4 rfl ?_
      refine jIsub C dX4_lay_34 ?_
      obtain ⟨z9, hf⟩ := gin_some hf
      refine tl_fa C z9 dX4_lay_35 ?_
      refine jIstore C dX4_lay_36 (Nat.le_of_ble_eq_true rfl) [(6, .int (facW ((p0 - (1 : Int32)) - x5_4).toNatClampNeg)), (0, .int p0), (2, .ref (g 30)), (3, .int x3_2), (4, .int x4_3), (5, .int x5_4)] rfl ?_
      refine jAloadn C dX4_lay_38 rfl 2 rfl ?_
      refine jIload C dX4_lay_39 5 rfl ?_
      refine jIloadn C dX4_lay_41 rfl 3 rfl ?_
      refine jIload C dX4_lay_42 4 rfl ?_
      refine jIload C dX4_lay_44 0 rfl ?_
      obtain ⟨z10, hf⟩ := gnz_some hf
      refine jIdiv C dX4_lay_46 z10 ?_
      obtain ⟨q11, e12, hf⟩ := bd1_some hf
      refine jSI C (X4_point_ok  e12) sb_X4_point mk_RX4_15 rfl ⟨Nat.le_of_ble_eq_true rfl, Nat.le_of_ble_eq_true rfl⟩ rfl (Nat.le_of_ble_eq_true rfl) dX4_lay_47 ?_
      obtain ⟨z13, hf⟩ := gin_some hf
      refine as_cpl C z13 dX4_lay_50 ?_
      refine jIloadn C dX4_lay_51 rfl 3 rfl ?_
      refine jIconst C (1 : Int32) dX4_lay_52 ki_1 ?_
      refine jAloadn C dX4_lay_53 rfl 2 rfl ?_
      refine jIload C dX4_lay_54 5 rfl ?_
      obtain ⟨z14, hf⟩ := gin_some hf
      refine al_cpl C z14 dX4_lay_56 ?_
      refine jIshl C dX4_lay_57 ?_
      refine jIconst C (-1 : Int32) dX4_lay_58 ki_m1 ?_
      refine jIxor C dX4_lay_59 ?_
      refine jIand C dX4_lay_60 ?_
      refine jIstoren C dX4_lay_61 rfl (Nat.le_of_ble_eq_true rfl) [(3, .int (x3_2 &&& (((1 : Int32) <<< (((upd cpl_5 x5_4.toNatClampNeg q11) x5_4.toNatClampNeg) &&& 31)) ^^^ (-1 : Int32)))), (6, .int (facW ((p0 - (1 : Int32)) - x5_4).toNatClampNeg)), (0, .int p0), (2, .ref (g 30)), (4, .int x4_3), (5, .int x5_4)] rfl ?_
      refine jIload C dX4_lay_62 4 rfl ?_
      refine jIload C dX4_lay_64 1 rfl ?_
      obtain ⟨z15, hf⟩ := gnz_some hf
      refine jIrem C dX4_lay_66 z15 ?_
      refine jIstore C dX4_lay_67 (Nat.le_of_ble_eq_true rfl) [(4, .int (x4_3 - x4_3 / (facW ((p0 - (1 : Int32)) - x5_4).toNatClampNeg) * (facW ((p0 - (1 : Int32)) - x5_4).toNatClampNeg))), (3, .int (x3_2 &&& (((1 : Int32) <<< (((upd cpl_5 x5_4.toNatClampNeg q11) x5_4.toNatClampNeg) &&& 31)) ^^^ (-1 : Int32)))), (6, .int (facW ((p0 - (1 : Int32)) - x5_4).toNatClampNeg)), (0, .int p0), (2, .ref (g 30)), (5, .int x5_4)] rfl ?_
      refine jIinc C (x5_4 + (1 : Int32)) dX4_lay_69 5 rfl (congrArg (fun z : Int32 => x5_4 + z) ki_1) (Nat.le_of_ble_eq_true rfl) [(5, .int (x5_4 + (1 : Int32))), (4, .int (x4_3 - x4_3 / (facW ((p0 - (1 : Int32)) - x5_4).toNatClampNeg) * (facW ((p0 - (1 : Int32)) - x5_4).toNatClampNeg))), (3, .int (x3_2 &&& (((1 : Int32) <<< (((upd cpl_5 x5_4.toNatClampNeg q11) x5_4.toNatClampNeg) &&& 31)) ^^^ (-1 : Int32)))), (6, .int (facW ((p0 - (1 : Int32)) - x5_4).toNatClampNeg)), (0, .int p0), (2, .ref (g 30))] rfl ?_
      refine jGoto C 20 dX4_lay_72 (by decide) ?_
      refine jSub [4, 5, 2, 1, 0] rfl ?_
      exact ir7 (x3_2 &&& (((1 : Int32) <<< (((upd cpl_5 x5_4.toNatClampNeg q11) x5_4.toNatClampNeg) &&& 31)) ^^^ (-1 : Int32))) (x4_3 - x4_3 / (facW ((p0 - (1 : Int32)) - x5_4).toNatClampNeg) * (facW ((p0 - (1 : Int32)) - x5_4).toNatClampNeg)) (x5_4 + (1 : Int32)) (upd cpl_5 x5_4.toNatClampNeg q11) hf
  refine jSub [3, 5, 2, 1, 0] rfl ?_
  exact hL6 (((1 : Int32) <<< ((p0 - (1 : Int32)) &&& 31)) - (1 : Int32)) p1 (1 : Int32) (upd cpl (0 : Int32).toNatClampNeg (p0 - (1 : Int32))) hf
noncomputable def X4_roundsWithArc (p0 : Int32) (p1 : Int32) : Option Int32 := (if p1 = (0 : Int32) then gin (p0 - (1 : Int32)) 8 (some (facW (p0 - (1 : Int32)).toNatClampNeg)) else (if p1 = p0 then gin (p0 - (1 : Int32)) 8 (some (facW (p0 - (1 : Int32)).toNatClampNeg)) else gin p1 8 (gin (p0 - p1) 8 (some ((facW p1.toNatClampNeg) * (facW (p0 - p1).toNatClampNeg))))))
set_option maxHeartbeats 4000000 in
set_option maxRecDepth 20000 in
theorem X4_roundsWithArc_ok {D : va_G} {cy : Nat → ClassId} {G : Nat → Nat} {ws : va_W} {p0 : Int32} {p1 : Int32} {rr : Int32}  (hf : X4_roundsWithArc p0 p1 = some rr) : MT yX4_roundsWithArc cX4_roundsWithArc 2 (some .int) 0 [.int p0, .int p1] D cy G ws ws (some (.int rr)) := by
  refine MT.go (own := RX4) [(0, .int p0), (1, .int p1)] (by decide) rfl (Nat.le_of_ble_eq_true rfl) rfl (fun p l e s m args below meth c A Q C hQ => ?_)
  unfold X4_roundsWithArc at hf
  refine jIloadn C dX4_roundsWithArc_0 rfl 1 rfl ?_
  refine jIfEq C 9 dX4_roundsWithArc_1 (by decide) (fun c1 => ?_) (fun c1 => ?_)
  · replace hf := itp hf c1
    refine gs_RX4_9 C dX4_roundsWithArc_9 ?_
    refine jIloadn C dX4_roundsWithArc_12 rfl 0 rfl ?_
    refine jIconst C (1 : Int32) dX4_roundsWithArc_13 ki_1 ?_
    refine jIsub C dX4_roundsWithArc_14 ?_
    obtain ⟨z2, hf⟩ := gin_some hf
    refine tl_fa C z2 dX4_roundsWithArc_15 ?_
    cases hf
    exact jEndI C hQ rfl dX4_roundsWithArc_16
  · replace hf := itn hf c1
    refine jIloadn C dX4_roundsWithArc_4 rfl 1 rfl ?_
    refine jIloadn C dX4_roundsWithArc_5 rfl 0 rfl ?_
    refine jCmpNe C 17 dX4_roundsWithArc_6 (by decide) (fun c3 => ?_) (fun c3 => ?_)
    · replace hf := itn hf c3
      refine gs_RX4_9 C dX4_roundsWithArc_17 ?_
      refine jIloadn C dX4_roundsWithArc_20 rfl 1 rfl ?_
      obtain ⟨z4, hf⟩ := gin_some hf
      refine tl_fa C z4 dX4_roundsWithArc_21 ?_
      refine gs_RX4_9 C dX4_roundsWithArc_22 ?_
      refine jIloadn C dX4_roundsWithArc_25 rfl 0 rfl ?_
      refine jIloadn C dX4_roundsWithArc_26 rfl 1 rfl ?_
      refine jIsub C dX4_roundsWithArc_27 ?_
      obtain ⟨z5, hf⟩ := gin_some hf
      refine tl_fa C z5 dX4_roundsWithArc_28 ?_
      refine jImul C dX4_roundsWithArc_29 ?_
      cases hf
      exact jEndI C hQ rfl dX4_roundsWithArc_30
    · replace hf := itp hf c3
      refine gs_RX4_9 C dX4_roundsWithArc_9 ?_
      refine jIloadn C dX4_roundsWithArc_12 rfl 0 rfl ?_
      refine jIconst C (1 : Int32) dX4_roundsWithArc_13 ki_1 ?_
      refine jIsub C dX4_roundsWithArc_14 ?_
      obtain ⟨z6, hf⟩ := gin_some hf
      refine tl_fa C z6 dX4_roundsWithArc_15 ?_
      cases hf
      exact jEndI C hQ rfl dX4_roundsWithArc_16
noncomputable def X5_fitting_j44 (p2 : Int32) (cP_5 : Nat → Int32) (cLo_6 : Nat → Int64) (cHi_7 : Nat → Int64) : Option ((Nat → Int32) × (Nat → Int64) × (Nat → Int64)) := (if p2 = (0 : Int32) then bd2 (X0_becomeRestOf cLo_6 cHi_7 18 17) (fun cLo_10 cHi_11 => some (cP_5, cLo_10, cHi_11)) else (if p2 = (2 : Int32) then bd2 (X0_becomeRestOf cLo_6 cHi_7 18 17) (fun cLo_14 cHi_15 => some (cP_5, cLo_14, cHi_15)) else some (cP_5, cLo_6, cHi_7)))
noncomputable def X5_fitting (cP : Nat → Int32) (cLo : Nat → Int64) (cHi : Nat → Int64) (p1 : Int32) (p2 : Int32) : Option ((Nat → Int32) × (Nat → Int64) × (Nat → Int64)) := bd3 (X0_become cP cLo cHi 18 17) (fun cP_1 cLo_2 cHi_3 => (if (1 : Int32) < p2 then bd3 (X0_becomeComparable cP_1 cLo_2 cHi_3 18 17 p1 19) (fun cP_18 cLo_19 cHi_20 => X5_fitting_j44 p2 cP_18 cLo_19 cHi_20) else bd2 (X0_keepSharing cLo_2 cHi_3 18 p1 (0 : Int32)) (fun cLo_22 cHi_23 => X5_fitting_j44 p2 cP_1 cLo_22 cHi_23)))
set_option maxHeartbeats 4000000 in
set_option maxRecDepth 20000 in
theorem X5_fitting_ok {p1 : Int32} {p2 : Int32} {ocP : Nat → Int32} {ocLo : Nat → Int64} {ocHi : Nat → Int64}  (hf : X5_fitting cP cLo cHi p1 p2 = some (ocP, ocLo, ocHi)) : MT yX5_fitting cX5_fitting 3 none 3 [.ref (g 38), .int p1, .int p2] D cy G (cw g cy cP cLo cHi cpl ctb ctl ctf ctp ctk cts cth cob col cso cha chs cbe ctr cgl cgh cll clh cta cme cps cwh cal cah) (cw g cy ocP ocLo ocHi cpl ctb ctl ctf ctp ctk cts cth cob col cso cha chs cbe ctr cgl cgh cll clh cta cme cps cwh cal cah) none := by
  refine MT.go (own := RX5) [(0, .ref (g 38)), (1, .int p1), (2, .int p2)] (by decide) rfl (Nat.le_of_ble_eq_true rfl) rfl (fun p l e s m args below meth c A Q C hQ => ?_)
  unfold X5_fitting at hf
  refine jAloadn C dX5_fitting_0 rfl 0 rfl ?_
  refine gf_RX5_38 C dX5_fitting_1 ?_
  refine jAloadn C dX5_fitting_4 rfl 0 rfl ?_
  refine gf_RX5_35 C dX5_fitting_5 ?_
  obtain ⟨cP_1, cLo_2, cHi_3, e4, hf⟩ := bd3_some hf
  refine jVV C (X0_become_ok (by decide) (by decide) e4) vb_X0_become mk_RX5_44 rfl (rcF (by decide)) ⟨Nat.le_of_ble_eq_true rfl, Nat.le_of_ble_eq_true rfl⟩ rfl (Nat.le_of_ble_eq_true rfl) dX5_fitting_8 ?_
  refine jIloadn C dX5_fitting_11 rfl 2 rfl ?_
  refine jIconst C (1 : Int32) dX5_fitting_12 ki_1 ?_
  have hL8 : ∀ (cP_5 : Nat → Int32) (cLo_6 : Nat → Int64) (cHi_7 : Nat → Int64), X5_fitting_j44 p2 cP_5 cLo_6 cHi_7 = some (ocP, ocLo, ocHi) → J p l e (rmk 3) s m args below meth c D A Q 3 (cw g cy cP_5 cLo_6 cHi_7 cpl ctb ctl ctf ctp ctk cts cth cob col cso cha chs cbe ctr cgl cgh cll clh cta cme cps cwh cal cah) 44 [(0, .ref (g 38)), (2, .int p2)] [] := by
    intro cP_5 cLo_6 cHi_7 hf
    unfold X5_fitting_j44 at hf
    refine jIloadn C dX5_fitting_44 rfl 1 rfl ?_
    refine jIfEq C 53 dX5_fitting_45 (by decide) (fun c9 => ?_) (fun c9 => ?_)
    · replace hf := itp hf c9
      refine jAloadn C dX5_fitting_53 rfl 0 rfl ?_
      refine gf_RX5_38 C dX5_fitting_54 ?_
      refine jAloadn C dX5_fitting_57 rfl 0 rfl ?_
      refine gf_RX5_35 C dX5_fitting_58 ?_
      obtain ⟨cLo_10, cHi_11, e12, hf⟩ := bd2_some hf
      refine jVV C (X0_becomeRestOf_ok (by decide) (by decide) e12) vb_X0_becomeRestOf mk_RX5_113 rfl (rcF (by decide)) ⟨Nat.le_of_ble_eq_true rfl, Nat.le_of_ble_eq_true rfl⟩ rfl (Nat.le_of_ble_eq_true rfl) dX5_fitting_61 ?_
      cases hf
      exact jEndV C hQ rfl dX5_fitting_64
    · replace hf := itn hf c9
      refine jIloadn C dX5_fitting_48 rfl 1 rfl ?_
      refine jIconst C (2 : Int32) dX5_fitting_49 ki_2 ?_
      refine jCmpNe C 64 dX5_fitting_50 (by decide) (fun c13 => ?_) (fun c13 => ?_)
      · replace hf := itn hf c13
        cases hf
        exact jEndV C hQ rfl dX5_fitting_64
      · replace hf := itp hf c13
        refine jAloadn C dX5_fitting_53 rfl 0 rfl ?_
        refine gf_RX5_38 C dX5_fitting_54 ?_
        refine jAloadn C dX5_fitting_57 rfl 0 rfl ?_
        refine gf_RX5_35 C dX5_fitting_58 ?_
        obtain ⟨cLo_14, cHi_15, e16, hf⟩ := bd2_some hf
        refine jVV C (X0_becomeRestOf_ok (by decide) (by decide) e16) vb_X0_becomeRestOf mk_RX5_113 rfl (rcF (by decide)) ⟨Nat.le_of_ble_eq_true rfl, Nat.le_of_ble_eq_true rfl⟩ rfl (Nat.le_of_ble_eq_true rfl) dX5_fitting_61 ?_
        cases hf
        exact jEndV C hQ rfl dX5_fitting_64
  refine jCmpGt C 28 dX5_fitting_13 (by decide) (fun c17 => ?_) (fun c17 => ?_)
  · replace hf := itp hf c17
    refine jAloadn C dX5_fitting_28 rfl 0 rfl ?_
    refine gf_RX5_38 C dX5_fitting_29 ?_
    refine jAloadn C dX5_fitting_32 rfl 0 rfl ?_
    refine gf_RX5_35 C dX5_fitting_33 ?_
    refine jIloadn C dX5_fitting_36 rfl 1 rfl ?_
    refine jAloadn C dX5_fitting_37 rfl 0 rfl ?_
    refine gf_RX5_41 C dX5_fitting_38 ?_
    obtain ⟨cP_18, cLo_19, cHi_20, e21, hf⟩ := bd3_some hf
    refine jVV C (X0_becomeComparable_ok (by decide) (by decide) (by decide) e21) vb_X0_becomeComparable mk_RX5_109 rfl (rcF (by decide)) ⟨Nat.le_of_ble_eq_true rfl, Nat.le_of_ble_eq_true rfl⟩ rfl (Nat.le_of_ble_eq_true rfl) dX5_fitting_41 ?_
    refine jSub [0, 2] rfl ?_
    exact hL8 cP_18 cLo_19 cHi_20 hf
  · replace hf := itn hf c17
    refine jAloadn C dX5_fitting_16 rfl 0 rfl ?_
    refine gf_RX5_38 C dX5_fitting_17 ?_
    refine jIloadn C dX5_fitting_20 rfl 1 rfl ?_
    refine jIconst C (0 : Int32) dX5_fitting_21 ki_0 ?_
    obtain ⟨cLo_22, cHi_23, e24, hf⟩ := bd2_some hf
    refine jVV C (X0_keepSharing_ok (by decide) e24) vb_X0_keepSharing mk_RX5_106 rfl (rcF (by decide)) ⟨Nat.le_of_ble_eq_true rfl, Nat.le_of_ble_eq_true rfl⟩ rfl (Nat.le_of_ble_eq_true rfl) dX5_fitting_22 ?_
    refine jGoto C 44 dX5_fitting_25 (by decide) ?_
    refine jSub [0, 2] rfl ?_
    exact hL8 cP_1 cLo_22 cHi_23 hf
noncomputable def X5_pairUp_h2 (p1 : Int32) (r8 : Int32 → (Nat → Int32) → (Nat → Int64) → (Nat → Int64) → (Nat → Int64) → (Nat → Int64) → Option ((Nat → Int32) × (Nat → Int64) × (Nat → Int64) × (Nat → Int64) × (Nat → Int64))) (x2_1 : Int32) (cP_2 : Nat → Int32) (cLo_3 : Nat → Int64) (cHi_4 : Nat → Int64) (cgl_5 : Nat → Int64) (cgh_6 : Nat → Int64) : Option ((Nat → Int32) × (Nat → Int64) × (Nat → Int64) × (Nat → Int64) × (Nat → Int64)) := bd1 (X0_span cP_2 17) (fun q9 => (if q9 ≤ x2_1 then some (cP_2, cLo_3, cHi_4, cgl_5, cgh_6) else bd1 (X0_holds cLo_3 cHi_4 17 x2_1) (fun q12 => (if q12 = (0 : Int32) then r8 (x2_1 + (1 : Int32)) cP_2 cLo_3 cHi_4 cgl_5 cgh_6 else bd3 (X5_fitting cP_2 cLo_3 cHi_4 x2_1 p1) (fun cP_15 cLo_16 cHi_17 => gin x2_1 128 (gin x2_1 128 (r8 (x2_1 + (1 : Int32)) cP_15 cLo_16 cHi_17 (vp_updL cgl_5 x2_1.toNatClampNeg (cLo_16 18)) (vp_updL cgh_6 x2_1.toNatClampNeg (cHi_17 18)))))))))
noncomputable def X5_pairUp (cP : Nat → Int32) (cLo : Nat → Int64) (cHi : Nat → Int64) (cgl : Nat → Int64) (cgh : Nat → Int64) (p1 : Int32) : Option ((Nat → Int32) × (Nat → Int64) × (Nat → Int64) × (Nat → Int64) × (Nat → Int64)) := lfp6 (X5_pairUp_h2 p1) (0 : Int32) cP cLo cHi cgl cgh
set_option maxHeartbeats 4000000 in
set_option maxRecDepth 20000 in
theorem X5_pairUp_ok {p1 : Int32} {ocP : Nat → Int32} {ocLo : Nat → Int64} {ocHi : Nat → Int64} {ocgl : Nat → Int64} {ocgh : Nat → Int64}  (hf : X5_pairUp cP cLo cHi cgl cgh p1 = some (ocP, ocLo, ocHi, ocgl, ocgh)) : MT yX5_pairUp cX5_pairUp 3 none 4 [.ref (g 38), .int p1] D cy G (cw g cy cP cLo cHi cpl ctb ctl ctf ctp ctk cts cth cob col cso cha chs cbe ctr cgl cgh cll clh cta cme cps cwh cal cah) (cw g cy ocP ocLo ocHi cpl ctb ctl ctf ctp ctk cts cth cob col cso cha chs cbe ctr ocgl ocgh cll clh cta cme cps cwh cal cah) none := by
  refine MT.go (own := RX5) [(0, .ref (g 38)), (1, .int p1)] (by decide) rfl (Nat.le_of_ble_eq_true rfl) rfl (fun p l e s m args below meth c A Q C hQ => ?_)
  unfold X5_pairUp at hf
  refine jIconst C (0 : Int32) dX5_pairUp_0 ki_0 ?_
  refine jIstoren C dX5_pairUp_1 rfl (Nat.le_of_ble_eq_true rfl) [(2, .int (0 : Int32)), (0, .ref (g 38)), (1, .int p1)] rfl ?_
  have hL7 : ∀ (x2_1 : Int32) (cP_2 : Nat → Int32) (cLo_3 : Nat → Int64) (cHi_4 : Nat → Int64) (cgl_5 : Nat → Int64) (cgh_6 : Nat → Int64), lfp6 (X5_pairUp_h2 p1) x2_1 cP_2 cLo_3 cHi_4 cgl_5 cgh_6 = some (ocP, ocLo, ocHi, ocgl, ocgh) → J p l e (rmk 4) s m args below meth c D A Q 3 (cw g cy cP_2 cLo_3 cHi_4 cpl ctb ctl ctf ctp ctk cts cth cob col cso cha chs cbe ctr cgl_5 cgh_6 cll clh cta cme cps cwh cal cah) 2 [(0, .ref (g 38)), (1, .int p1), (2, .int x2_1)] [] := by
    intro x2_1 cP_2 cLo_3 cHi_4 cgl_5 cgh_6 hw
    refine lfp6_walk (P := fun x2_1 cP_2 cLo_3 cHi_4 cgl_5 cgh_6 => J p l e (rmk 4) s m args below meth c D A Q 3 (cw g cy cP_2 cLo_3 cHi_4 cpl ctb ctl ctf ctp ctk cts cth cob col cso cha chs cbe ctr cgl_5 cgh_6 cll clh cta cme cps cwh cal cah) 2 [(0, .ref (g 38)), (1, .int p1), (2, .int x2_1)] []) ?_ hw
    intro r8 ir8 x2_1 cP_2 cLo_3 cHi_4 cgl_5 cgh_6 hf
    unfold X5_pairUp_h2 at hf
    refine jIloadn C dX5_pairUp_2 rfl 2 rfl ?_
    refine jAloadn C dX5_pairUp_3 rfl 0 rfl ?_
    refine gf_RX5_35 C dX5_pairUp_4 ?_
    obtain ⟨q9, e10, hf⟩ := bd1_some hf
    refine jVI C (X0_span_ok (by decide) e10) vb_X0_span mk_RX5_94 rfl (rcF (by decide)) ⟨Nat.le_of_ble_eq_true rfl, Nat.le_of_ble_eq_true rfl⟩ rfl (Nat.le_of_ble_eq_true rfl) dX5_pairUp_7 ?_
    refine jCmpGe C 62 dX5_pairUp_10 (by decide) (fun c11 => ?_) (fun c11 => ?_)
    · replace hf := itp hf c11
      cases hf
      exact jEndV C hQ rfl dX5_pairUp_62
    · replace hf := itn hf c11
      refine jAloadn C dX5_pairUp_13 rfl 0 rfl ?_
      refine gf_RX5_35 C dX5_pairUp_14 ?_
      refine jIloadn C dX5_pairUp_17 rfl 2 rfl ?_
      obtain ⟨q12, e13, hf⟩ := bd1_some hf
      refine jVI C (X0_holds_ok (by decide) e13) vb_X0_holds mk_RX5_98 rfl (rcF (by decide)) ⟨Nat.le_of_ble_eq_true rfl, Nat.le_of_ble_eq_true rfl⟩ rfl (Nat.le_of_ble_eq_true rfl) dX5_pairUp_18 ?_
      refine jIfEq C 56 dX5_pairUp_21 (by decide) (fun c14 => ?_) (fun c14 => ?_)
      · replace hf := itp hf c14
        refine jIinc C (x2_1 + (1 : Int32)) dX5_pairUp_56 2 rfl (congrArg (fun z : Int32 => x2_1 + z) ki_1) (Nat.le_of_ble_eq_true rfl) [(2, .int (x2_1 + (1 : Int32))), (0, .ref (g 38)), (1, .int p1)] rfl ?_
        refine jGoto C 2 dX5_pairUp_59 (by decide) ?_
        refine jSub [1, 2, 0] rfl ?_
        exact ir8 (x2_1 + (1 : Int32)) cP_2 cLo_3 cHi_4 cgl_5 cgh_6 hf
      · replace hf := itn hf c14
        refine jAloadn C dX5_pairUp_24 rfl 0 rfl ?_
        refine jIloadn C dX5_pairUp_25 rfl 2 rfl ?_
        refine jIloadn C dX5_pairUp_26 rfl 1 rfl ?_
        obtain ⟨cP_15, cLo_16, cHi_17, e18, hf⟩ := bd3_some hf
        refine jVV C (X5_fitting_ok  e18) vb_X5_fitting mk_RX5_102 rfl rc38 ⟨Nat.le_of_ble_eq_true rfl, Nat.le_of_ble_eq_true rfl⟩ rfl (Nat.le_of_ble_eq_true rfl) dX5_pairUp_27 ?_
        refine jAloadn C dX5_pairUp_30 rfl 0 rfl ?_
        refine gf_RX5_18 C dX5_pairUp_31 ?_
        refine jIloadn C dX5_pairUp_34 rfl 2 rfl ?_
        refine jAloadn C dX5_pairUp_35 rfl 0 rfl ?_
        refine gf_RX5_38 C dX5_pairUp_36 ?_
        refine gf_RX5_68 C (by decide) dX5_pairUp_39 ?_
        obtain ⟨z19, hf⟩ := gin_some hf
        refine as_cgl C z19 dX5_pairUp_42 ?_
        refine jAloadn C dX5_pairUp_43 rfl 0 rfl ?_
        refine gf_RX5_22 C dX5_pairUp_44 ?_
        refine jIloadn C dX5_pairUp_47 rfl 2 rfl ?_
        refine jAloadn C dX5_pairUp_48 rfl 0 rfl ?_
        refine gf_RX5_38 C dX5_pairUp_49 ?_
        refine gf_RX5_72 C (by decide) dX5_pairUp_52 ?_
        obtain ⟨z20, hf⟩ := gin_some hf
        refine as_cgh C z20 dX5_pairUp_55 ?_
        refine jIinc C (x2_1 + (1 : Int32)) dX5_pairUp_56 2 rfl (congrArg (fun z : Int32 => x2_1 + z) ki_1) (Nat.le_of_ble_eq_true rfl) [(2, .int (x2_1 + (1 : Int32))), (0, .ref (g 38)), (1, .int p1)] rfl ?_
        refine jGoto C 2 dX5_pairUp_59 (by decide) ?_
        refine jSub [1, 2, 0] rfl ?_
        exact ir8 (x2_1 + (1 : Int32)) cP_15 cLo_16 cHi_17 (vp_updL cgl_5 x2_1.toNatClampNeg (cLo_16 18)) (vp_updL cgh_6 x2_1.toNatClampNeg (cHi_17 18)) hf
  refine jSub [1, 2, 0] rfl ?_
  exact hL7 (0 : Int32) cP cLo cHi cgl cgh hf
noncomputable def X5_leftAt (cll : Nat → Int64) (clh : Nat → Int64) (p1 : Int32) : Option Int32 := gin p1 129 (bd1 (J13_bitCount_95d88 (cll p1.toNatClampNeg)) (fun q2 => gin p1 129 (bd1 (J13_bitCount_95d88 (clh p1.toNatClampNeg)) (fun q5 => some (q2 + q5)))))
set_option maxHeartbeats 4000000 in
set_option maxRecDepth 20000 in
theorem X5_leftAt_ok {p1 : Int32} {rr : Int32}  (hf : X5_leftAt cll clh p1 = some rr) : MT yX5_leftAt cX5_leftAt 2 (some .int) 1 [.ref (g 38), .int p1] D cy G (cw g cy cP cLo cHi cpl ctb ctl ctf ctp ctk cts cth cob col cso cha chs cbe ctr cgl cgh cll clh cta cme cps cwh cal cah) (cw g cy cP cLo cHi cpl ctb ctl ctf ctp ctk cts cth cob col cso cha chs cbe ctr cgl cgh cll clh cta cme cps cwh cal cah) (some (.int rr)) := by
  refine MT.go (own := RX5) [(0, .ref (g 38)), (1, .int p1)] (by decide) rfl (Nat.le_of_ble_eq_true rfl) rfl (fun p l e s m args below meth c A Q C hQ => ?_)
  unfold X5_leftAt at hf
  refine jAloadn C dX5_leftAt_0 rfl 0 rfl ?_
  refine gf_RX5_25 C dX5_leftAt_1 ?_
  refine jIloadn C dX5_leftAt_4 rfl 1 rfl ?_
  obtain ⟨z1, hf⟩ := gin_some hf
  refine al_cll C z1 dX5_leftAt_5 ?_
  obtain ⟨q2, e3, hf⟩ := bd1_some hf
  refine jSI C (J13_bitCount_95d88_ok  e3) sb_J13_bitCount_95d88 mk_RX5_85 rfl ⟨Nat.le_of_ble_eq_true rfl, Nat.le_of_ble_eq_true rfl⟩ rfl (Nat.le_of_ble_eq_true rfl) dX5_leftAt_6 ?_
  refine jAloadn C dX5_leftAt_9 rfl 0 rfl ?_
  refine gf_RX5_28 C dX5_leftAt_10 ?_
  refine jIloadn C dX5_leftAt_13 rfl 1 rfl ?_
  obtain ⟨z4, hf⟩ := gin_some hf
  refine al_clh C z4 dX5_leftAt_14 ?_
  obtain ⟨q5, e6, hf⟩ := bd1_some hf
  refine jSI C (J13_bitCount_95d88_ok  e6) sb_J13_bitCount_95d88 mk_RX5_85 rfl ⟨Nat.le_of_ble_eq_true rfl, Nat.le_of_ble_eq_true rfl⟩ rfl (Nat.le_of_ble_eq_true rfl) dX5_leftAt_15 ?_
  refine jIadd C dX5_leftAt_18 ?_
  cases hf
  exact jEndI C hQ rfl dX5_leftAt_19
noncomputable def X5_keepBest_h21 (p1 : Int32) (cP_1 : Nat → Int32) (cta : Nat → Int32) (r9 : Int32 → (Nat → Int64) → (Nat → Int64) → Option ((Nat → Int32) × (Nat → Int64) × (Nat → Int64) × Int32)) (x2_5 : Int32) (cLo_6 : Nat → Int64) (cHi_7 : Nat → Int64) : Option ((Nat → Int32) × (Nat → Int64) × (Nat → Int64) × Int32) := (if p1 < x2_5 then some (cP_1, cLo_6, cHi_7, p1) else gin x2_5 129 (bd2 (X0_put cLo_6 cHi_7 16 (cta x2_5.toNatClampNeg)) (fun cLo_12 cHi_13 => r9 (x2_5 + (1 : Int32)) cLo_12 cHi_13)))
noncomputable def X5_keepBest (cP : Nat → Int32) (cLo : Nat → Int64) (cHi : Nat → Int64) (cta : Nat → Int32) (p1 : Int32) : Option ((Nat → Int32) × (Nat → Int64) × (Nat → Int64) × Int32) := bd3 (X0_clear cP cLo cHi 16 (cP 17)) (fun cP_1 cLo_2 cHi_3 => lfp3 (X5_keepBest_h21 p1 cP_1 cta) (1 : Int32) cLo_2 cHi_3)
set_option maxHeartbeats 4000000 in
set_option maxRecDepth 20000 in
theorem X5_keepBest_ok {p1 : Int32} {ocP : Nat → Int32} {ocLo : Nat → Int64} {ocHi : Nat → Int64} {ocbe : Int32}  (hf : X5_keepBest cP cLo cHi cta p1 = some (ocP, ocLo, ocHi, ocbe)) : MT yX5_keepBest cX5_keepBest 3 none 1 [.ref (g 38), .int p1] D cy G (cw g cy cP cLo cHi cpl ctb ctl ctf ctp ctk cts cth cob col cso cha chs cbe ctr cgl cgh cll clh cta cme cps cwh cal cah) (cw g cy ocP ocLo ocHi cpl ctb ctl ctf ctp ctk cts cth cob col cso cha chs ocbe ctr cgl cgh cll clh cta cme cps cwh cal cah) none := by
  refine MT.go (own := RX5) [(0, .ref (g 38)), (1, .int p1)] (by decide) rfl (Nat.le_of_ble_eq_true rfl) rfl (fun p l e s m args below meth c A Q C hQ => ?_)
  unfold X5_keepBest at hf
  refine jAloadn C dX5_keepBest_0 rfl 0 rfl ?_
  refine jIloadn C dX5_keepBest_1 rfl 1 rfl ?_
  refine pf_RX5_59 C dX5_keepBest_2 ?_
  refine jAloadn C dX5_keepBest_5 rfl 0 rfl ?_
  refine gf_RX5_12 C dX5_keepBest_6 ?_
  refine jAloadn C dX5_keepBest_9 rfl 0 rfl ?_
  refine gf_RX5_35 C dX5_keepBest_10 ?_
  refine gf_RX5_52 C (by decide) dX5_keepBest_13 ?_
  obtain ⟨cP_1, cLo_2, cHi_3, e4, hf⟩ := bd3_some hf
  refine jVV C (X0_clear_ok (by decide) e4) vb_X0_clear mk_RX5_56 rfl (rcF (by decide)) ⟨Nat.le_of_ble_eq_true rfl, Nat.le_of_ble_eq_true rfl⟩ rfl (Nat.le_of_ble_eq_true rfl) dX5_keepBest_16 ?_
  refine jIconst C (1 : Int32) dX5_keepBest_19 ki_1 ?_
  refine jIstoren C dX5_keepBest_20 rfl (Nat.le_of_ble_eq_true rfl) [(2, .int (1 : Int32)), (0, .ref (g 38)), (1, .int p1)] rfl ?_
  have hL8 : ∀ (x2_5 : Int32) (cLo_6 : Nat → Int64) (cHi_7 : Nat → Int64), lfp3 (X5_keepBest_h21 p1 cP_1 cta) x2_5 cLo_6 cHi_7 = some (ocP, ocLo, ocHi, ocbe) → J p l e (rmk 1) s m args below meth c D A Q 3 (cw g cy cP_1 cLo_6 cHi_7 cpl ctb ctl ctf ctp ctk cts cth cob col cso cha chs p1 ctr cgl cgh cll clh cta cme cps cwh cal cah) 21 [(0, .ref (g 38)), (1, .int p1), (2, .int x2_5)] [] := by
    intro x2_5 cLo_6 cHi_7 hw
    refine lfp3_walk (P := fun x2_5 cLo_6 cHi_7 => J p l e (rmk 1) s m args below meth c D A Q 3 (cw g cy cP_1 cLo_6 cHi_7 cpl ctb ctl ctf ctp ctk cts cth cob col cso cha chs p1 ctr cgl cgh cll clh cta cme cps cwh cal cah) 21 [(0, .ref (g 38)), (1, .int p1), (2, .int x2_5)] []) ?_ hw
    intro r9 ir9 x2_5 cLo_6 cHi_7 hf
    unfold X5_keepBest_h21 at hf
    refine jIloadn C dX5_keepBest_21 rfl 2 rfl ?_
    refine jIloadn C dX5_keepBest_22 rfl 1 rfl ?_
    refine jCmpGt C 45 dX5_keepBest_23 (by decide) (fun c10 => ?_) (fun c10 => ?_)
    · replace hf := itp hf c10
      cases hf
      exact jEndV C hQ rfl dX5_keepBest_45
    · replace hf := itn hf c10
      refine jAloadn C dX5_keepBest_26 rfl 0 rfl ?_
      refine gf_RX5_12 C dX5_keepBest_27 ?_
      refine jAloadn C dX5_keepBest_30 rfl 0 rfl ?_
      refine gf_RX5_31 C dX5_keepBest_31 ?_
      refine jIloadn C dX5_keepBest_34 rfl 2 rfl ?_
      obtain ⟨z11, hf⟩ := gin_some hf
      refine al_cta C z11 dX5_keepBest_35 ?_
      obtain ⟨cLo_12, cHi_13, e14, hf⟩ := bd2_some hf
      refine jVV C (X0_put_ok (by decide) e14) vb_X0_put mk_RX5_91 rfl (rcF (by decide)) ⟨Nat.le_of_ble_eq_true rfl, Nat.le_of_ble_eq_true rfl⟩ rfl (Nat.le_of_ble_eq_true rfl) dX5_keepBest_36 ?_
      refine jIinc C (x2_5 + (1 : Int32)) dX5_keepBest_39 2 rfl (congrArg (fun z : Int32 => x2_5 + z) ki_1) (Nat.le_of_ble_eq_true rfl) [(2, .int (x2_5 + (1 : Int32))), (0, .ref (g 38)), (1, .int p1)] rfl ?_
      refine jGoto C 21 dX5_keepBest_42 (by decide) ?_
      refine jSub [1, 2, 0] rfl ?_
      exact ir9 (x2_5 + (1 : Int32)) cLo_12 cHi_13 hf
  refine jSub [1, 2, 0] rfl ?_
  exact hL8 (1 : Int32) cLo_2 cHi_3 hf
noncomputable def X5_takeFirst_j70 (cta : Nat → Int32) (p1 : Int32) (cgl : Nat → Int64) (cgh : Nat → Int64) (x4_2 : Int32) (cll_3 : Nat → Int64) (clh_4 : Nat → Int64) : Option ((Nat → Int64) × (Nat → Int64) × (Nat → Int32)) := (if (128 : Int32) ≤ x4_2 then some (cll_3, clh_4, cta) else (if (p1 + (1 : Int32)) < (129 : Int32) then gin (p1 + (1 : Int32)) 129 (gin p1 129 (gin x4_2 128 (gin (p1 + (1 : Int32)) 129 (gin p1 129 (gin x4_2 128 (gin (p1 + (1 : Int32)) 129 (some ((vp_updL cll_3 (p1 + (1 : Int32)).toNatClampNeg ((cll_3 p1.toNatClampNeg) &&& (cgl x4_2.toNatClampNeg))), (vp_updL clh_4 (p1 + (1 : Int32)).toNatClampNeg ((clh_4 p1.toNatClampNeg) &&& (cgh x4_2.toNatClampNeg))), (upd cta (p1 + (1 : Int32)).toNatClampNeg x4_2))))))))) else some (cll_3, clh_4, cta)))
noncomputable def X5_takeFirst (cgl : Nat → Int64) (cgh : Nat → Int64) (cll : Nat → Int64) (clh : Nat → Int64) (cta : Nat → Int32) (p1 : Int32) : Option ((Nat → Int64) × (Nat → Int64) × (Nat → Int32)) := gin p1 129 ((if (lg_cmp (cll p1.toNatClampNeg) (0 : Int64)) = (0 : Int32) then gin p1 129 (bd1 (J13_bitCount_95d88 (((clh p1.toNatClampNeg) &&& (-(clh p1.toNatClampNeg))) - (1 : Int64))) (fun q17 => gin p1 129 (X5_takeFirst_j70 cta p1 cgl cgh ((64 : Int32) + q17) cll (vp_updL clh p1.toNatClampNeg ((clh p1.toNatClampNeg) &&& ((clh p1.toNatClampNeg) - (1 : Int64))))))) else bd1 (J13_bitCount_95d88 (((cll p1.toNatClampNeg) &&& (-(cll p1.toNatClampNeg))) - (1 : Int64))) (fun q20 => gin p1 129 (X5_takeFirst_j70 cta p1 cgl cgh q20 (vp_updL cll p1.toNatClampNeg ((cll p1.toNatClampNeg) &&& ((cll p1.toNatClampNeg) - (1 : Int64)))) clh))))
set_option maxHeartbeats 4000000 in
set_option maxRecDepth 20000 in
theorem X5_takeFirst_ok {p1 : Int32} {ocll : Nat → Int64} {oclh : Nat → Int64} {octa : Nat → Int32}  (hf : X5_takeFirst cgl cgh cll clh cta p1 = some (ocll, oclh, octa)) : MT yX5_takeFirst cX5_takeFirst 5 none 1 [.ref (g 38), .int p1] D cy G (cw g cy cP cLo cHi cpl ctb ctl ctf ctp ctk cts cth cob col cso cha chs cbe ctr cgl cgh cll clh cta cme cps cwh cal cah) (cw g cy cP cLo cHi cpl ctb ctl ctf ctp ctk cts cth cob col cso cha chs cbe ctr cgl cgh ocll oclh octa cme cps cwh cal cah) none := by
  refine MT.go (own := RX5) [(0, .ref (g 38)), (1, .int p1)] (by decide) rfl (Nat.le_of_ble_eq_true rfl) rfl (fun p l e s m args below meth c A Q C hQ => ?_)
  unfold X5_takeFirst at hf
  refine jAloadn C dX5_takeFirst_0 rfl 0 rfl ?_
  refine gf_RX5_25 C dX5_takeFirst_1 ?_
  refine jIloadn C dX5_takeFirst_4 rfl 1 rfl ?_
  obtain ⟨z1, hf⟩ := gin_some hf
  refine al_cll C z1 dX5_takeFirst_5 ?_
  refine jLstoren C dX5_takeFirst_6 rfl (Nat.le_of_ble_eq_true rfl) [(2, .long (cll p1.toNatClampNeg)), (0, .ref (g 38)), (1, .int p1)] rfl ?_
  refine jLloadn C dX5_takeFirst_7 rfl 0 rfl ?_
  refine jLconst C (0 : Int64) dX5_takeFirst_8 rfl ?_
  refine jLcmp C dX5_takeFirst_9 ?_
  have hL5 : ∀ (x4_2 : Int32) (cll_3 : Nat → Int64) (clh_4 : Nat → Int64), X5_takeFirst_j70 cta p1 cgl cgh x4_2 cll_3 clh_4 = some (ocll, oclh, octa) → J p l e (rmk 1) s m args below meth c D A Q 5 (cw g cy cP cLo cHi cpl ctb ctl ctf ctp ctk cts cth cob col cso cha chs cbe ctr cgl cgh cll_3 clh_4 cta cme cps cwh cal cah) 70 [(0, .ref (g 38)), (1, .int p1), (4, .int x4_2)] [] := by
    intro x4_2 cll_3 clh_4 hf
    unfold X5_takeFirst_j70 at hf
    refine jIload C dX5_takeFirst_70 2 rfl ?_
    refine jSipush C (128 : Int32) dX5_takeFirst_72 ks_128 ?_
    refine jCmpGe C 87 dX5_takeFirst_75 (by decide) (fun c6 => ?_) (fun c6 => ?_)
    · replace hf := itp hf c6
      cases hf
      exact jEndV C hQ rfl dX5_takeFirst_87
    · replace hf := itn hf c6
      refine jIloadn C dX5_takeFirst_78 rfl 1 rfl ?_
      refine jIconst C (1 : Int32) dX5_takeFirst_79 ki_1 ?_
      refine jIadd C dX5_takeFirst_80 ?_
      refine jSipush C (129 : Int32) dX5_takeFirst_81 ks_129 ?_
      refine jCmpLt C 88 dX5_takeFirst_84 (by decide) (fun c7 => ?_) (fun c7 => ?_)
      · replace hf := itp hf c7
        refine jAloadn C dX5_takeFirst_88 rfl 0 rfl ?_
        refine gf_RX5_31 C dX5_takeFirst_89 ?_
        refine jIloadn C dX5_takeFirst_92 rfl 1 rfl ?_
        refine jIconst C (1 : Int32) dX5_takeFirst_93 ki_1 ?_
        refine jIadd C dX5_takeFirst_94 ?_
        refine jIload C dX5_takeFirst_95 2 rfl ?_
        obtain ⟨z8, hf⟩ := gin_some hf
        refine as_cta C z8 dX5_takeFirst_97 ?_
        refine jAloadn C dX5_takeFirst_98 rfl 0 rfl ?_
        refine gf_RX5_25 C dX5_takeFirst_99 ?_
        refine jIloadn C dX5_takeFirst_102 rfl 1 rfl ?_
        refine jIconst C (1 : Int32) dX5_takeFirst_103 ki_1 ?_
        refine jIadd C dX5_takeFirst_104 ?_
        refine jAloadn C dX5_takeFirst_105 rfl 0 rfl ?_
        refine gf_RX5_25 C dX5_takeFirst_106 ?_
        refine jIloadn C dX5_takeFirst_109 rfl 1 rfl ?_
        obtain ⟨z9, hf⟩ := gin_some hf
        refine al_cll C z9 dX5_takeFirst_110 ?_
        refine jAloadn C dX5_takeFirst_111 rfl 0 rfl ?_
        refine gf_RX5_18 C dX5_takeFirst_112 ?_
        refine jIload C dX5_takeFirst_115 2 rfl ?_
        obtain ⟨z10, hf⟩ := gin_some hf
        refine al_cgl C z10 dX5_takeFirst_117 ?_
        refine jLand C dX5_takeFirst_118 ?_
        obtain ⟨z11, hf⟩ := gin_some hf
        refine as_cll C z11 dX5_takeFirst_119 ?_
        refine jAloadn C dX5_takeFirst_120 rfl 0 rfl ?_
        refine gf_RX5_28 C dX5_takeFirst_121 ?_
        refine jIloadn C dX5_takeFirst_124 rfl 1 rfl ?_
        refine jIconst C (1 : Int32) dX5_takeFirst_125 ki_1 ?_
        refine jIadd C dX5_takeFirst_126 ?_
        refine jAloadn C dX5_takeFirst_127 rfl 0 rfl ?_
        refine gf_RX5_28 C dX5_takeFirst_128 ?_
        refine jIloadn C dX5_takeFirst_131 rfl 1 rfl ?_
        obtain ⟨z12, hf⟩ := gin_some hf
        refine al_clh C z12 dX5_takeFirst_132 ?_
        refine jAloadn C dX5_takeFirst_133 rfl 0 rfl ?_
        refine gf_RX5_22 C dX5_takeFirst_134 ?_
        refine jIload C dX5_takeFirst_137 2 rfl ?_
        obtain ⟨z13, hf⟩ := gin_some hf
        refine al_cgh C z13 dX5_takeFirst_139 ?_
        refine jLand C dX5_takeFirst_140 ?_
        obtain ⟨z14, hf⟩ := gin_some hf
        refine as_clh C z14 dX5_takeFirst_141 ?_
        cases hf
        exact jEndV C hQ rfl dX5_takeFirst_142
      · replace hf := itn hf c7
        cases hf
        exact jEndV C hQ rfl dX5_takeFirst_87
  refine jIfEq C 38 dX5_takeFirst_10 (by decide) (fun c15 => ?_) (fun c15 => ?_)
  · replace hf := itp hf c15
    refine jAloadn C dX5_takeFirst_38 rfl 1 rfl ?_
    refine gf_RX5_28 C dX5_takeFirst_39 ?_
    refine jIloadn C dX5_takeFirst_42 rfl 2 rfl ?_
    obtain ⟨z16, hf⟩ := gin_some hf
    refine al_clh C z16 dX5_takeFirst_43 ?_
    refine jLstoren C dX5_takeFirst_44 rfl (Nat.le_of_ble_eq_true rfl) [(2, .long (clh p1.toNatClampNeg)), (0, .ref (g 38)), (1, .int p1)] rfl ?_
    refine jBipush C (64 : Int32) dX5_takeFirst_45 kb_64 ?_
    refine jLloadn C dX5_takeFirst_47 rfl 0 rfl ?_
    refine jLloadn C dX5_takeFirst_48 rfl 0 rfl ?_
    refine jLneg C dX5_takeFirst_49 ?_
    refine jLand C dX5_takeFirst_50 ?_
    refine jLconst C (1 : Int64) dX5_takeFirst_51 rfl ?_
    refine jLsub C dX5_takeFirst_52 ?_
    obtain ⟨q17, e18, hf⟩ := bd1_some hf
    refine jSI C (J13_bitCount_95d88_ok  e18) sb_J13_bitCount_95d88 mk_RX5_85 rfl ⟨Nat.le_of_ble_eq_true rfl, Nat.le_of_ble_eq_true rfl⟩ rfl (Nat.le_of_ble_eq_true rfl) dX5_takeFirst_53 ?_
    refine jIadd C dX5_takeFirst_56 ?_
    refine jIstore C dX5_takeFirst_57 (Nat.le_of_ble_eq_true rfl) [(4, .int ((64 : Int32) + q17)), (2, .long (clh p1.toNatClampNeg)), (0, .ref (g 38)), (1, .int p1)] rfl ?_
    refine jAloadn C dX5_takeFirst_59 rfl 2 rfl ?_
    refine gf_RX5_28 C dX5_takeFirst_60 ?_
    refine jIloadn C dX5_takeFirst_63 rfl 3 rfl ?_
    refine jLloadn C dX5_takeFirst_64 rfl 1 rfl ?_
    refine jLloadn C dX5_takeFirst_65 rfl 1 rfl ?_
    refine jLconst C (1 : Int64) dX5_takeFirst_66 rfl ?_
    refine jLsub C dX5_takeFirst_67 ?_
    refine jLand C dX5_takeFirst_68 ?_
    obtain ⟨z19, hf⟩ := gin_some hf
    refine as_clh C z19 dX5_takeFirst_69 ?_
    refine jSub [2, 3, 0] rfl ?_
    exact hL5 ((64 : Int32) + q17) cll (vp_updL clh p1.toNatClampNeg ((clh p1.toNatClampNeg) &&& ((clh p1.toNatClampNeg) - (1 : Int64)))) hf
  · replace hf := itn hf c15
    refine jLloadn C dX5_takeFirst_13 rfl 0 rfl ?_
    refine jLloadn C dX5_takeFirst_14 rfl 0 rfl ?_
    refine jLneg C dX5_takeFirst_15 ?_
    refine jLand C dX5_takeFirst_16 ?_
    refine jLconst C (1 : Int64) dX5_takeFirst_17 rfl ?_
    refine jLsub C dX5_takeFirst_18 ?_
    obtain ⟨q20, e21, hf⟩ := bd1_some hf
    refine jSI C (J13_bitCount_95d88_ok  e21) sb_J13_bitCount_95d88 mk_RX5_85 rfl ⟨Nat.le_of_ble_eq_true rfl, Nat.le_of_ble_eq_true rfl⟩ rfl (Nat.le_of_ble_eq_true rfl) dX5_takeFirst_19 ?_
    refine jIstore C dX5_takeFirst_22 (Nat.le_of_ble_eq_true rfl) [(4, .int q20), (2, .long (cll p1.toNatClampNeg)), (0, .ref (g 38)), (1, .int p1)] rfl ?_
    refine jAloadn C dX5_takeFirst_24 rfl 2 rfl ?_
    refine gf_RX5_25 C dX5_takeFirst_25 ?_
    refine jIloadn C dX5_takeFirst_28 rfl 3 rfl ?_
    refine jLloadn C dX5_takeFirst_29 rfl 1 rfl ?_
    refine jLloadn C dX5_takeFirst_30 rfl 1 rfl ?_
    refine jLconst C (1 : Int64) dX5_takeFirst_31 rfl ?_
    refine jLsub C dX5_takeFirst_32 ?_
    refine jLand C dX5_takeFirst_33 ?_
    obtain ⟨z22, hf⟩ := gin_some hf
    refine as_cll C z22 dX5_takeFirst_34 ?_
    refine jGoto C 70 dX5_takeFirst_35 (by decide) ?_
    refine jSub [2, 3, 0] rfl ?_
    exact hL5 q20 (vp_updL cll p1.toNatClampNeg ((cll p1.toNatClampNeg) &&& ((cll p1.toNatClampNeg) - (1 : Int64)))) clh hf
noncomputable def X5_run_h78 (p3 : Int32) (cgl_15 : Nat → Int64) (cgh_16 : Nat → Int64) (r31 : Int32 → Int32 → (Nat → Int32) → (Nat → Int64) → (Nat → Int64) → Int32 → Int32 → (Nat → Int64) → (Nat → Int64) → (Nat → Int32) → Option (Int32 × (Nat → Int32) × (Nat → Int64) × (Nat → Int64) × Int32 × Int32 × (Nat → Int64) × (Nat → Int64) × (Nat → Int64) × (Nat → Int64) × (Nat → Int32))) (x4_20 : Int32) (x5_21 : Int32) (cP_22 : Nat → Int32) (cLo_23 : Nat → Int64) (cHi_24 : Nat → Int64) (cbe_25 : Int32) (ctr_26 : Int32) (cll_27 : Nat → Int64) (clh_28 : Nat → Int64) (cta_29 : Nat → Int32) : Option (Int32 × (Nat → Int32) × (Nat → Int64) × (Nat → Int64) × Int32 × Int32 × (Nat → Int64) × (Nat → Int64) × (Nat → Int64) × (Nat → Int64) × (Nat → Int32)) := (if (((2 : Int32) * p3) + (2 : Int32)) < x5_21 then some ((1 : Int32), cP_22, cLo_23, cHi_24, cbe_25, ctr_26, cgl_15, cgh_16, cll_27, clh_28, cta_29) else (if x4_20 < (0 : Int32) then some ((1 : Int32), cP_22, cLo_23, cHi_24, cbe_25, ctr_26, cgl_15, cgh_16, cll_27, clh_28, cta_29) else bd1 (X5_leftAt cll_27 clh_28 x4_20) (fun q34 => (if cbe_25 < (x4_20 + q34) then (if q34 = (0 : Int32) then bd4 (X5_keepBest cP_22 cLo_23 cHi_24 cta_29 x4_20) (fun cP_43 cLo_44 cHi_45 cbe_46 => r31 (x4_20 + (-1 : Int32)) (x5_21 + (1 : Int32)) cP_43 cLo_44 cHi_45 cbe_46 ctr_26 cll_27 clh_28 cta_29) else (if (ctr_26 + (1 : Int32)) ≤ p3 then bd3 (X5_takeFirst cgl_15 cgh_16 cll_27 clh_28 cta_29 x4_20) (fun cll_39 clh_40 cta_41 => r31 (x4_20 + (1 : Int32)) (x5_21 + (1 : Int32)) cP_22 cLo_23 cHi_24 cbe_25 (ctr_26 + (1 : Int32)) cll_39 clh_40 cta_41) else some ((0 : Int32), cP_22, cLo_23, cHi_24, cbe_25, (ctr_26 + (1 : Int32)), cgl_15, cgh_16, cll_27, clh_28, cta_29))) else r31 (x4_20 + (-1 : Int32)) (x5_21 + (1 : Int32)) cP_22 cLo_23 cHi_24 cbe_25 ctr_26 cll_27 clh_28 cta_29))))
noncomputable def X5_run_j20 (cP_1 : Nat → Int32) (p1 : Nat) (cgl : Nat → Int64) (cgh : Nat → Int64) (p2 : Int32) (p3 : Int32) (cll : Nat → Int64) (clh : Nat → Int64) (cta : Nat → Int32) (cLo_5 : Nat → Int64) (cHi_6 : Nat → Int64) : Option (Int32 × (Nat → Int32) × (Nat → Int64) × (Nat → Int64) × Int32 × Int32 × (Nat → Int64) × (Nat → Int64) × (Nat → Int64) × (Nat → Int64) × (Nat → Int32)) := bd3 (X0_clear cP_1 cLo_5 cHi_6 16 (cP_1 p1)) (fun cP_8 cLo_9 cHi_10 => bd5 (X5_pairUp cP_8 cLo_9 cHi_10 cgl cgh p2) (fun cP_12 cLo_13 cHi_14 cgl_15 cgh_16 => gin (0 : Int32) 129 (gin (0 : Int32) 129 (lfp10 (X5_run_h78 p3 cgl_15 cgh_16) (0 : Int32) (0 : Int32) cP_12 cLo_13 cHi_14 (0 : Int32) (0 : Int32) (vp_updL cll (0 : Int32).toNatClampNeg (cLo_13 17)) (vp_updL clh (0 : Int32).toNatClampNeg (cHi_14 17)) cta))))
noncomputable def X5_run (cP : Nat → Int32) (cLo : Nat → Int64) (cHi : Nat → Int64) (cgl : Nat → Int64) (cgh : Nat → Int64) (cll : Nat → Int64) (clh : Nat → Int64) (cta : Nat → Int32) (p1 : Nat) (p2 : Int32) (p3 : Int32) : Option (Int32 × (Nat → Int32) × (Nat → Int64) × (Nat → Int64) × Int32 × Int32 × (Nat → Int64) × (Nat → Int64) × (Nat → Int64) × (Nat → Int64) × (Nat → Int32)) := bd3 (X0_become cP cLo cHi 17 p1) (fun cP_1 cLo_2 cHi_3 => (if p2 = (0 : Int32) then bd2 (X0_remove cLo_2 cHi_3 17 (0 : Int32)) (fun cLo_49 cHi_50 => X5_run_j20 cP_1 p1 cgl cgh p2 p3 cll clh cta cLo_49 cHi_50) else X5_run_j20 cP_1 p1 cgl cgh p2 p3 cll clh cta cLo_2 cHi_3))
set_option maxHeartbeats 4000000 in
set_option maxRecDepth 20000 in
theorem X5_run_ok {p1 : Nat} {p2 : Int32} {p3 : Int32} {rr : Int32} {ocP : Nat → Int32} {ocLo : Nat → Int64} {ocHi : Nat → Int64} {ocbe : Int32} {octr : Int32} {ocgl : Nat → Int64} {ocgh : Nat → Int64} {ocll : Nat → Int64} {oclh : Nat → Int64} {octa : Nat → Int32} (hp1 : p1 < 28) (hf : X5_run cP cLo cHi cgl cgh cll clh cta p1 p2 p3 = some (rr, ocP, ocLo, ocHi, ocbe, octr, ocgl, ocgh, ocll, oclh, octa)) : MT yX5_run cX5_run 7 (some .boolean) 5 [.ref (g 38), .ref (g p1), .int p2, .int p3] D cy G (cw g cy cP cLo cHi cpl ctb ctl ctf ctp ctk cts cth cob col cso cha chs cbe ctr cgl cgh cll clh cta cme cps cwh cal cah) (cw g cy ocP ocLo ocHi cpl ctb ctl ctf ctp ctk cts cth cob col cso cha chs ocbe octr ocgl ocgh ocll oclh octa cme cps cwh cal cah) (some (.int rr)) := by
  refine MT.go (own := RX5) [(0, .ref (g 38)), (1, .ref (g p1)), (2, .int p2), (3, .int p3)] (by decide) rfl (Nat.le_of_ble_eq_true rfl) rfl (fun p l e s m args below meth c A Q C hQ => ?_)
  unfold X5_run at hf
  refine jAloadn C dX5_run_0 rfl 0 rfl ?_
  refine gf_RX5_35 C dX5_run_1 ?_
  refine jAloadn C dX5_run_4 rfl 1 rfl ?_
  obtain ⟨cP_1, cLo_2, cHi_3, e4, hf⟩ := bd3_some hf
  refine jVV C (X0_become_ok (by decide) hp1 e4) vb_X0_become mk_RX5_44 rfl (rcF (by decide)) ⟨Nat.le_of_ble_eq_true rfl, Nat.le_of_ble_eq_true rfl⟩ rfl (Nat.le_of_ble_eq_true rfl) dX5_run_5 ?_
  refine jIloadn C dX5_run_8 rfl 2 rfl ?_
  have hL7 : ∀ (cLo_5 : Nat → Int64) (cHi_6 : Nat → Int64), X5_run_j20 cP_1 p1 cgl cgh p2 p3 cll clh cta cLo_5 cHi_6 = some (rr, ocP, ocLo, ocHi, ocbe, octr, ocgl, ocgh, ocll, oclh, octa) → J p l e (rmk 5) s m args below meth c D A Q 7 (cw g cy cP_1 cLo_5 cHi_6 cpl ctb ctl ctf ctp ctk cts cth cob col cso cha chs cbe ctr cgl cgh cll clh cta cme cps cwh cal cah) 20 [(0, .ref (g 38)), (1, .ref (g p1)), (2, .int p2), (3, .int p3)] [] := by
    intro cLo_5 cHi_6 hf
    unfold X5_run_j20 at hf
    refine jAloadn C dX5_run_20 rfl 0 rfl ?_
    refine gf_RX5_12 C dX5_run_21 ?_
    refine jAloadn C dX5_run_24 rfl 1 rfl ?_
    refine gf_RX5_52 C hp1 dX5_run_25 ?_
    obtain ⟨cP_8, cLo_9, cHi_10, e11, hf⟩ := bd3_some hf
    refine jVV C (X0_clear_ok (by decide) e11) vb_X0_clear mk_RX5_56 rfl (rcF (by decide)) ⟨Nat.le_of_ble_eq_true rfl, Nat.le_of_ble_eq_true rfl⟩ rfl (Nat.le_of_ble_eq_true rfl) dX5_run_28 ?_
    refine jAloadn C dX5_run_31 rfl 0 rfl ?_
    refine jIconst C (0 : Int32) dX5_run_32 ki_0 ?_
    refine pf_RX5_59 C dX5_run_33 ?_
    refine jAloadn C dX5_run_36 rfl 0 rfl ?_
    refine jIconst C (0 : Int32) dX5_run_37 ki_0 ?_
    refine pf_RX5_62 C dX5_run_38 ?_
    refine jAloadn C dX5_run_41 rfl 0 rfl ?_
    refine jIloadn C dX5_run_42 rfl 2 rfl ?_
    obtain ⟨cP_12, cLo_13, cHi_14, cgl_15, cgh_16, e17, hf⟩ := bd5_some hf
    refine jVV C (X5_pairUp_ok  e17) vb_X5_pairUp mk_RX5_65 rfl rc38 ⟨Nat.le_of_ble_eq_true rfl, Nat.le_of_ble_eq_true rfl⟩ rfl (Nat.le_of_ble_eq_true rfl) dX5_run_43 ?_
    refine jAloadn C dX5_run_46 rfl 0 rfl ?_
    refine gf_RX5_25 C dX5_run_47 ?_
    refine jIconst C (0 : Int32) dX5_run_50 ki_0 ?_
    refine jAloadn C dX5_run_51 rfl 0 rfl ?_
    refine gf_RX5_35 C dX5_run_52 ?_
    refine gf_RX5_68 C (by decide) dX5_run_55 ?_
    obtain ⟨z18, hf⟩ := gin_some hf
    refine as_cll C z18 dX5_run_58 ?_
    refine jAloadn C dX5_run_59 rfl 0 rfl ?_
    refine gf_RX5_28 C dX5_run_60 ?_
    refine jIconst C (0 : Int32) dX5_run_63 ki_0 ?_
    refine jAloadn C dX5_run_64 rfl 0 rfl ?_
    refine gf_RX5_35 C dX5_run_65 ?_
    refine gf_RX5_72 C (by decide) dX5_run_68 ?_
    obtain ⟨z19, hf⟩ := gin_some hf
    refine as_clh C z19 dX5_run_71 ?_
    refine jIconst C (0 : Int32) dX5_run_72 ki_0 ?_
    refine jIstore C dX5_run_73 (Nat.le_of_ble_eq_true rfl) [(4, .int (0 : Int32)), (0, .ref (g 38)), (1, .ref (g p1)), (2, .int p2), (3, .int p3)] rfl ?_
    refine jIconst C (0 : Int32) dX5_run_75 ki_0 ?_
    refine jIstore C dX5_run_76 (Nat.le_of_ble_eq_true rfl) [(5, .int (0 : Int32)), (4, .int (0 : Int32)), (0, .ref (g 38)), (1, .ref (g p1)), (2, .int p2), (3, .int p3)] rfl ?_
    have hL30 : ∀ (x4_20 : Int32) (x5_21 : Int32) (cP_22 : Nat → Int32) (cLo_23 : Nat → Int64) (cHi_24 : Nat → Int64) (cbe_25 : Int32) (ctr_26 : Int32) (cll_27 : Nat → Int64) (clh_28 : Nat → Int64) (cta_29 : Nat → Int32), lfp10 (X5_run_h78 p3 cgl_15 cgh_16) x4_20 x5_21 cP_22 cLo_23 cHi_24 cbe_25 ctr_26 cll_27 clh_28 cta_29 = some (rr, ocP, ocLo, ocHi, ocbe, octr, ocgl, ocgh, ocll, oclh, octa) → J p l e (rmk 5) s m args below meth c D A Q 7 (cw g cy cP_22 cLo_23 cHi_24 cpl ctb ctl ctf ctp ctk cts cth cob col cso cha chs cbe_25 ctr_26 cgl_15 cgh_16 cll_27 clh_28 cta_29 cme cps cwh cal cah) 78 [(0, .ref (g 38)), (3, .int p3), (4, .int x4_20), (5, .int x5_21)] [] := by
      intro x4_20 x5_21 cP_22 cLo_23 cHi_24 cbe_25 ctr_26 cll_27 clh_28 cta_29 hw
      refine lfp10_walk (P := fun x4_20 x5_21 cP_22 cLo_23 cHi_24 cbe_25 ctr_26 cll_27 clh_28 cta_29 => J p l e (rmk 5) s m args below meth c D A Q 7 (cw g cy cP_22 cLo_23 cHi_24 cpl ctb ctl ctf ctp ctk cts cth cob col cso cha chs cbe_25 ctr_26 cgl_15 cgh_16 cll_27 clh_28 cta_29 cme cps cwh cal cah) 78 [(0, .ref (g 38)), (3, .int p3), (4, .int x4_20), (5, .int x5_21)] []) ?_ hw
      intro r31 ir31 x4_20 x5_21 cP_22 cLo_23 cHi_24 cbe_25 ctr_26 cll_27 clh_28 cta_29 hf
      unfold X5_run_h78 at hf
      refine jIload C dX5_run_78 3 rfl ?_
      refine jIconst C (2 : Int32) dX5_run_80 ki_2 ?_
      refine jIloadn C dX5_run_81 rfl 1 rfl ?_
      refine jImul C dX5_run_82 ?_
      refine jIconst C (2 : Int32) dX5_run_83 ki_2 ?_
      refine jIadd C dX5_run_84 ?_
      refine jCmpGt C 171 dX5_run_85 (by decide) (fun c32 => ?_) (fun c32 => ?_)
      · replace hf := itp hf c32
        refine jIconst C (1 : Int32) dX5_run_171 ki_1 ?_
        cases hf
        exact jEndIZ C hQ rfl nar_z1 dX5_run_172
      · replace hf := itn hf c32
        refine jIload C dX5_run_88 2 rfl ?_
        refine jIfLt C 171 dX5_run_90 (by decide) (fun c33 => ?_) (fun c33 => ?_)
        · replace hf := itp hf c33
          refine jIconst C (1 : Int32) dX5_run_171 ki_1 ?_
          cases hf
          exact jEndIZ C hQ rfl nar_z1 dX5_run_172
        · replace hf := itn hf c33
          refine jAloadn C dX5_run_93 rfl 0 rfl ?_
          refine jIload C dX5_run_94 2 rfl ?_
          obtain ⟨q34, e35, hf⟩ := bd1_some hf
          refine jVI C (X5_leftAt_ok  e35) vb_X5_leftAt mk_RX5_75 rfl rc38 ⟨Nat.le_of_ble_eq_true rfl, Nat.le_of_ble_eq_true rfl⟩ rfl (Nat.le_of_ble_eq_true rfl) dX5_run_96 ?_
          refine jIstore C dX5_run_99 (Nat.le_of_ble_eq_true rfl) [(6, .int q34), (0, .ref (g 38)), (3, .int p3), (4, .int x4_20), (5, .int x5_21)] rfl ?_
          refine jIload C dX5_run_101 3 rfl ?_
          refine jIload C dX5_run_103 0 rfl ?_
          refine jIadd C dX5_run_105 ?_
          refine jAloadn C dX5_run_106 rfl 1 rfl ?_
          refine gf_RX5_59 C dX5_run_107 ?_
          refine jCmpGt C 119 dX5_run_110 (by decide) (fun c36 => ?_) (fun c36 => ?_)
          · replace hf := itp hf c36
            refine jIload C dX5_run_119 0 rfl ?_
            refine jIfNe C 136 dX5_run_121 (by decide) (fun c37 => ?_) (fun c37 => ?_)
            · replace hf := itn hf c37
              refine jAloadn C dX5_run_136 rfl 1 rfl ?_
              refine jDup C dX5_run_137 rfl ?_
              refine gf_RX5_62 C dX5_run_138 ?_
              refine jIconst C (1 : Int32) dX5_run_141 ki_1 ?_
              refine jIadd C dX5_run_142 ?_
              refine pf_RX5_62 C dX5_run_143 ?_
              refine jAloadn C dX5_run_146 rfl 1 rfl ?_
              refine gf_RX5_62 C dX5_run_147 ?_
              refine jIloadn C dX5_run_150 rfl 2 rfl ?_
              refine jCmpLe C 156 dX5_run_151 (by decide) (fun c38 => ?_) (fun c38 => ?_)
              · replace hf := itp hf c38
                refine jAloadn C dX5_run_156 rfl 1 rfl ?_
                refine jIload C dX5_run_157 3 rfl ?_
                obtain ⟨cll_39, clh_40, cta_41, e42, hf⟩ := bd3_some hf
                refine jVV C (X5_takeFirst_ok  e42) vb_X5_takeFirst mk_RX5_82 rfl rc38 ⟨Nat.le_of_ble_eq_true rfl, Nat.le_of_ble_eq_true rfl⟩ rfl (Nat.le_of_ble_eq_true rfl) dX5_run_159 ?_
                refine jIinc C (x4_20 + (1 : Int32)) dX5_run_162 3 rfl (congrArg (fun z : Int32 => x4_20 + z) ki_1) (Nat.le_of_ble_eq_true rfl) [(4, .int (x4_20 + (1 : Int32))), (6, .int q34), (0, .ref (g 38)), (3, .int p3), (5, .int x5_21)] rfl ?_
                refine jIinc C (x5_21 + (1 : Int32)) dX5_run_165 4 rfl (congrArg (fun z : Int32 => x5_21 + z) ki_1) (Nat.le_of_ble_eq_true rfl) [(5, .int (x5_21 + (1 : Int32))), (4, .int (x4_20 + (1 : Int32))), (6, .int q34), (0, .ref (g 38)), (3, .int p3)] rfl ?_
                refine jGoto C 78 dX5_run_168 (by decide) ?_
                refine jSub [3, 4, 1, 0] rfl ?_
                exact ir31 (x4_20 + (1 : Int32)) (x5_21 + (1 : Int32)) cP_22 cLo_23 cHi_24 cbe_25 (ctr_26 + (1 : Int32)) cll_39 clh_40 cta_41 hf
              · replace hf := itn hf c38
                refine jIconst C (0 : Int32) dX5_run_154 ki_0 ?_
                cases hf
                exact jEndIZ C hQ rfl nar_z0 dX5_run_155
            · replace hf := itp hf c37
              refine jAloadn C dX5_run_124 rfl 1 rfl ?_
              refine jIload C dX5_run_125 3 rfl ?_
              obtain ⟨cP_43, cLo_44, cHi_45, cbe_46, e47, hf⟩ := bd4_some hf
              refine jVV C (X5_keepBest_ok  e47) vb_X5_keepBest mk_RX5_79 rfl rc38 ⟨Nat.le_of_ble_eq_true rfl, Nat.le_of_ble_eq_true rfl⟩ rfl (Nat.le_of_ble_eq_true rfl) dX5_run_127 ?_
              refine jIinc C (x4_20 + (-1 : Int32)) dX5_run_130 3 rfl (congrArg (fun z : Int32 => x4_20 + z) ki_m1) (Nat.le_of_ble_eq_true rfl) [(4, .int (x4_20 + (-1 : Int32))), (6, .int q34), (0, .ref (g 38)), (3, .int p3), (5, .int x5_21)] rfl ?_
              refine jGoto C 165 dX5_run_133 (by decide) ?_
              refine jIinc C (x5_21 + (1 : Int32)) dX5_run_165 4 rfl (congrArg (fun z : Int32 => x5_21 + z) ki_1) (Nat.le_of_ble_eq_true rfl) [(5, .int (x5_21 + (1 : Int32))), (4, .int (x4_20 + (-1 : Int32))), (6, .int q34), (0, .ref (g 38)), (3, .int p3)] rfl ?_
              refine jGoto C 78 dX5_run_168 (by decide) ?_
              refine jSub [3, 4, 1, 0] rfl ?_
              exact ir31 (x4_20 + (-1 : Int32)) (x5_21 + (1 : Int32)) cP_43 cLo_44 cHi_45 cbe_46 ctr_26 cll_27 clh_28 cta_29 hf
          · replace hf := itn hf c36
            refine jIinc C (x4_20 + (-1 : Int32)) dX5_run_113 3 rfl (congrArg (fun z : Int32 => x4_20 + z) ki_m1) (Nat.le_of_ble_eq_true rfl) [(4, .int (x4_20 + (-1 : Int32))), (6, .int q34), (0, .ref (g 38)), (3, .int p3), (5, .int x5_21)] rfl ?_
            refine jGoto C 165 dX5_run_116 (by decide) ?_
            refine jIinc C (x5_21 + (1 : Int32)) dX5_run_165 4 rfl (congrArg (fun z : Int32 => x5_21 + z) ki_1) (Nat.le_of_ble_eq_true rfl) [(5, .int (x5_21 + (1 : Int32))), (4, .int (x4_20 + (-1 : Int32))), (6, .int q34), (0, .ref (g 38)), (3, .int p3)] rfl ?_
            refine jGoto C 78 dX5_run_168 (by decide) ?_
            refine jSub [3, 4, 1, 0] rfl ?_
            exact ir31 (x4_20 + (-1 : Int32)) (x5_21 + (1 : Int32)) cP_22 cLo_23 cHi_24 cbe_25 ctr_26 cll_27 clh_28 cta_29 hf
    refine jSub [2, 5, 1, 0] rfl ?_
    exact hL30 (0 : Int32) (0 : Int32) cP_12 cLo_13 cHi_14 (0 : Int32) (0 : Int32) (vp_updL cll (0 : Int32).toNatClampNeg (cLo_13 17)) (vp_updL clh (0 : Int32).toNatClampNeg (cHi_14 17)) cta hf
  refine jIfNe C 20 dX5_run_9 (by decide) (fun c48 => ?_) (fun c48 => ?_)
  · replace hf := itn hf c48
    exact hL7 cLo_2 cHi_3 hf
  · replace hf := itp hf c48
    refine jAloadn C dX5_run_12 rfl 0 rfl ?_
    refine gf_RX5_35 C dX5_run_13 ?_
    refine jIconst C (0 : Int32) dX5_run_16 ki_0 ?_
    obtain ⟨cLo_49, cHi_50, e51, hf⟩ := bd2_some hf
    refine jVV C (X0_remove_ok (by decide) e51) vb_X0_remove mk_RX5_48 rfl (rcF (by decide)) ⟨Nat.le_of_ble_eq_true rfl, Nat.le_of_ble_eq_true rfl⟩ rfl (Nat.le_of_ble_eq_true rfl) dX5_run_17 ?_
    exact hL7 cLo_49 cHi_50 hf
noncomputable def X6_hasRoom (ctl : Int32) (p1 : Int32) : Option Int32 := (if (800 : Int32) < (ctl + p1) then some (0 : Int32) else some (1 : Int32))
set_option maxHeartbeats 4000000 in
set_option maxRecDepth 20000 in
theorem X6_hasRoom_ok {p1 : Int32} {rr : Int32}  (hf : X6_hasRoom ctl p1 = some rr) : MT yX6_hasRoom cX6_hasRoom 2 (some .boolean) 0 [.ref (g 31), .int p1] D cy G (cw g cy cP cLo cHi cpl ctb ctl ctf ctp ctk cts cth cob col cso cha chs cbe ctr cgl cgh cll clh cta cme cps cwh cal cah) (cw g cy cP cLo cHi cpl ctb ctl ctf ctp ctk cts cth cob col cso cha chs cbe ctr cgl cgh cll clh cta cme cps cwh cal cah) (some (.int rr)) := by
  refine MT.go (own := RX6) [(0, .ref (g 31)), (1, .int p1)] (by decide) rfl (Nat.le_of_ble_eq_true rfl) rfl (fun p l e s m args below meth c A Q C hQ => ?_)
  unfold X6_hasRoom at hf
  refine jAloadn C dX6_hasRoom_0 rfl 0 rfl ?_
  refine gf_RX6_19 C dX6_hasRoom_1 ?_
  refine jIloadn C dX6_hasRoom_4 rfl 1 rfl ?_
  refine jIadd C dX6_hasRoom_5 ?_
  refine jSipush C (800 : Int32) dX6_hasRoom_6 ks_800 ?_
  refine jCmpGt C 16 dX6_hasRoom_9 (by decide) (fun c1 => ?_) (fun c1 => ?_)
  · replace hf := itp hf c1
    refine jIconst C (0 : Int32) dX6_hasRoom_16 ki_0 ?_
    cases hf
    exact jEndIZ C hQ rfl nar_z0 dX6_hasRoom_17
  · replace hf := itn hf c1
    refine jIconst C (1 : Int32) dX6_hasRoom_12 ki_1 ?_
    refine jGoto C 17 dX6_hasRoom_13 (by decide) ?_
    cases hf
    exact jEndIZ C hQ rfl nar_z1 dX6_hasRoom_17
noncomputable def X6_append_h3 (p1 : Int32) (r5 : Int32 → (Nat → Int32) → Int32 → Option ((Nat → Int32) × Int32)) (x2_1 : Int32) (ctb_2 : Nat → Int32) (ctl_3 : Int32) : Option ((Nat → Int32) × Int32) := (if x2_1 < (0 : Int32) then some (ctb_2, ctl_3) else (if (800 : Int32) ≤ ctl_3 then some (ctb_2, ctl_3) else gin ctl_3 800 (r5 (x2_1 + (-8 : Int32)) (upd ctb_2 ctl_3.toNatClampNeg (vp_nar .byte ((p1 >>> (x2_1 &&& 31)).toInt8.toInt32))) (ctl_3 + (1 : Int32)))))
noncomputable def X6_append (ctb : Nat → Int32) (ctl : Int32) (p1 : Int32) : Option ((Nat → Int32) × Int32) := lfp3 (X6_append_h3 p1) (24 : Int32) ctb ctl
set_option maxHeartbeats 4000000 in
set_option maxRecDepth 20000 in
theorem X6_append_ok {p1 : Int32} {octb : Nat → Int32} {octl : Int32}  (hf : X6_append ctb ctl p1 = some (octb, octl)) : MT yX6_append cX6_append 3 none 0 [.ref (g 31), .int p1] D cy G (cw g cy cP cLo cHi cpl ctb ctl ctf ctp ctk cts cth cob col cso cha chs cbe ctr cgl cgh cll clh cta cme cps cwh cal cah) (cw g cy cP cLo cHi cpl octb octl ctf ctp ctk cts cth cob col cso cha chs cbe ctr cgl cgh cll clh cta cme cps cwh cal cah) none := by
  refine MT.go (own := RX6) [(0, .ref (g 31)), (1, .int p1)] (by decide) rfl (Nat.le_of_ble_eq_true rfl) rfl (fun p l e s m args below meth c A Q C hQ => ?_)
  unfold X6_append at hf
  refine jBipush C (24 : Int32) dX6_append_0 kb_24 ?_
  refine jIstoren C dX6_append_2 rfl (Nat.le_of_ble_eq_true rfl) [(2, .int (24 : Int32)), (0, .ref (g 31)), (1, .int p1)] rfl ?_
  have hL4 : ∀ (x2_1 : Int32) (ctb_2 : Nat → Int32) (ctl_3 : Int32), lfp3 (X6_append_h3 p1) x2_1 ctb_2 ctl_3 = some (octb, octl) → J p l e (rmk 0) s m args below meth c D A Q 3 (cw g cy cP cLo cHi cpl ctb_2 ctl_3 ctf ctp ctk cts cth cob col cso cha chs cbe ctr cgl cgh cll clh cta cme cps cwh cal cah) 3 [(0, .ref (g 31)), (1, .int p1), (2, .int x2_1)] [] := by
    intro x2_1 ctb_2 ctl_3 hw
    refine lfp3_walk (P := fun x2_1 ctb_2 ctl_3 => J p l e (rmk 0) s m args below meth c D A Q 3 (cw g cy cP cLo cHi cpl ctb_2 ctl_3 ctf ctp ctk cts cth cob col cso cha chs cbe ctr cgl cgh cll clh cta cme cps cwh cal cah) 3 [(0, .ref (g 31)), (1, .int p1), (2, .int x2_1)] []) ?_ hw
    intro r5 ir5 x2_1 ctb_2 ctl_3 hf
    unfold X6_append_h3 at hf
    refine jIloadn C dX6_append_3 rfl 2 rfl ?_
    refine jIfLt C 46 dX6_append_4 (by decide) (fun c6 => ?_) (fun c6 => ?_)
    · replace hf := itp hf c6
      cases hf
      exact jEndV C hQ rfl dX6_append_46
    · replace hf := itn hf c6
      refine jAloadn C dX6_append_7 rfl 0 rfl ?_
      refine gf_RX6_19 C dX6_append_8 ?_
      refine jSipush C (800 : Int32) dX6_append_11 ks_800 ?_
      refine jCmpGe C 46 dX6_append_14 (by decide) (fun c7 => ?_) (fun c7 => ?_)
      · replace hf := itp hf c7
        cases hf
        exact jEndV C hQ rfl dX6_append_46
      · replace hf := itn hf c7
        refine jAloadn C dX6_append_17 rfl 0 rfl ?_
        refine gf_RX6_11 C dX6_append_18 ?_
        refine jAloadn C dX6_append_21 rfl 0 rfl ?_
        refine gf_RX6_19 C dX6_append_22 ?_
        refine jIloadn C dX6_append_25 rfl 1 rfl ?_
        refine jIloadn C dX6_append_26 rfl 2 rfl ?_
        refine jIshr C dX6_append_27 ?_
        refine jI2b C dX6_append_28 ?_
        obtain ⟨z8, hf⟩ := gin_some hf
        refine as_ctb C z8 dX6_append_29 ?_
        refine jAloadn C dX6_append_30 rfl 0 rfl ?_
        refine jDup C dX6_append_31 rfl ?_
        refine gf_RX6_19 C dX6_append_32 ?_
        refine jIconst C (1 : Int32) dX6_append_35 ki_1 ?_
        refine jIadd C dX6_append_36 ?_
        refine pf_RX6_19 C dX6_append_37 ?_
        refine jIinc C (x2_1 + (-8 : Int32)) dX6_append_40 2 rfl (congrArg (fun z : Int32 => x2_1 + z) (by decide +kernel)) (Nat.le_of_ble_eq_true rfl) [(2, .int (x2_1 + (-8 : Int32))), (0, .ref (g 31)), (1, .int p1)] rfl ?_
        refine jGoto C 3 dX6_append_43 (by decide) ?_
        refine jSub [1, 2, 0] rfl ?_
        exact ir5 (x2_1 + (-8 : Int32)) (upd ctb_2 ctl_3.toNatClampNeg (vp_nar .byte ((p1 >>> (x2_1 &&& 31)).toInt8.toInt32))) (ctl_3 + (1 : Int32)) hf
  refine jSub [1, 2, 0] rfl ?_
  exact hL4 (24 : Int32) ctb ctl hf
noncomputable def X6_isBlank (p0 : Int32) : Option Int32 := (if p0 = (32 : Int32) then some (1 : Int32) else (if p0 = (10 : Int32) then some (1 : Int32) else some (0 : Int32)))
set_option maxHeartbeats 4000000 in
set_option maxRecDepth 20000 in
theorem X6_isBlank_ok {D : va_G} {cy : Nat → ClassId} {G : Nat → Nat} {ws : va_W} {p0 : Int32} {rr : Int32}  (hf : X6_isBlank p0 = some rr) : MT yX6_isBlank cX6_isBlank 1 (some .boolean) 0 [.int p0] D cy G ws ws (some (.int rr)) := by
  refine MT.go (own := RX6) [(0, .int p0)] (by decide) rfl (Nat.le_of_ble_eq_true rfl) rfl (fun p l e s m args below meth c A Q C hQ => ?_)
  unfold X6_isBlank at hf
  refine jIloadn C dX6_isBlank_0 rfl 0 rfl ?_
  refine jBipush C (32 : Int32) dX6_isBlank_1 kb_32 ?_
  refine jCmpEq C 12 dX6_isBlank_3 (by decide) (fun c1 => ?_) (fun c1 => ?_)
  · replace hf := itp hf c1
    refine jIconst C (1 : Int32) dX6_isBlank_12 ki_1 ?_
    refine jGoto C 17 dX6_isBlank_13 (by decide) ?_
    cases hf
    exact jEndIZ C hQ rfl nar_z1 dX6_isBlank_17
  · replace hf := itn hf c1
    refine jIloadn C dX6_isBlank_6 rfl 0 rfl ?_
    refine jBipush C (10 : Int32) dX6_isBlank_7 kb_10 ?_
    refine jCmpNe C 16 dX6_isBlank_9 (by decide) (fun c2 => ?_) (fun c2 => ?_)
    · replace hf := itn hf c2
      refine jIconst C (0 : Int32) dX6_isBlank_16 ki_0 ?_
      cases hf
      exact jEndIZ C hQ rfl nar_z0 dX6_isBlank_17
    · replace hf := itp hf c2
      refine jIconst C (1 : Int32) dX6_isBlank_12 ki_1 ?_
      refine jGoto C 17 dX6_isBlank_13 (by decide) ?_
      cases hf
      exact jEndIZ C hQ rfl nar_z1 dX6_isBlank_17
noncomputable def X6_kindAt_j34 (p1 : Int32) (ctb : Nat → Int32)  : Option Int32 := gin p1 800 ((if (ctb p1.toNatClampNeg) < (48 : Int32) then some (3 : Int32) else gin p1 800 ((if (57 : Int32) < (ctb p1.toNatClampNeg) then some (3 : Int32) else some (2 : Int32)))))
noncomputable def X6_kindAt (ctb : Nat → Int32) (ctl : Int32) (p1 : Int32) : Option Int32 := (if p1 < ctl then gin p1 800 ((if (ctb p1.toNatClampNeg) < (97 : Int32) then X6_kindAt_j34 p1 ctb else gin p1 800 ((if (122 : Int32) < (ctb p1.toNatClampNeg) then X6_kindAt_j34 p1 ctb else some (1 : Int32))))) else some (0 : Int32))
set_option maxHeartbeats 4000000 in
set_option maxRecDepth 20000 in
theorem X6_kindAt_ok {p1 : Int32} {rr : Int32}  (hf : X6_kindAt ctb ctl p1 = some rr) : MT yX6_kindAt cX6_kindAt 2 (some .int) 0 [.ref (g 31), .int p1] D cy G (cw g cy cP cLo cHi cpl ctb ctl ctf ctp ctk cts cth cob col cso cha chs cbe ctr cgl cgh cll clh cta cme cps cwh cal cah) (cw g cy cP cLo cHi cpl ctb ctl ctf ctp ctk cts cth cob col cso cha chs cbe ctr cgl cgh cll clh cta cme cps cwh cal cah) (some (.int rr)) := by
  refine MT.go (own := RX6) [(0, .ref (g 31)), (1, .int p1)] (by decide) rfl (Nat.le_of_ble_eq_true rfl) rfl (fun p l e s m args below meth c A Q C hQ => ?_)
  unfold X6_kindAt at hf
  refine jIloadn C dX6_kindAt_0 rfl 1 rfl ?_
  refine jAloadn C dX6_kindAt_1 rfl 0 rfl ?_
  refine gf_RX6_19 C dX6_kindAt_2 ?_
  refine jCmpLt C 10 dX6_kindAt_5 (by decide) (fun c1 => ?_) (fun c1 => ?_)
  · replace hf := itp hf c1
    refine jAloadn C dX6_kindAt_10 rfl 0 rfl ?_
    refine gf_RX6_11 C dX6_kindAt_11 ?_
    refine jIloadn C dX6_kindAt_14 rfl 1 rfl ?_
    obtain ⟨z2, hf⟩ := gin_some hf
    refine al_ctb C z2 dX6_kindAt_15 ?_
    refine jBipush C (97 : Int32) dX6_kindAt_16 kb_97 ?_
    have hL3 : X6_kindAt_j34 p1 ctb  = some rr → J p l e (rmk 0) s m args below meth c D A Q 2 (cw g cy cP cLo cHi cpl ctb ctl ctf ctp ctk cts cth cob col cso cha chs cbe ctr cgl cgh cll clh cta cme cps cwh cal cah) 34 [(0, .ref (g 31)), (1, .int p1)] [] := by
      intro  hf
      unfold X6_kindAt_j34 at hf
      refine jAloadn C dX6_kindAt_34 rfl 0 rfl ?_
      refine gf_RX6_11 C dX6_kindAt_35 ?_
      refine jIloadn C dX6_kindAt_38 rfl 1 rfl ?_
      obtain ⟨z4, hf⟩ := gin_some hf
      refine al_ctb C z4 dX6_kindAt_39 ?_
      refine jBipush C (48 : Int32) dX6_kindAt_40 kb_48 ?_
      refine jCmpLt C 60 dX6_kindAt_42 (by decide) (fun c5 => ?_) (fun c5 => ?_)
      · replace hf := itp hf c5
        refine jIconst C (3 : Int32) dX6_kindAt_60 ki_3 ?_
        cases hf
        exact jEndI C hQ rfl dX6_kindAt_61
      · replace hf := itn hf c5
        refine jAloadn C dX6_kindAt_45 rfl 0 rfl ?_
        refine gf_RX6_11 C dX6_kindAt_46 ?_
        refine jIloadn C dX6_kindAt_49 rfl 1 rfl ?_
        obtain ⟨z6, hf⟩ := gin_some hf
        refine al_ctb C z6 dX6_kindAt_50 ?_
        refine jBipush C (57 : Int32) dX6_kindAt_51 kb_57 ?_
        refine jCmpGt C 60 dX6_kindAt_53 (by decide) (fun c7 => ?_) (fun c7 => ?_)
        · replace hf := itp hf c7
          refine jIconst C (3 : Int32) dX6_kindAt_60 ki_3 ?_
          cases hf
          exact jEndI C hQ rfl dX6_kindAt_61
        · replace hf := itn hf c7
          refine jIconst C (2 : Int32) dX6_kindAt_56 ki_2 ?_
          refine jGoto C 61 dX6_kindAt_57 (by decide) ?_
          cases hf
          exact jEndI C hQ rfl dX6_kindAt_61
    refine jCmpLt C 34 dX6_kindAt_18 (by decide) (fun c8 => ?_) (fun c8 => ?_)
    · replace hf := itp hf c8
      exact hL3  hf
    · replace hf := itn hf c8
      refine jAloadn C dX6_kindAt_21 rfl 0 rfl ?_
      refine gf_RX6_11 C dX6_kindAt_22 ?_
      refine jIloadn C dX6_kindAt_25 rfl 1 rfl ?_
      obtain ⟨z9, hf⟩ := gin_some hf
      refine al_ctb C z9 dX6_kindAt_26 ?_
      refine jBipush C (122 : Int32) dX6_kindAt_27 kb_122 ?_
      refine jCmpGt C 34 dX6_kindAt_29 (by decide) (fun c10 => ?_) (fun c10 => ?_)
      · replace hf := itp hf c10
        exact hL3  hf
      · replace hf := itn hf c10
        refine jIconst C (1 : Int32) dX6_kindAt_32 ki_1 ?_
        cases hf
        exact jEndI C hQ rfl dX6_kindAt_33
  · replace hf := itn hf c1
    refine jIconst C (0 : Int32) dX6_kindAt_8 ki_0 ?_
    cases hf
    exact jEndI C hQ rfl dX6_kindAt_9
noncomputable def X6_advance_h95 (ctl : Int32) (q5 : Int32) (cts_1 : Int32) (ctb : Nat → Int32) (r10 : Int32 → Option (Int32 × Int32 × Int32)) (cth_8 : Int32) : Option (Int32 × Int32 × Int32) := (if ctl ≤ cth_8 then some (q5, cts_1, cth_8) else bd1 (X6_kindAt ctb ctl cth_8) (fun q12 => (if q12 = q5 then r10 (cth_8 + (1 : Int32)) else some (q5, cts_1, cth_8))))
noncomputable def X6_advance_j47 (ctb : Nat → Int32) (ctl : Int32) (cts_1 : Int32)  : Option (Int32 × Int32 × Int32) := bd1 (X6_kindAt ctb ctl cts_1) (fun q5 => (if q5 = (3 : Int32) then some (q5, cts_1, (cts_1 + (1 : Int32))) else (if q5 = (0 : Int32) then some (q5, cts_1, cts_1) else lfp1 (X6_advance_h95 ctl q5 cts_1 ctb) cts_1)))
noncomputable def X6_advance_h8 (ctl : Int32) (ctb : Nat → Int32) (r3 : Int32 → Option (Int32 × Int32 × Int32)) (cts_1 : Int32) : Option (Int32 × Int32 × Int32) := (if ctl ≤ cts_1 then X6_advance_j47 ctb ctl cts_1 else gin cts_1 800 (bd1 (X6_isBlank (ctb cts_1.toNatClampNeg)) (fun q18 => (if q18 = (0 : Int32) then X6_advance_j47 ctb ctl cts_1 else r3 (cts_1 + (1 : Int32))))))
noncomputable def X6_advance (ctb : Nat → Int32) (ctl : Int32) (cth : Int32) : Option (Int32 × Int32 × Int32) := lfp1 (X6_advance_h8 ctl ctb) cth
set_option maxHeartbeats 4000000 in
set_option maxRecDepth 20000 in
theorem X6_advance_ok  {octk : Int32} {octs : Int32} {octh : Int32}  (hf : X6_advance ctb ctl cth = some (octk, octs, octh)) : MT yX6_advance cX6_advance 1 none 1 [.ref (g 31)] D cy G (cw g cy cP cLo cHi cpl ctb ctl ctf ctp ctk cts cth cob col cso cha chs cbe ctr cgl cgh cll clh cta cme cps cwh cal cah) (cw g cy cP cLo cHi cpl ctb ctl ctf ctp octk octs octh cob col cso cha chs cbe ctr cgl cgh cll clh cta cme cps cwh cal cah) none := by
  refine MT.go (own := RX6) [(0, .ref (g 31))] (by decide) rfl (Nat.le_of_ble_eq_true rfl) rfl (fun p l e s m args below meth c A Q C hQ => ?_)
  unfold X6_advance at hf
  refine jAloadn C dX6_advance_0 rfl 0 rfl ?_
  refine jAloadn C dX6_advance_1 rfl 0 rfl ?_
  refine gf_RX6_25 C dX6_advance_2 ?_
  refine pf_RX6_37 C dX6_advance_5 ?_
  have hL2 : ∀ (cts_1 : Int32), lfp1 (X6_advance_h8 ctl ctb) cts_1 = some (octk, octs, octh) → J p l e (rmk 1) s m args below meth c D A Q 1 (cw g cy cP cLo cHi cpl ctb ctl ctf ctp ctk cts_1 cth cob col cso cha chs cbe ctr cgl cgh cll clh cta cme cps cwh cal cah) 8 [(0, .ref (g 31))] [] := by
    intro cts_1 hw
    refine lfp1_walk (P := fun cts_1 => J p l e (rmk 1) s m args below meth c D A Q 1 (cw g cy cP cLo cHi cpl ctb ctl ctf ctp ctk cts_1 cth cob col cso cha chs cbe ctr cgl cgh cll clh cta cme cps cwh cal cah) 8 [(0, .ref (g 31))] []) ?_ hw
    intro r3 ir3 cts_1 hf
    unfold X6_advance_h8 at hf
    refine jAloadn C dX6_advance_8 rfl 0 rfl ?_
    refine gf_RX6_37 C dX6_advance_9 ?_
    refine jAloadn C dX6_advance_12 rfl 0 rfl ?_
    refine gf_RX6_19 C dX6_advance_13 ?_
    have hL4 : X6_advance_j47 ctb ctl cts_1  = some (octk, octs, octh) → J p l e (rmk 1) s m args below meth c D A Q 1 (cw g cy cP cLo cHi cpl ctb ctl ctf ctp ctk cts_1 cth cob col cso cha chs cbe ctr cgl cgh cll clh cta cme cps cwh cal cah) 47 [(0, .ref (g 31))] [] := by
      intro  hf
      unfold X6_advance_j47 at hf
      refine jAloadn C dX6_advance_47 rfl 0 rfl ?_
      refine jAloadn C dX6_advance_48 rfl 0 rfl ?_
      refine gf_RX6_37 C dX6_advance_49 ?_
      refine pf_RX6_25 C dX6_advance_52 ?_
      refine jAloadn C dX6_advance_55 rfl 0 rfl ?_
      refine jAloadn C dX6_advance_56 rfl 0 rfl ?_
      refine jAloadn C dX6_advance_57 rfl 0 rfl ?_
      refine gf_RX6_37 C dX6_advance_58 ?_
      obtain ⟨q5, e6, hf⟩ := bd1_some hf
      refine jVI C (X6_kindAt_ok  e6) vb_X6_kindAt mk_RX6_87 rfl rc31 ⟨Nat.le_of_ble_eq_true rfl, Nat.le_of_ble_eq_true rfl⟩ rfl (Nat.le_of_ble_eq_true rfl) dX6_advance_61 ?_
      refine pf_RX6_44 C dX6_advance_64 ?_
      refine jAloadn C dX6_advance_67 rfl 0 rfl ?_
      refine gf_RX6_44 C dX6_advance_68 ?_
      refine jIconst C (3 : Int32) dX6_advance_71 ki_3 ?_
      refine jCmpNe C 88 dX6_advance_72 (by decide) (fun c7 => ?_) (fun c7 => ?_)
      · replace hf := itn hf c7
        refine jAloadn C dX6_advance_88 rfl 0 rfl ?_
        refine gf_RX6_44 C dX6_advance_89 ?_
        have hL9 : ∀ (cth_8 : Int32), lfp1 (X6_advance_h95 ctl q5 cts_1 ctb) cth_8 = some (octk, octs, octh) → J p l e (rmk 1) s m args below meth c D A Q 1 (cw g cy cP cLo cHi cpl ctb ctl ctf ctp q5 cts_1 cth_8 cob col cso cha chs cbe ctr cgl cgh cll clh cta cme cps cwh cal cah) 95 [(0, .ref (g 31))] [] := by
          intro cth_8 hw
          refine lfp1_walk (P := fun cth_8 => J p l e (rmk 1) s m args below meth c D A Q 1 (cw g cy cP cLo cHi cpl ctb ctl ctf ctp q5 cts_1 cth_8 cob col cso cha chs cbe ctr cgl cgh cll clh cta cme cps cwh cal cah) 95 [(0, .ref (g 31))] []) ?_ hw
          intro r10 ir10 cth_8 hf
          unfold X6_advance_h95 at hf
          refine jAloadn C dX6_advance_95 rfl 0 rfl ?_
          refine gf_RX6_25 C dX6_advance_96 ?_
          refine jAloadn C dX6_advance_99 rfl 0 rfl ?_
          refine gf_RX6_19 C dX6_advance_100 ?_
          refine jCmpGe C 134 dX6_advance_103 (by decide) (fun c11 => ?_) (fun c11 => ?_)
          · replace hf := itp hf c11
            cases hf
            exact jEndV C hQ rfl dX6_advance_134
          · replace hf := itn hf c11
            refine jAloadn C dX6_advance_106 rfl 0 rfl ?_
            refine jAloadn C dX6_advance_107 rfl 0 rfl ?_
            refine gf_RX6_25 C dX6_advance_108 ?_
            obtain ⟨q12, e13, hf⟩ := bd1_some hf
            refine jVI C (X6_kindAt_ok  e13) vb_X6_kindAt mk_RX6_87 rfl rc31 ⟨Nat.le_of_ble_eq_true rfl, Nat.le_of_ble_eq_true rfl⟩ rfl (Nat.le_of_ble_eq_true rfl) dX6_advance_111 ?_
            refine jAloadn C dX6_advance_114 rfl 0 rfl ?_
            refine gf_RX6_44 C dX6_advance_115 ?_
            refine jCmpNe C 134 dX6_advance_118 (by decide) (fun c14 => ?_) (fun c14 => ?_)
            · replace hf := itn hf c14
              cases hf
              exact jEndV C hQ rfl dX6_advance_134
            · replace hf := itp hf c14
              refine jAloadn C dX6_advance_121 rfl 0 rfl ?_
              refine jDup C dX6_advance_122 rfl ?_
              refine gf_RX6_25 C dX6_advance_123 ?_
              refine jIconst C (1 : Int32) dX6_advance_126 ki_1 ?_
              refine jIadd C dX6_advance_127 ?_
              refine pf_RX6_25 C dX6_advance_128 ?_
              refine jGoto C 95 dX6_advance_131 (by decide) ?_
              exact ir10 (cth_8 + (1 : Int32)) hf
        refine jIfEq C 134 dX6_advance_92 (by decide) (fun c15 => ?_) (fun c15 => ?_)
        · replace hf := itp hf c15
          cases hf
          exact jEndV C hQ rfl dX6_advance_134
        · replace hf := itn hf c15
          exact hL9 cts_1 hf
      · replace hf := itp hf c7
        refine jAloadn C dX6_advance_75 rfl 0 rfl ?_
        refine jDup C dX6_advance_76 rfl ?_
        refine gf_RX6_25 C dX6_advance_77 ?_
        refine jIconst C (1 : Int32) dX6_advance_80 ki_1 ?_
        refine jIadd C dX6_advance_81 ?_
        refine pf_RX6_25 C dX6_advance_82 ?_
        refine jGoto C 134 dX6_advance_85 (by decide) ?_
        cases hf
        exact jEndV C hQ rfl dX6_advance_134
    refine jCmpGe C 47 dX6_advance_16 (by decide) (fun c16 => ?_) (fun c16 => ?_)
    · replace hf := itp hf c16
      exact hL4  hf
    · replace hf := itn hf c16
      refine jAloadn C dX6_advance_19 rfl 0 rfl ?_
      refine gf_RX6_11 C dX6_advance_20 ?_
      refine jAloadn C dX6_advance_23 rfl 0 rfl ?_
      refine gf_RX6_37 C dX6_advance_24 ?_
      obtain ⟨z17, hf⟩ := gin_some hf
      refine al_ctb C z17 dX6_advance_27 ?_
      obtain ⟨q18, e19, hf⟩ := bd1_some hf
      refine jSI C (X6_isBlank_ok  e19) sb_X6_isBlank mk_RX6_83 rfl ⟨Nat.le_of_ble_eq_true rfl, Nat.le_of_ble_eq_true rfl⟩ rfl (Nat.le_of_ble_eq_true rfl) dX6_advance_28 ?_
      refine jIfEq C 47 dX6_advance_31 (by decide) (fun c20 => ?_) (fun c20 => ?_)
      · replace hf := itp hf c20
        exact hL4  hf
      · replace hf := itn hf c20
        refine jAloadn C dX6_advance_34 rfl 0 rfl ?_
        refine jDup C dX6_advance_35 rfl ?_
        refine gf_RX6_37 C dX6_advance_36 ?_
        refine jIconst C (1 : Int32) dX6_advance_39 ki_1 ?_
        refine jIadd C dX6_advance_40 ?_
        refine pf_RX6_37 C dX6_advance_41 ?_
        refine jGoto C 8 dX6_advance_44 (by decide) ?_
        exact ir3 (cts_1 + (1 : Int32)) hf
  exact hL2 cth hf
noncomputable def X6_isWord_h28 (p1 : Nat) (cts : Int32) (ctb : Nat → Int32) (r7 : Int32 → Option Int32) (x2_5 : Int32) : Option Int32 := bd1 (stlen p1) (fun q8 => (if q8 ≤ x2_5 then some (1 : Int32) else gin (cts + x2_5) 800 (bd1 (stch p1 x2_5) (fun q12 => (if (ctb (cts + x2_5).toNatClampNeg) = q12 then r7 (x2_5 + (1 : Int32)) else some (0 : Int32))))))
noncomputable def X6_isWord (ctb : Nat → Int32) (ctk : Int32) (cts : Int32) (cth : Int32) (p1 : Nat) : Option Int32 := (if ctk = (1 : Int32) then bd1 (stlen p1) (fun q2 => (if (cth - cts) = q2 then lfp1 (X6_isWord_h28 p1 cts ctb) (0 : Int32) else some (0 : Int32))) else some (0 : Int32))
set_option maxHeartbeats 4000000 in
set_option maxRecDepth 20000 in
theorem X6_isWord_ok {p1 : Nat} {rr : Int32} (hp1 : p1 < 3) (hf : X6_isWord ctb ctk cts cth p1 = some rr) : MT yX6_isWord cX6_isWord 3 (some .boolean) 4 [.ref (g 31), .ref (G (10 + p1))] D cy G (cw g cy cP cLo cHi cpl ctb ctl ctf ctp ctk cts cth cob col cso cha chs cbe ctr cgl cgh cll clh cta cme cps cwh cal cah) (cw g cy cP cLo cHi cpl ctb ctl ctf ctp ctk cts cth cob col cso cha chs cbe ctr cgl cgh cll clh cta cme cps cwh cal cah) (some (.int rr)) := by
  refine MT.go (own := RX6) [(0, .ref (g 31)), (1, .ref (G (10 + p1)))] (by decide) rfl (Nat.le_of_ble_eq_true rfl) rfl (fun p l e s m args below meth c A Q C hQ => ?_)
  unfold X6_isWord at hf
  refine jAloadn C dX6_isWord_0 rfl 0 rfl ?_
  refine gf_RX6_44 C dX6_isWord_1 ?_
  refine jIconst C (1 : Int32) dX6_isWord_4 ki_1 ?_
  refine jCmpNe C 24 dX6_isWord_5 (by decide) (fun c1 => ?_) (fun c1 => ?_)
  · replace hf := itn hf c1
    refine jIconst C (0 : Int32) dX6_isWord_24 ki_0 ?_
    cases hf
    exact jEndIZ C hQ rfl nar_z0 dX6_isWord_25
  · replace hf := itp hf c1
    refine jAloadn C dX6_isWord_8 rfl 0 rfl ?_
    refine gf_RX6_25 C dX6_isWord_9 ?_
    refine jAloadn C dX6_isWord_12 rfl 0 rfl ?_
    refine gf_RX6_37 C dX6_isWord_13 ?_
    refine jIsub C dX6_isWord_16 ?_
    refine jAloadn C dX6_isWord_17 rfl 1 rfl ?_
    obtain ⟨q2, e3, hf⟩ := bd1_some hf
    refine jVsI C (J0_length_ok hp1 e3) vb_J0_length_8abf5 mk_RX6_91 rfl (C.2.2.2.2.2.2.1.2.2.2.2.1 p1 hp1).1 ⟨Nat.le_of_ble_eq_true rfl, Nat.le_of_ble_eq_true rfl⟩ rfl (Nat.le_of_ble_eq_true rfl) dX6_isWord_18 ?_
    refine jCmpEq C 26 dX6_isWord_21 (by decide) (fun c4 => ?_) (fun c4 => ?_)
    · replace hf := itp hf c4
      refine jIconst C (0 : Int32) dX6_isWord_26 ki_0 ?_
      refine jIstoren C dX6_isWord_27 rfl (Nat.le_of_ble_eq_true rfl) [(2, .int (0 : Int32)), (0, .ref (g 31)), (1, .ref (G (10 + p1)))] rfl ?_
      have hL6 : ∀ (x2_5 : Int32), lfp1 (X6_isWord_h28 p1 cts ctb) x2_5 = some rr → J p l e (rmk 4) s m args below meth c D A Q 3 (cw g cy cP cLo cHi cpl ctb ctl ctf ctp ctk cts cth cob col cso cha chs cbe ctr cgl cgh cll clh cta cme cps cwh cal cah) 28 [(0, .ref (g 31)), (1, .ref (G (10 + p1))), (2, .int x2_5)] [] := by
        intro x2_5 hw
        refine lfp1_walk (P := fun x2_5 => J p l e (rmk 4) s m args below meth c D A Q 3 (cw g cy cP cLo cHi cpl ctb ctl ctf ctp ctk cts cth cob col cso cha chs cbe ctr cgl cgh cll clh cta cme cps cwh cal cah) 28 [(0, .ref (g 31)), (1, .ref (G (10 + p1))), (2, .int x2_5)] []) ?_ hw
        intro r7 ir7 x2_5 hf
        unfold X6_isWord_h28 at hf
        refine jIloadn C dX6_isWord_28 rfl 2 rfl ?_
        refine jAloadn C dX6_isWord_29 rfl 1 rfl ?_
        obtain ⟨q8, e9, hf⟩ := bd1_some hf
        refine jVsI C (J0_length_ok hp1 e9) vb_J0_length_8abf5 mk_RX6_91 rfl (C.2.2.2.2.2.2.1.2.2.2.2.1 p1 hp1).1 ⟨Nat.le_of_ble_eq_true rfl, Nat.le_of_ble_eq_true rfl⟩ rfl (Nat.le_of_ble_eq_true rfl) dX6_isWord_30 ?_
        refine jCmpGe C 63 dX6_isWord_33 (by decide) (fun c10 => ?_) (fun c10 => ?_)
        · replace hf := itp hf c10
          refine jIconst C (1 : Int32) dX6_isWord_63 ki_1 ?_
          cases hf
          exact jEndIZ C hQ rfl nar_z1 dX6_isWord_64
        · replace hf := itn hf c10
          refine jAloadn C dX6_isWord_36 rfl 0 rfl ?_
          refine gf_RX6_11 C dX6_isWord_37 ?_
          refine jAloadn C dX6_isWord_40 rfl 0 rfl ?_
          refine gf_RX6_37 C dX6_isWord_41 ?_
          refine jIloadn C dX6_isWord_44 rfl 2 rfl ?_
          refine jIadd C dX6_isWord_45 ?_
          obtain ⟨z11, hf⟩ := gin_some hf
          refine al_ctb C z11 dX6_isWord_46 ?_
          refine jAloadn C dX6_isWord_47 rfl 1 rfl ?_
          refine jIloadn C dX6_isWord_48 rfl 2 rfl ?_
          obtain ⟨q12, e13, hf⟩ := bd1_some hf
          refine jVsI C (J0_charAt_ok hp1 e13) vb_J0_charAt_5068e mk_RX6_95 rfl (C.2.2.2.2.2.2.1.2.2.2.2.1 p1 hp1).1 ⟨Nat.le_of_ble_eq_true rfl, Nat.le_of_ble_eq_true rfl⟩ rfl (Nat.le_of_ble_eq_true rfl) dX6_isWord_49 ?_
          refine jCmpEq C 57 dX6_isWord_52 (by decide) (fun c14 => ?_) (fun c14 => ?_)
          · replace hf := itp hf c14
            refine jIinc C (x2_5 + (1 : Int32)) dX6_isWord_57 2 rfl (congrArg (fun z : Int32 => x2_5 + z) ki_1) (Nat.le_of_ble_eq_true rfl) [(2, .int (x2_5 + (1 : Int32))), (0, .ref (g 31)), (1, .ref (G (10 + p1)))] rfl ?_
            refine jGoto C 28 dX6_isWord_60 (by decide) ?_
            refine jSub [1, 2, 0] rfl ?_
            exact ir7 (x2_5 + (1 : Int32)) hf
          · replace hf := itn hf c14
            refine jIconst C (0 : Int32) dX6_isWord_55 ki_0 ?_
            cases hf
            exact jEndIZ C hQ rfl nar_z0 dX6_isWord_56
      refine jSub [1, 2, 0] rfl ?_
      exact hL6 (0 : Int32) hf
    · replace hf := itn hf c4
      refine jIconst C (0 : Int32) dX6_isWord_24 ki_0 ?_
      cases hf
      exact jEndIZ C hQ rfl nar_z0 dX6_isWord_25
noncomputable def X6_fails (p1 : Int32) (p2 : Int32) : Option (Int32 × Int32 × Int32) := some ((0 : Int32), p1, p2)
set_option maxHeartbeats 4000000 in
set_option maxRecDepth 20000 in
theorem X6_fails_ok {p1 : Int32} {p2 : Int32} {rr : Int32} {octf : Int32} {octp : Int32}  (hf : X6_fails p1 p2 = some (rr, octf, octp)) : MT yX6_fails cX6_fails 3 (some .boolean) 0 [.ref (g 31), .int p1, .int p2] D cy G (cw g cy cP cLo cHi cpl ctb ctl ctf ctp ctk cts cth cob col cso cha chs cbe ctr cgl cgh cll clh cta cme cps cwh cal cah) (cw g cy cP cLo cHi cpl ctb ctl octf octp ctk cts cth cob col cso cha chs cbe ctr cgl cgh cll clh cta cme cps cwh cal cah) (some (.int rr)) := by
  refine MT.go (own := RX6) [(0, .ref (g 31)), (1, .int p1), (2, .int p2)] (by decide) rfl (Nat.le_of_ble_eq_true rfl) rfl (fun p l e s m args below meth c A Q C hQ => ?_)
  unfold X6_fails at hf
  refine jAloadn C dX6_fails_0 rfl 0 rfl ?_
  refine jIloadn C dX6_fails_1 rfl 1 rfl ?_
  refine pf_RX6_22 C dX6_fails_2 ?_
  refine jAloadn C dX6_fails_5 rfl 0 rfl ?_
  refine jIloadn C dX6_fails_6 rfl 2 rfl ?_
  refine pf_RX6_15 C dX6_fails_7 ?_
  refine jIconst C (0 : Int32) dX6_fails_10 ki_0 ?_
  cases hf
  exact jEndIZ C hQ rfl nar_z0 dX6_fails_11
noncomputable def X6_number_h7 (cth : Int32) (ctb : Nat → Int32) (r4 : Int32 → Int32 → Option Int32) (x1_1 : Int32) (x2_2 : Int32) : Option Int32 := (if cth ≤ x2_2 then some x1_1 else gin x2_2 800 (r4 (imin (1000 : Int32) (((x1_1 * (10 : Int32)) + (ctb x2_2.toNatClampNeg)) - (48 : Int32))) (x2_2 + (1 : Int32))))
noncomputable def X6_number (ctb : Nat → Int32) (cts : Int32) (cth : Int32) : Option Int32 := lfp2 (X6_number_h7 cth ctb) (0 : Int32) cts
set_option maxHeartbeats 4000000 in
set_option maxRecDepth 20000 in
theorem X6_number_ok  {rr : Int32}  (hf : X6_number ctb cts cth = some rr) : MT yX6_number cX6_number 3 (some .int) 1 [.ref (g 31)] D cy G (cw g cy cP cLo cHi cpl ctb ctl ctf ctp ctk cts cth cob col cso cha chs cbe ctr cgl cgh cll clh cta cme cps cwh cal cah) (cw g cy cP cLo cHi cpl ctb ctl ctf ctp ctk cts cth cob col cso cha chs cbe ctr cgl cgh cll clh cta cme cps cwh cal cah) (some (.int rr)) := by
  refine MT.go (own := RX6) [(0, .ref (g 31))] (by decide) rfl (Nat.le_of_ble_eq_true rfl) rfl (fun p l e s m args below meth c A Q C hQ => ?_)
  unfold X6_number at hf
  refine jIconst C (0 : Int32) dX6_number_0 ki_0 ?_
  refine jIstoren C dX6_number_1 rfl (Nat.le_of_ble_eq_true rfl) [(1, .int (0 : Int32)), (0, .ref (g 31))] rfl ?_
  refine jAloadn C dX6_number_2 rfl 1 rfl ?_
  refine gf_RX6_37 C dX6_number_3 ?_
  refine jIstoren C dX6_number_6 rfl (Nat.le_of_ble_eq_true rfl) [(2, .int cts), (1, .int (0 : Int32)), (0, .ref (g 31))] rfl ?_
  have hL3 : ∀ (x1_1 : Int32) (x2_2 : Int32), lfp2 (X6_number_h7 cth ctb) x1_1 x2_2 = some rr → J p l e (rmk 1) s m args below meth c D A Q 3 (cw g cy cP cLo cHi cpl ctb ctl ctf ctp ctk cts cth cob col cso cha chs cbe ctr cgl cgh cll clh cta cme cps cwh cal cah) 7 [(0, .ref (g 31)), (1, .int x1_1), (2, .int x2_2)] [] := by
    intro x1_1 x2_2 hw
    refine lfp2_walk (P := fun x1_1 x2_2 => J p l e (rmk 1) s m args below meth c D A Q 3 (cw g cy cP cLo cHi cpl ctb ctl ctf ctp ctk cts cth cob col cso cha chs cbe ctr cgl cgh cll clh cta cme cps cwh cal cah) 7 [(0, .ref (g 31)), (1, .int x1_1), (2, .int x2_2)] []) ?_ hw
    intro r4 ir4 x1_1 x2_2 hf
    unfold X6_number_h7 at hf
    refine jIloadn C dX6_number_7 rfl 2 rfl ?_
    refine jAloadn C dX6_number_8 rfl 0 rfl ?_
    refine gf_RX6_25 C dX6_number_9 ?_
    refine jCmpGe C 42 dX6_number_12 (by decide) (fun c5 => ?_) (fun c5 => ?_)
    · replace hf := itp hf c5
      refine jIloadn C dX6_number_42 rfl 1 rfl ?_
      cases hf
      exact jEndI C hQ rfl dX6_number_43
    · replace hf := itn hf c5
      refine jSipush C (1000 : Int32) dX6_number_15 ks_1000 ?_
      refine jIloadn C dX6_number_18 rfl 1 rfl ?_
      refine jBipush C (10 : Int32) dX6_number_19 kb_10 ?_
      refine jImul C dX6_number_21 ?_
      refine jAloadn C dX6_number_22 rfl 0 rfl ?_
      refine gf_RX6_11 C dX6_number_23 ?_
      refine jIloadn C dX6_number_26 rfl 2 rfl ?_
      obtain ⟨z6, hf⟩ := gin_some hf
      refine al_ctb C z6 dX6_number_27 ?_
      refine jIadd C dX6_number_28 ?_
      refine jBipush C (48 : Int32) dX6_number_29 kb_48 ?_
      refine jIsub C dX6_number_31 ?_
      refine jMin C mk_RX6_99 ⟨Nat.le_of_ble_eq_true rfl, Nat.le_of_ble_eq_true rfl⟩ dX6_number_32 ?_
      refine jIstoren C dX6_number_35 rfl (Nat.le_of_ble_eq_true rfl) [(1, .int (imin (1000 : Int32) (((x1_1 * (10 : Int32)) + (ctb x2_2.toNatClampNeg)) - (48 : Int32)))), (0, .ref (g 31)), (2, .int x2_2)] rfl ?_
      refine jIinc C (x2_2 + (1 : Int32)) dX6_number_36 2 rfl (congrArg (fun z : Int32 => x2_2 + z) ki_1) (Nat.le_of_ble_eq_true rfl) [(2, .int (x2_2 + (1 : Int32))), (1, .int (imin (1000 : Int32) (((x1_1 * (10 : Int32)) + (ctb x2_2.toNatClampNeg)) - (48 : Int32)))), (0, .ref (g 31))] rfl ?_
      refine jGoto C 7 dX6_number_39 (by decide) ?_
      refine jSub [2, 1, 0] rfl ?_
      exact ir4 (imin (1000 : Int32) (((x1_1 * (10 : Int32)) + (ctb x2_2.toNatClampNeg)) - (48 : Int32))) (x2_2 + (1 : Int32)) hf
  refine jSub [2, 1, 0] rfl ?_
  exact hL3 (0 : Int32) cts hf
noncomputable def X8_isPointCount (p0 : Int32) : Option Int32 := (if p0 < (1 : Int32) then some (0 : Int32) else (if (7 : Int32) < p0 then some (0 : Int32) else some (1 : Int32)))
set_option maxHeartbeats 4000000 in
set_option maxRecDepth 20000 in
theorem X8_isPointCount_ok {D : va_G} {cy : Nat → ClassId} {G : Nat → Nat} {ws : va_W} {p0 : Int32} {rr : Int32}  (hf : X8_isPointCount p0 = some rr) : MT yX8_isPointCount cX8_isPointCount 1 (some .boolean) 0 [.int p0] D cy G ws ws (some (.int rr)) := by
  refine MT.go (own := RX8) [(0, .int p0)] (by decide) rfl (Nat.le_of_ble_eq_true rfl) rfl (fun p l e s m args below meth c A Q C hQ => ?_)
  unfold X8_isPointCount at hf
  refine jIloadn C dX8_isPointCount_0 rfl 0 rfl ?_
  refine jIconst C (1 : Int32) dX8_isPointCount_1 ki_1 ?_
  refine jCmpLt C 15 dX8_isPointCount_2 (by decide) (fun c1 => ?_) (fun c1 => ?_)
  · replace hf := itp hf c1
    refine jIconst C (0 : Int32) dX8_isPointCount_15 ki_0 ?_
    cases hf
    exact jEndIZ C hQ rfl nar_z0 dX8_isPointCount_16
  · replace hf := itn hf c1
    refine jIloadn C dX8_isPointCount_5 rfl 0 rfl ?_
    refine jBipush C (7 : Int32) dX8_isPointCount_6 kb_7 ?_
    refine jCmpGt C 15 dX8_isPointCount_8 (by decide) (fun c2 => ?_) (fun c2 => ?_)
    · replace hf := itp hf c2
      refine jIconst C (0 : Int32) dX8_isPointCount_15 ki_0 ?_
      cases hf
      exact jEndIZ C hQ rfl nar_z0 dX8_isPointCount_16
    · replace hf := itn hf c2
      refine jIconst C (1 : Int32) dX8_isPointCount_11 ki_1 ?_
      refine jGoto C 16 dX8_isPointCount_12 (by decide) ?_
      cases hf
      exact jEndIZ C hQ rfl nar_z1 dX8_isPointCount_16
noncomputable def X6_isSign (ctb : Nat → Int32) (ctk : Int32) (cts : Int32) (p1 : Int32) : Option Int32 := (if ctk = (3 : Int32) then gin cts 800 ((if (ctb cts.toNatClampNeg) = p1 then some (1 : Int32) else some (0 : Int32))) else some (0 : Int32))
set_option maxHeartbeats 4000000 in
set_option maxRecDepth 20000 in
theorem X6_isSign_ok {p1 : Int32} {rr : Int32}  (hf : X6_isSign ctb ctk cts p1 = some rr) : MT yX6_isSign cX6_isSign 2 (some .boolean) 0 [.ref (g 31), .int p1] D cy G (cw g cy cP cLo cHi cpl ctb ctl ctf ctp ctk cts cth cob col cso cha chs cbe ctr cgl cgh cll clh cta cme cps cwh cal cah) (cw g cy cP cLo cHi cpl ctb ctl ctf ctp ctk cts cth cob col cso cha chs cbe ctr cgl cgh cll clh cta cme cps cwh cal cah) (some (.int rr)) := by
  refine MT.go (own := RX6) [(0, .ref (g 31)), (1, .int p1)] (by decide) rfl (Nat.le_of_ble_eq_true rfl) rfl (fun p l e s m args below meth c A Q C hQ => ?_)
  unfold X6_isSign at hf
  refine jAloadn C dX6_isSign_0 rfl 0 rfl ?_
  refine gf_RX6_44 C dX6_isSign_1 ?_
  refine jIconst C (3 : Int32) dX6_isSign_4 ki_3 ?_
  refine jCmpNe C 25 dX6_isSign_5 (by decide) (fun c1 => ?_) (fun c1 => ?_)
  · replace hf := itn hf c1
    refine jIconst C (0 : Int32) dX6_isSign_25 ki_0 ?_
    cases hf
    exact jEndIZ C hQ rfl nar_z0 dX6_isSign_26
  · replace hf := itp hf c1
    refine jAloadn C dX6_isSign_8 rfl 0 rfl ?_
    refine gf_RX6_11 C dX6_isSign_9 ?_
    refine jAloadn C dX6_isSign_12 rfl 0 rfl ?_
    refine gf_RX6_37 C dX6_isSign_13 ?_
    obtain ⟨z2, hf⟩ := gin_some hf
    refine al_ctb C z2 dX6_isSign_16 ?_
    refine jIloadn C dX6_isSign_17 rfl 1 rfl ?_
    refine jCmpNe C 25 dX6_isSign_18 (by decide) (fun c3 => ?_) (fun c3 => ?_)
    · replace hf := itn hf c3
      refine jIconst C (0 : Int32) dX6_isSign_25 ki_0 ?_
      cases hf
      exact jEndIZ C hQ rfl nar_z0 dX6_isSign_26
    · replace hf := itp hf c3
      refine jIconst C (1 : Int32) dX6_isSign_21 ki_1 ?_
      refine jGoto C 26 dX6_isSign_22 (by decide) ?_
      cases hf
      exact jEndIZ C hQ rfl nar_z1 dX6_isSign_26
noncomputable def X6_readSet_j95 (cLo : Nat → Int64) (cHi : Nat → Int64) (p1 : Nat) (ctf : Int32) (ctp : Int32) (cts : Int32) (x2_1 : Int32) : Option (Int32 × (Nat → Int64) × (Nat → Int64) × Int32 × Int32) := bd1 (X0_holds cLo cHi p1 x2_1) (fun q3 => (if q3 = (0 : Int32) then bd2 (X0_put cLo cHi p1 x2_1) (fun cLo_6 cHi_7 => some ((1 : Int32), cLo_6, cHi_7, ctf, ctp)) else bd3 (X6_fails (4 : Int32) cts) (fun q9 ctf_10 ctp_11 => gbo q9 (some (q9, cLo, cHi, ctf_10, ctp_11)))))
noncomputable def X6_readSet_h15 (cth : Int32) (cLo : Nat → Int64) (cHi : Nat → Int64) (p1 : Nat) (ctf : Int32) (ctp : Int32) (cts : Int32) (cP : Nat → Int32) (ctb : Nat → Int32) (r26 : Int32 → Int32 → Option (Int32 × (Nat → Int64) × (Nat → Int64) × Int32 × Int32)) (x2_23 : Int32) (x3_24 : Int32) : Option (Int32 × (Nat → Int64) × (Nat → Int64) × Int32 × Int32) := (if cth ≤ x3_24 then X6_readSet_j95 cLo cHi p1 ctf ctp cts x2_23 else gin x3_24 800 ((if (cP p1) ≤ ((ctb x3_24.toNatClampNeg) - (48 : Int32)) then bd3 (X6_fails (3 : Int32) x3_24) (fun q30 ctf_31 ctp_32 => gbo q30 (some (q30, cLo, cHi, ctf_31, ctp_32))) else (if ((x2_23 >>> (((ctb x3_24.toNatClampNeg) - (48 : Int32)) &&& 31)) &&& (1 : Int32)) = (1 : Int32) then bd3 (X6_fails (3 : Int32) x3_24) (fun q36 ctf_37 ctp_38 => gbo q36 (some (q36, cLo, cHi, ctf_37, ctp_38))) else r26 (x2_23 ||| ((1 : Int32) <<< (((ctb x3_24.toNatClampNeg) - (48 : Int32)) &&& 31))) (x3_24 + (1 : Int32))))))
noncomputable def X6_readSet (cP : Nat → Int32) (cLo : Nat → Int64) (cHi : Nat → Int64) (ctb : Nat → Int32) (ctf : Int32) (ctp : Int32) (ctk : Int32) (cts : Int32) (cth : Int32) (p1 : Nat) : Option (Int32 × (Nat → Int64) × (Nat → Int64) × Int32 × Int32) := (if ctk = (2 : Int32) then lfp2 (X6_readSet_h15 cth cLo cHi p1 ctf ctp cts cP ctb) (0 : Int32) cts else bd1 (X6_isWord ctb ctk cts cth 1) (fun q15 => (if q15 = (0 : Int32) then bd3 (X6_fails (1 : Int32) cts) (fun q18 ctf_19 ctp_20 => gbo q18 (some (q18, cLo, cHi, ctf_19, ctp_20))) else X6_readSet_j95 cLo cHi p1 ctf ctp cts (0 : Int32))))
set_option maxHeartbeats 4000000 in
set_option maxRecDepth 20000 in
theorem X6_readSet_ok {p1 : Nat} {rr : Int32} {ocLo : Nat → Int64} {ocHi : Nat → Int64} {octf : Int32} {octp : Int32} (hp1 : p1 < 28) (hf : X6_readSet cP cLo cHi ctb ctf ctp ctk cts cth p1 = some (rr, ocLo, ocHi, octf, octp)) : MT yX6_readSet cX6_readSet 5 (some .boolean) 5 [.ref (g 31), .ref (g p1)] D cy G (cw g cy cP cLo cHi cpl ctb ctl ctf ctp ctk cts cth cob col cso cha chs cbe ctr cgl cgh cll clh cta cme cps cwh cal cah) (cw g cy cP ocLo ocHi cpl ctb ctl octf octp ctk cts cth cob col cso cha chs cbe ctr cgl cgh cll clh cta cme cps cwh cal cah) (some (.int rr)) := by
  refine MT.go (own := RX6) [(0, .ref (g 31)), (1, .ref (g p1))] (by decide) rfl (Nat.le_of_ble_eq_true rfl) rfl (fun p l e s m args below meth c A Q C hQ => ?_)
  unfold X6_readSet at hf
  refine jIconst C (0 : Int32) dX6_readSet_0 ki_0 ?_
  refine jIstoren C dX6_readSet_1 rfl (Nat.le_of_ble_eq_true rfl) [(2, .int (0 : Int32)), (0, .ref (g 31)), (1, .ref (g p1))] rfl ?_
  refine jAloadn C dX6_readSet_2 rfl 1 rfl ?_
  refine gf_RX6_44 C dX6_readSet_3 ?_
  refine jIconst C (2 : Int32) dX6_readSet_6 ki_2 ?_
  have hL2 : ∀ (x2_1 : Int32), X6_readSet_j95 cLo cHi p1 ctf ctp cts x2_1 = some (rr, ocLo, ocHi, octf, octp) → J p l e (rmk 5) s m args below meth c D A Q 5 (cw g cy cP cLo cHi cpl ctb ctl ctf ctp ctk cts cth cob col cso cha chs cbe ctr cgl cgh cll clh cta cme cps cwh cal cah) 95 [(0, .ref (g 31)), (1, .ref (g p1)), (2, .int x2_1)] [] := by
    intro x2_1 hf
    unfold X6_readSet_j95 at hf
    refine jAloadn C dX6_readSet_95 rfl 1 rfl ?_
    refine jIloadn C dX6_readSet_96 rfl 2 rfl ?_
    obtain ⟨q3, e4, hf⟩ := bd1_some hf
    refine jVI C (X0_holds_ok hp1 e4) vb_X0_holds mk_RX6_77 rfl (rcF hp1) ⟨Nat.le_of_ble_eq_true rfl, Nat.le_of_ble_eq_true rfl⟩ rfl (Nat.le_of_ble_eq_true rfl) dX6_readSet_97 ?_
    refine jIfEq C 113 dX6_readSet_100 (by decide) (fun c5 => ?_) (fun c5 => ?_)
    · replace hf := itp hf c5
      refine jAloadn C dX6_readSet_113 rfl 1 rfl ?_
      refine jIloadn C dX6_readSet_114 rfl 2 rfl ?_
      obtain ⟨cLo_6, cHi_7, e8, hf⟩ := bd2_some hf
      refine jVV C (X0_put_ok hp1 e8) vb_X0_put mk_RX6_80 rfl (rcF hp1) ⟨Nat.le_of_ble_eq_true rfl, Nat.le_of_ble_eq_true rfl⟩ rfl (Nat.le_of_ble_eq_true rfl) dX6_readSet_115 ?_
      refine jIconst C (1 : Int32) dX6_readSet_118 ki_1 ?_
      cases hf
      exact jEndIZ C hQ rfl nar_z1 dX6_readSet_119
    · replace hf := itn hf c5
      refine jAloadn C dX6_readSet_103 rfl 0 rfl ?_
      refine jIconst C (4 : Int32) dX6_readSet_104 ki_4 ?_
      refine jAloadn C dX6_readSet_105 rfl 0 rfl ?_
      refine gf_RX6_37 C dX6_readSet_106 ?_
      obtain ⟨q9, ctf_10, ctp_11, e12, hf⟩ := bd3_some hf
      refine jVI C (X6_fails_ok  e12) vb_X6_fails mk_RX6_40 rfl rc31 ⟨Nat.le_of_ble_eq_true rfl, Nat.le_of_ble_eq_true rfl⟩ rfl (Nat.le_of_ble_eq_true rfl) dX6_readSet_109 ?_
      obtain ⟨z13, hf⟩ := gbo_some hf
      cases hf
      exact jEndIZ C hQ rfl z13 dX6_readSet_112
  refine jCmpNe C 76 dX6_readSet_7 (by decide) (fun c14 => ?_) (fun c14 => ?_)
  · replace hf := itn hf c14
    refine jAloadn C dX6_readSet_76 rfl 1 rfl ?_
    refine ls_RX6_75 C dX6_readSet_77 ?_
    obtain ⟨q15, e16, hf⟩ := bd1_some hf
    refine jVI C (X6_isWord_ok (by decide) e16) vb_X6_isWord mk_RX6_33 rfl rc31 ⟨Nat.le_of_ble_eq_true rfl, Nat.le_of_ble_eq_true rfl⟩ rfl (Nat.le_of_ble_eq_true rfl) dX6_readSet_79 ?_
    refine jIfNe C 95 dX6_readSet_82 (by decide) (fun c17 => ?_) (fun c17 => ?_)
    · replace hf := itn hf c17
      refine jSub [1, 2, 0] rfl ?_
      exact hL2 (0 : Int32) hf
    · replace hf := itp hf c17
      refine jAloadn C dX6_readSet_85 rfl 1 rfl ?_
      refine jIconst C (1 : Int32) dX6_readSet_86 ki_1 ?_
      refine jAloadn C dX6_readSet_87 rfl 1 rfl ?_
      refine gf_RX6_37 C dX6_readSet_88 ?_
      obtain ⟨q18, ctf_19, ctp_20, e21, hf⟩ := bd3_some hf
      refine jVI C (X6_fails_ok  e21) vb_X6_fails mk_RX6_40 rfl rc31 ⟨Nat.le_of_ble_eq_true rfl, Nat.le_of_ble_eq_true rfl⟩ rfl (Nat.le_of_ble_eq_true rfl) dX6_readSet_91 ?_
      obtain ⟨z22, hf⟩ := gbo_some hf
      cases hf
      exact jEndIZ C hQ rfl z22 dX6_readSet_94
  · replace hf := itp hf c14
    refine jAloadn C dX6_readSet_10 rfl 1 rfl ?_
    refine gf_RX6_37 C dX6_readSet_11 ?_
    refine jIstoren C dX6_readSet_14 rfl (Nat.le_of_ble_eq_true rfl) [(3, .int cts), (2, .int (0 : Int32)), (0, .ref (g 31)), (1, .ref (g p1))] rfl ?_
    have hL25 : ∀ (x2_23 : Int32) (x3_24 : Int32), lfp2 (X6_readSet_h15 cth cLo cHi p1 ctf ctp cts cP ctb) x2_23 x3_24 = some (rr, ocLo, ocHi, octf, octp) → J p l e (rmk 5) s m args below meth c D A Q 5 (cw g cy cP cLo cHi cpl ctb ctl ctf ctp ctk cts cth cob col cso cha chs cbe ctr cgl cgh cll clh cta cme cps cwh cal cah) 15 [(0, .ref (g 31)), (1, .ref (g p1)), (2, .int x2_23), (3, .int x3_24)] [] := by
      intro x2_23 x3_24 hw
      refine lfp2_walk (P := fun x2_23 x3_24 => J p l e (rmk 5) s m args below meth c D A Q 5 (cw g cy cP cLo cHi cpl ctb ctl ctf ctp ctk cts cth cob col cso cha chs cbe ctr cgl cgh cll clh cta cme cps cwh cal cah) 15 [(0, .ref (g 31)), (1, .ref (g p1)), (2, .int x2_23), (3, .int x3_24)] []) ?_ hw
      intro r26 ir26 x2_23 x3_24 hf
      unfold X6_readSet_h15 at hf
      refine jIloadn C dX6_readSet_15 rfl 3 rfl ?_
      refine jAloadn C dX6_readSet_16 rfl 0 rfl ?_
      refine gf_RX6_25 C dX6_readSet_17 ?_
      refine jCmpGe C 73 dX6_readSet_20 (by decide) (fun c27 => ?_) (fun c27 => ?_)
      · replace hf := itp hf c27
        refine jGoto C 95 dX6_readSet_73 (by decide) ?_
        refine jSub [0, 1, 2] rfl ?_
        exact hL2 x2_23 hf
      · replace hf := itn hf c27
        refine jAloadn C dX6_readSet_23 rfl 0 rfl ?_
        refine gf_RX6_11 C dX6_readSet_24 ?_
        refine jIloadn C dX6_readSet_27 rfl 3 rfl ?_
        obtain ⟨z28, hf⟩ := gin_some hf
        refine al_ctb C z28 dX6_readSet_28 ?_
        refine jBipush C (48 : Int32) dX6_readSet_29 kb_48 ?_
        refine jIsub C dX6_readSet_31 ?_
        refine jIstore C dX6_readSet_32 (Nat.le_of_ble_eq_true rfl) [(4, .int ((ctb x3_24.toNatClampNeg) - (48 : Int32))), (0, .ref (g 31)), (1, .ref (g p1)), (2, .int x2_23), (3, .int x3_24)] rfl ?_
        refine jIload C dX6_readSet_34 0 rfl ?_
        refine jAloadn C dX6_readSet_36 rfl 2 rfl ?_
        refine gf_RX6_72 C hp1 dX6_readSet_37 ?_
        refine jCmpGe C 53 dX6_readSet_40 (by decide) (fun c29 => ?_) (fun c29 => ?_)
        · replace hf := itp hf c29
          refine jAloadn C dX6_readSet_53 rfl 1 rfl ?_
          refine jIconst C (3 : Int32) dX6_readSet_54 ki_3 ?_
          refine jIloadn C dX6_readSet_55 rfl 4 rfl ?_
          obtain ⟨q30, ctf_31, ctp_32, e33, hf⟩ := bd3_some hf
          refine jVI C (X6_fails_ok  e33) vb_X6_fails mk_RX6_40 rfl rc31 ⟨Nat.le_of_ble_eq_true rfl, Nat.le_of_ble_eq_true rfl⟩ rfl (Nat.le_of_ble_eq_true rfl) dX6_readSet_56 ?_
          obtain ⟨z34, hf⟩ := gbo_some hf
          cases hf
          exact jEndIZ C hQ rfl z34 dX6_readSet_59
        · replace hf := itn hf c29
          refine jIloadn C dX6_readSet_43 rfl 3 rfl ?_
          refine jIload C dX6_readSet_44 0 rfl ?_
          refine jIshr C dX6_readSet_46 ?_
          refine jIconst C (1 : Int32) dX6_readSet_47 ki_1 ?_
          refine jIand C dX6_readSet_48 ?_
          refine jIconst C (1 : Int32) dX6_readSet_49 ki_1 ?_
          refine jCmpNe C 60 dX6_readSet_50 (by decide) (fun c35 => ?_) (fun c35 => ?_)
          · replace hf := itn hf c35
            refine jIloadn C dX6_readSet_60 rfl 3 rfl ?_
            refine jIconst C (1 : Int32) dX6_readSet_61 ki_1 ?_
            refine jIload C dX6_readSet_62 0 rfl ?_
            refine jIshl C dX6_readSet_64 ?_
            refine jIor C dX6_readSet_65 ?_
            refine jIstoren C dX6_readSet_66 rfl (Nat.le_of_ble_eq_true rfl) [(2, .int (x2_23 ||| ((1 : Int32) <<< (((ctb x3_24.toNatClampNeg) - (48 : Int32)) &&& 31)))), (4, .int ((ctb x3_24.toNatClampNeg) - (48 : Int32))), (0, .ref (g 31)), (1, .ref (g p1)), (3, .int x3_24)] rfl ?_
            refine jIinc C (x3_24 + (1 : Int32)) dX6_readSet_67 4 rfl (congrArg (fun z : Int32 => x3_24 + z) ki_1) (Nat.le_of_ble_eq_true rfl) [(3, .int (x3_24 + (1 : Int32))), (2, .int (x2_23 ||| ((1 : Int32) <<< (((ctb x3_24.toNatClampNeg) - (48 : Int32)) &&& 31)))), (4, .int ((ctb x3_24.toNatClampNeg) - (48 : Int32))), (0, .ref (g 31)), (1, .ref (g p1))] rfl ?_
            refine jGoto C 15 dX6_readSet_70 (by decide) ?_
            refine jSub [3, 4, 1, 0] rfl ?_
            exact ir26 (x2_23 ||| ((1 : Int32) <<< (((ctb x3_24.toNatClampNeg) - (48 : Int32)) &&& 31))) (x3_24 + (1 : Int32)) hf
          · replace hf := itp hf c35
            refine jAloadn C dX6_readSet_53 rfl 1 rfl ?_
            refine jIconst C (3 : Int32) dX6_readSet_54 ki_3 ?_
            refine jIloadn C dX6_readSet_55 rfl 4 rfl ?_
            obtain ⟨q36, ctf_37, ctp_38, e39, hf⟩ := bd3_some hf
            refine jVI C (X6_fails_ok  e39) vb_X6_fails mk_RX6_40 rfl rc31 ⟨Nat.le_of_ble_eq_true rfl, Nat.le_of_ble_eq_true rfl⟩ rfl (Nat.le_of_ble_eq_true rfl) dX6_readSet_56 ?_
            obtain ⟨z40, hf⟩ := gbo_some hf
            cases hf
            exact jEndIZ C hQ rfl z40 dX6_readSet_59
    refine jSub [2, 3, 1, 0] rfl ?_
    exact hL25 (0 : Int32) cts hf
noncomputable def X6_readSets_h2 (ctb : Nat → Int32) (ctl : Int32) (cP : Nat → Int32) (p1 : Nat) (r10 : Int32 → (Nat → Int64) → (Nat → Int64) → Int32 → Int32 → Int32 → Int32 → Int32 → Option (Int32 × (Nat → Int64) × (Nat → Int64) × Int32 × Int32 × Int32 × Int32 × Int32)) (x2_1 : Int32) (cLo_2 : Nat → Int64) (cHi_3 : Nat → Int64) (ctf_4 : Int32) (ctp_5 : Int32) (ctk_6 : Int32) (cts_7 : Int32) (cth_8 : Int32) : Option (Int32 × (Nat → Int64) × (Nat → Int64) × Int32 × Int32 × Int32 × Int32 × Int32) := (if (800 : Int32) ≤ x2_1 then some ((1 : Int32), cLo_2, cHi_3, ctf_4, ctp_5, ctk_6, cts_7, cth_8) else bd3 (X6_advance ctb ctl cth_8) (fun ctk_12 cts_13 cth_14 => bd5 (X6_readSet cP cLo_2 cHi_3 ctb ctf_4 ctp_5 ctk_12 cts_13 cth_14 p1) (fun q16 cLo_17 cHi_18 ctf_19 ctp_20 => (if q16 = (0 : Int32) then some ((0 : Int32), cLo_17, cHi_18, ctf_19, ctp_20, ctk_12, cts_13, cth_14) else bd3 (X6_advance ctb ctl cth_14) (fun ctk_23 cts_24 cth_25 => bd1 (X6_isSign ctb ctk_23 cts_24 (44 : Int32)) (fun q27 => (if q27 = (0 : Int32) then some ((1 : Int32), cLo_17, cHi_18, ctf_19, ctp_20, ctk_23, cts_24, cth_25) else r10 (x2_1 + (1 : Int32)) cLo_17 cHi_18 ctf_19 ctp_20 ctk_23 cts_24 cth_25)))))))
noncomputable def X6_readSets (cP : Nat → Int32) (cLo : Nat → Int64) (cHi : Nat → Int64) (ctb : Nat → Int32) (ctl : Int32) (ctf : Int32) (ctp : Int32) (ctk : Int32) (cts : Int32) (cth : Int32) (p1 : Nat) : Option (Int32 × (Nat → Int64) × (Nat → Int64) × Int32 × Int32 × Int32 × Int32 × Int32) := lfp8 (X6_readSets_h2 ctb ctl cP p1) (0 : Int32) cLo cHi ctf ctp ctk cts cth
set_option maxHeartbeats 4000000 in
set_option maxRecDepth 20000 in
theorem X6_readSets_ok {p1 : Nat} {rr : Int32} {ocLo : Nat → Int64} {ocHi : Nat → Int64} {octf : Int32} {octp : Int32} {octk : Int32} {octs : Int32} {octh : Int32} (hp1 : p1 < 28) (hf : X6_readSets cP cLo cHi ctb ctl ctf ctp ctk cts cth p1 = some (rr, ocLo, ocHi, octf, octp, octk, octs, octh)) : MT yX6_readSets cX6_readSets 3 (some .boolean) 6 [.ref (g 31), .ref (g p1)] D cy G (cw g cy cP cLo cHi cpl ctb ctl ctf ctp ctk cts cth cob col cso cha chs cbe ctr cgl cgh cll clh cta cme cps cwh cal cah) (cw g cy cP ocLo ocHi cpl ctb ctl octf octp octk octs octh cob col cso cha chs cbe ctr cgl cgh cll clh cta cme cps cwh cal cah) (some (.int rr)) := by
  refine MT.go (own := RX6) [(0, .ref (g 31)), (1, .ref (g p1))] (by decide) rfl (Nat.le_of_ble_eq_true rfl) rfl (fun p l e s m args below meth c A Q C hQ => ?_)
  unfold X6_readSets at hf
  refine jIconst C (0 : Int32) dX6_readSets_0 ki_0 ?_
  refine jIstoren C dX6_readSets_1 rfl (Nat.le_of_ble_eq_true rfl) [(2, .int (0 : Int32)), (0, .ref (g 31)), (1, .ref (g p1))] rfl ?_
  have hL9 : ∀ (x2_1 : Int32) (cLo_2 : Nat → Int64) (cHi_3 : Nat → Int64) (ctf_4 : Int32) (ctp_5 : Int32) (ctk_6 : Int32) (cts_7 : Int32) (cth_8 : Int32), lfp8 (X6_readSets_h2 ctb ctl cP p1) x2_1 cLo_2 cHi_3 ctf_4 ctp_5 ctk_6 cts_7 cth_8 = some (rr, ocLo, ocHi, octf, octp, octk, octs, octh) → J p l e (rmk 6) s m args below meth c D A Q 3 (cw g cy cP cLo_2 cHi_3 cpl ctb ctl ctf_4 ctp_5 ctk_6 cts_7 cth_8 cob col cso cha chs cbe ctr cgl cgh cll clh cta cme cps cwh cal cah) 2 [(0, .ref (g 31)), (1, .ref (g p1)), (2, .int x2_1)] [] := by
    intro x2_1 cLo_2 cHi_3 ctf_4 ctp_5 ctk_6 cts_7 cth_8 hw
    refine lfp8_walk (P := fun x2_1 cLo_2 cHi_3 ctf_4 ctp_5 ctk_6 cts_7 cth_8 => J p l e (rmk 6) s m args below meth c D A Q 3 (cw g cy cP cLo_2 cHi_3 cpl ctb ctl ctf_4 ctp_5 ctk_6 cts_7 cth_8 cob col cso cha chs cbe ctr cgl cgh cll clh cta cme cps cwh cal cah) 2 [(0, .ref (g 31)), (1, .ref (g p1)), (2, .int x2_1)] []) ?_ hw
    intro r10 ir10 x2_1 cLo_2 cHi_3 ctf_4 ctp_5 ctk_6 cts_7 cth_8 hf
    unfold X6_readSets_h2 at hf
    refine jIloadn C dX6_readSets_2 rfl 2 rfl ?_
    refine jSipush C (800 : Int32) dX6_readSets_3 ks_800 ?_
    refine jCmpGe C 45 dX6_readSets_6 (by decide) (fun c11 => ?_) (fun c11 => ?_)
    · replace hf := itp hf c11
      refine jIconst C (1 : Int32) dX6_readSets_45 ki_1 ?_
      cases hf
      exact jEndIZ C hQ rfl nar_z1 dX6_readSets_46
    · replace hf := itn hf c11
      refine jAloadn C dX6_readSets_9 rfl 0 rfl ?_
      obtain ⟨ctk_12, cts_13, cth_14, e15, hf⟩ := bd3_some hf
      refine jVV C (X6_advance_ok  e15) vb_X6_advance mk_RX6_28 rfl rc31 ⟨Nat.le_of_ble_eq_true rfl, Nat.le_of_ble_eq_true rfl⟩ rfl (Nat.le_of_ble_eq_true rfl) dX6_readSets_10 ?_
      refine jAloadn C dX6_readSets_13 rfl 0 rfl ?_
      refine jAloadn C dX6_readSets_14 rfl 1 rfl ?_
      obtain ⟨q16, cLo_17, cHi_18, ctf_19, ctp_20, e21, hf⟩ := bd5_some hf
      refine jVI C (X6_readSet_ok hp1 e21) vb_X6_readSet mk_RX6_69 rfl rc31 ⟨Nat.le_of_ble_eq_true rfl, Nat.le_of_ble_eq_true rfl⟩ rfl (Nat.le_of_ble_eq_true rfl) dX6_readSets_15 ?_
      refine jIfNe C 23 dX6_readSets_18 (by decide) (fun c22 => ?_) (fun c22 => ?_)
      · replace hf := itn hf c22
        refine jAloadn C dX6_readSets_23 rfl 0 rfl ?_
        obtain ⟨ctk_23, cts_24, cth_25, e26, hf⟩ := bd3_some hf
        refine jVV C (X6_advance_ok  e26) vb_X6_advance mk_RX6_28 rfl rc31 ⟨Nat.le_of_ble_eq_true rfl, Nat.le_of_ble_eq_true rfl⟩ rfl (Nat.le_of_ble_eq_true rfl) dX6_readSets_24 ?_
        refine jAloadn C dX6_readSets_27 rfl 0 rfl ?_
        refine jBipush C (44 : Int32) dX6_readSets_28 kb_44 ?_
        obtain ⟨q27, e28, hf⟩ := bd1_some hf
        refine jVI C (X6_isSign_ok  e28) vb_X6_isSign mk_RX6_61 rfl rc31 ⟨Nat.le_of_ble_eq_true rfl, Nat.le_of_ble_eq_true rfl⟩ rfl (Nat.le_of_ble_eq_true rfl) dX6_readSets_30 ?_
        refine jIfNe C 39 dX6_readSets_33 (by decide) (fun c29 => ?_) (fun c29 => ?_)
        · replace hf := itn hf c29
          refine jIinc C (x2_1 + (1 : Int32)) dX6_readSets_39 2 rfl (congrArg (fun z : Int32 => x2_1 + z) ki_1) (Nat.le_of_ble_eq_true rfl) [(2, .int (x2_1 + (1 : Int32))), (0, .ref (g 31)), (1, .ref (g p1))] rfl ?_
          refine jGoto C 2 dX6_readSets_42 (by decide) ?_
          refine jSub [1, 2, 0] rfl ?_
          exact ir10 (x2_1 + (1 : Int32)) cLo_17 cHi_18 ctf_19 ctp_20 ctk_23 cts_24 cth_25 hf
        · replace hf := itp hf c29
          refine jGoto C 45 dX6_readSets_36 (by decide) ?_
          refine jIconst C (1 : Int32) dX6_readSets_45 ki_1 ?_
          cases hf
          exact jEndIZ C hQ rfl nar_z1 dX6_readSets_46
      · replace hf := itp hf c22
        refine jIconst C (0 : Int32) dX6_readSets_21 ki_0 ?_
        cases hf
        exact jEndIZ C hQ rfl nar_z0 dX6_readSets_22
  refine jSub [1, 2, 0] rfl ?_
  exact hL9 (0 : Int32) cLo cHi ctf ctp ctk cts cth hf
noncomputable def X6_read_j110 (ctb : Nat → Int32) (cP_18 : Nat → Int32) (ctl : Int32) (cLo_28 : Nat → Int64) (cHi_29 : Nat → Int64) (ctf_30 : Int32) (ctp_31 : Int32) (ctk_32 : Int32) (cts_33 : Int32) (cth_34 : Int32) : Option (Int32 × (Nat → Int32) × (Nat → Int64) × (Nat → Int64) × Int32 × Int32 × Int32 × Int32 × Int32) := bd1 (X6_isSign ctb ctk_32 cts_33 (59 : Int32)) (fun q36 => (if q36 = (0 : Int32) then bd3 (X6_fails (1 : Int32) cts_33) (fun q49 ctf_50 ctp_51 => gbo q49 (some (q49, cP_18, cLo_28, cHi_29, ctf_50, ctp_51, ctk_32, cts_33, cth_34))) else bd3 (X6_advance ctb ctl cth_34) (fun ctk_39 cts_40 cth_41 => (if ctk_39 = (0 : Int32) then some ((1 : Int32), cP_18, cLo_28, cHi_29, ctf_30, ctp_31, ctk_39, cts_40, cth_41) else bd3 (X6_fails (1 : Int32) cts_40) (fun q44 ctf_45 ctp_46 => (if q44 = (0 : Int32) then some ((0 : Int32), cP_18, cLo_28, cHi_29, ctf_45, ctp_46, ctk_39, cts_40, cth_41) else some ((1 : Int32), cP_18, cLo_28, cHi_29, ctf_45, ctp_46, ctk_39, cts_40, cth_41)))))))
noncomputable def X6_read (cP : Nat → Int32) (cLo : Nat → Int64) (cHi : Nat → Int64) (ctb : Nat → Int32) (ctl : Int32) (p1 : Nat) : Option (Int32 × (Nat → Int32) × (Nat → Int64) × (Nat → Int64) × Int32 × Int32 × Int32 × Int32 × Int32) := bd3 (X6_advance ctb ctl (0 : Int32)) (fun ctk_1 cts_2 cth_3 => bd1 (X6_isWord ctb ctk_1 cts_2 cth_3 0) (fun q5 => (if q5 = (0 : Int32) then bd3 (X6_fails (1 : Int32) cts_2) (fun q75 ctf_76 ctp_77 => gbo q75 (some (q75, cP, cLo, cHi, ctf_76, ctp_77, ctk_1, cts_2, cth_3))) else bd3 (X6_advance ctb ctl cth_3) (fun ctk_8 cts_9 cth_10 => (if ctk_8 = (2 : Int32) then bd1 (X6_number ctb cts_9 cth_10) (fun q13 => bd1 (X8_isPointCount q13) (fun q15 => (if q15 = (0 : Int32) then bd3 (X6_fails (2 : Int32) cts_9) (fun q65 ctf_66 ctp_67 => gbo q65 (some (q65, cP, cLo, cHi, ctf_66, ctp_67, ctk_8, cts_9, cth_10))) else bd3 (X0_clear cP cLo cHi p1 q13) (fun cP_18 cLo_19 cHi_20 => bd3 (X6_advance ctb ctl cth_10) (fun ctk_22 cts_23 cth_24 => bd1 (X6_isSign ctb ctk_22 cts_23 (58 : Int32)) (fun q26 => (if q26 = (0 : Int32) then X6_read_j110 ctb cP_18 ctl cLo_19 cHi_20 (0 : Int32) (-1 : Int32) ctk_22 cts_23 cth_24 else bd8 (X6_readSets cP_18 cLo_19 cHi_20 ctb ctl (0 : Int32) (-1 : Int32) ctk_22 cts_23 cth_24 p1) (fun q55 cLo_56 cHi_57 ctf_58 ctp_59 ctk_60 cts_61 cth_62 => (if q55 = (0 : Int32) then some ((0 : Int32), cP_18, cLo_56, cHi_57, ctf_58, ctp_59, ctk_60, cts_61, cth_62) else X6_read_j110 ctb cP_18 ctl cLo_56 cHi_57 ctf_58 ctp_59 ctk_60 cts_61 cth_62))))))))) else bd3 (X6_fails (1 : Int32) cts_9) (fun q70 ctf_71 ctp_72 => gbo q70 (some (q70, cP, cLo, cHi, ctf_71, ctp_72, ctk_8, cts_9, cth_10))))))))
set_option maxHeartbeats 4000000 in
set_option maxRecDepth 20000 in
theorem X6_read_ok {p1 : Nat} {rr : Int32} {ocP : Nat → Int32} {ocLo : Nat → Int64} {ocHi : Nat → Int64} {octf : Int32} {octp : Int32} {octk : Int32} {octs : Int32} {octh : Int32} (hp1 : p1 < 28) (hf : X6_read cP cLo cHi ctb ctl p1 = some (rr, ocP, ocLo, ocHi, octf, octp, octk, octs, octh)) : MT yX6_read cX6_read 3 (some .boolean) 7 [.ref (g 31), .ref (g p1)] D cy G (cw g cy cP cLo cHi cpl ctb ctl ctf ctp ctk cts cth cob col cso cha chs cbe ctr cgl cgh cll clh cta cme cps cwh cal cah) (cw g cy ocP ocLo ocHi cpl ctb ctl octf octp octk octs octh cob col cso cha chs cbe ctr cgl cgh cll clh cta cme cps cwh cal cah) (some (.int rr)) := by
  refine MT.go (own := RX6) [(0, .ref (g 31)), (1, .ref (g p1))] (by decide) rfl (Nat.le_of_ble_eq_true rfl) rfl (fun p l e s m args below meth c A Q C hQ => ?_)
  unfold X6_read at hf
  refine jAloadn C dX6_read_0 rfl 0 rfl ?_
  refine jIconst C (0 : Int32) dX6_read_1 ki_0 ?_
  refine pf_RX6_22 C dX6_read_2 ?_
  refine jAloadn C dX6_read_5 rfl 0 rfl ?_
  refine jIconst C (-1 : Int32) dX6_read_6 ki_m1 ?_
  refine pf_RX6_15 C dX6_read_7 ?_
  refine jAloadn C dX6_read_10 rfl 0 rfl ?_
  refine jIconst C (0 : Int32) dX6_read_11 ki_0 ?_
  refine pf_RX6_25 C dX6_read_12 ?_
  refine jAloadn C dX6_read_15 rfl 0 rfl ?_
  obtain ⟨ctk_1, cts_2, cth_3, e4, hf⟩ := bd3_some hf
  refine jVV C (X6_advance_ok  e4) vb_X6_advance mk_RX6_28 rfl rc31 ⟨Nat.le_of_ble_eq_true rfl, Nat.le_of_ble_eq_true rfl⟩ rfl (Nat.le_of_ble_eq_true rfl) dX6_read_16 ?_
  refine jAloadn C dX6_read_19 rfl 0 rfl ?_
  refine ls_RX6_31 C dX6_read_20 ?_
  obtain ⟨q5, e6, hf⟩ := bd1_some hf
  refine jVI C (X6_isWord_ok (by decide) e6) vb_X6_isWord mk_RX6_33 rfl rc31 ⟨Nat.le_of_ble_eq_true rfl, Nat.le_of_ble_eq_true rfl⟩ rfl (Nat.le_of_ble_eq_true rfl) dX6_read_22 ?_
  refine jIfNe C 38 dX6_read_25 (by decide) (fun c7 => ?_) (fun c7 => ?_)
  · replace hf := itn hf c7
    refine jAloadn C dX6_read_38 rfl 0 rfl ?_
    obtain ⟨ctk_8, cts_9, cth_10, e11, hf⟩ := bd3_some hf
    refine jVV C (X6_advance_ok  e11) vb_X6_advance mk_RX6_28 rfl rc31 ⟨Nat.le_of_ble_eq_true rfl, Nat.le_of_ble_eq_true rfl⟩ rfl (Nat.le_of_ble_eq_true rfl) dX6_read_39 ?_
    refine jAloadn C dX6_read_42 rfl 0 rfl ?_
    refine gf_RX6_44 C dX6_read_43 ?_
    refine jIconst C (2 : Int32) dX6_read_46 ki_2 ?_
    refine jCmpEq C 60 dX6_read_47 (by decide) (fun c12 => ?_) (fun c12 => ?_)
    · replace hf := itp hf c12
      refine jAloadn C dX6_read_60 rfl 0 rfl ?_
      obtain ⟨q13, e14, hf⟩ := bd1_some hf
      refine jVI C (X6_number_ok  e14) vb_X6_number mk_RX6_47 rfl rc31 ⟨Nat.le_of_ble_eq_true rfl, Nat.le_of_ble_eq_true rfl⟩ rfl (Nat.le_of_ble_eq_true rfl) dX6_read_61 ?_
      refine jIstoren C dX6_read_64 rfl (Nat.le_of_ble_eq_true rfl) [(2, .int q13), (0, .ref (g 31)), (1, .ref (g p1))] rfl ?_
      refine jIloadn C dX6_read_65 rfl 0 rfl ?_
      obtain ⟨q15, e16, hf⟩ := bd1_some hf
      refine jSNI C (X8_isPointCount_ok  e16) sb_X8_isPointCount (List.mem_of_getElem? (i := 7) rfl) rfl ⟨Nat.le_of_ble_eq_true rfl, Nat.le_of_ble_eq_true rfl⟩ rfl (Nat.le_of_ble_eq_true rfl) dX6_read_66 ?_
      refine jIfNe C 82 dX6_read_69 (by decide) (fun c17 => ?_) (fun c17 => ?_)
      · replace hf := itn hf c17
        refine jAloadn C dX6_read_82 rfl 2 rfl ?_
        refine jIloadn C dX6_read_83 rfl 0 rfl ?_
        obtain ⟨cP_18, cLo_19, cHi_20, e21, hf⟩ := bd3_some hf
        refine jVV C (X0_clear_ok hp1 e21) vb_X0_clear mk_RX6_55 rfl (rcF hp1) ⟨Nat.le_of_ble_eq_true rfl, Nat.le_of_ble_eq_true rfl⟩ rfl (Nat.le_of_ble_eq_true rfl) dX6_read_84 ?_
        refine jAloadn C dX6_read_87 rfl 1 rfl ?_
        obtain ⟨ctk_22, cts_23, cth_24, e25, hf⟩ := bd3_some hf
        refine jVV C (X6_advance_ok  e25) vb_X6_advance mk_RX6_28 rfl rc31 ⟨Nat.le_of_ble_eq_true rfl, Nat.le_of_ble_eq_true rfl⟩ rfl (Nat.le_of_ble_eq_true rfl) dX6_read_88 ?_
        refine jAloadn C dX6_read_91 rfl 1 rfl ?_
        refine jBipush C (58 : Int32) dX6_read_92 kb_58 ?_
        obtain ⟨q26, e27, hf⟩ := bd1_some hf
        refine jVI C (X6_isSign_ok  e27) vb_X6_isSign mk_RX6_61 rfl rc31 ⟨Nat.le_of_ble_eq_true rfl, Nat.le_of_ble_eq_true rfl⟩ rfl (Nat.le_of_ble_eq_true rfl) dX6_read_94 ?_
        have hL35 : ∀ (cLo_28 : Nat → Int64) (cHi_29 : Nat → Int64) (ctf_30 : Int32) (ctp_31 : Int32) (ctk_32 : Int32) (cts_33 : Int32) (cth_34 : Int32), X6_read_j110 ctb cP_18 ctl cLo_28 cHi_29 ctf_30 ctp_31 ctk_32 cts_33 cth_34 = some (rr, ocP, ocLo, ocHi, octf, octp, octk, octs, octh) → J p l e (rmk 7) s m args below meth c D A Q 3 (cw g cy cP_18 cLo_28 cHi_29 cpl ctb ctl ctf_30 ctp_31 ctk_32 cts_33 cth_34 cob col cso cha chs cbe ctr cgl cgh cll clh cta cme cps cwh cal cah) 110 [(0, .ref (g 31))] [] := by
          intro cLo_28 cHi_29 ctf_30 ctp_31 ctk_32 cts_33 cth_34 hf
          unfold X6_read_j110 at hf
          refine jAloadn C dX6_read_110 rfl 0 rfl ?_
          refine jBipush C (59 : Int32) dX6_read_111 kb_59 ?_
          obtain ⟨q36, e37, hf⟩ := bd1_some hf
          refine jVI C (X6_isSign_ok  e37) vb_X6_isSign mk_RX6_61 rfl rc31 ⟨Nat.le_of_ble_eq_true rfl, Nat.le_of_ble_eq_true rfl⟩ rfl (Nat.le_of_ble_eq_true rfl) dX6_read_113 ?_
          refine jIfNe C 129 dX6_read_116 (by decide) (fun c38 => ?_) (fun c38 => ?_)
          · replace hf := itn hf c38
            refine jAloadn C dX6_read_129 rfl 0 rfl ?_
            obtain ⟨ctk_39, cts_40, cth_41, e42, hf⟩ := bd3_some hf
            refine jVV C (X6_advance_ok  e42) vb_X6_advance mk_RX6_28 rfl rc31 ⟨Nat.le_of_ble_eq_true rfl, Nat.le_of_ble_eq_true rfl⟩ rfl (Nat.le_of_ble_eq_true rfl) dX6_read_130 ?_
            refine jAloadn C dX6_read_133 rfl 0 rfl ?_
            refine gf_RX6_44 C dX6_read_134 ?_
            refine jIfEq C 152 dX6_read_137 (by decide) (fun c43 => ?_) (fun c43 => ?_)
            · replace hf := itp hf c43
              refine jIconst C (1 : Int32) dX6_read_152 ki_1 ?_
              refine jGoto C 157 dX6_read_153 (by decide) ?_
              cases hf
              exact jEndIZ C hQ rfl nar_z1 dX6_read_157
            · replace hf := itn hf c43
              refine jAloadn C dX6_read_140 rfl 0 rfl ?_
              refine jIconst C (1 : Int32) dX6_read_141 ki_1 ?_
              refine jAloadn C dX6_read_142 rfl 0 rfl ?_
              refine gf_RX6_37 C dX6_read_143 ?_
              obtain ⟨q44, ctf_45, ctp_46, e47, hf⟩ := bd3_some hf
              refine jVI C (X6_fails_ok  e47) vb_X6_fails mk_RX6_40 rfl rc31 ⟨Nat.le_of_ble_eq_true rfl, Nat.le_of_ble_eq_true rfl⟩ rfl (Nat.le_of_ble_eq_true rfl) dX6_read_146 ?_
              refine jIfEq C 156 dX6_read_149 (by decide) (fun c48 => ?_) (fun c48 => ?_)
              · replace hf := itp hf c48
                refine jIconst C (0 : Int32) dX6_read_156 ki_0 ?_
                cases hf
                exact jEndIZ C hQ rfl nar_z0 dX6_read_157
              · replace hf := itn hf c48
                refine jIconst C (1 : Int32) dX6_read_152 ki_1 ?_
                refine jGoto C 157 dX6_read_153 (by decide) ?_
                cases hf
                exact jEndIZ C hQ rfl nar_z1 dX6_read_157
          · replace hf := itp hf c38
            refine jAloadn C dX6_read_119 rfl 0 rfl ?_
            refine jIconst C (1 : Int32) dX6_read_120 ki_1 ?_
            refine jAloadn C dX6_read_121 rfl 0 rfl ?_
            refine gf_RX6_37 C dX6_read_122 ?_
            obtain ⟨q49, ctf_50, ctp_51, e52, hf⟩ := bd3_some hf
            refine jVI C (X6_fails_ok  e52) vb_X6_fails mk_RX6_40 rfl rc31 ⟨Nat.le_of_ble_eq_true rfl, Nat.le_of_ble_eq_true rfl⟩ rfl (Nat.le_of_ble_eq_true rfl) dX6_read_125 ?_
            obtain ⟨z53, hf⟩ := gbo_some hf
            cases hf
            exact jEndIZ C hQ rfl z53 dX6_read_128
        refine jIfEq C 110 dX6_read_97 (by decide) (fun c54 => ?_) (fun c54 => ?_)
        · replace hf := itp hf c54
          refine jSub [1] rfl ?_
          exact hL35 cLo_19 cHi_20 (0 : Int32) (-1 : Int32) ctk_22 cts_23 cth_24 hf
        · replace hf := itn hf c54
          refine jAloadn C dX6_read_100 rfl 1 rfl ?_
          refine jAloadn C dX6_read_101 rfl 2 rfl ?_
          obtain ⟨q55, cLo_56, cHi_57, ctf_58, ctp_59, ctk_60, cts_61, cth_62, e63, hf⟩ := bd8_some hf
          refine jVI C (X6_readSets_ok hp1 e63) vb_X6_readSets mk_RX6_65 rfl rc31 ⟨Nat.le_of_ble_eq_true rfl, Nat.le_of_ble_eq_true rfl⟩ rfl (Nat.le_of_ble_eq_true rfl) dX6_read_102 ?_
          refine jIfNe C 110 dX6_read_105 (by decide) (fun c64 => ?_) (fun c64 => ?_)
          · replace hf := itn hf c64
            refine jSub [1] rfl ?_
            exact hL35 cLo_56 cHi_57 ctf_58 ctp_59 ctk_60 cts_61 cth_62 hf
          · replace hf := itp hf c64
            refine jIconst C (0 : Int32) dX6_read_108 ki_0 ?_
            cases hf
            exact jEndIZ C hQ rfl nar_z0 dX6_read_109
      · replace hf := itp hf c17
        refine jAloadn C dX6_read_72 rfl 1 rfl ?_
        refine jIconst C (2 : Int32) dX6_read_73 ki_2 ?_
        refine jAloadn C dX6_read_74 rfl 1 rfl ?_
        refine gf_RX6_37 C dX6_read_75 ?_
        obtain ⟨q65, ctf_66, ctp_67, e68, hf⟩ := bd3_some hf
        refine jVI C (X6_fails_ok  e68) vb_X6_fails mk_RX6_40 rfl rc31 ⟨Nat.le_of_ble_eq_true rfl, Nat.le_of_ble_eq_true rfl⟩ rfl (Nat.le_of_ble_eq_true rfl) dX6_read_78 ?_
        obtain ⟨z69, hf⟩ := gbo_some hf
        cases hf
        exact jEndIZ C hQ rfl z69 dX6_read_81
    · replace hf := itn hf c12
      refine jAloadn C dX6_read_50 rfl 0 rfl ?_
      refine jIconst C (1 : Int32) dX6_read_51 ki_1 ?_
      refine jAloadn C dX6_read_52 rfl 0 rfl ?_
      refine gf_RX6_37 C dX6_read_53 ?_
      obtain ⟨q70, ctf_71, ctp_72, e73, hf⟩ := bd3_some hf
      refine jVI C (X6_fails_ok  e73) vb_X6_fails mk_RX6_40 rfl rc31 ⟨Nat.le_of_ble_eq_true rfl, Nat.le_of_ble_eq_true rfl⟩ rfl (Nat.le_of_ble_eq_true rfl) dX6_read_56 ?_
      obtain ⟨z74, hf⟩ := gbo_some hf
      cases hf
      exact jEndIZ C hQ rfl z74 dX6_read_59
  · replace hf := itp hf c7
    refine jAloadn C dX6_read_28 rfl 0 rfl ?_
    refine jIconst C (1 : Int32) dX6_read_29 ki_1 ?_
    refine jAloadn C dX6_read_30 rfl 0 rfl ?_
    refine gf_RX6_37 C dX6_read_31 ?_
    obtain ⟨q75, ctf_76, ctp_77, e78, hf⟩ := bd3_some hf
    refine jVI C (X6_fails_ok  e78) vb_X6_fails mk_RX6_40 rfl rc31 ⟨Nat.le_of_ble_eq_true rfl, Nat.le_of_ble_eq_true rfl⟩ rfl (Nat.le_of_ble_eq_true rfl) dX6_read_34 ?_
    obtain ⟨z79, hf⟩ := gbo_some hf
    cases hf
    exact jEndIZ C hQ rfl z79 dX6_read_37
noncomputable def X7_byteAt (cob : Nat → Int32) (col : Int32) (p1 : Int32) : Option Int32 := (if p1 < (0 : Int32) then some (-1 : Int32) else (if col ≤ p1 then some (-1 : Int32) else gin p1 640 (some (cob p1.toNatClampNeg))))
set_option maxHeartbeats 4000000 in
set_option maxRecDepth 20000 in
theorem X7_byteAt_ok {p1 : Int32} {rr : Int32}  (hf : X7_byteAt cob col p1 = some rr) : MT yX7_byteAt cX7_byteAt 2 (some .int) 0 [.ref (g 33), .int p1] D cy G (cw g cy cP cLo cHi cpl ctb ctl ctf ctp ctk cts cth cob col cso cha chs cbe ctr cgl cgh cll clh cta cme cps cwh cal cah) (cw g cy cP cLo cHi cpl ctb ctl ctf ctp ctk cts cth cob col cso cha chs cbe ctr cgl cgh cll clh cta cme cps cwh cal cah) (some (.int rr)) := by
  refine MT.go (own := RX7) [(0, .ref (g 33)), (1, .int p1)] (by decide) rfl (Nat.le_of_ble_eq_true rfl) rfl (fun p l e s m args below meth c A Q C hQ => ?_)
  unfold X7_byteAt at hf
  refine jIloadn C dX7_byteAt_0 rfl 1 rfl ?_
  refine jIfLt C 21 dX7_byteAt_1 (by decide) (fun c1 => ?_) (fun c1 => ?_)
  · replace hf := itp hf c1
    refine jIconst C (-1 : Int32) dX7_byteAt_21 ki_m1 ?_
    cases hf
    exact jEndI C hQ rfl dX7_byteAt_22
  · replace hf := itn hf c1
    refine jIloadn C dX7_byteAt_4 rfl 1 rfl ?_
    refine jAloadn C dX7_byteAt_5 rfl 0 rfl ?_
    refine gf_RX7_15 C dX7_byteAt_6 ?_
    refine jCmpGe C 21 dX7_byteAt_9 (by decide) (fun c2 => ?_) (fun c2 => ?_)
    · replace hf := itp hf c2
      refine jIconst C (-1 : Int32) dX7_byteAt_21 ki_m1 ?_
      cases hf
      exact jEndI C hQ rfl dX7_byteAt_22
    · replace hf := itn hf c2
      refine jAloadn C dX7_byteAt_12 rfl 0 rfl ?_
      refine gf_RX7_11 C dX7_byteAt_13 ?_
      refine jIloadn C dX7_byteAt_16 rfl 1 rfl ?_
      obtain ⟨z3, hf⟩ := gin_some hf
      refine al_cob C z3 dX7_byteAt_17 ?_
      refine jGoto C 22 dX7_byteAt_18 (by decide) ?_
      cases hf
      exact jEndI C hQ rfl dX7_byteAt_22
noncomputable def X7_sign (cob : Nat → Int32) (col : Int32) (p1 : Int32) : Option ((Nat → Int32) × Int32) := (if (640 : Int32) ≤ col then some (cob, col) else gin col 640 (some ((upd cob col.toNatClampNeg (vp_nar .byte (p1.toInt8.toInt32))), (col + (1 : Int32)))))
set_option maxHeartbeats 4000000 in
set_option maxRecDepth 20000 in
theorem X7_sign_ok {p1 : Int32} {ocob : Nat → Int32} {ocol : Int32}  (hf : X7_sign cob col p1 = some (ocob, ocol)) : MT yX7_sign cX7_sign 2 none 0 [.ref (g 33), .int p1] D cy G (cw g cy cP cLo cHi cpl ctb ctl ctf ctp ctk cts cth cob col cso cha chs cbe ctr cgl cgh cll clh cta cme cps cwh cal cah) (cw g cy cP cLo cHi cpl ctb ctl ctf ctp ctk cts cth ocob ocol cso cha chs cbe ctr cgl cgh cll clh cta cme cps cwh cal cah) none := by
  refine MT.go (own := RX7) [(0, .ref (g 33)), (1, .int p1)] (by decide) rfl (Nat.le_of_ble_eq_true rfl) rfl (fun p l e s m args below meth c A Q C hQ => ?_)
  unfold X7_sign at hf
  refine jAloadn C dX7_sign_0 rfl 0 rfl ?_
  refine gf_RX7_15 C dX7_sign_1 ?_
  refine jSipush C (640 : Int32) dX7_sign_4 ks_640 ?_
  refine jCmpGe C 31 dX7_sign_7 (by decide) (fun c1 => ?_) (fun c1 => ?_)
  · replace hf := itp hf c1
    cases hf
    exact jEndV C hQ rfl dX7_sign_31
  · replace hf := itn hf c1
    refine jAloadn C dX7_sign_10 rfl 0 rfl ?_
    refine gf_RX7_11 C dX7_sign_11 ?_
    refine jAloadn C dX7_sign_14 rfl 0 rfl ?_
    refine gf_RX7_15 C dX7_sign_15 ?_
    refine jIloadn C dX7_sign_18 rfl 1 rfl ?_
    refine jI2b C dX7_sign_19 ?_
    obtain ⟨z2, hf⟩ := gin_some hf
    refine as_cob C z2 dX7_sign_20 ?_
    refine jAloadn C dX7_sign_21 rfl 0 rfl ?_
    refine jDup C dX7_sign_22 rfl ?_
    refine gf_RX7_15 C dX7_sign_23 ?_
    refine jIconst C (1 : Int32) dX7_sign_26 ki_1 ?_
    refine jIadd C dX7_sign_27 ?_
    refine pf_RX7_15 C dX7_sign_28 ?_
    cases hf
    exact jEndV C hQ rfl dX7_sign_31
noncomputable def X7_word_h2 (p1 : Nat) (r5 : Int32 → (Nat → Int32) → Int32 → Option ((Nat → Int32) × Int32)) (x2_1 : Int32) (cob_2 : Nat → Int32) (col_3 : Int32) : Option ((Nat → Int32) × Int32) := bd1 (stlen p1) (fun q6 => (if q6 ≤ x2_1 then some (cob_2, col_3) else bd1 (stch p1 x2_1) (fun q9 => bd2 (X7_sign cob_2 col_3 q9) (fun cob_11 col_12 => r5 (x2_1 + (1 : Int32)) cob_11 col_12))))
noncomputable def X7_word (cob : Nat → Int32) (col : Int32) (p1 : Nat) : Option ((Nat → Int32) × Int32) := lfp3 (X7_word_h2 p1) (0 : Int32) cob col
set_option maxHeartbeats 4000000 in
set_option maxRecDepth 20000 in
theorem X7_word_ok {p1 : Nat} {ocob : Nat → Int32} {ocol : Int32} (hp1 : p1 < 3) (hf : X7_word cob col p1 = some (ocob, ocol)) : MT yX7_word cX7_word 3 none 4 [.ref (g 33), .ref (G (10 + p1))] D cy G (cw g cy cP cLo cHi cpl ctb ctl ctf ctp ctk cts cth cob col cso cha chs cbe ctr cgl cgh cll clh cta cme cps cwh cal cah) (cw g cy cP cLo cHi cpl ctb ctl ctf ctp ctk cts cth ocob ocol cso cha chs cbe ctr cgl cgh cll clh cta cme cps cwh cal cah) none := by
  refine MT.go (own := RX7) [(0, .ref (g 33)), (1, .ref (G (10 + p1)))] (by decide) rfl (Nat.le_of_ble_eq_true rfl) rfl (fun p l e s m args below meth c A Q C hQ => ?_)
  unfold X7_word at hf
  refine jIconst C (0 : Int32) dX7_word_0 ki_0 ?_
  refine jIstoren C dX7_word_1 rfl (Nat.le_of_ble_eq_true rfl) [(2, .int (0 : Int32)), (0, .ref (g 33)), (1, .ref (G (10 + p1)))] rfl ?_
  have hL4 : ∀ (x2_1 : Int32) (cob_2 : Nat → Int32) (col_3 : Int32), lfp3 (X7_word_h2 p1) x2_1 cob_2 col_3 = some (ocob, ocol) → J p l e (rmk 4) s m args below meth c D A Q 3 (cw g cy cP cLo cHi cpl ctb ctl ctf ctp ctk cts cth cob_2 col_3 cso cha chs cbe ctr cgl cgh cll clh cta cme cps cwh cal cah) 2 [(0, .ref (g 33)), (1, .ref (G (10 + p1))), (2, .int x2_1)] [] := by
    intro x2_1 cob_2 col_3 hw
    refine lfp3_walk (P := fun x2_1 cob_2 col_3 => J p l e (rmk 4) s m args below meth c D A Q 3 (cw g cy cP cLo cHi cpl ctb ctl ctf ctp ctk cts cth cob_2 col_3 cso cha chs cbe ctr cgl cgh cll clh cta cme cps cwh cal cah) 2 [(0, .ref (g 33)), (1, .ref (G (10 + p1))), (2, .int x2_1)] []) ?_ hw
    intro r5 ir5 x2_1 cob_2 col_3 hf
    unfold X7_word_h2 at hf
    refine jIloadn C dX7_word_2 rfl 2 rfl ?_
    refine jAloadn C dX7_word_3 rfl 1 rfl ?_
    obtain ⟨q6, e7, hf⟩ := bd1_some hf
    refine jVsI C (J0_length_ok hp1 e7) vb_J0_length_8abf5 mk_RX7_47 rfl (C.2.2.2.2.2.2.1.2.2.2.2.1 p1 hp1).1 ⟨Nat.le_of_ble_eq_true rfl, Nat.le_of_ble_eq_true rfl⟩ rfl (Nat.le_of_ble_eq_true rfl) dX7_word_4 ?_
    refine jCmpGe C 25 dX7_word_7 (by decide) (fun c8 => ?_) (fun c8 => ?_)
    · replace hf := itp hf c8
      cases hf
      exact jEndV C hQ rfl dX7_word_25
    · replace hf := itn hf c8
      refine jAloadn C dX7_word_10 rfl 0 rfl ?_
      refine jAloadn C dX7_word_11 rfl 1 rfl ?_
      refine jIloadn C dX7_word_12 rfl 2 rfl ?_
      obtain ⟨q9, e10, hf⟩ := bd1_some hf
      refine jVsI C (J0_charAt_ok hp1 e10) vb_J0_charAt_5068e mk_RX7_51 rfl (C.2.2.2.2.2.2.1.2.2.2.2.1 p1 hp1).1 ⟨Nat.le_of_ble_eq_true rfl, Nat.le_of_ble_eq_true rfl⟩ rfl (Nat.le_of_ble_eq_true rfl) dX7_word_13 ?_
      obtain ⟨cob_11, col_12, e13, hf⟩ := bd2_some hf
      refine jVV C (X7_sign_ok  e13) vb_X7_sign mk_RX7_30 rfl rc33 ⟨Nat.le_of_ble_eq_true rfl, Nat.le_of_ble_eq_true rfl⟩ rfl (Nat.le_of_ble_eq_true rfl) dX7_word_16 ?_
      refine jIinc C (x2_1 + (1 : Int32)) dX7_word_19 2 rfl (congrArg (fun z : Int32 => x2_1 + z) ki_1) (Nat.le_of_ble_eq_true rfl) [(2, .int (x2_1 + (1 : Int32))), (0, .ref (g 33)), (1, .ref (G (10 + p1)))] rfl ?_
      refine jGoto C 2 dX7_word_22 (by decide) ?_
      refine jSub [1, 2, 0] rfl ?_
      exact ir5 (x2_1 + (1 : Int32)) cob_11 col_12 hf
  refine jSub [1, 2, 0] rfl ?_
  exact hL4 (0 : Int32) cob col hf
noncomputable def X7_points_h12 (p1 : Int32) (r8 : Int32 → (Nat → Int32) → Int32 → Option ((Nat → Int32) × Int32)) (x2_4 : Int32) (cob_5 : Nat → Int32) (col_6 : Int32) : Option ((Nat → Int32) × Int32) := (if (7 : Int32) ≤ x2_4 then some (cob_5, col_6) else (if ((p1 >>> (x2_4 &&& 31)) &&& (1 : Int32)) = (1 : Int32) then bd2 (X7_sign cob_5 col_6 ((((48 : Int32) + x2_4).toUInt32 % 65536).toInt32)) (fun cob_11 col_12 => r8 (x2_4 + (1 : Int32)) cob_11 col_12) else r8 (x2_4 + (1 : Int32)) cob_5 col_6))
noncomputable def X7_points_j10 (p1 : Int32) (cob_1 : Nat → Int32) (col_2 : Int32) : Option ((Nat → Int32) × Int32) := lfp3 (X7_points_h12 p1) (0 : Int32) cob_1 col_2
noncomputable def X7_points (cob : Nat → Int32) (col : Int32) (p1 : Int32) : Option ((Nat → Int32) × Int32) := (if p1 = (0 : Int32) then bd2 (X7_word cob col 1) (fun cob_15 col_16 => X7_points_j10 p1 cob_15 col_16) else X7_points_j10 p1 cob col)
set_option maxHeartbeats 4000000 in
set_option maxRecDepth 20000 in
theorem X7_points_ok {p1 : Int32} {ocob : Nat → Int32} {ocol : Int32}  (hf : X7_points cob col p1 = some (ocob, ocol)) : MT yX7_points cX7_points 3 none 5 [.ref (g 33), .int p1] D cy G (cw g cy cP cLo cHi cpl ctb ctl ctf ctp ctk cts cth cob col cso cha chs cbe ctr cgl cgh cll clh cta cme cps cwh cal cah) (cw g cy cP cLo cHi cpl ctb ctl ctf ctp ctk cts cth ocob ocol cso cha chs cbe ctr cgl cgh cll clh cta cme cps cwh cal cah) none := by
  refine MT.go (own := RX7) [(0, .ref (g 33)), (1, .int p1)] (by decide) rfl (Nat.le_of_ble_eq_true rfl) rfl (fun p l e s m args below meth c A Q C hQ => ?_)
  unfold X7_points at hf
  refine jIloadn C dX7_points_0 rfl 1 rfl ?_
  have hL3 : ∀ (cob_1 : Nat → Int32) (col_2 : Int32), X7_points_j10 p1 cob_1 col_2 = some (ocob, ocol) → J p l e (rmk 5) s m args below meth c D A Q 3 (cw g cy cP cLo cHi cpl ctb ctl ctf ctp ctk cts cth cob_1 col_2 cso cha chs cbe ctr cgl cgh cll clh cta cme cps cwh cal cah) 10 [(0, .ref (g 33)), (1, .int p1)] [] := by
    intro cob_1 col_2 hf
    unfold X7_points_j10 at hf
    refine jIconst C (0 : Int32) dX7_points_10 ki_0 ?_
    refine jIstoren C dX7_points_11 rfl (Nat.le_of_ble_eq_true rfl) [(2, .int (0 : Int32)), (0, .ref (g 33)), (1, .int p1)] rfl ?_
    have hL7 : ∀ (x2_4 : Int32) (cob_5 : Nat → Int32) (col_6 : Int32), lfp3 (X7_points_h12 p1) x2_4 cob_5 col_6 = some (ocob, ocol) → J p l e (rmk 5) s m args below meth c D A Q 3 (cw g cy cP cLo cHi cpl ctb ctl ctf ctp ctk cts cth cob_5 col_6 cso cha chs cbe ctr cgl cgh cll clh cta cme cps cwh cal cah) 12 [(0, .ref (g 33)), (1, .int p1), (2, .int x2_4)] [] := by
      intro x2_4 cob_5 col_6 hw
      refine lfp3_walk (P := fun x2_4 cob_5 col_6 => J p l e (rmk 5) s m args below meth c D A Q 3 (cw g cy cP cLo cHi cpl ctb ctl ctf ctp ctk cts cth cob_5 col_6 cso cha chs cbe ctr cgl cgh cll clh cta cme cps cwh cal cah) 12 [(0, .ref (g 33)), (1, .int p1), (2, .int x2_4)] []) ?_ hw
      intro r8 ir8 x2_4 cob_5 col_6 hf
      unfold X7_points_h12 at hf
      refine jIloadn C dX7_points_12 rfl 2 rfl ?_
      refine jBipush C (7 : Int32) dX7_points_13 kb_7 ?_
      refine jCmpGe C 42 dX7_points_15 (by decide) (fun c9 => ?_) (fun c9 => ?_)
      · replace hf := itp hf c9
        cases hf
        exact jEndV C hQ rfl dX7_points_42
      · replace hf := itn hf c9
        refine jIloadn C dX7_points_18 rfl 1 rfl ?_
        refine jIloadn C dX7_points_19 rfl 2 rfl ?_
        refine jIshr C dX7_points_20 ?_
        refine jIconst C (1 : Int32) dX7_points_21 ki_1 ?_
        refine jIand C dX7_points_22 ?_
        refine jIconst C (1 : Int32) dX7_points_23 ki_1 ?_
        refine jCmpNe C 36 dX7_points_24 (by decide) (fun c10 => ?_) (fun c10 => ?_)
        · replace hf := itn hf c10
          refine jIinc C (x2_4 + (1 : Int32)) dX7_points_36 2 rfl (congrArg (fun z : Int32 => x2_4 + z) ki_1) (Nat.le_of_ble_eq_true rfl) [(2, .int (x2_4 + (1 : Int32))), (0, .ref (g 33)), (1, .int p1)] rfl ?_
          refine jGoto C 12 dX7_points_39 (by decide) ?_
          refine jSub [1, 2, 0] rfl ?_
          exact ir8 (x2_4 + (1 : Int32)) cob_5 col_6 hf
        · replace hf := itp hf c10
          refine jAloadn C dX7_points_27 rfl 0 rfl ?_
          refine jBipush C (48 : Int32) dX7_points_28 kb_48 ?_
          refine jIloadn C dX7_points_30 rfl 2 rfl ?_
          refine jIadd C dX7_points_31 ?_
          refine jI2c C dX7_points_32 ?_
          obtain ⟨cob_11, col_12, e13, hf⟩ := bd2_some hf
          refine jVV C (X7_sign_ok  e13) vb_X7_sign mk_RX7_30 rfl rc33 ⟨Nat.le_of_ble_eq_true rfl, Nat.le_of_ble_eq_true rfl⟩ rfl (Nat.le_of_ble_eq_true rfl) dX7_points_33 ?_
          refine jIinc C (x2_4 + (1 : Int32)) dX7_points_36 2 rfl (congrArg (fun z : Int32 => x2_4 + z) ki_1) (Nat.le_of_ble_eq_true rfl) [(2, .int (x2_4 + (1 : Int32))), (0, .ref (g 33)), (1, .int p1)] rfl ?_
          refine jGoto C 12 dX7_points_39 (by decide) ?_
          refine jSub [1, 2, 0] rfl ?_
          exact ir8 (x2_4 + (1 : Int32)) cob_11 col_12 hf
    refine jSub [1, 2, 0] rfl ?_
    exact hL7 (0 : Int32) cob_1 col_2 hf
  refine jIfNe C 10 dX7_points_1 (by decide) (fun c14 => ?_) (fun c14 => ?_)
  · replace hf := itn hf c14
    exact hL3 cob col hf
  · replace hf := itp hf c14
    refine jAloadn C dX7_points_4 rfl 0 rfl ?_
    refine ls_RX7_45 C dX7_points_5 ?_
    obtain ⟨cob_15, col_16, e17, hf⟩ := bd2_some hf
    refine jVV C (X7_word_ok (by decide) e17) vb_X7_word mk_RX7_21 rfl rc33 ⟨Nat.le_of_ble_eq_true rfl, Nat.le_of_ble_eq_true rfl⟩ rfl (Nat.le_of_ble_eq_true rfl) dX7_points_7 ?_
    exact hL3 cob_15 col_16 hf
noncomputable def X7_write_h27 (cP : Nat → Int32) (p1 : Nat) (cLo : Nat → Int64) (cHi : Nat → Int64) (r12 : Int32 → Int32 → (Nat → Int32) → Int32 → Option ((Nat → Int32) × Int32)) (x2_7 : Int32) (x3_8 : Int32) (cob_9 : Nat → Int32) (col_10 : Int32) : Option ((Nat → Int32) × Int32) := bd1 (X0_span cP p1) (fun q13 => (if q13 ≤ x3_8 then bd2 (X7_sign cob_9 col_10 (59 : Int32)) (fun cob_16 col_17 => some (cob_16, col_17)) else bd1 (X0_holds cLo cHi p1 x3_8) (fun q19 => (if q19 = (0 : Int32) then r12 x2_7 (x3_8 + (1 : Int32)) cob_9 col_10 else (if x2_7 = (0 : Int32) then bd2 (X7_sign cob_9 col_10 (44 : Int32)) (fun cob_23 col_24 => bd2 (X7_points cob_23 col_24 x3_8) (fun cob_26 col_27 => r12 (0 : Int32) (x3_8 + (1 : Int32)) cob_26 col_27)) else bd2 (X7_sign cob_9 col_10 (58 : Int32)) (fun cob_29 col_30 => bd2 (X7_points cob_29 col_30 x3_8) (fun cob_32 col_33 => r12 (0 : Int32) (x3_8 + (1 : Int32)) cob_32 col_33)))))))
noncomputable def X7_write (cP : Nat → Int32) (cLo : Nat → Int64) (cHi : Nat → Int64) (cob : Nat → Int32) (p1 : Nat) : Option ((Nat → Int32) × Int32) := bd2 (X7_word cob (0 : Int32) 2) (fun cob_1 col_2 => bd2 (X7_sign cob_1 col_2 ((((48 : Int32) + (cP p1)).toUInt32 % 65536).toInt32)) (fun cob_4 col_5 => lfp4 (X7_write_h27 cP p1 cLo cHi) (1 : Int32) (0 : Int32) cob_4 col_5))
set_option maxHeartbeats 4000000 in
set_option maxRecDepth 20000 in
theorem X7_write_ok {p1 : Nat} {ocob : Nat → Int32} {ocol : Int32} (hp1 : p1 < 28) (hf : X7_write cP cLo cHi cob p1 = some (ocob, ocol)) : MT yX7_write cX7_write 4 none 6 [.ref (g 33), .ref (g p1)] D cy G (cw g cy cP cLo cHi cpl ctb ctl ctf ctp ctk cts cth cob col cso cha chs cbe ctr cgl cgh cll clh cta cme cps cwh cal cah) (cw g cy cP cLo cHi cpl ctb ctl ctf ctp ctk cts cth ocob ocol cso cha chs cbe ctr cgl cgh cll clh cta cme cps cwh cal cah) none := by
  refine MT.go (own := RX7) [(0, .ref (g 33)), (1, .ref (g p1))] (by decide) rfl (Nat.le_of_ble_eq_true rfl) rfl (fun p l e s m args below meth c A Q C hQ => ?_)
  unfold X7_write at hf
  refine jAloadn C dX7_write_0 rfl 0 rfl ?_
  refine jIconst C (0 : Int32) dX7_write_1 ki_0 ?_
  refine pf_RX7_15 C dX7_write_2 ?_
  refine jAloadn C dX7_write_5 rfl 0 rfl ?_
  refine ls_RX7_19 C dX7_write_6 ?_
  obtain ⟨cob_1, col_2, e3, hf⟩ := bd2_some hf
  refine jVV C (X7_word_ok (by decide) e3) vb_X7_word mk_RX7_21 rfl rc33 ⟨Nat.le_of_ble_eq_true rfl, Nat.le_of_ble_eq_true rfl⟩ rfl (Nat.le_of_ble_eq_true rfl) dX7_write_8 ?_
  refine jAloadn C dX7_write_11 rfl 0 rfl ?_
  refine jBipush C (48 : Int32) dX7_write_12 kb_48 ?_
  refine jAloadn C dX7_write_14 rfl 1 rfl ?_
  refine gf_RX7_25 C hp1 dX7_write_15 ?_
  refine jIadd C dX7_write_18 ?_
  refine jI2c C dX7_write_19 ?_
  obtain ⟨cob_4, col_5, e6, hf⟩ := bd2_some hf
  refine jVV C (X7_sign_ok  e6) vb_X7_sign mk_RX7_30 rfl rc33 ⟨Nat.le_of_ble_eq_true rfl, Nat.le_of_ble_eq_true rfl⟩ rfl (Nat.le_of_ble_eq_true rfl) dX7_write_20 ?_
  refine jIconst C (1 : Int32) dX7_write_23 ki_1 ?_
  refine jIstoren C dX7_write_24 rfl (Nat.le_of_ble_eq_true rfl) [(2, .int (1 : Int32)), (0, .ref (g 33)), (1, .ref (g p1))] rfl ?_
  refine jIconst C (0 : Int32) dX7_write_25 ki_0 ?_
  refine jIstoren C dX7_write_26 rfl (Nat.le_of_ble_eq_true rfl) [(3, .int (0 : Int32)), (2, .int (1 : Int32)), (0, .ref (g 33)), (1, .ref (g p1))] rfl ?_
  have hL11 : ∀ (x2_7 : Int32) (x3_8 : Int32) (cob_9 : Nat → Int32) (col_10 : Int32), lfp4 (X7_write_h27 cP p1 cLo cHi) x2_7 x3_8 cob_9 col_10 = some (ocob, ocol) → J p l e (rmk 6) s m args below meth c D A Q 4 (cw g cy cP cLo cHi cpl ctb ctl ctf ctp ctk cts cth cob_9 col_10 cso cha chs cbe ctr cgl cgh cll clh cta cme cps cwh cal cah) 27 [(0, .ref (g 33)), (1, .ref (g p1)), (2, .int x2_7), (3, .int x3_8)] [] := by
    intro x2_7 x3_8 cob_9 col_10 hw
    refine lfp4_walk (P := fun x2_7 x3_8 cob_9 col_10 => J p l e (rmk 6) s m args below meth c D A Q 4 (cw g cy cP cLo cHi cpl ctb ctl ctf ctp ctk cts cth cob_9 col_10 cso cha chs cbe ctr cgl cgh cll clh cta cme cps cwh cal cah) 27 [(0, .ref (g 33)), (1, .ref (g p1)), (2, .int x2_7), (3, .int x3_8)] []) ?_ hw
    intro r12 ir12 x2_7 x3_8 cob_9 col_10 hf
    unfold X7_write_h27 at hf
    refine jIloadn C dX7_write_27 rfl 3 rfl ?_
    refine jAloadn C dX7_write_28 rfl 1 rfl ?_
    obtain ⟨q13, e14, hf⟩ := bd1_some hf
    refine jVI C (X0_span_ok hp1 e14) vb_X0_span mk_RX7_34 rfl (rcF hp1) ⟨Nat.le_of_ble_eq_true rfl, Nat.le_of_ble_eq_true rfl⟩ rfl (Nat.le_of_ble_eq_true rfl) dX7_write_29 ?_
    refine jCmpGe C 71 dX7_write_32 (by decide) (fun c15 => ?_) (fun c15 => ?_)
    · replace hf := itp hf c15
      refine jAloadn C dX7_write_71 rfl 0 rfl ?_
      refine jBipush C (59 : Int32) dX7_write_72 kb_59 ?_
      obtain ⟨cob_16, col_17, e18, hf⟩ := bd2_some hf
      refine jVV C (X7_sign_ok  e18) vb_X7_sign mk_RX7_30 rfl rc33 ⟨Nat.le_of_ble_eq_true rfl, Nat.le_of_ble_eq_true rfl⟩ rfl (Nat.le_of_ble_eq_true rfl) dX7_write_74 ?_
      cases hf
      exact jEndV C hQ rfl dX7_write_77
    · replace hf := itn hf c15
      refine jAloadn C dX7_write_35 rfl 1 rfl ?_
      refine jIloadn C dX7_write_36 rfl 3 rfl ?_
      obtain ⟨q19, e20, hf⟩ := bd1_some hf
      refine jVI C (X0_holds_ok hp1 e20) vb_X0_holds mk_RX7_38 rfl (rcF hp1) ⟨Nat.le_of_ble_eq_true rfl, Nat.le_of_ble_eq_true rfl⟩ rfl (Nat.le_of_ble_eq_true rfl) dX7_write_37 ?_
      refine jIfEq C 65 dX7_write_40 (by decide) (fun c21 => ?_) (fun c21 => ?_)
      · replace hf := itp hf c21
        refine jIinc C (x3_8 + (1 : Int32)) dX7_write_65 3 rfl (congrArg (fun z : Int32 => x3_8 + z) ki_1) (Nat.le_of_ble_eq_true rfl) [(3, .int (x3_8 + (1 : Int32))), (0, .ref (g 33)), (1, .ref (g p1)), (2, .int x2_7)] rfl ?_
        refine jGoto C 27 dX7_write_68 (by decide) ?_
        refine jSub [1, 2, 3, 0] rfl ?_
        exact ir12 x2_7 (x3_8 + (1 : Int32)) cob_9 col_10 hf
      · replace hf := itn hf c21
        refine jAloadn C dX7_write_43 rfl 0 rfl ?_
        refine jIloadn C dX7_write_44 rfl 2 rfl ?_
        refine jIfEq C 53 dX7_write_45 (by decide) (fun c22 => ?_) (fun c22 => ?_)
        · replace hf := itp hf c22
          refine jBipush C (44 : Int32) dX7_write_53 kb_44 ?_
          obtain ⟨cob_23, col_24, e25, hf⟩ := bd2_some hf
          refine jVV C (X7_sign_ok  e25) vb_X7_sign mk_RX7_30 rfl rc33 ⟨Nat.le_of_ble_eq_true rfl, Nat.le_of_ble_eq_true rfl⟩ rfl (Nat.le_of_ble_eq_true rfl) dX7_write_55 ?_
          refine jAloadn C dX7_write_58 rfl 0 rfl ?_
          refine jIloadn C dX7_write_59 rfl 3 rfl ?_
          obtain ⟨cob_26, col_27, e28, hf⟩ := bd2_some hf
          refine jVV C (X7_points_ok  e28) vb_X7_points mk_RX7_42 rfl rc33 ⟨Nat.le_of_ble_eq_true rfl, Nat.le_of_ble_eq_true rfl⟩ rfl (Nat.le_of_ble_eq_true rfl) dX7_write_60 ?_
          refine jIconst C (0 : Int32) dX7_write_63 ki_0 ?_
          refine jIstoren C dX7_write_64 rfl (Nat.le_of_ble_eq_true rfl) [(2, .int (0 : Int32)), (0, .ref (g 33)), (1, .ref (g p1)), (3, .int x3_8)] rfl ?_
          refine jIinc C (x3_8 + (1 : Int32)) dX7_write_65 3 rfl (congrArg (fun z : Int32 => x3_8 + z) ki_1) (Nat.le_of_ble_eq_true rfl) [(3, .int (x3_8 + (1 : Int32))), (2, .int (0 : Int32)), (0, .ref (g 33)), (1, .ref (g p1))] rfl ?_
          refine jGoto C 27 dX7_write_68 (by decide) ?_
          refine jSub [2, 3, 1, 0] rfl ?_
          exact ir12 (0 : Int32) (x3_8 + (1 : Int32)) cob_26 col_27 hf
        · replace hf := itn hf c22
          refine jBipush C (58 : Int32) dX7_write_48 kb_58 ?_
          refine jGoto C 55 dX7_write_50 (by decide) ?_
          obtain ⟨cob_29, col_30, e31, hf⟩ := bd2_some hf
          refine jVV C (X7_sign_ok  e31) vb_X7_sign mk_RX7_30 rfl rc33 ⟨Nat.le_of_ble_eq_true rfl, Nat.le_of_ble_eq_true rfl⟩ rfl (Nat.le_of_ble_eq_true rfl) dX7_write_55 ?_
          refine jAloadn C dX7_write_58 rfl 0 rfl ?_
          refine jIloadn C dX7_write_59 rfl 3 rfl ?_
          obtain ⟨cob_32, col_33, e34, hf⟩ := bd2_some hf
          refine jVV C (X7_points_ok  e34) vb_X7_points mk_RX7_42 rfl rc33 ⟨Nat.le_of_ble_eq_true rfl, Nat.le_of_ble_eq_true rfl⟩ rfl (Nat.le_of_ble_eq_true rfl) dX7_write_60 ?_
          refine jIconst C (0 : Int32) dX7_write_63 ki_0 ?_
          refine jIstoren C dX7_write_64 rfl (Nat.le_of_ble_eq_true rfl) [(2, .int (0 : Int32)), (0, .ref (g 33)), (1, .ref (g p1)), (3, .int x3_8)] rfl ?_
          refine jIinc C (x3_8 + (1 : Int32)) dX7_write_65 3 rfl (congrArg (fun z : Int32 => x3_8 + z) ki_1) (Nat.le_of_ble_eq_true rfl) [(3, .int (x3_8 + (1 : Int32))), (2, .int (0 : Int32)), (0, .ref (g 33)), (1, .ref (g p1))] rfl ?_
          refine jGoto C 27 dX7_write_68 (by decide) ?_
          refine jSub [2, 3, 1, 0] rfl ?_
          exact ir12 (0 : Int32) (x3_8 + (1 : Int32)) cob_32 col_33 hf
  refine jSub [2, 3, 1, 0] rfl ?_
  exact hL11 (1 : Int32) (0 : Int32) cob_4 col_5 hf
noncomputable def X8_feed (ctb : Nat → Int32) (ctl : Int32) (p1 : Int32) (p2 : Int32) (p3 : Int32) (p4 : Int32) (p5 : Int32) : Option (Int32 × (Nat → Int32) × Int32) := bd1 (X6_hasRoom ctl (20 : Int32)) (fun q1 => (if q1 = (0 : Int32) then some ((-1 : Int32), ctb, ctl) else bd2 (X6_append ctb ctl p1) (fun ctb_4 ctl_5 => bd2 (X6_append ctb_4 ctl_5 p2) (fun ctb_7 ctl_8 => bd2 (X6_append ctb_7 ctl_8 p3) (fun ctb_10 ctl_11 => bd2 (X6_append ctb_10 ctl_11 p4) (fun ctb_13 ctl_14 => bd2 (X6_append ctb_13 ctl_14 p5) (fun ctb_16 ctl_17 => some (ctl_17, ctb_16, ctl_17))))))))
set_option maxHeartbeats 4000000 in
set_option maxRecDepth 20000 in
theorem X8_feed_ok {p1 : Int32} {p2 : Int32} {p3 : Int32} {p4 : Int32} {p5 : Int32} {rr : Int32} {octb : Nat → Int32} {octl : Int32}  (hf : X8_feed ctb ctl p1 p2 p3 p4 p5 = some (rr, octb, octl)) : MT yX8_feed cX8_feed 6 (some .int) 1 [.ref (g 28), .int p1, .int p2, .int p3, .int p4, .int p5] D cy G (cw g cy cP cLo cHi cpl ctb ctl ctf ctp ctk cts cth cob col cso cha chs cbe ctr cgl cgh cll clh cta cme cps cwh cal cah) (cw g cy cP cLo cHi cpl octb octl ctf ctp ctk cts cth cob col cso cha chs cbe ctr cgl cgh cll clh cta cme cps cwh cal cah) (some (.int rr)) := by
  refine MT.go (own := RX8) [(0, .ref (g 28)), (1, .int p1), (2, .int p2), (3, .int p3), (4, .int p4), (5, .int p5)] (by decide) rfl (Nat.le_of_ble_eq_true rfl) rfl (fun p l e s m args below meth c A Q C hQ => ?_)
  unfold X8_feed at hf
  refine jAloadn C dX8_feed_0 rfl 0 rfl ?_
  refine gf_RX8_33 C dX8_feed_1 ?_
  refine jBipush C (20 : Int32) dX8_feed_4 kb_20 ?_
  obtain ⟨q1, e2, hf⟩ := bd1_some hf
  refine jVI C (X6_hasRoom_ok  e2) vb_X6_hasRoom mk_RX8_65 rfl rc31 ⟨Nat.le_of_ble_eq_true rfl, Nat.le_of_ble_eq_true rfl⟩ rfl (Nat.le_of_ble_eq_true rfl) dX8_feed_6 ?_
  refine jIfNe C 14 dX8_feed_9 (by decide) (fun c3 => ?_) (fun c3 => ?_)
  · replace hf := itn hf c3
    refine jAloadn C dX8_feed_14 rfl 0 rfl ?_
    refine gf_RX8_33 C dX8_feed_15 ?_
    refine jIloadn C dX8_feed_18 rfl 1 rfl ?_
    obtain ⟨ctb_4, ctl_5, e6, hf⟩ := bd2_some hf
    refine jVV C (X6_append_ok  e6) vb_X6_append mk_RX8_69 rfl rc31 ⟨Nat.le_of_ble_eq_true rfl, Nat.le_of_ble_eq_true rfl⟩ rfl (Nat.le_of_ble_eq_true rfl) dX8_feed_19 ?_
    refine jAloadn C dX8_feed_22 rfl 0 rfl ?_
    refine gf_RX8_33 C dX8_feed_23 ?_
    refine jIloadn C dX8_feed_26 rfl 2 rfl ?_
    obtain ⟨ctb_7, ctl_8, e9, hf⟩ := bd2_some hf
    refine jVV C (X6_append_ok  e9) vb_X6_append mk_RX8_69 rfl rc31 ⟨Nat.le_of_ble_eq_true rfl, Nat.le_of_ble_eq_true rfl⟩ rfl (Nat.le_of_ble_eq_true rfl) dX8_feed_27 ?_
    refine jAloadn C dX8_feed_30 rfl 0 rfl ?_
    refine gf_RX8_33 C dX8_feed_31 ?_
    refine jIloadn C dX8_feed_34 rfl 3 rfl ?_
    obtain ⟨ctb_10, ctl_11, e12, hf⟩ := bd2_some hf
    refine jVV C (X6_append_ok  e12) vb_X6_append mk_RX8_69 rfl rc31 ⟨Nat.le_of_ble_eq_true rfl, Nat.le_of_ble_eq_true rfl⟩ rfl (Nat.le_of_ble_eq_true rfl) dX8_feed_35 ?_
    refine jAloadn C dX8_feed_38 rfl 0 rfl ?_
    refine gf_RX8_33 C dX8_feed_39 ?_
    refine jIload C dX8_feed_42 4 rfl ?_
    obtain ⟨ctb_13, ctl_14, e15, hf⟩ := bd2_some hf
    refine jVV C (X6_append_ok  e15) vb_X6_append mk_RX8_69 rfl rc31 ⟨Nat.le_of_ble_eq_true rfl, Nat.le_of_ble_eq_true rfl⟩ rfl (Nat.le_of_ble_eq_true rfl) dX8_feed_44 ?_
    refine jAloadn C dX8_feed_47 rfl 0 rfl ?_
    refine gf_RX8_33 C dX8_feed_48 ?_
    refine jIload C dX8_feed_51 5 rfl ?_
    obtain ⟨ctb_16, ctl_17, e18, hf⟩ := bd2_some hf
    refine jVV C (X6_append_ok  e18) vb_X6_append mk_RX8_69 rfl rc31 ⟨Nat.le_of_ble_eq_true rfl, Nat.le_of_ble_eq_true rfl⟩ rfl (Nat.le_of_ble_eq_true rfl) dX8_feed_53 ?_
    refine jAloadn C dX8_feed_56 rfl 0 rfl ?_
    refine gf_RX8_33 C dX8_feed_57 ?_
    refine gf_RX8_73 C dX8_feed_60 ?_
    cases hf
    exact jEndI C hQ rfl dX8_feed_63
  · replace hf := itp hf c3
    refine jIconst C (-1 : Int32) dX8_feed_12 ki_m1 ?_
    cases hf
    exact jEndI C hQ rfl dX8_feed_13
end WK
