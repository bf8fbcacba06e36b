section WK
variable {g h : Nat → Nat} {cP : Nat → Int32} {cLo : Nat → Int64} {cHi : Nat → Int64} {cpl : Nat → Int32} {ctb : Nat → Int32} {ctl : Int32} {ctf : Int32} {ctp : Int32} {ctk : Int32} {cts : Int32} {cth : Int32} {cob : Nat → Int32} {col : Int32} {cso : Nat → Int32} {cha : Int32} {chs : Int32} {cbe : Int32} {ctr : Int32} {cgl : Nat → Int64} {cgh : Nat → Int64} {cll : Nat → Int64} {clh : Nat → Int64} {cta : Nat → Int32} {cme : Nat → Int32} {cps : Int32} {cwh : Nat → Int32} {cal : Nat → Int64} {cah : Nat → Int64} {mthr : Int32} {mfrp : Int32} {mact : Int32} {mtpd : Int32} {msiz : Int32} {matx : Int32} {mfrm : Int32} {mtok : Int32} {mval : Int32} {mfk : Int32} {mfpl : Int32} {mbem : Int32} {mtrs : Int32} {mtrl : Int32} {mrom : Int32} {mtom : Int32} {mnow : Nat → Int32} {mfre : Nat → Int32} {mkep : Nat → Int32} {mtap : Nat → Int32} {mlef : Nat → Int32} {mtak : Nat → Int32} {mbes : Nat → Int32} {mrow : Nat → Int32} {mint : Nat → Int32} {mrnd : Nat → Int32} {mplo : Nat → Int32} {mhio : Nat → Int32} {mtox : Nat → Int32} {mtol : Nat → Int32}
variable {D : va_G} {cy : Nat → ClassId} {G : Nat → Nat}
noncomputable def X9_gosWith_j19 (p2 : Int32) (p0 : Int32) (p1 : Int32) (y1 : Int32) : Option Int32 := (if p2 = (0 : Int32) then (if (p0 &&& p1) = (0 : Int32) then some (0 : Int32) else some (1 : Int32)) else (if p2 = (1 : Int32) then (if (p0 &&& p1) = (0 : Int32) then some (1 : Int32) else some (0 : Int32)) else (if p2 = (2 : Int32) then (if y1 = (0 : Int32) then some (1 : Int32) else some (0 : Int32)) else gbo y1 (some y1))))
noncomputable def X9_gosWith (p0 : Int32) (p1 : Int32) (p2 : Int32) : Option Int32 := (if (p0 &&& p1) = p0 then X9_gosWith_j19 p2 p0 p1 (1 : Int32) else (if (p0 &&& p1) = p1 then X9_gosWith_j19 p2 p0 p1 (1 : Int32) else X9_gosWith_j19 p2 p0 p1 (0 : Int32)))
set_option maxHeartbeats 4000000 in
set_option maxRecDepth 20000 in
theorem X9_gosWith_ok {D : va_G} {cy : Nat → ClassId} {G : Nat → Nat} {ws : va_W} {p0 : Int32} {p1 : Int32} {p2 : Int32} {rr : Int32}  (hf : X9_gosWith p0 p1 p2 = some rr) : MT yX9_gosWith cX9_gosWith 4 (some .boolean) 0 [.int p0, .int p1, .int p2] D cy G ws ws (some (.int rr)) := by
  refine MT.go (own := RX9) [(0, .int p0), (1, .int p1), (2, .int p2)] (by decide) rfl (Nat.le_of_ble_eq_true rfl) rfl (fun p l e s m args below meth c A Q C hQ => ?_)
  unfold X9_gosWith at hf
  refine jIloadn C dX9_gosWith_0 rfl 0 rfl ?_
  refine jIloadn C dX9_gosWith_1 rfl 1 rfl ?_
  refine jIand C dX9_gosWith_2 ?_
  refine jIloadn C dX9_gosWith_3 rfl 0 rfl ?_
  have hL2 : ∀ (y1 : Int32), X9_gosWith_j19 p2 p0 p1 y1 = some rr → J p l e (rmk 0) s m args below meth c D A Q 4 ws 19 [(0, .int p0), (1, .int p1), (2, .int p2)] [.int y1] := by
    intro y1 hf
    unfold X9_gosWith_j19 at hf
    refine jIstoren C dX9_gosWith_19 rfl (Nat.le_of_ble_eq_true rfl) [(3, .int y1), (0, .int p0), (1, .int p1), (2, .int p2)] rfl ?_
    refine jIloadn C dX9_gosWith_20 rfl 3 rfl ?_
    refine jIfNe C 38 dX9_gosWith_21 (by decide) (fun c3 => ?_) (fun c3 => ?_)
    · replace hf := itn hf c3
      refine jIloadn C dX9_gosWith_38 rfl 3 rfl ?_
      refine jIconst C (1 : Int32) dX9_gosWith_39 ki_1 ?_
      refine jCmpNe C 57 dX9_gosWith_40 (by decide) (fun c4 => ?_) (fun c4 => ?_)
      · replace hf := itn hf c4
        refine jIloadn C dX9_gosWith_57 rfl 3 rfl ?_
        refine jIconst C (2 : Int32) dX9_gosWith_58 ki_2 ?_
        refine jCmpNe C 74 dX9_gosWith_59 (by decide) (fun c5 => ?_) (fun c5 => ?_)
        · replace hf := itn hf c5
          refine jIloadn C dX9_gosWith_74 rfl 0 rfl ?_
          obtain ⟨z6, hf⟩ := gbo_some hf
          cases hf
          exact jEndIZ C hQ rfl z6 dX9_gosWith_75
        · replace hf := itp hf c5
          refine jIloadn C dX9_gosWith_62 rfl 0 rfl ?_
          refine jIfNe C 70 dX9_gosWith_63 (by decide) (fun c7 => ?_) (fun c7 => ?_)
          · replace hf := itn hf c7
            refine jIconst C (0 : Int32) dX9_gosWith_70 ki_0 ?_
            refine jGoto C 75 dX9_gosWith_71 (by decide) ?_
            cases hf
            exact jEndIZ C hQ rfl nar_z0 dX9_gosWith_75
          · replace hf := itp hf c7
            refine jIconst C (1 : Int32) dX9_gosWith_66 ki_1 ?_
            refine jGoto C 75 dX9_gosWith_67 (by decide) ?_
            cases hf
            exact jEndIZ C hQ rfl nar_z1 dX9_gosWith_75
      · replace hf := itp hf c4
        refine jIloadn C dX9_gosWith_43 rfl 1 rfl ?_
        refine jIloadn C dX9_gosWith_44 rfl 2 rfl ?_
        refine jIand C dX9_gosWith_45 ?_
        refine jIfNe C 53 dX9_gosWith_46 (by decide) (fun c8 => ?_) (fun c8 => ?_)
        · replace hf := itn hf c8
          refine jIconst C (0 : Int32) dX9_gosWith_53 ki_0 ?_
          refine jGoto C 75 dX9_gosWith_54 (by decide) ?_
          cases hf
          exact jEndIZ C hQ rfl nar_z0 dX9_gosWith_75
        · replace hf := itp hf c8
          refine jIconst C (1 : Int32) dX9_gosWith_49 ki_1 ?_
          refine jGoto C 75 dX9_gosWith_50 (by decide) ?_
          cases hf
          exact jEndIZ C hQ rfl nar_z1 dX9_gosWith_75
    · replace hf := itp hf c3
      refine jIloadn C dX9_gosWith_24 rfl 1 rfl ?_
      refine jIloadn C dX9_gosWith_25 rfl 2 rfl ?_
      refine jIand C dX9_gosWith_26 ?_
      refine jIfEq C 34 dX9_gosWith_27 (by decide) (fun c9 => ?_) (fun c9 => ?_)
      · replace hf := itp hf c9
        refine jIconst C (0 : Int32) dX9_gosWith_34 ki_0 ?_
        refine jGoto C 75 dX9_gosWith_35 (by decide) ?_
        cases hf
        exact jEndIZ C hQ rfl nar_z0 dX9_gosWith_75
      · replace hf := itn hf c9
        refine jIconst C (1 : Int32) dX9_gosWith_30 ki_1 ?_
        refine jGoto C 75 dX9_gosWith_31 (by decide) ?_
        cases hf
        exact jEndIZ C hQ rfl nar_z1 dX9_gosWith_75
  refine jCmpEq C 14 dX9_gosWith_4 (by decide) (fun c10 => ?_) (fun c10 => ?_)
  · replace hf := itp hf c10
    refine jIconst C (1 : Int32) dX9_gosWith_14 ki_1 ?_
    refine jGoto C 19 dX9_gosWith_15 (by decide) ?_
    exact hL2 (1 : Int32) hf
  · replace hf := itn hf c10
    refine jIloadn C dX9_gosWith_7 rfl 0 rfl ?_
    refine jIloadn C dX9_gosWith_8 rfl 1 rfl ?_
    refine jIand C dX9_gosWith_9 ?_
    refine jIloadn C dX9_gosWith_10 rfl 1 rfl ?_
    refine jCmpNe C 18 dX9_gosWith_11 (by decide) (fun c11 => ?_) (fun c11 => ?_)
    · replace hf := itn hf c11
      refine jIconst C (0 : Int32) dX9_gosWith_18 ki_0 ?_
      exact hL2 (0 : Int32) hf
    · replace hf := itp hf c11
      refine jIconst C (1 : Int32) dX9_gosWith_14 ki_1 ?_
      refine jGoto C 19 dX9_gosWith_15 (by decide) ?_
      exact hL2 (1 : Int32) hf
noncomputable def X9_goes_j186 (rgo : Int32 → Int32 → Int32 → (Nat → Int32) → (Nat → Int32) → (Nat → Int32) → Int32 → Int32 → Int32 → Int32 → Int32 → Option (Int32 × Int32 × Int32 × Int32 × (Nat → Int32) × (Nat → Int32) × (Nat → Int32))) (mtrs_3 : Int32) (mtrl_4 : Int32) (mlef_17 : Nat → Int32) (mtak_6 : Nat → Int32) (p4 : Int32) (mlef_5 : Nat → Int32) (p1 : Int32) (x6_1 : Int32) (x8_15 : Int32) (p5 : Int32) (r9 : Int32 → Int32 → Int32 → Int32 → (Nat → Int32) → (Nat → Int32) → (Nat → Int32) → Option (Int32 × Int32 × Int32 × Int32 × (Nat → Int32) × (Nat → Int32) × (Nat → Int32))) (mbem_21 : Int32) (mbes_22 : Nat → Int32) : Option (Int32 × Int32 × Int32 × Int32 × (Nat → Int32) × (Nat → Int32) × (Nat → Int32)) := bd7 (rgo mbem_21 (mtrs_3 + (1 : Int32)) (mtrl_4 - (1 : Int32)) mlef_17 (upd mtak_6 p4.toNatClampNeg (mlef_5 (p1 + x6_1).toNatClampNeg)) mbes_22 (p1 + (128 : Int32)) (0 : Int32) x8_15 (p4 + (1 : Int32)) p5) (fun q24 mbem_25 mtrs_26 mtrl_27 mlef_28 mtak_29 mbes_30 => (if q24 = (0 : Int32) then r9 (x6_1 + (1 : Int32)) mbem_25 mtrs_26 mtrl_27 mlef_28 mtak_29 mbes_30 else some ((1 : Int32), mbem_25, mtrs_26, mtrl_27, mlef_28, mtak_29, mbes_30)))
noncomputable def X9_goes_h159 (p4 : Int32) (rgo : Int32 → Int32 → Int32 → (Nat → Int32) → (Nat → Int32) → (Nat → Int32) → Int32 → Int32 → Int32 → Int32 → Int32 → Option (Int32 × Int32 × Int32 × Int32 × (Nat → Int32) × (Nat → Int32) × (Nat → Int32))) (mtrs_3 : Int32) (mtrl_4 : Int32) (mlef_17 : Nat → Int32) (mtak_6 : Nat → Int32) (mlef_5 : Nat → Int32) (p1 : Int32) (x6_1 : Int32) (x8_15 : Int32) (p5 : Int32) (r9 : Int32 → Int32 → Int32 → Int32 → (Nat → Int32) → (Nat → Int32) → (Nat → Int32) → Option (Int32 × Int32 × Int32 × Int32 × (Nat → Int32) × (Nat → Int32) × (Nat → Int32))) (r37 : Int32 → (Nat → Int32) → Option (Int32 × Int32 × Int32 × Int32 × (Nat → Int32) × (Nat → Int32) × (Nat → Int32))) (x9_34 : Int32) (mbes_35 : Nat → Int32) : Option (Int32 × Int32 × Int32 × Int32 × (Nat → Int32) × (Nat → Int32) × (Nat → Int32)) := (if p4 < x9_34 then X9_goes_j186 rgo mtrs_3 mtrl_4 mlef_17 mtak_6 p4 mlef_5 p1 x6_1 x8_15 p5 r9 (p4 + (1 : Int32)) mbes_35 else gin x9_34 128 (gin x9_34 128 (r37 (x9_34 + (1 : Int32)) (upd mbes_35 x9_34.toNatClampNeg ((upd mtak_6 p4.toNatClampNeg (mlef_5 (p1 + x6_1).toNatClampNeg)) x9_34.toNatClampNeg)))))
noncomputable def X9_goes_h81 (p3 : Int32) (p4 : Int32) (mbem_2 : Int32) (rgo : Int32 → Int32 → Int32 → (Nat → Int32) → (Nat → Int32) → (Nat → Int32) → Int32 → Int32 → Int32 → Int32 → Int32 → Option (Int32 × Int32 × Int32 × Int32 × (Nat → Int32) × (Nat → Int32) × (Nat → Int32))) (mtrs_3 : Int32) (mtrl_4 : Int32) (mtak_6 : Nat → Int32) (mlef_5 : Nat → Int32) (p1 : Int32) (x6_1 : Int32) (p5 : Int32) (r9 : Int32 → Int32 → Int32 → Int32 → (Nat → Int32) → (Nat → Int32) → (Nat → Int32) → Option (Int32 × Int32 × Int32 × Int32 × (Nat → Int32) × (Nat → Int32) × (Nat → Int32))) (mbes_7 : Nat → Int32) (r19 : Int32 → Int32 → (Nat → Int32) → Option (Int32 × Int32 × Int32 × Int32 × (Nat → Int32) × (Nat → Int32) × (Nat → Int32))) (x8_15 : Int32) (x9_16 : Int32) (mlef_17 : Nat → Int32) : Option (Int32 × Int32 × Int32 × Int32 × (Nat → Int32) × (Nat → Int32) × (Nat → Int32)) := (if p3 ≤ x9_16 then (if (p4 + (1 : Int32)) ≤ mbem_2 then X9_goes_j186 rgo mtrs_3 mtrl_4 mlef_17 mtak_6 p4 mlef_5 p1 x6_1 x8_15 p5 r9 mbem_2 mbes_7 else lfp2 (X9_goes_h159 p4 rgo mtrs_3 mtrl_4 mlef_17 mtak_6 mlef_5 p1 x6_1 x8_15 p5 r9) (0 : Int32) mbes_7) else gin (p1 + x9_16) 16384 (bd1 (X9_gosWith (mlef_5 (p1 + x6_1).toNatClampNeg) (mlef_17 (p1 + x9_16).toNatClampNeg) p5) (fun q42 => (if q42 = (0 : Int32) then r19 x8_15 (x9_16 + (1 : Int32)) mlef_17 else gin ((p1 + (128 : Int32)) + x8_15) 16384 (r19 (x8_15 + (1 : Int32)) (x9_16 + (1 : Int32)) (upd mlef_17 ((p1 + (128 : Int32)) + x8_15).toNatClampNeg (mlef_17 (p1 + x9_16).toNatClampNeg)))))))
noncomputable def X9_goes_h3 (p3 : Int32) (p4 : Int32) (p1 : Int32) (rgo : Int32 → Int32 → Int32 → (Nat → Int32) → (Nat → Int32) → (Nat → Int32) → Int32 → Int32 → Int32 → Int32 → Int32 → Option (Int32 × Int32 × Int32 × Int32 × (Nat → Int32) × (Nat → Int32) × (Nat → Int32))) (p5 : Int32) (r9 : Int32 → Int32 → Int32 → Int32 → (Nat → Int32) → (Nat → Int32) → (Nat → Int32) → Option (Int32 × Int32 × Int32 × Int32 × (Nat → Int32) × (Nat → Int32) × (Nat → Int32))) (x6_1 : Int32) (mbem_2 : Int32) (mtrs_3 : Int32) (mtrl_4 : Int32) (mlef_5 : Nat → Int32) (mtak_6 : Nat → Int32) (mbes_7 : Nat → Int32) : Option (Int32 × Int32 × Int32 × Int32 × (Nat → Int32) × (Nat → Int32) × (Nat → Int32)) := (if p3 ≤ x6_1 then some ((0 : Int32), mbem_2, mtrs_3, mtrl_4, mlef_5, mtak_6, mbes_7) else (if ((p4 + p3) - x6_1) ≤ mbem_2 then some ((0 : Int32), mbem_2, mtrs_3, mtrl_4, mlef_5, mtak_6, mbes_7) else (if mtrl_4 = (0 : Int32) then some ((1 : Int32), mbem_2, mtrs_3, mtrl_4, mlef_5, mtak_6, mbes_7) else gin (p1 + x6_1) 16384 (gin p4 128 (lfp3 (X9_goes_h81 p3 p4 mbem_2 rgo mtrs_3 mtrl_4 mtak_6 mlef_5 p1 x6_1 p5 r9 mbes_7) (0 : Int32) (x6_1 + (1 : Int32)) mlef_5)))))
noncomputable def X9_goes_B (rgo : Int32 → Int32 → Int32 → (Nat → Int32) → (Nat → Int32) → (Nat → Int32) → Int32 → Int32 → Int32 → Int32 → Int32 → Option (Int32 × Int32 × Int32 × Int32 × (Nat → Int32) × (Nat → Int32) × (Nat → Int32))) (mbem : Int32) (mtrs : Int32) (mtrl : Int32) (mlef : Nat → Int32) (mtak : Nat → Int32) (mbes : Nat → Int32) (p1 : Int32) (p2 : Int32) (p3 : Int32) (p4 : Int32) (p5 : Int32) : Option (Int32 × Int32 × Int32 × Int32 × (Nat → Int32) × (Nat → Int32) × (Nat → Int32)) := lfp7 (X9_goes_h3 p3 p4 p1 rgo p5) p2 mbem mtrs mtrl mlef mtak mbes
noncomputable def X9_goesF : Nat → Int32 → Int32 → Int32 → (Nat → Int32) → (Nat → Int32) → (Nat → Int32) → Int32 → Int32 → Int32 → Int32 → Int32 → Option (Int32 × Int32 × Int32 × Int32 × (Nat → Int32) × (Nat → Int32) × (Nat → Int32))
  | 0 => fun _ _ _ _ _ _ _ _ _ _ _ => none
  | d + 1 => X9_goes_B (X9_goesF d)
theorem rmkR {k K n : Nat} (h : k + 1 ≤ K) (hn : n ≤ 45) : k + 1 ≤ (rmk K).frames ∧ 8 + (n + 11) + 64 * k ≤ (rmk K).locals := by
  show k + 1 ≤ K ∧ 8 + (n + 11) + 64 * k ≤ 64 * K
  omega
set_option maxHeartbeats 4000000 in
set_option maxRecDepth 20000 in
theorem X9_goes_okd : ∀ (d : Nat) (mbem : Int32) (mtrs : Int32) (mtrl : Int32) (mlef : Nat → Int32) (mtak : Nat → Int32) (mbes : Nat → Int32) (p1 : Int32) (p2 : Int32) (p3 : Int32) (p4 : Int32) (p5 : Int32) (rr : Int32) (ombem : Int32) (omtrs : Int32) (omtrl : Int32) (omlef : Nat → Int32) (omtak : Nat → Int32) (ombes : Nat → Int32) (hf : X9_goesF d mbem mtrs mtrl mlef mtak mbes p1 p2 p3 p4 p5 = some (rr, ombem, omtrs, omtrl, omlef, omtak, ombes)), MT yX9_goes cX9_goes 11 (some .boolean) (d + 1) [.ref (h 0), .int p1, .int p2, .int p3, .int p4, .int p5] D cy G (mw h cy mthr mfrp mact mtpd msiz matx mfrm mtok mval mfk mfpl mbem mtrs mtrl mrom mtom mnow mfre mkep mtap mlef mtak mbes mrow mint mrnd mplo mhio mtox mtol) (mw h cy mthr mfrp mact mtpd msiz matx mfrm mtok mval mfk mfpl ombem omtrs omtrl mrom mtom mnow mfre mkep mtap omlef omtak ombes mrow mint mrnd mplo mhio mtox mtol) (some (.int rr)) := by
  intro d
  induction d with
  | zero => intro mbem mtrs mtrl mlef mtak mbes p1 p2 p3 p4 p5 rr ombem omtrs omtrl omlef omtak ombes hf; cases hf
  | succ d ih0 =>
  have ih := fun {mbem : Int32} {mtrs : Int32} {mtrl : Int32} {mlef : Nat → Int32} {mtak : Nat → Int32} {mbes : Nat → Int32} {p1 : Int32} {p2 : Int32} {p3 : Int32} {p4 : Int32} {p5 : Int32} {rr : Int32} {ombem : Int32} {omtrs : Int32} {omtrl : Int32} {omlef : Nat → Int32} {omtak : Nat → Int32} {ombes : Nat → Int32} (h9 : X9_goesF d mbem mtrs mtrl mlef mtak mbes p1 p2 p3 p4 p5 = some (rr, ombem, omtrs, omtrl, omlef, omtak, ombes)) => ih0 mbem mtrs mtrl mlef mtak mbes p1 p2 p3 p4 p5 rr ombem omtrs omtrl omlef omtak ombes h9
  intro mbem mtrs mtrl mlef mtak mbes p1 p2 p3 p4 p5 rr ombem omtrs omtrl omlef omtak ombes hf
  rw [show d + 1 + 1 = d + 2 from by omega]
  refine MT.go (own := RX9) [(0, .ref (h 0)), (1, .int p1), (2, .int p2), (3, .int p3), (4, .int p4), (5, .int p5)] (by decide) rfl (Nat.le_of_ble_eq_true rfl) rfl (fun p l e s m args below meth c A Q C hQ => ?_)
  replace hf : X9_goes_B (X9_goesF d) mbem mtrs mtrl mlef mtak mbes p1 p2 p3 p4 p5 = some (rr, ombem, omtrs, omtrl, omlef, omtak, ombes) := hf
  generalize X9_goesF d = rgo at hf ih
  unfold X9_goes_B at hf
  refine jIloadn C dX9_goes_0 rfl 2 rfl ?_
  refine jIstore C dX9_goes_1 (Nat.le_of_ble_eq_true rfl) [(6, .int p2), (0, .ref (h 0)), (1, .int p1), (2, .int p2), (3, .int p3), (4, .int p4), (5, .int p5)] rfl ?_
  have hL8 : ∀ (x6_1 : Int32) (mbem_2 : Int32) (mtrs_3 : Int32) (mtrl_4 : Int32) (mlef_5 : Nat → Int32) (mtak_6 : Nat → Int32) (mbes_7 : Nat → Int32), lfp7 (X9_goes_h3 p3 p4 p1 rgo p5) x6_1 mbem_2 mtrs_3 mtrl_4 mlef_5 mtak_6 mbes_7 = some (rr, ombem, omtrs, omtrl, omlef, omtak, ombes) → J p l e (rmk (d + 2)) s m args below meth c D A Q 11 (mw h cy mthr mfrp mact mtpd msiz matx mfrm mtok mval mfk mfpl mbem_2 mtrs_3 mtrl_4 mrom mtom mnow mfre mkep mtap mlef_5 mtak_6 mbes_7 mrow mint mrnd mplo mhio mtox mtol) 3 [(0, .ref (h 0)), (1, .int p1), (3, .int p3), (4, .int p4), (5, .int p5), (6, .int x6_1)] [] := by
    intro x6_1 mbem_2 mtrs_3 mtrl_4 mlef_5 mtak_6 mbes_7 hw
    refine lfp7_walk (P := fun x6_1 mbem_2 mtrs_3 mtrl_4 mlef_5 mtak_6 mbes_7 => J p l e (rmk (d + 2)) s m args below meth c D A Q 11 (mw h cy mthr mfrp mact mtpd msiz matx mfrm mtok mval mfk mfpl mbem_2 mtrs_3 mtrl_4 mrom mtom mnow mfre mkep mtap mlef_5 mtak_6 mbes_7 mrow mint mrnd mplo mhio mtox mtol) 3 [(0, .ref (h 0)), (1, .int p1), (3, .int p3), (4, .int p4), (5, .int p5), (6, .int x6_1)] []) ?_ hw
    intro r9 ir9 x6_1 mbem_2 mtrs_3 mtrl_4 mlef_5 mtak_6 mbes_7 hf
    unfold X9_goes_h3 at hf
    refine jIload C dX9_goes_3 5 rfl ?_
    refine jIloadn C dX9_goes_5 rfl 2 rfl ?_
    refine jCmpGe C 215 dX9_goes_6 (by decide) (fun c10 => ?_) (fun c10 => ?_)
    · replace hf := itp hf c10
      refine jIconst C (0 : Int32) dX9_goes_215 ki_0 ?_
      cases hf
      exact jEndIZ C hQ rfl nar_z0 dX9_goes_216
    · replace hf := itn hf c10
      refine jIload C dX9_goes_9 3 rfl ?_
      refine jIloadn C dX9_goes_11 rfl 2 rfl ?_
      refine jIadd C dX9_goes_12 ?_
      refine jIload C dX9_goes_13 5 rfl ?_
      refine jIsub C dX9_goes_15 ?_
      refine jAloadn C dX9_goes_16 rfl 0 rfl ?_
      refine gf_RX9_292 C dX9_goes_17 ?_
      refine jCmpLe C 215 dX9_goes_20 (by decide) (fun c11 => ?_) (fun c11 => ?_)
      · replace hf := itp hf c11
        refine jIconst C (0 : Int32) dX9_goes_215 ki_0 ?_
        cases hf
        exact jEndIZ C hQ rfl nar_z0 dX9_goes_216
      · replace hf := itn hf c11
        refine jAloadn C dX9_goes_23 rfl 0 rfl ?_
        refine gf_RX9_295 C dX9_goes_24 ?_
        refine jIfNe C 32 dX9_goes_27 (by decide) (fun c12 => ?_) (fun c12 => ?_)
        · replace hf := itn hf c12
          refine jAloadn C dX9_goes_32 rfl 0 rfl ?_
          refine jDup C dX9_goes_33 rfl ?_
          refine gf_RX9_295 C dX9_goes_34 ?_
          refine jIconst C (1 : Int32) dX9_goes_37 ki_1 ?_
          refine jIsub C dX9_goes_38 ?_
          refine pf_RX9_295 C dX9_goes_39 ?_
          refine jAloadn C dX9_goes_42 rfl 0 rfl ?_
          refine jDup C dX9_goes_43 rfl ?_
          refine gf_RX9_298 C dX9_goes_44 ?_
          refine jIconst C (1 : Int32) dX9_goes_47 ki_1 ?_
          refine jIadd C dX9_goes_48 ?_
          refine pf_RX9_298 C dX9_goes_49 ?_
          refine jAloadn C dX9_goes_52 rfl 0 rfl ?_
          refine gf_RX9_28 C dX9_goes_53 ?_
          refine jIloadn C dX9_goes_56 rfl 1 rfl ?_
          refine jIload C dX9_goes_57 5 rfl ?_
          refine jIadd C dX9_goes_59 ?_
          obtain ⟨z13, hf⟩ := gin_some hf
          refine al_mlef C z13 dX9_goes_60 ?_
          refine jIstore C dX9_goes_61 (Nat.le_of_ble_eq_true rfl) [(7, .int (mlef_5 (p1 + x6_1).toNatClampNeg)), (0, .ref (h 0)), (1, .int p1), (3, .int p3), (4, .int p4), (5, .int p5), (6, .int x6_1)] rfl ?_
          refine jAloadn C dX9_goes_63 rfl 1 rfl ?_
          refine gf_RX9_31 C dX9_goes_64 ?_
          refine jIload C dX9_goes_67 4 rfl ?_
          refine jIload C dX9_goes_69 0 rfl ?_
          obtain ⟨z14, hf⟩ := gin_some hf
          refine as_mtak C z14 dX9_goes_71 ?_
          refine jIconst C (0 : Int32) dX9_goes_72 ki_0 ?_
          refine jIstore C dX9_goes_73 (Nat.le_of_ble_eq_true rfl) [(8, .int (0 : Int32)), (7, .int (mlef_5 (p1 + x6_1).toNatClampNeg)), (0, .ref (h 0)), (1, .int p1), (3, .int p3), (4, .int p4), (5, .int p5), (6, .int x6_1)] rfl ?_
          refine jIload C dX9_goes_75 7 rfl ?_
          refine jIconst C (1 : Int32) dX9_goes_77 ki_1 ?_
          refine jIadd C dX9_goes_78 ?_
          refine jIstore C dX9_goes_79 (Nat.le_of_ble_eq_true rfl) [(9, .int (x6_1 + (1 : Int32))), (8, .int (0 : Int32)), (7, .int (mlef_5 (p1 + x6_1).toNatClampNeg)), (0, .ref (h 0)), (1, .int p1), (3, .int p3), (4, .int p4), (5, .int p5), (6, .int x6_1)] rfl ?_
          have hL18 : ∀ (x8_15 : Int32) (x9_16 : Int32) (mlef_17 : Nat → Int32), lfp3 (X9_goes_h81 p3 p4 mbem_2 rgo mtrs_3 mtrl_4 mtak_6 mlef_5 p1 x6_1 p5 r9 mbes_7) x8_15 x9_16 mlef_17 = some (rr, ombem, omtrs, omtrl, omlef, omtak, ombes) → J p l e (rmk (d + 2)) s m args below meth c D A Q 11 (mw h cy mthr mfrp mact mtpd msiz matx mfrm mtok mval mfk mfpl mbem_2 (mtrs_3 + (1 : Int32)) (mtrl_4 - (1 : Int32)) mrom mtom mnow mfre mkep mtap mlef_17 (upd mtak_6 p4.toNatClampNeg (mlef_5 (p1 + x6_1).toNatClampNeg)) mbes_7 mrow mint mrnd mplo mhio mtox mtol) 81 [(0, .ref (h 0)), (1, .int p1), (3, .int p3), (4, .int p4), (5, .int p5), (6, .int x6_1), (7, .int (mlef_5 (p1 + x6_1).toNatClampNeg)), (8, .int x8_15), (9, .int x9_16)] [] := by
            intro x8_15 x9_16 mlef_17 hw
            refine lfp3_walk (P := fun x8_15 x9_16 mlef_17 => J p l e (rmk (d + 2)) s m args below meth c D A Q 11 (mw h cy mthr mfrp mact mtpd msiz matx mfrm mtok mval mfk mfpl mbem_2 (mtrs_3 + (1 : Int32)) (mtrl_4 - (1 : Int32)) mrom mtom mnow mfre mkep mtap mlef_17 (upd mtak_6 p4.toNatClampNeg (mlef_5 (p1 + x6_1).toNatClampNeg)) mbes_7 mrow mint mrnd mplo mhio mtox mtol) 81 [(0, .ref (h 0)), (1, .int p1), (3, .int p3), (4, .int p4), (5, .int p5), (6, .int x6_1), (7, .int (mlef_5 (p1 + x6_1).toNatClampNeg)), (8, .int x8_15), (9, .int x9_16)] []) ?_ hw
            intro r19 ir19 x8_15 x9_16 mlef_17 hf
            unfold X9_goes_h81 at hf
            refine jIload C dX9_goes_81 8 rfl ?_
            refine jIloadn C dX9_goes_83 rfl 2 rfl ?_
            refine jCmpGe C 137 dX9_goes_84 (by decide) (fun c20 => ?_) (fun c20 => ?_)
            · replace hf := itp hf c20
              refine jIload C dX9_goes_137 3 rfl ?_
              refine jIconst C (1 : Int32) dX9_goes_139 ki_1 ?_
              refine jIadd C dX9_goes_140 ?_
              refine jAloadn C dX9_goes_141 rfl 0 rfl ?_
              refine gf_RX9_292 C dX9_goes_142 ?_
              have hL23 : ∀ (mbem_21 : Int32) (mbes_22 : Nat → Int32), X9_goes_j186 rgo mtrs_3 mtrl_4 mlef_17 mtak_6 p4 mlef_5 p1 x6_1 x8_15 p5 r9 mbem_21 mbes_22 = some (rr, ombem, omtrs, omtrl, omlef, omtak, ombes) → J p l e (rmk (d + 2)) s m args below meth c D A Q 11 (mw h cy mthr mfrp mact mtpd msiz matx mfrm mtok mval mfk mfpl mbem_21 (mtrs_3 + (1 : Int32)) (mtrl_4 - (1 : Int32)) mrom mtom mnow mfre mkep mtap mlef_17 (upd mtak_6 p4.toNatClampNeg (mlef_5 (p1 + x6_1).toNatClampNeg)) mbes_22 mrow mint mrnd mplo mhio mtox mtol) 186 [(0, .ref (h 0)), (1, .int p1), (3, .int p3), (4, .int p4), (5, .int p5), (6, .int x6_1), (8, .int x8_15)] [] := by
                intro mbem_21 mbes_22 hf
                unfold X9_goes_j186 at hf
                refine jAloadn C dX9_goes_186 rfl 0 rfl ?_
                refine jIloadn C dX9_goes_187 rfl 1 rfl ?_
                refine jSipush C (128 : Int32) dX9_goes_188 ks_128 ?_
                refine jIadd C dX9_goes_191 ?_
                refine jIconst C (0 : Int32) dX9_goes_192 ki_0 ?_
                refine jIload C dX9_goes_193 6 rfl ?_
                refine jIload C dX9_goes_195 3 rfl ?_
                refine jIconst C (1 : Int32) dX9_goes_197 ki_1 ?_
                refine jIadd C dX9_goes_198 ?_
                refine jIload C dX9_goes_199 4 rfl ?_
                obtain ⟨q24, mbem_25, mtrs_26, mtrl_27, mlef_28, mtak_29, mbes_30, e31, hf⟩ := bd7_some hf
                refine jVI C (ih  e31) vb_X9_goes mk_RX9_304 rfl rcM (rmkR (by omega) (by decide)) rfl (Nat.le_of_ble_eq_true rfl) dX9_goes_201 ?_
                refine jIfEq C 209 dX9_goes_204 (by decide) (fun c32 => ?_) (fun c32 => ?_)
                · replace hf := itp hf c32
                  refine jIinc C (x6_1 + (1 : Int32)) dX9_goes_209 5 rfl (congrArg (fun z : Int32 => x6_1 + z) ki_1) (Nat.le_of_ble_eq_true rfl) [(6, .int (x6_1 + (1 : Int32))), (0, .ref (h 0)), (1, .int p1), (3, .int p3), (4, .int p4), (5, .int p5), (8, .int x8_15)] rfl ?_
                  refine jGoto C 3 dX9_goes_212 (by decide) ?_
                  refine jSub [1, 2, 3, 4, 5, 0] rfl ?_
                  exact ir9 (x6_1 + (1 : Int32)) mbem_25 mtrs_26 mtrl_27 mlef_28 mtak_29 mbes_30 hf
                · replace hf := itn hf c32
                  refine jIconst C (1 : Int32) dX9_goes_207 ki_1 ?_
                  cases hf
                  exact jEndIZ C hQ rfl nar_z1 dX9_goes_208
              refine jCmpLe C 186 dX9_goes_145 (by decide) (fun c33 => ?_) (fun c33 => ?_)
              · replace hf := itp hf c33
                refine jSub [0, 1, 2, 3, 4, 5, 7] rfl ?_
                exact hL23 mbem_2 mbes_7 hf
              · replace hf := itn hf c33
                refine jAloadn C dX9_goes_148 rfl 0 rfl ?_
                refine jIload C dX9_goes_149 3 rfl ?_
                refine jIconst C (1 : Int32) dX9_goes_151 ki_1 ?_
                refine jIadd C dX9_goes_152 ?_
                refine pf_RX9_292 C dX9_goes_153 ?_
                refine jIconst C (0 : Int32) dX9_goes_156 ki_0 ?_
                refine jIstore C dX9_goes_157 (Nat.le_of_ble_eq_true rfl) [(9, .int (0 : Int32)), (0, .ref (h 0)), (1, .int p1), (3, .int p3), (4, .int p4), (5, .int p5), (6, .int x6_1), (7, .int (mlef_5 (p1 + x6_1).toNatClampNeg)), (8, .int x8_15)] rfl ?_
                have hL36 : ∀ (x9_34 : Int32) (mbes_35 : Nat → Int32), lfp2 (X9_goes_h159 p4 rgo mtrs_3 mtrl_4 mlef_17 mtak_6 mlef_5 p1 x6_1 x8_15 p5 r9) x9_34 mbes_35 = some (rr, ombem, omtrs, omtrl, omlef, omtak, ombes) → J p l e (rmk (d + 2)) s m args below meth c D A Q 11 (mw h cy mthr mfrp mact mtpd msiz matx mfrm mtok mval mfk mfpl (p4 + (1 : Int32)) (mtrs_3 + (1 : Int32)) (mtrl_4 - (1 : Int32)) mrom mtom mnow mfre mkep mtap mlef_17 (upd mtak_6 p4.toNatClampNeg (mlef_5 (p1 + x6_1).toNatClampNeg)) mbes_35 mrow mint mrnd mplo mhio mtox mtol) 159 [(0, .ref (h 0)), (1, .int p1), (3, .int p3), (4, .int p4), (5, .int p5), (6, .int x6_1), (8, .int x8_15), (9, .int x9_34)] [] := by
                  intro x9_34 mbes_35 hw
                  refine lfp2_walk (P := fun x9_34 mbes_35 => J p l e (rmk (d + 2)) s m args below meth c D A Q 11 (mw h cy mthr mfrp mact mtpd msiz matx mfrm mtok mval mfk mfpl (p4 + (1 : Int32)) (mtrs_3 + (1 : Int32)) (mtrl_4 - (1 : Int32)) mrom mtom mnow mfre mkep mtap mlef_17 (upd mtak_6 p4.toNatClampNeg (mlef_5 (p1 + x6_1).toNatClampNeg)) mbes_35 mrow mint mrnd mplo mhio mtox mtol) 159 [(0, .ref (h 0)), (1, .int p1), (3, .int p3), (4, .int p4), (5, .int p5), (6, .int x6_1), (8, .int x8_15), (9, .int x9_34)] []) ?_ hw
                  intro r37 ir37 x9_34 mbes_35 hf
                  unfold X9_goes_h159 at hf
                  refine jIload C dX9_goes_159 7 rfl ?_
                  refine jIload C dX9_goes_161 3 rfl ?_
                  refine jCmpGt C 186 dX9_goes_163 (by decide) (fun c38 => ?_) (fun c38 => ?_)
                  · replace hf := itp hf c38
                    refine jSub [0, 1, 2, 3, 4, 5, 6] rfl ?_
                    exact hL23 (p4 + (1 : Int32)) mbes_35 hf
                  · replace hf := itn hf c38
                    refine jAloadn C dX9_goes_166 rfl 0 rfl ?_
                    refine gf_RX9_34 C dX9_goes_167 ?_
                    refine jIload C dX9_goes_170 7 rfl ?_
                    refine jAloadn C dX9_goes_172 rfl 0 rfl ?_
                    refine gf_RX9_31 C dX9_goes_173 ?_
                    refine jIload C dX9_goes_176 7 rfl ?_
                    obtain ⟨z39, hf⟩ := gin_some hf
                    refine al_mtak C z39 dX9_goes_178 ?_
                    obtain ⟨z40, hf⟩ := gin_some hf
                    refine as_mbes C z40 dX9_goes_179 ?_
                    refine jIinc C (x9_34 + (1 : Int32)) dX9_goes_180 7 rfl (congrArg (fun z : Int32 => x9_34 + z) ki_1) (Nat.le_of_ble_eq_true rfl) [(9, .int (x9_34 + (1 : Int32))), (0, .ref (h 0)), (1, .int p1), (3, .int p3), (4, .int p4), (5, .int p5), (6, .int x6_1), (8, .int x8_15)] rfl ?_
                    refine jGoto C 159 dX9_goes_183 (by decide) ?_
                    refine jSub [1, 2, 3, 4, 5, 6, 7, 0] rfl ?_
                    exact ir37 (x9_34 + (1 : Int32)) (upd mbes_35 x9_34.toNatClampNeg ((upd mtak_6 p4.toNatClampNeg (mlef_5 (p1 + x6_1).toNatClampNeg)) x9_34.toNatClampNeg)) hf
                refine jSub [1, 2, 3, 4, 5, 6, 8, 0] rfl ?_
                exact hL36 (0 : Int32) mbes_7 hf
            · replace hf := itn hf c20
              refine jAloadn C dX9_goes_87 rfl 0 rfl ?_
              refine gf_RX9_28 C dX9_goes_88 ?_
              refine jIloadn C dX9_goes_91 rfl 1 rfl ?_
              refine jIload C dX9_goes_92 8 rfl ?_
              refine jIadd C dX9_goes_94 ?_
              obtain ⟨z41, hf⟩ := gin_some hf
              refine al_mlef C z41 dX9_goes_95 ?_
              refine jIstore C dX9_goes_96 (Nat.le_of_ble_eq_true rfl) [(10, .int (mlef_17 (p1 + x9_16).toNatClampNeg)), (0, .ref (h 0)), (1, .int p1), (3, .int p3), (4, .int p4), (5, .int p5), (6, .int x6_1), (7, .int (mlef_5 (p1 + x6_1).toNatClampNeg)), (8, .int x8_15), (9, .int x9_16)] rfl ?_
              refine jIload C dX9_goes_98 7 rfl ?_
              refine jIload C dX9_goes_100 0 rfl ?_
              refine jIload C dX9_goes_102 5 rfl ?_
              obtain ⟨q42, e43, hf⟩ := bd1_some hf
              refine jSI C (X9_gosWith_ok  e43) sb_X9_gosWith mk_RX9_301 rfl (rmkR (by omega) (by decide)) rfl (Nat.le_of_ble_eq_true rfl) dX9_goes_104 ?_
              refine jIfNe C 113 dX9_goes_107 (by decide) (fun c44 => ?_) (fun c44 => ?_)
              · replace hf := itn hf c44
                refine jAloadn C dX9_goes_113 rfl 1 rfl ?_
                refine gf_RX9_28 C dX9_goes_114 ?_
                refine jIloadn C dX9_goes_117 rfl 2 rfl ?_
                refine jSipush C (128 : Int32) dX9_goes_118 ks_128 ?_
                refine jIadd C dX9_goes_121 ?_
                refine jIload C dX9_goes_122 8 rfl ?_
                refine jIadd C dX9_goes_124 ?_
                refine jIload C dX9_goes_125 0 rfl ?_
                obtain ⟨z45, hf⟩ := gin_some hf
                refine as_mlef C z45 dX9_goes_127 ?_
                refine jIinc C (x8_15 + (1 : Int32)) dX9_goes_128 8 rfl (congrArg (fun z : Int32 => x8_15 + z) ki_1) (Nat.le_of_ble_eq_true rfl) [(8, .int (x8_15 + (1 : Int32))), (10, .int (mlef_17 (p1 + x9_16).toNatClampNeg)), (0, .ref (h 0)), (1, .int p1), (3, .int p3), (4, .int p4), (5, .int p5), (6, .int x6_1), (7, .int (mlef_5 (p1 + x6_1).toNatClampNeg)), (9, .int x9_16)] rfl ?_
                refine jIinc C (x9_16 + (1 : Int32)) dX9_goes_131 9 rfl (congrArg (fun z : Int32 => x9_16 + z) ki_1) (Nat.le_of_ble_eq_true rfl) [(9, .int (x9_16 + (1 : Int32))), (8, .int (x8_15 + (1 : Int32))), (10, .int (mlef_17 (p1 + x9_16).toNatClampNeg)), (0, .ref (h 0)), (1, .int p1), (3, .int p3), (4, .int p4), (5, .int p5), (6, .int x6_1), (7, .int (mlef_5 (p1 + x6_1).toNatClampNeg))] rfl ?_
                refine jGoto C 81 dX9_goes_134 (by decide) ?_
                refine jSub [3, 4, 5, 6, 7, 8, 9, 1, 0] rfl ?_
                exact ir19 (x8_15 + (1 : Int32)) (x9_16 + (1 : Int32)) (upd mlef_17 ((p1 + (128 : Int32)) + x8_15).toNatClampNeg (mlef_17 (p1 + x9_16).toNatClampNeg)) hf
              · replace hf := itp hf c44
                refine jGoto C 131 dX9_goes_110 (by decide) ?_
                refine jIinc C (x9_16 + (1 : Int32)) dX9_goes_131 9 rfl (congrArg (fun z : Int32 => x9_16 + z) ki_1) (Nat.le_of_ble_eq_true rfl) [(9, .int (x9_16 + (1 : Int32))), (10, .int (mlef_17 (p1 + x9_16).toNatClampNeg)), (0, .ref (h 0)), (1, .int p1), (3, .int p3), (4, .int p4), (5, .int p5), (6, .int x6_1), (7, .int (mlef_5 (p1 + x6_1).toNatClampNeg)), (8, .int x8_15)] rfl ?_
                refine jGoto C 81 dX9_goes_134 (by decide) ?_
                refine jSub [2, 3, 4, 5, 6, 7, 8, 9, 0] rfl ?_
                exact ir19 x8_15 (x9_16 + (1 : Int32)) mlef_17 hf
          refine jSub [3, 4, 5, 6, 7, 8, 2, 1, 0] rfl ?_
          exact hL18 (0 : Int32) (x6_1 + (1 : Int32)) mlef_5 hf
        · replace hf := itp hf c12
          refine jIconst C (1 : Int32) dX9_goes_30 ki_1 ?_
          cases hf
          exact jEndIZ C hQ rfl nar_z1 dX9_goes_31
  refine jSub [1, 2, 4, 5, 6, 0] rfl ?_
  exact hL8 p2 mbem mtrs mtrl mlef mtak mbes hf
noncomputable def X9_goes (mbem : Int32) (mtrs : Int32) (mtrl : Int32) (mlef : Nat → Int32) (mtak : Nat → Int32) (mbes : Nat → Int32) (p1 : Int32) (p2 : Int32) (p3 : Int32) (p4 : Int32) (p5 : Int32) : Option (Int32 × Int32 × Int32 × Int32 × (Nat → Int32) × (Nat → Int32) × (Nat → Int32)) := X9_goesF 130 mbem mtrs mtrl mlef mtak mbes p1 p2 p3 p4 p5
theorem X9_goes_ok {p1 : Int32} {p2 : Int32} {p3 : Int32} {p4 : Int32} {p5 : Int32} {rr : Int32} {ombem : Int32} {omtrs : Int32} {omtrl : Int32} {omlef : Nat → Int32} {omtak : Nat → Int32} {ombes : Nat → Int32} (hf : X9_goes mbem mtrs mtrl mlef mtak mbes p1 p2 p3 p4 p5 = some (rr, ombem, omtrs, omtrl, omlef, omtak, ombes)) : MT yX9_goes cX9_goes 11 (some .boolean) 131 [.ref (h 0), .int p1, .int p2, .int p3, .int p4, .int p5] D cy G (mw h cy mthr mfrp mact mtpd msiz matx mfrm mtok mval mfk mfpl mbem mtrs mtrl mrom mtom mnow mfre mkep mtap mlef mtak mbes mrow mint mrnd mplo mhio mtox mtol) (mw h cy mthr mfrp mact mtpd msiz matx mfrm mtok mval mfk mfpl ombem omtrs omtrl mrom mtom mnow mfre mkep mtap omlef omtak ombes mrow mint mrnd mplo mhio mtox mtol) (some (.int rr)) := X9_goes_okd 130 mbem mtrs mtrl mlef mtak mbes p1 p2 p3 p4 p5 rr ombem omtrs omtrl omlef omtak ombes hf
noncomputable def X9_searches_h14 (p3 : Int32) (mtak : Nat → Int32) (mbes : Nat → Int32) (p2 : Int32) (mnow : Nat → Int32) (p1 : Int32) (r7 : Int32 → Int32 → (Nat → Int32) → Option (Int32 × Int32 × Int32 × Int32 × (Nat → Int32) × (Nat → Int32) × (Nat → Int32))) (x4_3 : Int32) (x5_4 : Int32) (mlef_5 : Nat → Int32) : Option (Int32 × Int32 × Int32 × Int32 × (Nat → Int32) × (Nat → Int32) × (Nat → Int32)) := (if (128 : Int32) ≤ x5_4 then bd7 (X9_goes (0 : Int32) (0 : Int32) p3 mlef_5 mtak mbes (0 : Int32) (0 : Int32) x4_3 (0 : Int32) p2) (fun q9 mbem_10 mtrs_11 mtrl_12 mlef_13 mtak_14 mbes_15 => gbo q9 (some (q9, mbem_10, mtrs_11, mtrl_12, mlef_13, mtak_14, mbes_15))) else bd1 (X9_isIn mnow p1 x5_4) (fun q18 => (if q18 = (0 : Int32) then r7 x4_3 (x5_4 + (1 : Int32)) mlef_5 else gin x4_3 16384 (r7 (x4_3 + (1 : Int32)) (x5_4 + (1 : Int32)) (upd mlef_5 x4_3.toNatClampNeg x5_4)))))
noncomputable def X9_searches_j12 (p3 : Int32) (mtak : Nat → Int32) (mbes : Nat → Int32) (p2 : Int32) (mnow : Nat → Int32) (p1 : Int32) (mlef : Nat → Int32) (y1 : Int32) : Option (Int32 × Int32 × Int32 × Int32 × (Nat → Int32) × (Nat → Int32) × (Nat → Int32)) := lfp3 (X9_searches_h14 p3 mtak mbes p2 mnow p1) (0 : Int32) y1 mlef
noncomputable def X9_searches (mnow : Nat → Int32) (mlef : Nat → Int32) (mtak : Nat → Int32) (mbes : Nat → Int32) (p1 : Int32) (p2 : Int32) (p3 : Int32) : Option (Int32 × Int32 × Int32 × Int32 × (Nat → Int32) × (Nat → Int32) × (Nat → Int32)) := (if p2 = (0 : Int32) then X9_searches_j12 p3 mtak mbes p2 mnow p1 mlef (1 : Int32) else X9_searches_j12 p3 mtak mbes p2 mnow p1 mlef (0 : Int32))
set_option maxHeartbeats 4000000 in
set_option maxRecDepth 20000 in
theorem X9_searches_ok {p1 : Int32} {p2 : Int32} {p3 : Int32} {rr : Int32} {ombem : Int32} {omtrs : Int32} {omtrl : Int32} {omlef : Nat → Int32} {omtak : Nat → Int32} {ombes : Nat → Int32}  (hf : X9_searches mnow mlef mtak mbes p1 p2 p3 = some (rr, ombem, omtrs, omtrl, omlef, omtak, ombes)) : MT yX9_searches cX9_searches 6 (some .boolean) 132 [.ref (h 0), .int p1, .int p2, .int p3] D cy G (mw h cy mthr mfrp mact mtpd msiz matx mfrm mtok mval mfk mfpl mbem mtrs mtrl mrom mtom mnow mfre mkep mtap mlef mtak mbes mrow mint mrnd mplo mhio mtox mtol) (mw h cy mthr mfrp mact mtpd msiz matx mfrm mtok mval mfk mfpl ombem omtrs omtrl mrom mtom mnow mfre mkep mtap omlef omtak ombes mrow mint mrnd mplo mhio mtox mtol) (some (.int rr)) := by
  refine MT.go (own := RX9) [(0, .ref (h 0)), (1, .int p1), (2, .int p2), (3, .int p3)] (by decide) rfl (Nat.le_of_ble_eq_true rfl) rfl (fun p l e s m args below meth c A Q C hQ => ?_)
  unfold X9_searches at hf
  refine jIconst C (0 : Int32) dX9_searches_0 ki_0 ?_
  refine jIstore C dX9_searches_1 (Nat.le_of_ble_eq_true rfl) [(4, .int (0 : Int32)), (0, .ref (h 0)), (1, .int p1), (2, .int p2), (3, .int p3)] rfl ?_
  refine jIloadn C dX9_searches_3 rfl 3 rfl ?_
  have hL2 : ∀ (y1 : Int32), X9_searches_j12 p3 mtak mbes p2 mnow p1 mlef y1 = some (rr, ombem, omtrs, omtrl, omlef, omtak, ombes) → J p l e (rmk 132) s m args below meth c D A Q 6 (mw h cy mthr mfrp mact mtpd msiz matx mfrm mtok mval mfk mfpl mbem mtrs mtrl mrom mtom mnow mfre mkep mtap mlef mtak mbes mrow mint mrnd mplo mhio mtox mtol) 12 [(0, .ref (h 0)), (1, .int p1), (2, .int p2), (3, .int p3), (4, .int (0 : Int32))] [.int y1] := by
    intro y1 hf
    unfold X9_searches_j12 at hf
    refine jIstore C dX9_searches_12 (Nat.le_of_ble_eq_true rfl) [(5, .int y1), (0, .ref (h 0)), (1, .int p1), (2, .int p2), (3, .int p3), (4, .int (0 : Int32))] rfl ?_
    have hL6 : ∀ (x4_3 : Int32) (x5_4 : Int32) (mlef_5 : Nat → Int32), lfp3 (X9_searches_h14 p3 mtak mbes p2 mnow p1) x4_3 x5_4 mlef_5 = some (rr, ombem, omtrs, omtrl, omlef, omtak, ombes) → J p l e (rmk 132) s m args below meth c D A Q 6 (mw h cy mthr mfrp mact mtpd msiz matx mfrm mtok mval mfk mfpl mbem mtrs mtrl mrom mtom mnow mfre mkep mtap mlef_5 mtak mbes mrow mint mrnd mplo mhio mtox mtol) 14 [(0, .ref (h 0)), (1, .int p1), (2, .int p2), (3, .int p3), (4, .int x4_3), (5, .int x5_4)] [] := by
      intro x4_3 x5_4 mlef_5 hw
      refine lfp3_walk (P := fun x4_3 x5_4 mlef_5 => J p l e (rmk 132) s m args below meth c D A Q 6 (mw h cy mthr mfrp mact mtpd msiz matx mfrm mtok mval mfk mfpl mbem mtrs mtrl mrom mtom mnow mfre mkep mtap mlef_5 mtak mbes mrow mint mrnd mplo mhio mtox mtol) 14 [(0, .ref (h 0)), (1, .int p1), (2, .int p2), (3, .int p3), (4, .int x4_3), (5, .int x5_4)] []) ?_ hw
      intro r7 ir7 x4_3 x5_4 mlef_5 hf
      unfold X9_searches_h14 at hf
      refine jIload C dX9_searches_14 5 rfl ?_
      refine jSipush C (128 : Int32) dX9_searches_16 ks_128 ?_
      refine jCmpGe C 53 dX9_searches_19 (by decide) (fun c8 => ?_) (fun c8 => ?_)
      · replace hf := itp hf c8
        refine jAloadn C dX9_searches_53 rfl 0 rfl ?_
        refine jIconst C (0 : Int32) dX9_searches_54 ki_0 ?_
        refine pf_RX9_292 C dX9_searches_55 ?_
        refine jAloadn C dX9_searches_58 rfl 0 rfl ?_
        refine jIconst C (0 : Int32) dX9_searches_59 ki_0 ?_
        refine pf_RX9_298 C dX9_searches_60 ?_
        refine jAloadn C dX9_searches_63 rfl 0 rfl ?_
        refine jIloadn C dX9_searches_64 rfl 3 rfl ?_
        refine pf_RX9_295 C dX9_searches_65 ?_
        refine jAloadn C dX9_searches_68 rfl 0 rfl ?_
        refine jIconst C (0 : Int32) dX9_searches_69 ki_0 ?_
        refine jIconst C (0 : Int32) dX9_searches_70 ki_0 ?_
        refine jIload C dX9_searches_71 4 rfl ?_
        refine jIconst C (0 : Int32) dX9_searches_73 ki_0 ?_
        refine jIloadn C dX9_searches_74 rfl 2 rfl ?_
        obtain ⟨q9, mbem_10, mtrs_11, mtrl_12, mlef_13, mtak_14, mbes_15, e16, hf⟩ := bd7_some hf
        refine jVI C (X9_goes_ok  e16) vb_X9_goes mk_RX9_304 rfl rcM ⟨Nat.le_of_ble_eq_true rfl, Nat.le_of_ble_eq_true rfl⟩ rfl (Nat.le_of_ble_eq_true rfl) dX9_searches_75 ?_
        obtain ⟨z17, hf⟩ := gbo_some hf
        cases hf
        exact jEndIZ C hQ rfl z17 dX9_searches_78
      · replace hf := itn hf c8
        refine jAloadn C dX9_searches_22 rfl 0 rfl ?_
        refine jIloadn C dX9_searches_23 rfl 1 rfl ?_
        refine jIload C dX9_searches_24 5 rfl ?_
        obtain ⟨q18, e19, hf⟩ := bd1_some hf
        refine jVI C (X9_isIn_ok  e19) vb_X9_isIn mk_RX9_81 rfl rcM ⟨Nat.le_of_ble_eq_true rfl, Nat.le_of_ble_eq_true rfl⟩ rfl (Nat.le_of_ble_eq_true rfl) dX9_searches_26 ?_
        refine jIfNe C 35 dX9_searches_29 (by decide) (fun c20 => ?_) (fun c20 => ?_)
        · replace hf := itn hf c20
          refine jAloadn C dX9_searches_35 rfl 0 rfl ?_
          refine gf_RX9_28 C dX9_searches_36 ?_
          refine jIload C dX9_searches_39 4 rfl ?_
          refine jIload C dX9_searches_41 5 rfl ?_
          obtain ⟨z21, hf⟩ := gin_some hf
          refine as_mlef C z21 dX9_searches_43 ?_
          refine jIinc C (x4_3 + (1 : Int32)) dX9_searches_44 4 rfl (congrArg (fun z : Int32 => x4_3 + z) ki_1) (Nat.le_of_ble_eq_true rfl) [(4, .int (x4_3 + (1 : Int32))), (0, .ref (h 0)), (1, .int p1), (2, .int p2), (3, .int p3), (5, .int x5_4)] rfl ?_
          refine jIinc C (x5_4 + (1 : Int32)) dX9_searches_47 5 rfl (congrArg (fun z : Int32 => x5_4 + z) ki_1) (Nat.le_of_ble_eq_true rfl) [(5, .int (x5_4 + (1 : Int32))), (4, .int (x4_3 + (1 : Int32))), (0, .ref (h 0)), (1, .int p1), (2, .int p2), (3, .int p3)] rfl ?_
          refine jGoto C 14 dX9_searches_50 (by decide) ?_
          refine jSub [2, 3, 4, 5, 1, 0] rfl ?_
          exact ir7 (x4_3 + (1 : Int32)) (x5_4 + (1 : Int32)) (upd mlef_5 x4_3.toNatClampNeg x5_4) hf
        · replace hf := itp hf c20
          refine jGoto C 47 dX9_searches_32 (by decide) ?_
          refine jIinc C (x5_4 + (1 : Int32)) dX9_searches_47 5 rfl (congrArg (fun z : Int32 => x5_4 + z) ki_1) (Nat.le_of_ble_eq_true rfl) [(5, .int (x5_4 + (1 : Int32))), (0, .ref (h 0)), (1, .int p1), (2, .int p2), (3, .int p3), (4, .int x4_3)] rfl ?_
          refine jGoto C 14 dX9_searches_50 (by decide) ?_
          refine jSub [1, 2, 3, 4, 5, 0] rfl ?_
          exact ir7 x4_3 (x5_4 + (1 : Int32)) mlef_5 hf
    refine jSub [1, 2, 3, 4, 5, 0] rfl ?_
    exact hL6 (0 : Int32) y1 mlef hf
  refine jIfNe C 11 dX9_searches_4 (by decide) (fun c22 => ?_) (fun c22 => ?_)
  · replace hf := itn hf c22
    refine jIconst C (0 : Int32) dX9_searches_11 ki_0 ?_
    refine jSub [1, 2, 3, 4, 0] rfl ?_
    exact hL2 (0 : Int32) hf
  · replace hf := itp hf c22
    refine jIconst C (1 : Int32) dX9_searches_7 ki_1 ?_
    refine jGoto C 12 dX9_searches_8 (by decide) ?_
    refine jSub [1, 2, 3, 4, 0] rfl ?_
    exact hL2 (1 : Int32) hf
noncomputable def X9_most (mbem : Int32) (mtrs : Int32) (mtrl : Int32) (mnow : Nat → Int32) (mlef : Nat → Int32) (mtak : Nat → Int32) (mbes : Nat → Int32) (p1 : Int32) (p2 : Int32) (p3 : Int32) : Option (Int32 × Int32 × Int32 × Int32 × (Nat → Int32) × (Nat → Int32) × (Nat → Int32)) := bd1 (X9_hasOne mnow p1) (fun q1 => (if q1 = (0 : Int32) then some ((-2 : Int32), mbem, mtrs, mtrl, mlef, mtak, mbes) else bd1 (X9_in (p2.toInt64) (0 : Int64) (3 : Int64)) (fun q4 => (if q4 = (0 : Int32) then some ((-2 : Int32), mbem, mtrs, mtrl, mlef, mtak, mbes) else bd1 (X9_in (p3.toInt64) (1 : Int64) (50000 : Int64)) (fun q7 => (if q7 = (0 : Int32) then some ((-2 : Int32), mbem, mtrs, mtrl, mlef, mtak, mbes) else bd7 (X9_searches mnow mlef mtak mbes p1 p2 p3) (fun q10 mbem_11 mtrs_12 mtrl_13 mlef_14 mtak_15 mbes_16 => (if q10 = (0 : Int32) then some (mbem_11, mbem_11, mtrs_12, mtrl_13, mlef_14, mtak_15, mbes_16) else some ((-3 : Int32), mbem_11, mtrs_12, mtrl_13, mlef_14, mtak_15, mbes_16)))))))))
set_option maxHeartbeats 4000000 in
set_option maxRecDepth 20000 in
theorem X9_most_ok {p1 : Int32} {p2 : Int32} {p3 : Int32} {rr : Int32} {ombem : Int32} {omtrs : Int32} {omtrl : Int32} {omlef : Nat → Int32} {omtak : Nat → Int32} {ombes : Nat → Int32}  (hf : X9_most mbem mtrs mtrl mnow mlef mtak mbes p1 p2 p3 = some (rr, ombem, omtrs, omtrl, omlef, omtak, ombes)) : MT yX9_most cX9_most 4 (some .int) 133 [.ref (h 0), .int p1, .int p2, .int p3] D cy G (mw h cy mthr mfrp mact mtpd msiz matx mfrm mtok mval mfk mfpl mbem mtrs mtrl mrom mtom mnow mfre mkep mtap mlef mtak mbes mrow mint mrnd mplo mhio mtox mtol) (mw h cy mthr mfrp mact mtpd msiz matx mfrm mtok mval mfk mfpl ombem omtrs omtrl mrom mtom mnow mfre mkep mtap omlef omtak ombes mrow mint mrnd mplo mhio mtox mtol) (some (.int rr)) := by
  refine MT.go (own := RX9) [(0, .ref (h 0)), (1, .int p1), (2, .int p2), (3, .int p3)] (by decide) rfl (Nat.le_of_ble_eq_true rfl) rfl (fun p l e s m args below meth c A Q C hQ => ?_)
  unfold X9_most at hf
  refine jAloadn C dX9_most_0 rfl 0 rfl ?_
  refine jIloadn C dX9_most_1 rfl 1 rfl ?_
  obtain ⟨q1, e2, hf⟩ := bd1_some hf
  refine jVI C (X9_hasOne_ok  e2) vb_X9_hasOne mk_RX9_75 rfl rcM ⟨Nat.le_of_ble_eq_true rfl, Nat.le_of_ble_eq_true rfl⟩ rfl (Nat.le_of_ble_eq_true rfl) dX9_most_2 ?_
  refine jIfEq C 32 dX9_most_5 (by decide) (fun c3 => ?_) (fun c3 => ?_)
  · replace hf := itp hf c3
    refine jBipush C (-2 : Int32) dX9_most_32 kb_m2 ?_
    cases hf
    exact jEndI C hQ rfl dX9_most_34
  · replace hf := itn hf c3
    refine jIloadn C dX9_most_8 rfl 2 rfl ?_
    refine jI2l C dX9_most_9 ?_
    refine jLconst C (0 : Int64) dX9_most_10 rfl ?_
    refine jLdc2 C (x := (3 : Int64)) lk_RX9_308 dX9_most_11 ?_
    obtain ⟨q4, e5, hf⟩ := bd1_some hf
    refine jSI C (X9_in_ok  e5) sb_X9_in mk_RX9_63 rfl ⟨Nat.le_of_ble_eq_true rfl, Nat.le_of_ble_eq_true rfl⟩ rfl (Nat.le_of_ble_eq_true rfl) dX9_most_14 ?_
    refine jIfEq C 32 dX9_most_17 (by decide) (fun c6 => ?_) (fun c6 => ?_)
    · replace hf := itp hf c6
      refine jBipush C (-2 : Int32) dX9_most_32 kb_m2 ?_
      cases hf
      exact jEndI C hQ rfl dX9_most_34
    · replace hf := itn hf c6
      refine jIloadn C dX9_most_20 rfl 3 rfl ?_
      refine jI2l C dX9_most_21 ?_
      refine jLconst C (1 : Int64) dX9_most_22 rfl ?_
      refine jLdc2 C (x := (50000 : Int64)) lk_RX9_310 dX9_most_23 ?_
      obtain ⟨q7, e8, hf⟩ := bd1_some hf
      refine jSI C (X9_in_ok  e8) sb_X9_in mk_RX9_63 rfl ⟨Nat.le_of_ble_eq_true rfl, Nat.le_of_ble_eq_true rfl⟩ rfl (Nat.le_of_ble_eq_true rfl) dX9_most_26 ?_
      refine jIfNe C 35 dX9_most_29 (by decide) (fun c9 => ?_) (fun c9 => ?_)
      · replace hf := itn hf c9
        refine jAloadn C dX9_most_35 rfl 0 rfl ?_
        refine jIloadn C dX9_most_36 rfl 1 rfl ?_
        refine jIloadn C dX9_most_37 rfl 2 rfl ?_
        refine jIloadn C dX9_most_38 rfl 3 rfl ?_
        obtain ⟨q10, mbem_11, mtrs_12, mtrl_13, mlef_14, mtak_15, mbes_16, e17, hf⟩ := bd7_some hf
        refine jVI C (X9_searches_ok  e17) vb_X9_searches mk_RX9_312 rfl rcM ⟨Nat.le_of_ble_eq_true rfl, Nat.le_of_ble_eq_true rfl⟩ rfl (Nat.le_of_ble_eq_true rfl) dX9_most_39 ?_
        refine jIfEq C 50 dX9_most_42 (by decide) (fun c18 => ?_) (fun c18 => ?_)
        · replace hf := itp hf c18
          refine jAloadn C dX9_most_50 rfl 0 rfl ?_
          refine gf_RX9_292 C dX9_most_51 ?_
          cases hf
          exact jEndI C hQ rfl dX9_most_54
        · replace hf := itn hf c18
          refine jBipush C (-3 : Int32) dX9_most_45 kb_m3 ?_
          refine jGoto C 54 dX9_most_47 (by decide) ?_
          cases hf
          exact jEndI C hQ rfl dX9_most_54
      · replace hf := itp hf c9
        refine jBipush C (-2 : Int32) dX9_most_32 kb_m2 ?_
        cases hf
        exact jEndI C hQ rfl dX9_most_34
noncomputable def X9_takes_h68 (mbem_14 : Int32) (mfrp_24 : Int32) (mact : Int32) (mnow : Nat → Int32) (mkep : Nat → Int32) (p4 : Int32) (mtrs_15 : Int32) (mtrl_16 : Int32) (mlef_17 : Nat → Int32) (mtak_18 : Nat → Int32) (mbes_19 : Nat → Int32) (r30 : Int32 → (Nat → Int32) → Option (Int32 × Int32 × Int32 × Int32 × Int32 × Int32 × (Nat → Int32) × (Nat → Int32) × (Nat → Int32) × (Nat → Int32) × (Nat → Int32) × (Nat → Int32))) (x5_27 : Int32) (mfre_28 : Nat → Int32) : Option (Int32 × Int32 × Int32 × Int32 × Int32 × Int32 × (Nat → Int32) × (Nat → Int32) × (Nat → Int32) × (Nat → Int32) × (Nat → Int32) × (Nat → Int32)) := (if mbem_14 ≤ x5_27 then bd4 (X9_comes mfrp_24 mact mnow mfre_28 mkep p4) (fun q32 mact_33 mnow_34 mkep_35 => some (mtrs_15, mfrp_24, mact_33, mbem_14, mtrs_15, mtrl_16, mnow_34, mfre_28, mkep_35, mlef_17, mtak_18, mbes_19)) else gin x5_27 128 (gin (mbes_19 x5_27.toNatClampNeg) 128 (r30 (x5_27 + (1 : Int32)) (upd mfre_28 (mbes_19 x5_27.toNatClampNeg).toNatClampNeg (vp_nar .boolean (1 : Int32))))))
noncomputable def X9_takes (mfrp : Int32) (mact : Int32) (mbem : Int32) (mtrs : Int32) (mtrl : Int32) (mnow : Nat → Int32) (mfre : Nat → Int32) (mkep : Nat → Int32) (mlef : Nat → Int32) (mtak : Nat → Int32) (mbes : Nat → Int32) (p1 : Int32) (p2 : Int32) (p3 : Int32) (p4 : Int32) : Option (Int32 × Int32 × Int32 × Int32 × Int32 × Int32 × (Nat → Int32) × (Nat → Int32) × (Nat → Int32) × (Nat → Int32) × (Nat → Int32) × (Nat → Int32)) := bd1 (X9_hasOne mnow p1) (fun q1 => (if q1 = (0 : Int32) then some ((-2 : Int32), mfrp, mact, mbem, mtrs, mtrl, mnow, mfre, mkep, mlef, mtak, mbes) else bd1 (X9_in (p2.toInt64) (0 : Int64) (3 : Int64)) (fun q4 => (if q4 = (0 : Int32) then some ((-2 : Int32), mfrp, mact, mbem, mtrs, mtrl, mnow, mfre, mkep, mlef, mtak, mbes) else bd1 (X9_in (p3.toInt64) (1 : Int64) (50000 : Int64)) (fun q7 => (if q7 = (0 : Int32) then some ((-2 : Int32), mfrp, mact, mbem, mtrs, mtrl, mnow, mfre, mkep, mlef, mtak, mbes) else bd1 (X9_isSlot p4) (fun q10 => (if q10 = (0 : Int32) then some ((-2 : Int32), mfrp, mact, mbem, mtrs, mtrl, mnow, mfre, mkep, mlef, mtak, mbes) else bd7 (X9_searches mnow mlef mtak mbes p1 p2 p3) (fun q13 mbem_14 mtrs_15 mtrl_16 mlef_17 mtak_18 mbes_19 => (if q13 = (0 : Int32) then bd1 (X9_points mnow p1) (fun q22 => bd2 (X9_clearsFresh mfre q22) (fun mfrp_24 mfre_25 => lfp2 (X9_takes_h68 mbem_14 mfrp_24 mact mnow mkep p4 mtrs_15 mtrl_16 mlef_17 mtak_18 mbes_19) (0 : Int32) mfre_25)) else some ((-3 : Int32), mfrp, mact, mbem_14, mtrs_15, mtrl_16, mnow, mfre, mkep, mlef_17, mtak_18, mbes_19)))))))))))
set_option maxHeartbeats 4000000 in
set_option maxRecDepth 20000 in
theorem X9_takes_ok {p1 : Int32} {p2 : Int32} {p3 : Int32} {p4 : Int32} {rr : Int32} {omfrp : Int32} {omact : Int32} {ombem : Int32} {omtrs : Int32} {omtrl : Int32} {omnow : Nat → Int32} {omfre : Nat → Int32} {omkep : Nat → Int32} {omlef : Nat → Int32} {omtak : Nat → Int32} {ombes : Nat → Int32}  (hf : X9_takes mfrp mact mbem mtrs mtrl mnow mfre mkep mlef mtak mbes p1 p2 p3 p4 = some (rr, omfrp, omact, ombem, omtrs, omtrl, omnow, omfre, omkep, omlef, omtak, ombes)) : MT yX9_takes cX9_takes 6 (some .int) 133 [.ref (h 0), .int p1, .int p2, .int p3, .int p4] D cy G (mw h cy mthr mfrp mact mtpd msiz matx mfrm mtok mval mfk mfpl mbem mtrs mtrl mrom mtom mnow mfre mkep mtap mlef mtak mbes mrow mint mrnd mplo mhio mtox mtol) (mw h cy mthr omfrp omact mtpd msiz matx mfrm mtok mval mfk mfpl ombem omtrs omtrl mrom mtom omnow omfre omkep mtap omlef omtak ombes mrow mint mrnd mplo mhio mtox mtol) (some (.int rr)) := by
  refine MT.go (own := RX9) [(0, .ref (h 0)), (1, .int p1), (2, .int p2), (3, .int p3), (4, .int p4)] (by decide) rfl (Nat.le_of_ble_eq_true rfl) rfl (fun p l e s m args below meth c A Q C hQ => ?_)
  unfold X9_takes at hf
  refine jAloadn C dX9_takes_0 rfl 0 rfl ?_
  refine jIloadn C dX9_takes_1 rfl 1 rfl ?_
  obtain ⟨q1, e2, hf⟩ := bd1_some hf
  refine jVI C (X9_hasOne_ok  e2) vb_X9_hasOne mk_RX9_75 rfl rcM ⟨Nat.le_of_ble_eq_true rfl, Nat.le_of_ble_eq_true rfl⟩ rfl (Nat.le_of_ble_eq_true rfl) dX9_takes_2 ?_
  refine jIfEq C 40 dX9_takes_5 (by decide) (fun c3 => ?_) (fun c3 => ?_)
  · replace hf := itp hf c3
    refine jBipush C (-2 : Int32) dX9_takes_40 kb_m2 ?_
    cases hf
    exact jEndI C hQ rfl dX9_takes_42
  · replace hf := itn hf c3
    refine jIloadn C dX9_takes_8 rfl 2 rfl ?_
    refine jI2l C dX9_takes_9 ?_
    refine jLconst C (0 : Int64) dX9_takes_10 rfl ?_
    refine jLdc2 C (x := (3 : Int64)) lk_RX9_308 dX9_takes_11 ?_
    obtain ⟨q4, e5, hf⟩ := bd1_some hf
    refine jSI C (X9_in_ok  e5) sb_X9_in mk_RX9_63 rfl ⟨Nat.le_of_ble_eq_true rfl, Nat.le_of_ble_eq_true rfl⟩ rfl (Nat.le_of_ble_eq_true rfl) dX9_takes_14 ?_
    refine jIfEq C 40 dX9_takes_17 (by decide) (fun c6 => ?_) (fun c6 => ?_)
    · replace hf := itp hf c6
      refine jBipush C (-2 : Int32) dX9_takes_40 kb_m2 ?_
      cases hf
      exact jEndI C hQ rfl dX9_takes_42
    · replace hf := itn hf c6
      refine jIloadn C dX9_takes_20 rfl 3 rfl ?_
      refine jI2l C dX9_takes_21 ?_
      refine jLconst C (1 : Int64) dX9_takes_22 rfl ?_
      refine jLdc2 C (x := (50000 : Int64)) lk_RX9_310 dX9_takes_23 ?_
      obtain ⟨q7, e8, hf⟩ := bd1_some hf
      refine jSI C (X9_in_ok  e8) sb_X9_in mk_RX9_63 rfl ⟨Nat.le_of_ble_eq_true rfl, Nat.le_of_ble_eq_true rfl⟩ rfl (Nat.le_of_ble_eq_true rfl) dX9_takes_26 ?_
      refine jIfEq C 40 dX9_takes_29 (by decide) (fun c9 => ?_) (fun c9 => ?_)
      · replace hf := itp hf c9
        refine jBipush C (-2 : Int32) dX9_takes_40 kb_m2 ?_
        cases hf
        exact jEndI C hQ rfl dX9_takes_42
      · replace hf := itn hf c9
        refine jIload C dX9_takes_32 4 rfl ?_
        obtain ⟨q10, e11, hf⟩ := bd1_some hf
        refine jSI C (X9_isSlot_ok  e11) sb_X9_isSlot mk_RX9_67 rfl ⟨Nat.le_of_ble_eq_true rfl, Nat.le_of_ble_eq_true rfl⟩ rfl (Nat.le_of_ble_eq_true rfl) dX9_takes_34 ?_
        refine jIfNe C 43 dX9_takes_37 (by decide) (fun c12 => ?_) (fun c12 => ?_)
        · replace hf := itn hf c12
          refine jAloadn C dX9_takes_43 rfl 0 rfl ?_
          refine jIloadn C dX9_takes_44 rfl 1 rfl ?_
          refine jIloadn C dX9_takes_45 rfl 2 rfl ?_
          refine jIloadn C dX9_takes_46 rfl 3 rfl ?_
          obtain ⟨q13, mbem_14, mtrs_15, mtrl_16, mlef_17, mtak_18, mbes_19, e20, hf⟩ := bd7_some hf
          refine jVI C (X9_searches_ok  e20) vb_X9_searches mk_RX9_312 rfl rcM ⟨Nat.le_of_ble_eq_true rfl, Nat.le_of_ble_eq_true rfl⟩ rfl (Nat.le_of_ble_eq_true rfl) dX9_takes_47 ?_
          refine jIfEq C 56 dX9_takes_50 (by decide) (fun c21 => ?_) (fun c21 => ?_)
          · replace hf := itp hf c21
            refine jAloadn C dX9_takes_56 rfl 0 rfl ?_
            refine jAloadn C dX9_takes_57 rfl 0 rfl ?_
            refine jIloadn C dX9_takes_58 rfl 1 rfl ?_
            obtain ⟨q22, e23, hf⟩ := bd1_some hf
            refine jVI C (X9_points_ok  e23) vb_X9_points mk_RX9_78 rfl rcM ⟨Nat.le_of_ble_eq_true rfl, Nat.le_of_ble_eq_true rfl⟩ rfl (Nat.le_of_ble_eq_true rfl) dX9_takes_59 ?_
            obtain ⟨mfrp_24, mfre_25, e26, hf⟩ := bd2_some hf
            refine jVV C (X9_clearsFresh_ok  e26) vb_X9_clearsFresh mk_RX9_176 rfl rcM ⟨Nat.le_of_ble_eq_true rfl, Nat.le_of_ble_eq_true rfl⟩ rfl (Nat.le_of_ble_eq_true rfl) dX9_takes_62 ?_
            refine jIconst C (0 : Int32) dX9_takes_65 ki_0 ?_
            refine jIstore C dX9_takes_66 (Nat.le_of_ble_eq_true rfl) [(5, .int (0 : Int32)), (0, .ref (h 0)), (1, .int p1), (2, .int p2), (3, .int p3), (4, .int p4)] rfl ?_
            have hL29 : ∀ (x5_27 : Int32) (mfre_28 : Nat → Int32), lfp2 (X9_takes_h68 mbem_14 mfrp_24 mact mnow mkep p4 mtrs_15 mtrl_16 mlef_17 mtak_18 mbes_19) x5_27 mfre_28 = some (rr, omfrp, omact, ombem, omtrs, omtrl, omnow, omfre, omkep, omlef, omtak, ombes) → J p l e (rmk 133) s m args below meth c D A Q 6 (mw h cy mthr mfrp_24 mact mtpd msiz matx mfrm mtok mval mfk mfpl mbem_14 mtrs_15 mtrl_16 mrom mtom mnow mfre_28 mkep mtap mlef_17 mtak_18 mbes_19 mrow mint mrnd mplo mhio mtox mtol) 68 [(0, .ref (h 0)), (4, .int p4), (5, .int x5_27)] [] := by
              intro x5_27 mfre_28 hw
              refine lfp2_walk (P := fun x5_27 mfre_28 => J p l e (rmk 133) s m args below meth c D A Q 6 (mw h cy mthr mfrp_24 mact mtpd msiz matx mfrm mtok mval mfk mfpl mbem_14 mtrs_15 mtrl_16 mrom mtom mnow mfre_28 mkep mtap mlef_17 mtak_18 mbes_19 mrow mint mrnd mplo mhio mtox mtol) 68 [(0, .ref (h 0)), (4, .int p4), (5, .int x5_27)] []) ?_ hw
              intro r30 ir30 x5_27 mfre_28 hf
              unfold X9_takes_h68 at hf
              refine jIload C dX9_takes_68 2 rfl ?_
              refine jAloadn C dX9_takes_70 rfl 0 rfl ?_
              refine gf_RX9_292 C dX9_takes_71 ?_
              refine jCmpGe C 96 dX9_takes_74 (by decide) (fun c31 => ?_) (fun c31 => ?_)
              · replace hf := itp hf c31
                refine jAloadn C dX9_takes_96 rfl 0 rfl ?_
                refine jIload C dX9_takes_97 1 rfl ?_
                obtain ⟨q32, mact_33, mnow_34, mkep_35, e36, hf⟩ := bd4_some hf
                refine jVI C (X9_comes_ok  e36) vb_X9_comes mk_RX9_188 rfl rcM ⟨Nat.le_of_ble_eq_true rfl, Nat.le_of_ble_eq_true rfl⟩ rfl (Nat.le_of_ble_eq_true rfl) dX9_takes_99 ?_
                refine jIstore C dX9_takes_102 (Nat.le_of_ble_eq_true rfl) [(5, .int q32), (0, .ref (h 0)), (4, .int p4)] rfl ?_
                refine jAloadn C dX9_takes_104 rfl 1 rfl ?_
                refine gf_RX9_298 C dX9_takes_105 ?_
                cases hf
                exact jEndI C hQ rfl dX9_takes_108
              · replace hf := itn hf c31
                refine jAloadn C dX9_takes_77 rfl 0 rfl ?_
                refine gf_RX9_13 C dX9_takes_78 ?_
                refine jAloadn C dX9_takes_81 rfl 0 rfl ?_
                refine gf_RX9_34 C dX9_takes_82 ?_
                refine jIload C dX9_takes_85 2 rfl ?_
                obtain ⟨z37, hf⟩ := gin_some hf
                refine al_mbes C z37 dX9_takes_87 ?_
                refine jIconst C (1 : Int32) dX9_takes_88 ki_1 ?_
                obtain ⟨z38, hf⟩ := gin_some hf
                refine as_mfre C z38 dX9_takes_89 ?_
                refine jIinc C (x5_27 + (1 : Int32)) dX9_takes_90 2 rfl (congrArg (fun z : Int32 => x5_27 + z) ki_1) (Nat.le_of_ble_eq_true rfl) [(5, .int (x5_27 + (1 : Int32))), (0, .ref (h 0)), (4, .int p4)] rfl ?_
                refine jGoto C 68 dX9_takes_93 (by decide) ?_
                refine jSub [1, 2, 0] rfl ?_
                exact ir30 (x5_27 + (1 : Int32)) (upd mfre_28 (mbes_19 x5_27.toNatClampNeg).toNatClampNeg (vp_nar .boolean (1 : Int32))) hf
            refine jSub [1, 5, 0] rfl ?_
            exact hL29 (0 : Int32) mfre_25 hf
          · replace hf := itn hf c21
            refine jBipush C (-3 : Int32) dX9_takes_53 kb_m3 ?_
            cases hf
            exact jEndI C hQ rfl dX9_takes_55
        · replace hf := itp hf c12
          refine jBipush C (-2 : Int32) dX9_takes_40 kb_m2 ?_
          cases hf
          exact jEndI C hQ rfl dX9_takes_42
end WK
