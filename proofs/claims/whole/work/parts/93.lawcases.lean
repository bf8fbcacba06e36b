section LC
variable {p : Program} {l : Launch} {e : Env} {s : State} {m : MethodId} {below : List Frame} {meth : Method} {c : Code} {D : va_G} {cy : Nat → ClassId} {G : Nat → Nat} {A : Nat → Prop} {Q : State → Prop} {b L : Nat} {xs : Nat → Int32} {g h : Nat → Nat}
variable {cP : Nat → Int32} {cLo : Nat → Int64} {cHi : Nat → Int64} {cpl : Nat → Int32} {ctb : Nat → Int32} {ctl : Int32} {ctf : Int32} {ctp : Int32} {ctk : Int32} {cts : Int32} {cth : Int32} {cob : Nat → Int32} {col : Int32} {cso : Nat → Int32} {cha : Int32} {chs : Int32} {cbe : Int32} {ctr : Int32} {cgl : Nat → Int64} {cgh : Nat → Int64} {cll : Nat → Int64} {clh : Nat → Int64} {cta : Nat → Int32} {cme : Nat → Int32} {cps : Int32} {cwh : Nat → Int32} {cal : Nat → Int64} {cah : Nat → Int64} {mthr : Int32} {mfrp : Int32} {mact : Int32} {mtpd : Int32} {msiz : Int32} {matx : Int32} {mfrm : Int32} {mtok : Int32} {mval : Int32} {mfk : Int32} {mfpl : Int32} {mbem : Int32} {mtrs : Int32} {mtrl : Int32} {mrom : Int32} {mtom : Int32} {mnow : Nat → Int32} {mfre : Nat → Int32} {mkep : Nat → Int32} {mtap : Nat → Int32} {mlef : Nat → Int32} {mtak : Nat → Int32} {mbes : Nat → Int32} {mrow : Nat → Int32} {mint : Nat → Int32} {mrnd : Nat → Int32} {mplo : Nat → Int32} {mhio : Nat → Int32} {mtox : Nat → Int32} {mtol : Nat → Int32}
set_option maxHeartbeats 4000000 in
theorem law_feed (C : Cx p l room_1 s m #[Value.ref b] meth c code 4 RL ret D cy G A) (hX : va_X b L xs s s.heap) (hbl : b < s.heap.size) (hbA : ¬ A b) {i : Nat} (hi : i + 6 ≤ L) (hL : L ≤ 3072) (hr : Rel cP cLo cHi ctb ctl ctf ctp cob col cso cha chs mact mtpd mfk mfpl mtom mnow mkep mtap mtol)
    (kk : ∀ (cP : Nat → Int32) (cLo : Nat → Int64) (cHi : Nat → Int64) (cpl : Nat → Int32) (ctb : Nat → Int32) (ctl : Int32) (ctf : Int32) (ctp : Int32) (ctk : Int32) (cts : Int32) (cth : Int32) (cob : Nat → Int32) (col : Int32) (cso : Nat → Int32) (cha : Int32) (chs : Int32) (cbe : Int32) (ctr : Int32) (cgl : Nat → Int64) (cgh : Nat → Int64) (cll : Nat → Int64) (clh : Nat → Int64) (cta : Nat → Int32) (cme : Nat → Int32) (cps : Int32) (cwh : Nat → Int32) (cal : Nat → Int64) (cah : Nat → Int64) (mthr : Int32) (mfrp : Int32) (mact : Int32) (mtpd : Int32) (msiz : Int32) (matx : Int32) (mfrm : Int32) (mtok : Int32) (mval : Int32) (mfk : Int32) (mfpl : Int32) (mbem : Int32) (mtrs : Int32) (mtrl : Int32) (mrom : Int32) (mtom : Int32) (mnow : Nat → Int32) (mfre : Nat → Int32) (mkep : Nat → Int32) (mtap : Nat → Int32) (mlef : Nat → Int32) (mtak : Nat → Int32) (mbes : Nat → Int32) (mrow : Nat → Int32) (mint : Nat → Int32) (mrnd : Nat → Int32) (mplo : Nat → Int32) (mhio : Nat → Int32) (mtox : Nat → Int32) (mtol : Nat → Int32), Rel cP cLo cHi ctb ctl ctf ctp cob col cso cha chs mact mtpd mfk mfpl mtom mnow mkep mtap mtol → JK p l e room_1 s m #[Value.ref b] below meth c D A Q 4 65 26217 ((mw h cy mthr mfrp mact mtpd msiz matx mfrm mtok mval mfk mfpl mbem mtrs mtrl mrom mtom mnow mfre mkep mtap mlef mtak mbes mrow mint mrnd mplo mhio mtox mtol) ++ (cw g cy cP cLo cHi cpl ctb ctl ctf ctp ctk cts cth cob col cso cha chs cbe ctr cgl cgh cll clh cta cme cps cwh cal cah)) 2361 [(3, .int (nI i)), (2, .ref (h 0)), (1, .ref (g 28)), (0, .ref b)] []) : JK p l e room_1 s m #[Value.ref b] below meth c D A Q 4 65 26217 ((mw h cy mthr mfrp mact mtpd msiz matx mfrm mtok mval mfk mfpl mbem mtrs mtrl mrom mtom mnow mfre mkep mtap mlef mtak mbes mrow mint mrnd mplo mhio mtox mtol) ++ (cw g cy cP cLo cHi cpl ctb ctl ctf ctp ctk cts cth cob col cso cha chs cbe ctr cgl cgh cll clh cta cme cps cwh cal cah)) 284 [(3, .int (nI i)), (2, .ref (h 0)), (1, .ref (g 28)), (0, .ref b)] [] := by
  obtain ⟨r, octb, octl, omtpd, omtap, e1, e2, hr2⟩ := sim_feed (p1 := xs (nI i + (1 : Int32)).toNatClampNeg) (p2 := xs (nI i + (2 : Int32)).toNatClampNeg) (p3 := xs (nI i + (3 : Int32)).toNatClampNeg) (p4 := xs (nI i + (4 : Int32)).toNatClampNeg) (p5 := xs (nI i + (5 : Int32)).toNatClampNeg) hr
  refine kAloadn C dL_law_284 rfl 2 rfl ?_
  refine kAloadn C dL_law_285 rfl 3 rfl ?_
  refine kIloadn C dL_law_286 rfl 0 rfl ?_
  refine kIconst C (1 : Int32) dL_law_287 ki_1 ?_
  refine kIadd C dL_law_288 ?_
  refine kSld C hX hbl hbA (sc_in1 hi hL) dL_law_289 ?_
  refine kAloadn C dL_law_290 rfl 3 rfl ?_
  refine kIloadn C dL_law_291 rfl 0 rfl ?_
  refine kIconst C (2 : Int32) dL_law_292 ki_2 ?_
  refine kIadd C dL_law_293 ?_
  refine kSld C hX hbl hbA (sc_in2 hi hL) dL_law_294 ?_
  refine kAloadn C dL_law_295 rfl 3 rfl ?_
  refine kIloadn C dL_law_296 rfl 0 rfl ?_
  refine kIconst C (3 : Int32) dL_law_297 ki_3 ?_
  refine kIadd C dL_law_298 ?_
  refine kSld C hX hbl hbA (sc_in3 hi hL) dL_law_299 ?_
  refine kAloadn C dL_law_300 rfl 3 rfl ?_
  refine kIloadn C dL_law_301 rfl 0 rfl ?_
  refine kIconst C (4 : Int32) dL_law_302 ki_4 ?_
  refine kIadd C dL_law_303 ?_
  refine kSld C hX hbl hbA (sc_in4 hi hL) dL_law_304 ?_
  refine kAloadn C dL_law_305 rfl 3 rfl ?_
  refine kIloadn C dL_law_306 rfl 0 rfl ?_
  refine kIconst C (5 : Int32) dL_law_307 ki_5 ?_
  refine kIadd C dL_law_308 ?_
  refine kSld C hX hbl hbA (sc_in5 hi hL) dL_law_309 ?_
  refine kV C (X8_feed_ok e1) vb_X8_feed mk_RL_13 rfl rc28 ⟨Nat.le_of_ble_eq_true rfl, Nat.le_of_ble_eq_true rfl⟩ ⟨Nat.le_of_ble_eq_true rfl, Nat.le_of_ble_eq_true rfl⟩ rfl (Nat.le_of_ble_eq_true rfl) dL_law_310 ?_
  refine kAloadn C dL_law_313 rfl 1 rfl ?_
  refine kAloadn C dL_law_314 rfl 3 rfl ?_
  refine kIloadn C dL_law_315 rfl 0 rfl ?_
  refine kIconst C (1 : Int32) dL_law_316 ki_1 ?_
  refine kIadd C dL_law_317 ?_
  refine kSld C hX hbl hbA (sc_in1 hi hL) dL_law_318 ?_
  refine kAloadn C dL_law_319 rfl 3 rfl ?_
  refine kIloadn C dL_law_320 rfl 0 rfl ?_
  refine kIconst C (2 : Int32) dL_law_321 ki_2 ?_
  refine kIadd C dL_law_322 ?_
  refine kSld C hX hbl hbA (sc_in2 hi hL) dL_law_323 ?_
  refine kAloadn C dL_law_324 rfl 3 rfl ?_
  refine kIloadn C dL_law_325 rfl 0 rfl ?_
  refine kIconst C (3 : Int32) dL_law_326 ki_3 ?_
  refine kIadd C dL_law_327 ?_
  refine kSld C hX hbl hbA (sc_in3 hi hL) dL_law_328 ?_
  refine kAloadn C dL_law_329 rfl 3 rfl ?_
  refine kIloadn C dL_law_330 rfl 0 rfl ?_
  refine kIconst C (4 : Int32) dL_law_331 ki_4 ?_
  refine kIadd C dL_law_332 ?_
  refine kSld C hX hbl hbA (sc_in4 hi hL) dL_law_333 ?_
  refine kAloadn C dL_law_334 rfl 3 rfl ?_
  refine kIloadn C dL_law_335 rfl 0 rfl ?_
  refine kIconst C (5 : Int32) dL_law_336 ki_5 ?_
  refine kIadd C dL_law_337 ?_
  refine kSld C hX hbl hbA (sc_in5 hi hL) dL_law_338 ?_
  refine k_swap ?_
  refine kV C (X9_feed_ok e2) vb_X9_feed mk_RL_17 rfl rcM ⟨Nat.le_of_ble_eq_true rfl, Nat.le_of_ble_eq_true rfl⟩ ⟨Nat.le_of_ble_eq_true rfl, Nat.le_of_ble_eq_true rfl⟩ rfl (Nat.le_of_ble_eq_true rfl) dL_law_339 ?_
  refine k_swap ?_
  refine kCmpEq C 2361 dL_law_342 (by decide) (fun _ => ?_) (fun q => absurd rfl q)
  exact kk cP cLo cHi cpl octb octl ctf ctp ctk cts cth cob col cso cha chs cbe ctr cgl cgh cll clh cta cme cps cwh cal cah mthr mfrp mact omtpd msiz matx mfrm mtok mval mfk mfpl mbem mtrs mtrl mrom mtom mnow mfre mkep omtap mlef mtak mbes mrow mint mrnd mplo mhio mtox mtol hr2
set_option maxHeartbeats 4000000 in
theorem law_end (C : Cx p l room_1 s m #[Value.ref b] meth c code 4 RL ret D cy G A) (hX : va_X b L xs s s.heap) (hbl : b < s.heap.size) (hbA : ¬ A b) {i : Nat} (hi : i + 6 ≤ L) (hL : L ≤ 3072) (hr : Rel cP cLo cHi ctb ctl ctf ctp cob col cso cha chs mact mtpd mfk mfpl mtom mnow mkep mtap mtol)
    (kk : ∀ (cP : Nat → Int32) (cLo : Nat → Int64) (cHi : Nat → Int64) (cpl : Nat → Int32) (ctb : Nat → Int32) (ctl : Int32) (ctf : Int32) (ctp : Int32) (ctk : Int32) (cts : Int32) (cth : Int32) (cob : Nat → Int32) (col : Int32) (cso : Nat → Int32) (cha : Int32) (chs : Int32) (cbe : Int32) (ctr : Int32) (cgl : Nat → Int64) (cgh : Nat → Int64) (cll : Nat → Int64) (clh : Nat → Int64) (cta : Nat → Int32) (cme : Nat → Int32) (cps : Int32) (cwh : Nat → Int32) (cal : Nat → Int64) (cah : Nat → Int64) (mthr : Int32) (mfrp : Int32) (mact : Int32) (mtpd : Int32) (msiz : Int32) (matx : Int32) (mfrm : Int32) (mtok : Int32) (mval : Int32) (mfk : Int32) (mfpl : Int32) (mbem : Int32) (mtrs : Int32) (mtrl : Int32) (mrom : Int32) (mtom : Int32) (mnow : Nat → Int32) (mfre : Nat → Int32) (mkep : Nat → Int32) (mtap : Nat → Int32) (mlef : Nat → Int32) (mtak : Nat → Int32) (mbes : Nat → Int32) (mrow : Nat → Int32) (mint : Nat → Int32) (mrnd : Nat → Int32) (mplo : Nat → Int32) (mhio : Nat → Int32) (mtox : Nat → Int32) (mtol : Nat → Int32), Rel cP cLo cHi ctb ctl ctf ctp cob col cso cha chs mact mtpd mfk mfpl mtom mnow mkep mtap mtol → JK p l e room_1 s m #[Value.ref b] below meth c D A Q 4 65 26217 ((mw h cy mthr mfrp mact mtpd msiz matx mfrm mtok mval mfk mfpl mbem mtrs mtrl mrom mtom mnow mfre mkep mtap mlef mtak mbes mrow mint mrnd mplo mhio mtox mtol) ++ (cw g cy cP cLo cHi cpl ctb ctl ctf ctp ctk cts cth cob col cso cha chs cbe ctr cgl cgh cll clh cta cme cps cwh cal cah)) 2361 [(3, .int (nI i)), (2, .ref (h 0)), (1, .ref (g 28)), (0, .ref b)] []) : JK p l e room_1 s m #[Value.ref b] below meth c D A Q 4 65 26217 ((mw h cy mthr mfrp mact mtpd msiz matx mfrm mtok mval mfk mfpl mbem mtrs mtrl mrom mtom mnow mfre mkep mtap mlef mtak mbes mrow mint mrnd mplo mhio mtox mtol) ++ (cw g cy cP cLo cHi cpl ctb ctl ctf ctp ctk cts cth cob col cso cha chs cbe ctr cgl cgh cll clh cta cme cps cwh cal cah)) 347 [(3, .int (nI i)), (2, .ref (h 0)), (1, .ref (g 28)), (0, .ref b)] [] := by
  obtain ⟨r, octl, omtpd, e1, e2, hr2⟩ := sim_end (p1 := xs (nI i + (1 : Int32)).toNatClampNeg) hr
  refine kAloadn C dL_law_347 rfl 2 rfl ?_
  refine kAloadn C dL_law_348 rfl 3 rfl ?_
  refine kIloadn C dL_law_349 rfl 0 rfl ?_
  refine kIconst C (1 : Int32) dL_law_350 ki_1 ?_
  refine kIadd C dL_law_351 ?_
  refine kSld C hX hbl hbA (sc_in1 hi hL) dL_law_352 ?_
  refine kV C (X8_end_ok e1) vb_X8_end mk_RL_18 rfl rc28 ⟨Nat.le_of_ble_eq_true rfl, Nat.le_of_ble_eq_true rfl⟩ ⟨Nat.le_of_ble_eq_true rfl, Nat.le_of_ble_eq_true rfl⟩ rfl (Nat.le_of_ble_eq_true rfl) dL_law_353 ?_
  refine kAloadn C dL_law_356 rfl 1 rfl ?_
  refine kAloadn C dL_law_357 rfl 3 rfl ?_
  refine kIloadn C dL_law_358 rfl 0 rfl ?_
  refine kIconst C (1 : Int32) dL_law_359 ki_1 ?_
  refine kIadd C dL_law_360 ?_
  refine kSld C hX hbl hbA (sc_in1 hi hL) dL_law_361 ?_
  refine k_swap ?_
  refine kV C (X9_end_ok e2) vb_X9_end mk_RL_22 rfl rcM ⟨Nat.le_of_ble_eq_true rfl, Nat.le_of_ble_eq_true rfl⟩ ⟨Nat.le_of_ble_eq_true rfl, Nat.le_of_ble_eq_true rfl⟩ rfl (Nat.le_of_ble_eq_true rfl) dL_law_362 ?_
  refine k_swap ?_
  refine kCmpEq C 2361 dL_law_365 (by decide) (fun _ => ?_) (fun q => absurd rfl q)
  exact kk cP cLo cHi cpl ctb octl ctf ctp ctk cts cth cob col cso cha chs cbe ctr cgl cgh cll clh cta cme cps cwh cal cah mthr mfrp mact omtpd msiz matx mfrm mtok mval mfk mfpl mbem mtrs mtrl mrom mtom mnow mfre mkep mtap mlef mtak mbes mrow mint mrnd mplo mhio mtox mtol hr2
set_option maxHeartbeats 4000000 in
theorem law_told (C : Cx p l room_1 s m #[Value.ref b] meth c code 4 RL ret D cy G A) (hX : va_X b L xs s s.heap) (hbl : b < s.heap.size) (hbA : ¬ A b) {i : Nat} (hi : i + 6 ≤ L) (hL : L ≤ 3072) (hr : Rel cP cLo cHi ctb ctl ctf ctp cob col cso cha chs mact mtpd mfk mfpl mtom mnow mkep mtap mtol)
    (kk : ∀ (cP : Nat → Int32) (cLo : Nat → Int64) (cHi : Nat → Int64) (cpl : Nat → Int32) (ctb : Nat → Int32) (ctl : Int32) (ctf : Int32) (ctp : Int32) (ctk : Int32) (cts : Int32) (cth : Int32) (cob : Nat → Int32) (col : Int32) (cso : Nat → Int32) (cha : Int32) (chs : Int32) (cbe : Int32) (ctr : Int32) (cgl : Nat → Int64) (cgh : Nat → Int64) (cll : Nat → Int64) (clh : Nat → Int64) (cta : Nat → Int32) (cme : Nat → Int32) (cps : Int32) (cwh : Nat → Int32) (cal : Nat → Int64) (cah : Nat → Int64) (mthr : Int32) (mfrp : Int32) (mact : Int32) (mtpd : Int32) (msiz : Int32) (matx : Int32) (mfrm : Int32) (mtok : Int32) (mval : Int32) (mfk : Int32) (mfpl : Int32) (mbem : Int32) (mtrs : Int32) (mtrl : Int32) (mrom : Int32) (mtom : Int32) (mnow : Nat → Int32) (mfre : Nat → Int32) (mkep : Nat → Int32) (mtap : Nat → Int32) (mlef : Nat → Int32) (mtak : Nat → Int32) (mbes : Nat → Int32) (mrow : Nat → Int32) (mint : Nat → Int32) (mrnd : Nat → Int32) (mplo : Nat → Int32) (mhio : Nat → Int32) (mtox : Nat → Int32) (mtol : Nat → Int32), Rel cP cLo cHi ctb ctl ctf ctp cob col cso cha chs mact mtpd mfk mfpl mtom mnow mkep mtap mtol → JK p l e room_1 s m #[Value.ref b] below meth c D A Q 4 65 26217 ((mw h cy mthr mfrp mact mtpd msiz matx mfrm mtok mval mfk mfpl mbem mtrs mtrl mrom mtom mnow mfre mkep mtap mlef mtak mbes mrow mint mrnd mplo mhio mtox mtol) ++ (cw g cy cP cLo cHi cpl ctb ctl ctf ctp ctk cts cth cob col cso cha chs cbe ctr cgl cgh cll clh cta cme cps cwh cal cah)) 2361 [(3, .int (nI i)), (2, .ref (h 0)), (1, .ref (g 28)), (0, .ref b)] []) : JK p l e room_1 s m #[Value.ref b] below meth c D A Q 4 65 26217 ((mw h cy mthr mfrp mact mtpd msiz matx mfrm mtok mval mfk mfpl mbem mtrs mtrl mrom mtom mnow mfre mkep mtap mlef mtak mbes mrow mint mrnd mplo mhio mtox mtol) ++ (cw g cy cP cLo cHi cpl ctb ctl ctf ctp ctk cts cth cob col cso cha chs cbe ctr cgl cgh cll clh cta cme cps cwh cal cah)) 370 [(3, .int (nI i)), (2, .ref (h 0)), (1, .ref (g 28)), (0, .ref b)] [] := by
  obtain ⟨r, ocP, ocLo, ocHi, octl, octf, octp, octk, octs, octh, ocso, ocha, ochs, omfrp, omact, omtpd, omsiz, omatx, omfrm, omtok, omval, omfk, omfpl, omnow, omfre, omkep, e1, e2, hr2⟩ := sim_told (p1 := xs (nI i + (1 : Int32)).toNatClampNeg) hr
  refine kAloadn C dL_law_370 rfl 2 rfl ?_
  refine kAloadn C dL_law_371 rfl 3 rfl ?_
  refine kIloadn C dL_law_372 rfl 0 rfl ?_
  refine kIconst C (1 : Int32) dL_law_373 ki_1 ?_
  refine kIadd C dL_law_374 ?_
  refine kSld C hX hbl hbA (sc_in1 hi hL) dL_law_375 ?_
  refine kV C (X8_told_ok e1) vb_X8_told mk_RL_23 rfl rc28 ⟨Nat.le_of_ble_eq_true rfl, Nat.le_of_ble_eq_true rfl⟩ ⟨Nat.le_of_ble_eq_true rfl, Nat.le_of_ble_eq_true rfl⟩ rfl (Nat.le_of_ble_eq_true rfl) dL_law_376 ?_
  refine kAloadn C dL_law_379 rfl 1 rfl ?_
  refine kAloadn C dL_law_380 rfl 3 rfl ?_
  refine kIloadn C dL_law_381 rfl 0 rfl ?_
  refine kIconst C (1 : Int32) dL_law_382 ki_1 ?_
  refine kIadd C dL_law_383 ?_
  refine kSld C hX hbl hbA (sc_in1 hi hL) dL_law_384 ?_
  refine k_swap ?_
  refine kV C (X9_told_ok e2) vb_X9_told mk_RL_26 rfl rcM ⟨Nat.le_of_ble_eq_true rfl, Nat.le_of_ble_eq_true rfl⟩ ⟨Nat.le_of_ble_eq_true rfl, Nat.le_of_ble_eq_true rfl⟩ rfl (Nat.le_of_ble_eq_true rfl) dL_law_385 ?_
  refine k_swap ?_
  refine kCmpEq C 2361 dL_law_388 (by decide) (fun _ => ?_) (fun q => absurd rfl q)
  exact kk ocP ocLo ocHi cpl ctb octl octf octp octk octs octh cob col ocso ocha ochs cbe ctr cgl cgh cll clh cta cme cps cwh cal cah mthr omfrp omact omtpd omsiz omatx omfrm omtok omval omfk omfpl mbem mtrs mtrl mrom mtom omnow omfre omkep mtap mlef mtak mbes mrow mint mrnd mplo mhio mtox mtol hr2
set_option maxHeartbeats 4000000 in
theorem law_fault (C : Cx p l room_1 s m #[Value.ref b] meth c code 4 RL ret D cy G A) (hX : va_X b L xs s s.heap) (hbl : b < s.heap.size) (hbA : ¬ A b) {i : Nat} (hi : i + 6 ≤ L) (hL : L ≤ 3072) (hr : Rel cP cLo cHi ctb ctl ctf ctp cob col cso cha chs mact mtpd mfk mfpl mtom mnow mkep mtap mtol)
    (kk : ∀ (cP : Nat → Int32) (cLo : Nat → Int64) (cHi : Nat → Int64) (cpl : Nat → Int32) (ctb : Nat → Int32) (ctl : Int32) (ctf : Int32) (ctp : Int32) (ctk : Int32) (cts : Int32) (cth : Int32) (cob : Nat → Int32) (col : Int32) (cso : Nat → Int32) (cha : Int32) (chs : Int32) (cbe : Int32) (ctr : Int32) (cgl : Nat → Int64) (cgh : Nat → Int64) (cll : Nat → Int64) (clh : Nat → Int64) (cta : Nat → Int32) (cme : Nat → Int32) (cps : Int32) (cwh : Nat → Int32) (cal : Nat → Int64) (cah : Nat → Int64) (mthr : Int32) (mfrp : Int32) (mact : Int32) (mtpd : Int32) (msiz : Int32) (matx : Int32) (mfrm : Int32) (mtok : Int32) (mval : Int32) (mfk : Int32) (mfpl : Int32) (mbem : Int32) (mtrs : Int32) (mtrl : Int32) (mrom : Int32) (mtom : Int32) (mnow : Nat → Int32) (mfre : Nat → Int32) (mkep : Nat → Int32) (mtap : Nat → Int32) (mlef : Nat → Int32) (mtak : Nat → Int32) (mbes : Nat → Int32) (mrow : Nat → Int32) (mint : Nat → Int32) (mrnd : Nat → Int32) (mplo : Nat → Int32) (mhio : Nat → Int32) (mtox : Nat → Int32) (mtol : Nat → Int32), Rel cP cLo cHi ctb ctl ctf ctp cob col cso cha chs mact mtpd mfk mfpl mtom mnow mkep mtap mtol → JK p l e room_1 s m #[Value.ref b] below meth c D A Q 4 65 26217 ((mw h cy mthr mfrp mact mtpd msiz matx mfrm mtok mval mfk mfpl mbem mtrs mtrl mrom mtom mnow mfre mkep mtap mlef mtak mbes mrow mint mrnd mplo mhio mtox mtol) ++ (cw g cy cP cLo cHi cpl ctb ctl ctf ctp ctk cts cth cob col cso cha chs cbe ctr cgl cgh cll clh cta cme cps cwh cal cah)) 2361 [(3, .int (nI i)), (2, .ref (h 0)), (1, .ref (g 28)), (0, .ref b)] []) : JK p l e room_1 s m #[Value.ref b] below meth c D A Q 4 65 26217 ((mw h cy mthr mfrp mact mtpd msiz matx mfrm mtok mval mfk mfpl mbem mtrs mtrl mrom mtom mnow mfre mkep mtap mlef mtak mbes mrow mint mrnd mplo mhio mtox mtol) ++ (cw g cy cP cLo cHi cpl ctb ctl ctf ctp ctk cts cth cob col cso cha chs cbe ctr cgl cgh cll clh cta cme cps cwh cal cah)) 393 [(3, .int (nI i)), (2, .ref (h 0)), (1, .ref (g 28)), (0, .ref b)] [] := by
  obtain ⟨r, e1, e2, hr2⟩ := sim_fault (p1 := xs (nI i + (1 : Int32)).toNatClampNeg) hr
  refine kAloadn C dL_law_393 rfl 2 rfl ?_
  refine kAloadn C dL_law_394 rfl 3 rfl ?_
  refine kIloadn C dL_law_395 rfl 0 rfl ?_
  refine kIconst C (1 : Int32) dL_law_396 ki_1 ?_
  refine kIadd C dL_law_397 ?_
  refine kSld C hX hbl hbA (sc_in1 hi hL) dL_law_398 ?_
  refine kV C (X8_fault_ok e1) vb_X8_fault mk_RL_27 rfl rc28 ⟨Nat.le_of_ble_eq_true rfl, Nat.le_of_ble_eq_true rfl⟩ ⟨Nat.le_of_ble_eq_true rfl, Nat.le_of_ble_eq_true rfl⟩ rfl (Nat.le_of_ble_eq_true rfl) dL_law_399 ?_
  refine kAloadn C dL_law_402 rfl 1 rfl ?_
  refine kAloadn C dL_law_403 rfl 3 rfl ?_
  refine kIloadn C dL_law_404 rfl 0 rfl ?_
  refine kIconst C (1 : Int32) dL_law_405 ki_1 ?_
  refine kIadd C dL_law_406 ?_
  refine kSld C hX hbl hbA (sc_in1 hi hL) dL_law_407 ?_
  refine k_swap ?_
  refine kV C (X9_fault_ok e2) vb_X9_fault mk_RL_30 rfl rcM ⟨Nat.le_of_ble_eq_true rfl, Nat.le_of_ble_eq_true rfl⟩ ⟨Nat.le_of_ble_eq_true rfl, Nat.le_of_ble_eq_true rfl⟩ rfl (Nat.le_of_ble_eq_true rfl) dL_law_408 ?_
  refine k_swap ?_
  refine kCmpEq C 2361 dL_law_411 (by decide) (fun _ => ?_) (fun q => absurd rfl q)
  exact kk cP cLo cHi cpl ctb ctl ctf ctp ctk cts cth cob col cso cha chs cbe ctr cgl cgh cll clh cta cme cps cwh cal cah mthr mfrp mact mtpd msiz matx mfrm mtok mval mfk mfpl mbem mtrs mtrl mrom mtom mnow mfre mkep mtap mlef mtak mbes mrow mint mrnd mplo mhio mtox mtol hr2
set_option maxHeartbeats 4000000 in
theorem law_count (C : Cx p l room_1 s m #[Value.ref b] meth c code 4 RL ret D cy G A) (hX : va_X b L xs s s.heap) (hbl : b < s.heap.size) (hbA : ¬ A b) {i : Nat} (hi : i + 6 ≤ L) (hL : L ≤ 3072) (hr : Rel cP cLo cHi ctb ctl ctf ctp cob col cso cha chs mact mtpd mfk mfpl mtom mnow mkep mtap mtol)
    (kk : ∀ (cP : Nat → Int32) (cLo : Nat → Int64) (cHi : Nat → Int64) (cpl : Nat → Int32) (ctb : Nat → Int32) (ctl : Int32) (ctf : Int32) (ctp : Int32) (ctk : Int32) (cts : Int32) (cth : Int32) (cob : Nat → Int32) (col : Int32) (cso : Nat → Int32) (cha : Int32) (chs : Int32) (cbe : Int32) (ctr : Int32) (cgl : Nat → Int64) (cgh : Nat → Int64) (cll : Nat → Int64) (clh : Nat → Int64) (cta : Nat → Int32) (cme : Nat → Int32) (cps : Int32) (cwh : Nat → Int32) (cal : Nat → Int64) (cah : Nat → Int64) (mthr : Int32) (mfrp : Int32) (mact : Int32) (mtpd : Int32) (msiz : Int32) (matx : Int32) (mfrm : Int32) (mtok : Int32) (mval : Int32) (mfk : Int32) (mfpl : Int32) (mbem : Int32) (mtrs : Int32) (mtrl : Int32) (mrom : Int32) (mtom : Int32) (mnow : Nat → Int32) (mfre : Nat → Int32) (mkep : Nat → Int32) (mtap : Nat → Int32) (mlef : Nat → Int32) (mtak : Nat → Int32) (mbes : Nat → Int32) (mrow : Nat → Int32) (mint : Nat → Int32) (mrnd : Nat → Int32) (mplo : Nat → Int32) (mhio : Nat → Int32) (mtox : Nat → Int32) (mtol : Nat → Int32), Rel cP cLo cHi ctb ctl ctf ctp cob col cso cha chs mact mtpd mfk mfpl mtom mnow mkep mtap mtol → JK p l e room_1 s m #[Value.ref b] below meth c D A Q 4 65 26217 ((mw h cy mthr mfrp mact mtpd msiz matx mfrm mtok mval mfk mfpl mbem mtrs mtrl mrom mtom mnow mfre mkep mtap mlef mtak mbes mrow mint mrnd mplo mhio mtox mtol) ++ (cw g cy cP cLo cHi cpl ctb ctl ctf ctp ctk cts cth cob col cso cha chs cbe ctr cgl cgh cll clh cta cme cps cwh cal cah)) 2361 [(3, .int (nI i)), (2, .ref (h 0)), (1, .ref (g 28)), (0, .ref b)] []) : JK p l e room_1 s m #[Value.ref b] below meth c D A Q 4 65 26217 ((mw h cy mthr mfrp mact mtpd msiz matx mfrm mtok mval mfk mfpl mbem mtrs mtrl mrom mtom mnow mfre mkep mtap mlef mtak mbes mrow mint mrnd mplo mhio mtox mtol) ++ (cw g cy cP cLo cHi cpl ctb ctl ctf ctp ctk cts cth cob col cso cha chs cbe ctr cgl cgh cll clh cta cme cps cwh cal cah)) 416 [(3, .int (nI i)), (2, .ref (h 0)), (1, .ref (g 28)), (0, .ref b)] [] := by
  obtain ⟨r, e1, e2, hr2⟩ := sim_count (p1 := xs (nI i + (1 : Int32)).toNatClampNeg) hr
  refine kAloadn C dL_law_416 rfl 2 rfl ?_
  refine kAloadn C dL_law_417 rfl 3 rfl ?_
  refine kIloadn C dL_law_418 rfl 0 rfl ?_
  refine kIconst C (1 : Int32) dL_law_419 ki_1 ?_
  refine kIadd C dL_law_420 ?_
  refine kSld C hX hbl hbA (sc_in1 hi hL) dL_law_421 ?_
  refine kV C (X8_count_ok e1) vb_X8_count mk_RL_31 rfl rc28 ⟨Nat.le_of_ble_eq_true rfl, Nat.le_of_ble_eq_true rfl⟩ ⟨Nat.le_of_ble_eq_true rfl, Nat.le_of_ble_eq_true rfl⟩ rfl (Nat.le_of_ble_eq_true rfl) dL_law_422 ?_
  refine kAloadn C dL_law_425 rfl 1 rfl ?_
  refine kAloadn C dL_law_426 rfl 3 rfl ?_
  refine kIloadn C dL_law_427 rfl 0 rfl ?_
  refine kIconst C (1 : Int32) dL_law_428 ki_1 ?_
  refine kIadd C dL_law_429 ?_
  refine kSld C hX hbl hbA (sc_in1 hi hL) dL_law_430 ?_
  refine k_swap ?_
  refine kV C (X9_count_ok e2) vb_X9_count mk_RL_34 rfl rcM ⟨Nat.le_of_ble_eq_true rfl, Nat.le_of_ble_eq_true rfl⟩ ⟨Nat.le_of_ble_eq_true rfl, Nat.le_of_ble_eq_true rfl⟩ rfl (Nat.le_of_ble_eq_true rfl) dL_law_431 ?_
  refine k_swap ?_
  refine kCmpEq C 2361 dL_law_434 (by decide) (fun _ => ?_) (fun q => absurd rfl q)
  exact kk cP cLo cHi cpl ctb ctl ctf ctp ctk cts cth cob col cso cha chs cbe ctr cgl cgh cll clh cta cme cps cwh cal cah mthr mfrp mact mtpd msiz matx mfrm mtok mval mfk mfpl mbem mtrs mtrl mrom mtom mnow mfre mkep mtap mlef mtak mbes mrow mint mrnd mplo mhio mtox mtol hr2
set_option maxHeartbeats 4000000 in
theorem law_look (C : Cx p l room_1 s m #[Value.ref b] meth c code 4 RL ret D cy G A) (hX : va_X b L xs s s.heap) (hbl : b < s.heap.size) (hbA : ¬ A b) {i : Nat} (hi : i + 6 ≤ L) (hL : L ≤ 3072) (hr : Rel cP cLo cHi ctb ctl ctf ctp cob col cso cha chs mact mtpd mfk mfpl mtom mnow mkep mtap mtol)
    (kk : ∀ (cP : Nat → Int32) (cLo : Nat → Int64) (cHi : Nat → Int64) (cpl : Nat → Int32) (ctb : Nat → Int32) (ctl : Int32) (ctf : Int32) (ctp : Int32) (ctk : Int32) (cts : Int32) (cth : Int32) (cob : Nat → Int32) (col : Int32) (cso : Nat → Int32) (cha : Int32) (chs : Int32) (cbe : Int32) (ctr : Int32) (cgl : Nat → Int64) (cgh : Nat → Int64) (cll : Nat → Int64) (clh : Nat → Int64) (cta : Nat → Int32) (cme : Nat → Int32) (cps : Int32) (cwh : Nat → Int32) (cal : Nat → Int64) (cah : Nat → Int64) (mthr : Int32) (mfrp : Int32) (mact : Int32) (mtpd : Int32) (msiz : Int32) (matx : Int32) (mfrm : Int32) (mtok : Int32) (mval : Int32) (mfk : Int32) (mfpl : Int32) (mbem : Int32) (mtrs : Int32) (mtrl : Int32) (mrom : Int32) (mtom : Int32) (mnow : Nat → Int32) (mfre : Nat → Int32) (mkep : Nat → Int32) (mtap : Nat → Int32) (mlef : Nat → Int32) (mtak : Nat → Int32) (mbes : Nat → Int32) (mrow : Nat → Int32) (mint : Nat → Int32) (mrnd : Nat → Int32) (mplo : Nat → Int32) (mhio : Nat → Int32) (mtox : Nat → Int32) (mtol : Nat → Int32), Rel cP cLo cHi ctb ctl ctf ctp cob col cso cha chs mact mtpd mfk mfpl mtom mnow mkep mtap mtol → JK p l e room_1 s m #[Value.ref b] below meth c D A Q 4 65 26217 ((mw h cy mthr mfrp mact mtpd msiz matx mfrm mtok mval mfk mfpl mbem mtrs mtrl mrom mtom mnow mfre mkep mtap mlef mtak mbes mrow mint mrnd mplo mhio mtox mtol) ++ (cw g cy cP cLo cHi cpl ctb ctl ctf ctp ctk cts cth cob col cso cha chs cbe ctr cgl cgh cll clh cta cme cps cwh cal cah)) 2361 [(3, .int (nI i)), (2, .ref (h 0)), (1, .ref (g 28)), (0, .ref b)] []) : JK p l e room_1 s m #[Value.ref b] below meth c D A Q 4 65 26217 ((mw h cy mthr mfrp mact mtpd msiz matx mfrm mtok mval mfk mfpl mbem mtrs mtrl mrom mtom mnow mfre mkep mtap mlef mtak mbes mrow mint mrnd mplo mhio mtox mtol) ++ (cw g cy cP cLo cHi cpl ctb ctl ctf ctp ctk cts cth cob col cso cha chs cbe ctr cgl cgh cll clh cta cme cps cwh cal cah)) 439 [(3, .int (nI i)), (2, .ref (h 0)), (1, .ref (g 28)), (0, .ref b)] [] := by
  obtain ⟨r, ocP, ocLo, ocHi, e1, e2, hr2⟩ := sim_look (p1 := xs (nI i + (1 : Int32)).toNatClampNeg) (p2 := xs (nI i + (2 : Int32)).toNatClampNeg) hr
  refine kAloadn C dL_law_439 rfl 2 rfl ?_
  refine kAloadn C dL_law_440 rfl 3 rfl ?_
  refine kIloadn C dL_law_441 rfl 0 rfl ?_
  refine kIconst C (1 : Int32) dL_law_442 ki_1 ?_
  refine kIadd C dL_law_443 ?_
  refine kSld C hX hbl hbA (sc_in1 hi hL) dL_law_444 ?_
  refine kAloadn C dL_law_445 rfl 3 rfl ?_
  refine kIloadn C dL_law_446 rfl 0 rfl ?_
  refine kIconst C (2 : Int32) dL_law_447 ki_2 ?_
  refine kIadd C dL_law_448 ?_
  refine kSld C hX hbl hbA (sc_in2 hi hL) dL_law_449 ?_
  refine kV C (X8_look_ok e1) vb_X8_look mk_RL_35 rfl rc28 ⟨Nat.le_of_ble_eq_true rfl, Nat.le_of_ble_eq_true rfl⟩ ⟨Nat.le_of_ble_eq_true rfl, Nat.le_of_ble_eq_true rfl⟩ rfl (Nat.le_of_ble_eq_true rfl) dL_law_450 ?_
  refine kAloadn C dL_law_453 rfl 1 rfl ?_
  refine kAloadn C dL_law_454 rfl 3 rfl ?_
  refine kIloadn C dL_law_455 rfl 0 rfl ?_
  refine kIconst C (1 : Int32) dL_law_456 ki_1 ?_
  refine kIadd C dL_law_457 ?_
  refine kSld C hX hbl hbA (sc_in1 hi hL) dL_law_458 ?_
  refine kAloadn C dL_law_459 rfl 3 rfl ?_
  refine kIloadn C dL_law_460 rfl 0 rfl ?_
  refine kIconst C (2 : Int32) dL_law_461 ki_2 ?_
  refine kIadd C dL_law_462 ?_
  refine kSld C hX hbl hbA (sc_in2 hi hL) dL_law_463 ?_
  refine k_swap ?_
  refine kV C (X9_look_ok e2) vb_X9_look mk_RL_39 rfl rcM ⟨Nat.le_of_ble_eq_true rfl, Nat.le_of_ble_eq_true rfl⟩ ⟨Nat.le_of_ble_eq_true rfl, Nat.le_of_ble_eq_true rfl⟩ rfl (Nat.le_of_ble_eq_true rfl) dL_law_464 ?_
  refine k_swap ?_
  refine kCmpEq C 2361 dL_law_467 (by decide) (fun _ => ?_) (fun q => absurd rfl q)
  exact kk ocP ocLo ocHi cpl ctb ctl ctf ctp ctk cts cth cob col cso cha chs cbe ctr cgl cgh cll clh cta cme cps cwh cal cah mthr mfrp mact mtpd msiz matx mfrm mtok mval mfk mfpl mbem mtrs mtrl mrom mtom mnow mfre mkep mtap mlef mtak mbes mrow mint mrnd mplo mhio mtox mtol hr2
set_option maxHeartbeats 4000000 in
theorem law_set (C : Cx p l room_1 s m #[Value.ref b] meth c code 4 RL ret D cy G A) (hX : va_X b L xs s s.heap) (hbl : b < s.heap.size) (hbA : ¬ A b) {i : Nat} (hi : i + 6 ≤ L) (hL : L ≤ 3072) (hr : Rel cP cLo cHi ctb ctl ctf ctp cob col cso cha chs mact mtpd mfk mfpl mtom mnow mkep mtap mtol)
    (kk : ∀ (cP : Nat → Int32) (cLo : Nat → Int64) (cHi : Nat → Int64) (cpl : Nat → Int32) (ctb : Nat → Int32) (ctl : Int32) (ctf : Int32) (ctp : Int32) (ctk : Int32) (cts : Int32) (cth : Int32) (cob : Nat → Int32) (col : Int32) (cso : Nat → Int32) (cha : Int32) (chs : Int32) (cbe : Int32) (ctr : Int32) (cgl : Nat → Int64) (cgh : Nat → Int64) (cll : Nat → Int64) (clh : Nat → Int64) (cta : Nat → Int32) (cme : Nat → Int32) (cps : Int32) (cwh : Nat → Int32) (cal : Nat → Int64) (cah : Nat → Int64) (mthr : Int32) (mfrp : Int32) (mact : Int32) (mtpd : Int32) (msiz : Int32) (matx : Int32) (mfrm : Int32) (mtok : Int32) (mval : Int32) (mfk : Int32) (mfpl : Int32) (mbem : Int32) (mtrs : Int32) (mtrl : Int32) (mrom : Int32) (mtom : Int32) (mnow : Nat → Int32) (mfre : Nat → Int32) (mkep : Nat → Int32) (mtap : Nat → Int32) (mlef : Nat → Int32) (mtak : Nat → Int32) (mbes : Nat → Int32) (mrow : Nat → Int32) (mint : Nat → Int32) (mrnd : Nat → Int32) (mplo : Nat → Int32) (mhio : Nat → Int32) (mtox : Nat → Int32) (mtol : Nat → Int32), Rel cP cLo cHi ctb ctl ctf ctp cob col cso cha chs mact mtpd mfk mfpl mtom mnow mkep mtap mtol → JK p l e room_1 s m #[Value.ref b] below meth c D A Q 4 65 26217 ((mw h cy mthr mfrp mact mtpd msiz matx mfrm mtok mval mfk mfpl mbem mtrs mtrl mrom mtom mnow mfre mkep mtap mlef mtak mbes mrow mint mrnd mplo mhio mtox mtol) ++ (cw g cy cP cLo cHi cpl ctb ctl ctf ctp ctk cts cth cob col cso cha chs cbe ctr cgl cgh cll clh cta cme cps cwh cal cah)) 2361 [(3, .int (nI i)), (2, .ref (h 0)), (1, .ref (g 28)), (0, .ref b)] []) : JK p l e room_1 s m #[Value.ref b] below meth c D A Q 4 65 26217 ((mw h cy mthr mfrp mact mtpd msiz matx mfrm mtok mval mfk mfpl mbem mtrs mtrl mrom mtom mnow mfre mkep mtap mlef mtak mbes mrow mint mrnd mplo mhio mtox mtol) ++ (cw g cy cP cLo cHi cpl ctb ctl ctf ctp ctk cts cth cob col cso cha chs cbe ctr cgl cgh cll clh cta cme cps cwh cal cah)) 472 [(3, .int (nI i)), (2, .ref (h 0)), (1, .ref (g 28)), (0, .ref b)] [] := by
  obtain ⟨r, e1, e2, hr2⟩ := sim_set (p1 := xs (nI i + (1 : Int32)).toNatClampNeg) (p2 := xs (nI i + (2 : Int32)).toNatClampNeg) hr
  refine kAloadn C dL_law_472 rfl 2 rfl ?_
  refine kAloadn C dL_law_473 rfl 3 rfl ?_
  refine kIloadn C dL_law_474 rfl 0 rfl ?_
  refine kIconst C (1 : Int32) dL_law_475 ki_1 ?_
  refine kIadd C dL_law_476 ?_
  refine kSld C hX hbl hbA (sc_in1 hi hL) dL_law_477 ?_
  refine kAloadn C dL_law_478 rfl 3 rfl ?_
  refine kIloadn C dL_law_479 rfl 0 rfl ?_
  refine kIconst C (2 : Int32) dL_law_480 ki_2 ?_
  refine kIadd C dL_law_481 ?_
  refine kSld C hX hbl hbA (sc_in2 hi hL) dL_law_482 ?_
  refine kV C (X8_set_ok e1) vb_X8_set mk_RL_40 rfl rc28 ⟨Nat.le_of_ble_eq_true rfl, Nat.le_of_ble_eq_true rfl⟩ ⟨Nat.le_of_ble_eq_true rfl, Nat.le_of_ble_eq_true rfl⟩ rfl (Nat.le_of_ble_eq_true rfl) dL_law_483 ?_
  refine kAloadn C dL_law_486 rfl 1 rfl ?_
  refine kAloadn C dL_law_487 rfl 3 rfl ?_
  refine kIloadn C dL_law_488 rfl 0 rfl ?_
  refine kIconst C (1 : Int32) dL_law_489 ki_1 ?_
  refine kIadd C dL_law_490 ?_
  refine kSld C hX hbl hbA (sc_in1 hi hL) dL_law_491 ?_
  refine kAloadn C dL_law_492 rfl 3 rfl ?_
  refine kIloadn C dL_law_493 rfl 0 rfl ?_
  refine kIconst C (2 : Int32) dL_law_494 ki_2 ?_
  refine kIadd C dL_law_495 ?_
  refine kSld C hX hbl hbA (sc_in2 hi hL) dL_law_496 ?_
  refine k_swap ?_
  refine kV C (X9_set_ok e2) vb_X9_set mk_RL_43 rfl rcM ⟨Nat.le_of_ble_eq_true rfl, Nat.le_of_ble_eq_true rfl⟩ ⟨Nat.le_of_ble_eq_true rfl, Nat.le_of_ble_eq_true rfl⟩ rfl (Nat.le_of_ble_eq_true rfl) dL_law_497 ?_
  refine k_swap ?_
  refine kCmpEq C 2361 dL_law_500 (by decide) (fun _ => ?_) (fun q => absurd rfl q)
  exact kk cP cLo cHi cpl ctb ctl ctf ctp ctk cts cth cob col cso cha chs cbe ctr cgl cgh cll clh cta cme cps cwh cal cah mthr mfrp mact mtpd msiz matx mfrm mtok mval mfk mfpl mbem mtrs mtrl mrom mtom mnow mfre mkep mtap mlef mtak mbes mrow mint mrnd mplo mhio mtox mtol hr2
set_option maxHeartbeats 4000000 in
theorem law_has (C : Cx p l room_1 s m #[Value.ref b] meth c code 4 RL ret D cy G A) (hX : va_X b L xs s s.heap) (hbl : b < s.heap.size) (hbA : ¬ A b) {i : Nat} (hi : i + 6 ≤ L) (hL : L ≤ 3072) (hr : Rel cP cLo cHi ctb ctl ctf ctp cob col cso cha chs mact mtpd mfk mfpl mtom mnow mkep mtap mtol)
    (kk : ∀ (cP : Nat → Int32) (cLo : Nat → Int64) (cHi : Nat → Int64) (cpl : Nat → Int32) (ctb : Nat → Int32) (ctl : Int32) (ctf : Int32) (ctp : Int32) (ctk : Int32) (cts : Int32) (cth : Int32) (cob : Nat → Int32) (col : Int32) (cso : Nat → Int32) (cha : Int32) (chs : Int32) (cbe : Int32) (ctr : Int32) (cgl : Nat → Int64) (cgh : Nat → Int64) (cll : Nat → Int64) (clh : Nat → Int64) (cta : Nat → Int32) (cme : Nat → Int32) (cps : Int32) (cwh : Nat → Int32) (cal : Nat → Int64) (cah : Nat → Int64) (mthr : Int32) (mfrp : Int32) (mact : Int32) (mtpd : Int32) (msiz : Int32) (matx : Int32) (mfrm : Int32) (mtok : Int32) (mval : Int32) (mfk : Int32) (mfpl : Int32) (mbem : Int32) (mtrs : Int32) (mtrl : Int32) (mrom : Int32) (mtom : Int32) (mnow : Nat → Int32) (mfre : Nat → Int32) (mkep : Nat → Int32) (mtap : Nat → Int32) (mlef : Nat → Int32) (mtak : Nat → Int32) (mbes : Nat → Int32) (mrow : Nat → Int32) (mint : Nat → Int32) (mrnd : Nat → Int32) (mplo : Nat → Int32) (mhio : Nat → Int32) (mtox : Nat → Int32) (mtol : Nat → Int32), Rel cP cLo cHi ctb ctl ctf ctp cob col cso cha chs mact mtpd mfk mfpl mtom mnow mkep mtap mtol → JK p l e room_1 s m #[Value.ref b] below meth c D A Q 4 65 26217 ((mw h cy mthr mfrp mact mtpd msiz matx mfrm mtok mval mfk mfpl mbem mtrs mtrl mrom mtom mnow mfre mkep mtap mlef mtak mbes mrow mint mrnd mplo mhio mtox mtol) ++ (cw g cy cP cLo cHi cpl ctb ctl ctf ctp ctk cts cth cob col cso cha chs cbe ctr cgl cgh cll clh cta cme cps cwh cal cah)) 2361 [(3, .int (nI i)), (2, .ref (h 0)), (1, .ref (g 28)), (0, .ref b)] []) : JK p l e room_1 s m #[Value.ref b] below meth c D A Q 4 65 26217 ((mw h cy mthr mfrp mact mtpd msiz matx mfrm mtok mval mfk mfpl mbem mtrs mtrl mrom mtom mnow mfre mkep mtap mlef mtak mbes mrow mint mrnd mplo mhio mtox mtol) ++ (cw g cy cP cLo cHi cpl ctb ctl ctf ctp ctk cts cth cob col cso cha chs cbe ctr cgl cgh cll clh cta cme cps cwh cal cah)) 505 [(3, .int (nI i)), (2, .ref (h 0)), (1, .ref (g 28)), (0, .ref b)] [] := by
  obtain ⟨r, e1, e2, hr2⟩ := sim_has (p1 := xs (nI i + (1 : Int32)).toNatClampNeg) (p2 := xs (nI i + (2 : Int32)).toNatClampNeg) hr
  refine kAloadn C dL_law_505 rfl 2 rfl ?_
  refine kAloadn C dL_law_506 rfl 3 rfl ?_
  refine kIloadn C dL_law_507 rfl 0 rfl ?_
  refine kIconst C (1 : Int32) dL_law_508 ki_1 ?_
  refine kIadd C dL_law_509 ?_
  refine kSld C hX hbl hbA (sc_in1 hi hL) dL_law_510 ?_
  refine kAloadn C dL_law_511 rfl 3 rfl ?_
  refine kIloadn C dL_law_512 rfl 0 rfl ?_
  refine kIconst C (2 : Int32) dL_law_513 ki_2 ?_
  refine kIadd C dL_law_514 ?_
  refine kSld C hX hbl hbA (sc_in2 hi hL) dL_law_515 ?_
  refine kV C (X8_has_ok e1) vb_X8_has mk_RL_44 rfl rc28 ⟨Nat.le_of_ble_eq_true rfl, Nat.le_of_ble_eq_true rfl⟩ ⟨Nat.le_of_ble_eq_true rfl, Nat.le_of_ble_eq_true rfl⟩ rfl (Nat.le_of_ble_eq_true rfl) dL_law_516 ?_
  refine kAloadn C dL_law_519 rfl 1 rfl ?_
  refine kAloadn C dL_law_520 rfl 3 rfl ?_
  refine kIloadn C dL_law_521 rfl 0 rfl ?_
  refine kIconst C (1 : Int32) dL_law_522 ki_1 ?_
  refine kIadd C dL_law_523 ?_
  refine kSld C hX hbl hbA (sc_in1 hi hL) dL_law_524 ?_
  refine kAloadn C dL_law_525 rfl 3 rfl ?_
  refine kIloadn C dL_law_526 rfl 0 rfl ?_
  refine kIconst C (2 : Int32) dL_law_527 ki_2 ?_
  refine kIadd C dL_law_528 ?_
  refine kSld C hX hbl hbA (sc_in2 hi hL) dL_law_529 ?_
  refine k_swap ?_
  refine kV C (X9_has_ok e2) vb_X9_has mk_RL_47 rfl rcM ⟨Nat.le_of_ble_eq_true rfl, Nat.le_of_ble_eq_true rfl⟩ ⟨Nat.le_of_ble_eq_true rfl, Nat.le_of_ble_eq_true rfl⟩ rfl (Nat.le_of_ble_eq_true rfl) dL_law_530 ?_
  refine k_swap ?_
  refine kCmpEq C 2361 dL_law_533 (by decide) (fun _ => ?_) (fun q => absurd rfl q)
  exact kk cP cLo cHi cpl ctb ctl ctf ctp ctk cts cth cob col cso cha chs cbe ctr cgl cgh cll clh cta cme cps cwh cal cah mthr mfrp mact mtpd msiz matx mfrm mtok mval mfk mfpl mbem mtrs mtrl mrom mtom mnow mfre mkep mtap mlef mtak mbes mrow mint mrnd mplo mhio mtox mtol hr2
set_option maxHeartbeats 4000000 in
theorem law_is (C : Cx p l room_1 s m #[Value.ref b] meth c code 4 RL ret D cy G A) (hX : va_X b L xs s s.heap) (hbl : b < s.heap.size) (hbA : ¬ A b) {i : Nat} (hi : i + 6 ≤ L) (hL : L ≤ 3072) (hr : Rel cP cLo cHi ctb ctl ctf ctp cob col cso cha chs mact mtpd mfk mfpl mtom mnow mkep mtap mtol)
    (kk : ∀ (cP : Nat → Int32) (cLo : Nat → Int64) (cHi : Nat → Int64) (cpl : Nat → Int32) (ctb : Nat → Int32) (ctl : Int32) (ctf : Int32) (ctp : Int32) (ctk : Int32) (cts : Int32) (cth : Int32) (cob : Nat → Int32) (col : Int32) (cso : Nat → Int32) (cha : Int32) (chs : Int32) (cbe : Int32) (ctr : Int32) (cgl : Nat → Int64) (cgh : Nat → Int64) (cll : Nat → Int64) (clh : Nat → Int64) (cta : Nat → Int32) (cme : Nat → Int32) (cps : Int32) (cwh : Nat → Int32) (cal : Nat → Int64) (cah : Nat → Int64) (mthr : Int32) (mfrp : Int32) (mact : Int32) (mtpd : Int32) (msiz : Int32) (matx : Int32) (mfrm : Int32) (mtok : Int32) (mval : Int32) (mfk : Int32) (mfpl : Int32) (mbem : Int32) (mtrs : Int32) (mtrl : Int32) (mrom : Int32) (mtom : Int32) (mnow : Nat → Int32) (mfre : Nat → Int32) (mkep : Nat → Int32) (mtap : Nat → Int32) (mlef : Nat → Int32) (mtak : Nat → Int32) (mbes : Nat → Int32) (mrow : Nat → Int32) (mint : Nat → Int32) (mrnd : Nat → Int32) (mplo : Nat → Int32) (mhio : Nat → Int32) (mtox : Nat → Int32) (mtol : Nat → Int32), Rel cP cLo cHi ctb ctl ctf ctp cob col cso cha chs mact mtpd mfk mfpl mtom mnow mkep mtap mtol → JK p l e room_1 s m #[Value.ref b] below meth c D A Q 4 65 26217 ((mw h cy mthr mfrp mact mtpd msiz matx mfrm mtok mval mfk mfpl mbem mtrs mtrl mrom mtom mnow mfre mkep mtap mlef mtak mbes mrow mint mrnd mplo mhio mtox mtol) ++ (cw g cy cP cLo cHi cpl ctb ctl ctf ctp ctk cts cth cob col cso cha chs cbe ctr cgl cgh cll clh cta cme cps cwh cal cah)) 2361 [(3, .int (nI i)), (2, .ref (h 0)), (1, .ref (g 28)), (0, .ref b)] []) : JK p l e room_1 s m #[Value.ref b] below meth c D A Q 4 65 26217 ((mw h cy mthr mfrp mact mtpd msiz matx mfrm mtok mval mfk mfpl mbem mtrs mtrl mrom mtom mnow mfre mkep mtap mlef mtak mbes mrow mint mrnd mplo mhio mtox mtol) ++ (cw g cy cP cLo cHi cpl ctb ctl ctf ctp ctk cts cth cob col cso cha chs cbe ctr cgl cgh cll clh cta cme cps cwh cal cah)) 538 [(3, .int (nI i)), (2, .ref (h 0)), (1, .ref (g 28)), (0, .ref b)] [] := by
  obtain ⟨r, ocP, ocLo, ocHi, e1, e2, hr2⟩ := sim_is (p1 := xs (nI i + (1 : Int32)).toNatClampNeg) (p2 := xs (nI i + (2 : Int32)).toNatClampNeg) hr
  refine kAloadn C dL_law_538 rfl 2 rfl ?_
  refine kAloadn C dL_law_539 rfl 3 rfl ?_
  refine kIloadn C dL_law_540 rfl 0 rfl ?_
  refine kIconst C (1 : Int32) dL_law_541 ki_1 ?_
  refine kIadd C dL_law_542 ?_
  refine kSld C hX hbl hbA (sc_in1 hi hL) dL_law_543 ?_
  refine kAloadn C dL_law_544 rfl 3 rfl ?_
  refine kIloadn C dL_law_545 rfl 0 rfl ?_
  refine kIconst C (2 : Int32) dL_law_546 ki_2 ?_
  refine kIadd C dL_law_547 ?_
  refine kSld C hX hbl hbA (sc_in2 hi hL) dL_law_548 ?_
  refine kV C (X8_is_ok e1) vb_X8_is mk_RL_48 rfl rc28 ⟨Nat.le_of_ble_eq_true rfl, Nat.le_of_ble_eq_true rfl⟩ ⟨Nat.le_of_ble_eq_true rfl, Nat.le_of_ble_eq_true rfl⟩ rfl (Nat.le_of_ble_eq_true rfl) dL_law_549 ?_
  refine kAloadn C dL_law_552 rfl 1 rfl ?_
  refine kAloadn C dL_law_553 rfl 3 rfl ?_
  refine kIloadn C dL_law_554 rfl 0 rfl ?_
  refine kIconst C (1 : Int32) dL_law_555 ki_1 ?_
  refine kIadd C dL_law_556 ?_
  refine kSld C hX hbl hbA (sc_in1 hi hL) dL_law_557 ?_
  refine kAloadn C dL_law_558 rfl 3 rfl ?_
  refine kIloadn C dL_law_559 rfl 0 rfl ?_
  refine kIconst C (2 : Int32) dL_law_560 ki_2 ?_
  refine kIadd C dL_law_561 ?_
  refine kSld C hX hbl hbA (sc_in2 hi hL) dL_law_562 ?_
  refine k_swap ?_
  refine kV C (X9_is_ok e2) vb_X9_is mk_RL_51 rfl rcM ⟨Nat.le_of_ble_eq_true rfl, Nat.le_of_ble_eq_true rfl⟩ ⟨Nat.le_of_ble_eq_true rfl, Nat.le_of_ble_eq_true rfl⟩ rfl (Nat.le_of_ble_eq_true rfl) dL_law_563 ?_
  refine k_swap ?_
  refine kCmpEq C 2361 dL_law_566 (by decide) (fun _ => ?_) (fun q => absurd rfl q)
  exact kk ocP ocLo ocHi cpl ctb ctl ctf ctp ctk cts cth cob col cso cha chs cbe ctr cgl cgh cll clh cta cme cps cwh cal cah mthr mfrp mact mtpd msiz matx mfrm mtok mval mfk mfpl mbem mtrs mtrl mrom mtom mnow mfre mkep mtap mlef mtak mbes mrow mint mrnd mplo mhio mtox mtol hr2
set_option maxHeartbeats 4000000 in
theorem law_degree (C : Cx p l room_1 s m #[Value.ref b] meth c code 4 RL ret D cy G A) (hX : va_X b L xs s s.heap) (hbl : b < s.heap.size) (hbA : ¬ A b) {i : Nat} (hi : i + 6 ≤ L) (hL : L ≤ 3072) (hr : Rel cP cLo cHi ctb ctl ctf ctp cob col cso cha chs mact mtpd mfk mfpl mtom mnow mkep mtap mtol)
    (kk : ∀ (cP : Nat → Int32) (cLo : Nat → Int64) (cHi : Nat → Int64) (cpl : Nat → Int32) (ctb : Nat → Int32) (ctl : Int32) (ctf : Int32) (ctp : Int32) (ctk : Int32) (cts : Int32) (cth : Int32) (cob : Nat → Int32) (col : Int32) (cso : Nat → Int32) (cha : Int32) (chs : Int32) (cbe : Int32) (ctr : Int32) (cgl : Nat → Int64) (cgh : Nat → Int64) (cll : Nat → Int64) (clh : Nat → Int64) (cta : Nat → Int32) (cme : Nat → Int32) (cps : Int32) (cwh : Nat → Int32) (cal : Nat → Int64) (cah : Nat → Int64) (mthr : Int32) (mfrp : Int32) (mact : Int32) (mtpd : Int32) (msiz : Int32) (matx : Int32) (mfrm : Int32) (mtok : Int32) (mval : Int32) (mfk : Int32) (mfpl : Int32) (mbem : Int32) (mtrs : Int32) (mtrl : Int32) (mrom : Int32) (mtom : Int32) (mnow : Nat → Int32) (mfre : Nat → Int32) (mkep : Nat → Int32) (mtap : Nat → Int32) (mlef : Nat → Int32) (mtak : Nat → Int32) (mbes : Nat → Int32) (mrow : Nat → Int32) (mint : Nat → Int32) (mrnd : Nat → Int32) (mplo : Nat → Int32) (mhio : Nat → Int32) (mtox : Nat → Int32) (mtol : Nat → Int32), Rel cP cLo cHi ctb ctl ctf ctp cob col cso cha chs mact mtpd mfk mfpl mtom mnow mkep mtap mtol → JK p l e room_1 s m #[Value.ref b] below meth c D A Q 4 65 26217 ((mw h cy mthr mfrp mact mtpd msiz matx mfrm mtok mval mfk mfpl mbem mtrs mtrl mrom mtom mnow mfre mkep mtap mlef mtak mbes mrow mint mrnd mplo mhio mtox mtol) ++ (cw g cy cP cLo cHi cpl ctb ctl ctf ctp ctk cts cth cob col cso cha chs cbe ctr cgl cgh cll clh cta cme cps cwh cal cah)) 2361 [(3, .int (nI i)), (2, .ref (h 0)), (1, .ref (g 28)), (0, .ref b)] []) : JK p l e room_1 s m #[Value.ref b] below meth c D A Q 4 65 26217 ((mw h cy mthr mfrp mact mtpd msiz matx mfrm mtok mval mfk mfpl mbem mtrs mtrl mrom mtom mnow mfre mkep mtap mlef mtak mbes mrow mint mrnd mplo mhio mtox mtol) ++ (cw g cy cP cLo cHi cpl ctb ctl ctf ctp ctk cts cth cob col cso cha chs cbe ctr cgl cgh cll clh cta cme cps cwh cal cah)) 571 [(3, .int (nI i)), (2, .ref (h 0)), (1, .ref (g 28)), (0, .ref b)] [] := by
  obtain ⟨r, e1, e2, hr2⟩ := sim_degree (p1 := xs (nI i + (1 : Int32)).toNatClampNeg) (p2 := xs (nI i + (2 : Int32)).toNatClampNeg) hr
  refine kAloadn C dL_law_571 rfl 2 rfl ?_
  refine kAloadn C dL_law_572 rfl 3 rfl ?_
  refine kIloadn C dL_law_573 rfl 0 rfl ?_
  refine kIconst C (1 : Int32) dL_law_574 ki_1 ?_
  refine kIadd C dL_law_575 ?_
  refine kSld C hX hbl hbA (sc_in1 hi hL) dL_law_576 ?_
  refine kAloadn C dL_law_577 rfl 3 rfl ?_
  refine kIloadn C dL_law_578 rfl 0 rfl ?_
  refine kIconst C (2 : Int32) dL_law_579 ki_2 ?_
  refine kIadd C dL_law_580 ?_
  refine kSld C hX hbl hbA (sc_in2 hi hL) dL_law_581 ?_
  refine kV C (X8_degree_ok e1) vb_X8_degree mk_RL_52 rfl rc28 ⟨Nat.le_of_ble_eq_true rfl, Nat.le_of_ble_eq_true rfl⟩ ⟨Nat.le_of_ble_eq_true rfl, Nat.le_of_ble_eq_true rfl⟩ rfl (Nat.le_of_ble_eq_true rfl) dL_law_582 ?_
  refine kAloadn C dL_law_585 rfl 1 rfl ?_
  refine kAloadn C dL_law_586 rfl 3 rfl ?_
  refine kIloadn C dL_law_587 rfl 0 rfl ?_
  refine kIconst C (1 : Int32) dL_law_588 ki_1 ?_
  refine kIadd C dL_law_589 ?_
  refine kSld C hX hbl hbA (sc_in1 hi hL) dL_law_590 ?_
  refine kAloadn C dL_law_591 rfl 3 rfl ?_
  refine kIloadn C dL_law_592 rfl 0 rfl ?_
  refine kIconst C (2 : Int32) dL_law_593 ki_2 ?_
  refine kIadd C dL_law_594 ?_
  refine kSld C hX hbl hbA (sc_in2 hi hL) dL_law_595 ?_
  refine k_swap ?_
  refine kV C (X9_degree_ok e2) vb_X9_degree mk_RL_55 rfl rcM ⟨Nat.le_of_ble_eq_true rfl, Nat.le_of_ble_eq_true rfl⟩ ⟨Nat.le_of_ble_eq_true rfl, Nat.le_of_ble_eq_true rfl⟩ rfl (Nat.le_of_ble_eq_true rfl) dL_law_596 ?_
  refine k_swap ?_
  refine kCmpEq C 2361 dL_law_599 (by decide) (fun _ => ?_) (fun q => absurd rfl q)
  exact kk cP cLo cHi cpl ctb ctl ctf ctp ctk cts cth cob col cso cha chs cbe ctr cgl cgh cll clh cta cme cps cwh cal cah mthr mfrp mact mtpd msiz matx mfrm mtok mval mfk mfpl mbem mtrs mtrl mrom mtom mnow mfre mkep mtap mlef mtak mbes mrow mint mrnd mplo mhio mtox mtol hr2
set_option maxHeartbeats 4000000 in
theorem law_order (C : Cx p l room_1 s m #[Value.ref b] meth c code 4 RL ret D cy G A) (hX : va_X b L xs s s.heap) (hbl : b < s.heap.size) (hbA : ¬ A b) {i : Nat} (hi : i + 6 ≤ L) (hL : L ≤ 3072) (hr : Rel cP cLo cHi ctb ctl ctf ctp cob col cso cha chs mact mtpd mfk mfpl mtom mnow mkep mtap mtol)
    (kk : ∀ (cP : Nat → Int32) (cLo : Nat → Int64) (cHi : Nat → Int64) (cpl : Nat → Int32) (ctb : Nat → Int32) (ctl : Int32) (ctf : Int32) (ctp : Int32) (ctk : Int32) (cts : Int32) (cth : Int32) (cob : Nat → Int32) (col : Int32) (cso : Nat → Int32) (cha : Int32) (chs : Int32) (cbe : Int32) (ctr : Int32) (cgl : Nat → Int64) (cgh : Nat → Int64) (cll : Nat → Int64) (clh : Nat → Int64) (cta : Nat → Int32) (cme : Nat → Int32) (cps : Int32) (cwh : Nat → Int32) (cal : Nat → Int64) (cah : Nat → Int64) (mthr : Int32) (mfrp : Int32) (mact : Int32) (mtpd : Int32) (msiz : Int32) (matx : Int32) (mfrm : Int32) (mtok : Int32) (mval : Int32) (mfk : Int32) (mfpl : Int32) (mbem : Int32) (mtrs : Int32) (mtrl : Int32) (mrom : Int32) (mtom : Int32) (mnow : Nat → Int32) (mfre : Nat → Int32) (mkep : Nat → Int32) (mtap : Nat → Int32) (mlef : Nat → Int32) (mtak : Nat → Int32) (mbes : Nat → Int32) (mrow : Nat → Int32) (mint : Nat → Int32) (mrnd : Nat → Int32) (mplo : Nat → Int32) (mhio : Nat → Int32) (mtox : Nat → Int32) (mtol : Nat → Int32), Rel cP cLo cHi ctb ctl ctf ctp cob col cso cha chs mact mtpd mfk mfpl mtom mnow mkep mtap mtol → JK p l e room_1 s m #[Value.ref b] below meth c D A Q 4 65 26217 ((mw h cy mthr mfrp mact mtpd msiz matx mfrm mtok mval mfk mfpl mbem mtrs mtrl mrom mtom mnow mfre mkep mtap mlef mtak mbes mrow mint mrnd mplo mhio mtox mtol) ++ (cw g cy cP cLo cHi cpl ctb ctl ctf ctp ctk cts cth cob col cso cha chs cbe ctr cgl cgh cll clh cta cme cps cwh cal cah)) 2361 [(3, .int (nI i)), (2, .ref (h 0)), (1, .ref (g 28)), (0, .ref b)] []) : JK p l e room_1 s m #[Value.ref b] below meth c D A Q 4 65 26217 ((mw h cy mthr mfrp mact mtpd msiz matx mfrm mtok mval mfk mfpl mbem mtrs mtrl mrom mtom mnow mfre mkep mtap mlef mtak mbes mrow mint mrnd mplo mhio mtox mtol) ++ (cw g cy cP cLo cHi cpl ctb ctl ctf ctp ctk cts cth cob col cso cha chs cbe ctr cgl cgh cll clh cta cme cps cwh cal cah)) 604 [(3, .int (nI i)), (2, .ref (h 0)), (1, .ref (g 28)), (0, .ref b)] [] := by
  obtain ⟨r, e1, e2, hr2⟩ := sim_order (p1 := xs (nI i + (1 : Int32)).toNatClampNeg) (p2 := xs (nI i + (2 : Int32)).toNatClampNeg) hr
  refine kAloadn C dL_law_604 rfl 2 rfl ?_
  refine kAloadn C dL_law_605 rfl 3 rfl ?_
  refine kIloadn C dL_law_606 rfl 0 rfl ?_
  refine kIconst C (1 : Int32) dL_law_607 ki_1 ?_
  refine kIadd C dL_law_608 ?_
  refine kSld C hX hbl hbA (sc_in1 hi hL) dL_law_609 ?_
  refine kAloadn C dL_law_610 rfl 3 rfl ?_
  refine kIloadn C dL_law_611 rfl 0 rfl ?_
  refine kIconst C (2 : Int32) dL_law_612 ki_2 ?_
  refine kIadd C dL_law_613 ?_
  refine kSld C hX hbl hbA (sc_in2 hi hL) dL_law_614 ?_
  refine kV C (X8_order_ok e1) vb_X8_order mk_RL_56 rfl rc28 ⟨Nat.le_of_ble_eq_true rfl, Nat.le_of_ble_eq_true rfl⟩ ⟨Nat.le_of_ble_eq_true rfl, Nat.le_of_ble_eq_true rfl⟩ rfl (Nat.le_of_ble_eq_true rfl) dL_law_615 ?_
  refine kAloadn C dL_law_618 rfl 1 rfl ?_
  refine kAloadn C dL_law_619 rfl 3 rfl ?_
  refine kIloadn C dL_law_620 rfl 0 rfl ?_
  refine kIconst C (1 : Int32) dL_law_621 ki_1 ?_
  refine kIadd C dL_law_622 ?_
  refine kSld C hX hbl hbA (sc_in1 hi hL) dL_law_623 ?_
  refine kAloadn C dL_law_624 rfl 3 rfl ?_
  refine kIloadn C dL_law_625 rfl 0 rfl ?_
  refine kIconst C (2 : Int32) dL_law_626 ki_2 ?_
  refine kIadd C dL_law_627 ?_
  refine kSld C hX hbl hbA (sc_in2 hi hL) dL_law_628 ?_
  refine k_swap ?_
  refine kV C (X9_order_ok e2) vb_X9_order mk_RL_59 rfl rcM ⟨Nat.le_of_ble_eq_true rfl, Nat.le_of_ble_eq_true rfl⟩ ⟨Nat.le_of_ble_eq_true rfl, Nat.le_of_ble_eq_true rfl⟩ rfl (Nat.le_of_ble_eq_true rfl) dL_law_629 ?_
  refine k_swap ?_
  refine kCmpEq C 2361 dL_law_632 (by decide) (fun _ => ?_) (fun q => absurd rfl q)
  exact kk cP cLo cHi cpl ctb ctl ctf ctp ctk cts cth cob col cso cha chs cbe ctr cgl cgh cll clh cta cme cps cwh cal cah mthr mfrp mact mtpd msiz matx mfrm mtok mval mfk mfpl mbem mtrs mtrl mrom mtom mnow mfre mkep mtap mlef mtak mbes mrow mint mrnd mplo mhio mtox mtol hr2
set_option maxHeartbeats 4000000 in
theorem law_level (C : Cx p l room_1 s m #[Value.ref b] meth c code 4 RL ret D cy G A) (hX : va_X b L xs s s.heap) (hbl : b < s.heap.size) (hbA : ¬ A b) {i : Nat} (hi : i + 6 ≤ L) (hL : L ≤ 3072) (hr : Rel cP cLo cHi ctb ctl ctf ctp cob col cso cha chs mact mtpd mfk mfpl mtom mnow mkep mtap mtol)
    (kk : ∀ (cP : Nat → Int32) (cLo : Nat → Int64) (cHi : Nat → Int64) (cpl : Nat → Int32) (ctb : Nat → Int32) (ctl : Int32) (ctf : Int32) (ctp : Int32) (ctk : Int32) (cts : Int32) (cth : Int32) (cob : Nat → Int32) (col : Int32) (cso : Nat → Int32) (cha : Int32) (chs : Int32) (cbe : Int32) (ctr : Int32) (cgl : Nat → Int64) (cgh : Nat → Int64) (cll : Nat → Int64) (clh : Nat → Int64) (cta : Nat → Int32) (cme : Nat → Int32) (cps : Int32) (cwh : Nat → Int32) (cal : Nat → Int64) (cah : Nat → Int64) (mthr : Int32) (mfrp : Int32) (mact : Int32) (mtpd : Int32) (msiz : Int32) (matx : Int32) (mfrm : Int32) (mtok : Int32) (mval : Int32) (mfk : Int32) (mfpl : Int32) (mbem : Int32) (mtrs : Int32) (mtrl : Int32) (mrom : Int32) (mtom : Int32) (mnow : Nat → Int32) (mfre : Nat → Int32) (mkep : Nat → Int32) (mtap : Nat → Int32) (mlef : Nat → Int32) (mtak : Nat → Int32) (mbes : Nat → Int32) (mrow : Nat → Int32) (mint : Nat → Int32) (mrnd : Nat → Int32) (mplo : Nat → Int32) (mhio : Nat → Int32) (mtox : Nat → Int32) (mtol : Nat → Int32), Rel cP cLo cHi ctb ctl ctf ctp cob col cso cha chs mact mtpd mfk mfpl mtom mnow mkep mtap mtol → JK p l e room_1 s m #[Value.ref b] below meth c D A Q 4 65 26217 ((mw h cy mthr mfrp mact mtpd msiz matx mfrm mtok mval mfk mfpl mbem mtrs mtrl mrom mtom mnow mfre mkep mtap mlef mtak mbes mrow mint mrnd mplo mhio mtox mtol) ++ (cw g cy cP cLo cHi cpl ctb ctl ctf ctp ctk cts cth cob col cso cha chs cbe ctr cgl cgh cll clh cta cme cps cwh cal cah)) 2361 [(3, .int (nI i)), (2, .ref (h 0)), (1, .ref (g 28)), (0, .ref b)] []) : JK p l e room_1 s m #[Value.ref b] below meth c D A Q 4 65 26217 ((mw h cy mthr mfrp mact mtpd msiz matx mfrm mtok mval mfk mfpl mbem mtrs mtrl mrom mtom mnow mfre mkep mtap mlef mtak mbes mrow mint mrnd mplo mhio mtox mtol) ++ (cw g cy cP cLo cHi cpl ctb ctl ctf ctp ctk cts cth cob col cso cha chs cbe ctr cgl cgh cll clh cta cme cps cwh cal cah)) 637 [(3, .int (nI i)), (2, .ref (h 0)), (1, .ref (g 28)), (0, .ref b)] [] := by
  obtain ⟨r, e1, e2, hr2⟩ := sim_level (p1 := xs (nI i + (1 : Int32)).toNatClampNeg) (p2 := xs (nI i + (2 : Int32)).toNatClampNeg) hr
  refine kAloadn C dL_law_637 rfl 2 rfl ?_
  refine kAloadn C dL_law_638 rfl 3 rfl ?_
  refine kIloadn C dL_law_639 rfl 0 rfl ?_
  refine kIconst C (1 : Int32) dL_law_640 ki_1 ?_
  refine kIadd C dL_law_641 ?_
  refine kSld C hX hbl hbA (sc_in1 hi hL) dL_law_642 ?_
  refine kAloadn C dL_law_643 rfl 3 rfl ?_
  refine kIloadn C dL_law_644 rfl 0 rfl ?_
  refine kIconst C (2 : Int32) dL_law_645 ki_2 ?_
  refine kIadd C dL_law_646 ?_
  refine kSld C hX hbl hbA (sc_in2 hi hL) dL_law_647 ?_
  refine kV C (X8_level_ok e1) vb_X8_level mk_RL_60 rfl rc28 ⟨Nat.le_of_ble_eq_true rfl, Nat.le_of_ble_eq_true rfl⟩ ⟨Nat.le_of_ble_eq_true rfl, Nat.le_of_ble_eq_true rfl⟩ rfl (Nat.le_of_ble_eq_true rfl) dL_law_648 ?_
  refine kAloadn C dL_law_651 rfl 1 rfl ?_
  refine kAloadn C dL_law_652 rfl 3 rfl ?_
  refine kIloadn C dL_law_653 rfl 0 rfl ?_
  refine kIconst C (1 : Int32) dL_law_654 ki_1 ?_
  refine kIadd C dL_law_655 ?_
  refine kSld C hX hbl hbA (sc_in1 hi hL) dL_law_656 ?_
  refine kAloadn C dL_law_657 rfl 3 rfl ?_
  refine kIloadn C dL_law_658 rfl 0 rfl ?_
  refine kIconst C (2 : Int32) dL_law_659 ki_2 ?_
  refine kIadd C dL_law_660 ?_
  refine kSld C hX hbl hbA (sc_in2 hi hL) dL_law_661 ?_
  refine k_swap ?_
  refine kV C (X9_level_ok e2) vb_X9_level mk_RL_63 rfl rcM ⟨Nat.le_of_ble_eq_true rfl, Nat.le_of_ble_eq_true rfl⟩ ⟨Nat.le_of_ble_eq_true rfl, Nat.le_of_ble_eq_true rfl⟩ rfl (Nat.le_of_ble_eq_true rfl) dL_law_662 ?_
  refine k_swap ?_
  refine kCmpEq C 2361 dL_law_665 (by decide) (fun _ => ?_) (fun q => absurd rfl q)
  exact kk cP cLo cHi cpl ctb ctl ctf ctp ctk cts cth cob col cso cha chs cbe ctr cgl cgh cll clh cta cme cps cwh cal cah mthr mfrp mact mtpd msiz matx mfrm mtok mval mfk mfpl mbem mtrs mtrl mrom mtom mnow mfre mkep mtap mlef mtak mbes mrow mint mrnd mplo mhio mtox mtol hr2
set_option maxHeartbeats 4000000 in
theorem law_makes (C : Cx p l room_1 s m #[Value.ref b] meth c code 4 RL ret D cy G A) (hX : va_X b L xs s s.heap) (hbl : b < s.heap.size) (hbA : ¬ A b) {i : Nat} (hi : i + 6 ≤ L) (hL : L ≤ 3072) (hr : Rel cP cLo cHi ctb ctl ctf ctp cob col cso cha chs mact mtpd mfk mfpl mtom mnow mkep mtap mtol)
    (kk : ∀ (cP : Nat → Int32) (cLo : Nat → Int64) (cHi : Nat → Int64) (cpl : Nat → Int32) (ctb : Nat → Int32) (ctl : Int32) (ctf : Int32) (ctp : Int32) (ctk : Int32) (cts : Int32) (cth : Int32) (cob : Nat → Int32) (col : Int32) (cso : Nat → Int32) (cha : Int32) (chs : Int32) (cbe : Int32) (ctr : Int32) (cgl : Nat → Int64) (cgh : Nat → Int64) (cll : Nat → Int64) (clh : Nat → Int64) (cta : Nat → Int32) (cme : Nat → Int32) (cps : Int32) (cwh : Nat → Int32) (cal : Nat → Int64) (cah : Nat → Int64) (mthr : Int32) (mfrp : Int32) (mact : Int32) (mtpd : Int32) (msiz : Int32) (matx : Int32) (mfrm : Int32) (mtok : Int32) (mval : Int32) (mfk : Int32) (mfpl : Int32) (mbem : Int32) (mtrs : Int32) (mtrl : Int32) (mrom : Int32) (mtom : Int32) (mnow : Nat → Int32) (mfre : Nat → Int32) (mkep : Nat → Int32) (mtap : Nat → Int32) (mlef : Nat → Int32) (mtak : Nat → Int32) (mbes : Nat → Int32) (mrow : Nat → Int32) (mint : Nat → Int32) (mrnd : Nat → Int32) (mplo : Nat → Int32) (mhio : Nat → Int32) (mtox : Nat → Int32) (mtol : Nat → Int32), Rel cP cLo cHi ctb ctl ctf ctp cob col cso cha chs mact mtpd mfk mfpl mtom mnow mkep mtap mtol → JK p l e room_1 s m #[Value.ref b] below meth c D A Q 4 65 26217 ((mw h cy mthr mfrp mact mtpd msiz matx mfrm mtok mval mfk mfpl mbem mtrs mtrl mrom mtom mnow mfre mkep mtap mlef mtak mbes mrow mint mrnd mplo mhio mtox mtol) ++ (cw g cy cP cLo cHi cpl ctb ctl ctf ctp ctk cts cth cob col cso cha chs cbe ctr cgl cgh cll clh cta cme cps cwh cal cah)) 2361 [(3, .int (nI i)), (2, .ref (h 0)), (1, .ref (g 28)), (0, .ref b)] []) : JK p l e room_1 s m #[Value.ref b] below meth c D A Q 4 65 26217 ((mw h cy mthr mfrp mact mtpd msiz matx mfrm mtok mval mfk mfpl mbem mtrs mtrl mrom mtom mnow mfre mkep mtap mlef mtak mbes mrow mint mrnd mplo mhio mtox mtol) ++ (cw g cy cP cLo cHi cpl ctb ctl ctf ctp ctk cts cth cob col cso cha chs cbe ctr cgl cgh cll clh cta cme cps cwh cal cah)) 670 [(3, .int (nI i)), (2, .ref (h 0)), (1, .ref (g 28)), (0, .ref b)] [] := by
  obtain ⟨r, ocP, ocLo, ocHi, ocso, ocha, ochs, omfrp, omact, omnow, omfre, omkep, e1, e2, hr2⟩ := sim_makes (p1 := xs (nI i + (1 : Int32)).toNatClampNeg) (p2 := xs (nI i + (2 : Int32)).toNatClampNeg) (p3 := xs (nI i + (3 : Int32)).toNatClampNeg) hr
  refine kAloadn C dL_law_670 rfl 2 rfl ?_
  refine kAloadn C dL_law_671 rfl 3 rfl ?_
  refine kIloadn C dL_law_672 rfl 0 rfl ?_
  refine kIconst C (1 : Int32) dL_law_673 ki_1 ?_
  refine kIadd C dL_law_674 ?_
  refine kSld C hX hbl hbA (sc_in1 hi hL) dL_law_675 ?_
  refine kAloadn C dL_law_676 rfl 3 rfl ?_
  refine kIloadn C dL_law_677 rfl 0 rfl ?_
  refine kIconst C (2 : Int32) dL_law_678 ki_2 ?_
  refine kIadd C dL_law_679 ?_
  refine kSld C hX hbl hbA (sc_in2 hi hL) dL_law_680 ?_
  refine kAloadn C dL_law_681 rfl 3 rfl ?_
  refine kIloadn C dL_law_682 rfl 0 rfl ?_
  refine kIconst C (3 : Int32) dL_law_683 ki_3 ?_
  refine kIadd C dL_law_684 ?_
  refine kSld C hX hbl hbA (sc_in3 hi hL) dL_law_685 ?_
  refine kV C (X8_makes_ok e1) vb_X8_makes mk_RL_64 rfl rc28 ⟨Nat.le_of_ble_eq_true rfl, Nat.le_of_ble_eq_true rfl⟩ ⟨Nat.le_of_ble_eq_true rfl, Nat.le_of_ble_eq_true rfl⟩ rfl (Nat.le_of_ble_eq_true rfl) dL_law_686 ?_
  refine kAloadn C dL_law_689 rfl 1 rfl ?_
  refine kAloadn C dL_law_690 rfl 3 rfl ?_
  refine kIloadn C dL_law_691 rfl 0 rfl ?_
  refine kIconst C (1 : Int32) dL_law_692 ki_1 ?_
  refine kIadd C dL_law_693 ?_
  refine kSld C hX hbl hbA (sc_in1 hi hL) dL_law_694 ?_
  refine kAloadn C dL_law_695 rfl 3 rfl ?_
  refine kIloadn C dL_law_696 rfl 0 rfl ?_
  refine kIconst C (2 : Int32) dL_law_697 ki_2 ?_
  refine kIadd C dL_law_698 ?_
  refine kSld C hX hbl hbA (sc_in2 hi hL) dL_law_699 ?_
  refine kAloadn C dL_law_700 rfl 3 rfl ?_
  refine kIloadn C dL_law_701 rfl 0 rfl ?_
  refine kIconst C (3 : Int32) dL_law_702 ki_3 ?_
  refine kIadd C dL_law_703 ?_
  refine kSld C hX hbl hbA (sc_in3 hi hL) dL_law_704 ?_
  refine k_swap ?_
  refine kV C (X9_makes_ok e2) vb_X9_makes mk_RL_68 rfl rcM ⟨Nat.le_of_ble_eq_true rfl, Nat.le_of_ble_eq_true rfl⟩ ⟨Nat.le_of_ble_eq_true rfl, Nat.le_of_ble_eq_true rfl⟩ rfl (Nat.le_of_ble_eq_true rfl) dL_law_705 ?_
  refine k_swap ?_
  refine kCmpEq C 2361 dL_law_708 (by decide) (fun _ => ?_) (fun q => absurd rfl q)
  exact kk ocP ocLo ocHi cpl ctb ctl ctf ctp ctk cts cth cob col ocso ocha ochs cbe ctr cgl cgh cll clh cta cme cps cwh cal cah mthr omfrp omact mtpd msiz matx mfrm mtok mval mfk mfpl mbem mtrs mtrl mrom mtom omnow omfre omkep mtap mlef mtak mbes mrow mint mrnd mplo mhio mtox mtol hr2
set_option maxHeartbeats 4000000 in
theorem law_part (C : Cx p l room_1 s m #[Value.ref b] meth c code 4 RL ret D cy G A) (hX : va_X b L xs s s.heap) (hbl : b < s.heap.size) (hbA : ¬ A b) {i : Nat} (hi : i + 6 ≤ L) (hL : L ≤ 3072) (hr : Rel cP cLo cHi ctb ctl ctf ctp cob col cso cha chs mact mtpd mfk mfpl mtom mnow mkep mtap mtol)
    (kk : ∀ (cP : Nat → Int32) (cLo : Nat → Int64) (cHi : Nat → Int64) (cpl : Nat → Int32) (ctb : Nat → Int32) (ctl : Int32) (ctf : Int32) (ctp : Int32) (ctk : Int32) (cts : Int32) (cth : Int32) (cob : Nat → Int32) (col : Int32) (cso : Nat → Int32) (cha : Int32) (chs : Int32) (cbe : Int32) (ctr : Int32) (cgl : Nat → Int64) (cgh : Nat → Int64) (cll : Nat → Int64) (clh : Nat → Int64) (cta : Nat → Int32) (cme : Nat → Int32) (cps : Int32) (cwh : Nat → Int32) (cal : Nat → Int64) (cah : Nat → Int64) (mthr : Int32) (mfrp : Int32) (mact : Int32) (mtpd : Int32) (msiz : Int32) (matx : Int32) (mfrm : Int32) (mtok : Int32) (mval : Int32) (mfk : Int32) (mfpl : Int32) (mbem : Int32) (mtrs : Int32) (mtrl : Int32) (mrom : Int32) (mtom : Int32) (mnow : Nat → Int32) (mfre : Nat → Int32) (mkep : Nat → Int32) (mtap : Nat → Int32) (mlef : Nat → Int32) (mtak : Nat → Int32) (mbes : Nat → Int32) (mrow : Nat → Int32) (mint : Nat → Int32) (mrnd : Nat → Int32) (mplo : Nat → Int32) (mhio : Nat → Int32) (mtox : Nat → Int32) (mtol : Nat → Int32), Rel cP cLo cHi ctb ctl ctf ctp cob col cso cha chs mact mtpd mfk mfpl mtom mnow mkep mtap mtol → JK p l e room_1 s m #[Value.ref b] below meth c D A Q 4 65 26217 ((mw h cy mthr mfrp mact mtpd msiz matx mfrm mtok mval mfk mfpl mbem mtrs mtrl mrom mtom mnow mfre mkep mtap mlef mtak mbes mrow mint mrnd mplo mhio mtox mtol) ++ (cw g cy cP cLo cHi cpl ctb ctl ctf ctp ctk cts cth cob col cso cha chs cbe ctr cgl cgh cll clh cta cme cps cwh cal cah)) 2361 [(3, .int (nI i)), (2, .ref (h 0)), (1, .ref (g 28)), (0, .ref b)] []) : JK p l e room_1 s m #[Value.ref b] below meth c D A Q 4 65 26217 ((mw h cy mthr mfrp mact mtpd msiz matx mfrm mtok mval mfk mfpl mbem mtrs mtrl mrom mtom mnow mfre mkep mtap mlef mtak mbes mrow mint mrnd mplo mhio mtox mtol) ++ (cw g cy cP cLo cHi cpl ctb ctl ctf ctp ctk cts cth cob col cso cha chs cbe ctr cgl cgh cll clh cta cme cps cwh cal cah)) 713 [(3, .int (nI i)), (2, .ref (h 0)), (1, .ref (g 28)), (0, .ref b)] [] := by
  obtain ⟨r, ocP, ocLo, ocHi, ocso, ocha, ochs, omfrp, omact, omnow, omfre, omkep, e1, e2, hr2⟩ := sim_part (p1 := xs (nI i + (1 : Int32)).toNatClampNeg) (p2 := xs (nI i + (2 : Int32)).toNatClampNeg) (p3 := xs (nI i + (3 : Int32)).toNatClampNeg) (p4 := xs (nI i + (4 : Int32)).toNatClampNeg) hr
  refine kAloadn C dL_law_713 rfl 2 rfl ?_
  refine kAloadn C dL_law_714 rfl 3 rfl ?_
  refine kIloadn C dL_law_715 rfl 0 rfl ?_
  refine kIconst C (1 : Int32) dL_law_716 ki_1 ?_
  refine kIadd C dL_law_717 ?_
  refine kSld C hX hbl hbA (sc_in1 hi hL) dL_law_718 ?_
  refine kAloadn C dL_law_719 rfl 3 rfl ?_
  refine kIloadn C dL_law_720 rfl 0 rfl ?_
  refine kIconst C (2 : Int32) dL_law_721 ki_2 ?_
  refine kIadd C dL_law_722 ?_
  refine kSld C hX hbl hbA (sc_in2 hi hL) dL_law_723 ?_
  refine kAloadn C dL_law_724 rfl 3 rfl ?_
  refine kIloadn C dL_law_725 rfl 0 rfl ?_
  refine kIconst C (3 : Int32) dL_law_726 ki_3 ?_
  refine kIadd C dL_law_727 ?_
  refine kSld C hX hbl hbA (sc_in3 hi hL) dL_law_728 ?_
  refine kAloadn C dL_law_729 rfl 3 rfl ?_
  refine kIloadn C dL_law_730 rfl 0 rfl ?_
  refine kIconst C (4 : Int32) dL_law_731 ki_4 ?_
  refine kIadd C dL_law_732 ?_
  refine kSld C hX hbl hbA (sc_in4 hi hL) dL_law_733 ?_
  refine kV C (X8_part_ok e1) vb_X8_part mk_RL_69 rfl rc28 ⟨Nat.le_of_ble_eq_true rfl, Nat.le_of_ble_eq_true rfl⟩ ⟨Nat.le_of_ble_eq_true rfl, Nat.le_of_ble_eq_true rfl⟩ rfl (Nat.le_of_ble_eq_true rfl) dL_law_734 ?_
  refine kAloadn C dL_law_737 rfl 1 rfl ?_
  refine kAloadn C dL_law_738 rfl 3 rfl ?_
  refine kIloadn C dL_law_739 rfl 0 rfl ?_
  refine kIconst C (1 : Int32) dL_law_740 ki_1 ?_
  refine kIadd C dL_law_741 ?_
  refine kSld C hX hbl hbA (sc_in1 hi hL) dL_law_742 ?_
  refine kAloadn C dL_law_743 rfl 3 rfl ?_
  refine kIloadn C dL_law_744 rfl 0 rfl ?_
  refine kIconst C (2 : Int32) dL_law_745 ki_2 ?_
  refine kIadd C dL_law_746 ?_
  refine kSld C hX hbl hbA (sc_in2 hi hL) dL_law_747 ?_
  refine kAloadn C dL_law_748 rfl 3 rfl ?_
  refine kIloadn C dL_law_749 rfl 0 rfl ?_
  refine kIconst C (3 : Int32) dL_law_750 ki_3 ?_
  refine kIadd C dL_law_751 ?_
  refine kSld C hX hbl hbA (sc_in3 hi hL) dL_law_752 ?_
  refine kAloadn C dL_law_753 rfl 3 rfl ?_
  refine kIloadn C dL_law_754 rfl 0 rfl ?_
  refine kIconst C (4 : Int32) dL_law_755 ki_4 ?_
  refine kIadd C dL_law_756 ?_
  refine kSld C hX hbl hbA (sc_in4 hi hL) dL_law_757 ?_
  refine k_swap ?_
  refine kV C (X9_part_ok e2) vb_X9_part mk_RL_73 rfl rcM ⟨Nat.le_of_ble_eq_true rfl, Nat.le_of_ble_eq_true rfl⟩ ⟨Nat.le_of_ble_eq_true rfl, Nat.le_of_ble_eq_true rfl⟩ rfl (Nat.le_of_ble_eq_true rfl) dL_law_758 ?_
  refine k_swap ?_
  refine kCmpEq C 2361 dL_law_761 (by decide) (fun _ => ?_) (fun q => absurd rfl q)
  exact kk ocP ocLo ocHi cpl ctb ctl ctf ctp ctk cts cth cob col ocso ocha ochs cbe ctr cgl cgh cll clh cta cme cps cwh cal cah mthr omfrp omact mtpd msiz matx mfrm mtok mval mfk mfpl mbem mtrs mtrl mrom mtom omnow omfre omkep mtap mlef mtak mbes mrow mint mrnd mplo mhio mtox mtol hr2
set_option maxHeartbeats 4000000 in
theorem law_shift (C : Cx p l room_1 s m #[Value.ref b] meth c code 4 RL ret D cy G A) (hX : va_X b L xs s s.heap) (hbl : b < s.heap.size) (hbA : ¬ A b) {i : Nat} (hi : i + 6 ≤ L) (hL : L ≤ 3072) (hr : Rel cP cLo cHi ctb ctl ctf ctp cob col cso cha chs mact mtpd mfk mfpl mtom mnow mkep mtap mtol)
    (kk : ∀ (cP : Nat → Int32) (cLo : Nat → Int64) (cHi : Nat → Int64) (cpl : Nat → Int32) (ctb : Nat → Int32) (ctl : Int32) (ctf : Int32) (ctp : Int32) (ctk : Int32) (cts : Int32) (cth : Int32) (cob : Nat → Int32) (col : Int32) (cso : Nat → Int32) (cha : Int32) (chs : Int32) (cbe : Int32) (ctr : Int32) (cgl : Nat → Int64) (cgh : Nat → Int64) (cll : Nat → Int64) (clh : Nat → Int64) (cta : Nat → Int32) (cme : Nat → Int32) (cps : Int32) (cwh : Nat → Int32) (cal : Nat → Int64) (cah : Nat → Int64) (mthr : Int32) (mfrp : Int32) (mact : Int32) (mtpd : Int32) (msiz : Int32) (matx : Int32) (mfrm : Int32) (mtok : Int32) (mval : Int32) (mfk : Int32) (mfpl : Int32) (mbem : Int32) (mtrs : Int32) (mtrl : Int32) (mrom : Int32) (mtom : Int32) (mnow : Nat → Int32) (mfre : Nat → Int32) (mkep : Nat → Int32) (mtap : Nat → Int32) (mlef : Nat → Int32) (mtak : Nat → Int32) (mbes : Nat → Int32) (mrow : Nat → Int32) (mint : Nat → Int32) (mrnd : Nat → Int32) (mplo : Nat → Int32) (mhio : Nat → Int32) (mtox : Nat → Int32) (mtol : Nat → Int32), Rel cP cLo cHi ctb ctl ctf ctp cob col cso cha chs mact mtpd mfk mfpl mtom mnow mkep mtap mtol → JK p l e room_1 s m #[Value.ref b] below meth c D A Q 4 65 26217 ((mw h cy mthr mfrp mact mtpd msiz matx mfrm mtok mval mfk mfpl mbem mtrs mtrl mrom mtom mnow mfre mkep mtap mlef mtak mbes mrow mint mrnd mplo mhio mtox mtol) ++ (cw g cy cP cLo cHi cpl ctb ctl ctf ctp ctk cts cth cob col cso cha chs cbe ctr cgl cgh cll clh cta cme cps cwh cal cah)) 2361 [(3, .int (nI i)), (2, .ref (h 0)), (1, .ref (g 28)), (0, .ref b)] []) : JK p l e room_1 s m #[Value.ref b] below meth c D A Q 4 65 26217 ((mw h cy mthr mfrp mact mtpd msiz matx mfrm mtok mval mfk mfpl mbem mtrs mtrl mrom mtom mnow mfre mkep mtap mlef mtak mbes mrow mint mrnd mplo mhio mtox mtol) ++ (cw g cy cP cLo cHi cpl ctb ctl ctf ctp ctk cts cth cob col cso cha chs cbe ctr cgl cgh cll clh cta cme cps cwh cal cah)) 766 [(3, .int (nI i)), (2, .ref (h 0)), (1, .ref (g 28)), (0, .ref b)] [] := by
  obtain ⟨r, ocP, ocLo, ocHi, ocso, ocha, ochs, omfrp, omact, omnow, omfre, omkep, e1, e2, hr2⟩ := sim_shift (p1 := xs (nI i + (1 : Int32)).toNatClampNeg) (p2 := xs (nI i + (2 : Int32)).toNatClampNeg) (p3 := xs (nI i + (3 : Int32)).toNatClampNeg) hr
  refine kAloadn C dL_law_766 rfl 2 rfl ?_
  refine kAloadn C dL_law_767 rfl 3 rfl ?_
  refine kIloadn C dL_law_768 rfl 0 rfl ?_
  refine kIconst C (1 : Int32) dL_law_769 ki_1 ?_
  refine kIadd C dL_law_770 ?_
  refine kSld C hX hbl hbA (sc_in1 hi hL) dL_law_771 ?_
  refine kAloadn C dL_law_772 rfl 3 rfl ?_
  refine kIloadn C dL_law_773 rfl 0 rfl ?_
  refine kIconst C (2 : Int32) dL_law_774 ki_2 ?_
  refine kIadd C dL_law_775 ?_
  refine kSld C hX hbl hbA (sc_in2 hi hL) dL_law_776 ?_
  refine kAloadn C dL_law_777 rfl 3 rfl ?_
  refine kIloadn C dL_law_778 rfl 0 rfl ?_
  refine kIconst C (3 : Int32) dL_law_779 ki_3 ?_
  refine kIadd C dL_law_780 ?_
  refine kSld C hX hbl hbA (sc_in3 hi hL) dL_law_781 ?_
  refine kV C (X8_shift_ok e1) vb_X8_shift mk_RL_74 rfl rc28 ⟨Nat.le_of_ble_eq_true rfl, Nat.le_of_ble_eq_true rfl⟩ ⟨Nat.le_of_ble_eq_true rfl, Nat.le_of_ble_eq_true rfl⟩ rfl (Nat.le_of_ble_eq_true rfl) dL_law_782 ?_
  refine kAloadn C dL_law_785 rfl 1 rfl ?_
  refine kAloadn C dL_law_786 rfl 3 rfl ?_
  refine kIloadn C dL_law_787 rfl 0 rfl ?_
  refine kIconst C (1 : Int32) dL_law_788 ki_1 ?_
  refine kIadd C dL_law_789 ?_
  refine kSld C hX hbl hbA (sc_in1 hi hL) dL_law_790 ?_
  refine kAloadn C dL_law_791 rfl 3 rfl ?_
  refine kIloadn C dL_law_792 rfl 0 rfl ?_
  refine kIconst C (2 : Int32) dL_law_793 ki_2 ?_
  refine kIadd C dL_law_794 ?_
  refine kSld C hX hbl hbA (sc_in2 hi hL) dL_law_795 ?_
  refine kAloadn C dL_law_796 rfl 3 rfl ?_
  refine kIloadn C dL_law_797 rfl 0 rfl ?_
  refine kIconst C (3 : Int32) dL_law_798 ki_3 ?_
  refine kIadd C dL_law_799 ?_
  refine kSld C hX hbl hbA (sc_in3 hi hL) dL_law_800 ?_
  refine k_swap ?_
  refine kV C (X9_shift_ok e2) vb_X9_shift mk_RL_77 rfl rcM ⟨Nat.le_of_ble_eq_true rfl, Nat.le_of_ble_eq_true rfl⟩ ⟨Nat.le_of_ble_eq_true rfl, Nat.le_of_ble_eq_true rfl⟩ rfl (Nat.le_of_ble_eq_true rfl) dL_law_801 ?_
  refine k_swap ?_
  refine kCmpEq C 2361 dL_law_804 (by decide) (fun _ => ?_) (fun q => absurd rfl q)
  exact kk ocP ocLo ocHi cpl ctb ctl ctf ctp ctk cts cth cob col ocso ocha ochs cbe ctr cgl cgh cll clh cta cme cps cwh cal cah mthr omfrp omact mtpd msiz matx mfrm mtok mval mfk mfpl mbem mtrs mtrl mrom mtom omnow omfre omkep mtap mlef mtak mbes mrow mint mrnd mplo mhio mtox mtol hr2
set_option maxHeartbeats 4000000 in
theorem law_would (C : Cx p l room_1 s m #[Value.ref b] meth c code 4 RL ret D cy G A) (hX : va_X b L xs s s.heap) (hbl : b < s.heap.size) (hbA : ¬ A b) {i : Nat} (hi : i + 6 ≤ L) (hL : L ≤ 3072) (hr : Rel cP cLo cHi ctb ctl ctf ctp cob col cso cha chs mact mtpd mfk mfpl mtom mnow mkep mtap mtol)
    (kk : ∀ (cP : Nat → Int32) (cLo : Nat → Int64) (cHi : Nat → Int64) (cpl : Nat → Int32) (ctb : Nat → Int32) (ctl : Int32) (ctf : Int32) (ctp : Int32) (ctk : Int32) (cts : Int32) (cth : Int32) (cob : Nat → Int32) (col : Int32) (cso : Nat → Int32) (cha : Int32) (chs : Int32) (cbe : Int32) (ctr : Int32) (cgl : Nat → Int64) (cgh : Nat → Int64) (cll : Nat → Int64) (clh : Nat → Int64) (cta : Nat → Int32) (cme : Nat → Int32) (cps : Int32) (cwh : Nat → Int32) (cal : Nat → Int64) (cah : Nat → Int64) (mthr : Int32) (mfrp : Int32) (mact : Int32) (mtpd : Int32) (msiz : Int32) (matx : Int32) (mfrm : Int32) (mtok : Int32) (mval : Int32) (mfk : Int32) (mfpl : Int32) (mbem : Int32) (mtrs : Int32) (mtrl : Int32) (mrom : Int32) (mtom : Int32) (mnow : Nat → Int32) (mfre : Nat → Int32) (mkep : Nat → Int32) (mtap : Nat → Int32) (mlef : Nat → Int32) (mtak : Nat → Int32) (mbes : Nat → Int32) (mrow : Nat → Int32) (mint : Nat → Int32) (mrnd : Nat → Int32) (mplo : Nat → Int32) (mhio : Nat → Int32) (mtox : Nat → Int32) (mtol : Nat → Int32), Rel cP cLo cHi ctb ctl ctf ctp cob col cso cha chs mact mtpd mfk mfpl mtom mnow mkep mtap mtol → JK p l e room_1 s m #[Value.ref b] below meth c D A Q 4 65 26217 ((mw h cy mthr mfrp mact mtpd msiz matx mfrm mtok mval mfk mfpl mbem mtrs mtrl mrom mtom mnow mfre mkep mtap mlef mtak mbes mrow mint mrnd mplo mhio mtox mtol) ++ (cw g cy cP cLo cHi cpl ctb ctl ctf ctp ctk cts cth cob col cso cha chs cbe ctr cgl cgh cll clh cta cme cps cwh cal cah)) 2361 [(3, .int (nI i)), (2, .ref (h 0)), (1, .ref (g 28)), (0, .ref b)] []) : JK p l e room_1 s m #[Value.ref b] below meth c D A Q 4 65 26217 ((mw h cy mthr mfrp mact mtpd msiz matx mfrm mtok mval mfk mfpl mbem mtrs mtrl mrom mtom mnow mfre mkep mtap mlef mtak mbes mrow mint mrnd mplo mhio mtox mtol) ++ (cw g cy cP cLo cHi cpl ctb ctl ctf ctp ctk cts cth cob col cso cha chs cbe ctr cgl cgh cll clh cta cme cps cwh cal cah)) 809 [(3, .int (nI i)), (2, .ref (h 0)), (1, .ref (g 28)), (0, .ref b)] [] := by
  obtain ⟨r, ocP, ocLo, ocHi, e1, e2, hr2⟩ := sim_would (p1 := xs (nI i + (1 : Int32)).toNatClampNeg) (p2 := xs (nI i + (2 : Int32)).toNatClampNeg) (p3 := xs (nI i + (3 : Int32)).toNatClampNeg) hr
  refine kAloadn C dL_law_809 rfl 2 rfl ?_
  refine kAloadn C dL_law_810 rfl 3 rfl ?_
  refine kIloadn C dL_law_811 rfl 0 rfl ?_
  refine kIconst C (1 : Int32) dL_law_812 ki_1 ?_
  refine kIadd C dL_law_813 ?_
  refine kSld C hX hbl hbA (sc_in1 hi hL) dL_law_814 ?_
  refine kAloadn C dL_law_815 rfl 3 rfl ?_
  refine kIloadn C dL_law_816 rfl 0 rfl ?_
  refine kIconst C (2 : Int32) dL_law_817 ki_2 ?_
  refine kIadd C dL_law_818 ?_
  refine kSld C hX hbl hbA (sc_in2 hi hL) dL_law_819 ?_
  refine kAloadn C dL_law_820 rfl 3 rfl ?_
  refine kIloadn C dL_law_821 rfl 0 rfl ?_
  refine kIconst C (3 : Int32) dL_law_822 ki_3 ?_
  refine kIadd C dL_law_823 ?_
  refine kSld C hX hbl hbA (sc_in3 hi hL) dL_law_824 ?_
  refine kV C (X8_would_ok e1) vb_X8_would mk_RL_78 rfl rc28 ⟨Nat.le_of_ble_eq_true rfl, Nat.le_of_ble_eq_true rfl⟩ ⟨Nat.le_of_ble_eq_true rfl, Nat.le_of_ble_eq_true rfl⟩ rfl (Nat.le_of_ble_eq_true rfl) dL_law_825 ?_
  refine kAloadn C dL_law_828 rfl 1 rfl ?_
  refine kAloadn C dL_law_829 rfl 3 rfl ?_
  refine kIloadn C dL_law_830 rfl 0 rfl ?_
  refine kIconst C (1 : Int32) dL_law_831 ki_1 ?_
  refine kIadd C dL_law_832 ?_
  refine kSld C hX hbl hbA (sc_in1 hi hL) dL_law_833 ?_
  refine kAloadn C dL_law_834 rfl 3 rfl ?_
  refine kIloadn C dL_law_835 rfl 0 rfl ?_
  refine kIconst C (2 : Int32) dL_law_836 ki_2 ?_
  refine kIadd C dL_law_837 ?_
  refine kSld C hX hbl hbA (sc_in2 hi hL) dL_law_838 ?_
  refine kAloadn C dL_law_839 rfl 3 rfl ?_
  refine kIloadn C dL_law_840 rfl 0 rfl ?_
  refine kIconst C (3 : Int32) dL_law_841 ki_3 ?_
  refine kIadd C dL_law_842 ?_
  refine kSld C hX hbl hbA (sc_in3 hi hL) dL_law_843 ?_
  refine k_swap ?_
  refine kV C (X9_would_ok e2) vb_X9_would mk_RL_81 rfl rcM ⟨Nat.le_of_ble_eq_true rfl, Nat.le_of_ble_eq_true rfl⟩ ⟨Nat.le_of_ble_eq_true rfl, Nat.le_of_ble_eq_true rfl⟩ rfl (Nat.le_of_ble_eq_true rfl) dL_law_844 ?_
  refine k_swap ?_
  refine kCmpEq C 2361 dL_law_847 (by decide) (fun _ => ?_) (fun q => absurd rfl q)
  exact kk ocP ocLo ocHi cpl ctb ctl ctf ctp ctk cts cth cob col cso cha chs cbe ctr cgl cgh cll clh cta cme cps cwh cal cah mthr mfrp mact mtpd msiz matx mfrm mtok mval mfk mfpl mbem mtrs mtrl mrom mtom mnow mfre mkep mtap mlef mtak mbes mrow mint mrnd mplo mhio mtox mtol hr2
set_option maxHeartbeats 4000000 in
theorem law_settles (C : Cx p l room_1 s m #[Value.ref b] meth c code 4 RL ret D cy G A) (hX : va_X b L xs s s.heap) (hbl : b < s.heap.size) (hbA : ¬ A b) {i : Nat} (hi : i + 6 ≤ L) (hL : L ≤ 3072) (hr : Rel cP cLo cHi ctb ctl ctf ctp cob col cso cha chs mact mtpd mfk mfpl mtom mnow mkep mtap mtol)
    (kk : ∀ (cP : Nat → Int32) (cLo : Nat → Int64) (cHi : Nat → Int64) (cpl : Nat → Int32) (ctb : Nat → Int32) (ctl : Int32) (ctf : Int32) (ctp : Int32) (ctk : Int32) (cts : Int32) (cth : Int32) (cob : Nat → Int32) (col : Int32) (cso : Nat → Int32) (cha : Int32) (chs : Int32) (cbe : Int32) (ctr : Int32) (cgl : Nat → Int64) (cgh : Nat → Int64) (cll : Nat → Int64) (clh : Nat → Int64) (cta : Nat → Int32) (cme : Nat → Int32) (cps : Int32) (cwh : Nat → Int32) (cal : Nat → Int64) (cah : Nat → Int64) (mthr : Int32) (mfrp : Int32) (mact : Int32) (mtpd : Int32) (msiz : Int32) (matx : Int32) (mfrm : Int32) (mtok : Int32) (mval : Int32) (mfk : Int32) (mfpl : Int32) (mbem : Int32) (mtrs : Int32) (mtrl : Int32) (mrom : Int32) (mtom : Int32) (mnow : Nat → Int32) (mfre : Nat → Int32) (mkep : Nat → Int32) (mtap : Nat → Int32) (mlef : Nat → Int32) (mtak : Nat → Int32) (mbes : Nat → Int32) (mrow : Nat → Int32) (mint : Nat → Int32) (mrnd : Nat → Int32) (mplo : Nat → Int32) (mhio : Nat → Int32) (mtox : Nat → Int32) (mtol : Nat → Int32), Rel cP cLo cHi ctb ctl ctf ctp cob col cso cha chs mact mtpd mfk mfpl mtom mnow mkep mtap mtol → JK p l e room_1 s m #[Value.ref b] below meth c D A Q 4 65 26217 ((mw h cy mthr mfrp mact mtpd msiz matx mfrm mtok mval mfk mfpl mbem mtrs mtrl mrom mtom mnow mfre mkep mtap mlef mtak mbes mrow mint mrnd mplo mhio mtox mtol) ++ (cw g cy cP cLo cHi cpl ctb ctl ctf ctp ctk cts cth cob col cso cha chs cbe ctr cgl cgh cll clh cta cme cps cwh cal cah)) 2361 [(3, .int (nI i)), (2, .ref (h 0)), (1, .ref (g 28)), (0, .ref b)] []) : JK p l e room_1 s m #[Value.ref b] below meth c D A Q 4 65 26217 ((mw h cy mthr mfrp mact mtpd msiz matx mfrm mtok mval mfk mfpl mbem mtrs mtrl mrom mtom mnow mfre mkep mtap mlef mtak mbes mrow mint mrnd mplo mhio mtox mtol) ++ (cw g cy cP cLo cHi cpl ctb ctl ctf ctp ctk cts cth cob col cso cha chs cbe ctr cgl cgh cll clh cta cme cps cwh cal cah)) 852 [(3, .int (nI i)), (2, .ref (h 0)), (1, .ref (g 28)), (0, .ref b)] [] := by
  obtain ⟨r, ocP, ocLo, ocHi, ocso, ocha, ochs, omfrp, omact, omnow, omfre, omkep, e1, e2, hr2⟩ := sim_settles (p1 := xs (nI i + (1 : Int32)).toNatClampNeg) hr
  refine kAloadn C dL_law_852 rfl 2 rfl ?_
  refine kAloadn C dL_law_853 rfl 3 rfl ?_
  refine kIloadn C dL_law_854 rfl 0 rfl ?_
  refine kIconst C (1 : Int32) dL_law_855 ki_1 ?_
  refine kIadd C dL_law_856 ?_
  refine kSld C hX hbl hbA (sc_in1 hi hL) dL_law_857 ?_
  refine kV C (X8_settles_ok e1) vb_X8_settles mk_RL_82 rfl rc28 ⟨Nat.le_of_ble_eq_true rfl, Nat.le_of_ble_eq_true rfl⟩ ⟨Nat.le_of_ble_eq_true rfl, Nat.le_of_ble_eq_true rfl⟩ rfl (Nat.le_of_ble_eq_true rfl) dL_law_858 ?_
  refine kAloadn C dL_law_861 rfl 1 rfl ?_
  refine kAloadn C dL_law_862 rfl 3 rfl ?_
  refine kIloadn C dL_law_863 rfl 0 rfl ?_
  refine kIconst C (1 : Int32) dL_law_864 ki_1 ?_
  refine kIadd C dL_law_865 ?_
  refine kSld C hX hbl hbA (sc_in1 hi hL) dL_law_866 ?_
  refine k_swap ?_
  refine kV C (X9_settles_ok e2) vb_X9_settles mk_RL_85 rfl rcM ⟨Nat.le_of_ble_eq_true rfl, Nat.le_of_ble_eq_true rfl⟩ ⟨Nat.le_of_ble_eq_true rfl, Nat.le_of_ble_eq_true rfl⟩ rfl (Nat.le_of_ble_eq_true rfl) dL_law_867 ?_
  refine k_swap ?_
  refine kCmpEq C 2361 dL_law_870 (by decide) (fun _ => ?_) (fun q => absurd rfl q)
  exact kk ocP ocLo ocHi cpl ctb ctl ctf ctp ctk cts cth cob col ocso ocha ochs cbe ctr cgl cgh cll clh cta cme cps cwh cal cah mthr omfrp omact mtpd msiz matx mfrm mtok mval mfk mfpl mbem mtrs mtrl mrom mtom omnow omfre omkep mtap mlef mtak mbes mrow mint mrnd mplo mhio mtox mtol hr2
set_option maxHeartbeats 4000000 in
theorem law_row (C : Cx p l room_1 s m #[Value.ref b] meth c code 4 RL ret D cy G A) (hX : va_X b L xs s s.heap) (hbl : b < s.heap.size) (hbA : ¬ A b) {i : Nat} (hi : i + 6 ≤ L) (hL : L ≤ 3072) (hr : Rel cP cLo cHi ctb ctl ctf ctp cob col cso cha chs mact mtpd mfk mfpl mtom mnow mkep mtap mtol)
    (kk : ∀ (cP : Nat → Int32) (cLo : Nat → Int64) (cHi : Nat → Int64) (cpl : Nat → Int32) (ctb : Nat → Int32) (ctl : Int32) (ctf : Int32) (ctp : Int32) (ctk : Int32) (cts : Int32) (cth : Int32) (cob : Nat → Int32) (col : Int32) (cso : Nat → Int32) (cha : Int32) (chs : Int32) (cbe : Int32) (ctr : Int32) (cgl : Nat → Int64) (cgh : Nat → Int64) (cll : Nat → Int64) (clh : Nat → Int64) (cta : Nat → Int32) (cme : Nat → Int32) (cps : Int32) (cwh : Nat → Int32) (cal : Nat → Int64) (cah : Nat → Int64) (mthr : Int32) (mfrp : Int32) (mact : Int32) (mtpd : Int32) (msiz : Int32) (matx : Int32) (mfrm : Int32) (mtok : Int32) (mval : Int32) (mfk : Int32) (mfpl : Int32) (mbem : Int32) (mtrs : Int32) (mtrl : Int32) (mrom : Int32) (mtom : Int32) (mnow : Nat → Int32) (mfre : Nat → Int32) (mkep : Nat → Int32) (mtap : Nat → Int32) (mlef : Nat → Int32) (mtak : Nat → Int32) (mbes : Nat → Int32) (mrow : Nat → Int32) (mint : Nat → Int32) (mrnd : Nat → Int32) (mplo : Nat → Int32) (mhio : Nat → Int32) (mtox : Nat → Int32) (mtol : Nat → Int32), Rel cP cLo cHi ctb ctl ctf ctp cob col cso cha chs mact mtpd mfk mfpl mtom mnow mkep mtap mtol → JK p l e room_1 s m #[Value.ref b] below meth c D A Q 4 65 26217 ((mw h cy mthr mfrp mact mtpd msiz matx mfrm mtok mval mfk mfpl mbem mtrs mtrl mrom mtom mnow mfre mkep mtap mlef mtak mbes mrow mint mrnd mplo mhio mtox mtol) ++ (cw g cy cP cLo cHi cpl ctb ctl ctf ctp ctk cts cth cob col cso cha chs cbe ctr cgl cgh cll clh cta cme cps cwh cal cah)) 2361 [(3, .int (nI i)), (2, .ref (h 0)), (1, .ref (g 28)), (0, .ref b)] []) : JK p l e room_1 s m #[Value.ref b] below meth c D A Q 4 65 26217 ((mw h cy mthr mfrp mact mtpd msiz matx mfrm mtok mval mfk mfpl mbem mtrs mtrl mrom mtom mnow mfre mkep mtap mlef mtak mbes mrow mint mrnd mplo mhio mtox mtol) ++ (cw g cy cP cLo cHi cpl ctb ctl ctf ctp ctk cts cth cob col cso cha chs cbe ctr cgl cgh cll clh cta cme cps cwh cal cah)) 875 [(3, .int (nI i)), (2, .ref (h 0)), (1, .ref (g 28)), (0, .ref b)] [] := by
  obtain ⟨r, ocP, ocLo, ocHi, ocso, ocha, ochs, omfrp, omact, omnow, omfre, omkep, e1, e2, hr2⟩ := sim_row (p1 := xs (nI i + (1 : Int32)).toNatClampNeg) (p2 := xs (nI i + (2 : Int32)).toNatClampNeg) (p3 := xs (nI i + (3 : Int32)).toNatClampNeg) (p4 := xs (nI i + (4 : Int32)).toNatClampNeg) hr
  refine kAloadn C dL_law_875 rfl 2 rfl ?_
  refine kAloadn C dL_law_876 rfl 3 rfl ?_
  refine kIloadn C dL_law_877 rfl 0 rfl ?_
  refine kIconst C (1 : Int32) dL_law_878 ki_1 ?_
  refine kIadd C dL_law_879 ?_
  refine kSld C hX hbl hbA (sc_in1 hi hL) dL_law_880 ?_
  refine kAloadn C dL_law_881 rfl 3 rfl ?_
  refine kIloadn C dL_law_882 rfl 0 rfl ?_
  refine kIconst C (2 : Int32) dL_law_883 ki_2 ?_
  refine kIadd C dL_law_884 ?_
  refine kSld C hX hbl hbA (sc_in2 hi hL) dL_law_885 ?_
  refine kAloadn C dL_law_886 rfl 3 rfl ?_
  refine kIloadn C dL_law_887 rfl 0 rfl ?_
  refine kIconst C (3 : Int32) dL_law_888 ki_3 ?_
  refine kIadd C dL_law_889 ?_
  refine kSld C hX hbl hbA (sc_in3 hi hL) dL_law_890 ?_
  refine kAloadn C dL_law_891 rfl 3 rfl ?_
  refine kIloadn C dL_law_892 rfl 0 rfl ?_
  refine kIconst C (4 : Int32) dL_law_893 ki_4 ?_
  refine kIadd C dL_law_894 ?_
  refine kSld C hX hbl hbA (sc_in4 hi hL) dL_law_895 ?_
  refine kV C (X8_row_ok e1) vb_X8_row mk_RL_86 rfl rc28 ⟨Nat.le_of_ble_eq_true rfl, Nat.le_of_ble_eq_true rfl⟩ ⟨Nat.le_of_ble_eq_true rfl, Nat.le_of_ble_eq_true rfl⟩ rfl (Nat.le_of_ble_eq_true rfl) dL_law_896 ?_
  refine kAloadn C dL_law_899 rfl 1 rfl ?_
  refine kAloadn C dL_law_900 rfl 3 rfl ?_
  refine kIloadn C dL_law_901 rfl 0 rfl ?_
  refine kIconst C (1 : Int32) dL_law_902 ki_1 ?_
  refine kIadd C dL_law_903 ?_
  refine kSld C hX hbl hbA (sc_in1 hi hL) dL_law_904 ?_
  refine kAloadn C dL_law_905 rfl 3 rfl ?_
  refine kIloadn C dL_law_906 rfl 0 rfl ?_
  refine kIconst C (2 : Int32) dL_law_907 ki_2 ?_
  refine kIadd C dL_law_908 ?_
  refine kSld C hX hbl hbA (sc_in2 hi hL) dL_law_909 ?_
  refine kAloadn C dL_law_910 rfl 3 rfl ?_
  refine kIloadn C dL_law_911 rfl 0 rfl ?_
  refine kIconst C (3 : Int32) dL_law_912 ki_3 ?_
  refine kIadd C dL_law_913 ?_
  refine kSld C hX hbl hbA (sc_in3 hi hL) dL_law_914 ?_
  refine kAloadn C dL_law_915 rfl 3 rfl ?_
  refine kIloadn C dL_law_916 rfl 0 rfl ?_
  refine kIconst C (4 : Int32) dL_law_917 ki_4 ?_
  refine kIadd C dL_law_918 ?_
  refine kSld C hX hbl hbA (sc_in4 hi hL) dL_law_919 ?_
  refine k_swap ?_
  refine kV C (X9_row_ok e2) vb_X9_row mk_RL_89 rfl rcM ⟨Nat.le_of_ble_eq_true rfl, Nat.le_of_ble_eq_true rfl⟩ ⟨Nat.le_of_ble_eq_true rfl, Nat.le_of_ble_eq_true rfl⟩ rfl (Nat.le_of_ble_eq_true rfl) dL_law_920 ?_
  refine k_swap ?_
  refine kCmpEq C 2361 dL_law_923 (by decide) (fun _ => ?_) (fun q => absurd rfl q)
  exact kk ocP ocLo ocHi cpl ctb ctl ctf ctp ctk cts cth cob col ocso ocha ochs cbe ctr cgl cgh cll clh cta cme cps cwh cal cah mthr omfrp omact mtpd msiz matx mfrm mtok mval mfk mfpl mbem mtrs mtrl mrom mtom omnow omfre omkep mtap mlef mtak mbes mrow mint mrnd mplo mhio mtox mtol hr2
set_option maxHeartbeats 4000000 in
theorem law_all (C : Cx p l room_1 s m #[Value.ref b] meth c code 4 RL ret D cy G A) (hX : va_X b L xs s s.heap) (hbl : b < s.heap.size) (hbA : ¬ A b) {i : Nat} (hi : i + 6 ≤ L) (hL : L ≤ 3072) (hr : Rel cP cLo cHi ctb ctl ctf ctp cob col cso cha chs mact mtpd mfk mfpl mtom mnow mkep mtap mtol)
    (kk : ∀ (cP : Nat → Int32) (cLo : Nat → Int64) (cHi : Nat → Int64) (cpl : Nat → Int32) (ctb : Nat → Int32) (ctl : Int32) (ctf : Int32) (ctp : Int32) (ctk : Int32) (cts : Int32) (cth : Int32) (cob : Nat → Int32) (col : Int32) (cso : Nat → Int32) (cha : Int32) (chs : Int32) (cbe : Int32) (ctr : Int32) (cgl : Nat → Int64) (cgh : Nat → Int64) (cll : Nat → Int64) (clh : Nat → Int64) (cta : Nat → Int32) (cme : Nat → Int32) (cps : Int32) (cwh : Nat → Int32) (cal : Nat → Int64) (cah : Nat → Int64) (mthr : Int32) (mfrp : Int32) (mact : Int32) (mtpd : Int32) (msiz : Int32) (matx : Int32) (mfrm : Int32) (mtok : Int32) (mval : Int32) (mfk : Int32) (mfpl : Int32) (mbem : Int32) (mtrs : Int32) (mtrl : Int32) (mrom : Int32) (mtom : Int32) (mnow : Nat → Int32) (mfre : Nat → Int32) (mkep : Nat → Int32) (mtap : Nat → Int32) (mlef : Nat → Int32) (mtak : Nat → Int32) (mbes : Nat → Int32) (mrow : Nat → Int32) (mint : Nat → Int32) (mrnd : Nat → Int32) (mplo : Nat → Int32) (mhio : Nat → Int32) (mtox : Nat → Int32) (mtol : Nat → Int32), Rel cP cLo cHi ctb ctl ctf ctp cob col cso cha chs mact mtpd mfk mfpl mtom mnow mkep mtap mtol → JK p l e room_1 s m #[Value.ref b] below meth c D A Q 4 65 26217 ((mw h cy mthr mfrp mact mtpd msiz matx mfrm mtok mval mfk mfpl mbem mtrs mtrl mrom mtom mnow mfre mkep mtap mlef mtak mbes mrow mint mrnd mplo mhio mtox mtol) ++ (cw g cy cP cLo cHi cpl ctb ctl ctf ctp ctk cts cth cob col cso cha chs cbe ctr cgl cgh cll clh cta cme cps cwh cal cah)) 2361 [(3, .int (nI i)), (2, .ref (h 0)), (1, .ref (g 28)), (0, .ref b)] []) : JK p l e room_1 s m #[Value.ref b] below meth c D A Q 4 65 26217 ((mw h cy mthr mfrp mact mtpd msiz matx mfrm mtok mval mfk mfpl mbem mtrs mtrl mrom mtom mnow mfre mkep mtap mlef mtak mbes mrow mint mrnd mplo mhio mtox mtol) ++ (cw g cy cP cLo cHi cpl ctb ctl ctf ctp ctk cts cth cob col cso cha chs cbe ctr cgl cgh cll clh cta cme cps cwh cal cah)) 928 [(3, .int (nI i)), (2, .ref (h 0)), (1, .ref (g 28)), (0, .ref b)] [] := by
  obtain ⟨r, ocP, ocLo, ocHi, ocso, ocha, ochs, omfrp, omact, omnow, omfre, omkep, e1, e2, hr2⟩ := sim_all (p1 := xs (nI i + (1 : Int32)).toNatClampNeg) (p2 := xs (nI i + (2 : Int32)).toNatClampNeg) (p3 := xs (nI i + (3 : Int32)).toNatClampNeg) (p4 := xs (nI i + (4 : Int32)).toNatClampNeg) hr
  refine kAloadn C dL_law_928 rfl 2 rfl ?_
  refine kAloadn C dL_law_929 rfl 3 rfl ?_
  refine kIloadn C dL_law_930 rfl 0 rfl ?_
  refine kIconst C (1 : Int32) dL_law_931 ki_1 ?_
  refine kIadd C dL_law_932 ?_
  refine kSld C hX hbl hbA (sc_in1 hi hL) dL_law_933 ?_
  refine kAloadn C dL_law_934 rfl 3 rfl ?_
  refine kIloadn C dL_law_935 rfl 0 rfl ?_
  refine kIconst C (2 : Int32) dL_law_936 ki_2 ?_
  refine kIadd C dL_law_937 ?_
  refine kSld C hX hbl hbA (sc_in2 hi hL) dL_law_938 ?_
  refine kAloadn C dL_law_939 rfl 3 rfl ?_
  refine kIloadn C dL_law_940 rfl 0 rfl ?_
  refine kIconst C (3 : Int32) dL_law_941 ki_3 ?_
  refine kIadd C dL_law_942 ?_
  refine kSld C hX hbl hbA (sc_in3 hi hL) dL_law_943 ?_
  refine kAloadn C dL_law_944 rfl 3 rfl ?_
  refine kIloadn C dL_law_945 rfl 0 rfl ?_
  refine kIconst C (4 : Int32) dL_law_946 ki_4 ?_
  refine kIadd C dL_law_947 ?_
  refine kSld C hX hbl hbA (sc_in4 hi hL) dL_law_948 ?_
  refine kV C (X8_all_ok e1) vb_X8_all mk_RL_90 rfl rc28 ⟨Nat.le_of_ble_eq_true rfl, Nat.le_of_ble_eq_true rfl⟩ ⟨Nat.le_of_ble_eq_true rfl, Nat.le_of_ble_eq_true rfl⟩ rfl (Nat.le_of_ble_eq_true rfl) dL_law_949 ?_
  refine kAloadn C dL_law_952 rfl 1 rfl ?_
  refine kAloadn C dL_law_953 rfl 3 rfl ?_
  refine kIloadn C dL_law_954 rfl 0 rfl ?_
  refine kIconst C (1 : Int32) dL_law_955 ki_1 ?_
  refine kIadd C dL_law_956 ?_
  refine kSld C hX hbl hbA (sc_in1 hi hL) dL_law_957 ?_
  refine kAloadn C dL_law_958 rfl 3 rfl ?_
  refine kIloadn C dL_law_959 rfl 0 rfl ?_
  refine kIconst C (2 : Int32) dL_law_960 ki_2 ?_
  refine kIadd C dL_law_961 ?_
  refine kSld C hX hbl hbA (sc_in2 hi hL) dL_law_962 ?_
  refine kAloadn C dL_law_963 rfl 3 rfl ?_
  refine kIloadn C dL_law_964 rfl 0 rfl ?_
  refine kIconst C (3 : Int32) dL_law_965 ki_3 ?_
  refine kIadd C dL_law_966 ?_
  refine kSld C hX hbl hbA (sc_in3 hi hL) dL_law_967 ?_
  refine kAloadn C dL_law_968 rfl 3 rfl ?_
  refine kIloadn C dL_law_969 rfl 0 rfl ?_
  refine kIconst C (4 : Int32) dL_law_970 ki_4 ?_
  refine kIadd C dL_law_971 ?_
  refine kSld C hX hbl hbA (sc_in4 hi hL) dL_law_972 ?_
  refine k_swap ?_
  refine kV C (X9_all_ok e2) vb_X9_all mk_RL_93 rfl rcM ⟨Nat.le_of_ble_eq_true rfl, Nat.le_of_ble_eq_true rfl⟩ ⟨Nat.le_of_ble_eq_true rfl, Nat.le_of_ble_eq_true rfl⟩ rfl (Nat.le_of_ble_eq_true rfl) dL_law_973 ?_
  refine k_swap ?_
  refine kCmpEq C 2361 dL_law_976 (by decide) (fun _ => ?_) (fun q => absurd rfl q)
  exact kk ocP ocLo ocHi cpl ctb ctl ctf ctp ctk cts cth cob col ocso ocha ochs cbe ctr cgl cgh cll clh cta cme cps cwh cal cah mthr omfrp omact mtpd msiz matx mfrm mtok mval mfk mfpl mbem mtrs mtrl mrom mtom omnow omfre omkep mtap mlef mtak mbes mrow mint mrnd mplo mhio mtox mtol hr2
set_option maxHeartbeats 4000000 in
theorem law_least (C : Cx p l room_1 s m #[Value.ref b] meth c code 4 RL ret D cy G A) (hX : va_X b L xs s s.heap) (hbl : b < s.heap.size) (hbA : ¬ A b) {i : Nat} (hi : i + 6 ≤ L) (hL : L ≤ 3072) (hr : Rel cP cLo cHi ctb ctl ctf ctp cob col cso cha chs mact mtpd mfk mfpl mtom mnow mkep mtap mtol)
    (kk : ∀ (cP : Nat → Int32) (cLo : Nat → Int64) (cHi : Nat → Int64) (cpl : Nat → Int32) (ctb : Nat → Int32) (ctl : Int32) (ctf : Int32) (ctp : Int32) (ctk : Int32) (cts : Int32) (cth : Int32) (cob : Nat → Int32) (col : Int32) (cso : Nat → Int32) (cha : Int32) (chs : Int32) (cbe : Int32) (ctr : Int32) (cgl : Nat → Int64) (cgh : Nat → Int64) (cll : Nat → Int64) (clh : Nat → Int64) (cta : Nat → Int32) (cme : Nat → Int32) (cps : Int32) (cwh : Nat → Int32) (cal : Nat → Int64) (cah : Nat → Int64) (mthr : Int32) (mfrp : Int32) (mact : Int32) (mtpd : Int32) (msiz : Int32) (matx : Int32) (mfrm : Int32) (mtok : Int32) (mval : Int32) (mfk : Int32) (mfpl : Int32) (mbem : Int32) (mtrs : Int32) (mtrl : Int32) (mrom : Int32) (mtom : Int32) (mnow : Nat → Int32) (mfre : Nat → Int32) (mkep : Nat → Int32) (mtap : Nat → Int32) (mlef : Nat → Int32) (mtak : Nat → Int32) (mbes : Nat → Int32) (mrow : Nat → Int32) (mint : Nat → Int32) (mrnd : Nat → Int32) (mplo : Nat → Int32) (mhio : Nat → Int32) (mtox : Nat → Int32) (mtol : Nat → Int32), Rel cP cLo cHi ctb ctl ctf ctp cob col cso cha chs mact mtpd mfk mfpl mtom mnow mkep mtap mtol → JK p l e room_1 s m #[Value.ref b] below meth c D A Q 4 65 26217 ((mw h cy mthr mfrp mact mtpd msiz matx mfrm mtok mval mfk mfpl mbem mtrs mtrl mrom mtom mnow mfre mkep mtap mlef mtak mbes mrow mint mrnd mplo mhio mtox mtol) ++ (cw g cy cP cLo cHi cpl ctb ctl ctf ctp ctk cts cth cob col cso cha chs cbe ctr cgl cgh cll clh cta cme cps cwh cal cah)) 2361 [(3, .int (nI i)), (2, .ref (h 0)), (1, .ref (g 28)), (0, .ref b)] []) : JK p l e room_1 s m #[Value.ref b] below meth c D A Q 4 65 26217 ((mw h cy mthr mfrp mact mtpd msiz matx mfrm mtok mval mfk mfpl mbem mtrs mtrl mrom mtom mnow mfre mkep mtap mlef mtak mbes mrow mint mrnd mplo mhio mtox mtol) ++ (cw g cy cP cLo cHi cpl ctb ctl ctf ctp ctk cts cth cob col cso cha chs cbe ctr cgl cgh cll clh cta cme cps cwh cal cah)) 981 [(3, .int (nI i)), (2, .ref (h 0)), (1, .ref (g 28)), (0, .ref b)] [] := by
  obtain ⟨r, ocpl, e1, e2, hr2⟩ := sim_least (p1 := xs (nI i + (1 : Int32)).toNatClampNeg) (p2 := xs (nI i + (2 : Int32)).toNatClampNeg) hr
  refine kAloadn C dL_law_981 rfl 2 rfl ?_
  refine kAloadn C dL_law_982 rfl 3 rfl ?_
  refine kIloadn C dL_law_983 rfl 0 rfl ?_
  refine kIconst C (1 : Int32) dL_law_984 ki_1 ?_
  refine kIadd C dL_law_985 ?_
  refine kSld C hX hbl hbA (sc_in1 hi hL) dL_law_986 ?_
  refine kAloadn C dL_law_987 rfl 3 rfl ?_
  refine kIloadn C dL_law_988 rfl 0 rfl ?_
  refine kIconst C (2 : Int32) dL_law_989 ki_2 ?_
  refine kIadd C dL_law_990 ?_
  refine kSld C hX hbl hbA (sc_in2 hi hL) dL_law_991 ?_
  refine kV C (X8_least_ok e1) vb_X8_least mk_RL_94 rfl rc28 ⟨Nat.le_of_ble_eq_true rfl, Nat.le_of_ble_eq_true rfl⟩ ⟨Nat.le_of_ble_eq_true rfl, Nat.le_of_ble_eq_true rfl⟩ rfl (Nat.le_of_ble_eq_true rfl) dL_law_992 ?_
  refine kAloadn C dL_law_995 rfl 1 rfl ?_
  refine kAloadn C dL_law_996 rfl 3 rfl ?_
  refine kIloadn C dL_law_997 rfl 0 rfl ?_
  refine kIconst C (1 : Int32) dL_law_998 ki_1 ?_
  refine kIadd C dL_law_999 ?_
  refine kSld C hX hbl hbA (sc_in1 hi hL) dL_law_1000 ?_
  refine kAloadn C dL_law_1001 rfl 3 rfl ?_
  refine kIloadn C dL_law_1002 rfl 0 rfl ?_
  refine kIconst C (2 : Int32) dL_law_1003 ki_2 ?_
  refine kIadd C dL_law_1004 ?_
  refine kSld C hX hbl hbA (sc_in2 hi hL) dL_law_1005 ?_
  refine k_swap ?_
  refine kV C (X9_least_ok e2) vb_X9_least mk_RL_97 rfl rcM ⟨Nat.le_of_ble_eq_true rfl, Nat.le_of_ble_eq_true rfl⟩ ⟨Nat.le_of_ble_eq_true rfl, Nat.le_of_ble_eq_true rfl⟩ rfl (Nat.le_of_ble_eq_true rfl) dL_law_1006 ?_
  refine k_swap ?_
  refine kCmpEq C 2361 dL_law_1009 (by decide) (fun _ => ?_) (fun q => absurd rfl q)
  exact kk cP cLo cHi ocpl ctb ctl ctf ctp ctk cts cth cob col cso cha chs cbe ctr cgl cgh cll clh cta cme cps cwh cal cah mthr mfrp mact mtpd msiz matx mfrm mtok mval mfk mfpl mbem mtrs mtrl mrom mtom mnow mfre mkep mtap mlef mtak mbes mrow mint mrnd mplo mhio mtox mtol hr2
set_option maxHeartbeats 4000000 in
theorem law_cascade (C : Cx p l room_1 s m #[Value.ref b] meth c code 4 RL ret D cy G A) (hX : va_X b L xs s s.heap) (hbl : b < s.heap.size) (hbA : ¬ A b) {i : Nat} (hi : i + 6 ≤ L) (hL : L ≤ 3072) (hr : Rel cP cLo cHi ctb ctl ctf ctp cob col cso cha chs mact mtpd mfk mfpl mtom mnow mkep mtap mtol)
    (kk : ∀ (cP : Nat → Int32) (cLo : Nat → Int64) (cHi : Nat → Int64) (cpl : Nat → Int32) (ctb : Nat → Int32) (ctl : Int32) (ctf : Int32) (ctp : Int32) (ctk : Int32) (cts : Int32) (cth : Int32) (cob : Nat → Int32) (col : Int32) (cso : Nat → Int32) (cha : Int32) (chs : Int32) (cbe : Int32) (ctr : Int32) (cgl : Nat → Int64) (cgh : Nat → Int64) (cll : Nat → Int64) (clh : Nat → Int64) (cta : Nat → Int32) (cme : Nat → Int32) (cps : Int32) (cwh : Nat → Int32) (cal : Nat → Int64) (cah : Nat → Int64) (mthr : Int32) (mfrp : Int32) (mact : Int32) (mtpd : Int32) (msiz : Int32) (matx : Int32) (mfrm : Int32) (mtok : Int32) (mval : Int32) (mfk : Int32) (mfpl : Int32) (mbem : Int32) (mtrs : Int32) (mtrl : Int32) (mrom : Int32) (mtom : Int32) (mnow : Nat → Int32) (mfre : Nat → Int32) (mkep : Nat → Int32) (mtap : Nat → Int32) (mlef : Nat → Int32) (mtak : Nat → Int32) (mbes : Nat → Int32) (mrow : Nat → Int32) (mint : Nat → Int32) (mrnd : Nat → Int32) (mplo : Nat → Int32) (mhio : Nat → Int32) (mtox : Nat → Int32) (mtol : Nat → Int32), Rel cP cLo cHi ctb ctl ctf ctp cob col cso cha chs mact mtpd mfk mfpl mtom mnow mkep mtap mtol → JK p l e room_1 s m #[Value.ref b] below meth c D A Q 4 65 26217 ((mw h cy mthr mfrp mact mtpd msiz matx mfrm mtok mval mfk mfpl mbem mtrs mtrl mrom mtom mnow mfre mkep mtap mlef mtak mbes mrow mint mrnd mplo mhio mtox mtol) ++ (cw g cy cP cLo cHi cpl ctb ctl ctf ctp ctk cts cth cob col cso cha chs cbe ctr cgl cgh cll clh cta cme cps cwh cal cah)) 2361 [(3, .int (nI i)), (2, .ref (h 0)), (1, .ref (g 28)), (0, .ref b)] []) : JK p l e room_1 s m #[Value.ref b] below meth c D A Q 4 65 26217 ((mw h cy mthr mfrp mact mtpd msiz matx mfrm mtok mval mfk mfpl mbem mtrs mtrl mrom mtom mnow mfre mkep mtap mlef mtak mbes mrow mint mrnd mplo mhio mtox mtol) ++ (cw g cy cP cLo cHi cpl ctb ctl ctf ctp ctk cts cth cob col cso cha chs cbe ctr cgl cgh cll clh cta cme cps cwh cal cah)) 1014 [(3, .int (nI i)), (2, .ref (h 0)), (1, .ref (g 28)), (0, .ref b)] [] := by
  obtain ⟨r, ocpl, e1, e2, hr2⟩ := sim_cascade (p1 := xs (nI i + (1 : Int32)).toNatClampNeg) (p2 := xs (nI i + (2 : Int32)).toNatClampNeg) (p3 := xs (nI i + (3 : Int32)).toNatClampNeg) hr
  refine kAloadn C dL_law_1014 rfl 2 rfl ?_
  refine kAloadn C dL_law_1015 rfl 3 rfl ?_
  refine kIloadn C dL_law_1016 rfl 0 rfl ?_
  refine kIconst C (1 : Int32) dL_law_1017 ki_1 ?_
  refine kIadd C dL_law_1018 ?_
  refine kSld C hX hbl hbA (sc_in1 hi hL) dL_law_1019 ?_
  refine kAloadn C dL_law_1020 rfl 3 rfl ?_
  refine kIloadn C dL_law_1021 rfl 0 rfl ?_
  refine kIconst C (2 : Int32) dL_law_1022 ki_2 ?_
  refine kIadd C dL_law_1023 ?_
  refine kSld C hX hbl hbA (sc_in2 hi hL) dL_law_1024 ?_
  refine kAloadn C dL_law_1025 rfl 3 rfl ?_
  refine kIloadn C dL_law_1026 rfl 0 rfl ?_
  refine kIconst C (3 : Int32) dL_law_1027 ki_3 ?_
  refine kIadd C dL_law_1028 ?_
  refine kSld C hX hbl hbA (sc_in3 hi hL) dL_law_1029 ?_
  refine kV C (X8_cascade_ok e1) vb_X8_cascade mk_RL_98 rfl rc28 ⟨Nat.le_of_ble_eq_true rfl, Nat.le_of_ble_eq_true rfl⟩ ⟨Nat.le_of_ble_eq_true rfl, Nat.le_of_ble_eq_true rfl⟩ rfl (Nat.le_of_ble_eq_true rfl) dL_law_1030 ?_
  refine kAloadn C dL_law_1033 rfl 1 rfl ?_
  refine kAloadn C dL_law_1034 rfl 3 rfl ?_
  refine kIloadn C dL_law_1035 rfl 0 rfl ?_
  refine kIconst C (1 : Int32) dL_law_1036 ki_1 ?_
  refine kIadd C dL_law_1037 ?_
  refine kSld C hX hbl hbA (sc_in1 hi hL) dL_law_1038 ?_
  refine kAloadn C dL_law_1039 rfl 3 rfl ?_
  refine kIloadn C dL_law_1040 rfl 0 rfl ?_
  refine kIconst C (2 : Int32) dL_law_1041 ki_2 ?_
  refine kIadd C dL_law_1042 ?_
  refine kSld C hX hbl hbA (sc_in2 hi hL) dL_law_1043 ?_
  refine kAloadn C dL_law_1044 rfl 3 rfl ?_
  refine kIloadn C dL_law_1045 rfl 0 rfl ?_
  refine kIconst C (3 : Int32) dL_law_1046 ki_3 ?_
  refine kIadd C dL_law_1047 ?_
  refine kSld C hX hbl hbA (sc_in3 hi hL) dL_law_1048 ?_
  refine k_swap ?_
  refine kV C (X9_cascade_ok e2) vb_X9_cascade mk_RL_101 rfl rcM ⟨Nat.le_of_ble_eq_true rfl, Nat.le_of_ble_eq_true rfl⟩ ⟨Nat.le_of_ble_eq_true rfl, Nat.le_of_ble_eq_true rfl⟩ rfl (Nat.le_of_ble_eq_true rfl) dL_law_1049 ?_
  refine k_swap ?_
  refine kCmpEq C 2361 dL_law_1052 (by decide) (fun _ => ?_) (fun q => absurd rfl q)
  exact kk cP cLo cHi ocpl ctb ctl ctf ctp ctk cts cth cob col cso cha chs cbe ctr cgl cgh cll clh cta cme cps cwh cal cah mthr mfrp mact mtpd msiz matx mfrm mtok mval mfk mfpl mbem mtrs mtrl mrom mtom mnow mfre mkep mtap mlef mtak mbes mrow mint mrnd mplo mhio mtox mtol hr2
set_option maxHeartbeats 4000000 in
theorem law_choose (C : Cx p l room_1 s m #[Value.ref b] meth c code 4 RL ret D cy G A) (hX : va_X b L xs s s.heap) (hbl : b < s.heap.size) (hbA : ¬ A b) {i : Nat} (hi : i + 6 ≤ L) (hL : L ≤ 3072) (hr : Rel cP cLo cHi ctb ctl ctf ctp cob col cso cha chs mact mtpd mfk mfpl mtom mnow mkep mtap mtol)
    (kk : ∀ (cP : Nat → Int32) (cLo : Nat → Int64) (cHi : Nat → Int64) (cpl : Nat → Int32) (ctb : Nat → Int32) (ctl : Int32) (ctf : Int32) (ctp : Int32) (ctk : Int32) (cts : Int32) (cth : Int32) (cob : Nat → Int32) (col : Int32) (cso : Nat → Int32) (cha : Int32) (chs : Int32) (cbe : Int32) (ctr : Int32) (cgl : Nat → Int64) (cgh : Nat → Int64) (cll : Nat → Int64) (clh : Nat → Int64) (cta : Nat → Int32) (cme : Nat → Int32) (cps : Int32) (cwh : Nat → Int32) (cal : Nat → Int64) (cah : Nat → Int64) (mthr : Int32) (mfrp : Int32) (mact : Int32) (mtpd : Int32) (msiz : Int32) (matx : Int32) (mfrm : Int32) (mtok : Int32) (mval : Int32) (mfk : Int32) (mfpl : Int32) (mbem : Int32) (mtrs : Int32) (mtrl : Int32) (mrom : Int32) (mtom : Int32) (mnow : Nat → Int32) (mfre : Nat → Int32) (mkep : Nat → Int32) (mtap : Nat → Int32) (mlef : Nat → Int32) (mtak : Nat → Int32) (mbes : Nat → Int32) (mrow : Nat → Int32) (mint : Nat → Int32) (mrnd : Nat → Int32) (mplo : Nat → Int32) (mhio : Nat → Int32) (mtox : Nat → Int32) (mtol : Nat → Int32), Rel cP cLo cHi ctb ctl ctf ctp cob col cso cha chs mact mtpd mfk mfpl mtom mnow mkep mtap mtol → JK p l e room_1 s m #[Value.ref b] below meth c D A Q 4 65 26217 ((mw h cy mthr mfrp mact mtpd msiz matx mfrm mtok mval mfk mfpl mbem mtrs mtrl mrom mtom mnow mfre mkep mtap mlef mtak mbes mrow mint mrnd mplo mhio mtox mtol) ++ (cw g cy cP cLo cHi cpl ctb ctl ctf ctp ctk cts cth cob col cso cha chs cbe ctr cgl cgh cll clh cta cme cps cwh cal cah)) 2361 [(3, .int (nI i)), (2, .ref (h 0)), (1, .ref (g 28)), (0, .ref b)] []) : JK p l e room_1 s m #[Value.ref b] below meth c D A Q 4 65 26217 ((mw h cy mthr mfrp mact mtpd msiz matx mfrm mtok mval mfk mfpl mbem mtrs mtrl mrom mtom mnow mfre mkep mtap mlef mtak mbes mrow mint mrnd mplo mhio mtox mtol) ++ (cw g cy cP cLo cHi cpl ctb ctl ctf ctp ctk cts cth cob col cso cha chs cbe ctr cgl cgh cll clh cta cme cps cwh cal cah)) 1057 [(3, .int (nI i)), (2, .ref (h 0)), (1, .ref (g 28)), (0, .ref b)] [] := by
  obtain ⟨r, e1, e2, hr2⟩ := sim_choose (p1 := xs (nI i + (1 : Int32)).toNatClampNeg) (p2 := xs (nI i + (2 : Int32)).toNatClampNeg) hr
  refine kAloadn C dL_law_1057 rfl 2 rfl ?_
  refine kAloadn C dL_law_1058 rfl 3 rfl ?_
  refine kIloadn C dL_law_1059 rfl 0 rfl ?_
  refine kIconst C (1 : Int32) dL_law_1060 ki_1 ?_
  refine kIadd C dL_law_1061 ?_
  refine kSld C hX hbl hbA (sc_in1 hi hL) dL_law_1062 ?_
  refine kAloadn C dL_law_1063 rfl 3 rfl ?_
  refine kIloadn C dL_law_1064 rfl 0 rfl ?_
  refine kIconst C (2 : Int32) dL_law_1065 ki_2 ?_
  refine kIadd C dL_law_1066 ?_
  refine kSld C hX hbl hbA (sc_in2 hi hL) dL_law_1067 ?_
  refine kV C (X8_choose_ok e1) vb_X8_choose mk_RL_102 rfl rc28 ⟨Nat.le_of_ble_eq_true rfl, Nat.le_of_ble_eq_true rfl⟩ ⟨Nat.le_of_ble_eq_true rfl, Nat.le_of_ble_eq_true rfl⟩ rfl (Nat.le_of_ble_eq_true rfl) dL_law_1068 ?_
  refine kAloadn C dL_law_1071 rfl 1 rfl ?_
  refine kAloadn C dL_law_1072 rfl 3 rfl ?_
  refine kIloadn C dL_law_1073 rfl 0 rfl ?_
  refine kIconst C (1 : Int32) dL_law_1074 ki_1 ?_
  refine kIadd C dL_law_1075 ?_
  refine kSld C hX hbl hbA (sc_in1 hi hL) dL_law_1076 ?_
  refine kAloadn C dL_law_1077 rfl 3 rfl ?_
  refine kIloadn C dL_law_1078 rfl 0 rfl ?_
  refine kIconst C (2 : Int32) dL_law_1079 ki_2 ?_
  refine kIadd C dL_law_1080 ?_
  refine kSld C hX hbl hbA (sc_in2 hi hL) dL_law_1081 ?_
  refine k_swap ?_
  refine kV C (X9_choose_ok e2) vb_X9_choose mk_RL_105 rfl rcM ⟨Nat.le_of_ble_eq_true rfl, Nat.le_of_ble_eq_true rfl⟩ ⟨Nat.le_of_ble_eq_true rfl, Nat.le_of_ble_eq_true rfl⟩ rfl (Nat.le_of_ble_eq_true rfl) dL_law_1082 ?_
  refine k_swap ?_
  refine kCmpEq C 2361 dL_law_1085 (by decide) (fun _ => ?_) (fun q => absurd rfl q)
  exact kk cP cLo cHi cpl ctb ctl ctf ctp ctk cts cth cob col cso cha chs cbe ctr cgl cgh cll clh cta cme cps cwh cal cah mthr mfrp mact mtpd msiz matx mfrm mtok mval mfk mfpl mbem mtrs mtrl mrom mtom mnow mfre mkep mtap mlef mtak mbes mrow mint mrnd mplo mhio mtox mtol hr2
set_option maxHeartbeats 4000000 in
theorem law_most (C : Cx p l room_1 s m #[Value.ref b] meth c code 4 RL ret D cy G A) (hX : va_X b L xs s s.heap) (hbl : b < s.heap.size) (hbA : ¬ A b) {i : Nat} (hi : i + 6 ≤ L) (hL : L ≤ 3072) (hr : Rel cP cLo cHi ctb ctl ctf ctp cob col cso cha chs mact mtpd mfk mfpl mtom mnow mkep mtap mtol)
    (kk : ∀ (cP : Nat → Int32) (cLo : Nat → Int64) (cHi : Nat → Int64) (cpl : Nat → Int32) (ctb : Nat → Int32) (ctl : Int32) (ctf : Int32) (ctp : Int32) (ctk : Int32) (cts : Int32) (cth : Int32) (cob : Nat → Int32) (col : Int32) (cso : Nat → Int32) (cha : Int32) (chs : Int32) (cbe : Int32) (ctr : Int32) (cgl : Nat → Int64) (cgh : Nat → Int64) (cll : Nat → Int64) (clh : Nat → Int64) (cta : Nat → Int32) (cme : Nat → Int32) (cps : Int32) (cwh : Nat → Int32) (cal : Nat → Int64) (cah : Nat → Int64) (mthr : Int32) (mfrp : Int32) (mact : Int32) (mtpd : Int32) (msiz : Int32) (matx : Int32) (mfrm : Int32) (mtok : Int32) (mval : Int32) (mfk : Int32) (mfpl : Int32) (mbem : Int32) (mtrs : Int32) (mtrl : Int32) (mrom : Int32) (mtom : Int32) (mnow : Nat → Int32) (mfre : Nat → Int32) (mkep : Nat → Int32) (mtap : Nat → Int32) (mlef : Nat → Int32) (mtak : Nat → Int32) (mbes : Nat → Int32) (mrow : Nat → Int32) (mint : Nat → Int32) (mrnd : Nat → Int32) (mplo : Nat → Int32) (mhio : Nat → Int32) (mtox : Nat → Int32) (mtol : Nat → Int32), Rel cP cLo cHi ctb ctl ctf ctp cob col cso cha chs mact mtpd mfk mfpl mtom mnow mkep mtap mtol → JK p l e room_1 s m #[Value.ref b] below meth c D A Q 4 65 26217 ((mw h cy mthr mfrp mact mtpd msiz matx mfrm mtok mval mfk mfpl mbem mtrs mtrl mrom mtom mnow mfre mkep mtap mlef mtak mbes mrow mint mrnd mplo mhio mtox mtol) ++ (cw g cy cP cLo cHi cpl ctb ctl ctf ctp ctk cts cth cob col cso cha chs cbe ctr cgl cgh cll clh cta cme cps cwh cal cah)) 2361 [(3, .int (nI i)), (2, .ref (h 0)), (1, .ref (g 28)), (0, .ref b)] []) : JK p l e room_1 s m #[Value.ref b] below meth c D A Q 4 65 26217 ((mw h cy mthr mfrp mact mtpd msiz matx mfrm mtok mval mfk mfpl mbem mtrs mtrl mrom mtom mnow mfre mkep mtap mlef mtak mbes mrow mint mrnd mplo mhio mtox mtol) ++ (cw g cy cP cLo cHi cpl ctb ctl ctf ctp ctk cts cth cob col cso cha chs cbe ctr cgl cgh cll clh cta cme cps cwh cal cah)) 1090 [(3, .int (nI i)), (2, .ref (h 0)), (1, .ref (g 28)), (0, .ref b)] [] := by
  obtain ⟨r, ocP, ocLo, ocHi, ocbe, octr, ocgl, ocgh, ocll, oclh, octa, ombem, omtrs, omtrl, omlef, omtak, ombes, e1, e2, hr2⟩ := sim_most (p1 := xs (nI i + (1 : Int32)).toNatClampNeg) (p2 := xs (nI i + (2 : Int32)).toNatClampNeg) (p3 := xs (nI i + (3 : Int32)).toNatClampNeg) hr
  refine kAloadn C dL_law_1090 rfl 2 rfl ?_
  refine kAloadn C dL_law_1091 rfl 3 rfl ?_
  refine kIloadn C dL_law_1092 rfl 0 rfl ?_
  refine kIconst C (1 : Int32) dL_law_1093 ki_1 ?_
  refine kIadd C dL_law_1094 ?_
  refine kSld C hX hbl hbA (sc_in1 hi hL) dL_law_1095 ?_
  refine kAloadn C dL_law_1096 rfl 3 rfl ?_
  refine kIloadn C dL_law_1097 rfl 0 rfl ?_
  refine kIconst C (2 : Int32) dL_law_1098 ki_2 ?_
  refine kIadd C dL_law_1099 ?_
  refine kSld C hX hbl hbA (sc_in2 hi hL) dL_law_1100 ?_
  refine kAloadn C dL_law_1101 rfl 3 rfl ?_
  refine kIloadn C dL_law_1102 rfl 0 rfl ?_
  refine kIconst C (3 : Int32) dL_law_1103 ki_3 ?_
  refine kIadd C dL_law_1104 ?_
  refine kSld C hX hbl hbA (sc_in3 hi hL) dL_law_1105 ?_
  refine kV C (X8_most_ok e1) vb_X8_most mk_RL_106 rfl rc28 ⟨Nat.le_of_ble_eq_true rfl, Nat.le_of_ble_eq_true rfl⟩ ⟨Nat.le_of_ble_eq_true rfl, Nat.le_of_ble_eq_true rfl⟩ rfl (Nat.le_of_ble_eq_true rfl) dL_law_1106 ?_
  refine kAloadn C dL_law_1109 rfl 1 rfl ?_
  refine kAloadn C dL_law_1110 rfl 3 rfl ?_
  refine kIloadn C dL_law_1111 rfl 0 rfl ?_
  refine kIconst C (1 : Int32) dL_law_1112 ki_1 ?_
  refine kIadd C dL_law_1113 ?_
  refine kSld C hX hbl hbA (sc_in1 hi hL) dL_law_1114 ?_
  refine kAloadn C dL_law_1115 rfl 3 rfl ?_
  refine kIloadn C dL_law_1116 rfl 0 rfl ?_
  refine kIconst C (2 : Int32) dL_law_1117 ki_2 ?_
  refine kIadd C dL_law_1118 ?_
  refine kSld C hX hbl hbA (sc_in2 hi hL) dL_law_1119 ?_
  refine kAloadn C dL_law_1120 rfl 3 rfl ?_
  refine kIloadn C dL_law_1121 rfl 0 rfl ?_
  refine kIconst C (3 : Int32) dL_law_1122 ki_3 ?_
  refine kIadd C dL_law_1123 ?_
  refine kSld C hX hbl hbA (sc_in3 hi hL) dL_law_1124 ?_
  refine k_swap ?_
  refine kV C (X9_most_ok e2) vb_X9_most mk_RL_109 rfl rcM ⟨Nat.le_of_ble_eq_true rfl, Nat.le_of_ble_eq_true rfl⟩ ⟨Nat.le_of_ble_eq_true rfl, Nat.le_of_ble_eq_true rfl⟩ rfl (Nat.le_of_ble_eq_true rfl) dL_law_1125 ?_
  refine k_swap ?_
  refine kCmpEq C 2361 dL_law_1128 (by decide) (fun _ => ?_) (fun q => absurd rfl q)
  exact kk ocP ocLo ocHi cpl ctb ctl ctf ctp ctk cts cth cob col cso cha chs ocbe octr ocgl ocgh ocll oclh octa cme cps cwh cal cah mthr mfrp mact mtpd msiz matx mfrm mtok mval mfk mfpl ombem omtrs omtrl mrom mtom mnow mfre mkep mtap omlef omtak ombes mrow mint mrnd mplo mhio mtox mtol hr2
set_option maxHeartbeats 4000000 in
theorem law_takes (C : Cx p l room_1 s m #[Value.ref b] meth c code 4 RL ret D cy G A) (hX : va_X b L xs s s.heap) (hbl : b < s.heap.size) (hbA : ¬ A b) {i : Nat} (hi : i + 6 ≤ L) (hL : L ≤ 3072) (hr : Rel cP cLo cHi ctb ctl ctf ctp cob col cso cha chs mact mtpd mfk mfpl mtom mnow mkep mtap mtol)
    (kk : ∀ (cP : Nat → Int32) (cLo : Nat → Int64) (cHi : Nat → Int64) (cpl : Nat → Int32) (ctb : Nat → Int32) (ctl : Int32) (ctf : Int32) (ctp : Int32) (ctk : Int32) (cts : Int32) (cth : Int32) (cob : Nat → Int32) (col : Int32) (cso : Nat → Int32) (cha : Int32) (chs : Int32) (cbe : Int32) (ctr : Int32) (cgl : Nat → Int64) (cgh : Nat → Int64) (cll : Nat → Int64) (clh : Nat → Int64) (cta : Nat → Int32) (cme : Nat → Int32) (cps : Int32) (cwh : Nat → Int32) (cal : Nat → Int64) (cah : Nat → Int64) (mthr : Int32) (mfrp : Int32) (mact : Int32) (mtpd : Int32) (msiz : Int32) (matx : Int32) (mfrm : Int32) (mtok : Int32) (mval : Int32) (mfk : Int32) (mfpl : Int32) (mbem : Int32) (mtrs : Int32) (mtrl : Int32) (mrom : Int32) (mtom : Int32) (mnow : Nat → Int32) (mfre : Nat → Int32) (mkep : Nat → Int32) (mtap : Nat → Int32) (mlef : Nat → Int32) (mtak : Nat → Int32) (mbes : Nat → Int32) (mrow : Nat → Int32) (mint : Nat → Int32) (mrnd : Nat → Int32) (mplo : Nat → Int32) (mhio : Nat → Int32) (mtox : Nat → Int32) (mtol : Nat → Int32), Rel cP cLo cHi ctb ctl ctf ctp cob col cso cha chs mact mtpd mfk mfpl mtom mnow mkep mtap mtol → JK p l e room_1 s m #[Value.ref b] below meth c D A Q 4 65 26217 ((mw h cy mthr mfrp mact mtpd msiz matx mfrm mtok mval mfk mfpl mbem mtrs mtrl mrom mtom mnow mfre mkep mtap mlef mtak mbes mrow mint mrnd mplo mhio mtox mtol) ++ (cw g cy cP cLo cHi cpl ctb ctl ctf ctp ctk cts cth cob col cso cha chs cbe ctr cgl cgh cll clh cta cme cps cwh cal cah)) 2361 [(3, .int (nI i)), (2, .ref (h 0)), (1, .ref (g 28)), (0, .ref b)] []) : JK p l e room_1 s m #[Value.ref b] below meth c D A Q 4 65 26217 ((mw h cy mthr mfrp mact mtpd msiz matx mfrm mtok mval mfk mfpl mbem mtrs mtrl mrom mtom mnow mfre mkep mtap mlef mtak mbes mrow mint mrnd mplo mhio mtox mtol) ++ (cw g cy cP cLo cHi cpl ctb ctl ctf ctp ctk cts cth cob col cso cha chs cbe ctr cgl cgh cll clh cta cme cps cwh cal cah)) 1133 [(3, .int (nI i)), (2, .ref (h 0)), (1, .ref (g 28)), (0, .ref b)] [] := by
  obtain ⟨r, ocP, ocLo, ocHi, ocso, ocha, ochs, ocbe, octr, ocgl, ocgh, ocll, oclh, octa, omfrp, omact, ombem, omtrs, omtrl, omnow, omfre, omkep, omlef, omtak, ombes, e1, e2, hr2⟩ := sim_takes (p1 := xs (nI i + (1 : Int32)).toNatClampNeg) (p2 := xs (nI i + (2 : Int32)).toNatClampNeg) (p3 := xs (nI i + (3 : Int32)).toNatClampNeg) (p4 := xs (nI i + (4 : Int32)).toNatClampNeg) hr
  refine kAloadn C dL_law_1133 rfl 2 rfl ?_
  refine kAloadn C dL_law_1134 rfl 3 rfl ?_
  refine kIloadn C dL_law_1135 rfl 0 rfl ?_
  refine kIconst C (1 : Int32) dL_law_1136 ki_1 ?_
  refine kIadd C dL_law_1137 ?_
  refine kSld C hX hbl hbA (sc_in1 hi hL) dL_law_1138 ?_
  refine kAloadn C dL_law_1139 rfl 3 rfl ?_
  refine kIloadn C dL_law_1140 rfl 0 rfl ?_
  refine kIconst C (2 : Int32) dL_law_1141 ki_2 ?_
  refine kIadd C dL_law_1142 ?_
  refine kSld C hX hbl hbA (sc_in2 hi hL) dL_law_1143 ?_
  refine kAloadn C dL_law_1144 rfl 3 rfl ?_
  refine kIloadn C dL_law_1145 rfl 0 rfl ?_
  refine kIconst C (3 : Int32) dL_law_1146 ki_3 ?_
  refine kIadd C dL_law_1147 ?_
  refine kSld C hX hbl hbA (sc_in3 hi hL) dL_law_1148 ?_
  refine kAloadn C dL_law_1149 rfl 3 rfl ?_
  refine kIloadn C dL_law_1150 rfl 0 rfl ?_
  refine kIconst C (4 : Int32) dL_law_1151 ki_4 ?_
  refine kIadd C dL_law_1152 ?_
  refine kSld C hX hbl hbA (sc_in4 hi hL) dL_law_1153 ?_
  refine kV C (X8_takes_ok e1) vb_X8_takes mk_RL_110 rfl rc28 ⟨Nat.le_of_ble_eq_true rfl, Nat.le_of_ble_eq_true rfl⟩ ⟨Nat.le_of_ble_eq_true rfl, Nat.le_of_ble_eq_true rfl⟩ rfl (Nat.le_of_ble_eq_true rfl) dL_law_1154 ?_
  refine kAloadn C dL_law_1157 rfl 1 rfl ?_
  refine kAloadn C dL_law_1158 rfl 3 rfl ?_
  refine kIloadn C dL_law_1159 rfl 0 rfl ?_
  refine kIconst C (1 : Int32) dL_law_1160 ki_1 ?_
  refine kIadd C dL_law_1161 ?_
  refine kSld C hX hbl hbA (sc_in1 hi hL) dL_law_1162 ?_
  refine kAloadn C dL_law_1163 rfl 3 rfl ?_
  refine kIloadn C dL_law_1164 rfl 0 rfl ?_
  refine kIconst C (2 : Int32) dL_law_1165 ki_2 ?_
  refine kIadd C dL_law_1166 ?_
  refine kSld C hX hbl hbA (sc_in2 hi hL) dL_law_1167 ?_
  refine kAloadn C dL_law_1168 rfl 3 rfl ?_
  refine kIloadn C dL_law_1169 rfl 0 rfl ?_
  refine kIconst C (3 : Int32) dL_law_1170 ki_3 ?_
  refine kIadd C dL_law_1171 ?_
  refine kSld C hX hbl hbA (sc_in3 hi hL) dL_law_1172 ?_
  refine kAloadn C dL_law_1173 rfl 3 rfl ?_
  refine kIloadn C dL_law_1174 rfl 0 rfl ?_
  refine kIconst C (4 : Int32) dL_law_1175 ki_4 ?_
  refine kIadd C dL_law_1176 ?_
  refine kSld C hX hbl hbA (sc_in4 hi hL) dL_law_1177 ?_
  refine k_swap ?_
  refine kV C (X9_takes_ok e2) vb_X9_takes mk_RL_113 rfl rcM ⟨Nat.le_of_ble_eq_true rfl, Nat.le_of_ble_eq_true rfl⟩ ⟨Nat.le_of_ble_eq_true rfl, Nat.le_of_ble_eq_true rfl⟩ rfl (Nat.le_of_ble_eq_true rfl) dL_law_1178 ?_
  refine k_swap ?_
  refine kCmpEq C 2361 dL_law_1181 (by decide) (fun _ => ?_) (fun q => absurd rfl q)
  exact kk ocP ocLo ocHi cpl ctb ctl ctf ctp ctk cts cth cob col ocso ocha ochs ocbe octr ocgl ocgh ocll oclh octa cme cps cwh cal cah mthr omfrp omact mtpd msiz matx mfrm mtok mval mfk mfpl ombem omtrs omtrl mrom mtom omnow omfre omkep mtap omlef omtak ombes mrow mint mrnd mplo mhio mtox mtol hr2
set_option maxHeartbeats 4000000 in
theorem law_cover (C : Cx p l room_1 s m #[Value.ref b] meth c code 4 RL ret D cy G A) (hX : va_X b L xs s s.heap) (hbl : b < s.heap.size) (hbA : ¬ A b) {i : Nat} (hi : i + 6 ≤ L) (hL : L ≤ 3072) (hr : Rel cP cLo cHi ctb ctl ctf ctp cob col cso cha chs mact mtpd mfk mfpl mtom mnow mkep mtap mtol)
    (kk : ∀ (cP : Nat → Int32) (cLo : Nat → Int64) (cHi : Nat → Int64) (cpl : Nat → Int32) (ctb : Nat → Int32) (ctl : Int32) (ctf : Int32) (ctp : Int32) (ctk : Int32) (cts : Int32) (cth : Int32) (cob : Nat → Int32) (col : Int32) (cso : Nat → Int32) (cha : Int32) (chs : Int32) (cbe : Int32) (ctr : Int32) (cgl : Nat → Int64) (cgh : Nat → Int64) (cll : Nat → Int64) (clh : Nat → Int64) (cta : Nat → Int32) (cme : Nat → Int32) (cps : Int32) (cwh : Nat → Int32) (cal : Nat → Int64) (cah : Nat → Int64) (mthr : Int32) (mfrp : Int32) (mact : Int32) (mtpd : Int32) (msiz : Int32) (matx : Int32) (mfrm : Int32) (mtok : Int32) (mval : Int32) (mfk : Int32) (mfpl : Int32) (mbem : Int32) (mtrs : Int32) (mtrl : Int32) (mrom : Int32) (mtom : Int32) (mnow : Nat → Int32) (mfre : Nat → Int32) (mkep : Nat → Int32) (mtap : Nat → Int32) (mlef : Nat → Int32) (mtak : Nat → Int32) (mbes : Nat → Int32) (mrow : Nat → Int32) (mint : Nat → Int32) (mrnd : Nat → Int32) (mplo : Nat → Int32) (mhio : Nat → Int32) (mtox : Nat → Int32) (mtol : Nat → Int32), Rel cP cLo cHi ctb ctl ctf ctp cob col cso cha chs mact mtpd mfk mfpl mtom mnow mkep mtap mtol → JK p l e room_1 s m #[Value.ref b] below meth c D A Q 4 65 26217 ((mw h cy mthr mfrp mact mtpd msiz matx mfrm mtok mval mfk mfpl mbem mtrs mtrl mrom mtom mnow mfre mkep mtap mlef mtak mbes mrow mint mrnd mplo mhio mtox mtol) ++ (cw g cy cP cLo cHi cpl ctb ctl ctf ctp ctk cts cth cob col cso cha chs cbe ctr cgl cgh cll clh cta cme cps cwh cal cah)) 2361 [(3, .int (nI i)), (2, .ref (h 0)), (1, .ref (g 28)), (0, .ref b)] []) : JK p l e room_1 s m #[Value.ref b] below meth c D A Q 4 65 26217 ((mw h cy mthr mfrp mact mtpd msiz matx mfrm mtok mval mfk mfpl mbem mtrs mtrl mrom mtom mnow mfre mkep mtap mlef mtak mbes mrow mint mrnd mplo mhio mtox mtol) ++ (cw g cy cP cLo cHi cpl ctb ctl ctf ctp ctk cts cth cob col cso cha chs cbe ctr cgl cgh cll clh cta cme cps cwh cal cah)) 1186 [(3, .int (nI i)), (2, .ref (h 0)), (1, .ref (g 28)), (0, .ref b)] [] := by
  obtain ⟨r, ocP, ocLo, ocHi, e1, e2, hr2⟩ := sim_cover (p1 := xs (nI i + (1 : Int32)).toNatClampNeg) hr
  refine kAloadn C dL_law_1186 rfl 2 rfl ?_
  refine kAloadn C dL_law_1187 rfl 3 rfl ?_
  refine kIloadn C dL_law_1188 rfl 0 rfl ?_
  refine kIconst C (1 : Int32) dL_law_1189 ki_1 ?_
  refine kIadd C dL_law_1190 ?_
  refine kSld C hX hbl hbA (sc_in1 hi hL) dL_law_1191 ?_
  refine kV C (X8_cover_ok e1) vb_X8_cover mk_RL_114 rfl rc28 ⟨Nat.le_of_ble_eq_true rfl, Nat.le_of_ble_eq_true rfl⟩ ⟨Nat.le_of_ble_eq_true rfl, Nat.le_of_ble_eq_true rfl⟩ rfl (Nat.le_of_ble_eq_true rfl) dL_law_1192 ?_
  refine kAloadn C dL_law_1195 rfl 1 rfl ?_
  refine kAloadn C dL_law_1196 rfl 3 rfl ?_
  refine kIloadn C dL_law_1197 rfl 0 rfl ?_
  refine kIconst C (1 : Int32) dL_law_1198 ki_1 ?_
  refine kIadd C dL_law_1199 ?_
  refine kSld C hX hbl hbA (sc_in1 hi hL) dL_law_1200 ?_
  refine k_swap ?_
  refine kV C (X9_cover_ok e2) vb_X9_cover mk_RL_117 rfl rcM ⟨Nat.le_of_ble_eq_true rfl, Nat.le_of_ble_eq_true rfl⟩ ⟨Nat.le_of_ble_eq_true rfl, Nat.le_of_ble_eq_true rfl⟩ rfl (Nat.le_of_ble_eq_true rfl) dL_law_1201 ?_
  refine k_swap ?_
  refine kCmpEq C 2361 dL_law_1204 (by decide) (fun _ => ?_) (fun q => absurd rfl q)
  exact kk ocP ocLo ocHi cpl ctb ctl ctf ctp ctk cts cth cob col cso cha chs cbe ctr cgl cgh cll clh cta cme cps cwh cal cah mthr mfrp mact mtpd msiz matx mfrm mtok mval mfk mfpl mbem mtrs mtrl mrom mtom mnow mfre mkep mtap mlef mtak mbes mrow mint mrnd mplo mhio mtox mtol hr2
set_option maxHeartbeats 4000000 in
theorem law_colours (C : Cx p l room_1 s m #[Value.ref b] meth c code 4 RL ret D cy G A) (hX : va_X b L xs s s.heap) (hbl : b < s.heap.size) (hbA : ¬ A b) {i : Nat} (hi : i + 6 ≤ L) (hL : L ≤ 3072) (hr : Rel cP cLo cHi ctb ctl ctf ctp cob col cso cha chs mact mtpd mfk mfpl mtom mnow mkep mtap mtol)
    (kk : ∀ (cP : Nat → Int32) (cLo : Nat → Int64) (cHi : Nat → Int64) (cpl : Nat → Int32) (ctb : Nat → Int32) (ctl : Int32) (ctf : Int32) (ctp : Int32) (ctk : Int32) (cts : Int32) (cth : Int32) (cob : Nat → Int32) (col : Int32) (cso : Nat → Int32) (cha : Int32) (chs : Int32) (cbe : Int32) (ctr : Int32) (cgl : Nat → Int64) (cgh : Nat → Int64) (cll : Nat → Int64) (clh : Nat → Int64) (cta : Nat → Int32) (cme : Nat → Int32) (cps : Int32) (cwh : Nat → Int32) (cal : Nat → Int64) (cah : Nat → Int64) (mthr : Int32) (mfrp : Int32) (mact : Int32) (mtpd : Int32) (msiz : Int32) (matx : Int32) (mfrm : Int32) (mtok : Int32) (mval : Int32) (mfk : Int32) (mfpl : Int32) (mbem : Int32) (mtrs : Int32) (mtrl : Int32) (mrom : Int32) (mtom : Int32) (mnow : Nat → Int32) (mfre : Nat → Int32) (mkep : Nat → Int32) (mtap : Nat → Int32) (mlef : Nat → Int32) (mtak : Nat → Int32) (mbes : Nat → Int32) (mrow : Nat → Int32) (mint : Nat → Int32) (mrnd : Nat → Int32) (mplo : Nat → Int32) (mhio : Nat → Int32) (mtox : Nat → Int32) (mtol : Nat → Int32), Rel cP cLo cHi ctb ctl ctf ctp cob col cso cha chs mact mtpd mfk mfpl mtom mnow mkep mtap mtol → JK p l e room_1 s m #[Value.ref b] below meth c D A Q 4 65 26217 ((mw h cy mthr mfrp mact mtpd msiz matx mfrm mtok mval mfk mfpl mbem mtrs mtrl mrom mtom mnow mfre mkep mtap mlef mtak mbes mrow mint mrnd mplo mhio mtox mtol) ++ (cw g cy cP cLo cHi cpl ctb ctl ctf ctp ctk cts cth cob col cso cha chs cbe ctr cgl cgh cll clh cta cme cps cwh cal cah)) 2361 [(3, .int (nI i)), (2, .ref (h 0)), (1, .ref (g 28)), (0, .ref b)] []) : JK p l e room_1 s m #[Value.ref b] below meth c D A Q 4 65 26217 ((mw h cy mthr mfrp mact mtpd msiz matx mfrm mtok mval mfk mfpl mbem mtrs mtrl mrom mtom mnow mfre mkep mtap mlef mtak mbes mrow mint mrnd mplo mhio mtox mtol) ++ (cw g cy cP cLo cHi cpl ctb ctl ctf ctp ctk cts cth cob col cso cha chs cbe ctr cgl cgh cll clh cta cme cps cwh cal cah)) 1209 [(3, .int (nI i)), (2, .ref (h 0)), (1, .ref (g 28)), (0, .ref b)] [] := by
  obtain ⟨r, ocP, ocLo, ocHi, ocme, ocps, ocwh, ocal, ocah, omrom, omrow, omint, e1, e2, hr2⟩ := sim_colours (p1 := xs (nI i + (1 : Int32)).toNatClampNeg) (p2 := xs (nI i + (2 : Int32)).toNatClampNeg) hr
  refine kAloadn C dL_law_1209 rfl 2 rfl ?_
  refine kAloadn C dL_law_1210 rfl 3 rfl ?_
  refine kIloadn C dL_law_1211 rfl 0 rfl ?_
  refine kIconst C (1 : Int32) dL_law_1212 ki_1 ?_
  refine kIadd C dL_law_1213 ?_
  refine kSld C hX hbl hbA (sc_in1 hi hL) dL_law_1214 ?_
  refine kAloadn C dL_law_1215 rfl 3 rfl ?_
  refine kIloadn C dL_law_1216 rfl 0 rfl ?_
  refine kIconst C (2 : Int32) dL_law_1217 ki_2 ?_
  refine kIadd C dL_law_1218 ?_
  refine kSld C hX hbl hbA (sc_in2 hi hL) dL_law_1219 ?_
  refine kV C (X8_colours_ok e1) vb_X8_colours mk_RL_118 rfl rc28 ⟨Nat.le_of_ble_eq_true rfl, Nat.le_of_ble_eq_true rfl⟩ ⟨Nat.le_of_ble_eq_true rfl, Nat.le_of_ble_eq_true rfl⟩ rfl (Nat.le_of_ble_eq_true rfl) dL_law_1220 ?_
  refine kAloadn C dL_law_1223 rfl 1 rfl ?_
  refine kAloadn C dL_law_1224 rfl 3 rfl ?_
  refine kIloadn C dL_law_1225 rfl 0 rfl ?_
  refine kIconst C (1 : Int32) dL_law_1226 ki_1 ?_
  refine kIadd C dL_law_1227 ?_
  refine kSld C hX hbl hbA (sc_in1 hi hL) dL_law_1228 ?_
  refine kAloadn C dL_law_1229 rfl 3 rfl ?_
  refine kIloadn C dL_law_1230 rfl 0 rfl ?_
  refine kIconst C (2 : Int32) dL_law_1231 ki_2 ?_
  refine kIadd C dL_law_1232 ?_
  refine kSld C hX hbl hbA (sc_in2 hi hL) dL_law_1233 ?_
  refine k_swap ?_
  refine kV C (X9_colours_ok e2) vb_X9_colours mk_RL_121 rfl rcM ⟨Nat.le_of_ble_eq_true rfl, Nat.le_of_ble_eq_true rfl⟩ ⟨Nat.le_of_ble_eq_true rfl, Nat.le_of_ble_eq_true rfl⟩ rfl (Nat.le_of_ble_eq_true rfl) dL_law_1234 ?_
  refine k_swap ?_
  refine kCmpEq C 2361 dL_law_1237 (by decide) (fun _ => ?_) (fun q => absurd rfl q)
  exact kk ocP ocLo ocHi cpl ctb ctl ctf ctp ctk cts cth cob col cso cha chs cbe ctr cgl cgh cll clh cta ocme ocps ocwh ocal ocah mthr mfrp mact mtpd msiz matx mfrm mtok mval mfk mfpl mbem mtrs mtrl omrom mtom mnow mfre mkep mtap mlef mtak mbes omrow omint mrnd mplo mhio mtox mtol hr2
set_option maxHeartbeats 4000000 in
theorem law_colour (C : Cx p l room_1 s m #[Value.ref b] meth c code 4 RL ret D cy G A) (hX : va_X b L xs s s.heap) (hbl : b < s.heap.size) (hbA : ¬ A b) {i : Nat} (hi : i + 6 ≤ L) (hL : L ≤ 3072) (hr : Rel cP cLo cHi ctb ctl ctf ctp cob col cso cha chs mact mtpd mfk mfpl mtom mnow mkep mtap mtol)
    (kk : ∀ (cP : Nat → Int32) (cLo : Nat → Int64) (cHi : Nat → Int64) (cpl : Nat → Int32) (ctb : Nat → Int32) (ctl : Int32) (ctf : Int32) (ctp : Int32) (ctk : Int32) (cts : Int32) (cth : Int32) (cob : Nat → Int32) (col : Int32) (cso : Nat → Int32) (cha : Int32) (chs : Int32) (cbe : Int32) (ctr : Int32) (cgl : Nat → Int64) (cgh : Nat → Int64) (cll : Nat → Int64) (clh : Nat → Int64) (cta : Nat → Int32) (cme : Nat → Int32) (cps : Int32) (cwh : Nat → Int32) (cal : Nat → Int64) (cah : Nat → Int64) (mthr : Int32) (mfrp : Int32) (mact : Int32) (mtpd : Int32) (msiz : Int32) (matx : Int32) (mfrm : Int32) (mtok : Int32) (mval : Int32) (mfk : Int32) (mfpl : Int32) (mbem : Int32) (mtrs : Int32) (mtrl : Int32) (mrom : Int32) (mtom : Int32) (mnow : Nat → Int32) (mfre : Nat → Int32) (mkep : Nat → Int32) (mtap : Nat → Int32) (mlef : Nat → Int32) (mtak : Nat → Int32) (mbes : Nat → Int32) (mrow : Nat → Int32) (mint : Nat → Int32) (mrnd : Nat → Int32) (mplo : Nat → Int32) (mhio : Nat → Int32) (mtox : Nat → Int32) (mtol : Nat → Int32), Rel cP cLo cHi ctb ctl ctf ctp cob col cso cha chs mact mtpd mfk mfpl mtom mnow mkep mtap mtol → JK p l e room_1 s m #[Value.ref b] below meth c D A Q 4 65 26217 ((mw h cy mthr mfrp mact mtpd msiz matx mfrm mtok mval mfk mfpl mbem mtrs mtrl mrom mtom mnow mfre mkep mtap mlef mtak mbes mrow mint mrnd mplo mhio mtox mtol) ++ (cw g cy cP cLo cHi cpl ctb ctl ctf ctp ctk cts cth cob col cso cha chs cbe ctr cgl cgh cll clh cta cme cps cwh cal cah)) 2361 [(3, .int (nI i)), (2, .ref (h 0)), (1, .ref (g 28)), (0, .ref b)] []) : JK p l e room_1 s m #[Value.ref b] below meth c D A Q 4 65 26217 ((mw h cy mthr mfrp mact mtpd msiz matx mfrm mtok mval mfk mfpl mbem mtrs mtrl mrom mtom mnow mfre mkep mtap mlef mtak mbes mrow mint mrnd mplo mhio mtox mtol) ++ (cw g cy cP cLo cHi cpl ctb ctl ctf ctp ctk cts cth cob col cso cha chs cbe ctr cgl cgh cll clh cta cme cps cwh cal cah)) 1242 [(3, .int (nI i)), (2, .ref (h 0)), (1, .ref (g 28)), (0, .ref b)] [] := by
  obtain ⟨r, ocP, ocLo, ocHi, ocme, ocps, ocwh, ocal, ocah, omrom, omrow, omint, e1, e2, hr2⟩ := sim_colour (p1 := xs (nI i + (1 : Int32)).toNatClampNeg) (p2 := xs (nI i + (2 : Int32)).toNatClampNeg) (p3 := xs (nI i + (3 : Int32)).toNatClampNeg) (p4 := xs (nI i + (4 : Int32)).toNatClampNeg) hr
  refine kAloadn C dL_law_1242 rfl 2 rfl ?_
  refine kAloadn C dL_law_1243 rfl 3 rfl ?_
  refine kIloadn C dL_law_1244 rfl 0 rfl ?_
  refine kIconst C (1 : Int32) dL_law_1245 ki_1 ?_
  refine kIadd C dL_law_1246 ?_
  refine kSld C hX hbl hbA (sc_in1 hi hL) dL_law_1247 ?_
  refine kAloadn C dL_law_1248 rfl 3 rfl ?_
  refine kIloadn C dL_law_1249 rfl 0 rfl ?_
  refine kIconst C (2 : Int32) dL_law_1250 ki_2 ?_
  refine kIadd C dL_law_1251 ?_
  refine kSld C hX hbl hbA (sc_in2 hi hL) dL_law_1252 ?_
  refine kAloadn C dL_law_1253 rfl 3 rfl ?_
  refine kIloadn C dL_law_1254 rfl 0 rfl ?_
  refine kIconst C (3 : Int32) dL_law_1255 ki_3 ?_
  refine kIadd C dL_law_1256 ?_
  refine kSld C hX hbl hbA (sc_in3 hi hL) dL_law_1257 ?_
  refine kAloadn C dL_law_1258 rfl 3 rfl ?_
  refine kIloadn C dL_law_1259 rfl 0 rfl ?_
  refine kIconst C (4 : Int32) dL_law_1260 ki_4 ?_
  refine kIadd C dL_law_1261 ?_
  refine kSld C hX hbl hbA (sc_in4 hi hL) dL_law_1262 ?_
  refine kV C (X8_colour_ok e1) vb_X8_colour mk_RL_122 rfl rc28 ⟨Nat.le_of_ble_eq_true rfl, Nat.le_of_ble_eq_true rfl⟩ ⟨Nat.le_of_ble_eq_true rfl, Nat.le_of_ble_eq_true rfl⟩ rfl (Nat.le_of_ble_eq_true rfl) dL_law_1263 ?_
  refine kAloadn C dL_law_1266 rfl 1 rfl ?_
  refine kAloadn C dL_law_1267 rfl 3 rfl ?_
  refine kIloadn C dL_law_1268 rfl 0 rfl ?_
  refine kIconst C (1 : Int32) dL_law_1269 ki_1 ?_
  refine kIadd C dL_law_1270 ?_
  refine kSld C hX hbl hbA (sc_in1 hi hL) dL_law_1271 ?_
  refine kAloadn C dL_law_1272 rfl 3 rfl ?_
  refine kIloadn C dL_law_1273 rfl 0 rfl ?_
  refine kIconst C (2 : Int32) dL_law_1274 ki_2 ?_
  refine kIadd C dL_law_1275 ?_
  refine kSld C hX hbl hbA (sc_in2 hi hL) dL_law_1276 ?_
  refine kAloadn C dL_law_1277 rfl 3 rfl ?_
  refine kIloadn C dL_law_1278 rfl 0 rfl ?_
  refine kIconst C (3 : Int32) dL_law_1279 ki_3 ?_
  refine kIadd C dL_law_1280 ?_
  refine kSld C hX hbl hbA (sc_in3 hi hL) dL_law_1281 ?_
  refine kAloadn C dL_law_1282 rfl 3 rfl ?_
  refine kIloadn C dL_law_1283 rfl 0 rfl ?_
  refine kIconst C (4 : Int32) dL_law_1284 ki_4 ?_
  refine kIadd C dL_law_1285 ?_
  refine kSld C hX hbl hbA (sc_in4 hi hL) dL_law_1286 ?_
  refine k_swap ?_
  refine kV C (X9_colour_ok e2) vb_X9_colour mk_RL_125 rfl rcM ⟨Nat.le_of_ble_eq_true rfl, Nat.le_of_ble_eq_true rfl⟩ ⟨Nat.le_of_ble_eq_true rfl, Nat.le_of_ble_eq_true rfl⟩ rfl (Nat.le_of_ble_eq_true rfl) dL_law_1287 ?_
  refine k_swap ?_
  refine kCmpEq C 2361 dL_law_1290 (by decide) (fun _ => ?_) (fun q => absurd rfl q)
  exact kk ocP ocLo ocHi cpl ctb ctl ctf ctp ctk cts cth cob col cso cha chs cbe ctr cgl cgh cll clh cta ocme ocps ocwh ocal ocah mthr mfrp mact mtpd msiz matx mfrm mtok mval mfk mfpl mbem mtrs mtrl omrom mtom mnow mfre mkep mtap mlef mtak mbes omrow omint mrnd mplo mhio mtox mtol hr2
set_option maxHeartbeats 4000000 in
theorem law_steps (C : Cx p l room_1 s m #[Value.ref b] meth c code 4 RL ret D cy G A) (hX : va_X b L xs s s.heap) (hbl : b < s.heap.size) (hbA : ¬ A b) {i : Nat} (hi : i + 6 ≤ L) (hL : L ≤ 3072) (hr : Rel cP cLo cHi ctb ctl ctf ctp cob col cso cha chs mact mtpd mfk mfpl mtom mnow mkep mtap mtol)
    (kk : ∀ (cP : Nat → Int32) (cLo : Nat → Int64) (cHi : Nat → Int64) (cpl : Nat → Int32) (ctb : Nat → Int32) (ctl : Int32) (ctf : Int32) (ctp : Int32) (ctk : Int32) (cts : Int32) (cth : Int32) (cob : Nat → Int32) (col : Int32) (cso : Nat → Int32) (cha : Int32) (chs : Int32) (cbe : Int32) (ctr : Int32) (cgl : Nat → Int64) (cgh : Nat → Int64) (cll : Nat → Int64) (clh : Nat → Int64) (cta : Nat → Int32) (cme : Nat → Int32) (cps : Int32) (cwh : Nat → Int32) (cal : Nat → Int64) (cah : Nat → Int64) (mthr : Int32) (mfrp : Int32) (mact : Int32) (mtpd : Int32) (msiz : Int32) (matx : Int32) (mfrm : Int32) (mtok : Int32) (mval : Int32) (mfk : Int32) (mfpl : Int32) (mbem : Int32) (mtrs : Int32) (mtrl : Int32) (mrom : Int32) (mtom : Int32) (mnow : Nat → Int32) (mfre : Nat → Int32) (mkep : Nat → Int32) (mtap : Nat → Int32) (mlef : Nat → Int32) (mtak : Nat → Int32) (mbes : Nat → Int32) (mrow : Nat → Int32) (mint : Nat → Int32) (mrnd : Nat → Int32) (mplo : Nat → Int32) (mhio : Nat → Int32) (mtox : Nat → Int32) (mtol : Nat → Int32), Rel cP cLo cHi ctb ctl ctf ctp cob col cso cha chs mact mtpd mfk mfpl mtom mnow mkep mtap mtol → JK p l e room_1 s m #[Value.ref b] below meth c D A Q 4 65 26217 ((mw h cy mthr mfrp mact mtpd msiz matx mfrm mtok mval mfk mfpl mbem mtrs mtrl mrom mtom mnow mfre mkep mtap mlef mtak mbes mrow mint mrnd mplo mhio mtox mtol) ++ (cw g cy cP cLo cHi cpl ctb ctl ctf ctp ctk cts cth cob col cso cha chs cbe ctr cgl cgh cll clh cta cme cps cwh cal cah)) 2361 [(3, .int (nI i)), (2, .ref (h 0)), (1, .ref (g 28)), (0, .ref b)] []) : JK p l e room_1 s m #[Value.ref b] below meth c D A Q 4 65 26217 ((mw h cy mthr mfrp mact mtpd msiz matx mfrm mtok mval mfk mfpl mbem mtrs mtrl mrom mtom mnow mfre mkep mtap mlef mtak mbes mrow mint mrnd mplo mhio mtox mtol) ++ (cw g cy cP cLo cHi cpl ctb ctl ctf ctp ctk cts cth cob col cso cha chs cbe ctr cgl cgh cll clh cta cme cps cwh cal cah)) 1295 [(3, .int (nI i)), (2, .ref (h 0)), (1, .ref (g 28)), (0, .ref b)] [] := by
  obtain ⟨r, ocP, ocLo, ocHi, omint, e1, e2, hr2⟩ := sim_steps (p1 := xs (nI i + (1 : Int32)).toNatClampNeg) (p2 := xs (nI i + (2 : Int32)).toNatClampNeg) (p3 := xs (nI i + (3 : Int32)).toNatClampNeg) hr
  refine kAloadn C dL_law_1295 rfl 2 rfl ?_
  refine kAloadn C dL_law_1296 rfl 3 rfl ?_
  refine kIloadn C dL_law_1297 rfl 0 rfl ?_
  refine kIconst C (1 : Int32) dL_law_1298 ki_1 ?_
  refine kIadd C dL_law_1299 ?_
  refine kSld C hX hbl hbA (sc_in1 hi hL) dL_law_1300 ?_
  refine kAloadn C dL_law_1301 rfl 3 rfl ?_
  refine kIloadn C dL_law_1302 rfl 0 rfl ?_
  refine kIconst C (2 : Int32) dL_law_1303 ki_2 ?_
  refine kIadd C dL_law_1304 ?_
  refine kSld C hX hbl hbA (sc_in2 hi hL) dL_law_1305 ?_
  refine kAloadn C dL_law_1306 rfl 3 rfl ?_
  refine kIloadn C dL_law_1307 rfl 0 rfl ?_
  refine kIconst C (3 : Int32) dL_law_1308 ki_3 ?_
  refine kIadd C dL_law_1309 ?_
  refine kSld C hX hbl hbA (sc_in3 hi hL) dL_law_1310 ?_
  refine kV C (X8_steps_ok e1) vb_X8_steps mk_RL_126 rfl rc28 ⟨Nat.le_of_ble_eq_true rfl, Nat.le_of_ble_eq_true rfl⟩ ⟨Nat.le_of_ble_eq_true rfl, Nat.le_of_ble_eq_true rfl⟩ rfl (Nat.le_of_ble_eq_true rfl) dL_law_1311 ?_
  refine kAloadn C dL_law_1314 rfl 1 rfl ?_
  refine kAloadn C dL_law_1315 rfl 3 rfl ?_
  refine kIloadn C dL_law_1316 rfl 0 rfl ?_
  refine kIconst C (1 : Int32) dL_law_1317 ki_1 ?_
  refine kIadd C dL_law_1318 ?_
  refine kSld C hX hbl hbA (sc_in1 hi hL) dL_law_1319 ?_
  refine kAloadn C dL_law_1320 rfl 3 rfl ?_
  refine kIloadn C dL_law_1321 rfl 0 rfl ?_
  refine kIconst C (2 : Int32) dL_law_1322 ki_2 ?_
  refine kIadd C dL_law_1323 ?_
  refine kSld C hX hbl hbA (sc_in2 hi hL) dL_law_1324 ?_
  refine kAloadn C dL_law_1325 rfl 3 rfl ?_
  refine kIloadn C dL_law_1326 rfl 0 rfl ?_
  refine kIconst C (3 : Int32) dL_law_1327 ki_3 ?_
  refine kIadd C dL_law_1328 ?_
  refine kSld C hX hbl hbA (sc_in3 hi hL) dL_law_1329 ?_
  refine k_swap ?_
  refine kV C (X9_steps_ok e2) vb_X9_steps mk_RL_129 rfl rcM ⟨Nat.le_of_ble_eq_true rfl, Nat.le_of_ble_eq_true rfl⟩ ⟨Nat.le_of_ble_eq_true rfl, Nat.le_of_ble_eq_true rfl⟩ rfl (Nat.le_of_ble_eq_true rfl) dL_law_1330 ?_
  refine k_swap ?_
  refine kCmpEq C 2361 dL_law_1333 (by decide) (fun _ => ?_) (fun q => absurd rfl q)
  exact kk ocP ocLo ocHi cpl ctb ctl ctf ctp ctk cts cth cob col cso cha chs cbe ctr cgl cgh cll clh cta cme cps cwh cal cah mthr mfrp mact mtpd msiz matx mfrm mtok mval mfk mfpl mbem mtrs mtrl mrom mtom mnow mfre mkep mtap mlef mtak mbes mrow omint mrnd mplo mhio mtox mtol hr2
set_option maxHeartbeats 4000000 in
theorem law_arcs (C : Cx p l room_1 s m #[Value.ref b] meth c code 4 RL ret D cy G A) (hX : va_X b L xs s s.heap) (hbl : b < s.heap.size) (hbA : ¬ A b) {i : Nat} (hi : i + 6 ≤ L) (hL : L ≤ 3072) (hr : Rel cP cLo cHi ctb ctl ctf ctp cob col cso cha chs mact mtpd mfk mfpl mtom mnow mkep mtap mtol)
    (kk : ∀ (cP : Nat → Int32) (cLo : Nat → Int64) (cHi : Nat → Int64) (cpl : Nat → Int32) (ctb : Nat → Int32) (ctl : Int32) (ctf : Int32) (ctp : Int32) (ctk : Int32) (cts : Int32) (cth : Int32) (cob : Nat → Int32) (col : Int32) (cso : Nat → Int32) (cha : Int32) (chs : Int32) (cbe : Int32) (ctr : Int32) (cgl : Nat → Int64) (cgh : Nat → Int64) (cll : Nat → Int64) (clh : Nat → Int64) (cta : Nat → Int32) (cme : Nat → Int32) (cps : Int32) (cwh : Nat → Int32) (cal : Nat → Int64) (cah : Nat → Int64) (mthr : Int32) (mfrp : Int32) (mact : Int32) (mtpd : Int32) (msiz : Int32) (matx : Int32) (mfrm : Int32) (mtok : Int32) (mval : Int32) (mfk : Int32) (mfpl : Int32) (mbem : Int32) (mtrs : Int32) (mtrl : Int32) (mrom : Int32) (mtom : Int32) (mnow : Nat → Int32) (mfre : Nat → Int32) (mkep : Nat → Int32) (mtap : Nat → Int32) (mlef : Nat → Int32) (mtak : Nat → Int32) (mbes : Nat → Int32) (mrow : Nat → Int32) (mint : Nat → Int32) (mrnd : Nat → Int32) (mplo : Nat → Int32) (mhio : Nat → Int32) (mtox : Nat → Int32) (mtol : Nat → Int32), Rel cP cLo cHi ctb ctl ctf ctp cob col cso cha chs mact mtpd mfk mfpl mtom mnow mkep mtap mtol → JK p l e room_1 s m #[Value.ref b] below meth c D A Q 4 65 26217 ((mw h cy mthr mfrp mact mtpd msiz matx mfrm mtok mval mfk mfpl mbem mtrs mtrl mrom mtom mnow mfre mkep mtap mlef mtak mbes mrow mint mrnd mplo mhio mtox mtol) ++ (cw g cy cP cLo cHi cpl ctb ctl ctf ctp ctk cts cth cob col cso cha chs cbe ctr cgl cgh cll clh cta cme cps cwh cal cah)) 2361 [(3, .int (nI i)), (2, .ref (h 0)), (1, .ref (g 28)), (0, .ref b)] []) : JK p l e room_1 s m #[Value.ref b] below meth c D A Q 4 65 26217 ((mw h cy mthr mfrp mact mtpd msiz matx mfrm mtok mval mfk mfpl mbem mtrs mtrl mrom mtom mnow mfre mkep mtap mlef mtak mbes mrow mint mrnd mplo mhio mtox mtol) ++ (cw g cy cP cLo cHi cpl ctb ctl ctf ctp ctk cts cth cob col cso cha chs cbe ctr cgl cgh cll clh cta cme cps cwh cal cah)) 1338 [(3, .int (nI i)), (2, .ref (h 0)), (1, .ref (g 28)), (0, .ref b)] [] := by
  obtain ⟨r, ocpl, omrnd, omplo, e1, e2, hr2⟩ := sim_arcs (p1 := xs (nI i + (1 : Int32)).toNatClampNeg) (p2 := xs (nI i + (2 : Int32)).toNatClampNeg) hr
  refine kAloadn C dL_law_1338 rfl 2 rfl ?_
  refine kAloadn C dL_law_1339 rfl 3 rfl ?_
  refine kIloadn C dL_law_1340 rfl 0 rfl ?_
  refine kIconst C (1 : Int32) dL_law_1341 ki_1 ?_
  refine kIadd C dL_law_1342 ?_
  refine kSld C hX hbl hbA (sc_in1 hi hL) dL_law_1343 ?_
  refine kAloadn C dL_law_1344 rfl 3 rfl ?_
  refine kIloadn C dL_law_1345 rfl 0 rfl ?_
  refine kIconst C (2 : Int32) dL_law_1346 ki_2 ?_
  refine kIadd C dL_law_1347 ?_
  refine kSld C hX hbl hbA (sc_in2 hi hL) dL_law_1348 ?_
  refine kV C (X8_arcs_ok e1) vb_X8_arcs mk_RL_130 rfl rc28 ⟨Nat.le_of_ble_eq_true rfl, Nat.le_of_ble_eq_true rfl⟩ ⟨Nat.le_of_ble_eq_true rfl, Nat.le_of_ble_eq_true rfl⟩ rfl (Nat.le_of_ble_eq_true rfl) dL_law_1349 ?_
  refine kAloadn C dL_law_1352 rfl 1 rfl ?_
  refine kAloadn C dL_law_1353 rfl 3 rfl ?_
  refine kIloadn C dL_law_1354 rfl 0 rfl ?_
  refine kIconst C (1 : Int32) dL_law_1355 ki_1 ?_
  refine kIadd C dL_law_1356 ?_
  refine kSld C hX hbl hbA (sc_in1 hi hL) dL_law_1357 ?_
  refine kAloadn C dL_law_1358 rfl 3 rfl ?_
  refine kIloadn C dL_law_1359 rfl 0 rfl ?_
  refine kIconst C (2 : Int32) dL_law_1360 ki_2 ?_
  refine kIadd C dL_law_1361 ?_
  refine kSld C hX hbl hbA (sc_in2 hi hL) dL_law_1362 ?_
  refine k_swap ?_
  refine kV C (X9_arcs_ok e2) vb_X9_arcs mk_RL_133 rfl rcM ⟨Nat.le_of_ble_eq_true rfl, Nat.le_of_ble_eq_true rfl⟩ ⟨Nat.le_of_ble_eq_true rfl, Nat.le_of_ble_eq_true rfl⟩ rfl (Nat.le_of_ble_eq_true rfl) dL_law_1363 ?_
  refine k_swap ?_
  refine kCmpEq C 2361 dL_law_1366 (by decide) (fun _ => ?_) (fun q => absurd rfl q)
  exact kk cP cLo cHi ocpl ctb ctl ctf ctp ctk cts cth cob col cso cha chs cbe ctr cgl cgh cll clh cta cme cps cwh cal cah mthr mfrp mact mtpd msiz matx mfrm mtok mval mfk mfpl mbem mtrs mtrl mrom mtom mnow mfre mkep mtap mlef mtak mbes mrow mint omrnd omplo mhio mtox mtol hr2
set_option maxHeartbeats 4000000 in
theorem law_around (C : Cx p l room_1 s m #[Value.ref b] meth c code 4 RL ret D cy G A) (hX : va_X b L xs s s.heap) (hbl : b < s.heap.size) (hbA : ¬ A b) {i : Nat} (hi : i + 6 ≤ L) (hL : L ≤ 3072) (hr : Rel cP cLo cHi ctb ctl ctf ctp cob col cso cha chs mact mtpd mfk mfpl mtom mnow mkep mtap mtol)
    (kk : ∀ (cP : Nat → Int32) (cLo : Nat → Int64) (cHi : Nat → Int64) (cpl : Nat → Int32) (ctb : Nat → Int32) (ctl : Int32) (ctf : Int32) (ctp : Int32) (ctk : Int32) (cts : Int32) (cth : Int32) (cob : Nat → Int32) (col : Int32) (cso : Nat → Int32) (cha : Int32) (chs : Int32) (cbe : Int32) (ctr : Int32) (cgl : Nat → Int64) (cgh : Nat → Int64) (cll : Nat → Int64) (clh : Nat → Int64) (cta : Nat → Int32) (cme : Nat → Int32) (cps : Int32) (cwh : Nat → Int32) (cal : Nat → Int64) (cah : Nat → Int64) (mthr : Int32) (mfrp : Int32) (mact : Int32) (mtpd : Int32) (msiz : Int32) (matx : Int32) (mfrm : Int32) (mtok : Int32) (mval : Int32) (mfk : Int32) (mfpl : Int32) (mbem : Int32) (mtrs : Int32) (mtrl : Int32) (mrom : Int32) (mtom : Int32) (mnow : Nat → Int32) (mfre : Nat → Int32) (mkep : Nat → Int32) (mtap : Nat → Int32) (mlef : Nat → Int32) (mtak : Nat → Int32) (mbes : Nat → Int32) (mrow : Nat → Int32) (mint : Nat → Int32) (mrnd : Nat → Int32) (mplo : Nat → Int32) (mhio : Nat → Int32) (mtox : Nat → Int32) (mtol : Nat → Int32), Rel cP cLo cHi ctb ctl ctf ctp cob col cso cha chs mact mtpd mfk mfpl mtom mnow mkep mtap mtol → JK p l e room_1 s m #[Value.ref b] below meth c D A Q 4 65 26217 ((mw h cy mthr mfrp mact mtpd msiz matx mfrm mtok mval mfk mfpl mbem mtrs mtrl mrom mtom mnow mfre mkep mtap mlef mtak mbes mrow mint mrnd mplo mhio mtox mtol) ++ (cw g cy cP cLo cHi cpl ctb ctl ctf ctp ctk cts cth cob col cso cha chs cbe ctr cgl cgh cll clh cta cme cps cwh cal cah)) 2361 [(3, .int (nI i)), (2, .ref (h 0)), (1, .ref (g 28)), (0, .ref b)] []) : JK p l e room_1 s m #[Value.ref b] below meth c D A Q 4 65 26217 ((mw h cy mthr mfrp mact mtpd msiz matx mfrm mtok mval mfk mfpl mbem mtrs mtrl mrom mtom mnow mfre mkep mtap mlef mtak mbes mrow mint mrnd mplo mhio mtox mtol) ++ (cw g cy cP cLo cHi cpl ctb ctl ctf ctp ctk cts cth cob col cso cha chs cbe ctr cgl cgh cll clh cta cme cps cwh cal cah)) 1371 [(3, .int (nI i)), (2, .ref (h 0)), (1, .ref (g 28)), (0, .ref b)] [] := by
  obtain ⟨r, ocpl, omrnd, omplo, e1, e2, hr2⟩ := sim_around (p1 := xs (nI i + (1 : Int32)).toNatClampNeg) (p2 := xs (nI i + (2 : Int32)).toNatClampNeg) (p3 := xs (nI i + (3 : Int32)).toNatClampNeg) hr
  refine kAloadn C dL_law_1371 rfl 2 rfl ?_
  refine kAloadn C dL_law_1372 rfl 3 rfl ?_
  refine kIloadn C dL_law_1373 rfl 0 rfl ?_
  refine kIconst C (1 : Int32) dL_law_1374 ki_1 ?_
  refine kIadd C dL_law_1375 ?_
  refine kSld C hX hbl hbA (sc_in1 hi hL) dL_law_1376 ?_
  refine kAloadn C dL_law_1377 rfl 3 rfl ?_
  refine kIloadn C dL_law_1378 rfl 0 rfl ?_
  refine kIconst C (2 : Int32) dL_law_1379 ki_2 ?_
  refine kIadd C dL_law_1380 ?_
  refine kSld C hX hbl hbA (sc_in2 hi hL) dL_law_1381 ?_
  refine kAloadn C dL_law_1382 rfl 3 rfl ?_
  refine kIloadn C dL_law_1383 rfl 0 rfl ?_
  refine kIconst C (3 : Int32) dL_law_1384 ki_3 ?_
  refine kIadd C dL_law_1385 ?_
  refine kSld C hX hbl hbA (sc_in3 hi hL) dL_law_1386 ?_
  refine kV C (X8_around_ok e1) vb_X8_around mk_RL_134 rfl rc28 ⟨Nat.le_of_ble_eq_true rfl, Nat.le_of_ble_eq_true rfl⟩ ⟨Nat.le_of_ble_eq_true rfl, Nat.le_of_ble_eq_true rfl⟩ rfl (Nat.le_of_ble_eq_true rfl) dL_law_1387 ?_
  refine kAloadn C dL_law_1390 rfl 1 rfl ?_
  refine kAloadn C dL_law_1391 rfl 3 rfl ?_
  refine kIloadn C dL_law_1392 rfl 0 rfl ?_
  refine kIconst C (1 : Int32) dL_law_1393 ki_1 ?_
  refine kIadd C dL_law_1394 ?_
  refine kSld C hX hbl hbA (sc_in1 hi hL) dL_law_1395 ?_
  refine kAloadn C dL_law_1396 rfl 3 rfl ?_
  refine kIloadn C dL_law_1397 rfl 0 rfl ?_
  refine kIconst C (2 : Int32) dL_law_1398 ki_2 ?_
  refine kIadd C dL_law_1399 ?_
  refine kSld C hX hbl hbA (sc_in2 hi hL) dL_law_1400 ?_
  refine kAloadn C dL_law_1401 rfl 3 rfl ?_
  refine kIloadn C dL_law_1402 rfl 0 rfl ?_
  refine kIconst C (3 : Int32) dL_law_1403 ki_3 ?_
  refine kIadd C dL_law_1404 ?_
  refine kSld C hX hbl hbA (sc_in3 hi hL) dL_law_1405 ?_
  refine k_swap ?_
  refine kV C (X9_around_ok e2) vb_X9_around mk_RL_137 rfl rcM ⟨Nat.le_of_ble_eq_true rfl, Nat.le_of_ble_eq_true rfl⟩ ⟨Nat.le_of_ble_eq_true rfl, Nat.le_of_ble_eq_true rfl⟩ rfl (Nat.le_of_ble_eq_true rfl) dL_law_1406 ?_
  refine k_swap ?_
  refine kCmpEq C 2361 dL_law_1409 (by decide) (fun _ => ?_) (fun q => absurd rfl q)
  exact kk cP cLo cHi ocpl ctb ctl ctf ctp ctk cts cth cob col cso cha chs cbe ctr cgl cgh cll clh cta cme cps cwh cal cah mthr mfrp mact mtpd msiz matx mfrm mtok mval mfk mfpl mbem mtrs mtrl mrom mtom mnow mfre mkep mtap mlef mtak mbes mrow mint omrnd omplo mhio mtox mtol hr2
set_option maxHeartbeats 4000000 in
theorem law_rounds (C : Cx p l room_1 s m #[Value.ref b] meth c code 4 RL ret D cy G A) (hX : va_X b L xs s s.heap) (hbl : b < s.heap.size) (hbA : ¬ A b) {i : Nat} (hi : i + 6 ≤ L) (hL : L ≤ 3072) (hr : Rel cP cLo cHi ctb ctl ctf ctp cob col cso cha chs mact mtpd mfk mfpl mtom mnow mkep mtap mtol)
    (kk : ∀ (cP : Nat → Int32) (cLo : Nat → Int64) (cHi : Nat → Int64) (cpl : Nat → Int32) (ctb : Nat → Int32) (ctl : Int32) (ctf : Int32) (ctp : Int32) (ctk : Int32) (cts : Int32) (cth : Int32) (cob : Nat → Int32) (col : Int32) (cso : Nat → Int32) (cha : Int32) (chs : Int32) (cbe : Int32) (ctr : Int32) (cgl : Nat → Int64) (cgh : Nat → Int64) (cll : Nat → Int64) (clh : Nat → Int64) (cta : Nat → Int32) (cme : Nat → Int32) (cps : Int32) (cwh : Nat → Int32) (cal : Nat → Int64) (cah : Nat → Int64) (mthr : Int32) (mfrp : Int32) (mact : Int32) (mtpd : Int32) (msiz : Int32) (matx : Int32) (mfrm : Int32) (mtok : Int32) (mval : Int32) (mfk : Int32) (mfpl : Int32) (mbem : Int32) (mtrs : Int32) (mtrl : Int32) (mrom : Int32) (mtom : Int32) (mnow : Nat → Int32) (mfre : Nat → Int32) (mkep : Nat → Int32) (mtap : Nat → Int32) (mlef : Nat → Int32) (mtak : Nat → Int32) (mbes : Nat → Int32) (mrow : Nat → Int32) (mint : Nat → Int32) (mrnd : Nat → Int32) (mplo : Nat → Int32) (mhio : Nat → Int32) (mtox : Nat → Int32) (mtol : Nat → Int32), Rel cP cLo cHi ctb ctl ctf ctp cob col cso cha chs mact mtpd mfk mfpl mtom mnow mkep mtap mtol → JK p l e room_1 s m #[Value.ref b] below meth c D A Q 4 65 26217 ((mw h cy mthr mfrp mact mtpd msiz matx mfrm mtok mval mfk mfpl mbem mtrs mtrl mrom mtom mnow mfre mkep mtap mlef mtak mbes mrow mint mrnd mplo mhio mtox mtol) ++ (cw g cy cP cLo cHi cpl ctb ctl ctf ctp ctk cts cth cob col cso cha chs cbe ctr cgl cgh cll clh cta cme cps cwh cal cah)) 2361 [(3, .int (nI i)), (2, .ref (h 0)), (1, .ref (g 28)), (0, .ref b)] []) : JK p l e room_1 s m #[Value.ref b] below meth c D A Q 4 65 26217 ((mw h cy mthr mfrp mact mtpd msiz matx mfrm mtok mval mfk mfpl mbem mtrs mtrl mrom mtom mnow mfre mkep mtap mlef mtak mbes mrow mint mrnd mplo mhio mtox mtol) ++ (cw g cy cP cLo cHi cpl ctb ctl ctf ctp ctk cts cth cob col cso cha chs cbe ctr cgl cgh cll clh cta cme cps cwh cal cah)) 1414 [(3, .int (nI i)), (2, .ref (h 0)), (1, .ref (g 28)), (0, .ref b)] [] := by
  obtain ⟨r, omrnd, omplo, e1, e2, hr2⟩ := sim_rounds (p1 := xs (nI i + (1 : Int32)).toNatClampNeg) (p2 := xs (nI i + (2 : Int32)).toNatClampNeg) hr
  refine kAloadn C dL_law_1414 rfl 2 rfl ?_
  refine kAloadn C dL_law_1415 rfl 3 rfl ?_
  refine kIloadn C dL_law_1416 rfl 0 rfl ?_
  refine kIconst C (1 : Int32) dL_law_1417 ki_1 ?_
  refine kIadd C dL_law_1418 ?_
  refine kSld C hX hbl hbA (sc_in1 hi hL) dL_law_1419 ?_
  refine kAloadn C dL_law_1420 rfl 3 rfl ?_
  refine kIloadn C dL_law_1421 rfl 0 rfl ?_
  refine kIconst C (2 : Int32) dL_law_1422 ki_2 ?_
  refine kIadd C dL_law_1423 ?_
  refine kSld C hX hbl hbA (sc_in2 hi hL) dL_law_1424 ?_
  refine kV C (X8_rounds_ok e1) vb_X8_rounds mk_RL_138 rfl rc28 ⟨Nat.le_of_ble_eq_true rfl, Nat.le_of_ble_eq_true rfl⟩ ⟨Nat.le_of_ble_eq_true rfl, Nat.le_of_ble_eq_true rfl⟩ rfl (Nat.le_of_ble_eq_true rfl) dL_law_1425 ?_
  refine kAloadn C dL_law_1428 rfl 1 rfl ?_
  refine kAloadn C dL_law_1429 rfl 3 rfl ?_
  refine kIloadn C dL_law_1430 rfl 0 rfl ?_
  refine kIconst C (1 : Int32) dL_law_1431 ki_1 ?_
  refine kIadd C dL_law_1432 ?_
  refine kSld C hX hbl hbA (sc_in1 hi hL) dL_law_1433 ?_
  refine kAloadn C dL_law_1434 rfl 3 rfl ?_
  refine kIloadn C dL_law_1435 rfl 0 rfl ?_
  refine kIconst C (2 : Int32) dL_law_1436 ki_2 ?_
  refine kIadd C dL_law_1437 ?_
  refine kSld C hX hbl hbA (sc_in2 hi hL) dL_law_1438 ?_
  refine k_swap ?_
  refine kV C (X9_rounds_ok e2) vb_X9_rounds mk_RL_141 rfl rcM ⟨Nat.le_of_ble_eq_true rfl, Nat.le_of_ble_eq_true rfl⟩ ⟨Nat.le_of_ble_eq_true rfl, Nat.le_of_ble_eq_true rfl⟩ rfl (Nat.le_of_ble_eq_true rfl) dL_law_1439 ?_
  refine k_swap ?_
  refine kCmpEq C 2361 dL_law_1442 (by decide) (fun _ => ?_) (fun q => absurd rfl q)
  exact kk cP cLo cHi cpl ctb ctl ctf ctp ctk cts cth cob col cso cha chs cbe ctr cgl cgh cll clh cta cme cps cwh cal cah mthr mfrp mact mtpd msiz matx mfrm mtok mval mfk mfpl mbem mtrs mtrl mrom mtom mnow mfre mkep mtap mlef mtak mbes mrow mint omrnd omplo mhio mtox mtol hr2
set_option maxHeartbeats 4000000 in
theorem law_sum (C : Cx p l room_1 s m #[Value.ref b] meth c code 4 RL ret D cy G A) (hX : va_X b L xs s s.heap) (hbl : b < s.heap.size) (hbA : ¬ A b) {i : Nat} (hi : i + 6 ≤ L) (hL : L ≤ 3072) (hr : Rel cP cLo cHi ctb ctl ctf ctp cob col cso cha chs mact mtpd mfk mfpl mtom mnow mkep mtap mtol)
    (kk : ∀ (cP : Nat → Int32) (cLo : Nat → Int64) (cHi : Nat → Int64) (cpl : Nat → Int32) (ctb : Nat → Int32) (ctl : Int32) (ctf : Int32) (ctp : Int32) (ctk : Int32) (cts : Int32) (cth : Int32) (cob : Nat → Int32) (col : Int32) (cso : Nat → Int32) (cha : Int32) (chs : Int32) (cbe : Int32) (ctr : Int32) (cgl : Nat → Int64) (cgh : Nat → Int64) (cll : Nat → Int64) (clh : Nat → Int64) (cta : Nat → Int32) (cme : Nat → Int32) (cps : Int32) (cwh : Nat → Int32) (cal : Nat → Int64) (cah : Nat → Int64) (mthr : Int32) (mfrp : Int32) (mact : Int32) (mtpd : Int32) (msiz : Int32) (matx : Int32) (mfrm : Int32) (mtok : Int32) (mval : Int32) (mfk : Int32) (mfpl : Int32) (mbem : Int32) (mtrs : Int32) (mtrl : Int32) (mrom : Int32) (mtom : Int32) (mnow : Nat → Int32) (mfre : Nat → Int32) (mkep : Nat → Int32) (mtap : Nat → Int32) (mlef : Nat → Int32) (mtak : Nat → Int32) (mbes : Nat → Int32) (mrow : Nat → Int32) (mint : Nat → Int32) (mrnd : Nat → Int32) (mplo : Nat → Int32) (mhio : Nat → Int32) (mtox : Nat → Int32) (mtol : Nat → Int32), Rel cP cLo cHi ctb ctl ctf ctp cob col cso cha chs mact mtpd mfk mfpl mtom mnow mkep mtap mtol → JK p l e room_1 s m #[Value.ref b] below meth c D A Q 4 65 26217 ((mw h cy mthr mfrp mact mtpd msiz matx mfrm mtok mval mfk mfpl mbem mtrs mtrl mrom mtom mnow mfre mkep mtap mlef mtak mbes mrow mint mrnd mplo mhio mtox mtol) ++ (cw g cy cP cLo cHi cpl ctb ctl ctf ctp ctk cts cth cob col cso cha chs cbe ctr cgl cgh cll clh cta cme cps cwh cal cah)) 2361 [(3, .int (nI i)), (2, .ref (h 0)), (1, .ref (g 28)), (0, .ref b)] []) : JK p l e room_1 s m #[Value.ref b] below meth c D A Q 4 65 26217 ((mw h cy mthr mfrp mact mtpd msiz matx mfrm mtok mval mfk mfpl mbem mtrs mtrl mrom mtom mnow mfre mkep mtap mlef mtak mbes mrow mint mrnd mplo mhio mtox mtol) ++ (cw g cy cP cLo cHi cpl ctb ctl ctf ctp ctk cts cth cob col cso cha chs cbe ctr cgl cgh cll clh cta cme cps cwh cal cah)) 1447 [(3, .int (nI i)), (2, .ref (h 0)), (1, .ref (g 28)), (0, .ref b)] [] := by
  obtain ⟨r, e1, e2, hr2⟩ := sim_sum (p1 := xs (nI i + (1 : Int32)).toNatClampNeg) (p2 := xs (nI i + (2 : Int32)).toNatClampNeg) hr
  refine kAloadn C dL_law_1447 rfl 2 rfl ?_
  refine kAloadn C dL_law_1448 rfl 3 rfl ?_
  refine kIloadn C dL_law_1449 rfl 0 rfl ?_
  refine kIconst C (1 : Int32) dL_law_1450 ki_1 ?_
  refine kIadd C dL_law_1451 ?_
  refine kSld C hX hbl hbA (sc_in1 hi hL) dL_law_1452 ?_
  refine kAloadn C dL_law_1453 rfl 3 rfl ?_
  refine kIloadn C dL_law_1454 rfl 0 rfl ?_
  refine kIconst C (2 : Int32) dL_law_1455 ki_2 ?_
  refine kIadd C dL_law_1456 ?_
  refine kSld C hX hbl hbA (sc_in2 hi hL) dL_law_1457 ?_
  refine kV C (X8_sum_ok e1) vb_X8_sum mk_RL_142 rfl rc28 ⟨Nat.le_of_ble_eq_true rfl, Nat.le_of_ble_eq_true rfl⟩ ⟨Nat.le_of_ble_eq_true rfl, Nat.le_of_ble_eq_true rfl⟩ rfl (Nat.le_of_ble_eq_true rfl) dL_law_1458 ?_
  refine kAloadn C dL_law_1461 rfl 1 rfl ?_
  refine kAloadn C dL_law_1462 rfl 3 rfl ?_
  refine kIloadn C dL_law_1463 rfl 0 rfl ?_
  refine kIconst C (1 : Int32) dL_law_1464 ki_1 ?_
  refine kIadd C dL_law_1465 ?_
  refine kSld C hX hbl hbA (sc_in1 hi hL) dL_law_1466 ?_
  refine kAloadn C dL_law_1467 rfl 3 rfl ?_
  refine kIloadn C dL_law_1468 rfl 0 rfl ?_
  refine kIconst C (2 : Int32) dL_law_1469 ki_2 ?_
  refine kIadd C dL_law_1470 ?_
  refine kSld C hX hbl hbA (sc_in2 hi hL) dL_law_1471 ?_
  refine k_swap ?_
  refine kV C (X9_sum_ok e2) vb_X9_sum mk_RL_145 rfl rcM ⟨Nat.le_of_ble_eq_true rfl, Nat.le_of_ble_eq_true rfl⟩ ⟨Nat.le_of_ble_eq_true rfl, Nat.le_of_ble_eq_true rfl⟩ rfl (Nat.le_of_ble_eq_true rfl) dL_law_1472 ?_
  refine k_swap ?_
  refine kCmpEq C 2361 dL_law_1475 (by decide) (fun _ => ?_) (fun q => absurd rfl q)
  exact kk cP cLo cHi cpl ctb ctl ctf ctp ctk cts cth cob col cso cha chs cbe ctr cgl cgh cll clh cta cme cps cwh cal cah mthr mfrp mact mtpd msiz matx mfrm mtok mval mfk mfpl mbem mtrs mtrl mrom mtom mnow mfre mkep mtap mlef mtak mbes mrow mint mrnd mplo mhio mtox mtol hr2
set_option maxHeartbeats 4000000 in
theorem law_shattered (C : Cx p l room_1 s m #[Value.ref b] meth c code 4 RL ret D cy G A) (hX : va_X b L xs s s.heap) (hbl : b < s.heap.size) (hbA : ¬ A b) {i : Nat} (hi : i + 6 ≤ L) (hL : L ≤ 3072) (hr : Rel cP cLo cHi ctb ctl ctf ctp cob col cso cha chs mact mtpd mfk mfpl mtom mnow mkep mtap mtol)
    (kk : ∀ (cP : Nat → Int32) (cLo : Nat → Int64) (cHi : Nat → Int64) (cpl : Nat → Int32) (ctb : Nat → Int32) (ctl : Int32) (ctf : Int32) (ctp : Int32) (ctk : Int32) (cts : Int32) (cth : Int32) (cob : Nat → Int32) (col : Int32) (cso : Nat → Int32) (cha : Int32) (chs : Int32) (cbe : Int32) (ctr : Int32) (cgl : Nat → Int64) (cgh : Nat → Int64) (cll : Nat → Int64) (clh : Nat → Int64) (cta : Nat → Int32) (cme : Nat → Int32) (cps : Int32) (cwh : Nat → Int32) (cal : Nat → Int64) (cah : Nat → Int64) (mthr : Int32) (mfrp : Int32) (mact : Int32) (mtpd : Int32) (msiz : Int32) (matx : Int32) (mfrm : Int32) (mtok : Int32) (mval : Int32) (mfk : Int32) (mfpl : Int32) (mbem : Int32) (mtrs : Int32) (mtrl : Int32) (mrom : Int32) (mtom : Int32) (mnow : Nat → Int32) (mfre : Nat → Int32) (mkep : Nat → Int32) (mtap : Nat → Int32) (mlef : Nat → Int32) (mtak : Nat → Int32) (mbes : Nat → Int32) (mrow : Nat → Int32) (mint : Nat → Int32) (mrnd : Nat → Int32) (mplo : Nat → Int32) (mhio : Nat → Int32) (mtox : Nat → Int32) (mtol : Nat → Int32), Rel cP cLo cHi ctb ctl ctf ctp cob col cso cha chs mact mtpd mfk mfpl mtom mnow mkep mtap mtol → JK p l e room_1 s m #[Value.ref b] below meth c D A Q 4 65 26217 ((mw h cy mthr mfrp mact mtpd msiz matx mfrm mtok mval mfk mfpl mbem mtrs mtrl mrom mtom mnow mfre mkep mtap mlef mtak mbes mrow mint mrnd mplo mhio mtox mtol) ++ (cw g cy cP cLo cHi cpl ctb ctl ctf ctp ctk cts cth cob col cso cha chs cbe ctr cgl cgh cll clh cta cme cps cwh cal cah)) 2361 [(3, .int (nI i)), (2, .ref (h 0)), (1, .ref (g 28)), (0, .ref b)] []) : JK p l e room_1 s m #[Value.ref b] below meth c D A Q 4 65 26217 ((mw h cy mthr mfrp mact mtpd msiz matx mfrm mtok mval mfk mfpl mbem mtrs mtrl mrom mtom mnow mfre mkep mtap mlef mtak mbes mrow mint mrnd mplo mhio mtox mtol) ++ (cw g cy cP cLo cHi cpl ctb ctl ctf ctp ctk cts cth cob col cso cha chs cbe ctr cgl cgh cll clh cta cme cps cwh cal cah)) 1480 [(3, .int (nI i)), (2, .ref (h 0)), (1, .ref (g 28)), (0, .ref b)] [] := by
  obtain ⟨r, ocP, ocLo, ocHi, e1, e2, hr2⟩ := sim_shattered (p1 := xs (nI i + (1 : Int32)).toNatClampNeg) (p2 := xs (nI i + (2 : Int32)).toNatClampNeg) hr
  refine kAloadn C dL_law_1480 rfl 2 rfl ?_
  refine kAloadn C dL_law_1481 rfl 3 rfl ?_
  refine kIloadn C dL_law_1482 rfl 0 rfl ?_
  refine kIconst C (1 : Int32) dL_law_1483 ki_1 ?_
  refine kIadd C dL_law_1484 ?_
  refine kSld C hX hbl hbA (sc_in1 hi hL) dL_law_1485 ?_
  refine kAloadn C dL_law_1486 rfl 3 rfl ?_
  refine kIloadn C dL_law_1487 rfl 0 rfl ?_
  refine kIconst C (2 : Int32) dL_law_1488 ki_2 ?_
  refine kIadd C dL_law_1489 ?_
  refine kSld C hX hbl hbA (sc_in2 hi hL) dL_law_1490 ?_
  refine kV C (X8_shattered_ok e1) vb_X8_shattered mk_RL_146 rfl rc28 ⟨Nat.le_of_ble_eq_true rfl, Nat.le_of_ble_eq_true rfl⟩ ⟨Nat.le_of_ble_eq_true rfl, Nat.le_of_ble_eq_true rfl⟩ rfl (Nat.le_of_ble_eq_true rfl) dL_law_1491 ?_
  refine kAloadn C dL_law_1494 rfl 1 rfl ?_
  refine kAloadn C dL_law_1495 rfl 3 rfl ?_
  refine kIloadn C dL_law_1496 rfl 0 rfl ?_
  refine kIconst C (1 : Int32) dL_law_1497 ki_1 ?_
  refine kIadd C dL_law_1498 ?_
  refine kSld C hX hbl hbA (sc_in1 hi hL) dL_law_1499 ?_
  refine kAloadn C dL_law_1500 rfl 3 rfl ?_
  refine kIloadn C dL_law_1501 rfl 0 rfl ?_
  refine kIconst C (2 : Int32) dL_law_1502 ki_2 ?_
  refine kIadd C dL_law_1503 ?_
  refine kSld C hX hbl hbA (sc_in2 hi hL) dL_law_1504 ?_
  refine k_swap ?_
  refine kV C (X9_shattered_ok e2) vb_X9_shattered mk_RL_149 rfl rcM ⟨Nat.le_of_ble_eq_true rfl, Nat.le_of_ble_eq_true rfl⟩ ⟨Nat.le_of_ble_eq_true rfl, Nat.le_of_ble_eq_true rfl⟩ rfl (Nat.le_of_ble_eq_true rfl) dL_law_1505 ?_
  refine k_swap ?_
  refine kCmpEq C 2361 dL_law_1508 (by decide) (fun _ => ?_) (fun q => absurd rfl q)
  exact kk ocP ocLo ocHi cpl ctb ctl ctf ctp ctk cts cth cob col cso cha chs cbe ctr cgl cgh cll clh cta cme cps cwh cal cah mthr mfrp mact mtpd msiz matx mfrm mtok mval mfk mfpl mbem mtrs mtrl mrom mtom mnow mfre mkep mtap mlef mtak mbes mrow mint mrnd mplo mhio mtox mtol hr2
set_option maxHeartbeats 4000000 in
theorem law_shatters (C : Cx p l room_1 s m #[Value.ref b] meth c code 4 RL ret D cy G A) (hX : va_X b L xs s s.heap) (hbl : b < s.heap.size) (hbA : ¬ A b) {i : Nat} (hi : i + 6 ≤ L) (hL : L ≤ 3072) (hr : Rel cP cLo cHi ctb ctl ctf ctp cob col cso cha chs mact mtpd mfk mfpl mtom mnow mkep mtap mtol)
    (kk : ∀ (cP : Nat → Int32) (cLo : Nat → Int64) (cHi : Nat → Int64) (cpl : Nat → Int32) (ctb : Nat → Int32) (ctl : Int32) (ctf : Int32) (ctp : Int32) (ctk : Int32) (cts : Int32) (cth : Int32) (cob : Nat → Int32) (col : Int32) (cso : Nat → Int32) (cha : Int32) (chs : Int32) (cbe : Int32) (ctr : Int32) (cgl : Nat → Int64) (cgh : Nat → Int64) (cll : Nat → Int64) (clh : Nat → Int64) (cta : Nat → Int32) (cme : Nat → Int32) (cps : Int32) (cwh : Nat → Int32) (cal : Nat → Int64) (cah : Nat → Int64) (mthr : Int32) (mfrp : Int32) (mact : Int32) (mtpd : Int32) (msiz : Int32) (matx : Int32) (mfrm : Int32) (mtok : Int32) (mval : Int32) (mfk : Int32) (mfpl : Int32) (mbem : Int32) (mtrs : Int32) (mtrl : Int32) (mrom : Int32) (mtom : Int32) (mnow : Nat → Int32) (mfre : Nat → Int32) (mkep : Nat → Int32) (mtap : Nat → Int32) (mlef : Nat → Int32) (mtak : Nat → Int32) (mbes : Nat → Int32) (mrow : Nat → Int32) (mint : Nat → Int32) (mrnd : Nat → Int32) (mplo : Nat → Int32) (mhio : Nat → Int32) (mtox : Nat → Int32) (mtol : Nat → Int32), Rel cP cLo cHi ctb ctl ctf ctp cob col cso cha chs mact mtpd mfk mfpl mtom mnow mkep mtap mtol → JK p l e room_1 s m #[Value.ref b] below meth c D A Q 4 65 26217 ((mw h cy mthr mfrp mact mtpd msiz matx mfrm mtok mval mfk mfpl mbem mtrs mtrl mrom mtom mnow mfre mkep mtap mlef mtak mbes mrow mint mrnd mplo mhio mtox mtol) ++ (cw g cy cP cLo cHi cpl ctb ctl ctf ctp ctk cts cth cob col cso cha chs cbe ctr cgl cgh cll clh cta cme cps cwh cal cah)) 2361 [(3, .int (nI i)), (2, .ref (h 0)), (1, .ref (g 28)), (0, .ref b)] []) : JK p l e room_1 s m #[Value.ref b] below meth c D A Q 4 65 26217 ((mw h cy mthr mfrp mact mtpd msiz matx mfrm mtok mval mfk mfpl mbem mtrs mtrl mrom mtom mnow mfre mkep mtap mlef mtak mbes mrow mint mrnd mplo mhio mtox mtol) ++ (cw g cy cP cLo cHi cpl ctb ctl ctf ctp ctk cts cth cob col cso cha chs cbe ctr cgl cgh cll clh cta cme cps cwh cal cah)) 1513 [(3, .int (nI i)), (2, .ref (h 0)), (1, .ref (g 28)), (0, .ref b)] [] := by
  obtain ⟨r, ocP, ocLo, ocHi, e1, e2, hr2⟩ := sim_shatters (p1 := xs (nI i + (1 : Int32)).toNatClampNeg) (p2 := xs (nI i + (2 : Int32)).toNatClampNeg) hr
  refine kAloadn C dL_law_1513 rfl 2 rfl ?_
  refine kAloadn C dL_law_1514 rfl 3 rfl ?_
  refine kIloadn C dL_law_1515 rfl 0 rfl ?_
  refine kIconst C (1 : Int32) dL_law_1516 ki_1 ?_
  refine kIadd C dL_law_1517 ?_
  refine kSld C hX hbl hbA (sc_in1 hi hL) dL_law_1518 ?_
  refine kAloadn C dL_law_1519 rfl 3 rfl ?_
  refine kIloadn C dL_law_1520 rfl 0 rfl ?_
  refine kIconst C (2 : Int32) dL_law_1521 ki_2 ?_
  refine kIadd C dL_law_1522 ?_
  refine kSld C hX hbl hbA (sc_in2 hi hL) dL_law_1523 ?_
  refine kV C (X8_shatters_ok e1) vb_X8_shatters mk_RL_150 rfl rc28 ⟨Nat.le_of_ble_eq_true rfl, Nat.le_of_ble_eq_true rfl⟩ ⟨Nat.le_of_ble_eq_true rfl, Nat.le_of_ble_eq_true rfl⟩ rfl (Nat.le_of_ble_eq_true rfl) dL_law_1524 ?_
  refine kAloadn C dL_law_1527 rfl 1 rfl ?_
  refine kAloadn C dL_law_1528 rfl 3 rfl ?_
  refine kIloadn C dL_law_1529 rfl 0 rfl ?_
  refine kIconst C (1 : Int32) dL_law_1530 ki_1 ?_
  refine kIadd C dL_law_1531 ?_
  refine kSld C hX hbl hbA (sc_in1 hi hL) dL_law_1532 ?_
  refine kAloadn C dL_law_1533 rfl 3 rfl ?_
  refine kIloadn C dL_law_1534 rfl 0 rfl ?_
  refine kIconst C (2 : Int32) dL_law_1535 ki_2 ?_
  refine kIadd C dL_law_1536 ?_
  refine kSld C hX hbl hbA (sc_in2 hi hL) dL_law_1537 ?_
  refine k_swap ?_
  refine kV C (X9_shatters_ok e2) vb_X9_shatters mk_RL_153 rfl rcM ⟨Nat.le_of_ble_eq_true rfl, Nat.le_of_ble_eq_true rfl⟩ ⟨Nat.le_of_ble_eq_true rfl, Nat.le_of_ble_eq_true rfl⟩ rfl (Nat.le_of_ble_eq_true rfl) dL_law_1538 ?_
  refine k_swap ?_
  refine kCmpEq C 2361 dL_law_1541 (by decide) (fun _ => ?_) (fun q => absurd rfl q)
  exact kk ocP ocLo ocHi cpl ctb ctl ctf ctp ctk cts cth cob col cso cha chs cbe ctr cgl cgh cll clh cta cme cps cwh cal cah mthr mfrp mact mtpd msiz matx mfrm mtok mval mfk mfpl mbem mtrs mtrl mrom mtom mnow mfre mkep mtap mlef mtak mbes mrow mint mrnd mplo mhio mtox mtol hr2
set_option maxHeartbeats 4000000 in
theorem law_flower (C : Cx p l room_1 s m #[Value.ref b] meth c code 4 RL ret D cy G A) (hX : va_X b L xs s s.heap) (hbl : b < s.heap.size) (hbA : ¬ A b) {i : Nat} (hi : i + 6 ≤ L) (hL : L ≤ 3072) (hr : Rel cP cLo cHi ctb ctl ctf ctp cob col cso cha chs mact mtpd mfk mfpl mtom mnow mkep mtap mtol)
    (kk : ∀ (cP : Nat → Int32) (cLo : Nat → Int64) (cHi : Nat → Int64) (cpl : Nat → Int32) (ctb : Nat → Int32) (ctl : Int32) (ctf : Int32) (ctp : Int32) (ctk : Int32) (cts : Int32) (cth : Int32) (cob : Nat → Int32) (col : Int32) (cso : Nat → Int32) (cha : Int32) (chs : Int32) (cbe : Int32) (ctr : Int32) (cgl : Nat → Int64) (cgh : Nat → Int64) (cll : Nat → Int64) (clh : Nat → Int64) (cta : Nat → Int32) (cme : Nat → Int32) (cps : Int32) (cwh : Nat → Int32) (cal : Nat → Int64) (cah : Nat → Int64) (mthr : Int32) (mfrp : Int32) (mact : Int32) (mtpd : Int32) (msiz : Int32) (matx : Int32) (mfrm : Int32) (mtok : Int32) (mval : Int32) (mfk : Int32) (mfpl : Int32) (mbem : Int32) (mtrs : Int32) (mtrl : Int32) (mrom : Int32) (mtom : Int32) (mnow : Nat → Int32) (mfre : Nat → Int32) (mkep : Nat → Int32) (mtap : Nat → Int32) (mlef : Nat → Int32) (mtak : Nat → Int32) (mbes : Nat → Int32) (mrow : Nat → Int32) (mint : Nat → Int32) (mrnd : Nat → Int32) (mplo : Nat → Int32) (mhio : Nat → Int32) (mtox : Nat → Int32) (mtol : Nat → Int32), Rel cP cLo cHi ctb ctl ctf ctp cob col cso cha chs mact mtpd mfk mfpl mtom mnow mkep mtap mtol → JK p l e room_1 s m #[Value.ref b] below meth c D A Q 4 65 26217 ((mw h cy mthr mfrp mact mtpd msiz matx mfrm mtok mval mfk mfpl mbem mtrs mtrl mrom mtom mnow mfre mkep mtap mlef mtak mbes mrow mint mrnd mplo mhio mtox mtol) ++ (cw g cy cP cLo cHi cpl ctb ctl ctf ctp ctk cts cth cob col cso cha chs cbe ctr cgl cgh cll clh cta cme cps cwh cal cah)) 2361 [(3, .int (nI i)), (2, .ref (h 0)), (1, .ref (g 28)), (0, .ref b)] []) : JK p l e room_1 s m #[Value.ref b] below meth c D A Q 4 65 26217 ((mw h cy mthr mfrp mact mtpd msiz matx mfrm mtok mval mfk mfpl mbem mtrs mtrl mrom mtom mnow mfre mkep mtap mlef mtak mbes mrow mint mrnd mplo mhio mtox mtol) ++ (cw g cy cP cLo cHi cpl ctb ctl ctf ctp ctk cts cth cob col cso cha chs cbe ctr cgl cgh cll clh cta cme cps cwh cal cah)) 1546 [(3, .int (nI i)), (2, .ref (h 0)), (1, .ref (g 28)), (0, .ref b)] [] := by
  obtain ⟨r, ocP, ocLo, ocHi, e1, e2, hr2⟩ := sim_flower (p1 := xs (nI i + (1 : Int32)).toNatClampNeg) (p2 := xs (nI i + (2 : Int32)).toNatClampNeg) hr
  refine kAloadn C dL_law_1546 rfl 2 rfl ?_
  refine kAloadn C dL_law_1547 rfl 3 rfl ?_
  refine kIloadn C dL_law_1548 rfl 0 rfl ?_
  refine kIconst C (1 : Int32) dL_law_1549 ki_1 ?_
  refine kIadd C dL_law_1550 ?_
  refine kSld C hX hbl hbA (sc_in1 hi hL) dL_law_1551 ?_
  refine kAloadn C dL_law_1552 rfl 3 rfl ?_
  refine kIloadn C dL_law_1553 rfl 0 rfl ?_
  refine kIconst C (2 : Int32) dL_law_1554 ki_2 ?_
  refine kIadd C dL_law_1555 ?_
  refine kSld C hX hbl hbA (sc_in2 hi hL) dL_law_1556 ?_
  refine kV C (X8_flower_ok e1) vb_X8_flower mk_RL_154 rfl rc28 ⟨Nat.le_of_ble_eq_true rfl, Nat.le_of_ble_eq_true rfl⟩ ⟨Nat.le_of_ble_eq_true rfl, Nat.le_of_ble_eq_true rfl⟩ rfl (Nat.le_of_ble_eq_true rfl) dL_law_1557 ?_
  refine kAloadn C dL_law_1560 rfl 1 rfl ?_
  refine kAloadn C dL_law_1561 rfl 3 rfl ?_
  refine kIloadn C dL_law_1562 rfl 0 rfl ?_
  refine kIconst C (1 : Int32) dL_law_1563 ki_1 ?_
  refine kIadd C dL_law_1564 ?_
  refine kSld C hX hbl hbA (sc_in1 hi hL) dL_law_1565 ?_
  refine kAloadn C dL_law_1566 rfl 3 rfl ?_
  refine kIloadn C dL_law_1567 rfl 0 rfl ?_
  refine kIconst C (2 : Int32) dL_law_1568 ki_2 ?_
  refine kIadd C dL_law_1569 ?_
  refine kSld C hX hbl hbA (sc_in2 hi hL) dL_law_1570 ?_
  refine k_swap ?_
  refine kV C (X9_flower_ok e2) vb_X9_flower mk_RL_157 rfl rcM ⟨Nat.le_of_ble_eq_true rfl, Nat.le_of_ble_eq_true rfl⟩ ⟨Nat.le_of_ble_eq_true rfl, Nat.le_of_ble_eq_true rfl⟩ rfl (Nat.le_of_ble_eq_true rfl) dL_law_1571 ?_
  refine k_swap ?_
  refine kCmpEq C 2361 dL_law_1574 (by decide) (fun _ => ?_) (fun q => absurd rfl q)
  exact kk ocP ocLo ocHi cpl ctb ctl ctf ctp ctk cts cth cob col cso cha chs cbe ctr cgl cgh cll clh cta cme cps cwh cal cah mthr mfrp mact mtpd msiz matx mfrm mtok mval mfk mfpl mbem mtrs mtrl mrom mtom mnow mfre mkep mtap mlef mtak mbes mrow mint mrnd mplo mhio mtox mtol hr2
set_option maxHeartbeats 4000000 in
theorem law_across (C : Cx p l room_1 s m #[Value.ref b] meth c code 4 RL ret D cy G A) (hX : va_X b L xs s s.heap) (hbl : b < s.heap.size) (hbA : ¬ A b) {i : Nat} (hi : i + 6 ≤ L) (hL : L ≤ 3072) (hr : Rel cP cLo cHi ctb ctl ctf ctp cob col cso cha chs mact mtpd mfk mfpl mtom mnow mkep mtap mtol)
    (kk : ∀ (cP : Nat → Int32) (cLo : Nat → Int64) (cHi : Nat → Int64) (cpl : Nat → Int32) (ctb : Nat → Int32) (ctl : Int32) (ctf : Int32) (ctp : Int32) (ctk : Int32) (cts : Int32) (cth : Int32) (cob : Nat → Int32) (col : Int32) (cso : Nat → Int32) (cha : Int32) (chs : Int32) (cbe : Int32) (ctr : Int32) (cgl : Nat → Int64) (cgh : Nat → Int64) (cll : Nat → Int64) (clh : Nat → Int64) (cta : Nat → Int32) (cme : Nat → Int32) (cps : Int32) (cwh : Nat → Int32) (cal : Nat → Int64) (cah : Nat → Int64) (mthr : Int32) (mfrp : Int32) (mact : Int32) (mtpd : Int32) (msiz : Int32) (matx : Int32) (mfrm : Int32) (mtok : Int32) (mval : Int32) (mfk : Int32) (mfpl : Int32) (mbem : Int32) (mtrs : Int32) (mtrl : Int32) (mrom : Int32) (mtom : Int32) (mnow : Nat → Int32) (mfre : Nat → Int32) (mkep : Nat → Int32) (mtap : Nat → Int32) (mlef : Nat → Int32) (mtak : Nat → Int32) (mbes : Nat → Int32) (mrow : Nat → Int32) (mint : Nat → Int32) (mrnd : Nat → Int32) (mplo : Nat → Int32) (mhio : Nat → Int32) (mtox : Nat → Int32) (mtol : Nat → Int32), Rel cP cLo cHi ctb ctl ctf ctp cob col cso cha chs mact mtpd mfk mfpl mtom mnow mkep mtap mtol → JK p l e room_1 s m #[Value.ref b] below meth c D A Q 4 65 26217 ((mw h cy mthr mfrp mact mtpd msiz matx mfrm mtok mval mfk mfpl mbem mtrs mtrl mrom mtom mnow mfre mkep mtap mlef mtak mbes mrow mint mrnd mplo mhio mtox mtol) ++ (cw g cy cP cLo cHi cpl ctb ctl ctf ctp ctk cts cth cob col cso cha chs cbe ctr cgl cgh cll clh cta cme cps cwh cal cah)) 2361 [(3, .int (nI i)), (2, .ref (h 0)), (1, .ref (g 28)), (0, .ref b)] []) : JK p l e room_1 s m #[Value.ref b] below meth c D A Q 4 65 26217 ((mw h cy mthr mfrp mact mtpd msiz matx mfrm mtok mval mfk mfpl mbem mtrs mtrl mrom mtom mnow mfre mkep mtap mlef mtak mbes mrow mint mrnd mplo mhio mtox mtol) ++ (cw g cy cP cLo cHi cpl ctb ctl ctf ctp ctk cts cth cob col cso cha chs cbe ctr cgl cgh cll clh cta cme cps cwh cal cah)) 1579 [(3, .int (nI i)), (2, .ref (h 0)), (1, .ref (g 28)), (0, .ref b)] [] := by
  obtain ⟨r, ocP, ocLo, ocHi, e1, e2, hr2⟩ := sim_across (p1 := xs (nI i + (1 : Int32)).toNatClampNeg) (p2 := xs (nI i + (2 : Int32)).toNatClampNeg) (p3 := xs (nI i + (3 : Int32)).toNatClampNeg) hr
  refine kAloadn C dL_law_1579 rfl 2 rfl ?_
  refine kAloadn C dL_law_1580 rfl 3 rfl ?_
  refine kIloadn C dL_law_1581 rfl 0 rfl ?_
  refine kIconst C (1 : Int32) dL_law_1582 ki_1 ?_
  refine kIadd C dL_law_1583 ?_
  refine kSld C hX hbl hbA (sc_in1 hi hL) dL_law_1584 ?_
  refine kAloadn C dL_law_1585 rfl 3 rfl ?_
  refine kIloadn C dL_law_1586 rfl 0 rfl ?_
  refine kIconst C (2 : Int32) dL_law_1587 ki_2 ?_
  refine kIadd C dL_law_1588 ?_
  refine kSld C hX hbl hbA (sc_in2 hi hL) dL_law_1589 ?_
  refine kAloadn C dL_law_1590 rfl 3 rfl ?_
  refine kIloadn C dL_law_1591 rfl 0 rfl ?_
  refine kIconst C (3 : Int32) dL_law_1592 ki_3 ?_
  refine kIadd C dL_law_1593 ?_
  refine kSld C hX hbl hbA (sc_in3 hi hL) dL_law_1594 ?_
  refine kV C (X8_across_ok e1) vb_X8_across mk_RL_158 rfl rc28 ⟨Nat.le_of_ble_eq_true rfl, Nat.le_of_ble_eq_true rfl⟩ ⟨Nat.le_of_ble_eq_true rfl, Nat.le_of_ble_eq_true rfl⟩ rfl (Nat.le_of_ble_eq_true rfl) dL_law_1595 ?_
  refine kAloadn C dL_law_1598 rfl 1 rfl ?_
  refine kAloadn C dL_law_1599 rfl 3 rfl ?_
  refine kIloadn C dL_law_1600 rfl 0 rfl ?_
  refine kIconst C (1 : Int32) dL_law_1601 ki_1 ?_
  refine kIadd C dL_law_1602 ?_
  refine kSld C hX hbl hbA (sc_in1 hi hL) dL_law_1603 ?_
  refine kAloadn C dL_law_1604 rfl 3 rfl ?_
  refine kIloadn C dL_law_1605 rfl 0 rfl ?_
  refine kIconst C (2 : Int32) dL_law_1606 ki_2 ?_
  refine kIadd C dL_law_1607 ?_
  refine kSld C hX hbl hbA (sc_in2 hi hL) dL_law_1608 ?_
  refine kAloadn C dL_law_1609 rfl 3 rfl ?_
  refine kIloadn C dL_law_1610 rfl 0 rfl ?_
  refine kIconst C (3 : Int32) dL_law_1611 ki_3 ?_
  refine kIadd C dL_law_1612 ?_
  refine kSld C hX hbl hbA (sc_in3 hi hL) dL_law_1613 ?_
  refine k_swap ?_
  refine kV C (X9_across_ok e2) vb_X9_across mk_RL_161 rfl rcM ⟨Nat.le_of_ble_eq_true rfl, Nat.le_of_ble_eq_true rfl⟩ ⟨Nat.le_of_ble_eq_true rfl, Nat.le_of_ble_eq_true rfl⟩ rfl (Nat.le_of_ble_eq_true rfl) dL_law_1614 ?_
  refine k_swap ?_
  refine kCmpEq C 2361 dL_law_1617 (by decide) (fun _ => ?_) (fun q => absurd rfl q)
  exact kk ocP ocLo ocHi cpl ctb ctl ctf ctp ctk cts cth cob col cso cha chs cbe ctr cgl cgh cll clh cta cme cps cwh cal cah mthr mfrp mact mtpd msiz matx mfrm mtok mval mfk mfpl mbem mtrs mtrl mrom mtom mnow mfre mkep mtap mlef mtak mbes mrow mint mrnd mplo mhio mtox mtol hr2
set_option maxHeartbeats 4000000 in
theorem law_answers (C : Cx p l room_1 s m #[Value.ref b] meth c code 4 RL ret D cy G A) (hX : va_X b L xs s s.heap) (hbl : b < s.heap.size) (hbA : ¬ A b) {i : Nat} (hi : i + 6 ≤ L) (hL : L ≤ 3072) (hr : Rel cP cLo cHi ctb ctl ctf ctp cob col cso cha chs mact mtpd mfk mfpl mtom mnow mkep mtap mtol)
    (kk : ∀ (cP : Nat → Int32) (cLo : Nat → Int64) (cHi : Nat → Int64) (cpl : Nat → Int32) (ctb : Nat → Int32) (ctl : Int32) (ctf : Int32) (ctp : Int32) (ctk : Int32) (cts : Int32) (cth : Int32) (cob : Nat → Int32) (col : Int32) (cso : Nat → Int32) (cha : Int32) (chs : Int32) (cbe : Int32) (ctr : Int32) (cgl : Nat → Int64) (cgh : Nat → Int64) (cll : Nat → Int64) (clh : Nat → Int64) (cta : Nat → Int32) (cme : Nat → Int32) (cps : Int32) (cwh : Nat → Int32) (cal : Nat → Int64) (cah : Nat → Int64) (mthr : Int32) (mfrp : Int32) (mact : Int32) (mtpd : Int32) (msiz : Int32) (matx : Int32) (mfrm : Int32) (mtok : Int32) (mval : Int32) (mfk : Int32) (mfpl : Int32) (mbem : Int32) (mtrs : Int32) (mtrl : Int32) (mrom : Int32) (mtom : Int32) (mnow : Nat → Int32) (mfre : Nat → Int32) (mkep : Nat → Int32) (mtap : Nat → Int32) (mlef : Nat → Int32) (mtak : Nat → Int32) (mbes : Nat → Int32) (mrow : Nat → Int32) (mint : Nat → Int32) (mrnd : Nat → Int32) (mplo : Nat → Int32) (mhio : Nat → Int32) (mtox : Nat → Int32) (mtol : Nat → Int32), Rel cP cLo cHi ctb ctl ctf ctp cob col cso cha chs mact mtpd mfk mfpl mtom mnow mkep mtap mtol → JK p l e room_1 s m #[Value.ref b] below meth c D A Q 4 65 26217 ((mw h cy mthr mfrp mact mtpd msiz matx mfrm mtok mval mfk mfpl mbem mtrs mtrl mrom mtom mnow mfre mkep mtap mlef mtak mbes mrow mint mrnd mplo mhio mtox mtol) ++ (cw g cy cP cLo cHi cpl ctb ctl ctf ctp ctk cts cth cob col cso cha chs cbe ctr cgl cgh cll clh cta cme cps cwh cal cah)) 2361 [(3, .int (nI i)), (2, .ref (h 0)), (1, .ref (g 28)), (0, .ref b)] []) : JK p l e room_1 s m #[Value.ref b] below meth c D A Q 4 65 26217 ((mw h cy mthr mfrp mact mtpd msiz matx mfrm mtok mval mfk mfpl mbem mtrs mtrl mrom mtom mnow mfre mkep mtap mlef mtak mbes mrow mint mrnd mplo mhio mtox mtol) ++ (cw g cy cP cLo cHi cpl ctb ctl ctf ctp ctk cts cth cob col cso cha chs cbe ctr cgl cgh cll clh cta cme cps cwh cal cah)) 1622 [(3, .int (nI i)), (2, .ref (h 0)), (1, .ref (g 28)), (0, .ref b)] [] := by
  obtain ⟨r, ocP, ocLo, ocHi, e1, e2, hr2⟩ := sim_answers (p1 := xs (nI i + (1 : Int32)).toNatClampNeg) (p2 := xs (nI i + (2 : Int32)).toNatClampNeg) hr
  refine kAloadn C dL_law_1622 rfl 2 rfl ?_
  refine kAloadn C dL_law_1623 rfl 3 rfl ?_
  refine kIloadn C dL_law_1624 rfl 0 rfl ?_
  refine kIconst C (1 : Int32) dL_law_1625 ki_1 ?_
  refine kIadd C dL_law_1626 ?_
  refine kSld C hX hbl hbA (sc_in1 hi hL) dL_law_1627 ?_
  refine kAloadn C dL_law_1628 rfl 3 rfl ?_
  refine kIloadn C dL_law_1629 rfl 0 rfl ?_
  refine kIconst C (2 : Int32) dL_law_1630 ki_2 ?_
  refine kIadd C dL_law_1631 ?_
  refine kSld C hX hbl hbA (sc_in2 hi hL) dL_law_1632 ?_
  refine kV C (X8_answers_ok e1) vb_X8_answers mk_RL_162 rfl rc28 ⟨Nat.le_of_ble_eq_true rfl, Nat.le_of_ble_eq_true rfl⟩ ⟨Nat.le_of_ble_eq_true rfl, Nat.le_of_ble_eq_true rfl⟩ rfl (Nat.le_of_ble_eq_true rfl) dL_law_1633 ?_
  refine kAloadn C dL_law_1636 rfl 1 rfl ?_
  refine kAloadn C dL_law_1637 rfl 3 rfl ?_
  refine kIloadn C dL_law_1638 rfl 0 rfl ?_
  refine kIconst C (1 : Int32) dL_law_1639 ki_1 ?_
  refine kIadd C dL_law_1640 ?_
  refine kSld C hX hbl hbA (sc_in1 hi hL) dL_law_1641 ?_
  refine kAloadn C dL_law_1642 rfl 3 rfl ?_
  refine kIloadn C dL_law_1643 rfl 0 rfl ?_
  refine kIconst C (2 : Int32) dL_law_1644 ki_2 ?_
  refine kIadd C dL_law_1645 ?_
  refine kSld C hX hbl hbA (sc_in2 hi hL) dL_law_1646 ?_
  refine k_swap ?_
  refine kV C (X9_answers_ok e2) vb_X9_answers mk_RL_165 rfl rcM ⟨Nat.le_of_ble_eq_true rfl, Nat.le_of_ble_eq_true rfl⟩ ⟨Nat.le_of_ble_eq_true rfl, Nat.le_of_ble_eq_true rfl⟩ rfl (Nat.le_of_ble_eq_true rfl) dL_law_1647 ?_
  refine k_swap ?_
  refine kCmpEq C 2361 dL_law_1650 (by decide) (fun _ => ?_) (fun q => absurd rfl q)
  exact kk ocP ocLo ocHi cpl ctb ctl ctf ctp ctk cts cth cob col cso cha chs cbe ctr cgl cgh cll clh cta cme cps cwh cal cah mthr mfrp mact mtpd msiz matx mfrm mtok mval mfk mfpl mbem mtrs mtrl mrom mtom mnow mfre mkep mtap mlef mtak mbes mrow mint mrnd mplo mhio mtox mtol hr2
set_option maxHeartbeats 4000000 in
theorem law_alike (C : Cx p l room_1 s m #[Value.ref b] meth c code 4 RL ret D cy G A) (hX : va_X b L xs s s.heap) (hbl : b < s.heap.size) (hbA : ¬ A b) {i : Nat} (hi : i + 6 ≤ L) (hL : L ≤ 3072) (hr : Rel cP cLo cHi ctb ctl ctf ctp cob col cso cha chs mact mtpd mfk mfpl mtom mnow mkep mtap mtol)
    (kk : ∀ (cP : Nat → Int32) (cLo : Nat → Int64) (cHi : Nat → Int64) (cpl : Nat → Int32) (ctb : Nat → Int32) (ctl : Int32) (ctf : Int32) (ctp : Int32) (ctk : Int32) (cts : Int32) (cth : Int32) (cob : Nat → Int32) (col : Int32) (cso : Nat → Int32) (cha : Int32) (chs : Int32) (cbe : Int32) (ctr : Int32) (cgl : Nat → Int64) (cgh : Nat → Int64) (cll : Nat → Int64) (clh : Nat → Int64) (cta : Nat → Int32) (cme : Nat → Int32) (cps : Int32) (cwh : Nat → Int32) (cal : Nat → Int64) (cah : Nat → Int64) (mthr : Int32) (mfrp : Int32) (mact : Int32) (mtpd : Int32) (msiz : Int32) (matx : Int32) (mfrm : Int32) (mtok : Int32) (mval : Int32) (mfk : Int32) (mfpl : Int32) (mbem : Int32) (mtrs : Int32) (mtrl : Int32) (mrom : Int32) (mtom : Int32) (mnow : Nat → Int32) (mfre : Nat → Int32) (mkep : Nat → Int32) (mtap : Nat → Int32) (mlef : Nat → Int32) (mtak : Nat → Int32) (mbes : Nat → Int32) (mrow : Nat → Int32) (mint : Nat → Int32) (mrnd : Nat → Int32) (mplo : Nat → Int32) (mhio : Nat → Int32) (mtox : Nat → Int32) (mtol : Nat → Int32), Rel cP cLo cHi ctb ctl ctf ctp cob col cso cha chs mact mtpd mfk mfpl mtom mnow mkep mtap mtol → JK p l e room_1 s m #[Value.ref b] below meth c D A Q 4 65 26217 ((mw h cy mthr mfrp mact mtpd msiz matx mfrm mtok mval mfk mfpl mbem mtrs mtrl mrom mtom mnow mfre mkep mtap mlef mtak mbes mrow mint mrnd mplo mhio mtox mtol) ++ (cw g cy cP cLo cHi cpl ctb ctl ctf ctp ctk cts cth cob col cso cha chs cbe ctr cgl cgh cll clh cta cme cps cwh cal cah)) 2361 [(3, .int (nI i)), (2, .ref (h 0)), (1, .ref (g 28)), (0, .ref b)] []) : JK p l e room_1 s m #[Value.ref b] below meth c D A Q 4 65 26217 ((mw h cy mthr mfrp mact mtpd msiz matx mfrm mtok mval mfk mfpl mbem mtrs mtrl mrom mtom mnow mfre mkep mtap mlef mtak mbes mrow mint mrnd mplo mhio mtox mtol) ++ (cw g cy cP cLo cHi cpl ctb ctl ctf ctp ctk cts cth cob col cso cha chs cbe ctr cgl cgh cll clh cta cme cps cwh cal cah)) 1655 [(3, .int (nI i)), (2, .ref (h 0)), (1, .ref (g 28)), (0, .ref b)] [] := by
  obtain ⟨r, ocP, ocLo, ocHi, ocpl, omtox, e1, e2, hr2⟩ := sim_alike (p1 := xs (nI i + (1 : Int32)).toNatClampNeg) (p2 := xs (nI i + (2 : Int32)).toNatClampNeg) hr
  refine kAloadn C dL_law_1655 rfl 2 rfl ?_
  refine kAloadn C dL_law_1656 rfl 3 rfl ?_
  refine kIloadn C dL_law_1657 rfl 0 rfl ?_
  refine kIconst C (1 : Int32) dL_law_1658 ki_1 ?_
  refine kIadd C dL_law_1659 ?_
  refine kSld C hX hbl hbA (sc_in1 hi hL) dL_law_1660 ?_
  refine kAloadn C dL_law_1661 rfl 3 rfl ?_
  refine kIloadn C dL_law_1662 rfl 0 rfl ?_
  refine kIconst C (2 : Int32) dL_law_1663 ki_2 ?_
  refine kIadd C dL_law_1664 ?_
  refine kSld C hX hbl hbA (sc_in2 hi hL) dL_law_1665 ?_
  refine kV C (X8_alike_ok e1) vb_X8_alike mk_RL_166 rfl rc28 ⟨Nat.le_of_ble_eq_true rfl, Nat.le_of_ble_eq_true rfl⟩ ⟨Nat.le_of_ble_eq_true rfl, Nat.le_of_ble_eq_true rfl⟩ rfl (Nat.le_of_ble_eq_true rfl) dL_law_1666 ?_
  refine kAloadn C dL_law_1669 rfl 1 rfl ?_
  refine kAloadn C dL_law_1670 rfl 3 rfl ?_
  refine kIloadn C dL_law_1671 rfl 0 rfl ?_
  refine kIconst C (1 : Int32) dL_law_1672 ki_1 ?_
  refine kIadd C dL_law_1673 ?_
  refine kSld C hX hbl hbA (sc_in1 hi hL) dL_law_1674 ?_
  refine kAloadn C dL_law_1675 rfl 3 rfl ?_
  refine kIloadn C dL_law_1676 rfl 0 rfl ?_
  refine kIconst C (2 : Int32) dL_law_1677 ki_2 ?_
  refine kIadd C dL_law_1678 ?_
  refine kSld C hX hbl hbA (sc_in2 hi hL) dL_law_1679 ?_
  refine k_swap ?_
  refine kV C (X9_alike_ok e2) vb_X9_alike mk_RL_169 rfl rcM ⟨Nat.le_of_ble_eq_true rfl, Nat.le_of_ble_eq_true rfl⟩ ⟨Nat.le_of_ble_eq_true rfl, Nat.le_of_ble_eq_true rfl⟩ rfl (Nat.le_of_ble_eq_true rfl) dL_law_1680 ?_
  refine k_swap ?_
  refine kCmpEq C 2361 dL_law_1683 (by decide) (fun _ => ?_) (fun q => absurd rfl q)
  exact kk ocP ocLo ocHi ocpl ctb ctl ctf ctp ctk cts cth cob col cso cha chs cbe ctr cgl cgh cll clh cta cme cps cwh cal cah mthr mfrp mact mtpd msiz matx mfrm mtok mval mfk mfpl mbem mtrs mtrl mrom mtom mnow mfre mkep mtap mlef mtak mbes mrow mint mrnd mplo mhio omtox mtol hr2
set_option maxHeartbeats 4000000 in
theorem law_selves (C : Cx p l room_1 s m #[Value.ref b] meth c code 4 RL ret D cy G A) (hX : va_X b L xs s s.heap) (hbl : b < s.heap.size) (hbA : ¬ A b) {i : Nat} (hi : i + 6 ≤ L) (hL : L ≤ 3072) (hr : Rel cP cLo cHi ctb ctl ctf ctp cob col cso cha chs mact mtpd mfk mfpl mtom mnow mkep mtap mtol)
    (kk : ∀ (cP : Nat → Int32) (cLo : Nat → Int64) (cHi : Nat → Int64) (cpl : Nat → Int32) (ctb : Nat → Int32) (ctl : Int32) (ctf : Int32) (ctp : Int32) (ctk : Int32) (cts : Int32) (cth : Int32) (cob : Nat → Int32) (col : Int32) (cso : Nat → Int32) (cha : Int32) (chs : Int32) (cbe : Int32) (ctr : Int32) (cgl : Nat → Int64) (cgh : Nat → Int64) (cll : Nat → Int64) (clh : Nat → Int64) (cta : Nat → Int32) (cme : Nat → Int32) (cps : Int32) (cwh : Nat → Int32) (cal : Nat → Int64) (cah : Nat → Int64) (mthr : Int32) (mfrp : Int32) (mact : Int32) (mtpd : Int32) (msiz : Int32) (matx : Int32) (mfrm : Int32) (mtok : Int32) (mval : Int32) (mfk : Int32) (mfpl : Int32) (mbem : Int32) (mtrs : Int32) (mtrl : Int32) (mrom : Int32) (mtom : Int32) (mnow : Nat → Int32) (mfre : Nat → Int32) (mkep : Nat → Int32) (mtap : Nat → Int32) (mlef : Nat → Int32) (mtak : Nat → Int32) (mbes : Nat → Int32) (mrow : Nat → Int32) (mint : Nat → Int32) (mrnd : Nat → Int32) (mplo : Nat → Int32) (mhio : Nat → Int32) (mtox : Nat → Int32) (mtol : Nat → Int32), Rel cP cLo cHi ctb ctl ctf ctp cob col cso cha chs mact mtpd mfk mfpl mtom mnow mkep mtap mtol → JK p l e room_1 s m #[Value.ref b] below meth c D A Q 4 65 26217 ((mw h cy mthr mfrp mact mtpd msiz matx mfrm mtok mval mfk mfpl mbem mtrs mtrl mrom mtom mnow mfre mkep mtap mlef mtak mbes mrow mint mrnd mplo mhio mtox mtol) ++ (cw g cy cP cLo cHi cpl ctb ctl ctf ctp ctk cts cth cob col cso cha chs cbe ctr cgl cgh cll clh cta cme cps cwh cal cah)) 2361 [(3, .int (nI i)), (2, .ref (h 0)), (1, .ref (g 28)), (0, .ref b)] []) : JK p l e room_1 s m #[Value.ref b] below meth c D A Q 4 65 26217 ((mw h cy mthr mfrp mact mtpd msiz matx mfrm mtok mval mfk mfpl mbem mtrs mtrl mrom mtom mnow mfre mkep mtap mlef mtak mbes mrow mint mrnd mplo mhio mtox mtol) ++ (cw g cy cP cLo cHi cpl ctb ctl ctf ctp ctk cts cth cob col cso cha chs cbe ctr cgl cgh cll clh cta cme cps cwh cal cah)) 1688 [(3, .int (nI i)), (2, .ref (h 0)), (1, .ref (g 28)), (0, .ref b)] [] := by
  obtain ⟨r, ocP, ocLo, ocHi, ocpl, omtox, e1, e2, hr2⟩ := sim_selves (p1 := xs (nI i + (1 : Int32)).toNatClampNeg) hr
  refine kAloadn C dL_law_1688 rfl 2 rfl ?_
  refine kAloadn C dL_law_1689 rfl 3 rfl ?_
  refine kIloadn C dL_law_1690 rfl 0 rfl ?_
  refine kIconst C (1 : Int32) dL_law_1691 ki_1 ?_
  refine kIadd C dL_law_1692 ?_
  refine kSld C hX hbl hbA (sc_in1 hi hL) dL_law_1693 ?_
  refine kV C (X8_selves_ok e1) vb_X8_selves mk_RL_170 rfl rc28 ⟨Nat.le_of_ble_eq_true rfl, Nat.le_of_ble_eq_true rfl⟩ ⟨Nat.le_of_ble_eq_true rfl, Nat.le_of_ble_eq_true rfl⟩ rfl (Nat.le_of_ble_eq_true rfl) dL_law_1694 ?_
  refine kAloadn C dL_law_1697 rfl 1 rfl ?_
  refine kAloadn C dL_law_1698 rfl 3 rfl ?_
  refine kIloadn C dL_law_1699 rfl 0 rfl ?_
  refine kIconst C (1 : Int32) dL_law_1700 ki_1 ?_
  refine kIadd C dL_law_1701 ?_
  refine kSld C hX hbl hbA (sc_in1 hi hL) dL_law_1702 ?_
  refine k_swap ?_
  refine kV C (X9_selves_ok e2) vb_X9_selves mk_RL_173 rfl rcM ⟨Nat.le_of_ble_eq_true rfl, Nat.le_of_ble_eq_true rfl⟩ ⟨Nat.le_of_ble_eq_true rfl, Nat.le_of_ble_eq_true rfl⟩ rfl (Nat.le_of_ble_eq_true rfl) dL_law_1703 ?_
  refine k_swap ?_
  refine kCmpEq C 2361 dL_law_1706 (by decide) (fun _ => ?_) (fun q => absurd rfl q)
  exact kk ocP ocLo ocHi ocpl ctb ctl ctf ctp ctk cts cth cob col cso cha chs cbe ctr cgl cgh cll clh cta cme cps cwh cal cah mthr mfrp mact mtpd msiz matx mfrm mtok mval mfk mfpl mbem mtrs mtrl mrom mtom mnow mfre mkep mtap mlef mtak mbes mrow mint mrnd mplo mhio omtox mtol hr2
set_option maxHeartbeats 4000000 in
theorem law_adds (C : Cx p l room_1 s m #[Value.ref b] meth c code 4 RL ret D cy G A) (hX : va_X b L xs s s.heap) (hbl : b < s.heap.size) (hbA : ¬ A b) {i : Nat} (hi : i + 6 ≤ L) (hL : L ≤ 3072) (hr : Rel cP cLo cHi ctb ctl ctf ctp cob col cso cha chs mact mtpd mfk mfpl mtom mnow mkep mtap mtol)
    (kk : ∀ (cP : Nat → Int32) (cLo : Nat → Int64) (cHi : Nat → Int64) (cpl : Nat → Int32) (ctb : Nat → Int32) (ctl : Int32) (ctf : Int32) (ctp : Int32) (ctk : Int32) (cts : Int32) (cth : Int32) (cob : Nat → Int32) (col : Int32) (cso : Nat → Int32) (cha : Int32) (chs : Int32) (cbe : Int32) (ctr : Int32) (cgl : Nat → Int64) (cgh : Nat → Int64) (cll : Nat → Int64) (clh : Nat → Int64) (cta : Nat → Int32) (cme : Nat → Int32) (cps : Int32) (cwh : Nat → Int32) (cal : Nat → Int64) (cah : Nat → Int64) (mthr : Int32) (mfrp : Int32) (mact : Int32) (mtpd : Int32) (msiz : Int32) (matx : Int32) (mfrm : Int32) (mtok : Int32) (mval : Int32) (mfk : Int32) (mfpl : Int32) (mbem : Int32) (mtrs : Int32) (mtrl : Int32) (mrom : Int32) (mtom : Int32) (mnow : Nat → Int32) (mfre : Nat → Int32) (mkep : Nat → Int32) (mtap : Nat → Int32) (mlef : Nat → Int32) (mtak : Nat → Int32) (mbes : Nat → Int32) (mrow : Nat → Int32) (mint : Nat → Int32) (mrnd : Nat → Int32) (mplo : Nat → Int32) (mhio : Nat → Int32) (mtox : Nat → Int32) (mtol : Nat → Int32), Rel cP cLo cHi ctb ctl ctf ctp cob col cso cha chs mact mtpd mfk mfpl mtom mnow mkep mtap mtol → JK p l e room_1 s m #[Value.ref b] below meth c D A Q 4 65 26217 ((mw h cy mthr mfrp mact mtpd msiz matx mfrm mtok mval mfk mfpl mbem mtrs mtrl mrom mtom mnow mfre mkep mtap mlef mtak mbes mrow mint mrnd mplo mhio mtox mtol) ++ (cw g cy cP cLo cHi cpl ctb ctl ctf ctp ctk cts cth cob col cso cha chs cbe ctr cgl cgh cll clh cta cme cps cwh cal cah)) 2361 [(3, .int (nI i)), (2, .ref (h 0)), (1, .ref (g 28)), (0, .ref b)] []) : JK p l e room_1 s m #[Value.ref b] below meth c D A Q 4 65 26217 ((mw h cy mthr mfrp mact mtpd msiz matx mfrm mtok mval mfk mfpl mbem mtrs mtrl mrom mtom mnow mfre mkep mtap mlef mtak mbes mrow mint mrnd mplo mhio mtox mtol) ++ (cw g cy cP cLo cHi cpl ctb ctl ctf ctp ctk cts cth cob col cso cha chs cbe ctr cgl cgh cll clh cta cme cps cwh cal cah)) 1711 [(3, .int (nI i)), (2, .ref (h 0)), (1, .ref (g 28)), (0, .ref b)] [] := by
  obtain ⟨r, ocP, ocLo, ocHi, ocso, ocha, ochs, omfrp, omact, omnow, omfre, omkep, e1, e2, hr2⟩ := sim_adds (p1 := xs (nI i + (1 : Int32)).toNatClampNeg) (p2 := xs (nI i + (2 : Int32)).toNatClampNeg) hr
  refine kAloadn C dL_law_1711 rfl 2 rfl ?_
  refine kAloadn C dL_law_1712 rfl 3 rfl ?_
  refine kIloadn C dL_law_1713 rfl 0 rfl ?_
  refine kIconst C (1 : Int32) dL_law_1714 ki_1 ?_
  refine kIadd C dL_law_1715 ?_
  refine kSld C hX hbl hbA (sc_in1 hi hL) dL_law_1716 ?_
  refine kAloadn C dL_law_1717 rfl 3 rfl ?_
  refine kIloadn C dL_law_1718 rfl 0 rfl ?_
  refine kIconst C (2 : Int32) dL_law_1719 ki_2 ?_
  refine kIadd C dL_law_1720 ?_
  refine kSld C hX hbl hbA (sc_in2 hi hL) dL_law_1721 ?_
  refine kV C (X8_adds_ok e1) vb_X8_adds mk_RL_174 rfl rc28 ⟨Nat.le_of_ble_eq_true rfl, Nat.le_of_ble_eq_true rfl⟩ ⟨Nat.le_of_ble_eq_true rfl, Nat.le_of_ble_eq_true rfl⟩ rfl (Nat.le_of_ble_eq_true rfl) dL_law_1722 ?_
  refine kAloadn C dL_law_1725 rfl 1 rfl ?_
  refine kAloadn C dL_law_1726 rfl 3 rfl ?_
  refine kIloadn C dL_law_1727 rfl 0 rfl ?_
  refine kIconst C (1 : Int32) dL_law_1728 ki_1 ?_
  refine kIadd C dL_law_1729 ?_
  refine kSld C hX hbl hbA (sc_in1 hi hL) dL_law_1730 ?_
  refine kAloadn C dL_law_1731 rfl 3 rfl ?_
  refine kIloadn C dL_law_1732 rfl 0 rfl ?_
  refine kIconst C (2 : Int32) dL_law_1733 ki_2 ?_
  refine kIadd C dL_law_1734 ?_
  refine kSld C hX hbl hbA (sc_in2 hi hL) dL_law_1735 ?_
  refine k_swap ?_
  refine kV C (X9_adds_ok e2) vb_X9_adds mk_RL_177 rfl rcM ⟨Nat.le_of_ble_eq_true rfl, Nat.le_of_ble_eq_true rfl⟩ ⟨Nat.le_of_ble_eq_true rfl, Nat.le_of_ble_eq_true rfl⟩ rfl (Nat.le_of_ble_eq_true rfl) dL_law_1736 ?_
  refine k_swap ?_
  refine kCmpEq C 2361 dL_law_1739 (by decide) (fun _ => ?_) (fun q => absurd rfl q)
  exact kk ocP ocLo ocHi cpl ctb ctl ctf ctp ctk cts cth cob col ocso ocha ochs cbe ctr cgl cgh cll clh cta cme cps cwh cal cah mthr omfrp omact mtpd msiz matx mfrm mtok mval mfk mfpl mbem mtrs mtrl mrom mtom omnow omfre omkep mtap mlef mtak mbes mrow mint mrnd mplo mhio mtox mtol hr2
set_option maxHeartbeats 4000000 in
theorem law_without (C : Cx p l room_1 s m #[Value.ref b] meth c code 4 RL ret D cy G A) (hX : va_X b L xs s s.heap) (hbl : b < s.heap.size) (hbA : ¬ A b) {i : Nat} (hi : i + 6 ≤ L) (hL : L ≤ 3072) (hr : Rel cP cLo cHi ctb ctl ctf ctp cob col cso cha chs mact mtpd mfk mfpl mtom mnow mkep mtap mtol)
    (kk : ∀ (cP : Nat → Int32) (cLo : Nat → Int64) (cHi : Nat → Int64) (cpl : Nat → Int32) (ctb : Nat → Int32) (ctl : Int32) (ctf : Int32) (ctp : Int32) (ctk : Int32) (cts : Int32) (cth : Int32) (cob : Nat → Int32) (col : Int32) (cso : Nat → Int32) (cha : Int32) (chs : Int32) (cbe : Int32) (ctr : Int32) (cgl : Nat → Int64) (cgh : Nat → Int64) (cll : Nat → Int64) (clh : Nat → Int64) (cta : Nat → Int32) (cme : Nat → Int32) (cps : Int32) (cwh : Nat → Int32) (cal : Nat → Int64) (cah : Nat → Int64) (mthr : Int32) (mfrp : Int32) (mact : Int32) (mtpd : Int32) (msiz : Int32) (matx : Int32) (mfrm : Int32) (mtok : Int32) (mval : Int32) (mfk : Int32) (mfpl : Int32) (mbem : Int32) (mtrs : Int32) (mtrl : Int32) (mrom : Int32) (mtom : Int32) (mnow : Nat → Int32) (mfre : Nat → Int32) (mkep : Nat → Int32) (mtap : Nat → Int32) (mlef : Nat → Int32) (mtak : Nat → Int32) (mbes : Nat → Int32) (mrow : Nat → Int32) (mint : Nat → Int32) (mrnd : Nat → Int32) (mplo : Nat → Int32) (mhio : Nat → Int32) (mtox : Nat → Int32) (mtol : Nat → Int32), Rel cP cLo cHi ctb ctl ctf ctp cob col cso cha chs mact mtpd mfk mfpl mtom mnow mkep mtap mtol → JK p l e room_1 s m #[Value.ref b] below meth c D A Q 4 65 26217 ((mw h cy mthr mfrp mact mtpd msiz matx mfrm mtok mval mfk mfpl mbem mtrs mtrl mrom mtom mnow mfre mkep mtap mlef mtak mbes mrow mint mrnd mplo mhio mtox mtol) ++ (cw g cy cP cLo cHi cpl ctb ctl ctf ctp ctk cts cth cob col cso cha chs cbe ctr cgl cgh cll clh cta cme cps cwh cal cah)) 2361 [(3, .int (nI i)), (2, .ref (h 0)), (1, .ref (g 28)), (0, .ref b)] []) : JK p l e room_1 s m #[Value.ref b] below meth c D A Q 4 65 26217 ((mw h cy mthr mfrp mact mtpd msiz matx mfrm mtok mval mfk mfpl mbem mtrs mtrl mrom mtom mnow mfre mkep mtap mlef mtak mbes mrow mint mrnd mplo mhio mtox mtol) ++ (cw g cy cP cLo cHi cpl ctb ctl ctf ctp ctk cts cth cob col cso cha chs cbe ctr cgl cgh cll clh cta cme cps cwh cal cah)) 1744 [(3, .int (nI i)), (2, .ref (h 0)), (1, .ref (g 28)), (0, .ref b)] [] := by
  obtain ⟨r, ocP, ocLo, ocHi, e1, e2, hr2⟩ := sim_without (p1 := xs (nI i + (1 : Int32)).toNatClampNeg) (p2 := xs (nI i + (2 : Int32)).toNatClampNeg) (p3 := xs (nI i + (3 : Int32)).toNatClampNeg) hr
  refine kAloadn C dL_law_1744 rfl 2 rfl ?_
  refine kAloadn C dL_law_1745 rfl 3 rfl ?_
  refine kIloadn C dL_law_1746 rfl 0 rfl ?_
  refine kIconst C (1 : Int32) dL_law_1747 ki_1 ?_
  refine kIadd C dL_law_1748 ?_
  refine kSld C hX hbl hbA (sc_in1 hi hL) dL_law_1749 ?_
  refine kAloadn C dL_law_1750 rfl 3 rfl ?_
  refine kIloadn C dL_law_1751 rfl 0 rfl ?_
  refine kIconst C (2 : Int32) dL_law_1752 ki_2 ?_
  refine kIadd C dL_law_1753 ?_
  refine kSld C hX hbl hbA (sc_in2 hi hL) dL_law_1754 ?_
  refine kAloadn C dL_law_1755 rfl 3 rfl ?_
  refine kIloadn C dL_law_1756 rfl 0 rfl ?_
  refine kIconst C (3 : Int32) dL_law_1757 ki_3 ?_
  refine kIadd C dL_law_1758 ?_
  refine kSld C hX hbl hbA (sc_in3 hi hL) dL_law_1759 ?_
  refine kV C (X8_without_ok e1) vb_X8_without mk_RL_178 rfl rc28 ⟨Nat.le_of_ble_eq_true rfl, Nat.le_of_ble_eq_true rfl⟩ ⟨Nat.le_of_ble_eq_true rfl, Nat.le_of_ble_eq_true rfl⟩ rfl (Nat.le_of_ble_eq_true rfl) dL_law_1760 ?_
  refine kAloadn C dL_law_1763 rfl 1 rfl ?_
  refine kAloadn C dL_law_1764 rfl 3 rfl ?_
  refine kIloadn C dL_law_1765 rfl 0 rfl ?_
  refine kIconst C (1 : Int32) dL_law_1766 ki_1 ?_
  refine kIadd C dL_law_1767 ?_
  refine kSld C hX hbl hbA (sc_in1 hi hL) dL_law_1768 ?_
  refine kAloadn C dL_law_1769 rfl 3 rfl ?_
  refine kIloadn C dL_law_1770 rfl 0 rfl ?_
  refine kIconst C (2 : Int32) dL_law_1771 ki_2 ?_
  refine kIadd C dL_law_1772 ?_
  refine kSld C hX hbl hbA (sc_in2 hi hL) dL_law_1773 ?_
  refine kAloadn C dL_law_1774 rfl 3 rfl ?_
  refine kIloadn C dL_law_1775 rfl 0 rfl ?_
  refine kIconst C (3 : Int32) dL_law_1776 ki_3 ?_
  refine kIadd C dL_law_1777 ?_
  refine kSld C hX hbl hbA (sc_in3 hi hL) dL_law_1778 ?_
  refine k_swap ?_
  refine kV C (X9_without_ok e2) vb_X9_without mk_RL_181 rfl rcM ⟨Nat.le_of_ble_eq_true rfl, Nat.le_of_ble_eq_true rfl⟩ ⟨Nat.le_of_ble_eq_true rfl, Nat.le_of_ble_eq_true rfl⟩ rfl (Nat.le_of_ble_eq_true rfl) dL_law_1779 ?_
  refine k_swap ?_
  refine kCmpEq C 2361 dL_law_1782 (by decide) (fun _ => ?_) (fun q => absurd rfl q)
  exact kk ocP ocLo ocHi cpl ctb ctl ctf ctp ctk cts cth cob col cso cha chs cbe ctr cgl cgh cll clh cta cme cps cwh cal cah mthr mfrp mact mtpd msiz matx mfrm mtok mval mfk mfpl mbem mtrs mtrl mrom mtom mnow mfre mkep mtap mlef mtak mbes mrow mint mrnd mplo mhio mtox mtol hr2
set_option maxHeartbeats 4000000 in
theorem law_cuts (C : Cx p l room_1 s m #[Value.ref b] meth c code 4 RL ret D cy G A) (hX : va_X b L xs s s.heap) (hbl : b < s.heap.size) (hbA : ¬ A b) {i : Nat} (hi : i + 6 ≤ L) (hL : L ≤ 3072) (hr : Rel cP cLo cHi ctb ctl ctf ctp cob col cso cha chs mact mtpd mfk mfpl mtom mnow mkep mtap mtol)
    (kk : ∀ (cP : Nat → Int32) (cLo : Nat → Int64) (cHi : Nat → Int64) (cpl : Nat → Int32) (ctb : Nat → Int32) (ctl : Int32) (ctf : Int32) (ctp : Int32) (ctk : Int32) (cts : Int32) (cth : Int32) (cob : Nat → Int32) (col : Int32) (cso : Nat → Int32) (cha : Int32) (chs : Int32) (cbe : Int32) (ctr : Int32) (cgl : Nat → Int64) (cgh : Nat → Int64) (cll : Nat → Int64) (clh : Nat → Int64) (cta : Nat → Int32) (cme : Nat → Int32) (cps : Int32) (cwh : Nat → Int32) (cal : Nat → Int64) (cah : Nat → Int64) (mthr : Int32) (mfrp : Int32) (mact : Int32) (mtpd : Int32) (msiz : Int32) (matx : Int32) (mfrm : Int32) (mtok : Int32) (mval : Int32) (mfk : Int32) (mfpl : Int32) (mbem : Int32) (mtrs : Int32) (mtrl : Int32) (mrom : Int32) (mtom : Int32) (mnow : Nat → Int32) (mfre : Nat → Int32) (mkep : Nat → Int32) (mtap : Nat → Int32) (mlef : Nat → Int32) (mtak : Nat → Int32) (mbes : Nat → Int32) (mrow : Nat → Int32) (mint : Nat → Int32) (mrnd : Nat → Int32) (mplo : Nat → Int32) (mhio : Nat → Int32) (mtox : Nat → Int32) (mtol : Nat → Int32), Rel cP cLo cHi ctb ctl ctf ctp cob col cso cha chs mact mtpd mfk mfpl mtom mnow mkep mtap mtol → JK p l e room_1 s m #[Value.ref b] below meth c D A Q 4 65 26217 ((mw h cy mthr mfrp mact mtpd msiz matx mfrm mtok mval mfk mfpl mbem mtrs mtrl mrom mtom mnow mfre mkep mtap mlef mtak mbes mrow mint mrnd mplo mhio mtox mtol) ++ (cw g cy cP cLo cHi cpl ctb ctl ctf ctp ctk cts cth cob col cso cha chs cbe ctr cgl cgh cll clh cta cme cps cwh cal cah)) 2361 [(3, .int (nI i)), (2, .ref (h 0)), (1, .ref (g 28)), (0, .ref b)] []) : JK p l e room_1 s m #[Value.ref b] below meth c D A Q 4 65 26217 ((mw h cy mthr mfrp mact mtpd msiz matx mfrm mtok mval mfk mfpl mbem mtrs mtrl mrom mtom mnow mfre mkep mtap mlef mtak mbes mrow mint mrnd mplo mhio mtox mtol) ++ (cw g cy cP cLo cHi cpl ctb ctl ctf ctp ctk cts cth cob col cso cha chs cbe ctr cgl cgh cll clh cta cme cps cwh cal cah)) 1787 [(3, .int (nI i)), (2, .ref (h 0)), (1, .ref (g 28)), (0, .ref b)] [] := by
  obtain ⟨r, ocP, ocLo, ocHi, ocso, ocha, ochs, omfrp, omact, omnow, omfre, omkep, e1, e2, hr2⟩ := sim_cuts (p1 := xs (nI i + (1 : Int32)).toNatClampNeg) (p2 := xs (nI i + (2 : Int32)).toNatClampNeg) hr
  refine kAloadn C dL_law_1787 rfl 2 rfl ?_
  refine kAloadn C dL_law_1788 rfl 3 rfl ?_
  refine kIloadn C dL_law_1789 rfl 0 rfl ?_
  refine kIconst C (1 : Int32) dL_law_1790 ki_1 ?_
  refine kIadd C dL_law_1791 ?_
  refine kSld C hX hbl hbA (sc_in1 hi hL) dL_law_1792 ?_
  refine kAloadn C dL_law_1793 rfl 3 rfl ?_
  refine kIloadn C dL_law_1794 rfl 0 rfl ?_
  refine kIconst C (2 : Int32) dL_law_1795 ki_2 ?_
  refine kIadd C dL_law_1796 ?_
  refine kSld C hX hbl hbA (sc_in2 hi hL) dL_law_1797 ?_
  refine kV C (X8_cuts_ok e1) vb_X8_cuts mk_RL_182 rfl rc28 ⟨Nat.le_of_ble_eq_true rfl, Nat.le_of_ble_eq_true rfl⟩ ⟨Nat.le_of_ble_eq_true rfl, Nat.le_of_ble_eq_true rfl⟩ rfl (Nat.le_of_ble_eq_true rfl) dL_law_1798 ?_
  refine kAloadn C dL_law_1801 rfl 1 rfl ?_
  refine kAloadn C dL_law_1802 rfl 3 rfl ?_
  refine kIloadn C dL_law_1803 rfl 0 rfl ?_
  refine kIconst C (1 : Int32) dL_law_1804 ki_1 ?_
  refine kIadd C dL_law_1805 ?_
  refine kSld C hX hbl hbA (sc_in1 hi hL) dL_law_1806 ?_
  refine kAloadn C dL_law_1807 rfl 3 rfl ?_
  refine kIloadn C dL_law_1808 rfl 0 rfl ?_
  refine kIconst C (2 : Int32) dL_law_1809 ki_2 ?_
  refine kIadd C dL_law_1810 ?_
  refine kSld C hX hbl hbA (sc_in2 hi hL) dL_law_1811 ?_
  refine k_swap ?_
  refine kV C (X9_cuts_ok e2) vb_X9_cuts mk_RL_185 rfl rcM ⟨Nat.le_of_ble_eq_true rfl, Nat.le_of_ble_eq_true rfl⟩ ⟨Nat.le_of_ble_eq_true rfl, Nat.le_of_ble_eq_true rfl⟩ rfl (Nat.le_of_ble_eq_true rfl) dL_law_1812 ?_
  refine k_swap ?_
  refine kCmpEq C 2361 dL_law_1815 (by decide) (fun _ => ?_) (fun q => absurd rfl q)
  exact kk ocP ocLo ocHi cpl ctb ctl ctf ctp ctk cts cth cob col ocso ocha ochs cbe ctr cgl cgh cll clh cta cme cps cwh cal cah mthr omfrp omact mtpd msiz matx mfrm mtok mval mfk mfpl mbem mtrs mtrl mrom mtom omnow omfre omkep mtap mlef mtak mbes mrow mint mrnd mplo mhio mtox mtol hr2
set_option maxHeartbeats 4000000 in
theorem law_drops (C : Cx p l room_1 s m #[Value.ref b] meth c code 4 RL ret D cy G A) (hX : va_X b L xs s s.heap) (hbl : b < s.heap.size) (hbA : ¬ A b) {i : Nat} (hi : i + 6 ≤ L) (hL : L ≤ 3072) (hr : Rel cP cLo cHi ctb ctl ctf ctp cob col cso cha chs mact mtpd mfk mfpl mtom mnow mkep mtap mtol)
    (kk : ∀ (cP : Nat → Int32) (cLo : Nat → Int64) (cHi : Nat → Int64) (cpl : Nat → Int32) (ctb : Nat → Int32) (ctl : Int32) (ctf : Int32) (ctp : Int32) (ctk : Int32) (cts : Int32) (cth : Int32) (cob : Nat → Int32) (col : Int32) (cso : Nat → Int32) (cha : Int32) (chs : Int32) (cbe : Int32) (ctr : Int32) (cgl : Nat → Int64) (cgh : Nat → Int64) (cll : Nat → Int64) (clh : Nat → Int64) (cta : Nat → Int32) (cme : Nat → Int32) (cps : Int32) (cwh : Nat → Int32) (cal : Nat → Int64) (cah : Nat → Int64) (mthr : Int32) (mfrp : Int32) (mact : Int32) (mtpd : Int32) (msiz : Int32) (matx : Int32) (mfrm : Int32) (mtok : Int32) (mval : Int32) (mfk : Int32) (mfpl : Int32) (mbem : Int32) (mtrs : Int32) (mtrl : Int32) (mrom : Int32) (mtom : Int32) (mnow : Nat → Int32) (mfre : Nat → Int32) (mkep : Nat → Int32) (mtap : Nat → Int32) (mlef : Nat → Int32) (mtak : Nat → Int32) (mbes : Nat → Int32) (mrow : Nat → Int32) (mint : Nat → Int32) (mrnd : Nat → Int32) (mplo : Nat → Int32) (mhio : Nat → Int32) (mtox : Nat → Int32) (mtol : Nat → Int32), Rel cP cLo cHi ctb ctl ctf ctp cob col cso cha chs mact mtpd mfk mfpl mtom mnow mkep mtap mtol → JK p l e room_1 s m #[Value.ref b] below meth c D A Q 4 65 26217 ((mw h cy mthr mfrp mact mtpd msiz matx mfrm mtok mval mfk mfpl mbem mtrs mtrl mrom mtom mnow mfre mkep mtap mlef mtak mbes mrow mint mrnd mplo mhio mtox mtol) ++ (cw g cy cP cLo cHi cpl ctb ctl ctf ctp ctk cts cth cob col cso cha chs cbe ctr cgl cgh cll clh cta cme cps cwh cal cah)) 2361 [(3, .int (nI i)), (2, .ref (h 0)), (1, .ref (g 28)), (0, .ref b)] []) : JK p l e room_1 s m #[Value.ref b] below meth c D A Q 4 65 26217 ((mw h cy mthr mfrp mact mtpd msiz matx mfrm mtok mval mfk mfpl mbem mtrs mtrl mrom mtom mnow mfre mkep mtap mlef mtak mbes mrow mint mrnd mplo mhio mtox mtol) ++ (cw g cy cP cLo cHi cpl ctb ctl ctf ctp ctk cts cth cob col cso cha chs cbe ctr cgl cgh cll clh cta cme cps cwh cal cah)) 1820 [(3, .int (nI i)), (2, .ref (h 0)), (1, .ref (g 28)), (0, .ref b)] [] := by
  obtain ⟨r, ocP, ocLo, ocHi, ocso, ocha, ochs, omfrp, omact, omnow, omfre, omkep, e1, e2, hr2⟩ := sim_drops (p1 := xs (nI i + (1 : Int32)).toNatClampNeg) hr
  refine kAloadn C dL_law_1820 rfl 2 rfl ?_
  refine kAloadn C dL_law_1821 rfl 3 rfl ?_
  refine kIloadn C dL_law_1822 rfl 0 rfl ?_
  refine kIconst C (1 : Int32) dL_law_1823 ki_1 ?_
  refine kIadd C dL_law_1824 ?_
  refine kSld C hX hbl hbA (sc_in1 hi hL) dL_law_1825 ?_
  refine kV C (X8_drops_ok e1) vb_X8_drops mk_RL_186 rfl rc28 ⟨Nat.le_of_ble_eq_true rfl, Nat.le_of_ble_eq_true rfl⟩ ⟨Nat.le_of_ble_eq_true rfl, Nat.le_of_ble_eq_true rfl⟩ rfl (Nat.le_of_ble_eq_true rfl) dL_law_1826 ?_
  refine kAloadn C dL_law_1829 rfl 1 rfl ?_
  refine kAloadn C dL_law_1830 rfl 3 rfl ?_
  refine kIloadn C dL_law_1831 rfl 0 rfl ?_
  refine kIconst C (1 : Int32) dL_law_1832 ki_1 ?_
  refine kIadd C dL_law_1833 ?_
  refine kSld C hX hbl hbA (sc_in1 hi hL) dL_law_1834 ?_
  refine k_swap ?_
  refine kV C (X9_drops_ok e2) vb_X9_drops mk_RL_189 rfl rcM ⟨Nat.le_of_ble_eq_true rfl, Nat.le_of_ble_eq_true rfl⟩ ⟨Nat.le_of_ble_eq_true rfl, Nat.le_of_ble_eq_true rfl⟩ rfl (Nat.le_of_ble_eq_true rfl) dL_law_1835 ?_
  refine k_swap ?_
  refine kCmpEq C 2361 dL_law_1838 (by decide) (fun _ => ?_) (fun q => absurd rfl q)
  exact kk ocP ocLo ocHi cpl ctb ctl ctf ctp ctk cts cth cob col ocso ocha ochs cbe ctr cgl cgh cll clh cta cme cps cwh cal cah mthr omfrp omact mtpd msiz matx mfrm mtok mval mfk mfpl mbem mtrs mtrl mrom mtom omnow omfre omkep mtap mlef mtak mbes mrow mint mrnd mplo mhio mtox mtol hr2
set_option maxHeartbeats 4000000 in
theorem law_undo (C : Cx p l room_1 s m #[Value.ref b] meth c code 4 RL ret D cy G A) (hX : va_X b L xs s s.heap) (hbl : b < s.heap.size) (hbA : ¬ A b) {i : Nat} (hi : i + 6 ≤ L) (hL : L ≤ 3072) (hr : Rel cP cLo cHi ctb ctl ctf ctp cob col cso cha chs mact mtpd mfk mfpl mtom mnow mkep mtap mtol)
    (kk : ∀ (cP : Nat → Int32) (cLo : Nat → Int64) (cHi : Nat → Int64) (cpl : Nat → Int32) (ctb : Nat → Int32) (ctl : Int32) (ctf : Int32) (ctp : Int32) (ctk : Int32) (cts : Int32) (cth : Int32) (cob : Nat → Int32) (col : Int32) (cso : Nat → Int32) (cha : Int32) (chs : Int32) (cbe : Int32) (ctr : Int32) (cgl : Nat → Int64) (cgh : Nat → Int64) (cll : Nat → Int64) (clh : Nat → Int64) (cta : Nat → Int32) (cme : Nat → Int32) (cps : Int32) (cwh : Nat → Int32) (cal : Nat → Int64) (cah : Nat → Int64) (mthr : Int32) (mfrp : Int32) (mact : Int32) (mtpd : Int32) (msiz : Int32) (matx : Int32) (mfrm : Int32) (mtok : Int32) (mval : Int32) (mfk : Int32) (mfpl : Int32) (mbem : Int32) (mtrs : Int32) (mtrl : Int32) (mrom : Int32) (mtom : Int32) (mnow : Nat → Int32) (mfre : Nat → Int32) (mkep : Nat → Int32) (mtap : Nat → Int32) (mlef : Nat → Int32) (mtak : Nat → Int32) (mbes : Nat → Int32) (mrow : Nat → Int32) (mint : Nat → Int32) (mrnd : Nat → Int32) (mplo : Nat → Int32) (mhio : Nat → Int32) (mtox : Nat → Int32) (mtol : Nat → Int32), Rel cP cLo cHi ctb ctl ctf ctp cob col cso cha chs mact mtpd mfk mfpl mtom mnow mkep mtap mtol → JK p l e room_1 s m #[Value.ref b] below meth c D A Q 4 65 26217 ((mw h cy mthr mfrp mact mtpd msiz matx mfrm mtok mval mfk mfpl mbem mtrs mtrl mrom mtom mnow mfre mkep mtap mlef mtak mbes mrow mint mrnd mplo mhio mtox mtol) ++ (cw g cy cP cLo cHi cpl ctb ctl ctf ctp ctk cts cth cob col cso cha chs cbe ctr cgl cgh cll clh cta cme cps cwh cal cah)) 2361 [(3, .int (nI i)), (2, .ref (h 0)), (1, .ref (g 28)), (0, .ref b)] []) : JK p l e room_1 s m #[Value.ref b] below meth c D A Q 4 65 26217 ((mw h cy mthr mfrp mact mtpd msiz matx mfrm mtok mval mfk mfpl mbem mtrs mtrl mrom mtom mnow mfre mkep mtap mlef mtak mbes mrow mint mrnd mplo mhio mtox mtol) ++ (cw g cy cP cLo cHi cpl ctb ctl ctf ctp ctk cts cth cob col cso cha chs cbe ctr cgl cgh cll clh cta cme cps cwh cal cah)) 1843 [(3, .int (nI i)), (2, .ref (h 0)), (1, .ref (g 28)), (0, .ref b)] [] := by
  obtain ⟨r, ocP, ocLo, ocHi, ocha, ochs, omact, omnow, e1, e2, hr2⟩ := sim_undo  hr
  refine kAloadn C dL_law_1843 rfl 2 rfl ?_
  refine kV C (X8_undo_ok e1) vb_X8_undo mk_RL_190 rfl rc28 ⟨Nat.le_of_ble_eq_true rfl, Nat.le_of_ble_eq_true rfl⟩ ⟨Nat.le_of_ble_eq_true rfl, Nat.le_of_ble_eq_true rfl⟩ rfl (Nat.le_of_ble_eq_true rfl) dL_law_1844 ?_
  refine kAloadn C dL_law_1847 rfl 1 rfl ?_
  refine k_swap ?_
  refine kV C (X9_undo_ok e2) vb_X9_undo mk_RL_194 rfl rcM ⟨Nat.le_of_ble_eq_true rfl, Nat.le_of_ble_eq_true rfl⟩ ⟨Nat.le_of_ble_eq_true rfl, Nat.le_of_ble_eq_true rfl⟩ rfl (Nat.le_of_ble_eq_true rfl) dL_law_1848 ?_
  refine k_swap ?_
  refine kCmpEq C 2361 dL_law_1851 (by decide) (fun _ => ?_) (fun q => absurd rfl q)
  exact kk ocP ocLo ocHi cpl ctb ctl ctf ctp ctk cts cth cob col cso ocha ochs cbe ctr cgl cgh cll clh cta cme cps cwh cal cah mthr mfrp omact mtpd msiz matx mfrm mtok mval mfk mfpl mbem mtrs mtrl mrom mtom omnow mfre mkep mtap mlef mtak mbes mrow mint mrnd mplo mhio mtox mtol hr2
set_option maxHeartbeats 4000000 in
theorem law_tell (C : Cx p l room_1 s m #[Value.ref b] meth c code 4 RL ret D cy G A) (hX : va_X b L xs s s.heap) (hbl : b < s.heap.size) (hbA : ¬ A b) {i : Nat} (hi : i + 6 ≤ L) (hL : L ≤ 3072) (hr : Rel cP cLo cHi ctb ctl ctf ctp cob col cso cha chs mact mtpd mfk mfpl mtom mnow mkep mtap mtol)
    (kk : ∀ (cP : Nat → Int32) (cLo : Nat → Int64) (cHi : Nat → Int64) (cpl : Nat → Int32) (ctb : Nat → Int32) (ctl : Int32) (ctf : Int32) (ctp : Int32) (ctk : Int32) (cts : Int32) (cth : Int32) (cob : Nat → Int32) (col : Int32) (cso : Nat → Int32) (cha : Int32) (chs : Int32) (cbe : Int32) (ctr : Int32) (cgl : Nat → Int64) (cgh : Nat → Int64) (cll : Nat → Int64) (clh : Nat → Int64) (cta : Nat → Int32) (cme : Nat → Int32) (cps : Int32) (cwh : Nat → Int32) (cal : Nat → Int64) (cah : Nat → Int64) (mthr : Int32) (mfrp : Int32) (mact : Int32) (mtpd : Int32) (msiz : Int32) (matx : Int32) (mfrm : Int32) (mtok : Int32) (mval : Int32) (mfk : Int32) (mfpl : Int32) (mbem : Int32) (mtrs : Int32) (mtrl : Int32) (mrom : Int32) (mtom : Int32) (mnow : Nat → Int32) (mfre : Nat → Int32) (mkep : Nat → Int32) (mtap : Nat → Int32) (mlef : Nat → Int32) (mtak : Nat → Int32) (mbes : Nat → Int32) (mrow : Nat → Int32) (mint : Nat → Int32) (mrnd : Nat → Int32) (mplo : Nat → Int32) (mhio : Nat → Int32) (mtox : Nat → Int32) (mtol : Nat → Int32), Rel cP cLo cHi ctb ctl ctf ctp cob col cso cha chs mact mtpd mfk mfpl mtom mnow mkep mtap mtol → JK p l e room_1 s m #[Value.ref b] below meth c D A Q 4 65 26217 ((mw h cy mthr mfrp mact mtpd msiz matx mfrm mtok mval mfk mfpl mbem mtrs mtrl mrom mtom mnow mfre mkep mtap mlef mtak mbes mrow mint mrnd mplo mhio mtox mtol) ++ (cw g cy cP cLo cHi cpl ctb ctl ctf ctp ctk cts cth cob col cso cha chs cbe ctr cgl cgh cll clh cta cme cps cwh cal cah)) 2361 [(3, .int (nI i)), (2, .ref (h 0)), (1, .ref (g 28)), (0, .ref b)] []) : JK p l e room_1 s m #[Value.ref b] below meth c D A Q 4 65 26217 ((mw h cy mthr mfrp mact mtpd msiz matx mfrm mtok mval mfk mfpl mbem mtrs mtrl mrom mtom mnow mfre mkep mtap mlef mtak mbes mrow mint mrnd mplo mhio mtox mtol) ++ (cw g cy cP cLo cHi cpl ctb ctl ctf ctp ctk cts cth cob col cso cha chs cbe ctr cgl cgh cll clh cta cme cps cwh cal cah)) 1856 [(3, .int (nI i)), (2, .ref (h 0)), (1, .ref (g 28)), (0, .ref b)] [] := by
  obtain ⟨r, ocob, ocol, omtom, omtol, e1, e2, hr2⟩ := sim_tell (p1 := xs (nI i + (1 : Int32)).toNatClampNeg) hr
  refine kAloadn C dL_law_1856 rfl 2 rfl ?_
  refine kAloadn C dL_law_1857 rfl 3 rfl ?_
  refine kIloadn C dL_law_1858 rfl 0 rfl ?_
  refine kIconst C (1 : Int32) dL_law_1859 ki_1 ?_
  refine kIadd C dL_law_1860 ?_
  refine kSld C hX hbl hbA (sc_in1 hi hL) dL_law_1861 ?_
  refine kV C (X8_tell_ok e1) vb_X8_tell mk_RL_195 rfl rc28 ⟨Nat.le_of_ble_eq_true rfl, Nat.le_of_ble_eq_true rfl⟩ ⟨Nat.le_of_ble_eq_true rfl, Nat.le_of_ble_eq_true rfl⟩ rfl (Nat.le_of_ble_eq_true rfl) dL_law_1862 ?_
  refine kAloadn C dL_law_1865 rfl 1 rfl ?_
  refine kAloadn C dL_law_1866 rfl 3 rfl ?_
  refine kIloadn C dL_law_1867 rfl 0 rfl ?_
  refine kIconst C (1 : Int32) dL_law_1868 ki_1 ?_
  refine kIadd C dL_law_1869 ?_
  refine kSld C hX hbl hbA (sc_in1 hi hL) dL_law_1870 ?_
  refine k_swap ?_
  refine kV C (X9_tell_ok e2) vb_X9_tell mk_RL_198 rfl rcM ⟨Nat.le_of_ble_eq_true rfl, Nat.le_of_ble_eq_true rfl⟩ ⟨Nat.le_of_ble_eq_true rfl, Nat.le_of_ble_eq_true rfl⟩ rfl (Nat.le_of_ble_eq_true rfl) dL_law_1871 ?_
  refine k_swap ?_
  refine kCmpEq C 2361 dL_law_1874 (by decide) (fun _ => ?_) (fun q => absurd rfl q)
  exact kk cP cLo cHi cpl ctb ctl ctf ctp ctk cts cth ocob ocol cso cha chs cbe ctr cgl cgh cll clh cta cme cps cwh cal cah mthr mfrp mact mtpd msiz matx mfrm mtok mval mfk mfpl mbem mtrs mtrl mrom omtom mnow mfre mkep mtap mlef mtak mbes mrow mint mrnd mplo mhio mtox omtol hr2
set_option maxHeartbeats 4000000 in
theorem law_octet (C : Cx p l room_1 s m #[Value.ref b] meth c code 4 RL ret D cy G A) (hX : va_X b L xs s s.heap) (hbl : b < s.heap.size) (hbA : ¬ A b) {i : Nat} (hi : i + 6 ≤ L) (hL : L ≤ 3072) (hr : Rel cP cLo cHi ctb ctl ctf ctp cob col cso cha chs mact mtpd mfk mfpl mtom mnow mkep mtap mtol)
    (kk : ∀ (cP : Nat → Int32) (cLo : Nat → Int64) (cHi : Nat → Int64) (cpl : Nat → Int32) (ctb : Nat → Int32) (ctl : Int32) (ctf : Int32) (ctp : Int32) (ctk : Int32) (cts : Int32) (cth : Int32) (cob : Nat → Int32) (col : Int32) (cso : Nat → Int32) (cha : Int32) (chs : Int32) (cbe : Int32) (ctr : Int32) (cgl : Nat → Int64) (cgh : Nat → Int64) (cll : Nat → Int64) (clh : Nat → Int64) (cta : Nat → Int32) (cme : Nat → Int32) (cps : Int32) (cwh : Nat → Int32) (cal : Nat → Int64) (cah : Nat → Int64) (mthr : Int32) (mfrp : Int32) (mact : Int32) (mtpd : Int32) (msiz : Int32) (matx : Int32) (mfrm : Int32) (mtok : Int32) (mval : Int32) (mfk : Int32) (mfpl : Int32) (mbem : Int32) (mtrs : Int32) (mtrl : Int32) (mrom : Int32) (mtom : Int32) (mnow : Nat → Int32) (mfre : Nat → Int32) (mkep : Nat → Int32) (mtap : Nat → Int32) (mlef : Nat → Int32) (mtak : Nat → Int32) (mbes : Nat → Int32) (mrow : Nat → Int32) (mint : Nat → Int32) (mrnd : Nat → Int32) (mplo : Nat → Int32) (mhio : Nat → Int32) (mtox : Nat → Int32) (mtol : Nat → Int32), Rel cP cLo cHi ctb ctl ctf ctp cob col cso cha chs mact mtpd mfk mfpl mtom mnow mkep mtap mtol → JK p l e room_1 s m #[Value.ref b] below meth c D A Q 4 65 26217 ((mw h cy mthr mfrp mact mtpd msiz matx mfrm mtok mval mfk mfpl mbem mtrs mtrl mrom mtom mnow mfre mkep mtap mlef mtak mbes mrow mint mrnd mplo mhio mtox mtol) ++ (cw g cy cP cLo cHi cpl ctb ctl ctf ctp ctk cts cth cob col cso cha chs cbe ctr cgl cgh cll clh cta cme cps cwh cal cah)) 2361 [(3, .int (nI i)), (2, .ref (h 0)), (1, .ref (g 28)), (0, .ref b)] []) : JK p l e room_1 s m #[Value.ref b] below meth c D A Q 4 65 26217 ((mw h cy mthr mfrp mact mtpd msiz matx mfrm mtok mval mfk mfpl mbem mtrs mtrl mrom mtom mnow mfre mkep mtap mlef mtak mbes mrow mint mrnd mplo mhio mtox mtol) ++ (cw g cy cP cLo cHi cpl ctb ctl ctf ctp ctk cts cth cob col cso cha chs cbe ctr cgl cgh cll clh cta cme cps cwh cal cah)) 1879 [(3, .int (nI i)), (2, .ref (h 0)), (1, .ref (g 28)), (0, .ref b)] [] := by
  obtain ⟨r, e1, e2, hr2⟩ := sim_octet (p1 := xs (nI i + (1 : Int32)).toNatClampNeg) hr
  refine kAloadn C dL_law_1879 rfl 2 rfl ?_
  refine kAloadn C dL_law_1880 rfl 3 rfl ?_
  refine kIloadn C dL_law_1881 rfl 0 rfl ?_
  refine kIconst C (1 : Int32) dL_law_1882 ki_1 ?_
  refine kIadd C dL_law_1883 ?_
  refine kSld C hX hbl hbA (sc_in1 hi hL) dL_law_1884 ?_
  refine kV C (X8_octet_ok e1) vb_X8_octet mk_RL_199 rfl rc28 ⟨Nat.le_of_ble_eq_true rfl, Nat.le_of_ble_eq_true rfl⟩ ⟨Nat.le_of_ble_eq_true rfl, Nat.le_of_ble_eq_true rfl⟩ rfl (Nat.le_of_ble_eq_true rfl) dL_law_1885 ?_
  refine kAloadn C dL_law_1888 rfl 1 rfl ?_
  refine kAloadn C dL_law_1889 rfl 3 rfl ?_
  refine kIloadn C dL_law_1890 rfl 0 rfl ?_
  refine kIconst C (1 : Int32) dL_law_1891 ki_1 ?_
  refine kIadd C dL_law_1892 ?_
  refine kSld C hX hbl hbA (sc_in1 hi hL) dL_law_1893 ?_
  refine k_swap ?_
  refine kV C (X9_octet_ok e2) vb_X9_octet mk_RL_202 rfl rcM ⟨Nat.le_of_ble_eq_true rfl, Nat.le_of_ble_eq_true rfl⟩ ⟨Nat.le_of_ble_eq_true rfl, Nat.le_of_ble_eq_true rfl⟩ rfl (Nat.le_of_ble_eq_true rfl) dL_law_1894 ?_
  refine k_swap ?_
  refine kCmpEq C 2361 dL_law_1897 (by decide) (fun _ => ?_) (fun q => absurd rfl q)
  exact kk cP cLo cHi cpl ctb ctl ctf ctp ctk cts cth cob col cso cha chs cbe ctr cgl cgh cll clh cta cme cps cwh cal cah mthr mfrp mact mtpd msiz matx mfrm mtok mval mfk mfpl mbem mtrs mtrl mrom mtom mnow mfre mkep mtap mlef mtak mbes mrow mint mrnd mplo mhio mtox mtol hr2
set_option maxHeartbeats 4000000 in
theorem law_common (C : Cx p l room_1 s m #[Value.ref b] meth c code 4 RL ret D cy G A) (hX : va_X b L xs s s.heap) (hbl : b < s.heap.size) (hbA : ¬ A b) {i : Nat} (hi : i + 6 ≤ L) (hL : L ≤ 3072) (hr : Rel cP cLo cHi ctb ctl ctf ctp cob col cso cha chs mact mtpd mfk mfpl mtom mnow mkep mtap mtol)
    (kk : ∀ (cP : Nat → Int32) (cLo : Nat → Int64) (cHi : Nat → Int64) (cpl : Nat → Int32) (ctb : Nat → Int32) (ctl : Int32) (ctf : Int32) (ctp : Int32) (ctk : Int32) (cts : Int32) (cth : Int32) (cob : Nat → Int32) (col : Int32) (cso : Nat → Int32) (cha : Int32) (chs : Int32) (cbe : Int32) (ctr : Int32) (cgl : Nat → Int64) (cgh : Nat → Int64) (cll : Nat → Int64) (clh : Nat → Int64) (cta : Nat → Int32) (cme : Nat → Int32) (cps : Int32) (cwh : Nat → Int32) (cal : Nat → Int64) (cah : Nat → Int64) (mthr : Int32) (mfrp : Int32) (mact : Int32) (mtpd : Int32) (msiz : Int32) (matx : Int32) (mfrm : Int32) (mtok : Int32) (mval : Int32) (mfk : Int32) (mfpl : Int32) (mbem : Int32) (mtrs : Int32) (mtrl : Int32) (mrom : Int32) (mtom : Int32) (mnow : Nat → Int32) (mfre : Nat → Int32) (mkep : Nat → Int32) (mtap : Nat → Int32) (mlef : Nat → Int32) (mtak : Nat → Int32) (mbes : Nat → Int32) (mrow : Nat → Int32) (mint : Nat → Int32) (mrnd : Nat → Int32) (mplo : Nat → Int32) (mhio : Nat → Int32) (mtox : Nat → Int32) (mtol : Nat → Int32), Rel cP cLo cHi ctb ctl ctf ctp cob col cso cha chs mact mtpd mfk mfpl mtom mnow mkep mtap mtol → JK p l e room_1 s m #[Value.ref b] below meth c D A Q 4 65 26217 ((mw h cy mthr mfrp mact mtpd msiz matx mfrm mtok mval mfk mfpl mbem mtrs mtrl mrom mtom mnow mfre mkep mtap mlef mtak mbes mrow mint mrnd mplo mhio mtox mtol) ++ (cw g cy cP cLo cHi cpl ctb ctl ctf ctp ctk cts cth cob col cso cha chs cbe ctr cgl cgh cll clh cta cme cps cwh cal cah)) 2361 [(3, .int (nI i)), (2, .ref (h 0)), (1, .ref (g 28)), (0, .ref b)] []) : JK p l e room_1 s m #[Value.ref b] below meth c D A Q 4 65 26217 ((mw h cy mthr mfrp mact mtpd msiz matx mfrm mtok mval mfk mfpl mbem mtrs mtrl mrom mtom mnow mfre mkep mtap mlef mtak mbes mrow mint mrnd mplo mhio mtox mtol) ++ (cw g cy cP cLo cHi cpl ctb ctl ctf ctp ctk cts cth cob col cso cha chs cbe ctr cgl cgh cll clh cta cme cps cwh cal cah)) 1902 [(3, .int (nI i)), (2, .ref (h 0)), (1, .ref (g 28)), (0, .ref b)] [] := by
  obtain ⟨r, e1, e2, hr2⟩ := sim_common (p1 := xs (nI i + (1 : Int32)).toNatClampNeg) (p2 := xs (nI i + (2 : Int32)).toNatClampNeg) (p3 := xs (nI i + (3 : Int32)).toNatClampNeg) hr
  refine kAloadn C dL_law_1902 rfl 2 rfl ?_
  refine kAloadn C dL_law_1903 rfl 3 rfl ?_
  refine kIloadn C dL_law_1904 rfl 0 rfl ?_
  refine kIconst C (1 : Int32) dL_law_1905 ki_1 ?_
  refine kIadd C dL_law_1906 ?_
  refine kSld C hX hbl hbA (sc_in1 hi hL) dL_law_1907 ?_
  refine kAloadn C dL_law_1908 rfl 3 rfl ?_
  refine kIloadn C dL_law_1909 rfl 0 rfl ?_
  refine kIconst C (2 : Int32) dL_law_1910 ki_2 ?_
  refine kIadd C dL_law_1911 ?_
  refine kSld C hX hbl hbA (sc_in2 hi hL) dL_law_1912 ?_
  refine kAloadn C dL_law_1913 rfl 3 rfl ?_
  refine kIloadn C dL_law_1914 rfl 0 rfl ?_
  refine kIconst C (3 : Int32) dL_law_1915 ki_3 ?_
  refine kIadd C dL_law_1916 ?_
  refine kSld C hX hbl hbA (sc_in3 hi hL) dL_law_1917 ?_
  refine kV C (X8_common_ok e1) vb_X8_common mk_RL_203 rfl rc28 ⟨Nat.le_of_ble_eq_true rfl, Nat.le_of_ble_eq_true rfl⟩ ⟨Nat.le_of_ble_eq_true rfl, Nat.le_of_ble_eq_true rfl⟩ rfl (Nat.le_of_ble_eq_true rfl) dL_law_1918 ?_
  refine kAloadn C dL_law_1921 rfl 1 rfl ?_
  refine kAloadn C dL_law_1922 rfl 3 rfl ?_
  refine kIloadn C dL_law_1923 rfl 0 rfl ?_
  refine kIconst C (1 : Int32) dL_law_1924 ki_1 ?_
  refine kIadd C dL_law_1925 ?_
  refine kSld C hX hbl hbA (sc_in1 hi hL) dL_law_1926 ?_
  refine kAloadn C dL_law_1927 rfl 3 rfl ?_
  refine kIloadn C dL_law_1928 rfl 0 rfl ?_
  refine kIconst C (2 : Int32) dL_law_1929 ki_2 ?_
  refine kIadd C dL_law_1930 ?_
  refine kSld C hX hbl hbA (sc_in2 hi hL) dL_law_1931 ?_
  refine kAloadn C dL_law_1932 rfl 3 rfl ?_
  refine kIloadn C dL_law_1933 rfl 0 rfl ?_
  refine kIconst C (3 : Int32) dL_law_1934 ki_3 ?_
  refine kIadd C dL_law_1935 ?_
  refine kSld C hX hbl hbA (sc_in3 hi hL) dL_law_1936 ?_
  refine k_swap ?_
  refine kV C (X9_common_ok e2) vb_X9_common mk_RL_206 rfl rcM ⟨Nat.le_of_ble_eq_true rfl, Nat.le_of_ble_eq_true rfl⟩ ⟨Nat.le_of_ble_eq_true rfl, Nat.le_of_ble_eq_true rfl⟩ rfl (Nat.le_of_ble_eq_true rfl) dL_law_1937 ?_
  refine k_swap ?_
  refine kCmpEq C 2361 dL_law_1940 (by decide) (fun _ => ?_) (fun q => absurd rfl q)
  exact kk cP cLo cHi cpl ctb ctl ctf ctp ctk cts cth cob col cso cha chs cbe ctr cgl cgh cll clh cta cme cps cwh cal cah mthr mfrp mact mtpd msiz matx mfrm mtok mval mfk mfpl mbem mtrs mtrl mrom mtom mnow mfre mkep mtap mlef mtak mbes mrow mint mrnd mplo mhio mtox mtol hr2
set_option maxHeartbeats 4000000 in
theorem law_lacks (C : Cx p l room_1 s m #[Value.ref b] meth c code 4 RL ret D cy G A) (hX : va_X b L xs s s.heap) (hbl : b < s.heap.size) (hbA : ¬ A b) {i : Nat} (hi : i + 6 ≤ L) (hL : L ≤ 3072) (hr : Rel cP cLo cHi ctb ctl ctf ctp cob col cso cha chs mact mtpd mfk mfpl mtom mnow mkep mtap mtol)
    (kk : ∀ (cP : Nat → Int32) (cLo : Nat → Int64) (cHi : Nat → Int64) (cpl : Nat → Int32) (ctb : Nat → Int32) (ctl : Int32) (ctf : Int32) (ctp : Int32) (ctk : Int32) (cts : Int32) (cth : Int32) (cob : Nat → Int32) (col : Int32) (cso : Nat → Int32) (cha : Int32) (chs : Int32) (cbe : Int32) (ctr : Int32) (cgl : Nat → Int64) (cgh : Nat → Int64) (cll : Nat → Int64) (clh : Nat → Int64) (cta : Nat → Int32) (cme : Nat → Int32) (cps : Int32) (cwh : Nat → Int32) (cal : Nat → Int64) (cah : Nat → Int64) (mthr : Int32) (mfrp : Int32) (mact : Int32) (mtpd : Int32) (msiz : Int32) (matx : Int32) (mfrm : Int32) (mtok : Int32) (mval : Int32) (mfk : Int32) (mfpl : Int32) (mbem : Int32) (mtrs : Int32) (mtrl : Int32) (mrom : Int32) (mtom : Int32) (mnow : Nat → Int32) (mfre : Nat → Int32) (mkep : Nat → Int32) (mtap : Nat → Int32) (mlef : Nat → Int32) (mtak : Nat → Int32) (mbes : Nat → Int32) (mrow : Nat → Int32) (mint : Nat → Int32) (mrnd : Nat → Int32) (mplo : Nat → Int32) (mhio : Nat → Int32) (mtox : Nat → Int32) (mtol : Nat → Int32), Rel cP cLo cHi ctb ctl ctf ctp cob col cso cha chs mact mtpd mfk mfpl mtom mnow mkep mtap mtol → JK p l e room_1 s m #[Value.ref b] below meth c D A Q 4 65 26217 ((mw h cy mthr mfrp mact mtpd msiz matx mfrm mtok mval mfk mfpl mbem mtrs mtrl mrom mtom mnow mfre mkep mtap mlef mtak mbes mrow mint mrnd mplo mhio mtox mtol) ++ (cw g cy cP cLo cHi cpl ctb ctl ctf ctp ctk cts cth cob col cso cha chs cbe ctr cgl cgh cll clh cta cme cps cwh cal cah)) 2361 [(3, .int (nI i)), (2, .ref (h 0)), (1, .ref (g 28)), (0, .ref b)] []) : JK p l e room_1 s m #[Value.ref b] below meth c D A Q 4 65 26217 ((mw h cy mthr mfrp mact mtpd msiz matx mfrm mtok mval mfk mfpl mbem mtrs mtrl mrom mtom mnow mfre mkep mtap mlef mtak mbes mrow mint mrnd mplo mhio mtox mtol) ++ (cw g cy cP cLo cHi cpl ctb ctl ctf ctp ctk cts cth cob col cso cha chs cbe ctr cgl cgh cll clh cta cme cps cwh cal cah)) 1945 [(3, .int (nI i)), (2, .ref (h 0)), (1, .ref (g 28)), (0, .ref b)] [] := by
  obtain ⟨r, ocP, ocLo, ocHi, e1, e2, hr2⟩ := sim_lacks (p1 := xs (nI i + (1 : Int32)).toNatClampNeg) (p2 := xs (nI i + (2 : Int32)).toNatClampNeg) hr
  refine kAloadn C dL_law_1945 rfl 2 rfl ?_
  refine kAloadn C dL_law_1946 rfl 3 rfl ?_
  refine kIloadn C dL_law_1947 rfl 0 rfl ?_
  refine kIconst C (1 : Int32) dL_law_1948 ki_1 ?_
  refine kIadd C dL_law_1949 ?_
  refine kSld C hX hbl hbA (sc_in1 hi hL) dL_law_1950 ?_
  refine kAloadn C dL_law_1951 rfl 3 rfl ?_
  refine kIloadn C dL_law_1952 rfl 0 rfl ?_
  refine kIconst C (2 : Int32) dL_law_1953 ki_2 ?_
  refine kIadd C dL_law_1954 ?_
  refine kSld C hX hbl hbA (sc_in2 hi hL) dL_law_1955 ?_
  refine kV C (X8_lacks_ok e1) vb_X8_lacks mk_RL_207 rfl rc28 ⟨Nat.le_of_ble_eq_true rfl, Nat.le_of_ble_eq_true rfl⟩ ⟨Nat.le_of_ble_eq_true rfl, Nat.le_of_ble_eq_true rfl⟩ rfl (Nat.le_of_ble_eq_true rfl) dL_law_1956 ?_
  refine kAloadn C dL_law_1959 rfl 1 rfl ?_
  refine kAloadn C dL_law_1960 rfl 3 rfl ?_
  refine kIloadn C dL_law_1961 rfl 0 rfl ?_
  refine kIconst C (1 : Int32) dL_law_1962 ki_1 ?_
  refine kIadd C dL_law_1963 ?_
  refine kSld C hX hbl hbA (sc_in1 hi hL) dL_law_1964 ?_
  refine kAloadn C dL_law_1965 rfl 3 rfl ?_
  refine kIloadn C dL_law_1966 rfl 0 rfl ?_
  refine kIconst C (2 : Int32) dL_law_1967 ki_2 ?_
  refine kIadd C dL_law_1968 ?_
  refine kSld C hX hbl hbA (sc_in2 hi hL) dL_law_1969 ?_
  refine k_swap ?_
  refine kV C (X9_lacks_ok e2) vb_X9_lacks mk_RL_210 rfl rcM ⟨Nat.le_of_ble_eq_true rfl, Nat.le_of_ble_eq_true rfl⟩ ⟨Nat.le_of_ble_eq_true rfl, Nat.le_of_ble_eq_true rfl⟩ rfl (Nat.le_of_ble_eq_true rfl) dL_law_1970 ?_
  refine k_swap ?_
  refine kCmpEq C 2361 dL_law_1973 (by decide) (fun _ => ?_) (fun q => absurd rfl q)
  exact kk ocP ocLo ocHi cpl ctb ctl ctf ctp ctk cts cth cob col cso cha chs cbe ctr cgl cgh cll clh cta cme cps cwh cal cah mthr mfrp mact mtpd msiz matx mfrm mtok mval mfk mfpl mbem mtrs mtrl mrom mtom mnow mfre mkep mtap mlef mtak mbes mrow mint mrnd mplo mhio mtox mtol hr2
set_option maxHeartbeats 4000000 in
theorem law_moved (C : Cx p l room_1 s m #[Value.ref b] meth c code 4 RL ret D cy G A) (hX : va_X b L xs s s.heap) (hbl : b < s.heap.size) (hbA : ¬ A b) {i : Nat} (hi : i + 6 ≤ L) (hL : L ≤ 3072) (hr : Rel cP cLo cHi ctb ctl ctf ctp cob col cso cha chs mact mtpd mfk mfpl mtom mnow mkep mtap mtol)
    (kk : ∀ (cP : Nat → Int32) (cLo : Nat → Int64) (cHi : Nat → Int64) (cpl : Nat → Int32) (ctb : Nat → Int32) (ctl : Int32) (ctf : Int32) (ctp : Int32) (ctk : Int32) (cts : Int32) (cth : Int32) (cob : Nat → Int32) (col : Int32) (cso : Nat → Int32) (cha : Int32) (chs : Int32) (cbe : Int32) (ctr : Int32) (cgl : Nat → Int64) (cgh : Nat → Int64) (cll : Nat → Int64) (clh : Nat → Int64) (cta : Nat → Int32) (cme : Nat → Int32) (cps : Int32) (cwh : Nat → Int32) (cal : Nat → Int64) (cah : Nat → Int64) (mthr : Int32) (mfrp : Int32) (mact : Int32) (mtpd : Int32) (msiz : Int32) (matx : Int32) (mfrm : Int32) (mtok : Int32) (mval : Int32) (mfk : Int32) (mfpl : Int32) (mbem : Int32) (mtrs : Int32) (mtrl : Int32) (mrom : Int32) (mtom : Int32) (mnow : Nat → Int32) (mfre : Nat → Int32) (mkep : Nat → Int32) (mtap : Nat → Int32) (mlef : Nat → Int32) (mtak : Nat → Int32) (mbes : Nat → Int32) (mrow : Nat → Int32) (mint : Nat → Int32) (mrnd : Nat → Int32) (mplo : Nat → Int32) (mhio : Nat → Int32) (mtox : Nat → Int32) (mtol : Nat → Int32), Rel cP cLo cHi ctb ctl ctf ctp cob col cso cha chs mact mtpd mfk mfpl mtom mnow mkep mtap mtol → JK p l e room_1 s m #[Value.ref b] below meth c D A Q 4 65 26217 ((mw h cy mthr mfrp mact mtpd msiz matx mfrm mtok mval mfk mfpl mbem mtrs mtrl mrom mtom mnow mfre mkep mtap mlef mtak mbes mrow mint mrnd mplo mhio mtox mtol) ++ (cw g cy cP cLo cHi cpl ctb ctl ctf ctp ctk cts cth cob col cso cha chs cbe ctr cgl cgh cll clh cta cme cps cwh cal cah)) 2361 [(3, .int (nI i)), (2, .ref (h 0)), (1, .ref (g 28)), (0, .ref b)] []) : JK p l e room_1 s m #[Value.ref b] below meth c D A Q 4 65 26217 ((mw h cy mthr mfrp mact mtpd msiz matx mfrm mtok mval mfk mfpl mbem mtrs mtrl mrom mtom mnow mfre mkep mtap mlef mtak mbes mrow mint mrnd mplo mhio mtox mtol) ++ (cw g cy cP cLo cHi cpl ctb ctl ctf ctp ctk cts cth cob col cso cha chs cbe ctr cgl cgh cll clh cta cme cps cwh cal cah)) 1978 [(3, .int (nI i)), (2, .ref (h 0)), (1, .ref (g 28)), (0, .ref b)] [] := by
  obtain ⟨r, ocP, ocLo, ocHi, e1, e2, hr2⟩ := sim_moved (p1 := xs (nI i + (1 : Int32)).toNatClampNeg) hr
  refine kAloadn C dL_law_1978 rfl 2 rfl ?_
  refine kAloadn C dL_law_1979 rfl 3 rfl ?_
  refine kIloadn C dL_law_1980 rfl 0 rfl ?_
  refine kIconst C (1 : Int32) dL_law_1981 ki_1 ?_
  refine kIadd C dL_law_1982 ?_
  refine kSld C hX hbl hbA (sc_in1 hi hL) dL_law_1983 ?_
  refine kV C (X8_moved_ok e1) vb_X8_moved mk_RL_211 rfl rc28 ⟨Nat.le_of_ble_eq_true rfl, Nat.le_of_ble_eq_true rfl⟩ ⟨Nat.le_of_ble_eq_true rfl, Nat.le_of_ble_eq_true rfl⟩ rfl (Nat.le_of_ble_eq_true rfl) dL_law_1984 ?_
  refine kAloadn C dL_law_1987 rfl 1 rfl ?_
  refine kAloadn C dL_law_1988 rfl 3 rfl ?_
  refine kIloadn C dL_law_1989 rfl 0 rfl ?_
  refine kIconst C (1 : Int32) dL_law_1990 ki_1 ?_
  refine kIadd C dL_law_1991 ?_
  refine kSld C hX hbl hbA (sc_in1 hi hL) dL_law_1992 ?_
  refine k_swap ?_
  refine kV C (X9_moved_ok e2) vb_X9_moved mk_RL_214 rfl rcM ⟨Nat.le_of_ble_eq_true rfl, Nat.le_of_ble_eq_true rfl⟩ ⟨Nat.le_of_ble_eq_true rfl, Nat.le_of_ble_eq_true rfl⟩ rfl (Nat.le_of_ble_eq_true rfl) dL_law_1993 ?_
  refine k_swap ?_
  refine kCmpEq C 2361 dL_law_1996 (by decide) (fun _ => ?_) (fun q => absurd rfl q)
  exact kk ocP ocLo ocHi cpl ctb ctl ctf ctp ctk cts cth cob col cso cha chs cbe ctr cgl cgh cll clh cta cme cps cwh cal cah mthr mfrp mact mtpd msiz matx mfrm mtok mval mfk mfpl mbem mtrs mtrl mrom mtom mnow mfre mkep mtap mlef mtak mbes mrow mint mrnd mplo mhio mtox mtol hr2
set_option maxHeartbeats 4000000 in
theorem law_together (C : Cx p l room_1 s m #[Value.ref b] meth c code 4 RL ret D cy G A) (hX : va_X b L xs s s.heap) (hbl : b < s.heap.size) (hbA : ¬ A b) {i : Nat} (hi : i + 6 ≤ L) (hL : L ≤ 3072) (hr : Rel cP cLo cHi ctb ctl ctf ctp cob col cso cha chs mact mtpd mfk mfpl mtom mnow mkep mtap mtol)
    (kk : ∀ (cP : Nat → Int32) (cLo : Nat → Int64) (cHi : Nat → Int64) (cpl : Nat → Int32) (ctb : Nat → Int32) (ctl : Int32) (ctf : Int32) (ctp : Int32) (ctk : Int32) (cts : Int32) (cth : Int32) (cob : Nat → Int32) (col : Int32) (cso : Nat → Int32) (cha : Int32) (chs : Int32) (cbe : Int32) (ctr : Int32) (cgl : Nat → Int64) (cgh : Nat → Int64) (cll : Nat → Int64) (clh : Nat → Int64) (cta : Nat → Int32) (cme : Nat → Int32) (cps : Int32) (cwh : Nat → Int32) (cal : Nat → Int64) (cah : Nat → Int64) (mthr : Int32) (mfrp : Int32) (mact : Int32) (mtpd : Int32) (msiz : Int32) (matx : Int32) (mfrm : Int32) (mtok : Int32) (mval : Int32) (mfk : Int32) (mfpl : Int32) (mbem : Int32) (mtrs : Int32) (mtrl : Int32) (mrom : Int32) (mtom : Int32) (mnow : Nat → Int32) (mfre : Nat → Int32) (mkep : Nat → Int32) (mtap : Nat → Int32) (mlef : Nat → Int32) (mtak : Nat → Int32) (mbes : Nat → Int32) (mrow : Nat → Int32) (mint : Nat → Int32) (mrnd : Nat → Int32) (mplo : Nat → Int32) (mhio : Nat → Int32) (mtox : Nat → Int32) (mtol : Nat → Int32), Rel cP cLo cHi ctb ctl ctf ctp cob col cso cha chs mact mtpd mfk mfpl mtom mnow mkep mtap mtol → JK p l e room_1 s m #[Value.ref b] below meth c D A Q 4 65 26217 ((mw h cy mthr mfrp mact mtpd msiz matx mfrm mtok mval mfk mfpl mbem mtrs mtrl mrom mtom mnow mfre mkep mtap mlef mtak mbes mrow mint mrnd mplo mhio mtox mtol) ++ (cw g cy cP cLo cHi cpl ctb ctl ctf ctp ctk cts cth cob col cso cha chs cbe ctr cgl cgh cll clh cta cme cps cwh cal cah)) 2361 [(3, .int (nI i)), (2, .ref (h 0)), (1, .ref (g 28)), (0, .ref b)] []) : JK p l e room_1 s m #[Value.ref b] below meth c D A Q 4 65 26217 ((mw h cy mthr mfrp mact mtpd msiz matx mfrm mtok mval mfk mfpl mbem mtrs mtrl mrom mtom mnow mfre mkep mtap mlef mtak mbes mrow mint mrnd mplo mhio mtox mtol) ++ (cw g cy cP cLo cHi cpl ctb ctl ctf ctp ctk cts cth cob col cso cha chs cbe ctr cgl cgh cll clh cta cme cps cwh cal cah)) 2001 [(3, .int (nI i)), (2, .ref (h 0)), (1, .ref (g 28)), (0, .ref b)] [] := by
  obtain ⟨r, ocP, ocLo, ocHi, e1, e2, hr2⟩ := sim_together (p1 := xs (nI i + (1 : Int32)).toNatClampNeg) (p2 := xs (nI i + (2 : Int32)).toNatClampNeg) (p3 := xs (nI i + (3 : Int32)).toNatClampNeg) (p4 := xs (nI i + (4 : Int32)).toNatClampNeg) hr
  refine kAloadn C dL_law_2001 rfl 2 rfl ?_
  refine kAloadn C dL_law_2002 rfl 3 rfl ?_
  refine kIloadn C dL_law_2003 rfl 0 rfl ?_
  refine kIconst C (1 : Int32) dL_law_2004 ki_1 ?_
  refine kIadd C dL_law_2005 ?_
  refine kSld C hX hbl hbA (sc_in1 hi hL) dL_law_2006 ?_
  refine kAloadn C dL_law_2007 rfl 3 rfl ?_
  refine kIloadn C dL_law_2008 rfl 0 rfl ?_
  refine kIconst C (2 : Int32) dL_law_2009 ki_2 ?_
  refine kIadd C dL_law_2010 ?_
  refine kSld C hX hbl hbA (sc_in2 hi hL) dL_law_2011 ?_
  refine kAloadn C dL_law_2012 rfl 3 rfl ?_
  refine kIloadn C dL_law_2013 rfl 0 rfl ?_
  refine kIconst C (3 : Int32) dL_law_2014 ki_3 ?_
  refine kIadd C dL_law_2015 ?_
  refine kSld C hX hbl hbA (sc_in3 hi hL) dL_law_2016 ?_
  refine kAloadn C dL_law_2017 rfl 3 rfl ?_
  refine kIloadn C dL_law_2018 rfl 0 rfl ?_
  refine kIconst C (4 : Int32) dL_law_2019 ki_4 ?_
  refine kIadd C dL_law_2020 ?_
  refine kSld C hX hbl hbA (sc_in4 hi hL) dL_law_2021 ?_
  refine kV C (X8_together_ok e1) vb_X8_together mk_RL_215 rfl rc28 ⟨Nat.le_of_ble_eq_true rfl, Nat.le_of_ble_eq_true rfl⟩ ⟨Nat.le_of_ble_eq_true rfl, Nat.le_of_ble_eq_true rfl⟩ rfl (Nat.le_of_ble_eq_true rfl) dL_law_2022 ?_
  refine kAloadn C dL_law_2025 rfl 1 rfl ?_
  refine kAloadn C dL_law_2026 rfl 3 rfl ?_
  refine kIloadn C dL_law_2027 rfl 0 rfl ?_
  refine kIconst C (1 : Int32) dL_law_2028 ki_1 ?_
  refine kIadd C dL_law_2029 ?_
  refine kSld C hX hbl hbA (sc_in1 hi hL) dL_law_2030 ?_
  refine kAloadn C dL_law_2031 rfl 3 rfl ?_
  refine kIloadn C dL_law_2032 rfl 0 rfl ?_
  refine kIconst C (2 : Int32) dL_law_2033 ki_2 ?_
  refine kIadd C dL_law_2034 ?_
  refine kSld C hX hbl hbA (sc_in2 hi hL) dL_law_2035 ?_
  refine kAloadn C dL_law_2036 rfl 3 rfl ?_
  refine kIloadn C dL_law_2037 rfl 0 rfl ?_
  refine kIconst C (3 : Int32) dL_law_2038 ki_3 ?_
  refine kIadd C dL_law_2039 ?_
  refine kSld C hX hbl hbA (sc_in3 hi hL) dL_law_2040 ?_
  refine kAloadn C dL_law_2041 rfl 3 rfl ?_
  refine kIloadn C dL_law_2042 rfl 0 rfl ?_
  refine kIconst C (4 : Int32) dL_law_2043 ki_4 ?_
  refine kIadd C dL_law_2044 ?_
  refine kSld C hX hbl hbA (sc_in4 hi hL) dL_law_2045 ?_
  refine k_swap ?_
  refine kV C (X9_together_ok e2) vb_X9_together mk_RL_218 rfl rcM ⟨Nat.le_of_ble_eq_true rfl, Nat.le_of_ble_eq_true rfl⟩ ⟨Nat.le_of_ble_eq_true rfl, Nat.le_of_ble_eq_true rfl⟩ rfl (Nat.le_of_ble_eq_true rfl) dL_law_2046 ?_
  refine k_swap ?_
  refine kCmpEq C 2361 dL_law_2049 (by decide) (fun _ => ?_) (fun q => absurd rfl q)
  exact kk ocP ocLo ocHi cpl ctb ctl ctf ctp ctk cts cth cob col cso cha chs cbe ctr cgl cgh cll clh cta cme cps cwh cal cah mthr mfrp mact mtpd msiz matx mfrm mtok mval mfk mfpl mbem mtrs mtrl mrom mtom mnow mfre mkep mtap mlef mtak mbes mrow mint mrnd mplo mhio mtox mtol hr2
set_option maxHeartbeats 4000000 in
theorem law_half (C : Cx p l room_1 s m #[Value.ref b] meth c code 4 RL ret D cy G A) (hX : va_X b L xs s s.heap) (hbl : b < s.heap.size) (hbA : ¬ A b) {i : Nat} (hi : i + 6 ≤ L) (hL : L ≤ 3072) (hr : Rel cP cLo cHi ctb ctl ctf ctp cob col cso cha chs mact mtpd mfk mfpl mtom mnow mkep mtap mtol)
    (kk : ∀ (cP : Nat → Int32) (cLo : Nat → Int64) (cHi : Nat → Int64) (cpl : Nat → Int32) (ctb : Nat → Int32) (ctl : Int32) (ctf : Int32) (ctp : Int32) (ctk : Int32) (cts : Int32) (cth : Int32) (cob : Nat → Int32) (col : Int32) (cso : Nat → Int32) (cha : Int32) (chs : Int32) (cbe : Int32) (ctr : Int32) (cgl : Nat → Int64) (cgh : Nat → Int64) (cll : Nat → Int64) (clh : Nat → Int64) (cta : Nat → Int32) (cme : Nat → Int32) (cps : Int32) (cwh : Nat → Int32) (cal : Nat → Int64) (cah : Nat → Int64) (mthr : Int32) (mfrp : Int32) (mact : Int32) (mtpd : Int32) (msiz : Int32) (matx : Int32) (mfrm : Int32) (mtok : Int32) (mval : Int32) (mfk : Int32) (mfpl : Int32) (mbem : Int32) (mtrs : Int32) (mtrl : Int32) (mrom : Int32) (mtom : Int32) (mnow : Nat → Int32) (mfre : Nat → Int32) (mkep : Nat → Int32) (mtap : Nat → Int32) (mlef : Nat → Int32) (mtak : Nat → Int32) (mbes : Nat → Int32) (mrow : Nat → Int32) (mint : Nat → Int32) (mrnd : Nat → Int32) (mplo : Nat → Int32) (mhio : Nat → Int32) (mtox : Nat → Int32) (mtol : Nat → Int32), Rel cP cLo cHi ctb ctl ctf ctp cob col cso cha chs mact mtpd mfk mfpl mtom mnow mkep mtap mtol → JK p l e room_1 s m #[Value.ref b] below meth c D A Q 4 65 26217 ((mw h cy mthr mfrp mact mtpd msiz matx mfrm mtok mval mfk mfpl mbem mtrs mtrl mrom mtom mnow mfre mkep mtap mlef mtak mbes mrow mint mrnd mplo mhio mtox mtol) ++ (cw g cy cP cLo cHi cpl ctb ctl ctf ctp ctk cts cth cob col cso cha chs cbe ctr cgl cgh cll clh cta cme cps cwh cal cah)) 2361 [(3, .int (nI i)), (2, .ref (h 0)), (1, .ref (g 28)), (0, .ref b)] []) : JK p l e room_1 s m #[Value.ref b] below meth c D A Q 4 65 26217 ((mw h cy mthr mfrp mact mtpd msiz matx mfrm mtok mval mfk mfpl mbem mtrs mtrl mrom mtom mnow mfre mkep mtap mlef mtak mbes mrow mint mrnd mplo mhio mtox mtol) ++ (cw g cy cP cLo cHi cpl ctb ctl ctf ctp ctk cts cth cob col cso cha chs cbe ctr cgl cgh cll clh cta cme cps cwh cal cah)) 2054 [(3, .int (nI i)), (2, .ref (h 0)), (1, .ref (g 28)), (0, .ref b)] [] := by
  obtain ⟨r, e1, e2, hr2⟩ := sim_half (p1 := xs (nI i + (1 : Int32)).toNatClampNeg) hr
  refine kAloadn C dL_law_2054 rfl 2 rfl ?_
  refine kAloadn C dL_law_2055 rfl 3 rfl ?_
  refine kIloadn C dL_law_2056 rfl 0 rfl ?_
  refine kIconst C (1 : Int32) dL_law_2057 ki_1 ?_
  refine kIadd C dL_law_2058 ?_
  refine kSld C hX hbl hbA (sc_in1 hi hL) dL_law_2059 ?_
  refine kV C (X8_half_ok e1) vb_X8_half mk_RL_219 rfl rc28 ⟨Nat.le_of_ble_eq_true rfl, Nat.le_of_ble_eq_true rfl⟩ ⟨Nat.le_of_ble_eq_true rfl, Nat.le_of_ble_eq_true rfl⟩ rfl (Nat.le_of_ble_eq_true rfl) dL_law_2060 ?_
  refine kAloadn C dL_law_2063 rfl 1 rfl ?_
  refine kAloadn C dL_law_2064 rfl 3 rfl ?_
  refine kIloadn C dL_law_2065 rfl 0 rfl ?_
  refine kIconst C (1 : Int32) dL_law_2066 ki_1 ?_
  refine kIadd C dL_law_2067 ?_
  refine kSld C hX hbl hbA (sc_in1 hi hL) dL_law_2068 ?_
  refine k_swap ?_
  refine kV C (X9_half_ok e2) vb_X9_half mk_RL_222 rfl rcM ⟨Nat.le_of_ble_eq_true rfl, Nat.le_of_ble_eq_true rfl⟩ ⟨Nat.le_of_ble_eq_true rfl, Nat.le_of_ble_eq_true rfl⟩ rfl (Nat.le_of_ble_eq_true rfl) dL_law_2069 ?_
  refine k_swap ?_
  refine kCmpEq C 2361 dL_law_2072 (by decide) (fun _ => ?_) (fun q => absurd rfl q)
  exact kk cP cLo cHi cpl ctb ctl ctf ctp ctk cts cth cob col cso cha chs cbe ctr cgl cgh cll clh cta cme cps cwh cal cah mthr mfrp mact mtpd msiz matx mfrm mtok mval mfk mfpl mbem mtrs mtrl mrom mtom mnow mfre mkep mtap mlef mtak mbes mrow mint mrnd mplo mhio mtox mtol hr2
set_option maxHeartbeats 4000000 in
theorem law_next (C : Cx p l room_1 s m #[Value.ref b] meth c code 4 RL ret D cy G A) (hX : va_X b L xs s s.heap) (hbl : b < s.heap.size) (hbA : ¬ A b) {i : Nat} (hi : i + 6 ≤ L) (hL : L ≤ 3072) (hr : Rel cP cLo cHi ctb ctl ctf ctp cob col cso cha chs mact mtpd mfk mfpl mtom mnow mkep mtap mtol)
    (kk : ∀ (cP : Nat → Int32) (cLo : Nat → Int64) (cHi : Nat → Int64) (cpl : Nat → Int32) (ctb : Nat → Int32) (ctl : Int32) (ctf : Int32) (ctp : Int32) (ctk : Int32) (cts : Int32) (cth : Int32) (cob : Nat → Int32) (col : Int32) (cso : Nat → Int32) (cha : Int32) (chs : Int32) (cbe : Int32) (ctr : Int32) (cgl : Nat → Int64) (cgh : Nat → Int64) (cll : Nat → Int64) (clh : Nat → Int64) (cta : Nat → Int32) (cme : Nat → Int32) (cps : Int32) (cwh : Nat → Int32) (cal : Nat → Int64) (cah : Nat → Int64) (mthr : Int32) (mfrp : Int32) (mact : Int32) (mtpd : Int32) (msiz : Int32) (matx : Int32) (mfrm : Int32) (mtok : Int32) (mval : Int32) (mfk : Int32) (mfpl : Int32) (mbem : Int32) (mtrs : Int32) (mtrl : Int32) (mrom : Int32) (mtom : Int32) (mnow : Nat → Int32) (mfre : Nat → Int32) (mkep : Nat → Int32) (mtap : Nat → Int32) (mlef : Nat → Int32) (mtak : Nat → Int32) (mbes : Nat → Int32) (mrow : Nat → Int32) (mint : Nat → Int32) (mrnd : Nat → Int32) (mplo : Nat → Int32) (mhio : Nat → Int32) (mtox : Nat → Int32) (mtol : Nat → Int32), Rel cP cLo cHi ctb ctl ctf ctp cob col cso cha chs mact mtpd mfk mfpl mtom mnow mkep mtap mtol → JK p l e room_1 s m #[Value.ref b] below meth c D A Q 4 65 26217 ((mw h cy mthr mfrp mact mtpd msiz matx mfrm mtok mval mfk mfpl mbem mtrs mtrl mrom mtom mnow mfre mkep mtap mlef mtak mbes mrow mint mrnd mplo mhio mtox mtol) ++ (cw g cy cP cLo cHi cpl ctb ctl ctf ctp ctk cts cth cob col cso cha chs cbe ctr cgl cgh cll clh cta cme cps cwh cal cah)) 2361 [(3, .int (nI i)), (2, .ref (h 0)), (1, .ref (g 28)), (0, .ref b)] []) : JK p l e room_1 s m #[Value.ref b] below meth c D A Q 4 65 26217 ((mw h cy mthr mfrp mact mtpd msiz matx mfrm mtok mval mfk mfpl mbem mtrs mtrl mrom mtom mnow mfre mkep mtap mlef mtak mbes mrow mint mrnd mplo mhio mtox mtol) ++ (cw g cy cP cLo cHi cpl ctb ctl ctf ctp ctk cts cth cob col cso cha chs cbe ctr cgl cgh cll clh cta cme cps cwh cal cah)) 2077 [(3, .int (nI i)), (2, .ref (h 0)), (1, .ref (g 28)), (0, .ref b)] [] := by
  obtain ⟨r, e1, e2, hr2⟩ := sim_next (p1 := xs (nI i + (1 : Int32)).toNatClampNeg) (p2 := xs (nI i + (2 : Int32)).toNatClampNeg) hr
  refine kAloadn C dL_law_2077 rfl 2 rfl ?_
  refine kAloadn C dL_law_2078 rfl 3 rfl ?_
  refine kIloadn C dL_law_2079 rfl 0 rfl ?_
  refine kIconst C (1 : Int32) dL_law_2080 ki_1 ?_
  refine kIadd C dL_law_2081 ?_
  refine kSld C hX hbl hbA (sc_in1 hi hL) dL_law_2082 ?_
  refine kAloadn C dL_law_2083 rfl 3 rfl ?_
  refine kIloadn C dL_law_2084 rfl 0 rfl ?_
  refine kIconst C (2 : Int32) dL_law_2085 ki_2 ?_
  refine kIadd C dL_law_2086 ?_
  refine kSld C hX hbl hbA (sc_in2 hi hL) dL_law_2087 ?_
  refine kV C (X8_next_ok e1) vb_X8_next mk_RL_223 rfl rc28 ⟨Nat.le_of_ble_eq_true rfl, Nat.le_of_ble_eq_true rfl⟩ ⟨Nat.le_of_ble_eq_true rfl, Nat.le_of_ble_eq_true rfl⟩ rfl (Nat.le_of_ble_eq_true rfl) dL_law_2088 ?_
  refine kAloadn C dL_law_2091 rfl 1 rfl ?_
  refine kAloadn C dL_law_2092 rfl 3 rfl ?_
  refine kIloadn C dL_law_2093 rfl 0 rfl ?_
  refine kIconst C (1 : Int32) dL_law_2094 ki_1 ?_
  refine kIadd C dL_law_2095 ?_
  refine kSld C hX hbl hbA (sc_in1 hi hL) dL_law_2096 ?_
  refine kAloadn C dL_law_2097 rfl 3 rfl ?_
  refine kIloadn C dL_law_2098 rfl 0 rfl ?_
  refine kIconst C (2 : Int32) dL_law_2099 ki_2 ?_
  refine kIadd C dL_law_2100 ?_
  refine kSld C hX hbl hbA (sc_in2 hi hL) dL_law_2101 ?_
  refine k_swap ?_
  refine kV C (X9_next_ok e2) vb_X9_next mk_RL_226 rfl rcM ⟨Nat.le_of_ble_eq_true rfl, Nat.le_of_ble_eq_true rfl⟩ ⟨Nat.le_of_ble_eq_true rfl, Nat.le_of_ble_eq_true rfl⟩ rfl (Nat.le_of_ble_eq_true rfl) dL_law_2102 ?_
  refine k_swap ?_
  refine kCmpEq C 2361 dL_law_2105 (by decide) (fun _ => ?_) (fun q => absurd rfl q)
  exact kk cP cLo cHi cpl ctb ctl ctf ctp ctk cts cth cob col cso cha chs cbe ctr cgl cgh cll clh cta cme cps cwh cal cah mthr mfrp mact mtpd msiz matx mfrm mtok mval mfk mfpl mbem mtrs mtrl mrom mtom mnow mfre mkep mtap mlef mtak mbes mrow mint mrnd mplo mhio mtox mtol hr2
set_option maxHeartbeats 4000000 in
theorem law_apart (C : Cx p l room_1 s m #[Value.ref b] meth c code 4 RL ret D cy G A) (hX : va_X b L xs s s.heap) (hbl : b < s.heap.size) (hbA : ¬ A b) {i : Nat} (hi : i + 6 ≤ L) (hL : L ≤ 3072) (hr : Rel cP cLo cHi ctb ctl ctf ctp cob col cso cha chs mact mtpd mfk mfpl mtom mnow mkep mtap mtol)
    (kk : ∀ (cP : Nat → Int32) (cLo : Nat → Int64) (cHi : Nat → Int64) (cpl : Nat → Int32) (ctb : Nat → Int32) (ctl : Int32) (ctf : Int32) (ctp : Int32) (ctk : Int32) (cts : Int32) (cth : Int32) (cob : Nat → Int32) (col : Int32) (cso : Nat → Int32) (cha : Int32) (chs : Int32) (cbe : Int32) (ctr : Int32) (cgl : Nat → Int64) (cgh : Nat → Int64) (cll : Nat → Int64) (clh : Nat → Int64) (cta : Nat → Int32) (cme : Nat → Int32) (cps : Int32) (cwh : Nat → Int32) (cal : Nat → Int64) (cah : Nat → Int64) (mthr : Int32) (mfrp : Int32) (mact : Int32) (mtpd : Int32) (msiz : Int32) (matx : Int32) (mfrm : Int32) (mtok : Int32) (mval : Int32) (mfk : Int32) (mfpl : Int32) (mbem : Int32) (mtrs : Int32) (mtrl : Int32) (mrom : Int32) (mtom : Int32) (mnow : Nat → Int32) (mfre : Nat → Int32) (mkep : Nat → Int32) (mtap : Nat → Int32) (mlef : Nat → Int32) (mtak : Nat → Int32) (mbes : Nat → Int32) (mrow : Nat → Int32) (mint : Nat → Int32) (mrnd : Nat → Int32) (mplo : Nat → Int32) (mhio : Nat → Int32) (mtox : Nat → Int32) (mtol : Nat → Int32), Rel cP cLo cHi ctb ctl ctf ctp cob col cso cha chs mact mtpd mfk mfpl mtom mnow mkep mtap mtol → JK p l e room_1 s m #[Value.ref b] below meth c D A Q 4 65 26217 ((mw h cy mthr mfrp mact mtpd msiz matx mfrm mtok mval mfk mfpl mbem mtrs mtrl mrom mtom mnow mfre mkep mtap mlef mtak mbes mrow mint mrnd mplo mhio mtox mtol) ++ (cw g cy cP cLo cHi cpl ctb ctl ctf ctp ctk cts cth cob col cso cha chs cbe ctr cgl cgh cll clh cta cme cps cwh cal cah)) 2361 [(3, .int (nI i)), (2, .ref (h 0)), (1, .ref (g 28)), (0, .ref b)] []) : JK p l e room_1 s m #[Value.ref b] below meth c D A Q 4 65 26217 ((mw h cy mthr mfrp mact mtpd msiz matx mfrm mtok mval mfk mfpl mbem mtrs mtrl mrom mtom mnow mfre mkep mtap mlef mtak mbes mrow mint mrnd mplo mhio mtox mtol) ++ (cw g cy cP cLo cHi cpl ctb ctl ctf ctp ctk cts cth cob col cso cha chs cbe ctr cgl cgh cll clh cta cme cps cwh cal cah)) 2110 [(3, .int (nI i)), (2, .ref (h 0)), (1, .ref (g 28)), (0, .ref b)] [] := by
  obtain ⟨r, ocP, ocLo, ocHi, e1, e2, hr2⟩ := sim_apart (p1 := xs (nI i + (1 : Int32)).toNatClampNeg) (p2 := xs (nI i + (2 : Int32)).toNatClampNeg) hr
  refine kAloadn C dL_law_2110 rfl 2 rfl ?_
  refine kAloadn C dL_law_2111 rfl 3 rfl ?_
  refine kIloadn C dL_law_2112 rfl 0 rfl ?_
  refine kIconst C (1 : Int32) dL_law_2113 ki_1 ?_
  refine kIadd C dL_law_2114 ?_
  refine kSld C hX hbl hbA (sc_in1 hi hL) dL_law_2115 ?_
  refine kAloadn C dL_law_2116 rfl 3 rfl ?_
  refine kIloadn C dL_law_2117 rfl 0 rfl ?_
  refine kIconst C (2 : Int32) dL_law_2118 ki_2 ?_
  refine kIadd C dL_law_2119 ?_
  refine kSld C hX hbl hbA (sc_in2 hi hL) dL_law_2120 ?_
  refine kV C (X8_apart_ok e1) vb_X8_apart mk_RL_227 rfl rc28 ⟨Nat.le_of_ble_eq_true rfl, Nat.le_of_ble_eq_true rfl⟩ ⟨Nat.le_of_ble_eq_true rfl, Nat.le_of_ble_eq_true rfl⟩ rfl (Nat.le_of_ble_eq_true rfl) dL_law_2121 ?_
  refine kAloadn C dL_law_2124 rfl 1 rfl ?_
  refine kAloadn C dL_law_2125 rfl 3 rfl ?_
  refine kIloadn C dL_law_2126 rfl 0 rfl ?_
  refine kIconst C (1 : Int32) dL_law_2127 ki_1 ?_
  refine kIadd C dL_law_2128 ?_
  refine kSld C hX hbl hbA (sc_in1 hi hL) dL_law_2129 ?_
  refine kAloadn C dL_law_2130 rfl 3 rfl ?_
  refine kIloadn C dL_law_2131 rfl 0 rfl ?_
  refine kIconst C (2 : Int32) dL_law_2132 ki_2 ?_
  refine kIadd C dL_law_2133 ?_
  refine kSld C hX hbl hbA (sc_in2 hi hL) dL_law_2134 ?_
  refine k_swap ?_
  refine kV C (X9_apart_ok e2) vb_X9_apart mk_RL_230 rfl rcM ⟨Nat.le_of_ble_eq_true rfl, Nat.le_of_ble_eq_true rfl⟩ ⟨Nat.le_of_ble_eq_true rfl, Nat.le_of_ble_eq_true rfl⟩ rfl (Nat.le_of_ble_eq_true rfl) dL_law_2135 ?_
  refine k_swap ?_
  refine kCmpEq C 2361 dL_law_2138 (by decide) (fun _ => ?_) (fun q => absurd rfl q)
  exact kk ocP ocLo ocHi cpl ctb ctl ctf ctp ctk cts cth cob col cso cha chs cbe ctr cgl cgh cll clh cta cme cps cwh cal cah mthr mfrp mact mtpd msiz matx mfrm mtok mval mfk mfpl mbem mtrs mtrl mrom mtom mnow mfre mkep mtap mlef mtak mbes mrow mint mrnd mplo mhio mtox mtol hr2
set_option maxHeartbeats 4000000 in
theorem law_covers (C : Cx p l room_1 s m #[Value.ref b] meth c code 4 RL ret D cy G A) (hX : va_X b L xs s s.heap) (hbl : b < s.heap.size) (hbA : ¬ A b) {i : Nat} (hi : i + 6 ≤ L) (hL : L ≤ 3072) (hr : Rel cP cLo cHi ctb ctl ctf ctp cob col cso cha chs mact mtpd mfk mfpl mtom mnow mkep mtap mtol)
    (kk : ∀ (cP : Nat → Int32) (cLo : Nat → Int64) (cHi : Nat → Int64) (cpl : Nat → Int32) (ctb : Nat → Int32) (ctl : Int32) (ctf : Int32) (ctp : Int32) (ctk : Int32) (cts : Int32) (cth : Int32) (cob : Nat → Int32) (col : Int32) (cso : Nat → Int32) (cha : Int32) (chs : Int32) (cbe : Int32) (ctr : Int32) (cgl : Nat → Int64) (cgh : Nat → Int64) (cll : Nat → Int64) (clh : Nat → Int64) (cta : Nat → Int32) (cme : Nat → Int32) (cps : Int32) (cwh : Nat → Int32) (cal : Nat → Int64) (cah : Nat → Int64) (mthr : Int32) (mfrp : Int32) (mact : Int32) (mtpd : Int32) (msiz : Int32) (matx : Int32) (mfrm : Int32) (mtok : Int32) (mval : Int32) (mfk : Int32) (mfpl : Int32) (mbem : Int32) (mtrs : Int32) (mtrl : Int32) (mrom : Int32) (mtom : Int32) (mnow : Nat → Int32) (mfre : Nat → Int32) (mkep : Nat → Int32) (mtap : Nat → Int32) (mlef : Nat → Int32) (mtak : Nat → Int32) (mbes : Nat → Int32) (mrow : Nat → Int32) (mint : Nat → Int32) (mrnd : Nat → Int32) (mplo : Nat → Int32) (mhio : Nat → Int32) (mtox : Nat → Int32) (mtol : Nat → Int32), Rel cP cLo cHi ctb ctl ctf ctp cob col cso cha chs mact mtpd mfk mfpl mtom mnow mkep mtap mtol → JK p l e room_1 s m #[Value.ref b] below meth c D A Q 4 65 26217 ((mw h cy mthr mfrp mact mtpd msiz matx mfrm mtok mval mfk mfpl mbem mtrs mtrl mrom mtom mnow mfre mkep mtap mlef mtak mbes mrow mint mrnd mplo mhio mtox mtol) ++ (cw g cy cP cLo cHi cpl ctb ctl ctf ctp ctk cts cth cob col cso cha chs cbe ctr cgl cgh cll clh cta cme cps cwh cal cah)) 2361 [(3, .int (nI i)), (2, .ref (h 0)), (1, .ref (g 28)), (0, .ref b)] []) : JK p l e room_1 s m #[Value.ref b] below meth c D A Q 4 65 26217 ((mw h cy mthr mfrp mact mtpd msiz matx mfrm mtok mval mfk mfpl mbem mtrs mtrl mrom mtom mnow mfre mkep mtap mlef mtak mbes mrow mint mrnd mplo mhio mtox mtol) ++ (cw g cy cP cLo cHi cpl ctb ctl ctf ctp ctk cts cth cob col cso cha chs cbe ctr cgl cgh cll clh cta cme cps cwh cal cah)) 2143 [(3, .int (nI i)), (2, .ref (h 0)), (1, .ref (g 28)), (0, .ref b)] [] := by
  obtain ⟨r, ocP, ocLo, ocHi, e1, e2, hr2⟩ := sim_covers (p1 := xs (nI i + (1 : Int32)).toNatClampNeg) (p2 := xs (nI i + (2 : Int32)).toNatClampNeg) hr
  refine kAloadn C dL_law_2143 rfl 2 rfl ?_
  refine kAloadn C dL_law_2144 rfl 3 rfl ?_
  refine kIloadn C dL_law_2145 rfl 0 rfl ?_
  refine kIconst C (1 : Int32) dL_law_2146 ki_1 ?_
  refine kIadd C dL_law_2147 ?_
  refine kSld C hX hbl hbA (sc_in1 hi hL) dL_law_2148 ?_
  refine kAloadn C dL_law_2149 rfl 3 rfl ?_
  refine kIloadn C dL_law_2150 rfl 0 rfl ?_
  refine kIconst C (2 : Int32) dL_law_2151 ki_2 ?_
  refine kIadd C dL_law_2152 ?_
  refine kSld C hX hbl hbA (sc_in2 hi hL) dL_law_2153 ?_
  refine kV C (X8_covers_ok e1) vb_X8_covers mk_RL_231 rfl rc28 ⟨Nat.le_of_ble_eq_true rfl, Nat.le_of_ble_eq_true rfl⟩ ⟨Nat.le_of_ble_eq_true rfl, Nat.le_of_ble_eq_true rfl⟩ rfl (Nat.le_of_ble_eq_true rfl) dL_law_2154 ?_
  refine kAloadn C dL_law_2157 rfl 1 rfl ?_
  refine kAloadn C dL_law_2158 rfl 3 rfl ?_
  refine kIloadn C dL_law_2159 rfl 0 rfl ?_
  refine kIconst C (1 : Int32) dL_law_2160 ki_1 ?_
  refine kIadd C dL_law_2161 ?_
  refine kSld C hX hbl hbA (sc_in1 hi hL) dL_law_2162 ?_
  refine kAloadn C dL_law_2163 rfl 3 rfl ?_
  refine kIloadn C dL_law_2164 rfl 0 rfl ?_
  refine kIconst C (2 : Int32) dL_law_2165 ki_2 ?_
  refine kIadd C dL_law_2166 ?_
  refine kSld C hX hbl hbA (sc_in2 hi hL) dL_law_2167 ?_
  refine k_swap ?_
  refine kV C (X9_covers_ok e2) vb_X9_covers mk_RL_234 rfl rcM ⟨Nat.le_of_ble_eq_true rfl, Nat.le_of_ble_eq_true rfl⟩ ⟨Nat.le_of_ble_eq_true rfl, Nat.le_of_ble_eq_true rfl⟩ rfl (Nat.le_of_ble_eq_true rfl) dL_law_2168 ?_
  refine k_swap ?_
  refine kCmpEq C 2361 dL_law_2171 (by decide) (fun _ => ?_) (fun q => absurd rfl q)
  exact kk ocP ocLo ocHi cpl ctb ctl ctf ctp ctk cts cth cob col cso cha chs cbe ctr cgl cgh cll clh cta cme cps cwh cal cah mthr mfrp mact mtpd msiz matx mfrm mtok mval mfk mfpl mbem mtrs mtrl mrom mtom mnow mfre mkep mtap mlef mtak mbes mrow mint mrnd mplo mhio mtox mtol hr2
set_option maxHeartbeats 4000000 in
theorem law_height (C : Cx p l room_1 s m #[Value.ref b] meth c code 4 RL ret D cy G A) (hX : va_X b L xs s s.heap) (hbl : b < s.heap.size) (hbA : ¬ A b) {i : Nat} (hi : i + 6 ≤ L) (hL : L ≤ 3072) (hr : Rel cP cLo cHi ctb ctl ctf ctp cob col cso cha chs mact mtpd mfk mfpl mtom mnow mkep mtap mtol)
    (kk : ∀ (cP : Nat → Int32) (cLo : Nat → Int64) (cHi : Nat → Int64) (cpl : Nat → Int32) (ctb : Nat → Int32) (ctl : Int32) (ctf : Int32) (ctp : Int32) (ctk : Int32) (cts : Int32) (cth : Int32) (cob : Nat → Int32) (col : Int32) (cso : Nat → Int32) (cha : Int32) (chs : Int32) (cbe : Int32) (ctr : Int32) (cgl : Nat → Int64) (cgh : Nat → Int64) (cll : Nat → Int64) (clh : Nat → Int64) (cta : Nat → Int32) (cme : Nat → Int32) (cps : Int32) (cwh : Nat → Int32) (cal : Nat → Int64) (cah : Nat → Int64) (mthr : Int32) (mfrp : Int32) (mact : Int32) (mtpd : Int32) (msiz : Int32) (matx : Int32) (mfrm : Int32) (mtok : Int32) (mval : Int32) (mfk : Int32) (mfpl : Int32) (mbem : Int32) (mtrs : Int32) (mtrl : Int32) (mrom : Int32) (mtom : Int32) (mnow : Nat → Int32) (mfre : Nat → Int32) (mkep : Nat → Int32) (mtap : Nat → Int32) (mlef : Nat → Int32) (mtak : Nat → Int32) (mbes : Nat → Int32) (mrow : Nat → Int32) (mint : Nat → Int32) (mrnd : Nat → Int32) (mplo : Nat → Int32) (mhio : Nat → Int32) (mtox : Nat → Int32) (mtol : Nat → Int32), Rel cP cLo cHi ctb ctl ctf ctp cob col cso cha chs mact mtpd mfk mfpl mtom mnow mkep mtap mtol → JK p l e room_1 s m #[Value.ref b] below meth c D A Q 4 65 26217 ((mw h cy mthr mfrp mact mtpd msiz matx mfrm mtok mval mfk mfpl mbem mtrs mtrl mrom mtom mnow mfre mkep mtap mlef mtak mbes mrow mint mrnd mplo mhio mtox mtol) ++ (cw g cy cP cLo cHi cpl ctb ctl ctf ctp ctk cts cth cob col cso cha chs cbe ctr cgl cgh cll clh cta cme cps cwh cal cah)) 2361 [(3, .int (nI i)), (2, .ref (h 0)), (1, .ref (g 28)), (0, .ref b)] []) : JK p l e room_1 s m #[Value.ref b] below meth c D A Q 4 65 26217 ((mw h cy mthr mfrp mact mtpd msiz matx mfrm mtok mval mfk mfpl mbem mtrs mtrl mrom mtom mnow mfre mkep mtap mlef mtak mbes mrow mint mrnd mplo mhio mtox mtol) ++ (cw g cy cP cLo cHi cpl ctb ctl ctf ctp ctk cts cth cob col cso cha chs cbe ctr cgl cgh cll clh cta cme cps cwh cal cah)) 2176 [(3, .int (nI i)), (2, .ref (h 0)), (1, .ref (g 28)), (0, .ref b)] [] := by
  obtain ⟨r, ocP, ocLo, ocHi, omhio, e1, e2, hr2⟩ := sim_height (p1 := xs (nI i + (1 : Int32)).toNatClampNeg) (p2 := xs (nI i + (2 : Int32)).toNatClampNeg) hr
  refine kAloadn C dL_law_2176 rfl 2 rfl ?_
  refine kAloadn C dL_law_2177 rfl 3 rfl ?_
  refine kIloadn C dL_law_2178 rfl 0 rfl ?_
  refine kIconst C (1 : Int32) dL_law_2179 ki_1 ?_
  refine kIadd C dL_law_2180 ?_
  refine kSld C hX hbl hbA (sc_in1 hi hL) dL_law_2181 ?_
  refine kAloadn C dL_law_2182 rfl 3 rfl ?_
  refine kIloadn C dL_law_2183 rfl 0 rfl ?_
  refine kIconst C (2 : Int32) dL_law_2184 ki_2 ?_
  refine kIadd C dL_law_2185 ?_
  refine kSld C hX hbl hbA (sc_in2 hi hL) dL_law_2186 ?_
  refine kV C (X8_height_ok e1) vb_X8_height mk_RL_235 rfl rc28 ⟨Nat.le_of_ble_eq_true rfl, Nat.le_of_ble_eq_true rfl⟩ ⟨Nat.le_of_ble_eq_true rfl, Nat.le_of_ble_eq_true rfl⟩ rfl (Nat.le_of_ble_eq_true rfl) dL_law_2187 ?_
  refine kAloadn C dL_law_2190 rfl 1 rfl ?_
  refine kAloadn C dL_law_2191 rfl 3 rfl ?_
  refine kIloadn C dL_law_2192 rfl 0 rfl ?_
  refine kIconst C (1 : Int32) dL_law_2193 ki_1 ?_
  refine kIadd C dL_law_2194 ?_
  refine kSld C hX hbl hbA (sc_in1 hi hL) dL_law_2195 ?_
  refine kAloadn C dL_law_2196 rfl 3 rfl ?_
  refine kIloadn C dL_law_2197 rfl 0 rfl ?_
  refine kIconst C (2 : Int32) dL_law_2198 ki_2 ?_
  refine kIadd C dL_law_2199 ?_
  refine kSld C hX hbl hbA (sc_in2 hi hL) dL_law_2200 ?_
  refine k_swap ?_
  refine kV C (X9_height_ok e2) vb_X9_height mk_RL_238 rfl rcM ⟨Nat.le_of_ble_eq_true rfl, Nat.le_of_ble_eq_true rfl⟩ ⟨Nat.le_of_ble_eq_true rfl, Nat.le_of_ble_eq_true rfl⟩ rfl (Nat.le_of_ble_eq_true rfl) dL_law_2201 ?_
  refine k_swap ?_
  refine kCmpEq C 2361 dL_law_2204 (by decide) (fun _ => ?_) (fun q => absurd rfl q)
  exact kk ocP ocLo ocHi cpl ctb ctl ctf ctp ctk cts cth cob col cso cha chs cbe ctr cgl cgh cll clh cta cme cps cwh cal cah mthr mfrp mact mtpd msiz matx mfrm mtok mval mfk mfpl mbem mtrs mtrl mrom mtom mnow mfre mkep mtap mlef mtak mbes mrow mint mrnd mplo omhio mtox mtol hr2
set_option maxHeartbeats 4000000 in
theorem law_trace (C : Cx p l room_1 s m #[Value.ref b] meth c code 4 RL ret D cy G A) (hX : va_X b L xs s s.heap) (hbl : b < s.heap.size) (hbA : ¬ A b) {i : Nat} (hi : i + 6 ≤ L) (hL : L ≤ 3072) (hr : Rel cP cLo cHi ctb ctl ctf ctp cob col cso cha chs mact mtpd mfk mfpl mtom mnow mkep mtap mtol)
    (kk : ∀ (cP : Nat → Int32) (cLo : Nat → Int64) (cHi : Nat → Int64) (cpl : Nat → Int32) (ctb : Nat → Int32) (ctl : Int32) (ctf : Int32) (ctp : Int32) (ctk : Int32) (cts : Int32) (cth : Int32) (cob : Nat → Int32) (col : Int32) (cso : Nat → Int32) (cha : Int32) (chs : Int32) (cbe : Int32) (ctr : Int32) (cgl : Nat → Int64) (cgh : Nat → Int64) (cll : Nat → Int64) (clh : Nat → Int64) (cta : Nat → Int32) (cme : Nat → Int32) (cps : Int32) (cwh : Nat → Int32) (cal : Nat → Int64) (cah : Nat → Int64) (mthr : Int32) (mfrp : Int32) (mact : Int32) (mtpd : Int32) (msiz : Int32) (matx : Int32) (mfrm : Int32) (mtok : Int32) (mval : Int32) (mfk : Int32) (mfpl : Int32) (mbem : Int32) (mtrs : Int32) (mtrl : Int32) (mrom : Int32) (mtom : Int32) (mnow : Nat → Int32) (mfre : Nat → Int32) (mkep : Nat → Int32) (mtap : Nat → Int32) (mlef : Nat → Int32) (mtak : Nat → Int32) (mbes : Nat → Int32) (mrow : Nat → Int32) (mint : Nat → Int32) (mrnd : Nat → Int32) (mplo : Nat → Int32) (mhio : Nat → Int32) (mtox : Nat → Int32) (mtol : Nat → Int32), Rel cP cLo cHi ctb ctl ctf ctp cob col cso cha chs mact mtpd mfk mfpl mtom mnow mkep mtap mtol → JK p l e room_1 s m #[Value.ref b] below meth c D A Q 4 65 26217 ((mw h cy mthr mfrp mact mtpd msiz matx mfrm mtok mval mfk mfpl mbem mtrs mtrl mrom mtom mnow mfre mkep mtap mlef mtak mbes mrow mint mrnd mplo mhio mtox mtol) ++ (cw g cy cP cLo cHi cpl ctb ctl ctf ctp ctk cts cth cob col cso cha chs cbe ctr cgl cgh cll clh cta cme cps cwh cal cah)) 2361 [(3, .int (nI i)), (2, .ref (h 0)), (1, .ref (g 28)), (0, .ref b)] []) : JK p l e room_1 s m #[Value.ref b] below meth c D A Q 4 65 26217 ((mw h cy mthr mfrp mact mtpd msiz matx mfrm mtok mval mfk mfpl mbem mtrs mtrl mrom mtom mnow mfre mkep mtap mlef mtak mbes mrow mint mrnd mplo mhio mtox mtol) ++ (cw g cy cP cLo cHi cpl ctb ctl ctf ctp ctk cts cth cob col cso cha chs cbe ctr cgl cgh cll clh cta cme cps cwh cal cah)) 2209 [(3, .int (nI i)), (2, .ref (h 0)), (1, .ref (g 28)), (0, .ref b)] [] := by
  obtain ⟨r, ocP, ocLo, ocHi, ocso, ocha, ochs, omfrp, omact, omnow, omfre, omkep, e1, e2, hr2⟩ := sim_trace (p1 := xs (nI i + (1 : Int32)).toNatClampNeg) (p2 := xs (nI i + (2 : Int32)).toNatClampNeg) (p3 := xs (nI i + (3 : Int32)).toNatClampNeg) hr
  refine kAloadn C dL_law_2209 rfl 2 rfl ?_
  refine kAloadn C dL_law_2210 rfl 3 rfl ?_
  refine kIloadn C dL_law_2211 rfl 0 rfl ?_
  refine kIconst C (1 : Int32) dL_law_2212 ki_1 ?_
  refine kIadd C dL_law_2213 ?_
  refine kSld C hX hbl hbA (sc_in1 hi hL) dL_law_2214 ?_
  refine kAloadn C dL_law_2215 rfl 3 rfl ?_
  refine kIloadn C dL_law_2216 rfl 0 rfl ?_
  refine kIconst C (2 : Int32) dL_law_2217 ki_2 ?_
  refine kIadd C dL_law_2218 ?_
  refine kSld C hX hbl hbA (sc_in2 hi hL) dL_law_2219 ?_
  refine kAloadn C dL_law_2220 rfl 3 rfl ?_
  refine kIloadn C dL_law_2221 rfl 0 rfl ?_
  refine kIconst C (3 : Int32) dL_law_2222 ki_3 ?_
  refine kIadd C dL_law_2223 ?_
  refine kSld C hX hbl hbA (sc_in3 hi hL) dL_law_2224 ?_
  refine kV C (X8_trace_ok e1) vb_X8_trace mk_RL_239 rfl rc28 ⟨Nat.le_of_ble_eq_true rfl, Nat.le_of_ble_eq_true rfl⟩ ⟨Nat.le_of_ble_eq_true rfl, Nat.le_of_ble_eq_true rfl⟩ rfl (Nat.le_of_ble_eq_true rfl) dL_law_2225 ?_
  refine kAloadn C dL_law_2228 rfl 1 rfl ?_
  refine kAloadn C dL_law_2229 rfl 3 rfl ?_
  refine kIloadn C dL_law_2230 rfl 0 rfl ?_
  refine kIconst C (1 : Int32) dL_law_2231 ki_1 ?_
  refine kIadd C dL_law_2232 ?_
  refine kSld C hX hbl hbA (sc_in1 hi hL) dL_law_2233 ?_
  refine kAloadn C dL_law_2234 rfl 3 rfl ?_
  refine kIloadn C dL_law_2235 rfl 0 rfl ?_
  refine kIconst C (2 : Int32) dL_law_2236 ki_2 ?_
  refine kIadd C dL_law_2237 ?_
  refine kSld C hX hbl hbA (sc_in2 hi hL) dL_law_2238 ?_
  refine kAloadn C dL_law_2239 rfl 3 rfl ?_
  refine kIloadn C dL_law_2240 rfl 0 rfl ?_
  refine kIconst C (3 : Int32) dL_law_2241 ki_3 ?_
  refine kIadd C dL_law_2242 ?_
  refine kSld C hX hbl hbA (sc_in3 hi hL) dL_law_2243 ?_
  refine k_swap ?_
  refine kV C (X9_trace_ok e2) vb_X9_trace mk_RL_242 rfl rcM ⟨Nat.le_of_ble_eq_true rfl, Nat.le_of_ble_eq_true rfl⟩ ⟨Nat.le_of_ble_eq_true rfl, Nat.le_of_ble_eq_true rfl⟩ rfl (Nat.le_of_ble_eq_true rfl) dL_law_2244 ?_
  refine k_swap ?_
  refine kCmpEq C 2361 dL_law_2247 (by decide) (fun _ => ?_) (fun q => absurd rfl q)
  exact kk ocP ocLo ocHi cpl ctb ctl ctf ctp ctk cts cth cob col ocso ocha ochs cbe ctr cgl cgh cll clh cta cme cps cwh cal cah mthr omfrp omact mtpd msiz matx mfrm mtok mval mfk mfpl mbem mtrs mtrl mrom mtom omnow omfre omkep mtap mlef mtak mbes mrow mint mrnd mplo mhio mtox mtol hr2
set_option maxHeartbeats 4000000 in
theorem law_joint (C : Cx p l room_1 s m #[Value.ref b] meth c code 4 RL ret D cy G A) (hX : va_X b L xs s s.heap) (hbl : b < s.heap.size) (hbA : ¬ A b) {i : Nat} (hi : i + 6 ≤ L) (hL : L ≤ 3072) (hr : Rel cP cLo cHi ctb ctl ctf ctp cob col cso cha chs mact mtpd mfk mfpl mtom mnow mkep mtap mtol)
    (kk : ∀ (cP : Nat → Int32) (cLo : Nat → Int64) (cHi : Nat → Int64) (cpl : Nat → Int32) (ctb : Nat → Int32) (ctl : Int32) (ctf : Int32) (ctp : Int32) (ctk : Int32) (cts : Int32) (cth : Int32) (cob : Nat → Int32) (col : Int32) (cso : Nat → Int32) (cha : Int32) (chs : Int32) (cbe : Int32) (ctr : Int32) (cgl : Nat → Int64) (cgh : Nat → Int64) (cll : Nat → Int64) (clh : Nat → Int64) (cta : Nat → Int32) (cme : Nat → Int32) (cps : Int32) (cwh : Nat → Int32) (cal : Nat → Int64) (cah : Nat → Int64) (mthr : Int32) (mfrp : Int32) (mact : Int32) (mtpd : Int32) (msiz : Int32) (matx : Int32) (mfrm : Int32) (mtok : Int32) (mval : Int32) (mfk : Int32) (mfpl : Int32) (mbem : Int32) (mtrs : Int32) (mtrl : Int32) (mrom : Int32) (mtom : Int32) (mnow : Nat → Int32) (mfre : Nat → Int32) (mkep : Nat → Int32) (mtap : Nat → Int32) (mlef : Nat → Int32) (mtak : Nat → Int32) (mbes : Nat → Int32) (mrow : Nat → Int32) (mint : Nat → Int32) (mrnd : Nat → Int32) (mplo : Nat → Int32) (mhio : Nat → Int32) (mtox : Nat → Int32) (mtol : Nat → Int32), Rel cP cLo cHi ctb ctl ctf ctp cob col cso cha chs mact mtpd mfk mfpl mtom mnow mkep mtap mtol → JK p l e room_1 s m #[Value.ref b] below meth c D A Q 4 65 26217 ((mw h cy mthr mfrp mact mtpd msiz matx mfrm mtok mval mfk mfpl mbem mtrs mtrl mrom mtom mnow mfre mkep mtap mlef mtak mbes mrow mint mrnd mplo mhio mtox mtol) ++ (cw g cy cP cLo cHi cpl ctb ctl ctf ctp ctk cts cth cob col cso cha chs cbe ctr cgl cgh cll clh cta cme cps cwh cal cah)) 2361 [(3, .int (nI i)), (2, .ref (h 0)), (1, .ref (g 28)), (0, .ref b)] []) : JK p l e room_1 s m #[Value.ref b] below meth c D A Q 4 65 26217 ((mw h cy mthr mfrp mact mtpd msiz matx mfrm mtok mval mfk mfpl mbem mtrs mtrl mrom mtom mnow mfre mkep mtap mlef mtak mbes mrow mint mrnd mplo mhio mtox mtol) ++ (cw g cy cP cLo cHi cpl ctb ctl ctf ctp ctk cts cth cob col cso cha chs cbe ctr cgl cgh cll clh cta cme cps cwh cal cah)) 2252 [(3, .int (nI i)), (2, .ref (h 0)), (1, .ref (g 28)), (0, .ref b)] [] := by
  obtain ⟨r, ocP, ocLo, ocHi, ocso, ocha, ochs, omfrp, omact, omnow, omfre, omkep, e1, e2, hr2⟩ := sim_joint (p1 := xs (nI i + (1 : Int32)).toNatClampNeg) (p2 := xs (nI i + (2 : Int32)).toNatClampNeg) (p3 := xs (nI i + (3 : Int32)).toNatClampNeg) (p4 := xs (nI i + (4 : Int32)).toNatClampNeg) hr
  refine kAloadn C dL_law_2252 rfl 2 rfl ?_
  refine kAloadn C dL_law_2253 rfl 3 rfl ?_
  refine kIloadn C dL_law_2254 rfl 0 rfl ?_
  refine kIconst C (1 : Int32) dL_law_2255 ki_1 ?_
  refine kIadd C dL_law_2256 ?_
  refine kSld C hX hbl hbA (sc_in1 hi hL) dL_law_2257 ?_
  refine kAloadn C dL_law_2258 rfl 3 rfl ?_
  refine kIloadn C dL_law_2259 rfl 0 rfl ?_
  refine kIconst C (2 : Int32) dL_law_2260 ki_2 ?_
  refine kIadd C dL_law_2261 ?_
  refine kSld C hX hbl hbA (sc_in2 hi hL) dL_law_2262 ?_
  refine kAloadn C dL_law_2263 rfl 3 rfl ?_
  refine kIloadn C dL_law_2264 rfl 0 rfl ?_
  refine kIconst C (3 : Int32) dL_law_2265 ki_3 ?_
  refine kIadd C dL_law_2266 ?_
  refine kSld C hX hbl hbA (sc_in3 hi hL) dL_law_2267 ?_
  refine kAloadn C dL_law_2268 rfl 3 rfl ?_
  refine kIloadn C dL_law_2269 rfl 0 rfl ?_
  refine kIconst C (4 : Int32) dL_law_2270 ki_4 ?_
  refine kIadd C dL_law_2271 ?_
  refine kSld C hX hbl hbA (sc_in4 hi hL) dL_law_2272 ?_
  refine kV C (X8_joint_ok e1) vb_X8_joint mk_RL_243 rfl rc28 ⟨Nat.le_of_ble_eq_true rfl, Nat.le_of_ble_eq_true rfl⟩ ⟨Nat.le_of_ble_eq_true rfl, Nat.le_of_ble_eq_true rfl⟩ rfl (Nat.le_of_ble_eq_true rfl) dL_law_2273 ?_
  refine kAloadn C dL_law_2276 rfl 1 rfl ?_
  refine kAloadn C dL_law_2277 rfl 3 rfl ?_
  refine kIloadn C dL_law_2278 rfl 0 rfl ?_
  refine kIconst C (1 : Int32) dL_law_2279 ki_1 ?_
  refine kIadd C dL_law_2280 ?_
  refine kSld C hX hbl hbA (sc_in1 hi hL) dL_law_2281 ?_
  refine kAloadn C dL_law_2282 rfl 3 rfl ?_
  refine kIloadn C dL_law_2283 rfl 0 rfl ?_
  refine kIconst C (2 : Int32) dL_law_2284 ki_2 ?_
  refine kIadd C dL_law_2285 ?_
  refine kSld C hX hbl hbA (sc_in2 hi hL) dL_law_2286 ?_
  refine kAloadn C dL_law_2287 rfl 3 rfl ?_
  refine kIloadn C dL_law_2288 rfl 0 rfl ?_
  refine kIconst C (3 : Int32) dL_law_2289 ki_3 ?_
  refine kIadd C dL_law_2290 ?_
  refine kSld C hX hbl hbA (sc_in3 hi hL) dL_law_2291 ?_
  refine kAloadn C dL_law_2292 rfl 3 rfl ?_
  refine kIloadn C dL_law_2293 rfl 0 rfl ?_
  refine kIconst C (4 : Int32) dL_law_2294 ki_4 ?_
  refine kIadd C dL_law_2295 ?_
  refine kSld C hX hbl hbA (sc_in4 hi hL) dL_law_2296 ?_
  refine k_swap ?_
  refine kV C (X9_joint_ok e2) vb_X9_joint mk_RL_246 rfl rcM ⟨Nat.le_of_ble_eq_true rfl, Nat.le_of_ble_eq_true rfl⟩ ⟨Nat.le_of_ble_eq_true rfl, Nat.le_of_ble_eq_true rfl⟩ rfl (Nat.le_of_ble_eq_true rfl) dL_law_2297 ?_
  refine k_swap ?_
  refine kCmpEq C 2361 dL_law_2300 (by decide) (fun _ => ?_) (fun q => absurd rfl q)
  exact kk ocP ocLo ocHi cpl ctb ctl ctf ctp ctk cts cth cob col ocso ocha ochs cbe ctr cgl cgh cll clh cta cme cps cwh cal cah mthr omfrp omact mtpd msiz matx mfrm mtok mval mfk mfpl mbem mtrs mtrl mrom mtom omnow omfre omkep mtap mlef mtak mbes mrow mint mrnd mplo mhio mtox mtol hr2
set_option maxHeartbeats 4000000 in
theorem law_rank (C : Cx p l room_1 s m #[Value.ref b] meth c code 4 RL ret D cy G A) (hX : va_X b L xs s s.heap) (hbl : b < s.heap.size) (hbA : ¬ A b) {i : Nat} (hi : i + 6 ≤ L) (hL : L ≤ 3072) (hr : Rel cP cLo cHi ctb ctl ctf ctp cob col cso cha chs mact mtpd mfk mfpl mtom mnow mkep mtap mtol)
    (kk : ∀ (cP : Nat → Int32) (cLo : Nat → Int64) (cHi : Nat → Int64) (cpl : Nat → Int32) (ctb : Nat → Int32) (ctl : Int32) (ctf : Int32) (ctp : Int32) (ctk : Int32) (cts : Int32) (cth : Int32) (cob : Nat → Int32) (col : Int32) (cso : Nat → Int32) (cha : Int32) (chs : Int32) (cbe : Int32) (ctr : Int32) (cgl : Nat → Int64) (cgh : Nat → Int64) (cll : Nat → Int64) (clh : Nat → Int64) (cta : Nat → Int32) (cme : Nat → Int32) (cps : Int32) (cwh : Nat → Int32) (cal : Nat → Int64) (cah : Nat → Int64) (mthr : Int32) (mfrp : Int32) (mact : Int32) (mtpd : Int32) (msiz : Int32) (matx : Int32) (mfrm : Int32) (mtok : Int32) (mval : Int32) (mfk : Int32) (mfpl : Int32) (mbem : Int32) (mtrs : Int32) (mtrl : Int32) (mrom : Int32) (mtom : Int32) (mnow : Nat → Int32) (mfre : Nat → Int32) (mkep : Nat → Int32) (mtap : Nat → Int32) (mlef : Nat → Int32) (mtak : Nat → Int32) (mbes : Nat → Int32) (mrow : Nat → Int32) (mint : Nat → Int32) (mrnd : Nat → Int32) (mplo : Nat → Int32) (mhio : Nat → Int32) (mtox : Nat → Int32) (mtol : Nat → Int32), Rel cP cLo cHi ctb ctl ctf ctp cob col cso cha chs mact mtpd mfk mfpl mtom mnow mkep mtap mtol → JK p l e room_1 s m #[Value.ref b] below meth c D A Q 4 65 26217 ((mw h cy mthr mfrp mact mtpd msiz matx mfrm mtok mval mfk mfpl mbem mtrs mtrl mrom mtom mnow mfre mkep mtap mlef mtak mbes mrow mint mrnd mplo mhio mtox mtol) ++ (cw g cy cP cLo cHi cpl ctb ctl ctf ctp ctk cts cth cob col cso cha chs cbe ctr cgl cgh cll clh cta cme cps cwh cal cah)) 2361 [(3, .int (nI i)), (2, .ref (h 0)), (1, .ref (g 28)), (0, .ref b)] []) : JK p l e room_1 s m #[Value.ref b] below meth c D A Q 4 65 26217 ((mw h cy mthr mfrp mact mtpd msiz matx mfrm mtok mval mfk mfpl mbem mtrs mtrl mrom mtom mnow mfre mkep mtap mlef mtak mbes mrow mint mrnd mplo mhio mtox mtol) ++ (cw g cy cP cLo cHi cpl ctb ctl ctf ctp ctk cts cth cob col cso cha chs cbe ctr cgl cgh cll clh cta cme cps cwh cal cah)) 2305 [(3, .int (nI i)), (2, .ref (h 0)), (1, .ref (g 28)), (0, .ref b)] [] := by
  obtain ⟨r, e1, e2, hr2⟩ := sim_rank (p1 := xs (nI i + (1 : Int32)).toNatClampNeg) hr
  refine kAloadn C dL_law_2305 rfl 2 rfl ?_
  refine kAloadn C dL_law_2306 rfl 3 rfl ?_
  refine kIloadn C dL_law_2307 rfl 0 rfl ?_
  refine kIconst C (1 : Int32) dL_law_2308 ki_1 ?_
  refine kIadd C dL_law_2309 ?_
  refine kSld C hX hbl hbA (sc_in1 hi hL) dL_law_2310 ?_
  refine kV C (X8_rank_ok e1) vb_X8_rank mk_RL_247 rfl rc28 ⟨Nat.le_of_ble_eq_true rfl, Nat.le_of_ble_eq_true rfl⟩ ⟨Nat.le_of_ble_eq_true rfl, Nat.le_of_ble_eq_true rfl⟩ rfl (Nat.le_of_ble_eq_true rfl) dL_law_2311 ?_
  refine kAloadn C dL_law_2314 rfl 1 rfl ?_
  refine kAloadn C dL_law_2315 rfl 3 rfl ?_
  refine kIloadn C dL_law_2316 rfl 0 rfl ?_
  refine kIconst C (1 : Int32) dL_law_2317 ki_1 ?_
  refine kIadd C dL_law_2318 ?_
  refine kSld C hX hbl hbA (sc_in1 hi hL) dL_law_2319 ?_
  refine k_swap ?_
  refine kV C (X9_rank_ok e2) vb_X9_rank mk_RL_250 rfl rcM ⟨Nat.le_of_ble_eq_true rfl, Nat.le_of_ble_eq_true rfl⟩ ⟨Nat.le_of_ble_eq_true rfl, Nat.le_of_ble_eq_true rfl⟩ rfl (Nat.le_of_ble_eq_true rfl) dL_law_2320 ?_
  refine k_swap ?_
  refine kCmpEq C 2361 dL_law_2323 (by decide) (fun _ => ?_) (fun q => absurd rfl q)
  exact kk cP cLo cHi cpl ctb ctl ctf ctp ctk cts cth cob col cso cha chs cbe ctr cgl cgh cll clh cta cme cps cwh cal cah mthr mfrp mact mtpd msiz matx mfrm mtok mval mfk mfpl mbem mtrs mtrl mrom mtom mnow mfre mkep mtap mlef mtak mbes mrow mint mrnd mplo mhio mtox mtol hr2
set_option maxHeartbeats 4000000 in
theorem law_ranked (C : Cx p l room_1 s m #[Value.ref b] meth c code 4 RL ret D cy G A) (hX : va_X b L xs s s.heap) (hbl : b < s.heap.size) (hbA : ¬ A b) {i : Nat} (hi : i + 6 ≤ L) (hL : L ≤ 3072) (hr : Rel cP cLo cHi ctb ctl ctf ctp cob col cso cha chs mact mtpd mfk mfpl mtom mnow mkep mtap mtol)
    (kk : ∀ (cP : Nat → Int32) (cLo : Nat → Int64) (cHi : Nat → Int64) (cpl : Nat → Int32) (ctb : Nat → Int32) (ctl : Int32) (ctf : Int32) (ctp : Int32) (ctk : Int32) (cts : Int32) (cth : Int32) (cob : Nat → Int32) (col : Int32) (cso : Nat → Int32) (cha : Int32) (chs : Int32) (cbe : Int32) (ctr : Int32) (cgl : Nat → Int64) (cgh : Nat → Int64) (cll : Nat → Int64) (clh : Nat → Int64) (cta : Nat → Int32) (cme : Nat → Int32) (cps : Int32) (cwh : Nat → Int32) (cal : Nat → Int64) (cah : Nat → Int64) (mthr : Int32) (mfrp : Int32) (mact : Int32) (mtpd : Int32) (msiz : Int32) (matx : Int32) (mfrm : Int32) (mtok : Int32) (mval : Int32) (mfk : Int32) (mfpl : Int32) (mbem : Int32) (mtrs : Int32) (mtrl : Int32) (mrom : Int32) (mtom : Int32) (mnow : Nat → Int32) (mfre : Nat → Int32) (mkep : Nat → Int32) (mtap : Nat → Int32) (mlef : Nat → Int32) (mtak : Nat → Int32) (mbes : Nat → Int32) (mrow : Nat → Int32) (mint : Nat → Int32) (mrnd : Nat → Int32) (mplo : Nat → Int32) (mhio : Nat → Int32) (mtox : Nat → Int32) (mtol : Nat → Int32), Rel cP cLo cHi ctb ctl ctf ctp cob col cso cha chs mact mtpd mfk mfpl mtom mnow mkep mtap mtol → JK p l e room_1 s m #[Value.ref b] below meth c D A Q 4 65 26217 ((mw h cy mthr mfrp mact mtpd msiz matx mfrm mtok mval mfk mfpl mbem mtrs mtrl mrom mtom mnow mfre mkep mtap mlef mtak mbes mrow mint mrnd mplo mhio mtox mtol) ++ (cw g cy cP cLo cHi cpl ctb ctl ctf ctp ctk cts cth cob col cso cha chs cbe ctr cgl cgh cll clh cta cme cps cwh cal cah)) 2361 [(3, .int (nI i)), (2, .ref (h 0)), (1, .ref (g 28)), (0, .ref b)] []) : JK p l e room_1 s m #[Value.ref b] below meth c D A Q 4 65 26217 ((mw h cy mthr mfrp mact mtpd msiz matx mfrm mtok mval mfk mfpl mbem mtrs mtrl mrom mtom mnow mfre mkep mtap mlef mtak mbes mrow mint mrnd mplo mhio mtox mtol) ++ (cw g cy cP cLo cHi cpl ctb ctl ctf ctp ctk cts cth cob col cso cha chs cbe ctr cgl cgh cll clh cta cme cps cwh cal cah)) 2328 [(3, .int (nI i)), (2, .ref (h 0)), (1, .ref (g 28)), (0, .ref b)] [] := by
  obtain ⟨r, e1, e2, hr2⟩ := sim_ranked (p1 := xs (nI i + (1 : Int32)).toNatClampNeg) (p2 := xs (nI i + (2 : Int32)).toNatClampNeg) hr
  refine kAloadn C dL_law_2328 rfl 2 rfl ?_
  refine kAloadn C dL_law_2329 rfl 3 rfl ?_
  refine kIloadn C dL_law_2330 rfl 0 rfl ?_
  refine kIconst C (1 : Int32) dL_law_2331 ki_1 ?_
  refine kIadd C dL_law_2332 ?_
  refine kSld C hX hbl hbA (sc_in1 hi hL) dL_law_2333 ?_
  refine kAloadn C dL_law_2334 rfl 3 rfl ?_
  refine kIloadn C dL_law_2335 rfl 0 rfl ?_
  refine kIconst C (2 : Int32) dL_law_2336 ki_2 ?_
  refine kIadd C dL_law_2337 ?_
  refine kSld C hX hbl hbA (sc_in2 hi hL) dL_law_2338 ?_
  refine kV C (X8_ranked_ok e1) vb_X8_ranked mk_RL_251 rfl rc28 ⟨Nat.le_of_ble_eq_true rfl, Nat.le_of_ble_eq_true rfl⟩ ⟨Nat.le_of_ble_eq_true rfl, Nat.le_of_ble_eq_true rfl⟩ rfl (Nat.le_of_ble_eq_true rfl) dL_law_2339 ?_
  refine kAloadn C dL_law_2342 rfl 1 rfl ?_
  refine kAloadn C dL_law_2343 rfl 3 rfl ?_
  refine kIloadn C dL_law_2344 rfl 0 rfl ?_
  refine kIconst C (1 : Int32) dL_law_2345 ki_1 ?_
  refine kIadd C dL_law_2346 ?_
  refine kSld C hX hbl hbA (sc_in1 hi hL) dL_law_2347 ?_
  refine kAloadn C dL_law_2348 rfl 3 rfl ?_
  refine kIloadn C dL_law_2349 rfl 0 rfl ?_
  refine kIconst C (2 : Int32) dL_law_2350 ki_2 ?_
  refine kIadd C dL_law_2351 ?_
  refine kSld C hX hbl hbA (sc_in2 hi hL) dL_law_2352 ?_
  refine k_swap ?_
  refine kV C (X9_ranked_ok e2) vb_X9_ranked mk_RL_254 rfl rcM ⟨Nat.le_of_ble_eq_true rfl, Nat.le_of_ble_eq_true rfl⟩ ⟨Nat.le_of_ble_eq_true rfl, Nat.le_of_ble_eq_true rfl⟩ rfl (Nat.le_of_ble_eq_true rfl) dL_law_2353 ?_
  refine k_swap ?_
  refine kCmpEq C 2361 dL_law_2356 (by decide) (fun _ => ?_) (fun q => absurd rfl q)
  exact kk cP cLo cHi cpl ctb ctl ctf ctp ctk cts cth cob col cso cha chs cbe ctr cgl cgh cll clh cta cme cps cwh cal cah mthr mfrp mact mtpd msiz matx mfrm mtok mval mfk mfpl mbem mtrs mtrl mrom mtom mnow mfre mkep mtap mlef mtak mbes mrow mint mrnd mplo mhio mtox mtol hr2
end LC
