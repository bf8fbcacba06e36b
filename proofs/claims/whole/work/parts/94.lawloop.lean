section LL
variable {p : Program} {l : Launch} {e : Env} {s : State} {m : MethodId} {below : List Frame} {meth : Method} {c : Code} {D : va_G} {cy : Nat → ClassId} {G : Nat → Nat} {A : Nat → Prop} {Q : State → Prop} {b L : Nat} {xs : Nat → Int32} {g h : Nat → Nat}

theorem lp_gt {i L : Nat} (hL : L ≤ 3072) (hi : i ≤ 3078) (h : ¬ Int32.ofNat L - (6 : Int32) < nI i) : i + 6 ≤ L := by
  by_cases q : 6 ≤ L
  · have e : Int32.ofNat L - (6 : Int32) = nI (L - 6) := pk_sub (a := L) (b := 6) q
    rw [e] at h
    have h3 := mt (nI_ltI (a := L - 6) (b := i) (by omega) (by omega)).mpr h
    omega
  · exfalso
    apply h
    rw [Int32.lt_iff_toInt_lt]
    have e := pk_sub_toInt (a := L) (b := 6) (by omega) (by omega)
    have e2 : (Int32.ofNat L - (6 : Int32)).toInt = (L : Int) - 6 := e
    rw [e2, nI_toInt (by omega)]
    omega
theorem lp_add6 (i : Nat) : nI i + (6 : Int32) = nI (i + 6) := nI_add i 6
set_option maxHeartbeats 16000000 in
set_option maxRecDepth 40000 in
theorem law_loop (C : Cx p l room_1 s m #[Value.ref b] meth c code 4 RL ret D cy G A) (hX : va_X b L xs s s.heap) (hbl : b < s.heap.size) (hbA : ¬ A b) (hL : L ≤ 3072) (hend : ∀ (ws : va_W) (lv : List (Nat × Value)), JK p l e room_1 s m #[Value.ref b] below meth c D A Q 4 65 26217 ws 2368 lv [.int 1]) : ∀ (n i : Nat), L + 7 ≤ i + n → i ≤ L + 6 → ∀ (cP : Nat → Int32) (cLo : Nat → Int64) (cHi : Nat → Int64) (cpl : Nat → Int32) (ctb : Nat → Int32) (ctl : Int32) (ctf : Int32) (ctp : Int32) (ctk : Int32) (cts : Int32) (cth : Int32) (cob : Nat → Int32) (col : Int32) (cso : Nat → Int32) (cha : Int32) (chs : Int32) (cbe : Int32) (ctr : Int32) (cgl : Nat → Int64) (cgh : Nat → Int64) (cll : Nat → Int64) (clh : Nat → Int64) (cta : Nat → Int32) (cme : Nat → Int32) (cps : Int32) (cwh : Nat → Int32) (cal : Nat → Int64) (cah : Nat → Int64) (mthr : Int32) (mfrp : Int32) (mact : Int32) (mtpd : Int32) (msiz : Int32) (matx : Int32) (mfrm : Int32) (mtok : Int32) (mval : Int32) (mfk : Int32) (mfpl : Int32) (mbem : Int32) (mtrs : Int32) (mtrl : Int32) (mrom : Int32) (mtom : Int32) (mnow : Nat → Int32) (mfre : Nat → Int32) (mkep : Nat → Int32) (mtap : Nat → Int32) (mlef : Nat → Int32) (mtak : Nat → Int32) (mbes : Nat → Int32) (mrow : Nat → Int32) (mint : Nat → Int32) (mrnd : Nat → Int32) (mplo : Nat → Int32) (mhio : Nat → Int32) (mtox : Nat → Int32) (mtol : Nat → Int32), Rel cP cLo cHi ctb ctl ctf ctp cob col cso cha chs mact mtpd mfk mfpl mtom mnow mkep mtap mtol → JK p l e room_1 s m #[Value.ref b] below meth c D A Q 4 65 26217 ((mw h cy mthr mfrp mact mtpd msiz matx mfrm mtok mval mfk mfpl mbem mtrs mtrl mrom mtom mnow mfre mkep mtap mlef mtak mbes mrow mint mrnd mplo mhio mtox mtol) ++ (cw g cy cP cLo cHi cpl ctb ctl ctf ctp ctk cts cth cob col cso cha chs cbe ctr cgl cgh cll clh cta cme cps cwh cal cah)) 18 [(3, .int (nI i)), (2, .ref (h 0)), (1, .ref (g 28)), (0, .ref b)] [] := by
  intro n
  induction n with
  | zero => intro i h1 h2; exact absurd h1 (by omega)
  | succ n ih =>
  intro i h1 h2 cP cLo cHi cpl ctb ctl ctf ctp ctk cts cth cob col cso cha chs cbe ctr cgl cgh cll clh cta cme cps cwh cal cah mthr mfrp mact mtpd msiz matx mfrm mtok mval mfk mfpl mbem mtrs mtrl mrom mtom mnow mfre mkep mtap mlef mtak mbes mrow mint mrnd mplo mhio mtox mtol hr
  refine kIloadn C dL_law_18 rfl 0 rfl ?_
  refine kAloadn C dL_law_19 rfl 3 rfl ?_
  refine kSlen C hX hbl hbA dL_law_20 ?_
  refine kBipush C (6 : Int32) dL_law_21 kb_6 ?_
  refine kIsub C dL_law_23 ?_
  refine kCmpGt C 2367 dL_law_24 (by decide) (fun _ => ?_) (fun q => ?_)
  · refine kIconst C (1 : Int32) dL_law_2367 ki_1 ?_
    exact hend _ _
  have hi : i + 6 ≤ L := lp_gt hL (by omega) q
  have kk : ∀ (cP : Nat → Int32) (cLo : Nat → Int64) (cHi : Nat → Int64) (cpl : Nat → Int32) (ctb : Nat → Int32) (ctl : Int32) (ctf : Int32) (ctp : Int32) (ctk : Int32) (cts : Int32) (cth : Int32) (cob : Nat → Int32) (col : Int32) (cso : Nat → Int32) (cha : Int32) (chs : Int32) (cbe : Int32) (ctr : Int32) (cgl : Nat → Int64) (cgh : Nat → Int64) (cll : Nat → Int64) (clh : Nat → Int64) (cta : Nat → Int32) (cme : Nat → Int32) (cps : Int32) (cwh : Nat → Int32) (cal : Nat → Int64) (cah : Nat → Int64) (mthr : Int32) (mfrp : Int32) (mact : Int32) (mtpd : Int32) (msiz : Int32) (matx : Int32) (mfrm : Int32) (mtok : Int32) (mval : Int32) (mfk : Int32) (mfpl : Int32) (mbem : Int32) (mtrs : Int32) (mtrl : Int32) (mrom : Int32) (mtom : Int32) (mnow : Nat → Int32) (mfre : Nat → Int32) (mkep : Nat → Int32) (mtap : Nat → Int32) (mlef : Nat → Int32) (mtak : Nat → Int32) (mbes : Nat → Int32) (mrow : Nat → Int32) (mint : Nat → Int32) (mrnd : Nat → Int32) (mplo : Nat → Int32) (mhio : Nat → Int32) (mtox : Nat → Int32) (mtol : Nat → Int32), Rel cP cLo cHi ctb ctl ctf ctp cob col cso cha chs mact mtpd mfk mfpl mtom mnow mkep mtap mtol → JK p l e room_1 s m #[Value.ref b] below meth c D A Q 4 65 26217 ((mw h cy mthr mfrp mact mtpd msiz matx mfrm mtok mval mfk mfpl mbem mtrs mtrl mrom mtom mnow mfre mkep mtap mlef mtak mbes mrow mint mrnd mplo mhio mtox mtol) ++ (cw g cy cP cLo cHi cpl ctb ctl ctf ctp ctk cts cth cob col cso cha chs cbe ctr cgl cgh cll clh cta cme cps cwh cal cah)) 2361 [(3, .int (nI i)), (2, .ref (h 0)), (1, .ref (g 28)), (0, .ref b)] [] := by
    intro cP cLo cHi cpl ctb ctl ctf ctp ctk cts cth cob col cso cha chs cbe ctr cgl cgh cll clh cta cme cps cwh cal cah mthr mfrp mact mtpd msiz matx mfrm mtok mval mfk mfpl mbem mtrs mtrl mrom mtom mnow mfre mkep mtap mlef mtak mbes mrow mint mrnd mplo mhio mtox mtol hr
    refine kIinc C (nI (i + 6)) dL_law_2361 0 rfl ((congrArg (fun z : Int32 => nI i + z) (show Int32.ofInt 6 = (6 : Int32) by decide +kernel)).trans (lp_add6 i)) (Nat.le_of_ble_eq_true rfl) [(3, .int (nI (i + 6))), (2, .ref (h 0)), (1, .ref (g 28)), (0, .ref b)] rfl ?_
    refine kGoto C 18 dL_law_2364 (by decide) ?_
    exact ih (i + 6) (by omega) (by omega) _ _ _ _ _ _ _ _ _ _ _ _ _ _ _ _ _ _ _ _ _ _ _ _ _ _ _ _ _ _ _ _ _ _ _ _ _ _ _ _ _ _ _ _ _ _ _ _ _ _ _ _ _ _ _ _ _ _ hr
  refine kAloadn C dL_law_27 rfl 3 rfl ?_
  refine kIloadn C dL_law_28 rfl 0 rfl ?_
  refine kSld C hX hbl hbA (sc_in0 hi hL) dL_law_29 ?_
  refine kBipush C (63 : Int32) dL_law_30 kb_63 ?_
  refine kIand C dL_law_32 ?_
  generalize hx : xs (nI i).toNatClampNeg &&& (63 : Int32) = x
  by_cases c0 : x = (0 : Int32)
  · refine kTabIn C 284 dL_law_33 (by rw [c0]; decide) (by rw [c0]; decide) (by rw [c0]; rfl) (by decide) ?_
    exact law_feed C hX hbl hbA hi hL hr kk
  by_cases c1 : x = (1 : Int32)
  · refine kTabIn C 347 dL_law_33 (by rw [c1]; decide) (by rw [c1]; decide) (by rw [c1]; rfl) (by decide) ?_
    exact law_end C hX hbl hbA hi hL hr kk
  by_cases c2 : x = (2 : Int32)
  · refine kTabIn C 370 dL_law_33 (by rw [c2]; decide) (by rw [c2]; decide) (by rw [c2]; rfl) (by decide) ?_
    exact law_told C hX hbl hbA hi hL hr kk
  by_cases c3 : x = (3 : Int32)
  · refine kTabIn C 393 dL_law_33 (by rw [c3]; decide) (by rw [c3]; decide) (by rw [c3]; rfl) (by decide) ?_
    exact law_fault C hX hbl hbA hi hL hr kk
  by_cases c4 : x = (4 : Int32)
  · refine kTabIn C 416 dL_law_33 (by rw [c4]; decide) (by rw [c4]; decide) (by rw [c4]; rfl) (by decide) ?_
    exact law_count C hX hbl hbA hi hL hr kk
  by_cases c5 : x = (5 : Int32)
  · refine kTabIn C 439 dL_law_33 (by rw [c5]; decide) (by rw [c5]; decide) (by rw [c5]; rfl) (by decide) ?_
    exact law_look C hX hbl hbA hi hL hr kk
  by_cases c6 : x = (6 : Int32)
  · refine kTabIn C 472 dL_law_33 (by rw [c6]; decide) (by rw [c6]; decide) (by rw [c6]; rfl) (by decide) ?_
    exact law_set C hX hbl hbA hi hL hr kk
  by_cases c7 : x = (7 : Int32)
  · refine kTabIn C 505 dL_law_33 (by rw [c7]; decide) (by rw [c7]; decide) (by rw [c7]; rfl) (by decide) ?_
    exact law_has C hX hbl hbA hi hL hr kk
  by_cases c8 : x = (8 : Int32)
  · refine kTabIn C 538 dL_law_33 (by rw [c8]; decide) (by rw [c8]; decide) (by rw [c8]; rfl) (by decide) ?_
    exact law_is C hX hbl hbA hi hL hr kk
  by_cases c9 : x = (9 : Int32)
  · refine kTabIn C 571 dL_law_33 (by rw [c9]; decide) (by rw [c9]; decide) (by rw [c9]; rfl) (by decide) ?_
    exact law_degree C hX hbl hbA hi hL hr kk
  by_cases c10 : x = (10 : Int32)
  · refine kTabIn C 604 dL_law_33 (by rw [c10]; decide) (by rw [c10]; decide) (by rw [c10]; rfl) (by decide) ?_
    exact law_order C hX hbl hbA hi hL hr kk
  by_cases c11 : x = (11 : Int32)
  · refine kTabIn C 637 dL_law_33 (by rw [c11]; decide) (by rw [c11]; decide) (by rw [c11]; rfl) (by decide) ?_
    exact law_level C hX hbl hbA hi hL hr kk
  by_cases c12 : x = (12 : Int32)
  · refine kTabIn C 670 dL_law_33 (by rw [c12]; decide) (by rw [c12]; decide) (by rw [c12]; rfl) (by decide) ?_
    exact law_makes C hX hbl hbA hi hL hr kk
  by_cases c13 : x = (13 : Int32)
  · refine kTabIn C 713 dL_law_33 (by rw [c13]; decide) (by rw [c13]; decide) (by rw [c13]; rfl) (by decide) ?_
    exact law_part C hX hbl hbA hi hL hr kk
  by_cases c14 : x = (14 : Int32)
  · refine kTabIn C 766 dL_law_33 (by rw [c14]; decide) (by rw [c14]; decide) (by rw [c14]; rfl) (by decide) ?_
    exact law_shift C hX hbl hbA hi hL hr kk
  by_cases c15 : x = (15 : Int32)
  · refine kTabIn C 809 dL_law_33 (by rw [c15]; decide) (by rw [c15]; decide) (by rw [c15]; rfl) (by decide) ?_
    exact law_would C hX hbl hbA hi hL hr kk
  by_cases c16 : x = (16 : Int32)
  · refine kTabIn C 852 dL_law_33 (by rw [c16]; decide) (by rw [c16]; decide) (by rw [c16]; rfl) (by decide) ?_
    exact law_settles C hX hbl hbA hi hL hr kk
  by_cases c17 : x = (17 : Int32)
  · refine kTabIn C 875 dL_law_33 (by rw [c17]; decide) (by rw [c17]; decide) (by rw [c17]; rfl) (by decide) ?_
    exact law_row C hX hbl hbA hi hL hr kk
  by_cases c18 : x = (18 : Int32)
  · refine kTabIn C 928 dL_law_33 (by rw [c18]; decide) (by rw [c18]; decide) (by rw [c18]; rfl) (by decide) ?_
    exact law_all C hX hbl hbA hi hL hr kk
  by_cases c19 : x = (19 : Int32)
  · refine kTabIn C 981 dL_law_33 (by rw [c19]; decide) (by rw [c19]; decide) (by rw [c19]; rfl) (by decide) ?_
    exact law_least C hX hbl hbA hi hL hr kk
  by_cases c20 : x = (20 : Int32)
  · refine kTabIn C 1014 dL_law_33 (by rw [c20]; decide) (by rw [c20]; decide) (by rw [c20]; rfl) (by decide) ?_
    exact law_cascade C hX hbl hbA hi hL hr kk
  by_cases c21 : x = (21 : Int32)
  · refine kTabIn C 1057 dL_law_33 (by rw [c21]; decide) (by rw [c21]; decide) (by rw [c21]; rfl) (by decide) ?_
    exact law_choose C hX hbl hbA hi hL hr kk
  by_cases c22 : x = (22 : Int32)
  · refine kTabIn C 1090 dL_law_33 (by rw [c22]; decide) (by rw [c22]; decide) (by rw [c22]; rfl) (by decide) ?_
    exact law_most C hX hbl hbA hi hL hr kk
  by_cases c23 : x = (23 : Int32)
  · refine kTabIn C 1133 dL_law_33 (by rw [c23]; decide) (by rw [c23]; decide) (by rw [c23]; rfl) (by decide) ?_
    exact law_takes C hX hbl hbA hi hL hr kk
  by_cases c24 : x = (24 : Int32)
  · refine kTabIn C 1186 dL_law_33 (by rw [c24]; decide) (by rw [c24]; decide) (by rw [c24]; rfl) (by decide) ?_
    exact law_cover C hX hbl hbA hi hL hr kk
  by_cases c25 : x = (25 : Int32)
  · refine kTabIn C 1209 dL_law_33 (by rw [c25]; decide) (by rw [c25]; decide) (by rw [c25]; rfl) (by decide) ?_
    exact law_colours C hX hbl hbA hi hL hr kk
  by_cases c26 : x = (26 : Int32)
  · refine kTabIn C 1242 dL_law_33 (by rw [c26]; decide) (by rw [c26]; decide) (by rw [c26]; rfl) (by decide) ?_
    exact law_colour C hX hbl hbA hi hL hr kk
  by_cases c27 : x = (27 : Int32)
  · refine kTabIn C 1295 dL_law_33 (by rw [c27]; decide) (by rw [c27]; decide) (by rw [c27]; rfl) (by decide) ?_
    exact law_steps C hX hbl hbA hi hL hr kk
  by_cases c28 : x = (28 : Int32)
  · refine kTabIn C 1338 dL_law_33 (by rw [c28]; decide) (by rw [c28]; decide) (by rw [c28]; rfl) (by decide) ?_
    exact law_arcs C hX hbl hbA hi hL hr kk
  by_cases c29 : x = (29 : Int32)
  · refine kTabIn C 1371 dL_law_33 (by rw [c29]; decide) (by rw [c29]; decide) (by rw [c29]; rfl) (by decide) ?_
    exact law_around C hX hbl hbA hi hL hr kk
  by_cases c30 : x = (30 : Int32)
  · refine kTabIn C 1414 dL_law_33 (by rw [c30]; decide) (by rw [c30]; decide) (by rw [c30]; rfl) (by decide) ?_
    exact law_rounds C hX hbl hbA hi hL hr kk
  by_cases c31 : x = (31 : Int32)
  · refine kTabIn C 1447 dL_law_33 (by rw [c31]; decide) (by rw [c31]; decide) (by rw [c31]; rfl) (by decide) ?_
    exact law_sum C hX hbl hbA hi hL hr kk
  by_cases c32 : x = (32 : Int32)
  · refine kTabIn C 1480 dL_law_33 (by rw [c32]; decide) (by rw [c32]; decide) (by rw [c32]; rfl) (by decide) ?_
    exact law_shattered C hX hbl hbA hi hL hr kk
  by_cases c33 : x = (33 : Int32)
  · refine kTabIn C 1513 dL_law_33 (by rw [c33]; decide) (by rw [c33]; decide) (by rw [c33]; rfl) (by decide) ?_
    exact law_shatters C hX hbl hbA hi hL hr kk
  by_cases c34 : x = (34 : Int32)
  · refine kTabIn C 1546 dL_law_33 (by rw [c34]; decide) (by rw [c34]; decide) (by rw [c34]; rfl) (by decide) ?_
    exact law_flower C hX hbl hbA hi hL hr kk
  by_cases c35 : x = (35 : Int32)
  · refine kTabIn C 1579 dL_law_33 (by rw [c35]; decide) (by rw [c35]; decide) (by rw [c35]; rfl) (by decide) ?_
    exact law_across C hX hbl hbA hi hL hr kk
  by_cases c36 : x = (36 : Int32)
  · refine kTabIn C 1622 dL_law_33 (by rw [c36]; decide) (by rw [c36]; decide) (by rw [c36]; rfl) (by decide) ?_
    exact law_answers C hX hbl hbA hi hL hr kk
  by_cases c37 : x = (37 : Int32)
  · refine kTabIn C 1655 dL_law_33 (by rw [c37]; decide) (by rw [c37]; decide) (by rw [c37]; rfl) (by decide) ?_
    exact law_alike C hX hbl hbA hi hL hr kk
  by_cases c38 : x = (38 : Int32)
  · refine kTabIn C 1688 dL_law_33 (by rw [c38]; decide) (by rw [c38]; decide) (by rw [c38]; rfl) (by decide) ?_
    exact law_selves C hX hbl hbA hi hL hr kk
  by_cases c39 : x = (39 : Int32)
  · refine kTabIn C 1711 dL_law_33 (by rw [c39]; decide) (by rw [c39]; decide) (by rw [c39]; rfl) (by decide) ?_
    exact law_adds C hX hbl hbA hi hL hr kk
  by_cases c40 : x = (40 : Int32)
  · refine kTabIn C 1744 dL_law_33 (by rw [c40]; decide) (by rw [c40]; decide) (by rw [c40]; rfl) (by decide) ?_
    exact law_without C hX hbl hbA hi hL hr kk
  by_cases c41 : x = (41 : Int32)
  · refine kTabIn C 1787 dL_law_33 (by rw [c41]; decide) (by rw [c41]; decide) (by rw [c41]; rfl) (by decide) ?_
    exact law_cuts C hX hbl hbA hi hL hr kk
  by_cases c42 : x = (42 : Int32)
  · refine kTabIn C 1820 dL_law_33 (by rw [c42]; decide) (by rw [c42]; decide) (by rw [c42]; rfl) (by decide) ?_
    exact law_drops C hX hbl hbA hi hL hr kk
  by_cases c43 : x = (43 : Int32)
  · refine kTabIn C 1843 dL_law_33 (by rw [c43]; decide) (by rw [c43]; decide) (by rw [c43]; rfl) (by decide) ?_
    exact law_undo C hX hbl hbA hi hL hr kk
  by_cases c44 : x = (44 : Int32)
  · refine kTabIn C 1856 dL_law_33 (by rw [c44]; decide) (by rw [c44]; decide) (by rw [c44]; rfl) (by decide) ?_
    exact law_tell C hX hbl hbA hi hL hr kk
  by_cases c45 : x = (45 : Int32)
  · refine kTabIn C 1879 dL_law_33 (by rw [c45]; decide) (by rw [c45]; decide) (by rw [c45]; rfl) (by decide) ?_
    exact law_octet C hX hbl hbA hi hL hr kk
  by_cases c46 : x = (46 : Int32)
  · refine kTabIn C 1902 dL_law_33 (by rw [c46]; decide) (by rw [c46]; decide) (by rw [c46]; rfl) (by decide) ?_
    exact law_common C hX hbl hbA hi hL hr kk
  by_cases c47 : x = (47 : Int32)
  · refine kTabIn C 1945 dL_law_33 (by rw [c47]; decide) (by rw [c47]; decide) (by rw [c47]; rfl) (by decide) ?_
    exact law_lacks C hX hbl hbA hi hL hr kk
  by_cases c48 : x = (48 : Int32)
  · refine kTabIn C 1978 dL_law_33 (by rw [c48]; decide) (by rw [c48]; decide) (by rw [c48]; rfl) (by decide) ?_
    exact law_moved C hX hbl hbA hi hL hr kk
  by_cases c49 : x = (49 : Int32)
  · refine kTabIn C 2001 dL_law_33 (by rw [c49]; decide) (by rw [c49]; decide) (by rw [c49]; rfl) (by decide) ?_
    exact law_together C hX hbl hbA hi hL hr kk
  by_cases c50 : x = (50 : Int32)
  · refine kTabIn C 2054 dL_law_33 (by rw [c50]; decide) (by rw [c50]; decide) (by rw [c50]; rfl) (by decide) ?_
    exact law_half C hX hbl hbA hi hL hr kk
  by_cases c51 : x = (51 : Int32)
  · refine kTabIn C 2077 dL_law_33 (by rw [c51]; decide) (by rw [c51]; decide) (by rw [c51]; rfl) (by decide) ?_
    exact law_next C hX hbl hbA hi hL hr kk
  by_cases c52 : x = (52 : Int32)
  · refine kTabIn C 2110 dL_law_33 (by rw [c52]; decide) (by rw [c52]; decide) (by rw [c52]; rfl) (by decide) ?_
    exact law_apart C hX hbl hbA hi hL hr kk
  by_cases c53 : x = (53 : Int32)
  · refine kTabIn C 2143 dL_law_33 (by rw [c53]; decide) (by rw [c53]; decide) (by rw [c53]; rfl) (by decide) ?_
    exact law_covers C hX hbl hbA hi hL hr kk
  by_cases c54 : x = (54 : Int32)
  · refine kTabIn C 2176 dL_law_33 (by rw [c54]; decide) (by rw [c54]; decide) (by rw [c54]; rfl) (by decide) ?_
    exact law_height C hX hbl hbA hi hL hr kk
  by_cases c55 : x = (55 : Int32)
  · refine kTabIn C 2209 dL_law_33 (by rw [c55]; decide) (by rw [c55]; decide) (by rw [c55]; rfl) (by decide) ?_
    exact law_trace C hX hbl hbA hi hL hr kk
  by_cases c56 : x = (56 : Int32)
  · refine kTabIn C 2252 dL_law_33 (by rw [c56]; decide) (by rw [c56]; decide) (by rw [c56]; rfl) (by decide) ?_
    exact law_joint C hX hbl hbA hi hL hr kk
  by_cases c57 : x = (57 : Int32)
  · refine kTabIn C 2305 dL_law_33 (by rw [c57]; decide) (by rw [c57]; decide) (by rw [c57]; rfl) (by decide) ?_
    exact law_rank C hX hbl hbA hi hL hr kk
  by_cases c58 : x = (58 : Int32)
  · refine kTabIn C 2328 dL_law_33 (by rw [c58]; decide) (by rw [c58]; decide) (by rw [c58]; rfl) (by decide) ?_
    exact law_ranked C hX hbl hbA hi hL hr kk
  refine kTabOut C 2361 dL_law_33 (by have a0 := lv_neT (a := 0) c0 (by decide); have a1 := lv_neT (a := 1) c1 (by decide); have a2 := lv_neT (a := 2) c2 (by decide); have a3 := lv_neT (a := 3) c3 (by decide); have a4 := lv_neT (a := 4) c4 (by decide); have a5 := lv_neT (a := 5) c5 (by decide); have a6 := lv_neT (a := 6) c6 (by decide); have a7 := lv_neT (a := 7) c7 (by decide); have a8 := lv_neT (a := 8) c8 (by decide); have a9 := lv_neT (a := 9) c9 (by decide); have a10 := lv_neT (a := 10) c10 (by decide); have a11 := lv_neT (a := 11) c11 (by decide); have a12 := lv_neT (a := 12) c12 (by decide); have a13 := lv_neT (a := 13) c13 (by decide); have a14 := lv_neT (a := 14) c14 (by decide); have a15 := lv_neT (a := 15) c15 (by decide); have a16 := lv_neT (a := 16) c16 (by decide); have a17 := lv_neT (a := 17) c17 (by decide); have a18 := lv_neT (a := 18) c18 (by decide); have a19 := lv_neT (a := 19) c19 (by decide); have a20 := lv_neT (a := 20) c20 (by decide); have a21 := lv_neT (a := 21) c21 (by decide); have a22 := lv_neT (a := 22) c22 (by decide); have a23 := lv_neT (a := 23) c23 (by decide); have a24 := lv_neT (a := 24) c24 (by decide); have a25 := lv_neT (a := 25) c25 (by decide); have a26 := lv_neT (a := 26) c26 (by decide); have a27 := lv_neT (a := 27) c27 (by decide); have a28 := lv_neT (a := 28) c28 (by decide); have a29 := lv_neT (a := 29) c29 (by decide); have a30 := lv_neT (a := 30) c30 (by decide); have a31 := lv_neT (a := 31) c31 (by decide); have a32 := lv_neT (a := 32) c32 (by decide); have a33 := lv_neT (a := 33) c33 (by decide); have a34 := lv_neT (a := 34) c34 (by decide); have a35 := lv_neT (a := 35) c35 (by decide); have a36 := lv_neT (a := 36) c36 (by decide); have a37 := lv_neT (a := 37) c37 (by decide); have a38 := lv_neT (a := 38) c38 (by decide); have a39 := lv_neT (a := 39) c39 (by decide); have a40 := lv_neT (a := 40) c40 (by decide); have a41 := lv_neT (a := 41) c41 (by decide); have a42 := lv_neT (a := 42) c42 (by decide); have a43 := lv_neT (a := 43) c43 (by decide); have a44 := lv_neT (a := 44) c44 (by decide); have a45 := lv_neT (a := 45) c45 (by decide); have a46 := lv_neT (a := 46) c46 (by decide); have a47 := lv_neT (a := 47) c47 (by decide); have a48 := lv_neT (a := 48) c48 (by decide); have a49 := lv_neT (a := 49) c49 (by decide); have a50 := lv_neT (a := 50) c50 (by decide); have a51 := lv_neT (a := 51) c51 (by decide); have a52 := lv_neT (a := 52) c52 (by decide); have a53 := lv_neT (a := 53) c53 (by decide); have a54 := lv_neT (a := 54) c54 (by decide); have a55 := lv_neT (a := 55) c55 (by decide); have a56 := lv_neT (a := 56) c56 (by decide); have a57 := lv_neT (a := 57) c57 (by decide); have a58 := lv_neT (a := 58) c58 (by decide); omega) (by decide) ?_
  exact kk _ _ _ _ _ _ _ _ _ _ _ _ _ _ _ _ _ _ _ _ _ _ _ _ _ _ _ _ _ _ _ _ _ _ _ _ _ _ _ _ _ _ _ _ _ _ _ _ _ _ _ _ _ _ _ _ _ _ hr
end LL
