
def RQ (below : List Frame) (D : va_G) (A : Nat → Prop) (args : Array Value) (s : State) (Q : State → Prop) (v : Option Value) (ws' : va_W) : Prop := Q = MQ below (QR v D A ws') args s 0 0 A
theorem MT.go {y : MethodName} {cc : ByteArray} {nL : Nat} {ret : Option FieldType} {k : Nat} {av : List Value} {D : va_G} {cy : Nat → ClassId} {G : Nat → Nat} {ws ws' : va_W} {v : Option Value} {own : String} (lv0 : List (Nat × Value)) (hpl : plainName y.cls = true) (hown : y.cls = own) (hn : (lg_sl av).length ≤ nL) (hlv : lv_args 0 av = lv0)
    (h : ∀ (p : Program) (l : Launch) (e : Env) (s : State) (m : MethodId) (args : Array Value) (below : List Frame) (meth : Method) (c : Code) (A : Nat → Prop) (Q : State → Prop), Cx p l (rmk k) s m args meth c cc nL own ret D cy G A → RQ below D A args s Q v ws' → J p l e (rmk k) s m args below meth c D A Q nL ws 0 lv0 []) : MT y cc nL ret k av D cy G ws ws' v :=
  MT.of lv0 hpl hown hn hlv (fun p l e s m below meth c A C => h p l e s m _ below meth c A _ C rfl)
def rv (g : Nat → Nat) : Option Nat → Value
  | none => .null
  | some i => .ref (g i)
theorem ixn {i : Int32} {n : Nat} (h : vp_in i n) : i.toNatClampNeg < n := Nat.lt_of_not_le (fun q => h (Or.inr q))
theorem ix3 {i : Int32} (h : vp_in i 3) : i.toNatClampNeg < 28 := Nat.lt_of_lt_of_le (ixn h) (by decide)
theorem ix10 {i : Int32} (h : vp_in i 10) : 6 + i.toNatClampNeg < 28 := by have := ixn h; omega
theorem ix7 {i : Int32} (h : vp_in i 7) : 20 + i.toNatClampNeg < 28 := by have := ixn h; omega
section JR
variable {p : Program} {l : Launch} {e : Env} {R : Room} {s : State} {m : MethodId} {args : Array Value} {below : List Frame} {meth : Method} {c : Code} {cc : ByteArray} {nL : Nat} {own : String} {ret : Option FieldType} {D : va_G} {cy : Nat → ClassId} {G : Nat → Nat} {A : Nat → Prop} {Q : State → Prop} {ws : va_W} {pc : Nat} {lv : List (Nat × Value)} {st : List Value}
theorem jVI (C : Cx p l R s m args meth c cc nL own ret D cy G A) {y : MethodName} {c' : ByteArray} {n' n idx b k : Nat} {r' : Option FieldType} {As rest : List Value} {ws' : va_W} {st0 : List Value} {x : Int32} (hM : MT y c' n' r' k (.ref b :: As) D cy G ws ws' (some (.int x))) (hB : VB y c' n' r' n) (hlk : Cond.methodLink own idx y ∈ TB) (hn : As.length = n) (hrecv : ∃ (q0 ci : Nat) (fs : List Value) (r0 : vw_C), ws[q0]? = some (b, .inr (ci, fs)) ∧ vwCl[ci]? = some r0 ∧ r0.1 = y.cls) (hR : k + 1 ≤ R.frames ∧ 8 + (n' + 11) + 64 * k ≤ R.locals) (hst : st0 = As.reverse ++ .ref b :: rest) (hrs : (rest.map fun v => v.category).sum ≤ 8) (hd : decode cc pc = .ok (.invokevirtual idx, 3)) (kk : J p l e R s m args below meth c D A Q nL ws' (pc + 3) lv (.int x :: rest)) : J p l e R s m args below meth c D A Q nL ws pc lv st0 := jV C hM hB hlk hn hrecv hR hst hrs hd kk
theorem jSI (C : Cx p l R s m args meth c cc nL own ret D cy G A) {y : MethodName} {c' : ByteArray} {n' n idx k : Nat} {r' : Option FieldType} {As rest : List Value} {ws' : va_W} {st0 : List Value} {x : Int32} (hM : MT y c' n' r' k As D cy G ws ws' (some (.int x))) (hB : SB y c' n' r' n) (hlk : Cond.methodLink own idx y ∈ TB) (hn : As.length = n) (hR : k + 1 ≤ R.frames ∧ 8 + (n' + 11) + 64 * k ≤ R.locals) (hst : st0 = As.reverse ++ rest) (hrs : (rest.map fun v => v.category).sum ≤ 8) (hd : decode cc pc = .ok (.invokestatic idx, 3)) (kk : J p l e R s m args below meth c D A Q nL ws' (pc + 3) lv (.int x :: rest)) : J p l e R s m args below meth c D A Q nL ws pc lv st0 := jS C hM hB hlk hn hR hst hrs hd kk
theorem jVL (C : Cx p l R s m args meth c cc nL own ret D cy G A) {y : MethodName} {c' : ByteArray} {n' n idx b k : Nat} {r' : Option FieldType} {As rest : List Value} {ws' : va_W} {st0 : List Value} {x : Int64} (hM : MT y c' n' r' k (.ref b :: As) D cy G ws ws' (some (.long x))) (hB : VB y c' n' r' n) (hlk : Cond.methodLink own idx y ∈ TB) (hn : As.length = n) (hrecv : ∃ (q0 ci : Nat) (fs : List Value) (r0 : vw_C), ws[q0]? = some (b, .inr (ci, fs)) ∧ vwCl[ci]? = some r0 ∧ r0.1 = y.cls) (hR : k + 1 ≤ R.frames ∧ 8 + (n' + 11) + 64 * k ≤ R.locals) (hst : st0 = As.reverse ++ .ref b :: rest) (hrs : (rest.map fun v => v.category).sum ≤ 8) (hd : decode cc pc = .ok (.invokevirtual idx, 3)) (kk : J p l e R s m args below meth c D A Q nL ws' (pc + 3) lv (.long x :: rest)) : J p l e R s m args below meth c D A Q nL ws pc lv st0 := jV C hM hB hlk hn hrecv hR hst hrs hd kk
theorem jSL (C : Cx p l R s m args meth c cc nL own ret D cy G A) {y : MethodName} {c' : ByteArray} {n' n idx k : Nat} {r' : Option FieldType} {As rest : List Value} {ws' : va_W} {st0 : List Value} {x : Int64} (hM : MT y c' n' r' k As D cy G ws ws' (some (.long x))) (hB : SB y c' n' r' n) (hlk : Cond.methodLink own idx y ∈ TB) (hn : As.length = n) (hR : k + 1 ≤ R.frames ∧ 8 + (n' + 11) + 64 * k ≤ R.locals) (hst : st0 = As.reverse ++ rest) (hrs : (rest.map fun v => v.category).sum ≤ 8) (hd : decode cc pc = .ok (.invokestatic idx, 3)) (kk : J p l e R s m args below meth c D A Q nL ws' (pc + 3) lv (.long x :: rest)) : J p l e R s m args below meth c D A Q nL ws pc lv st0 := jS C hM hB hlk hn hR hst hrs hd kk
theorem jVV (C : Cx p l R s m args meth c cc nL own ret D cy G A) {y : MethodName} {c' : ByteArray} {n' n idx b k : Nat} {r' : Option FieldType} {As rest : List Value} {ws' : va_W} {st0 : List Value}  (hM : MT y c' n' r' k (.ref b :: As) D cy G ws ws' none) (hB : VB y c' n' r' n) (hlk : Cond.methodLink own idx y ∈ TB) (hn : As.length = n) (hrecv : ∃ (q0 ci : Nat) (fs : List Value) (r0 : vw_C), ws[q0]? = some (b, .inr (ci, fs)) ∧ vwCl[ci]? = some r0 ∧ r0.1 = y.cls) (hR : k + 1 ≤ R.frames ∧ 8 + (n' + 11) + 64 * k ≤ R.locals) (hst : st0 = As.reverse ++ .ref b :: rest) (hrs : (rest.map fun v => v.category).sum ≤ 8) (hd : decode cc pc = .ok (.invokevirtual idx, 3)) (kk : J p l e R s m args below meth c D A Q nL ws' (pc + 3) lv rest) : J p l e R s m args below meth c D A Q nL ws pc lv st0 := jV C hM hB hlk hn hrecv hR hst hrs hd kk
theorem jSV (C : Cx p l R s m args meth c cc nL own ret D cy G A) {y : MethodName} {c' : ByteArray} {n' n idx k : Nat} {r' : Option FieldType} {As rest : List Value} {ws' : va_W} {st0 : List Value}  (hM : MT y c' n' r' k As D cy G ws ws' none) (hB : SB y c' n' r' n) (hlk : Cond.methodLink own idx y ∈ TB) (hn : As.length = n) (hR : k + 1 ≤ R.frames ∧ 8 + (n' + 11) + 64 * k ≤ R.locals) (hst : st0 = As.reverse ++ rest) (hrs : (rest.map fun v => v.category).sum ≤ 8) (hd : decode cc pc = .ok (.invokestatic idx, 3)) (kk : J p l e R s m args below meth c D A Q nL ws' (pc + 3) lv rest) : J p l e R s m args below meth c D A Q nL ws pc lv st0 := jS C hM hB hlk hn hR hst hrs hd kk
theorem jVN (C : Cx p l R s m args meth c cc nL own ret D cy G A) {y : MethodName} {c' : ByteArray} {n' n idx b k : Nat} {r' : Option FieldType} {As rest : List Value} {ws' : va_W} {st0 : List Value}  (hM : MT y c' n' r' k (.ref b :: As) D cy G ws ws' (some .null)) (hB : VB y c' n' r' n) (hlk : Cond.methodLink own idx y ∈ TB) (hn : As.length = n) (hrecv : ∃ (q0 ci : Nat) (fs : List Value) (r0 : vw_C), ws[q0]? = some (b, .inr (ci, fs)) ∧ vwCl[ci]? = some r0 ∧ r0.1 = y.cls) (hR : k + 1 ≤ R.frames ∧ 8 + (n' + 11) + 64 * k ≤ R.locals) (hst : st0 = As.reverse ++ .ref b :: rest) (hrs : (rest.map fun v => v.category).sum ≤ 8) (hd : decode cc pc = .ok (.invokevirtual idx, 3)) (kk : J p l e R s m args below meth c D A Q nL ws' (pc + 3) lv (.null :: rest)) : J p l e R s m args below meth c D A Q nL ws pc lv st0 := jV C hM hB hlk hn hrecv hR hst hrs hd kk
theorem jSN (C : Cx p l R s m args meth c cc nL own ret D cy G A) {y : MethodName} {c' : ByteArray} {n' n idx k : Nat} {r' : Option FieldType} {As rest : List Value} {ws' : va_W} {st0 : List Value}  (hM : MT y c' n' r' k As D cy G ws ws' (some .null)) (hB : SB y c' n' r' n) (hlk : Cond.methodLink own idx y ∈ TB) (hn : As.length = n) (hR : k + 1 ≤ R.frames ∧ 8 + (n' + 11) + 64 * k ≤ R.locals) (hst : st0 = As.reverse ++ rest) (hrs : (rest.map fun v => v.category).sum ≤ 8) (hd : decode cc pc = .ok (.invokestatic idx, 3)) (kk : J p l e R s m args below meth c D A Q nL ws' (pc + 3) lv (.null :: rest)) : J p l e R s m args below meth c D A Q nL ws pc lv st0 := jS C hM hB hlk hn hR hst hrs hd kk
theorem jVA (C : Cx p l R s m args meth c cc nL own ret D cy G A) {y : MethodName} {c' : ByteArray} {n' n idx b k : Nat} {r' : Option FieldType} {As rest : List Value} {ws' : va_W} {st0 : List Value} {x : Nat} (hM : MT y c' n' r' k (.ref b :: As) D cy G ws ws' (some (.ref x))) (hB : VB y c' n' r' n) (hlk : Cond.methodLink own idx y ∈ TB) (hn : As.length = n) (hrecv : ∃ (q0 ci : Nat) (fs : List Value) (r0 : vw_C), ws[q0]? = some (b, .inr (ci, fs)) ∧ vwCl[ci]? = some r0 ∧ r0.1 = y.cls) (hR : k + 1 ≤ R.frames ∧ 8 + (n' + 11) + 64 * k ≤ R.locals) (hst : st0 = As.reverse ++ .ref b :: rest) (hrs : (rest.map fun v => v.category).sum ≤ 8) (hd : decode cc pc = .ok (.invokevirtual idx, 3)) (kk : J p l e R s m args below meth c D A Q nL ws' (pc + 3) lv (.ref x :: rest)) : J p l e R s m args below meth c D A Q nL ws pc lv st0 := jV C hM hB hlk hn hrecv hR hst hrs hd kk
theorem jSA (C : Cx p l R s m args meth c cc nL own ret D cy G A) {y : MethodName} {c' : ByteArray} {n' n idx k : Nat} {r' : Option FieldType} {As rest : List Value} {ws' : va_W} {st0 : List Value} {x : Nat} (hM : MT y c' n' r' k As D cy G ws ws' (some (.ref x))) (hB : SB y c' n' r' n) (hlk : Cond.methodLink own idx y ∈ TB) (hn : As.length = n) (hR : k + 1 ≤ R.frames ∧ 8 + (n' + 11) + 64 * k ≤ R.locals) (hst : st0 = As.reverse ++ rest) (hrs : (rest.map fun v => v.category).sum ≤ 8) (hd : decode cc pc = .ok (.invokestatic idx, 3)) (kk : J p l e R s m args below meth c D A Q nL ws' (pc + 3) lv (.ref x :: rest)) : J p l e R s m args below meth c D A Q nL ws pc lv st0 := jS C hM hB hlk hn hR hst hrs hd kk

theorem jSNI (C : Cx p l R s m args meth c cc nL own ret D cy G A) {y : MethodName} {c' : ByteArray} {n' n idx k : Nat} {r' : Option FieldType} {As rest : List Value} {ws' : va_W} {st0 : List Value} {x : Int32} (hM : MT y c' n' r' k As D cy G ws ws' (some (.int x))) (hB : SB y c' n' r' n) (hlk : (own, idx, y) ∈ nestW) (hn : As.length = n) (hR : k + 1 ≤ R.frames ∧ 8 + (n' + 11) + 64 * k ≤ R.locals) (hst : st0 = As.reverse ++ rest) (hrs : (rest.map fun v => v.category).sum ≤ 8) (hd : decode cc pc = .ok (.invokestatic idx, 3)) (kk : J p l e R s m args below meth c D A Q nL ws' (pc + 3) lv (.int x :: rest)) : J p l e R s m args below meth c D A Q nL ws pc lv st0 := by
  intro H locs ls hP hD hS hl
  have hp := j_pre (av := As) C hP hD hS
  obtain ⟨hx, hb, hml, hown, hts, hK, hG, hA, hr, hlo⟩ := id C
  obtain ⟨hd0, hc, hi, hin⟩ := hB
  refine j_back C hD hS hl (va_runSN (host := RX8) (bytes := c') (maxL := n') (ret := r') (As := As) (rest := rest) (Ts := TB) ⟨hx, hb, hml, hown, hts⟩ (hM l H.size) ?_ ⟨Pre.blind, hp⟩ rfl hn hl.1 hst (lv_room hrs) hd ⟨Nat.zero_le _, Nat.zero_le _⟩) kk
  refine ⟨va_cnB n hts (goodTB (fun _ h => h) ?_) rfl rfl rfl (hG.2.2.2.2.2.2 _ hlk) (hts _ hi) hd0 hR, hts _ hin, trivial⟩
  intro w hw
  rcases List.mem_cons.mp hw with rfl | hw
  · exact hc
  · exact hw
theorem jVsI (C : Cx p l R s m args meth c cc nL own ret D cy G A) {y : MethodName} {c' : ByteArray} {n' n idx b k : Nat} {r' : Option FieldType} {As rest : List Value} {ws' : va_W} {st0 : List Value} {x : Int32} (hM : MT y c' n' r' k (.ref b :: As) D cy G ws ws' (some (.int x))) (hB : VB y c' n' r' n) (hlk : Cond.methodLink own idx y ∈ TB) (hn : As.length = n) (hrecv : va_O y.cls b A s s.heap) (hR : k + 1 ≤ R.frames ∧ 8 + (n' + 11) + 64 * k ≤ R.locals) (hst : st0 = As.reverse ++ .ref b :: rest) (hrs : (rest.map fun v => v.category).sum ≤ 8) (hd : decode cc pc = .ok (.invokevirtual idx, 3)) (kk : J p l e R s m args below meth c D A Q nL ws' (pc + 3) lv (.int x :: rest)) : J p l e R s m args below meth c D A Q nL ws pc lv st0 := by
  intro H locs ls hP hD hS hl
  have hp := j_pre (av := .ref b :: As) C hP hD hS
  obtain ⟨hx, hb, hml, hown, hts, hK, hG, hA, hr, hlo⟩ := id C
  obtain ⟨hd0, hc, hi, hin, hse⟩ := hB
  obtain ⟨cell, u1, u2, u3, u4⟩ := hrecv.kept hS.2.1
  refine j_back C hD hS hl (va_runV (C := y.cls) (bytes := c') (maxL := n') (ret := r') (As := As) (rest := rest) (Ts := TB) ⟨hx, hb, hml, hown, hts⟩ (hM l H.size) ?_ ⟨Pre.blind, ⟨cell, u1, u2, u3⟩, hp⟩ rfl hn hl.1 hst (lv_room hrs) hd ⟨Nat.zero_le _, Nat.zero_le _⟩) kk
  refine ⟨callB_of n hts (goodTB (fun _ h => h) ?_) rfl rfl rfl (hts _ hi) (hts _ hlk) hd0 hR, hts _ hin, hts _ hse⟩
  intro w hw
  rcases List.mem_cons.mp hw with rfl | hw
  · exact hc
  · exact hw
theorem jLdcw (C : Cx p l R s m args meth c cc nL own ret D cy G A) {idx : Nat} {x : Int32} (hw : Cond.constant own idx x ∈ TB) (hd : decode cc pc = .ok (.ldc_w idx, 3)) (kk : J p l e R s m args below meth c D A Q nL ws (pc + 3) lv (.int x :: st)) : J p l e R s m args below meth c D A Q nL ws pc lv st := fun H locs ls hP hD hS hl => lv_ldcw C.1 C.2.1 C.2.2.2.1 (C.2.2.2.2.1 _ hw) hd (kk H locs ls hP hD hS hl)

def imin (x y : Int32) : Int32 := if y < x then y else x
def imax (x y : Int32) : Int32 := if x < y then y else x
theorem jMin (C : Cx p l R s m args meth c cc nL own ret D cy G A) {idx : Nat} {x y : Int32} (hlk : Cond.methodLink own idx yJ9_min_7cf53 ∈ TB) (hR : 1 ≤ R.frames ∧ (st.map fun v => v.category).sum + 13 ≤ R.locals) (hd : decode cc pc = .ok (.invokestatic idx, 3)) (kk : J p l e R s m args below meth c D A Q nL ws (pc + 3) lv (.int (imin x y) :: st)) : J p l e R s m args below meth c D A Q nL ws pc lv (.int y :: .int x :: st) := fun H locs ls hP hD hS hl => va_mmin C.1 C.2.1 (C.2.2.1.trans hl.1.symm) C.2.2.2.1 (C.2.2.2.2.1 _ hlk) (C.2.2.2.2.1 _ sb_J9_min_7cf53.2.2.2) (C.2.2.2.2.1 _ sb_J9_min_7cf53.2.2.1) (C.2.2.2.2.1 _ sb_J9_min_7cf53.2.1) hR.1 hR.2 (Nat.zero_le _) (Nat.zero_le _) hd (kk H locs ls hP hD hS hl)
theorem jMax (C : Cx p l R s m args meth c cc nL own ret D cy G A) {idx : Nat} {x y : Int32} (hlk : Cond.methodLink own idx yJ9_max_7cf53 ∈ TB) (hR : 1 ≤ R.frames ∧ (st.map fun v => v.category).sum + 13 ≤ R.locals) (hd : decode cc pc = .ok (.invokestatic idx, 3)) (kk : J p l e R s m args below meth c D A Q nL ws (pc + 3) lv (.int (imax x y) :: st)) : J p l e R s m args below meth c D A Q nL ws pc lv (.int y :: .int x :: st) := fun H locs ls hP hD hS hl => va_mmax C.1 C.2.1 (C.2.2.1.trans hl.1.symm) C.2.2.2.1 (C.2.2.2.2.1 _ hlk) (C.2.2.2.2.1 _ sb_J9_max_7cf53.2.2.2) (C.2.2.2.2.1 _ sb_J9_max_7cf53.2.2.1) (C.2.2.2.2.1 _ sb_J9_max_7cf53.2.1) hR.1 hR.2 (Nat.zero_le _) (Nat.zero_le _) hd (kk H locs ls hP hD hS hl)

theorem j_ldcwS {T : State} {locs : List Loc} {cells slots : Nat} (X : Stand p l e R s m args below meth c T locs cells slots) (hexec : p.tables.exec = Jvm.exec) {text : String} {index : Nat} {a : Addr} (hown : s.vm.findClass own = some m.cls)
    (hconst : (Cond.stringRef own index text).before #[] s = true) (hev : (Term.string own index).eval #[] s none [] s = some (.ref a)) {g : JFrame} (hg : g.method = m) (hdg : decode c.code g.pc = .ok (.ldc_w index, 3)) :
    ∀ target, Steps p.tables e below (T.setTop { g with pc := g.pc + 3, stack := .ref a :: g.stack }) target → Steps p.tables e below (T.setTop g) target := by
  obtain ⟨k, cf, i, a', hk, hcf, hcp, -, hr, hev'⟩ := Cond.stringRef_spec hown hconst
  cases hev.symm.trans hev'
  obtain ⟨k', hk', he⟩ := X.warmed.alike.2.2 _ _ hk
  have hr' : k'.resolved[index]? = some (some (.string a)) := by
    rcases X.warmed.entry hk hk' index with h | ⟨h, -⟩
    · rw [h]; exact hr
    · rw [hr] at h; cases h
  intro target hrest
  subst hg
  jvm_step X.here [hexec, hdg, ldc_w.wp_string (e := e) (s := T) (f := g) X.here.top hk' (by rw [he]; exact hcf) hcp hr']
  exact hrest
theorem jLdcSw (C : Cx p l R s m args meth c cc nL own ret D cy G A) {tx : String} {idx q : Nat} (hZ : vk_R own idx tx q s) (hd : decode cc pc = .ok (.ldc_w idx, 3)) (kk : J p l e R s m args below meth c D A Q nL ws (pc + 3) lv (.ref q :: st)) : J p l e R s m args below meth c D A Q nL ws pc lv st := by
  intro H locs ls hP hD hS hl T hT X
  obtain ⟨t, a1, b1⟩ := kk H locs ls hP hD hS hl T hT X
  exact ⟨t, j_ldcwS X C.1 C.2.2.2.1 hZ.1 hZ.2 (g := F0 m pc ls st) rfl (by rw [C.2.1]; exact hd) t a1, b1⟩
theorem ls_RX6_31 (C : Cx p l R s m args meth c cc nL RX6 ret D cy G A) (hd : decode cc pc = .ok (.ldc 31, 2)) (kk : J p l e R s m args below meth c D A Q nL ws (pc + 2) lv (.ref (G (10 + 0)) :: st)) : J p l e R s m args below meth c D A Q nL ws pc lv st := jLdcS C (C.2.2.2.2.2.2.1.2.2.2.2.2.1 _ (List.mem_of_getElem? (i := 0) rfl)) hd kk
theorem ls_RX6_75 (C : Cx p l R s m args meth c cc nL RX6 ret D cy G A) (hd : decode cc pc = .ok (.ldc 75, 2)) (kk : J p l e R s m args below meth c D A Q nL ws (pc + 2) lv (.ref (G (10 + 1)) :: st)) : J p l e R s m args below meth c D A Q nL ws pc lv st := jLdcS C (C.2.2.2.2.2.2.1.2.2.2.2.2.1 _ (List.mem_of_getElem? (i := 1) rfl)) hd kk
theorem ls_RX7_19 (C : Cx p l R s m args meth c cc nL RX7 ret D cy G A) (hd : decode cc pc = .ok (.ldc 19, 2)) (kk : J p l e R s m args below meth c D A Q nL ws (pc + 2) lv (.ref (G (10 + 2)) :: st)) : J p l e R s m args below meth c D A Q nL ws pc lv st := jLdcS C (C.2.2.2.2.2.2.1.2.2.2.2.2.1 _ (List.mem_of_getElem? (i := 2) rfl)) hd kk
theorem ls_RX7_45 (C : Cx p l R s m args meth c cc nL RX7 ret D cy G A) (hd : decode cc pc = .ok (.ldc 45, 2)) (kk : J p l e R s m args below meth c D A Q nL ws (pc + 2) lv (.ref (G (10 + 1)) :: st)) : J p l e R s m args below meth c D A Q nL ws pc lv st := jLdcS C (C.2.2.2.2.2.2.1.2.2.2.2.2.1 _ (List.mem_of_getElem? (i := 3) rfl)) hd kk
theorem ls_RX9_172 (C : Cx p l R s m args meth c cc nL RX9 ret D cy G A) (hd : decode cc pc = .ok (.ldc 172, 2)) (kk : J p l e R s m args below meth c D A Q nL ws (pc + 2) lv (.ref (G (10 + 0)) :: st)) : J p l e R s m args below meth c D A Q nL ws pc lv st := jLdcS C (C.2.2.2.2.2.2.1.2.2.2.2.2.1 _ (List.mem_of_getElem? (i := 4) rfl)) hd kk
theorem ls_RX9_159 (C : Cx p l R s m args meth c cc nL RX9 ret D cy G A) (hd : decode cc pc = .ok (.ldc 159, 2)) (kk : J p l e R s m args below meth c D A Q nL ws (pc + 2) lv (.ref (G (10 + 1)) :: st)) : J p l e R s m args below meth c D A Q nL ws pc lv st := jLdcS C (C.2.2.2.2.2.2.1.2.2.2.2.2.1 _ (List.mem_of_getElem? (i := 5) rfl)) hd kk
theorem ls_RX9_354 (C : Cx p l R s m args meth c cc nL RX9 ret D cy G A) (hd : decode cc pc = .ok (.ldc_w 354, 3)) (kk : J p l e R s m args below meth c D A Q nL ws (pc + 3) lv (.ref (G (10 + 2)) :: st)) : J p l e R s m args below meth c D A Q nL ws pc lv st := jLdcSw C (C.2.2.2.2.2.2.1.2.2.2.2.2.1 _ (List.mem_of_getElem? (i := 6) rfl)) hd kk
theorem jEndI (C : Cx p l R s m args meth c cc nL own ret D cy G A) {x : Int32} (hQ : RQ below D A args s Q (some (.int x)) ws) (hr : some .int = ret) (hd : decode cc pc = .ok (.ireturn, 1)) : J p l e R s m args below meth c D A Q nL ws pc lv [.int x] := by
  rw [hQ]
  exact jRetI C hr hd
theorem jEndIZ (C : Cx p l R s m args meth c cc nL own ret D cy G A) {x : Int32} (hQ : RQ below D A args s Q (some (.int x)) ws) {ty : FieldType} (hr : some ty = ret) (hn : narrow ty (.int x) = .int x) (hd : decode cc pc = .ok (.ireturn, 1)) : J p l e R s m args below meth c D A Q nL ws pc lv [.int x] := by
  rw [hQ]
  exact jRetIZ C hr hn hd
theorem jEndL (C : Cx p l R s m args meth c cc nL own ret D cy G A) {x : Int64} (hQ : RQ below D A args s Q (some (.long x)) ws) (hr : some .long = ret) (hd : decode cc pc = .ok (.lreturn, 1)) : J p l e R s m args below meth c D A Q nL ws pc lv [.long x] := by
  rw [hQ]
  exact jRetL C hr hd
theorem jEndV (C : Cx p l R s m args meth c cc nL own ret D cy G A)  (hQ : RQ below D A args s Q none ws) (hr : none = ret) (hd : decode cc pc = .ok (.return_, 1)) : J p l e R s m args below meth c D A Q nL ws pc lv [] := by
  rw [hQ]
  exact jRetV (x := 0) C hr hd
theorem jEndA (C : Cx p l R s m args meth c cc nL own ret D cy G A) {x : Value} (hQ : RQ below D A args s Q (some x) ws) {rt : FieldType} (hr : some rt = ret) (hrt : (∃ n, rt = .object n) ∨ ∃ t, rt = .array t) (hv : x = .null ∨ ∃ a, x = .ref a) (hd : decode cc pc = .ok (.areturn, 1)) : J p l e R s m args below meth c D A Q nL ws pc lv [x] := by
  rw [hQ]
  exact jRetA C hr hrt hv hd
end JR

theorem nar_z0 : narrow .boolean (.int 0) = .int 0 := by decide +kernel
theorem nar_z1 : narrow .boolean (.int 1) = .int 1 := by decide +kernel
/-- the machine cuts a boolean answer to its last bit -/
def gbo {α : Type} (x : Int32) (k : Option α) : Option α := if narrow .boolean (.int x) = .int x then k else none
theorem gbo_some {α : Type} {x : Int32} {k : Option α} {o : α} (h : gbo x k = some o) : narrow .boolean (.int x) = .int x ∧ k = some o := by
  unfold gbo at h
  by_cases q : narrow .boolean (.int x) = .int x
  · rw [if_pos q] at h; exact ⟨q, h⟩
  · rw [if_neg q] at h; cases h
def bd0 {β : Type} (x : Option Unit) (y : Option β) : Option β := match x with
  | none => none
  | some _ => y
theorem bd0_some {β : Type} {x : Option Unit} {y : Option β} {o : β} (h : bd0 x y = some o) : x = some () ∧ y = some o := by
  cases x with
  | none => cases h
  | some u => exact ⟨rfl, h⟩
def bdo {β : Type} (x : Option (Option Nat)) (a : Option β) (f : Nat → Option β) : Option β := match x with
  | none => none
  | some none => a
  | some (some i) => f i
theorem bdo_some {β : Type} {x : Option (Option Nat)} {a : Option β} {f : Nat → Option β} {o : β} (h : bdo x a f = some o) : (x = some none ∧ a = some o) ∨ ∃ i, x = some (some i) ∧ f i = some o := by
  match x, h with
  | none, h => cases h
  | some none, h => exact Or.inl ⟨rfl, h⟩
  | some (some i), h => exact Or.inr ⟨i, rfl, h⟩
def bd1 {T1 β : Type} (x : Option (T1)) (f : T1 → Option β) : Option β := match x with
  | none => none
  | some a1 => f a1
theorem bd1_some {T1 β : Type} {x : Option (T1)} {f : T1 → Option β} {o : β} (h : bd1 x f = some o) : ∃ a1, x = some a1 ∧ f a1 = some o := by
  match x, h with
  | none, h => cases h
  | some a1, h => exact ⟨a1, rfl, h⟩
def bd2 {T1 T2 β : Type} (x : Option (T1 × T2)) (f : T1 → T2 → Option β) : Option β := match x with
  | none => none
  | some (a1, a2) => f a1 a2
theorem bd2_some {T1 T2 β : Type} {x : Option (T1 × T2)} {f : T1 → T2 → Option β} {o : β} (h : bd2 x f = some o) : ∃ a1 a2, x = some (a1, a2) ∧ f a1 a2 = some o := by
  match x, h with
  | none, h => cases h
  | some (a1, a2), h => exact ⟨a1, a2, rfl, h⟩
def bd3 {T1 T2 T3 β : Type} (x : Option (T1 × T2 × T3)) (f : T1 → T2 → T3 → Option β) : Option β := match x with
  | none => none
  | some (a1, a2, a3) => f a1 a2 a3
theorem bd3_some {T1 T2 T3 β : Type} {x : Option (T1 × T2 × T3)} {f : T1 → T2 → T3 → Option β} {o : β} (h : bd3 x f = some o) : ∃ a1 a2 a3, x = some (a1, a2, a3) ∧ f a1 a2 a3 = some o := by
  match x, h with
  | none, h => cases h
  | some (a1, a2, a3), h => exact ⟨a1, a2, a3, rfl, h⟩
def bd4 {T1 T2 T3 T4 β : Type} (x : Option (T1 × T2 × T3 × T4)) (f : T1 → T2 → T3 → T4 → Option β) : Option β := match x with
  | none => none
  | some (a1, a2, a3, a4) => f a1 a2 a3 a4
theorem bd4_some {T1 T2 T3 T4 β : Type} {x : Option (T1 × T2 × T3 × T4)} {f : T1 → T2 → T3 → T4 → Option β} {o : β} (h : bd4 x f = some o) : ∃ a1 a2 a3 a4, x = some (a1, a2, a3, a4) ∧ f a1 a2 a3 a4 = some o := by
  match x, h with
  | none, h => cases h
  | some (a1, a2, a3, a4), h => exact ⟨a1, a2, a3, a4, rfl, h⟩
def bd5 {T1 T2 T3 T4 T5 β : Type} (x : Option (T1 × T2 × T3 × T4 × T5)) (f : T1 → T2 → T3 → T4 → T5 → Option β) : Option β := match x with
  | none => none
  | some (a1, a2, a3, a4, a5) => f a1 a2 a3 a4 a5
theorem bd5_some {T1 T2 T3 T4 T5 β : Type} {x : Option (T1 × T2 × T3 × T4 × T5)} {f : T1 → T2 → T3 → T4 → T5 → Option β} {o : β} (h : bd5 x f = some o) : ∃ a1 a2 a3 a4 a5, x = some (a1, a2, a3, a4, a5) ∧ f a1 a2 a3 a4 a5 = some o := by
  match x, h with
  | none, h => cases h
  | some (a1, a2, a3, a4, a5), h => exact ⟨a1, a2, a3, a4, a5, rfl, h⟩
def bd6 {T1 T2 T3 T4 T5 T6 β : Type} (x : Option (T1 × T2 × T3 × T4 × T5 × T6)) (f : T1 → T2 → T3 → T4 → T5 → T6 → Option β) : Option β := match x with
  | none => none
  | some (a1, a2, a3, a4, a5, a6) => f a1 a2 a3 a4 a5 a6
theorem bd6_some {T1 T2 T3 T4 T5 T6 β : Type} {x : Option (T1 × T2 × T3 × T4 × T5 × T6)} {f : T1 → T2 → T3 → T4 → T5 → T6 → Option β} {o : β} (h : bd6 x f = some o) : ∃ a1 a2 a3 a4 a5 a6, x = some (a1, a2, a3, a4, a5, a6) ∧ f a1 a2 a3 a4 a5 a6 = some o := by
  match x, h with
  | none, h => cases h
  | some (a1, a2, a3, a4, a5, a6), h => exact ⟨a1, a2, a3, a4, a5, a6, rfl, h⟩
def bd7 {T1 T2 T3 T4 T5 T6 T7 β : Type} (x : Option (T1 × T2 × T3 × T4 × T5 × T6 × T7)) (f : T1 → T2 → T3 → T4 → T5 → T6 → T7 → Option β) : Option β := match x with
  | none => none
  | some (a1, a2, a3, a4, a5, a6, a7) => f a1 a2 a3 a4 a5 a6 a7
theorem bd7_some {T1 T2 T3 T4 T5 T6 T7 β : Type} {x : Option (T1 × T2 × T3 × T4 × T5 × T6 × T7)} {f : T1 → T2 → T3 → T4 → T5 → T6 → T7 → Option β} {o : β} (h : bd7 x f = some o) : ∃ a1 a2 a3 a4 a5 a6 a7, x = some (a1, a2, a3, a4, a5, a6, a7) ∧ f a1 a2 a3 a4 a5 a6 a7 = some o := by
  match x, h with
  | none, h => cases h
  | some (a1, a2, a3, a4, a5, a6, a7), h => exact ⟨a1, a2, a3, a4, a5, a6, a7, rfl, h⟩
def bd8 {T1 T2 T3 T4 T5 T6 T7 T8 β : Type} (x : Option (T1 × T2 × T3 × T4 × T5 × T6 × T7 × T8)) (f : T1 → T2 → T3 → T4 → T5 → T6 → T7 → T8 → Option β) : Option β := match x with
  | none => none
  | some (a1, a2, a3, a4, a5, a6, a7, a8) => f a1 a2 a3 a4 a5 a6 a7 a8
theorem bd8_some {T1 T2 T3 T4 T5 T6 T7 T8 β : Type} {x : Option (T1 × T2 × T3 × T4 × T5 × T6 × T7 × T8)} {f : T1 → T2 → T3 → T4 → T5 → T6 → T7 → T8 → Option β} {o : β} (h : bd8 x f = some o) : ∃ a1 a2 a3 a4 a5 a6 a7 a8, x = some (a1, a2, a3, a4, a5, a6, a7, a8) ∧ f a1 a2 a3 a4 a5 a6 a7 a8 = some o := by
  match x, h with
  | none, h => cases h
  | some (a1, a2, a3, a4, a5, a6, a7, a8), h => exact ⟨a1, a2, a3, a4, a5, a6, a7, a8, rfl, h⟩
def bd9 {T1 T2 T3 T4 T5 T6 T7 T8 T9 β : Type} (x : Option (T1 × T2 × T3 × T4 × T5 × T6 × T7 × T8 × T9)) (f : T1 → T2 → T3 → T4 → T5 → T6 → T7 → T8 → T9 → Option β) : Option β := match x with
  | none => none
  | some (a1, a2, a3, a4, a5, a6, a7, a8, a9) => f a1 a2 a3 a4 a5 a6 a7 a8 a9
theorem bd9_some {T1 T2 T3 T4 T5 T6 T7 T8 T9 β : Type} {x : Option (T1 × T2 × T3 × T4 × T5 × T6 × T7 × T8 × T9)} {f : T1 → T2 → T3 → T4 → T5 → T6 → T7 → T8 → T9 → Option β} {o : β} (h : bd9 x f = some o) : ∃ a1 a2 a3 a4 a5 a6 a7 a8 a9, x = some (a1, a2, a3, a4, a5, a6, a7, a8, a9) ∧ f a1 a2 a3 a4 a5 a6 a7 a8 a9 = some o := by
  match x, h with
  | none, h => cases h
  | some (a1, a2, a3, a4, a5, a6, a7, a8, a9), h => exact ⟨a1, a2, a3, a4, a5, a6, a7, a8, a9, rfl, h⟩
def bd10 {T1 T2 T3 T4 T5 T6 T7 T8 T9 T10 β : Type} (x : Option (T1 × T2 × T3 × T4 × T5 × T6 × T7 × T8 × T9 × T10)) (f : T1 → T2 → T3 → T4 → T5 → T6 → T7 → T8 → T9 → T10 → Option β) : Option β := match x with
  | none => none
  | some (a1, a2, a3, a4, a5, a6, a7, a8, a9, a10) => f a1 a2 a3 a4 a5 a6 a7 a8 a9 a10
theorem bd10_some {T1 T2 T3 T4 T5 T6 T7 T8 T9 T10 β : Type} {x : Option (T1 × T2 × T3 × T4 × T5 × T6 × T7 × T8 × T9 × T10)} {f : T1 → T2 → T3 → T4 → T5 → T6 → T7 → T8 → T9 → T10 → Option β} {o : β} (h : bd10 x f = some o) : ∃ a1 a2 a3 a4 a5 a6 a7 a8 a9 a10, x = some (a1, a2, a3, a4, a5, a6, a7, a8, a9, a10) ∧ f a1 a2 a3 a4 a5 a6 a7 a8 a9 a10 = some o := by
  match x, h with
  | none, h => cases h
  | some (a1, a2, a3, a4, a5, a6, a7, a8, a9, a10), h => exact ⟨a1, a2, a3, a4, a5, a6, a7, a8, a9, a10, rfl, h⟩
