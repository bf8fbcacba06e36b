
def JK (p : Program) (l : Launch) (e : Env) (R : Room) (s : State) (m : MethodId) (args : Array Value) (below : List Frame) (meth : Method) (c : Code) (D : va_G) (A : Nat → Prop) (Q : State → Prop) (nL K N : Nat) (ws : va_W) (pc : Nat) (lv : List (Nat × Value)) (st : List Value) : Prop :=
  ∀ (H : Heap) (locs : List Loc) (ls : Array Slot), va_P D vwCl ws H → va_D A ws → va_S A s.heap H locs → lv_has ls nL lv → W p l e R s m args below meth c H locs K N Q (F0 m pc ls st)
def rmc (k cells slots : Nat) : Room := { frames := k, cells := cells, slots := slots, locals := 64 * k }
def QC (good : va_W → Prop) (D : va_G) (A : Nat → Prop) : Array Value → State → Outcome → State → Prop := fun _ st o t => (∃ ws', good ws' ∧ o = .returned none ∧ va_P D vwCl ws' t.heap ∧ va_D A ws') ∧ va_F A st t
def PreC (D : va_G) (cy : Nat → ClassId) (G : Nat → Nat) (ws : va_W) (sz : Nat) (U : State) : Prop := Pre D cy G ws sz U ∧ va_AO "MeetingSets$Family" U
theorem PreC.blind {D : va_G} {cy : Nat → ClassId} {G : Nat → Nat} {ws : va_W} {sz : Nat} {av : List Value} : FrameBlind (va_Pc av (PreC D cy G ws sz)) := by
  intro a U g mk h
  have h1 := Pre.blind a U g mk ⟨h.1, h.2.1⟩
  exact ⟨h1.1, h1.2, va_AO.moved (u := U) (U := U.calling g mk a) (Vm.Alike.refl U.vm) h.2.2⟩
/-- a constructor's contract: from its own cells ws, it leaves some world that is good, with so many new cells and slots -/
def MC (y : MethodName) (cc : ByteArray) (nL k cells slots : Nat) (b : Nat) (D : va_G) (cy : Nat → ClassId) (G : Nat → Nat) (ws : va_W) (good : va_W → Prop) : Prop :=
  ∀ (l : Launch) (sz : Nat), Met l y (.code y cc nL none :: TB) (rmc k cells slots) (va_Pc [.ref b] (PreC D cy G ws sz)) (QC good D (va_A ws sz)) cells slots (va_A ws sz)
def CQ (below : List Frame) (D : va_G) (A : Nat → Prop) (args : Array Value) (s : State) (Q : State → Prop) (good : va_W → Prop) (K N : Nat) : Prop := Q = MQ below (QC good D A) args s K N A
theorem MC.go {y : MethodName} {cc : ByteArray} {nL k K N b : Nat} {D : va_G} {cy : Nat → ClassId} {G : Nat → Nat} {ws : va_W} {good : va_W → Prop} {own : String} (hpl : plainName y.cls = true) (hown : y.cls = own) (hyn : y.name = "<init>") (hn : (lg_sl [Value.ref b]).length ≤ nL)
    (h : ∀ (p : Program) (l : Launch) (e : Env) (s : State) (m : MethodId) (args : Array Value) (below : List Frame) (meth : Method) (c : Code) (A : Nat → Prop) (Q : State → Prop), Cx p l (rmc k K N) s m args meth c cc nL own none D cy G A → meth.name = "<init>" → va_AO "MeetingSets$Family" s → CQ below D A args s Q good K N → JK p l e (rmc k K N) s m args below meth c D A Q nL 0 0 ws 0 [(0, .ref b)] []) : MC y cc nL k K N b D cy G ws good := by
  intro l sz
  refine Met.ofW (cc := cc) (maxL := nL) (ret := none) hpl rfl ?_
  intro p e s m args below meth c s₁ B hml hv
  obtain ⟨rfl, ⟨hsz, hP, hK, hD0, hG⟩, hAO⟩ := hv
  subst hsz
  have hts := atoms_spec (ws := .code y cc nL none :: TB) B.pre
  have hw : s.vm.findClass own = some m.cls := hown ▸ findClass_of_methodNamed B.named
  have hnm : meth.name = "<init>" := (name_of_methodNamed B.named B.method).1.trans hyn
  have C : Cx p l (rmc k K N) s m [Value.ref b].toArray meth c cc nL own none D cy G (va_A ws s.heap.size) := ⟨B.exec, B.bytes, hml, hw, fun w h => hts w (List.mem_cons_of_mem _ h), hK, hG, fun q h => Or.inr h, B.returns, B.notSynchronized⟩
  have hl := lv_entry [Value.ref b] (n := nL) hn
  rw [show lv_args 0 [Value.ref b] = [(0, .ref b)] from rfl] at hl
  rw [lg_entry_eq]
  exact h p l e s m _ below meth c _ _ C hnm hAO rfl s.heap [] _ hP (hD0.self) va_S.rf hl
theorem va_P.left {D : va_G} {a b : va_W} {H : Heap} (h : va_P D vwCl (a ++ b) H) : va_P D vwCl a H := fun k q hk => h k q (by rw [List.getElem?_append_left (List.getElem?_eq_some_iff.mp hk).1]; exact hk)
theorem va_P.right {D : va_G} {a b : va_W} {H : Heap} (h : va_P D vwCl (a ++ b) H) : va_P D vwCl b H := fun k q hk => h (a.length + k) q (by rw [List.getElem?_append_right (by omega), show a.length + k - a.length = k from by omega]; exact hk)
theorem va_D.left {A : Nat → Prop} {a b : va_W} (h : va_D A (a ++ b)) : va_D A a := by
  have e : ∀ (k : Nat) (q : Nat × va_E), a[k]? = some q → (a ++ b)[k]? = some q := fun k q hk => by rw [List.getElem?_append_left (List.getElem?_eq_some_iff.mp hk).1]; exact hk
  exact ⟨fun i j x y hi hj => h.1 i j x y (e i x hi) (e j y hj), fun k q hk => h.2 k q (e k q hk)⟩
theorem va_D.right {A : Nat → Prop} {a b : va_W} (h : va_D A (a ++ b)) : va_D A b := by
  have e : ∀ (k : Nat) (q : Nat × va_E), b[k]? = some q → (a ++ b)[a.length + k]? = some q := fun k q hk => by rw [List.getElem?_append_right (by omega), show a.length + k - a.length = k from by omega]; exact hk
  exact ⟨fun i j x y hi hj z => by have := h.1 _ _ x y (e i x hi) (e j y hj) z; omega, fun k q hk => h.2 _ q (e k q hk)⟩
theorem va_D.apart {A : Nat → Prop} {a b : va_W} (h : va_D A (a ++ b)) {i j : Nat} {x y : Nat × va_E} (hi : a[i]? = some x) (hj : b[j]? = some y) : x.1 ≠ y.1 := by
  intro z
  have hl := (List.getElem?_eq_some_iff.mp hi).1
  have := h.1 i (a.length + j) x y (by rw [List.getElem?_append_left hl]; exact hi) (by rw [List.getElem?_append_right (by omega), show a.length + j - a.length = j from by omega]; exact hj) z
  omega
section KR
variable {p : Program} {l : Launch} {e : Env} {R : Room} {s : State} {m : MethodId} {args : Array Value} {below : List Frame} {meth : Method} {c : Code} {cc : ByteArray} {nL K N : Nat} {own : String} {ret : Option FieldType} {D : va_G} {cy : Nat → ClassId} {G : Nat → Nat} {A : Nat → Prop} {Q : State → Prop} {ws : va_W} {pc : Nat} {lv : List (Nat × Value)} {st : List Value}

theorem k_swap {a b : va_W} (kk : JK p l e R s m args below meth c D A Q nL K N (b ++ a) pc lv st) : JK p l e R s m args below meth c D A Q nL K N (a ++ b) pc lv st := fun H locs ls hP hD hS hl => kk H locs ls (va_P.app hP.right hP.left) (va_D.app hD.right hD.left (fun i j x y hx hy z => hD.apart hy hx z.symm)) hS hl
theorem k_free (C : Cx p l R s m args meth c cc nL own ret D cy G A) {wr wc : va_W} {H : Heap} {locs : List Loc} (hD : va_D A (wr ++ wc)) (hS : va_S A s.heap H locs) : ∀ q, va_A wc H.size q → A q := by
  intro q h
  rcases h with ⟨k, e, h⟩ | h
  · exact hD.right.2 k (q, e) h
  · exact C.2.2.2.2.2.2.2.1 q (Nat.le_trans hS.1 h)
theorem k_pre (C : Cx p l R s m args meth c cc nL own ret D cy G A) {wr wc : va_W} {av : List Value} {H : Heap} {locs : List Loc} (hP : va_P D vwCl (wr ++ wc) H) (hD : va_D A (wr ++ wc)) (hS : va_S A s.heap H locs) : ∀ U : State, U.heap = H → s.WarmedH U.vm → va_Pc av (Pre D cy G wc H.size) av.toArray U := by
  intro U hU hW
  exact ⟨rfl, by rw [hU], by rw [hU]; exact hP.right, va_K.moved hW.alike C.2.2.2.2.2.1, hD.right.weaken (fun _ _ _ _ => trivial), by rw [hU]; exact Gl.call C.2.2.2.2.2.2.1 hW hS.2.1 (k_free C hD hS)⟩
/-- what a callee leaves of its own cells, beside the rest of the caller's -/
theorem k_join {wr wc w1 : va_W} {H H1 : Heap} (hP : va_P D vwCl (wr ++ wc) H) (hD : va_D A (wr ++ wc)) (hk : ∀ q : Nat, q < H.size → ¬ va_A wc H.size q → H1[q]? = H[q]?) (hF : ∀ q, va_A wc H.size q → A q) (hP1 : va_P D vwCl w1 H1) (hD1 : va_D (va_A wc H.size) w1) : va_P D vwCl (wr ++ w1) H1 ∧ va_D A (wr ++ w1) := by
  have ap : ∀ (k : Nat) (q : Nat × va_E), wr[k]? = some q → q.1 < H.size ∧ ¬ va_A wc H.size q.1 := by
    intro k q hq
    have hl := (hP.left k q hq).lt
    refine ⟨hl, fun h => ?_⟩
    rcases h with ⟨k2, e, h⟩ | h
    · exact hD.apart hq h rfl
    · omega
  refine ⟨va_P.app (fun k q hq => (hP.left k q hq).kept (hk q.1 (ap k q hq).1 (ap k q hq).2)) hP1, va_D.app hD.left (hD1.weaken (fun k q _ h => hF q.1 h)) (fun i j x y hx hy hxy => ?_)⟩
  exact (ap i x hx).2 (by rw [hxy]; exact hD1.2 j y hy)
theorem k_back (C : Cx p l R s m args meth c cc nL own ret D cy G A) {wr wc w1 : va_W} {v : Option Value} {a : Array Value} {rest st0 : List Value} {H : Heap} {locs : List Loc} {ls : Array Slot} (hP : va_P D vwCl (wr ++ wc) H) (hD : va_D A (wr ++ wc)) (hS : va_S A s.heap H locs) (hl : lv_has ls nL lv)
    (hr : va_Run p l e R s m args below meth c H locs K N 0 0 (F0 m pc ls st0) rest (QR v D (va_A wc H.size) w1 a) (va_A wc H.size))
    (kk : JK p l e R s m args below meth c D A Q nL K N (wr ++ w1) (pc + 3) lv (v.toList ++ rest)) : W p l e R s m args below meth c H locs K N Q (F0 m pc ls st0) := by
  have hF := k_free C hD hS
  intro T hT X
  obtain ⟨v', st₀, t, T', L, h0, X', hL, e1, e2, ⟨⟨ho, hP1, hD1⟩, hz, hk⟩, stp⟩ := hr T hT X
  cases ho
  rw [h0] at hz hk
  rw [← e1] at hP1 hz hk
  obtain ⟨hPn, hDn⟩ := k_join hP hD hk hF hP1 hD1
  obtain ⟨t2, a1, b1⟩ := kk T'.heap (locs ++ L) ls hPn hDn
    ⟨Nat.le_trans hS.1 hz, fun q h1 h2 => by rw [hk q (Nat.lt_of_lt_of_le h1 hS.1) (fun z => h2 (hF q z))]; exact hS.2.1 q h1 h2, fun q hq => by
      rcases List.mem_append.mp hq with h | h
      · exact hS.2.2 q h
      · exact hF _ (hL q h)⟩ hl T' rfl X'
  exact ⟨t2, stp t2 a1, b1⟩
theorem k_backC (C : Cx p l R s m args meth c cc nL own ret D cy G A) {wr wc : va_W} {good : va_W → Prop} {mc ms : Nat} {a : Array Value} {rest st0 : List Value} {H : Heap} {locs : List Loc} {ls : Array Slot} (hP : va_P D vwCl (wr ++ wc) H) (hD : va_D A (wr ++ wc)) (hS : va_S A s.heap H locs) (hl : lv_has ls nL lv)
    (hr : va_Run p l e R s m args below meth c H locs K N mc ms (F0 m pc ls st0) rest (QC good D (va_A wc H.size) a) (va_A wc H.size))
    (kk : ∀ w1, good w1 → JK p l e R s m args below meth c D A Q nL (K + mc) (N + ms) (wr ++ w1) (pc + 3) lv rest) : W p l e R s m args below meth c H locs K N Q (F0 m pc ls st0) := by
  have hF := k_free C hD hS
  intro T hT X
  obtain ⟨v', st₀, t, T', L, h0, X', hL, e1, e2, ⟨⟨w1, hg, ho, hP1, hD1⟩, hz, hk⟩, stp⟩ := hr T hT X
  cases ho
  rw [h0] at hz hk
  rw [← e1] at hP1 hz hk
  obtain ⟨hPn, hDn⟩ := k_join hP hD hk hF hP1 hD1
  obtain ⟨t2, a1, b1⟩ := kk w1 hg T'.heap (locs ++ L) ls hPn hDn
    ⟨Nat.le_trans hS.1 hz, fun q h1 h2 => by rw [hk q (Nat.lt_of_lt_of_le h1 hS.1) (fun z => h2 (hF q z))]; exact hS.2.1 q h1 h2, fun q hq => by
      rcases List.mem_append.mp hq with h | h
      · exact hS.2.2 q h
      · exact hF _ (hL q h)⟩ hl T' rfl X'
  exact ⟨t2, stp t2 a1, b1⟩
/-- a call of a method on the cells that stand last -/
theorem kV (C : Cx p l R s m args meth c cc nL own ret D cy G A) {y : MethodName} {c' : ByteArray} {n' n idx b k : Nat} {r' : Option FieldType} {As rest : List Value} {wr wc w1 : va_W} {x : Int32} {st0 : List Value}
    (hM : MT y c' n' r' k (.ref b :: As) D cy G wc w1 (some (.int x))) (hB : VB y c' n' r' n) (hlk : Cond.methodLink own idx y ∈ TB) (hn : As.length = n)
    (hrecv : ∃ (q0 ci : Nat) (fs : List Value) (r0 : vw_C), wc[q0]? = some (b, .inr (ci, fs)) ∧ vwCl[ci]? = some r0 ∧ r0.1 = y.cls)
    (hR : k + 1 ≤ R.frames ∧ 8 + (n' + 11) + 64 * k ≤ R.locals) (hc : K ≤ R.cells ∧ N ≤ R.slots) (hst : st0 = As.reverse ++ .ref b :: rest) (hrs : (rest.map fun v => v.category).sum ≤ 8) (hd : decode cc pc = .ok (.invokevirtual idx, 3))
    (kk : JK p l e R s m args below meth c D A Q nL K N (wr ++ w1) (pc + 3) lv (.int x :: rest)) : JK p l e R s m args below meth c D A Q nL K N (wr ++ wc) pc lv st0 := by
  intro H locs ls hP hD hS hl
  have hp := k_pre (av := .ref b :: As) C hP hD hS
  obtain ⟨hx, hb, hml, hown, hts, hK, hG, hA, hr, hlo⟩ := id C
  obtain ⟨q0, ci, fs, r0, g1, g2, g3⟩ := hrecv
  obtain ⟨hd0, hcc, hi, hin, hse⟩ := hB
  have hrc := va_recv hK hP.right g2 g1
  rw [g3] at hrc
  refine k_back C hP hD hS hl (va_runV (C := y.cls) (bytes := c') (maxL := n') (ret := r') (As := As) (rest := rest) (Ts := TB) ⟨hx, hb, hml, hown, hts⟩ (hM l H.size) ?_ ⟨Pre.blind, hrc, hp⟩ rfl hn hl.1 hst (lv_room hrs) hd hc) kk
  refine ⟨callB_of n hts (goodTB (fun _ h => h) ?_) rfl rfl rfl (hts _ hi) (hts _ hlk) hd0 hR, hts _ hin, hts _ hse⟩
  intro w hw
  rcases List.mem_cons.mp hw with rfl | hw
  · exact hcc
  · exact hw
/-- a callee's own words: a constructor -/
theorem kI (C : Cx p l R s m args meth c cc nL own ret D cy G A) {y : MethodName} {c' : ByteArray} {n' idx b k mc ms : Nat} {rest : List Value} {wr wc : va_W} {good : va_W → Prop}
    (hAO : va_AO "MeetingSets$Family" s) (hM : MC y c' n' k mc ms b D cy G wc good) (hB : (y.cls ≠ "java/lang/invoke/MethodHandle" ∧ y.cls ≠ "java/lang/invoke/VarHandle" ∧ (parseMethodDescriptor y.desc).map (fun d => d.parameters.length) = some 0) ∧ Cond.code y c' n' none ∈ TB ∧ Cond.initialized y.cls ∈ TB ∧ Cond.instanceMethod y ∈ TB ∧ y.name = "<init>") (hlk : Cond.methodLink own idx y ∈ TB)
    (hR : k + 1 ≤ R.frames ∧ 8 + (n' + 11) + 64 * k ≤ R.locals) (hc : K + mc ≤ R.cells ∧ N + ms ≤ R.slots) (hrs : (rest.map fun v => v.category).sum ≤ 8) (hd : decode cc pc = .ok (.invokespecial idx, 3))
    (kk : ∀ w1, good w1 → JK p l e R s m args below meth c D A Q nL (K + mc) (N + ms) (wr ++ w1) (pc + 3) lv rest) : JK p l e R s m args below meth c D A Q nL K N (wr ++ wc) pc lv (.ref b :: rest) := by
  intro H locs ls hP hD hS hl
  have hp : ∀ U : State, U.heap = H → s.WarmedH U.vm → va_Pc [.ref b] (PreC D cy G wc H.size) [Value.ref b].toArray U := fun U hU hW => ⟨rfl, (k_pre (av := [.ref b]) C hP hD hS U hU hW).2, va_AO.moved hW.alike hAO⟩
  obtain ⟨hx, hb, hml, hown, hts, hK, hG, hA, hr, hlo⟩ := id C
  obtain ⟨hd0, hcc, hi, hin, hyn⟩ := hB
  refine k_backC C hP hD hS hl (va_runI (bytes := c') (maxL := n') (As := []) (rest := rest) (Ts := TB) ⟨hx, hb, hml, hown, hts⟩ (hM l H.size) ?_ ⟨PreC.blind, hp⟩ rfl rfl hl.1 rfl (lv_room hrs) hd hc) kk
  refine ⟨callB_of 0 hts (goodTB (fun _ h => h) ?_) rfl rfl rfl (hts _ hi) (hts _ hlk) hd0 hR, hyn, hts _ hin⟩
  intro w hw
  rcases List.mem_cons.mp hw with rfl | hw
  · exact hcc
  · exact hw
theorem kIN (C : Cx p l R s m args meth c cc nL own ret D cy G A) {y : MethodName} {c' : ByteArray} {n' idx b k mc ms : Nat} {rest : List Value} {wr wc : va_W} {good : va_W → Prop}
    (hAO : va_AO "MeetingSets$Family" s) (hM : MC y c' n' k mc ms b D cy G wc good) (hB : (y.cls ≠ "java/lang/invoke/MethodHandle" ∧ y.cls ≠ "java/lang/invoke/VarHandle" ∧ (parseMethodDescriptor y.desc).map (fun d => d.parameters.length) = some 0) ∧ Cond.code y c' n' none ∈ TB ∧ Cond.initialized y.cls ∈ TB ∧ Cond.instanceMethod y ∈ TB ∧ y.name = "<init>") (hlk : (own, idx, y) ∈ nestW)
    (hR : k + 1 ≤ R.frames ∧ 8 + (n' + 11) + 64 * k ≤ R.locals) (hc : K + mc ≤ R.cells ∧ N + ms ≤ R.slots) (hrs : (rest.map fun v => v.category).sum ≤ 8) (hd : decode cc pc = .ok (.invokespecial idx, 3))
    (kk : ∀ w1, good w1 → JK p l e R s m args below meth c D A Q nL (K + mc) (N + ms) (wr ++ w1) (pc + 3) lv rest) : JK p l e R s m args below meth c D A Q nL K N (wr ++ wc) pc lv (.ref b :: rest) := by
  intro H locs ls hP hD hS hl
  have hp : ∀ U : State, U.heap = H → s.WarmedH U.vm → va_Pc [.ref b] (PreC D cy G wc H.size) [Value.ref b].toArray U := fun U hU hW => ⟨rfl, (k_pre (av := [.ref b]) C hP hD hS U hU hW).2, va_AO.moved hW.alike hAO⟩
  obtain ⟨hx, hb, hml, hown, hts, hK, hG, hA, hr, hlo⟩ := id C
  obtain ⟨hd0, hcc, hi, hin, hyn⟩ := hB
  refine k_backC C hP hD hS hl (va_runIN (host := RX8) (bytes := c') (maxL := n') (As := []) (rest := rest) (Ts := TB) ⟨hx, hb, hml, hown, hts⟩ (hM l H.size) ?_ ⟨PreC.blind, hp⟩ rfl rfl hl.1 rfl (lv_room hrs) hd hc) kk
  refine ⟨va_cnB 0 hts (goodTB (fun _ h => h) ?_) rfl rfl rfl (hG.2.2.2.2.2.2 _ hlk) (hts _ hi) hd0 hR, hyn, hts _ hin⟩
  intro w hw
  rcases List.mem_cons.mp hw with rfl | hw
  · exact hcc
  · exact hw
theorem kObj (C : Cx p l R s m args meth c cc nL own ret D cy G A) {idx b : Nat} (hlk : Cond.methodLink own idx objectInit ∈ TB) (hin : Cond.instanceMethod objectInit ∈ TB) (hco : Cond.code objectInit ⟨#[0xb1]⟩ 1 none ∈ TB) (hR : 1 ≤ R.frames ∧ (st.map fun v => v.category).sum + 12 ≤ R.locals) (hd : decode cc pc = .ok (.invokespecial idx, 3)) (kk : JK p l e R s m args below meth c D A Q nL K N ws (pc + 3) lv st) : JK p l e R s m args below meth c D A Q nL K N ws pc lv (.ref b :: st) := by
  intro H locs ls hP hD hS hl
  exact W.objInit C.1 C.2.1 C.2.2.2.1 (C.2.2.2.2.1 _ hlk) (C.2.2.2.2.1 _ hin) (C.2.2.2.2.1 _ hco) rfl (hl.1.trans C.2.2.1.symm) rfl hd hR.1 (by have h2 := hR.2; simp only [JFrame.monitorRoom] at *; omega) (kk H locs ls hP hD hS hl)
theorem kIconst (C : Cx p l R s m args meth c cc nL own ret D cy G A) {n : Int} (x : Int32) (hd : decode cc pc = .ok (.iconst n, 1)) (hv : Int32.ofInt n = x) (kk : JK p l e R s m args below meth c D A Q nL K N ws (pc + 1) lv (.int x :: st)) : JK p l e R s m args below meth c D A Q nL K N ws pc lv st := fun H locs ls hP hD hS hl => lv_iconst C.1 C.2.1 hd hv (kk H locs ls hP hD hS hl)
theorem kBipush (C : Cx p l R s m args meth c cc nL own ret D cy G A) {n : Int} (x : Int32) (hd : decode cc pc = .ok (.bipush n, 2)) (hv : (Int8.ofInt n).toInt32 = x) (kk : JK p l e R s m args below meth c D A Q nL K N ws (pc + 2) lv (.int x :: st)) : JK p l e R s m args below meth c D A Q nL K N ws pc lv st := fun H locs ls hP hD hS hl => lv_bipush C.1 C.2.1 hd hv (kk H locs ls hP hD hS hl)
theorem kSipush (C : Cx p l R s m args meth c cc nL own ret D cy G A) {n : Int} (x : Int32) (hd : decode cc pc = .ok (.sipush n, 3)) (hv : (Int16.ofInt n).toInt32 = x) (kk : JK p l e R s m args below meth c D A Q nL K N ws (pc + 3) lv (.int x :: st)) : JK p l e R s m args below meth c D A Q nL K N ws pc lv st := fun H locs ls hP hD hS hl => lv_sipush C.1 C.2.1 hd hv (kk H locs ls hP hD hS hl)
theorem kIloadn (C : Cx p l R s m args meth c cc nL own ret D cy G A) {f : Fin 4} {i : Nat} {x : Int32} (hd : decode cc pc = .ok (.iload_n f, 1)) (hi : (f : Nat) = i) (k : Nat) (hk : lv[k]? = some (i, .int x)) (kk : JK p l e R s m args below meth c D A Q nL K N ws (pc + 1) lv (.int x :: st)) : JK p l e R s m args below meth c D A Q nL K N ws pc lv st := fun H locs ls hP hD hS hl => lv_iload_n C.1 C.2.1 hd hi (lv_at hl k hk) (kk H locs ls hP hD hS hl)
theorem kAloadn (C : Cx p l R s m args meth c cc nL own ret D cy G A) {f : Fin 4} {i : Nat} {x : Nat} (hd : decode cc pc = .ok (.aload_n f, 1)) (hi : (f : Nat) = i) (k : Nat) (hk : lv[k]? = some (i, .ref x)) (kk : JK p l e R s m args below meth c D A Q nL K N ws (pc + 1) lv (.ref x :: st)) : JK p l e R s m args below meth c D A Q nL K N ws pc lv st := fun H locs ls hP hD hS hl => lv_aload_n C.1 C.2.1 hd hi (lv_at hl k hk) (kk H locs ls hP hD hS hl)
theorem kIstoren (C : Cx p l R s m args meth c cc nL own ret D cy G A) {f : Fin 4} {i : Nat} {x : Int32} (hd : decode cc pc = .ok (.istore_n f, 1)) (hi : (f : Nat) = i) (hn : i < nL) (lv' : List (Nat × Value)) (hl' : (i, Value.int x) :: lv.filter (fun q => !(q.1 == i) && !(q.1 + 1 == i && q.2.category == 2)) = lv') (kk : JK p l e R s m args below meth c D A Q nL K N ws (pc + 1) lv' st) : JK p l e R s m args below meth c D A Q nL K N ws pc lv (.int x :: st) := fun H locs ls hP hD hS hl => lv_istore_n C.1 C.2.1 hd hi hl hn hl' (fun ls' hl => kk H locs ls' hP hD hS hl)
theorem kAstoren (C : Cx p l R s m args meth c cc nL own ret D cy G A) {f : Fin 4} {i : Nat} {x : Nat} (hd : decode cc pc = .ok (.astore_n f, 1)) (hi : (f : Nat) = i) (hn : i < nL) (lv' : List (Nat × Value)) (hl' : (i, Value.ref x) :: lv.filter (fun q => !(q.1 == i) && !(q.1 + 1 == i && q.2.category == 2)) = lv') (kk : JK p l e R s m args below meth c D A Q nL K N ws (pc + 1) lv' st) : JK p l e R s m args below meth c D A Q nL K N ws pc lv (.ref x :: st) := fun H locs ls hP hD hS hl => lv_astore_n C.1 C.2.1 hd hi hl hn hl' (fun ls' hl => kk H locs ls' hP hD hS hl)
theorem kIinc (C : Cx p l R s m args meth c cc nL own ret D cy G A) {i : Nat} {n : Int} {x : Int32} (v : Int32) (hd : decode cc pc = .ok (.iinc i n, 3)) (k : Nat) (hk : lv[k]? = some (i, .int x)) (hv : x + Int32.ofInt n = v) (hn : i < nL) (lv' : List (Nat × Value)) (hl' : (i, Value.int v) :: lv.filter (fun q => !(q.1 == i) && !(q.1 + 1 == i && q.2.category == 2)) = lv') (kk : JK p l e R s m args below meth c D A Q nL K N ws (pc + 3) lv' st) : JK p l e R s m args below meth c D A Q nL K N ws pc lv st := fun H locs ls hP hD hS hl => lv_iinc C.1 C.2.1 hd hl hk hv hn hl' (fun ls' hl => kk H locs ls' hP hD hS hl)
theorem kIadd (C : Cx p l R s m args meth c cc nL own ret D cy G A) {x y : Int32} (hd : decode cc pc = .ok (.iadd, 1)) (kk : JK p l e R s m args below meth c D A Q nL K N ws (pc + 1) lv (.int (x + y) :: st)) : JK p l e R s m args below meth c D A Q nL K N ws pc lv (.int y :: .int x :: st) := fun H locs ls hP hD hS hl => lv_iadd C.1 C.2.1 hd (kk H locs ls hP hD hS hl)
theorem kIsub (C : Cx p l R s m args meth c cc nL own ret D cy G A) {x y : Int32} (hd : decode cc pc = .ok (.isub, 1)) (kk : JK p l e R s m args below meth c D A Q nL K N ws (pc + 1) lv (.int (x - y) :: st)) : JK p l e R s m args below meth c D A Q nL K N ws pc lv (.int y :: .int x :: st) := fun H locs ls hP hD hS hl => lv_isub C.1 C.2.1 hd (kk H locs ls hP hD hS hl)
theorem kIand (C : Cx p l R s m args meth c cc nL own ret D cy G A) {x y : Int32} (hd : decode cc pc = .ok (.iand, 1)) (kk : JK p l e R s m args below meth c D A Q nL K N ws (pc + 1) lv (.int (x &&& y) :: st)) : JK p l e R s m args below meth c D A Q nL K N ws pc lv (.int y :: .int x :: st) := fun H locs ls hP hD hS hl => lv_iand C.1 C.2.1 hd (kk H locs ls hP hD hS hl)
theorem kDup (C : Cx p l R s m args meth c cc nL own ret D cy G A) {x : Value} (hd : decode cc pc = .ok (.dup, 1)) (hc : x.category = 1) (kk : JK p l e R s m args below meth c D A Q nL K N ws (pc + 1) lv (x :: x :: st)) : JK p l e R s m args below meth c D A Q nL K N ws pc lv (x :: st) := fun H locs ls hP hD hS hl => lv_dup C.1 C.2.1 hd hc (kk H locs ls hP hD hS hl)
theorem kCmpEq (C : Cx p l R s m args meth c cc nL own ret D cy G A) {x y : Int32} {off : Int} (tgt : Nat) (hd : decode cc pc = .ok (.if_icmp .eq off, 3)) (ht : (pc : Int) + off = (tgt : Int)) (kt : x = y → JK p l e R s m args below meth c D A Q nL K N ws tgt lv st) (kf : ¬ x = y → JK p l e R s m args below meth c D A Q nL K N ws (pc + 3) lv st)  : JK p l e R s m args below meth c D A Q nL K N ws pc lv (.int y :: .int x :: st) := fun H locs ls hP hD hS hl => lv_icmp_eq C.1 C.2.1 hd ht (fun q => kt q H locs ls hP hD hS hl) (fun q => kf q H locs ls hP hD hS hl)
theorem kCmpGe (C : Cx p l R s m args meth c cc nL own ret D cy G A) {x y : Int32} {off : Int} (tgt : Nat) (hd : decode cc pc = .ok (.if_icmp .ge off, 3)) (ht : (pc : Int) + off = (tgt : Int)) (kt : y ≤ x → JK p l e R s m args below meth c D A Q nL K N ws tgt lv st) (kf : ¬ y ≤ x → JK p l e R s m args below meth c D A Q nL K N ws (pc + 3) lv st)  : JK p l e R s m args below meth c D A Q nL K N ws pc lv (.int y :: .int x :: st) := fun H locs ls hP hD hS hl => lv_icmp_ge C.1 C.2.1 hd ht (fun q => kt q H locs ls hP hD hS hl) (fun q => kf q H locs ls hP hD hS hl)
theorem kCmpGt (C : Cx p l R s m args meth c cc nL own ret D cy G A) {x y : Int32} {off : Int} (tgt : Nat) (hd : decode cc pc = .ok (.if_icmp .gt off, 3)) (ht : (pc : Int) + off = (tgt : Int)) (kt : y < x → JK p l e R s m args below meth c D A Q nL K N ws tgt lv st) (kf : ¬ y < x → JK p l e R s m args below meth c D A Q nL K N ws (pc + 3) lv st)  : JK p l e R s m args below meth c D A Q nL K N ws pc lv (.int y :: .int x :: st) := fun H locs ls hP hD hS hl => lv_icmp_gt C.1 C.2.1 hd ht (fun q => kt q H locs ls hP hD hS hl) (fun q => kf q H locs ls hP hD hS hl)
theorem kGoto (C : Cx p l R s m args meth c cc nL own ret D cy G A) {off : Int} (tgt : Nat) (hd : decode cc pc = .ok (.goto off, 3)) (ht : (pc : Int) + off = (tgt : Int)) (kk : JK p l e R s m args below meth c D A Q nL K N ws tgt lv st) : JK p l e R s m args below meth c D A Q nL K N ws pc lv st := fun H locs ls hP hD hS hl => lv_goto C.1 C.2.1 hd ht (kk H locs ls hP hD hS hl)
theorem kTabIn (C : Cx p l R s m args meth c cc nL own ret D cy G A) {dflt lo hi : Int} {offs : Array Int} {len : Nat} {x : Int32} {off : Int} (tgt : Nat) (hd : decode cc pc = .ok (.tableswitch dflt lo hi offs, len)) (h1 : ¬ x.toInt < lo) (h2 : ¬ hi < x.toInt) (ho : offs[(x.toInt - lo).toNat]? = some off) (ht : (pc : Int) + off = (tgt : Int)) (kk : JK p l e R s m args below meth c D A Q nL K N ws tgt lv st) : JK p l e R s m args below meth c D A Q nL K N ws pc lv (.int x :: st) := fun H locs ls hP hD hS hl => lv_tableIn C.1 C.2.1 hd h1 h2 ho ht (kk H locs ls hP hD hS hl)
theorem kTabOut (C : Cx p l R s m args meth c cc nL own ret D cy G A) {dflt lo hi : Int} {offs : Array Int} {len : Nat} {x : Int32} (tgt : Nat) (hd : decode cc pc = .ok (.tableswitch dflt lo hi offs, len)) (h : x.toInt < lo ∨ hi < x.toInt) (ht : (pc : Int) + dflt = (tgt : Int)) (kk : JK p l e R s m args below meth c D A Q nL K N ws tgt lv st) : JK p l e R s m args below meth c D A Q nL K N ws pc lv (.int x :: st) := fun H locs ls hP hD hS hl => lv_tableOut C.1 C.2.1 hd h ht (kk H locs ls hP hD hS hl)
theorem kSub (ks : List Nat) {lv' : List (Nat × Value)} (h : lv_pick lv ks = lv') (kk : JK p l e R s m args below meth c D A Q nL K N ws pc lv' st) : JK p l e R s m args below meth c D A Q nL K N ws pc lv st := fun H locs ls hP hD hS hl => kk H locs ls hP hD hS (lv_sub hl ks h)
theorem kWorld {ws' : va_W} (h : ws = ws') (kk : JK p l e R s m args below meth c D A Q nL K N ws' pc lv st) : JK p l e R s m args below meth c D A Q nL K N ws pc lv st := h ▸ kk
theorem kNew (C : Cx p l R s m args meth c cc nL own ret D cy G A) {idx ci Nf : Nat} {Cn : String} {T : u_T} (fs : List Value) {ws' : Nat → va_W} (hc : vwCl[ci]? = some (Cn, T, Nf)) (hi : ∀ w ∈ u_ws Cn T Nf, w ∈ TB) (ty : Nat → FieldType) (hty : ∀ k, k < Nf → parseFieldDescriptor (T k).2.2.1 = some (ty k)) (hcl : Cond.classLink own idx Cn ∈ TB) (hinst : Cond.instantiable Cn Nf ∈ TB) (hini : Cond.initialized Cn ∈ TB) (hfs : ∀ j, j < Nf → defaultValue (ty j) = vp_V fs j) (hR : K + 1 ≤ R.cells ∧ N + Nf ≤ R.slots) (hd : decode cc pc = .ok (.new idx, 3)) (kk : ∀ q : Nat, JK p l e R s m args below meth c D A Q nL (K + 1) (N + Nf) (ws ++ [(q, .inr (ci, fs))]) (pc + 3) lv (.ref q :: st)) : JK p l e R s m args below meth c D A Q nL K N ws pc lv st := fun H locs ls hP hD hS hl => va_new C.1 C.2.1 C.2.2.2.2.1 hi ty hty C.2.2.2.1 (C.2.2.2.2.1 _ hcl) (C.2.2.2.2.1 _ hinst) (C.2.2.2.2.1 _ hini) C.2.2.2.2.2.1 hP hD hS C.2.2.2.2.2.2.2.1 hc hfs hR.1 hR.2 hd (fun q H1 hP hD hS => kk q H1 locs ls hP hD hS hl)
end KR
