section KM
variable {p : Program} {l : Launch} {e : Env} {R : Room} {s : State} {m : MethodId} {args : Array Value} {below : List Frame} {meth : Method} {c : Code} {cc : ByteArray} {nL K N : Nat} {own : String} {ret : Option FieldType} {D : va_G} {cy : Nat → ClassId} {G : Nat → Nat} {A : Nat → Prop} {Q : State → Prop} {ws : va_W} {pc : Nat} {lv : List (Nat × Value)} {st : List Value}
theorem kNewArrI (C : Cx p l R s m args meth c cc nL own ret D cy G A) {n : Int32} (M : Nat) (harr : Cond.arrayClass .int ∈ TB) (hn : ¬ n < 0) (hN : n.toNatClampNeg = M) (hbytes : M * 8 ≤ 536870912) (hR : K + 1 ≤ R.cells ∧ N + M ≤ R.slots) (hd : decode cc pc = .ok (.newarray .int, 2)) (kk : ∀ q : Nat, JK p l e R s m args below meth c D A Q nL (K + 1) (N + M) (ws ++ [(q, .inl ((cy 1), M, .inl (fun _ => 0)))]) (pc + 2) lv (.ref q :: st)) : JK p l e R s m args below meth c D A Q nL K N ws pc lv (.int n :: st) := by
  intro H locs ls hP hD hS hl
  refine va_newa (atype := .int) (ty := .int) (a0 := (M, .inl (fun _ => 0))) C.1 C.2.1 (C.2.2.2.2.1 _ harr) rfl C.2.2.2.2.2.1 hP hD hS C.2.2.2.2.2.2.2.1 (fun _ => rfl) hn hN (Nat.le_trans (Nat.mul_le_mul_left M (by decide)) hbytes) hR.1 hR.2 hd (fun q cA H1 hK hP hD hS => ?_)
  have e1 := (hK.2 5 (cA, .int) rfl).2
  have e2 := (C.2.2.2.2.2.1.2 1 ((cy 1), .int) rfl).2
  have e3 : cA = (cy 1) := Option.some.inj (e1.symm.trans e2)
  subst e3
  exact kk q H1 locs ls hP hD hS hl
theorem kNewArrB (C : Cx p l R s m args meth c cc nL own ret D cy G A) {n : Int32} (M : Nat) (harr : Cond.arrayClass .byte ∈ TB) (hn : ¬ n < 0) (hN : n.toNatClampNeg = M) (hbytes : M * 8 ≤ 536870912) (hR : K + 1 ≤ R.cells ∧ N + M ≤ R.slots) (hd : decode cc pc = .ok (.newarray .byte, 2)) (kk : ∀ q : Nat, JK p l e R s m args below meth c D A Q nL (K + 1) (N + M) (ws ++ [(q, .inl ((cy 0), M, .inl (fun _ => 0)))]) (pc + 2) lv (.ref q :: st)) : JK p l e R s m args below meth c D A Q nL K N ws pc lv (.int n :: st) := by
  intro H locs ls hP hD hS hl
  refine va_newa (atype := .byte) (ty := .byte) (a0 := (M, .inl (fun _ => 0))) C.1 C.2.1 (C.2.2.2.2.1 _ harr) rfl C.2.2.2.2.2.1 hP hD hS C.2.2.2.2.2.2.2.1 (fun _ => rfl) hn hN (Nat.le_trans (Nat.mul_le_mul_left M (by decide)) hbytes) hR.1 hR.2 hd (fun q cA H1 hK hP hD hS => ?_)
  have e1 := (hK.2 5 (cA, .byte) rfl).2
  have e2 := (C.2.2.2.2.2.1.2 0 ((cy 0), .byte) rfl).2
  have e3 : cA = (cy 0) := Option.some.inj (e1.symm.trans e2)
  subst e3
  exact kk q H1 locs ls hP hD hS hl
theorem kNewArrJ (C : Cx p l R s m args meth c cc nL own ret D cy G A) {n : Int32} (M : Nat) (harr : Cond.arrayClass .long ∈ TB) (hn : ¬ n < 0) (hN : n.toNatClampNeg = M) (hbytes : M * 8 ≤ 536870912) (hR : K + 1 ≤ R.cells ∧ N + M ≤ R.slots) (hd : decode cc pc = .ok (.newarray .long, 2)) (kk : ∀ q : Nat, JK p l e R s m args below meth c D A Q nL (K + 1) (N + M) (ws ++ [(q, .inl ((cy 2), M, .inr (.inl (fun _ => 0))))]) (pc + 2) lv (.ref q :: st)) : JK p l e R s m args below meth c D A Q nL K N ws pc lv (.int n :: st) := by
  intro H locs ls hP hD hS hl
  refine va_newa (atype := .long) (ty := .long) (a0 := (M, .inr (.inl (fun _ => 0)))) C.1 C.2.1 (C.2.2.2.2.1 _ harr) rfl C.2.2.2.2.2.1 hP hD hS C.2.2.2.2.2.2.2.1 (fun _ => rfl) hn hN (Nat.le_trans (Nat.mul_le_mul_left M (by decide)) hbytes) hR.1 hR.2 hd (fun q cA H1 hK hP hD hS => ?_)
  have e1 := (hK.2 5 (cA, .long) rfl).2
  have e2 := (C.2.2.2.2.2.1.2 2 ((cy 2), .long) rfl).2
  have e3 : cA = (cy 2) := Option.some.inj (e1.symm.trans e2)
  subst e3
  exact kk q H1 locs ls hP hD hS hl
theorem kNewArrZ (C : Cx p l R s m args meth c cc nL own ret D cy G A) {n : Int32} (M : Nat) (harr : Cond.arrayClass .boolean ∈ TB) (hn : ¬ n < 0) (hN : n.toNatClampNeg = M) (hbytes : M * 8 ≤ 536870912) (hR : K + 1 ≤ R.cells ∧ N + M ≤ R.slots) (hd : decode cc pc = .ok (.newarray .boolean, 2)) (kk : ∀ q : Nat, JK p l e R s m args below meth c D A Q nL (K + 1) (N + M) (ws ++ [(q, .inl ((cy 3), M, .inl (fun _ => 0)))]) (pc + 2) lv (.ref q :: st)) : JK p l e R s m args below meth c D A Q nL K N ws pc lv (.int n :: st) := by
  intro H locs ls hP hD hS hl
  refine va_newa (atype := .boolean) (ty := .boolean) (a0 := (M, .inl (fun _ => 0))) C.1 C.2.1 (C.2.2.2.2.1 _ harr) rfl C.2.2.2.2.2.1 hP hD hS C.2.2.2.2.2.2.2.1 (fun _ => rfl) hn hN (Nat.le_trans (Nat.mul_le_mul_left M (by decide)) hbytes) hR.1 hR.2 hd (fun q cA H1 hK hP hD hS => ?_)
  have e1 := (hK.2 5 (cA, .boolean) rfl).2
  have e2 := (C.2.2.2.2.2.1.2 3 ((cy 3), .boolean) rfl).2
  have e3 : cA = (cy 3) := Option.some.inj (e1.symm.trans e2)
  subst e3
  exact kk q H1 locs ls hP hD hS hl
theorem kNewArrF (C : Cx p l R s m args meth c cc nL own ret D cy G A) {n : Int32} {idx : Nat} (M : Nat) (hcl : Cond.classLink own idx "MeetingSets$Family" ∈ TB) (hov : va_AO "MeetingSets$Family" s) (hn : ¬ n < 0) (hN : n.toNatClampNeg = M) (hbytes : M * 4 ≤ 536870912) (hR : K + 1 ≤ R.cells ∧ N + M ≤ R.slots) (hd : decode cc pc = .ok (.anewarray idx, 3)) (kk : ∀ q : Nat, JK p l e R s m args below meth c D A Q nL (K + 1) (N + M) (ws ++ [(q, .inl (cy 4, M, .inr (.inr (.inr (.inr (fun _ => none))))))]) (pc + 3) lv (.ref q :: st)) : JK p l e R s m args below meth c D A Q nL K N ws pc lv (.int n :: st) := by
  intro H locs ls hP hD hS hl
  refine va_newq C.1 C.2.1 C.2.2.2.1 (C.2.2.2.2.1 _ hcl) hov C.2.2.2.2.2.1 hP hD hS C.2.2.2.2.2.2.2.1 hn hN hbytes hR.1 hR.2 hd (fun q cA H1 hK hP hD hS => ?_)
  obtain ⟨_, _, _, _, _, e1⟩ := (hK.2 5 (cA, .object "MeetingSets$Family") rfl).2
  obtain ⟨_, _, _, _, _, e2⟩ := (C.2.2.2.2.2.1.2 4 (cy 4, .object "MeetingSets$Family") rfl).2
  have e3 : cA = cy 4 := Option.some.inj (e1.symm.trans e2)
  subst e3
  exact kk q H1 locs ls hP hD hS hl
theorem kAast (C : Cx p l R s m args meth c cc nL own ret D cy G A) {a n v : Nat} {vs : List Value} {f : Nat → Option Nat} {i : Int32} {ws' : va_W} (q0 qk : Nat) (ha : ws[q0]? = some (a, .inl (cy 4, n, .inr (.inr (.inr (.inr f)))))) (hv : ws[qk]? = some (v, .inr (0, vs))) (hin : vp_in i n) (hs : ws.set q0 (a, .inl (cy 4, n, .inr (.inr (.inr (.inr (va_up f i.toNatClampNeg (some v))))))) = ws') (hd : decode cc pc = .ok (.aastore, 1)) (kk : JK p l e R s m args below meth c D A Q nL K N ws' (pc + 1) lv st) : JK p l e R s m args below meth c D A Q nL K N ws pc lv (.ref v :: .int i :: .ref a :: st) := fun H locs ls hP hD hS hl => va_astq (r := (RX0, TX0, 3)) C.1 C.2.1 C.2.2.2.2.2.1 hP hD hS q0 4 qk 0 ha rfl hv rfl hin hd (fun H locs hP hD hS => kk H locs ls (hs ▸ hP) (hs ▸ hD) hS hl)
theorem kGet (C : Cx p l R s m args meth c cc nL own ret D cy G A) {a idx ci Nf k : Nat} {Cn : String} {T : u_T} {fs : List Value} {x : Value} (q0 : Nat) (ha : ws[q0]? = some (a, .inr (ci, fs))) (hc : vwCl[ci]? = some (Cn, T, Nf)) (hi : ∀ w ∈ u_ws Cn T Nf, w ∈ TB) (hk : k < Nf) (hlk : Cond.fieldLink own idx (T k).1 (T k).2.1 (T k).2.2.1 ∈ TB) (hv : fs[k]? = some x) (hd : decode cc pc = .ok (.getfield idx, 3)) (kk : JK p l e R s m args below meth c D A Q nL K N ws (pc + 3) lv (x :: st)) : JK p l e R s m args below meth c D A Q nL K N ws pc lv (.ref a :: st) := fun H locs ls hP hD hS hl => va_get C.1 C.2.1 C.2.2.2.2.1 hi C.2.2.2.1 C.2.2.2.2.2.1 hP q0 ha hc k hk (C.2.2.2.2.1 _ hlk) (fun _ h => h) hv hd (kk H locs ls hP hD hS hl)
theorem kPutF (C : Cx p l R s m args meth c cc nL own ret D cy G A) (hnm0 : meth.name = "<init>") {a idx ci Nf k : Nat} {Cn : String} {T : u_T} {fs : List Value} {x : Value} {ws' : va_W} {ty : FieldType} (q0 : Nat) (ha : ws[q0]? = some (a, .inr (ci, fs))) (hs : ws.set q0 (a, .inr (ci, fs.set k x)) = ws') (hc : vwCl[ci]? = some (Cn, T, Nf)) (hi : ∀ w ∈ u_ws Cn T Nf, w ∈ TB) (ty0 : Nat → FieldType) (hty : ∀ k, k < Nf → parseFieldDescriptor (T k).2.2.1 = some (ty0 k)) (hnm : ∀ a, a < Nf → ∀ b, b < Nf → a ≠ b → (T a).2.1 ≠ (T b).2.1) (hk : k < Nf) (hlk : Cond.fieldLink own idx (T k).1 (T k).2.1 (T k).2.2.1 ∈ TB) (hfin : (T k).2.2.2 = true) (hdecl : (T k).1 = own) (hty1 : parseFieldDescriptor (T k).2.2.1 = some ty) (hn : narrow ty x = x) (hfit : fits ty x = true) (hlen : k < fs.length) (hd : decode cc pc = .ok (.putfield idx, 3)) (kk : JK p l e R s m args below meth c D A Q nL K N ws' (pc + 3) lv st) : JK p l e R s m args below meth c D A Q nL K N ws pc lv (x :: .ref a :: st) := fun H locs ls hP hD hS hl => va_putF C.1 C.2.1 C.2.2.2.2.1 hi ty0 hty hnm C.2.2.2.1 C.2.2.2.2.2.1 hP hD hS q0 ha hc k hk (C.2.2.2.2.1 _ hlk) (fun _ h => h) hfin hnm0 hdecl hty1 hn hfit hlen hd (fun H locs hP hD hS => kk H locs ls (hs ▸ hP) (hs ▸ hD) hS hl)
theorem kPut (C : Cx p l R s m args meth c cc nL own ret D cy G A) {a idx ci Nf k : Nat} {Cn : String} {T : u_T} {fs : List Value} {x : Value} {ws' : va_W} {ty : FieldType} (q0 : Nat) (ha : ws[q0]? = some (a, .inr (ci, fs))) (hs : ws.set q0 (a, .inr (ci, fs.set k x)) = ws') (hc : vwCl[ci]? = some (Cn, T, Nf)) (hi : ∀ w ∈ u_ws Cn T Nf, w ∈ TB) (ty0 : Nat → FieldType) (hty : ∀ k, k < Nf → parseFieldDescriptor (T k).2.2.1 = some (ty0 k)) (hnm : ∀ a, a < Nf → ∀ b, b < Nf → a ≠ b → (T a).2.1 ≠ (T b).2.1) (hk : k < Nf) (hlk : Cond.fieldLink own idx (T k).1 (T k).2.1 (T k).2.2.1 ∈ TB) (hfin : (T k).2.2.2 = false) (hty1 : parseFieldDescriptor (T k).2.2.1 = some ty) (hn : narrow ty x = x) (hfit : fits ty x = true) (hlen : k < fs.length) (hd : decode cc pc = .ok (.putfield idx, 3)) (kk : JK p l e R s m args below meth c D A Q nL K N ws' (pc + 3) lv st) : JK p l e R s m args below meth c D A Q nL K N ws pc lv (x :: .ref a :: st) := fun H locs ls hP hD hS hl => va_put C.1 C.2.1 C.2.2.2.2.1 hi ty0 hty hnm C.2.2.2.1 C.2.2.2.2.2.1 hP hD hS q0 ha hc k hk (C.2.2.2.2.1 _ hlk) (fun _ h => h) hfin hty1 hn hfit hlen hd (fun H locs hP hD hS => kk H locs ls (hs ▸ hP) (hs ▸ hD) hS hl)
theorem kEnd (C : Cx p l R s m args meth c cc nL own none D cy G A) {good : va_W → Prop} {K' N' : Nat} (hQ : CQ below D A args s Q good K' N') (hK : K = K') (hN : N = N') (hg : good ws) (hd : decode cc pc = .ok (.return_, 1)) : JK p l e R s m args below meth c D A Q nL K N ws pc lv [] := by
  subst hK; subst hN
  rw [hQ]
  exact fun H locs ls hP hD hS hl => W.vret C.1 C.2.1 C.2.2.2.2.2.2.2.2.1 (fun t ht hW => ⟨⟨ws, hg, rfl, by rw [ht]; exact hP, hD⟩, hS.F ht⟩) hS.2.2 hd C.2.2.2.2.2.2.2.2.2
theorem kPerm {ws' : va_W} (is : List Nat) (hn : va_nd is = true) (hs : is.map (fun i => ws[i]?) = ws'.map some) (kk : JK p l e R s m args below meth c D A Q nL K N ws' pc lv st) : JK p l e R s m args below meth c D A Q nL K N ws pc lv st := by
  intro H locs ls hP hD hS hl
  refine kk H locs ls (fun k q hk => ?_) (hD.sub is hn hs) hS hl
  have h1 : (is.map (fun i => ws[i]?))[k]? = some (some q) := by rw [hs, List.getElem?_map, hk]; rfl
  rw [List.getElem?_map] at h1
  cases hi : is[k]? with
  | none => rw [hi] at h1; cases h1
  | some i => rw [hi] at h1; exact hP i q (Option.some.inj h1)
theorem arrV_congr {cA : ClassId} {n : Nat} {f f' : Nat → Value} (h : ∀ j, j < n → f j = f' j) : arrV cA n f = arrV cA n f' := by
  unfold arrV
  congr 1
  apply Array.ext
  · simp
  · intro i h1 h2
    simp at h1 h2 ⊢
    exact h i (by omega)
theorem kCont {a n : Nat} {cA : ClassId} {f f' : Nat → Option Nat} {ws' : va_W} (q0 : Nat) (ha : ws[q0]? = some (a, .inl (cA, n, .inr (.inr (.inr (.inr f)))))) (hf : ∀ j, j < n → f j = f' j) (hs : ws.set q0 (a, .inl (cA, n, .inr (.inr (.inr (.inr f'))))) = ws') (kk : JK p l e R s m args below meth c D A Q nL K N ws' pc lv st) : JK p l e R s m args below meth c D A Q nL K N ws pc lv st := by
  intro H locs ls hP hD hS hl
  have h1 : va_at D vwCl (a, .inl (cA, n, .inr (.inr (.inr (.inr f'))))) H := by
    have h2 := hP q0 _ ha
    show H[a]? = some (vp_cell cA (n, .inr (.inr (.inr (.inr f')))))
    have e9 : vp_cell cA (n, .inr (.inr (.inr (.inr f')))) = vp_cell cA (n, .inr (.inr (.inr (.inr f)))) := by
      rw [vp_cell_q, vp_cell_q]
      exact arrV_congr (fun j hj => by rw [hf j hj])
    rw [e9]
    exact h2
  exact kk H locs ls (hs ▸ hP.set hD ha h1 (fun _ _ => rfl)) (hs ▸ hD.set ha) hS hl
end KM
theorem wA_int : Cond.arrayClass .int ∈ TB := inTB 177 (by decide +kernel) (by decide +kernel)
theorem wA_byte : Cond.arrayClass .byte ∈ TB := inTB 178 (by decide +kernel) (by decide +kernel)
theorem wA_long : Cond.arrayClass .long ∈ TB := inTB 260 (by decide +kernel) (by decide +kernel)
theorem wA_boolean : Cond.arrayClass .boolean ∈ TB := inTB 1243 (by decide +kernel) (by decide +kernel)
theorem wOi : Cond.instanceMethod objectInit ∈ TB := inTB 118 (by decide +kernel) (by decide +kernel)
theorem wOc : Cond.code objectInit ⟨#[0xb1]⟩ 1 none ∈ TB := inTB 119 (by decide +kernel) (by decide +kernel)
theorem wIn_X0 : Cond.instantiable RX0 3 ∈ TB := inTB 122 (by decide +kernel) (by decide +kernel)
theorem wIz_X0 : Cond.initialized RX0 ∈ TB := inTB 96 (by decide +kernel) (by decide +kernel)
theorem wOl_X0 : Cond.methodLink RX0 3 objectInit ∈ TB := inTB 126 (by decide +kernel) (by decide +kernel)
theorem cb_X0_init : (yX0_init.cls ≠ "java/lang/invoke/MethodHandle" ∧ yX0_init.cls ≠ "java/lang/invoke/VarHandle" ∧ (parseMethodDescriptor yX0_init.desc).map (fun d => d.parameters.length) = some 0) ∧ Cond.code yX0_init cX0_init 1 none ∈ TB ∧ Cond.initialized yX0_init.cls ∈ TB ∧ Cond.instanceMethod yX0_init ∈ TB ∧ yX0_init.name = "<init>" := ⟨⟨by decide +kernel, by decide +kernel, by decide +kernel⟩, inTB 125 (by decide +kernel) (by decide +kernel), wIz_X0, inTB 124 (by decide +kernel) (by decide +kernel), rfl⟩
theorem wIn_X1 : Cond.instantiable RX1 4 ∈ TB := inTB 194 (by decide +kernel) (by decide +kernel)
theorem wIz_X1 : Cond.initialized RX1 ∈ TB := inTB 99 (by decide +kernel) (by decide +kernel)
theorem wOl_X1 : Cond.methodLink RX1 1 objectInit ∈ TB := inTB 198 (by decide +kernel) (by decide +kernel)
theorem cb_X1_init : (yX1_init.cls ≠ "java/lang/invoke/MethodHandle" ∧ yX1_init.cls ≠ "java/lang/invoke/VarHandle" ∧ (parseMethodDescriptor yX1_init.desc).map (fun d => d.parameters.length) = some 0) ∧ Cond.code yX1_init cX1_init 2 none ∈ TB ∧ Cond.initialized yX1_init.cls ∈ TB ∧ Cond.instanceMethod yX1_init ∈ TB ∧ yX1_init.name = "<init>" := ⟨⟨by decide +kernel, by decide +kernel, by decide +kernel⟩, inTB 197 (by decide +kernel) (by decide +kernel), wIz_X1, inTB 196 (by decide +kernel) (by decide +kernel), rfl⟩
theorem wIn_X3 : Cond.instantiable RX3 7 ∈ TB := inTB 262 (by decide +kernel) (by decide +kernel)
theorem wIz_X3 : Cond.initialized RX3 ∈ TB := inTB 101 (by decide +kernel) (by decide +kernel)
theorem wOl_X3 : Cond.methodLink RX3 3 objectInit ∈ TB := inTB 266 (by decide +kernel) (by decide +kernel)
theorem cb_X3_init : (yX3_init.cls ≠ "java/lang/invoke/MethodHandle" ∧ yX3_init.cls ≠ "java/lang/invoke/VarHandle" ∧ (parseMethodDescriptor yX3_init.desc).map (fun d => d.parameters.length) = some 0) ∧ Cond.code yX3_init cX3_init 2 none ∈ TB ∧ Cond.initialized yX3_init.cls ∈ TB ∧ Cond.instanceMethod yX3_init ∈ TB ∧ yX3_init.name = "<init>" := ⟨⟨by decide +kernel, by decide +kernel, by decide +kernel⟩, inTB 265 (by decide +kernel) (by decide +kernel), wIz_X3, inTB 264 (by decide +kernel) (by decide +kernel), rfl⟩
theorem wIn_X5 : Cond.instantiable RX5 11 ∈ TB := inTB 216 (by decide +kernel) (by decide +kernel)
theorem wIz_X5 : Cond.initialized RX5 ∈ TB := inTB 100 (by decide +kernel) (by decide +kernel)
theorem wOl_X5 : Cond.methodLink RX5 3 objectInit ∈ TB := inTB 220 (by decide +kernel) (by decide +kernel)
theorem cb_X5_init : (yX5_init.cls ≠ "java/lang/invoke/MethodHandle" ∧ yX5_init.cls ≠ "java/lang/invoke/VarHandle" ∧ (parseMethodDescriptor yX5_init.desc).map (fun d => d.parameters.length) = some 0) ∧ Cond.code yX5_init cX5_init 1 none ∈ TB ∧ Cond.initialized yX5_init.cls ∈ TB ∧ Cond.instanceMethod yX5_init ∈ TB ∧ yX5_init.name = "<init>" := ⟨⟨by decide +kernel, by decide +kernel, by decide +kernel⟩, inTB 219 (by decide +kernel) (by decide +kernel), wIz_X5, inTB 218 (by decide +kernel) (by decide +kernel), rfl⟩
theorem wIn_X6 : Cond.instantiable RX6 7 ∈ TB := inTB 147 (by decide +kernel) (by decide +kernel)
theorem wIz_X6 : Cond.initialized RX6 ∈ TB := inTB 97 (by decide +kernel) (by decide +kernel)
theorem wOl_X6 : Cond.methodLink RX6 3 objectInit ∈ TB := inTB 151 (by decide +kernel) (by decide +kernel)
theorem cb_X6_init : (yX6_init.cls ≠ "java/lang/invoke/MethodHandle" ∧ yX6_init.cls ≠ "java/lang/invoke/VarHandle" ∧ (parseMethodDescriptor yX6_init.desc).map (fun d => d.parameters.length) = some 0) ∧ Cond.code yX6_init cX6_init 1 none ∈ TB ∧ Cond.initialized yX6_init.cls ∈ TB ∧ Cond.instanceMethod yX6_init ∈ TB ∧ yX6_init.name = "<init>" := ⟨⟨by decide +kernel, by decide +kernel, by decide +kernel⟩, inTB 150 (by decide +kernel) (by decide +kernel), wIz_X6, inTB 149 (by decide +kernel) (by decide +kernel), rfl⟩
theorem wIn_X7 : Cond.instantiable RX7 2 ∈ TB := inTB 180 (by decide +kernel) (by decide +kernel)
theorem wIz_X7 : Cond.initialized RX7 ∈ TB := inTB 98 (by decide +kernel) (by decide +kernel)
theorem wOl_X7 : Cond.methodLink RX7 3 objectInit ∈ TB := inTB 184 (by decide +kernel) (by decide +kernel)
theorem cb_X7_init : (yX7_init.cls ≠ "java/lang/invoke/MethodHandle" ∧ yX7_init.cls ≠ "java/lang/invoke/VarHandle" ∧ (parseMethodDescriptor yX7_init.desc).map (fun d => d.parameters.length) = some 0) ∧ Cond.code yX7_init cX7_init 1 none ∈ TB ∧ Cond.initialized yX7_init.cls ∈ TB ∧ Cond.instanceMethod yX7_init ∈ TB ∧ yX7_init.name = "<init>" := ⟨⟨by decide +kernel, by decide +kernel, by decide +kernel⟩, inTB 183 (by decide +kernel) (by decide +kernel), wIz_X7, inTB 182 (by decide +kernel) (by decide +kernel), rfl⟩
theorem wIn_X8 : Cond.instantiable RX8 10 ∈ TB := inTB 113 (by decide +kernel) (by decide +kernel)
theorem wIz_X8 : Cond.initialized RX8 ∈ TB := inTB 95 (by decide +kernel) (by decide +kernel)
theorem wOl_X8 : Cond.methodLink RX8 1 objectInit ∈ TB := inTB 117 (by decide +kernel) (by decide +kernel)
theorem cb_X8_init : (yX8_init.cls ≠ "java/lang/invoke/MethodHandle" ∧ yX8_init.cls ≠ "java/lang/invoke/VarHandle" ∧ (parseMethodDescriptor yX8_init.desc).map (fun d => d.parameters.length) = some 0) ∧ Cond.code yX8_init cX8_init 2 none ∈ TB ∧ Cond.initialized yX8_init.cls ∈ TB ∧ Cond.instanceMethod yX8_init ∈ TB ∧ yX8_init.name = "<init>" := ⟨⟨by decide +kernel, by decide +kernel, by decide +kernel⟩, inTB 116 (by decide +kernel) (by decide +kernel), wIz_X8, inTB 115 (by decide +kernel) (by decide +kernel), rfl⟩
theorem wIn_X9 : Cond.instantiable RX9 30 ∈ TB := inTB 1148 (by decide +kernel) (by decide +kernel)
theorem wIz_X9 : Cond.initialized RX9 ∈ TB := inTB 102 (by decide +kernel) (by decide +kernel)
theorem wOl_X9 : Cond.methodLink RX9 3 objectInit ∈ TB := inTB 1152 (by decide +kernel) (by decide +kernel)
theorem cb_X9_init : (yX9_init.cls ≠ "java/lang/invoke/MethodHandle" ∧ yX9_init.cls ≠ "java/lang/invoke/VarHandle" ∧ (parseMethodDescriptor yX9_init.desc).map (fun d => d.parameters.length) = some 0) ∧ Cond.code yX9_init cX9_init 1 none ∈ TB ∧ Cond.initialized yX9_init.cls ∈ TB ∧ Cond.instanceMethod yX9_init ∈ TB ∧ yX9_init.name = "<init>" := ⟨⟨by decide +kernel, by decide +kernel, by decide +kernel⟩, inTB 1151 (by decide +kernel) (by decide +kernel), wIz_X9, inTB 1150 (by decide +kernel) (by decide +kernel), rfl⟩
theorem wCl_RX1_13 : Cond.classLink RX1 13 RX0 ∈ TB := inTB 199 (by decide +kernel) (by decide +kernel)
theorem wCl_RX3_25 : Cond.classLink RX3 25 RX0 ∈ TB := inTB 267 (by decide +kernel) (by decide +kernel)
theorem wCl_RX5_9 : Cond.classLink RX5 9 RX0 ∈ TB := inTB 221 (by decide +kernel) (by decide +kernel)
theorem wCl_RX8_9 : Cond.classLink RX8 9 RX0 ∈ TB := inTB 120 (by decide +kernel) (by decide +kernel)
theorem wCl_RX8_30 : Cond.classLink RX8 30 RX6 ∈ TB := inTB 146 (by decide +kernel) (by decide +kernel)
theorem wCl_RX8_37 : Cond.classLink RX8 37 RX7 ∈ TB := inTB 179 (by decide +kernel) (by decide +kernel)
theorem wCl_RX8_44 : Cond.classLink RX8 44 RX1 ∈ TB := inTB 193 (by decide +kernel) (by decide +kernel)
theorem wCl_RX8_51 : Cond.classLink RX8 51 RX5 ∈ TB := inTB 215 (by decide +kernel) (by decide +kernel)
theorem wCl_RX8_58 : Cond.classLink RX8 58 RX3 ∈ TB := inTB 261 (by decide +kernel) (by decide +kernel)
theorem wCl_RL_7 : Cond.classLink RL 7 RX8 ∈ TB := inTB 112 (by decide +kernel) (by decide +kernel)
theorem wCl_RL_10 : Cond.classLink RL 10 RX9 ∈ TB := inTB 1147 (by decide +kernel) (by decide +kernel)
theorem fq_RX1_9 : Cond.fieldLink RX1 9 (TX1 0).1 (TX1 0).2.1 (TX1 0).2.2.1 ∈ TB := inTB 201 (by decide +kernel) (by decide +kernel)
theorem fq_RX1_15 : Cond.fieldLink RX1 15 (TX1 1).1 (TX1 1).2.1 (TX1 1).2.2.1 ∈ TB := inTB 202 (by decide +kernel) (by decide +kernel)
theorem fq_RX3_9 : Cond.fieldLink RX3 9 (TX3 0).1 (TX3 0).2.1 (TX3 0).2.2.1 ∈ TB := inTB 269 (by decide +kernel) (by decide +kernel)
theorem fq_RX3_15 : Cond.fieldLink RX3 15 (TX3 2).1 (TX3 2).2.1 (TX3 2).2.2.1 ∈ TB := inTB 271 (by decide +kernel) (by decide +kernel)
theorem fq_RX3_18 : Cond.fieldLink RX3 18 (TX3 3).1 (TX3 3).2.1 (TX3 3).2.2.1 ∈ TB := inTB 272 (by decide +kernel) (by decide +kernel)
theorem fq_RX3_22 : Cond.fieldLink RX3 22 (TX3 4).1 (TX3 4).2.1 (TX3 4).2.2.1 ∈ TB := inTB 273 (by decide +kernel) (by decide +kernel)
theorem fq_RX3_27 : Cond.fieldLink RX3 27 (TX3 5).1 (TX3 5).2.1 (TX3 5).2.2.1 ∈ TB := inTB 274 (by decide +kernel) (by decide +kernel)
theorem fq_RX3_32 : Cond.fieldLink RX3 32 (TX3 6).1 (TX3 6).2.1 (TX3 6).2.2.1 ∈ TB := inTB 275 (by decide +kernel) (by decide +kernel)
theorem fq_RX5_12 : Cond.fieldLink RX5 12 (TX5 0).1 (TX5 0).2.1 (TX5 0).2.2.1 ∈ TB := inTB 223 (by decide +kernel) (by decide +kernel)
theorem fq_RX5_18 : Cond.fieldLink RX5 18 (TX5 3).1 (TX5 3).2.1 (TX5 3).2.2.1 ∈ TB := inTB 229 (by decide +kernel) (by decide +kernel)
theorem fq_RX5_22 : Cond.fieldLink RX5 22 (TX5 4).1 (TX5 4).2.1 (TX5 4).2.2.1 ∈ TB := inTB 230 (by decide +kernel) (by decide +kernel)
theorem fq_RX5_25 : Cond.fieldLink RX5 25 (TX5 5).1 (TX5 5).2.1 (TX5 5).2.2.1 ∈ TB := inTB 231 (by decide +kernel) (by decide +kernel)
theorem fq_RX5_28 : Cond.fieldLink RX5 28 (TX5 6).1 (TX5 6).2.1 (TX5 6).2.2.1 ∈ TB := inTB 232 (by decide +kernel) (by decide +kernel)
theorem fq_RX5_31 : Cond.fieldLink RX5 31 (TX5 7).1 (TX5 7).2.1 (TX5 7).2.2.1 ∈ TB := inTB 233 (by decide +kernel) (by decide +kernel)
theorem fq_RX5_35 : Cond.fieldLink RX5 35 (TX5 8).1 (TX5 8).2.1 (TX5 8).2.2.1 ∈ TB := inTB 234 (by decide +kernel) (by decide +kernel)
theorem fq_RX5_38 : Cond.fieldLink RX5 38 (TX5 9).1 (TX5 9).2.1 (TX5 9).2.2.1 ∈ TB := inTB 235 (by decide +kernel) (by decide +kernel)
theorem fq_RX5_41 : Cond.fieldLink RX5 41 (TX5 10).1 (TX5 10).2.1 (TX5 10).2.2.1 ∈ TB := inTB 236 (by decide +kernel) (by decide +kernel)
theorem fq_RX6_11 : Cond.fieldLink RX6 11 (TX6 0).1 (TX6 0).2.1 (TX6 0).2.2.1 ∈ TB := inTB 152 (by decide +kernel) (by decide +kernel)
theorem fq_RX6_15 : Cond.fieldLink RX6 15 (TX6 3).1 (TX6 3).2.1 (TX6 3).2.2.1 ∈ TB := inTB 157 (by decide +kernel) (by decide +kernel)
theorem fq_RX7_11 : Cond.fieldLink RX7 11 (TX7 0).1 (TX7 0).2.1 (TX7 0).2.2.1 ∈ TB := inTB 185 (by decide +kernel) (by decide +kernel)
theorem fq_RX8_11 : Cond.fieldLink RX8 11 (TX8 0).1 (TX8 0).2.1 (TX8 0).2.2.1 ∈ TB := inTB 291 (by decide +kernel) (by decide +kernel)
theorem fq_RX8_16 : Cond.fieldLink RX8 16 (TX8 1).1 (TX8 1).2.1 (TX8 1).2.2.1 ∈ TB := inTB 292 (by decide +kernel) (by decide +kernel)
theorem fq_RX8_20 : Cond.fieldLink RX8 20 (TX8 2).1 (TX8 2).2.1 (TX8 2).2.2.1 ∈ TB := inTB 293 (by decide +kernel) (by decide +kernel)
theorem fq_RX8_23 : Cond.fieldLink RX8 23 (TX8 3).1 (TX8 3).2.1 (TX8 3).2.2.1 ∈ TB := inTB 294 (by decide +kernel) (by decide +kernel)
theorem fq_RX8_26 : Cond.fieldLink RX8 26 (TX8 4).1 (TX8 4).2.1 (TX8 4).2.2.1 ∈ TB := inTB 295 (by decide +kernel) (by decide +kernel)
theorem fq_RX8_33 : Cond.fieldLink RX8 33 (TX8 5).1 (TX8 5).2.1 (TX8 5).2.2.1 ∈ TB := inTB 296 (by decide +kernel) (by decide +kernel)
theorem fq_RX8_40 : Cond.fieldLink RX8 40 (TX8 6).1 (TX8 6).2.1 (TX8 6).2.2.1 ∈ TB := inTB 297 (by decide +kernel) (by decide +kernel)
theorem fq_RX8_47 : Cond.fieldLink RX8 47 (TX8 7).1 (TX8 7).2.1 (TX8 7).2.2.1 ∈ TB := inTB 298 (by decide +kernel) (by decide +kernel)
theorem fq_RX8_54 : Cond.fieldLink RX8 54 (TX8 8).1 (TX8 8).2.1 (TX8 8).2.2.1 ∈ TB := inTB 299 (by decide +kernel) (by decide +kernel)
theorem fq_RX8_61 : Cond.fieldLink RX8 61 (TX8 9).1 (TX8 9).2.1 (TX8 9).2.2.1 ∈ TB := inTB 300 (by decide +kernel) (by decide +kernel)
theorem fq_RX9_9 : Cond.fieldLink RX9 9 (TX9 1).1 (TX9 1).2.1 (TX9 1).2.2.1 ∈ TB := inTB 1153 (by decide +kernel) (by decide +kernel)
theorem fq_RX9_13 : Cond.fieldLink RX9 13 (TX9 2).1 (TX9 2).2.1 (TX9 2).2.2.1 ∈ TB := inTB 1154 (by decide +kernel) (by decide +kernel)
theorem fq_RX9_17 : Cond.fieldLink RX9 17 (TX9 5).1 (TX9 5).2.1 (TX9 5).2.2.1 ∈ TB := inTB 1157 (by decide +kernel) (by decide +kernel)
theorem fq_RX9_20 : Cond.fieldLink RX9 20 (TX9 6).1 (TX9 6).2.1 (TX9 6).2.2.1 ∈ TB := inTB 1158 (by decide +kernel) (by decide +kernel)
theorem fq_RX9_24 : Cond.fieldLink RX9 24 (TX9 14).1 (TX9 14).2.1 (TX9 14).2.2.1 ∈ TB := inTB 1166 (by decide +kernel) (by decide +kernel)
theorem fq_RX9_28 : Cond.fieldLink RX9 28 (TX9 15).1 (TX9 15).2.1 (TX9 15).2.2.1 ∈ TB := inTB 1167 (by decide +kernel) (by decide +kernel)
theorem fq_RX9_31 : Cond.fieldLink RX9 31 (TX9 16).1 (TX9 16).2.1 (TX9 16).2.2.1 ∈ TB := inTB 1168 (by decide +kernel) (by decide +kernel)
theorem fq_RX9_34 : Cond.fieldLink RX9 34 (TX9 17).1 (TX9 17).2.1 (TX9 17).2.2.1 ∈ TB := inTB 1169 (by decide +kernel) (by decide +kernel)
theorem fq_RX9_37 : Cond.fieldLink RX9 37 (TX9 21).1 (TX9 21).2.1 (TX9 21).2.2.1 ∈ TB := inTB 1173 (by decide +kernel) (by decide +kernel)
theorem fq_RX9_40 : Cond.fieldLink RX9 40 (TX9 22).1 (TX9 22).2.1 (TX9 22).2.2.1 ∈ TB := inTB 1174 (by decide +kernel) (by decide +kernel)
theorem fq_RX9_43 : Cond.fieldLink RX9 43 (TX9 24).1 (TX9 24).2.1 (TX9 24).2.2.1 ∈ TB := inTB 1176 (by decide +kernel) (by decide +kernel)
theorem fq_RX9_46 : Cond.fieldLink RX9 46 (TX9 25).1 (TX9 25).2.1 (TX9 25).2.2.1 ∈ TB := inTB 1177 (by decide +kernel) (by decide +kernel)
theorem fq_RX9_49 : Cond.fieldLink RX9 49 (TX9 26).1 (TX9 26).2.1 (TX9 26).2.2.1 ∈ TB := inTB 1178 (by decide +kernel) (by decide +kernel)
theorem fq_RX9_52 : Cond.fieldLink RX9 52 (TX9 27).1 (TX9 27).2.1 (TX9 27).2.2.1 ∈ TB := inTB 1179 (by decide +kernel) (by decide +kernel)
theorem fq_RX9_55 : Cond.fieldLink RX9 55 (TX9 28).1 (TX9 28).2.1 (TX9 28).2.2.1 ∈ TB := inTB 1180 (by decide +kernel) (by decide +kernel)
