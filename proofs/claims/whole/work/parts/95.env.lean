abbrev R_law : String := RL
def lw_P (b : Addr) (xs : List Int32) (args : Array Value) (s : State) : Prop := args = #[.ref b] ∧ s.IntsAt b xs ∧ xs.length ≤ 3072 ∧ (Jvm.Cond.and given_1 narrow_1).before args s = true
def lw_Q (_ : Array Value) (s : State) (o : Outcome) (t : State) : Prop := o = .returned (some (.int 1)) ∧ Framed s o t [] 600000 7302250
def lw_Z (below : List Frame) (a : Array Value) (s : State) : State → Prop := fun t => ∃ o, t.status = .running ∧ Ended t below o ∧ lw_Q a s o t
/-- the law's own end, with 1 on the stack, nothing written that was there before, its room as the claim has it -/
theorem lw_ret {p : Program} {l : Launch} {e : Env} {s : State} {m : MethodId} {below : List Frame} {meth : Method} {c : Code} {b : Nat} (hx : p.tables.exec = Jvm.exec) (hb : c.code = code) (hr : meth.sig.returnType = ret) (hlocks : meth.locks = false) {pc : Nat} {H : Heap} {ls : Array Slot} (hdg : decode code pc = .ok (.ireturn, 1)) : W p l e room_1 s m #[Value.ref b] below meth c H [] 600000 7302250 (lw_Z below #[Value.ref b] s) (F0 m pc ls [.int 1]) := by
  intro T hT X
  obtain ⟨fs, hret, hrun, hended, hW, hframe⟩ := X.leave (v := some (.int 1)) (hlocks := hlocks) (fun h => by rw [hr] at h; cases h)
  have hmeth' : T.vm.method? m = some meth := X.method'
  refine ⟨T.setFrames fs, ?_, .returned (some (.int 1)), hrun, hended, rfl, ⟨_, rfl⟩, hW, hframe⟩
  jvm_step X.here [X.here.top, hx, hb, hdg, hmeth', hr, ret, narrow_b1]
  (try refine ⟨rfl, ?_⟩); (try refine ⟨rfl, ?_⟩)
  first | (intro acts; rw [hret _ acts rfl rfl rfl]) | rw [hret _ _ rfl rfl rfl]
  exact Steps.refl _
/-- what holds at the law's entry: the machine, the code, the tables' words (any of lw_tbl by 'hts w (by decide +kernel)'), the script of L ints xs at the cell b, what the Statement gives of the start (any of its parts by flat_of_before) -/
def lw_At (p : Program) (s : State) (m : MethodId) (meth : Method) (c : Code) (b L : Nat) (xs : Nat → Int32) : Prop :=
  p.tables.exec = Jvm.exec ∧ c.code = code ∧ meth.sig.returnType = ret ∧ c.maxLocals = 4 ∧ s.vm.findClass R_law = some m.cls ∧ (∀ w ∈ lw_tbl, w.before #[Value.ref b] s = true) ∧ va_X b L xs s s.heap ∧ b < s.heap.size ∧ meth.locks = false ∧ (Jvm.Cond.and given_1 narrow_1).before #[Value.ref b] s = true
theorem st_loa : Cond.arrayOf (.static "MeetingSets$Family" "LOW_WITH" "[J") .long ∈ flatC (Jvm.Cond.and given_1 narrow_1) := by decide +kernel
theorem st_lol : Cond.eq (.length (.static "MeetingSets$Family" "LOW_WITH" "[J")) (.int (Int32.ofNat 7)) ∈ flatC (Jvm.Cond.and given_1 narrow_1) := by decide +kernel
theorem st_loe : ∀ j, j < 7 → Cond.eq (.elem (.static "MeetingSets$Family" "LOW_WITH" "[J") (.int (Int32.ofNat j))) (.long (loW j)) ∈ flatC (Jvm.Cond.and given_1 narrow_1) := by decide +kernel
theorem st_hia : Cond.arrayOf (.static "MeetingSets$Family" "HIGH_WITH" "[J") .long ∈ flatC (Jvm.Cond.and given_1 narrow_1) := by decide +kernel
theorem st_hil : Cond.eq (.length (.static "MeetingSets$Family" "HIGH_WITH" "[J")) (.int (Int32.ofNat 7)) ∈ flatC (Jvm.Cond.and given_1 narrow_1) := by decide +kernel
theorem st_hie : ∀ j, j < 7 → Cond.eq (.elem (.static "MeetingSets$Family" "HIGH_WITH" "[J") (.int (Int32.ofNat j))) (.long (hiW j)) ∈ flatC (Jvm.Cond.and given_1 narrow_1) := by decide +kernel
theorem st_faa : Cond.arrayOf (.static "MeetingSets$Rounds" "FACTORIALS" "[I") .int ∈ flatC (Jvm.Cond.and given_1 narrow_1) := by decide +kernel
theorem st_fal : Cond.eq (.length (.static "MeetingSets$Rounds" "FACTORIALS" "[I")) (.int (Int32.ofNat 8)) ∈ flatC (Jvm.Cond.and given_1 narrow_1) := by decide +kernel
theorem st_fae : ∀ j, j < 8 → Cond.eq (.elem (.static "MeetingSets$Rounds" "FACTORIALS" "[I") (.int (Int32.ofNat j))) (.int (facW j)) ∈ flatC (Jvm.Cond.and given_1 narrow_1) := by decide +kernel
def stT (i : Nat) : Term := [Term.string "MeetingSets$Tape" 31, Term.string "MeetingSets$Tape" 75, Term.string "MeetingSets$Teller" 19].getD i (.int 0)
theorem st_ex : ∀ i, i < 3 → Cond.exactly (stT i) "java/lang/String" ∈ flatC (Jvm.Cond.and given_1 narrow_1) := by decide +kernel
theorem st_co : ∀ i, i < 3 → Cond.eq (.field (stT i) "java/lang/String" "coder" "B") (.int 0) ∈ flatC (Jvm.Cond.and given_1 narrow_1) := by decide +kernel
theorem st_ar : ∀ i, i < 3 → Cond.arrayOf (.field (stT i) "java/lang/String" "value" "[B") .byte ∈ flatC (Jvm.Cond.and given_1 narrow_1) := by decide +kernel
theorem st_le : ∀ i, i < 3 → Cond.eq (.length (.field (stT i) "java/lang/String" "value" "[B")) (.int (Int32.ofNat (([6, 4, 7] : List Nat).getD i 0))) ∈ flatC (Jvm.Cond.and given_1 narrow_1) := by decide +kernel
theorem st_el : ∀ i, i < 3 → ∀ j, j < ([6, 4, 7] : List Nat).getD i 0 → Cond.eq (.elem (.field (stT i) "java/lang/String" "value" "[B") (.int (Int32.ofNat j))) (.int ((([[102, 97, 109, 105, 108, 121], [110, 111, 110, 101], [102, 97, 109, 105, 108, 121, 32]] : List (List Int32)).getD i []).getD j 0)) ∈ flatC (Jvm.Cond.and given_1 narrow_1) := by decide +kernel
theorem st_ne : ∀ i, i < 3 → ∀ j, j < 3 → i ≠ j → Cond.not (Cond.eq (stT i) (stT j)) ∈ flatC (Jvm.Cond.and given_1 narrow_1) ∨ Cond.not (Cond.eq (stT j) (stT i)) ∈ flatC (Jvm.Cond.and given_1 narrow_1) := by decide +kernel
theorem st_n3 : ∀ i, i < 3 → ([6, 4, 7] : List Nat).getD i 0 < 2 ^ 31 := by decide +kernel
theorem st_cs : Cond.eq (.static "java/lang/String" "COMPACT_STRINGS" "Z") (.int 1) ∈ flatC (Jvm.Cond.and given_1 narrow_1) := by decide +kernel
theorem st_si : Cond.isRef (.static "jdk/internal/util/Preconditions" "SIOOBE_FORMATTER" "Ljava/util/function/BiFunction;") ∈ flatC (Jvm.Cond.and given_1 narrow_1) := by decide +kernel
theorem st_q1 : Cond.eq (Term.string "MeetingSets$Tape" 75) (Term.string "MeetingSets$Teller" 45) ∈ flatC (Jvm.Cond.and given_1 narrow_1) := by decide +kernel
theorem st_q2 : Cond.eq (Term.string "MeetingSets$Tape" 31) (Term.string "MeetingSetsModel" 172) ∈ flatC (Jvm.Cond.and given_1 narrow_1) := by decide +kernel
theorem st_q3 : Cond.eq (Term.string "MeetingSets$Tape" 75) (Term.string "MeetingSetsModel" 159) ∈ flatC (Jvm.Cond.and given_1 narrow_1) := by decide +kernel
theorem st_q4 : Cond.eq (Term.string "MeetingSets$Teller" 19) (Term.string "MeetingSetsModel" 354) ∈ flatC (Jvm.Cond.and given_1 narrow_1) := by decide +kernel
theorem eq_fwd {args : Array Value} {s : State} {a b : Term} {x : Nat} (h : (Cond.eq a b).before args s = true) (ha : a.eval args s none [] s = some (.ref x)) : b.eval args s none [] s = some (.ref x) := by
  simp only [Cond.before, Cond.holds, Cond.value, ha] at h
  cases hb : b.eval args s none [] s with
  | none => simp [hb] at h
  | some v => cases v <;> simp_all
theorem st_r0 : Cond.stringRef "MeetingSets$Tape" 31 "family" ∈ lw_tbl := List.mem_of_getElem? (i := 360) (by decide +kernel)
theorem st_r1 : Cond.stringRef "MeetingSets$Tape" 75 "none" ∈ lw_tbl := List.mem_of_getElem? (i := 443) (by decide +kernel)
theorem st_r2 : Cond.stringRef "MeetingSets$Teller" 19 "family " ∈ lw_tbl := List.mem_of_getElem? (i := 1058) (by decide +kernel)
theorem st_r3 : Cond.stringRef "MeetingSets$Teller" 45 "none" ∈ lw_tbl := List.mem_of_getElem? (i := 1075) (by decide +kernel)
theorem st_r4 : Cond.stringRef "MeetingSetsModel" 172 "family" ∈ lw_tbl := List.mem_of_getElem? (i := 1288) (by decide +kernel)
theorem st_r5 : Cond.stringRef "MeetingSetsModel" 159 "none" ∈ lw_tbl := List.mem_of_getElem? (i := 1316) (by decide +kernel)
theorem st_r6 : Cond.stringRef "MeetingSetsModel" 354 "family " ∈ lw_tbl := List.mem_of_getElem? (i := 1725) (by decide +kernel)
theorem st_Llo : Cond.laysStatic "MeetingSets$Family" "LOW_WITH" "[J" ∈ lw_tbl := List.mem_of_getElem? (i := 543) (by decide +kernel)
theorem st_Ilo : Cond.initialized "MeetingSets$Family" ∈ lw_tbl := List.mem_of_getElem? (i := 96) (by decide +kernel)
theorem st_Lhi : Cond.laysStatic "MeetingSets$Family" "HIGH_WITH" "[J" ∈ lw_tbl := List.mem_of_getElem? (i := 545) (by decide +kernel)
theorem st_Ihi : Cond.initialized "MeetingSets$Family" ∈ lw_tbl := List.mem_of_getElem? (i := 96) (by decide +kernel)
theorem st_Lfa : Cond.laysStatic "MeetingSets$Rounds" "FACTORIALS" "[I" ∈ lw_tbl := List.mem_of_getElem? (i := 932) (by decide +kernel)
theorem st_Ifa : Cond.initialized "MeetingSets$Rounds" ∈ lw_tbl := List.mem_of_getElem? (i := 111) (by decide +kernel)
theorem st_Lcs : Cond.laysStatic "java/lang/String" "COMPACT_STRINGS" "Z" ∈ lw_tbl := List.mem_of_getElem? (i := 374) (by decide +kernel)
theorem st_Ics : Cond.initialized "java/lang/String" ∈ lw_tbl := List.mem_of_getElem? (i := 103) (by decide +kernel)
theorem st_Lsi : Cond.laysStatic "jdk/internal/util/Preconditions" "SIOOBE_FORMATTER" "Ljava/util/function/BiFunction;" ∈ lw_tbl := List.mem_of_getElem? (i := 390) (by decide +kernel)
theorem st_Isi : Cond.initialized "jdk/internal/util/Preconditions" ∈ lw_tbl := List.mem_of_getElem? (i := 105) (by decide +kernel)
theorem st_n0w : Cond.methodLinkNest RX8 15 yX0_init RX8 ∈ lw_tbl := List.mem_of_getElem? (i := 123) (by decide +kernel)
theorem st_n1w : Cond.methodLinkNest RX8 32 yX6_init RX8 ∈ lw_tbl := List.mem_of_getElem? (i := 148) (by decide +kernel)
theorem st_n2w : Cond.methodLinkNest RX8 39 yX7_init RX8 ∈ lw_tbl := List.mem_of_getElem? (i := 181) (by decide +kernel)
theorem st_n3w : Cond.methodLinkNest RX1 19 yX0_init RX8 ∈ lw_tbl := List.mem_of_getElem? (i := 200) (by decide +kernel)
theorem st_n4w : Cond.methodLinkNest RX8 53 yX5_init RX8 ∈ lw_tbl := List.mem_of_getElem? (i := 217) (by decide +kernel)
theorem st_n5w : Cond.methodLinkNest RX5 11 yX0_init RX8 ∈ lw_tbl := List.mem_of_getElem? (i := 222) (by decide +kernel)
theorem st_n6w : Cond.methodLinkNest RX3 31 yX0_init RX8 ∈ lw_tbl := List.mem_of_getElem? (i := 268) (by decide +kernel)
theorem st_n7w : Cond.methodLinkNest RX6 51 yX8_isPointCount RX8 ∈ lw_tbl := List.mem_of_getElem? (i := 424) (by decide +kernel)
set_option maxHeartbeats 16000000 in
set_option maxRecDepth 20000 in
theorem law_Gl {p : Program} {s : State} {m : MethodId} {meth : Method} {c : Code} {b L : Nat} {xs : Nat → Int32} (C0 : lw_At p s m meth c b L xs) : ∃ G : Nat → Nat, Gl G (fun q => s.heap.size ≤ q) s s.heap := by
  obtain ⟨hx, hb, hr, hml, hown, hts, hX, hbl, hlocks, hgv⟩ := id C0
  have hs := flat_of_before _ hgv
  have hA : ∀ a : Nat, a < s.heap.size → ¬ (fun q : Nat => s.heap.size ≤ q) a := fun a h => Nat.not_le.mpr h
  obtain ⟨t0, e0, T0⟩ := va_Tof (A := fun q : Nat => s.heap.size ≤ q) (N := 7) (f := fun j => .long (loW j)) (by decide) (hs _ st_loa) (va_eqt (hs _ st_lol)) (fun j hj => va_eqtl (hs _ (st_loe j hj))) hA
  obtain ⟨t1, e1, T1⟩ := va_Tof (A := fun q : Nat => s.heap.size ≤ q) (N := 7) (f := fun j => .long (hiW j)) (by decide) (hs _ st_hia) (va_eqt (hs _ st_hil)) (fun j hj => va_eqtl (hs _ (st_hie j hj))) hA
  obtain ⟨t2, e2, T2⟩ := va_Tof (A := fun q : Nat => s.heap.size ≤ q) (N := 8) (f := fun j => .int (facW j)) (by decide) (hs _ st_faa) (va_eqt (hs _ st_fal)) (fun j hj => va_eqt (hs _ (st_fae j hj))) hA
  obtain ⟨adK, adV, hS, hE⟩ := vk_Sof (A := fun q : Nat => s.heap.size ≤ q) (N := 3) (tm := stT) (len := ([6, 4, 7] : List Nat)) (byt := ([[102, 97, 109, 105, 108, 121], [110, 111, 110, 101], [102, 97, 109, 105, 108, 121, 32]] : List (List Int32))) st_n3 (fun i hi => hs _ (st_ex i hi)) (fun i hi => hs _ (st_co i hi)) (fun i hi => hs _ (st_ar i hi)) (fun i hi => hs _ (st_le i hi)) (fun i hi j hj => hs _ (st_el i hi j hj)) (fun i j hi hj hij => (st_ne i hi j hj hij).elim (fun h => Or.inl (hs _ h)) (fun h => Or.inr (hs _ h))) hA
  obtain ⟨G, g0, g1, g2, gK, gV⟩ : ∃ G : Nat → Nat, G 0 = t0 ∧ G 1 = t1 ∧ G 2 = t2 ∧ (∀ i, i < 3 → G (10 + i) = adK i) ∧ (∀ i, i < 3 → G (20 + i) = adV i) := by
    refine ⟨fun i => if i = 0 then t0 else if i = 1 then t1 else if i = 2 then t2 else if i < 20 then adK (i - 10) else adV (i - 20), rfl, rfl, rfl, fun i hi => ?_, fun i hi => ?_⟩
    · show (if 10 + i = 0 then t0 else if 10 + i = 1 then t1 else if 10 + i = 2 then t2 else if 10 + i < 20 then adK (10 + i - 10) else adV (10 + i - 20)) = adK i
      rw [if_neg (by omega), if_neg (by omega), if_neg (by omega), if_pos (by omega), show 10 + i - 10 = i by omega]
    · show (if 20 + i = 0 then t0 else if 20 + i = 1 then t1 else if 20 + i = 2 then t2 else if 20 + i < 20 then adK (20 + i - 10) else adV (20 + i - 20)) = adV i
      rw [if_neg (by omega), if_neg (by omega), if_neg (by omega), if_neg (by omega), show 20 + i - 20 = i by omega]
  refine ⟨G, ⟨?_, ?_⟩, ⟨?_, ?_⟩, ⟨?_, ?_⟩, ⟨?_, ?_⟩, fun i hi => ?_, fun q hq => ?_, fun q hq => ?_⟩
  · rw [g0]; exact va_Zref (hts _ st_Llo) (hts _ st_Ilo) e0 hA
  · rw [g0]; exact T0
  · rw [g1]; exact va_Zref (hts _ st_Lhi) (hts _ st_Ihi) e1 hA
  · rw [g1]; exact T1
  · rw [g2]; exact va_Zref (hts _ st_Lfa) (hts _ st_Ifa) e2 hA
  · rw [g2]; exact T2
  · exact va_Zof (hts _ st_Lcs) (hts _ st_Ics) (va_eqi (hs _ st_cs)) hA
  · exact va_Zqof (hts _ st_Lsi) (hts _ st_Isi) (hs _ st_si) hA
  · rw [gK i hi, gV i hi]; exact hS.1 i hi
  · have E0 : (Term.string "MeetingSets$Tape" 31).eval #[Value.ref b] s none [] s = some (.ref (G (10 + 0))) := by rw [gK 0 (by decide)]; exact hE 0 (by decide)
    have E1 : (Term.string "MeetingSets$Tape" 75).eval #[Value.ref b] s none [] s = some (.ref (G (10 + 1))) := by rw [gK 1 (by decide)]; exact hE 1 (by decide)
    have E2 : (Term.string "MeetingSets$Teller" 19).eval #[Value.ref b] s none [] s = some (.ref (G (10 + 2))) := by rw [gK 2 (by decide)]; exact hE 2 (by decide)
    simp only [strW, List.mem_cons, List.not_mem_nil, or_false] at hq
    rcases hq with rfl | rfl | rfl | rfl | rfl | rfl | rfl
    · exact vk_R.of (hts _ st_r0) E0
    · exact vk_R.of (hts _ st_r1) E1
    · exact vk_R.of (hts _ st_r2) E2
    · exact vk_R.of (hts _ st_r3) (eq_fwd (hs _ st_q1) E1)
    · exact vk_R.of (hts _ st_r4) (eq_fwd (hs _ st_q2) E0)
    · exact vk_R.of (hts _ st_r5) (eq_fwd (hs _ st_q3) E1)
    · exact vk_R.of (hts _ st_r6) (eq_fwd (hs _ st_q4) E2)
  · simp only [nestW, List.mem_cons, List.not_mem_nil, or_false] at hq
    rcases hq with rfl | rfl | rfl | rfl | rfl | rfl | rfl | rfl
    · exact va_Nw.of rfl (hts _ st_n0w)
    · exact va_Nw.of rfl (hts _ st_n1w)
    · exact va_Nw.of rfl (hts _ st_n2w)
    · exact va_Nw.of rfl (hts _ st_n3w)
    · exact va_Nw.of rfl (hts _ st_n4w)
    · exact va_Nw.of rfl (hts _ st_n5w)
    · exact va_Nw.of rfl (hts _ st_n6w)
    · exact va_Nw.of rfl (hts _ st_n7w)
set_option maxHeartbeats 8000000 in
theorem law_env {p : Program} (l : Launch) {s : State} {m : MethodId} {meth : Method} {c : Code} {b L : Nat} {xs : Nat → Int32} (C0 : lw_At p s m meth c b L xs) : ∃ (D : va_G) (cy : Nat → ClassId) (G : Nat → Nat), Cx p l room_1 s m #[Value.ref b] meth c code 4 RL ret D cy G (fun q => s.heap.size ≤ q) ∧ va_AO "MeetingSets$Family" s := by
  obtain ⟨G, hG⟩ := law_Gl C0
  obtain ⟨hx, hb, hr, hml, hown, hts, hX, hbl, hlocks, hgv⟩ := id C0
  have hB : ∀ w ∈ TB, w.before #[Value.ref b] s = true := fun w h => hts w (List.mem_filter.mp h).1
  obtain ⟨c0, i0, k0⟩ := u_known (C := RX0) (T := TX0) (N := 3) (n := 3) hB inTX0 (hB _ wIn_X0)
  obtain ⟨c1, i1, k1⟩ := u_known (C := RX1) (T := TX1) (N := 4) (n := 4) hB inTX1 (hB _ wIn_X1)
  obtain ⟨c2, i2, k2⟩ := u_known (C := RX3) (T := TX3) (N := 7) (n := 7) hB inTX3 (hB _ wIn_X3)
  obtain ⟨c3, i3, k3⟩ := u_known (C := RX5) (T := TX5) (N := 11) (n := 11) hB inTX5 (hB _ wIn_X5)
  obtain ⟨c4, i4, k4⟩ := u_known (C := RX6) (T := TX6) (N := 7) (n := 7) hB inTX6 (hB _ wIn_X6)
  obtain ⟨c5, i5, k5⟩ := u_known (C := RX7) (T := TX7) (N := 2) (n := 2) hB inTX7 (hB _ wIn_X7)
  obtain ⟨c6, i6, k6⟩ := u_known (C := RX8) (T := TX8) (N := 10) (n := 10) hB inTX8 (hB _ wIn_X8)
  obtain ⟨c7, i7, k7⟩ := u_known (C := RX9) (T := TX9) (N := 30) (n := 30) hB inTX9 (hB _ wIn_X9)
  have hAO : va_AO "MeetingSets$Family" s := va_AO.of (hts (.arrayOver (.object "MeetingSets$Family")) (List.mem_of_getElem? (i := 121) (by decide +kernel)))
  obtain ⟨aB, kB, pB, b1, b2, b3⟩ := Cond.arrayClass_spec (hB _ wA_byte)
  obtain ⟨aI, kI, pI, i1', i2', i3'⟩ := Cond.arrayClass_spec (hB _ wA_int)
  obtain ⟨aJ, kJ, pJ, j1, j2, j3⟩ := Cond.arrayClass_spec (hB _ wA_long)
  obtain ⟨aZ, kZ, pZ, z1, z2, z3⟩ := Cond.arrayClass_spec (hB _ wA_boolean)
  obtain ⟨pF, aF, kF, f1, f2, f3, f4, f5⟩ := Cond.arrayOver_spec hAO
  refine ⟨(fun k => [c0, c1, c2, c3, c4, c5, c6, c7].getD k c0, fun k => [i0, i1, i2, i3, i4, i5, i6, i7].getD k i0), fun k => [aB, aI, aJ, aZ, aF].getD k aB, G, ⟨hx, hb, hml, hown, hB, ⟨?_, ?_⟩, hG, fun _ h => h, hr, hlocks⟩, hAO⟩
  · intro k q hq
    match k, hq with
    | 0, hq => cases hq; exact k0
    | 1, hq => cases hq; exact k1
    | 2, hq => cases hq; exact k2
    | 3, hq => cases hq; exact k3
    | 4, hq => cases hq; exact k4
    | 5, hq => cases hq; exact k5
    | 6, hq => cases hq; exact k6
    | 7, hq => cases hq; exact k7
    | k + 8, hq => simp [vwCl] at hq
  · intro k q hq
    match k, hq with
    | 0, hq => cases hq; exact ⟨fun n z => ⟨(fun k h => by cases h), kB, b2, pB, b3⟩, b1⟩
    | 1, hq => cases hq; exact ⟨fun n z => ⟨(fun k h => by cases h), kI, i2', pI, i3'⟩, i1'⟩
    | 2, hq => cases hq; exact ⟨fun n z => ⟨(fun k h => by cases h), kJ, j2, pJ, j3⟩, j1⟩
    | 3, hq => cases hq; exact ⟨fun n z => ⟨(fun k h => by cases h), kZ, z2, pZ, z3⟩, z1⟩
    | 4, hq => cases hq; exact ⟨fun n z => ⟨(fun k h => by cases h), kF, f3, pF, f4⟩, kF, pF, f3, f4, f1, f5⟩
    | k + 5, hq => simp [tysOf] at hq
