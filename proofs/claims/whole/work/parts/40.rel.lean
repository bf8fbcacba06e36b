/-! the mathematics: what class and reference hold, and how they agree -/
/-- bit s of a word -/
def xb (x : Int64) (s : Nat) : Bool := x.toBitVec.getLsbD s
/-- set s is in a family of two words -/
def mbs (lo hi : Int64) (s : Nat) : Bool := if s < 64 then xb lo s else xb hi (s - 64)
def b01 (b : Bool) : Int32 := if b then 1 else 0
/-- a family: how many points, which sets -/
abbrev FV : Type := Nat × (Nat → Bool)
def okF (v : FV) : Prop := v.1 ≤ 7 ∧ ∀ s, v.2 s = true → s < 2 ^ v.1 ∧ 0 < v.1
def FamC (cP : Nat → Int32) (cLo cHi : Nat → Int64) (i : Nat) (v : FV) : Prop := okF v ∧ cP i = nI v.1 ∧ ∀ s, mbs (cLo i) (cHi i) s = v.2 s
def FamM (f : Nat → Int32) (base : Nat) (v : FV) : Prop := f base = nI v.1 ∧ ∀ s, s < 128 → f (base + 1 + s) = b01 (v.2 s)
def HistR (cP : Nat → Int32) (cLo cHi : Nat → Int64) (cso : Nat → Int32) (mkep : Nat → Int32) (z a : Nat) (Sn : Nat → Nat → FV) (sl : Nat → Nat) : Prop :=
  ∀ p, p < z → sl p < 3 ∧ cso ((a + 10 - (z - p)) % 10) = nI (sl p) ∧ FamC cP cLo cHi (6 + (a + 10 - (z - p)) % 10) (Sn p (sl p)) ∧ (∀ j, j < 3 → j ≠ sl p → Sn p j = Sn (p + 1) j) ∧ ∀ j, j < 3 → FamM mkep (387 * p + 129 * j) (Sn p j)
def TapeR (ctb : Nat → Int32) (ctl : Int32) (mtpd : Int32) (mtap : Nat → Int32) : Prop := ∃ t, t ≤ 800 ∧ ctl = nI t ∧ mtpd = nI t ∧ ∀ i, i < t → ctb i = mtap i ∧ ∃ w : Int8, ctb i = w.toInt32
def OutR (cob : Nat → Int32) (col mtom : Int32) (mtol : Nat → Int32) : Prop := ∃ u, u ≤ 640 ∧ col = nI u ∧ mtom = nI u ∧ ∀ i, i < u → cob i = mtol i
def SlotR (cP : Nat → Int32) (cLo cHi : Nat → Int64) (mnow : Nat → Int32) (S : Nat → FV) : Prop := ∀ j, j < 3 → FamC cP cLo cHi j (S j) ∧ FamM mnow (129 * j) (S j)
def Rel (cP : Nat → Int32) (cLo cHi : Nat → Int64) (ctb : Nat → Int32) (ctl ctf ctp : Int32) (cob : Nat → Int32) (col : Int32) (cso : Nat → Int32) (cha chs : Int32) (mact mtpd mfk mfpl mtom : Int32) (mnow mkep mtap mtol : Nat → Int32) : Prop :=
  (∃ (z a : Nat) (Sn : Nat → Nat → FV) (sl : Nat → Nat), SlotR cP cLo cHi mnow (Sn z) ∧ z ≤ 10 ∧ chs = nI z ∧ mact = nI z ∧ a < 10 ∧ cha = nI a ∧ HistR cP cLo cHi cso mkep z a Sn sl) ∧
  TapeR ctb ctl mtpd mtap ∧ (ctf = mfk ∧ ctp = mfpl) ∧ OutR cob col mtom mtol
/-- the cells of families that calls may use up -/
def Keeps (cP oP : Nat → Int32) (cLo oLo cHi oHi : Nat → Int64) : Prop := ∀ j, (j < 3 ∨ (6 ≤ j ∧ j < 16)) → oP j = cP j ∧ oLo j = cLo j ∧ oHi j = cHi j
theorem FamC.keep {cP oP : Nat → Int32} {cLo oLo cHi oHi : Nat → Int64} {i : Nat} {v : FV} (h : FamC cP cLo cHi i v) (k : oP i = cP i ∧ oLo i = cLo i ∧ oHi i = cHi i) : FamC oP oLo oHi i v := ⟨h.1, by rw [k.1]; exact h.2.1, fun s => by rw [k.2.1, k.2.2]; exact h.2.2 s⟩
theorem Rel.keep {cP oP : Nat → Int32} {cLo oLo cHi oHi : Nat → Int64} {ctb : Nat → Int32} {ctl ctf ctp : Int32} {cob : Nat → Int32} {col : Int32} {cso : Nat → Int32} {cha chs mact mtpd mfk mfpl mtom : Int32} {mnow mkep mtap mtol : Nat → Int32} (h : Rel cP cLo cHi ctb ctl ctf ctp cob col cso cha chs mact mtpd mfk mfpl mtom mnow mkep mtap mtol) (k : Keeps cP oP cLo oLo cHi oHi) : Rel oP oLo oHi ctb ctl ctf ctp cob col cso cha chs mact mtpd mfk mfpl mtom mnow mkep mtap mtol := by
  obtain ⟨⟨z, a, Sn, sl, h1, h2, h3, h4, h5, h6, h7⟩, h8⟩ := h
  refine ⟨⟨z, a, Sn, sl, fun j hj => ⟨(h1 j hj).1.keep (k j (Or.inl hj)), (h1 j hj).2⟩, h2, h3, h4, h5, h6, fun p hp => ?_⟩, h8⟩
  obtain ⟨q1, q2, q3, q4, q5⟩ := h7 p hp
  exact ⟨q1, q2, q3.keep (k _ (Or.inr ⟨by omega, by omega⟩)), q4, q5⟩
theorem Keeps.rfl' {cP : Nat → Int32} {cLo cHi : Nat → Int64} : Keeps cP cP cLo cLo cHi cHi := fun _ _ => ⟨rfl, rfl, rfl⟩
theorem xb_zero (s : Nat) : xb 0 s = false := by simp [xb]
theorem mbs_zero (s : Nat) : mbs 0 0 s = false := by unfold mbs; split <;> exact xb_zero _
theorem okF_none (n : Nat) (h : n ≤ 7) : okF (n, fun _ => false) := ⟨h, fun s q => by cases q⟩
theorem Rel_init : Rel (fun _ => 0) (fun _ => 0) (fun _ => 0) (fun _ => 0) 0 0 (-1) (fun _ => 0) 0 (fun _ => 0) 0 0 0 0 0 (-1) 0 (fun _ => 0) (fun _ => 0) (fun _ => 0) (fun _ => 0) := by
  refine ⟨⟨0, 0, fun _ _ => (0, fun _ => false), fun _ => 0, fun j hj => ⟨⟨okF_none 0 (by omega), rfl, fun s => mbs_zero s⟩, rfl, fun s hs => rfl⟩, by omega, rfl, rfl, by omega, rfl, fun p hp => by omega⟩, ⟨0, by omega, rfl, rfl, fun i hi => by omega⟩, ⟨rfl, rfl⟩, 0, by omega, rfl, rfl, fun i hi => by omega⟩
