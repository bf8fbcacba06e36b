/-! sets that come into what is fresh -/
def mkG (c : Nat → Bool) (tg : Nat → Nat) : Nat → Nat → Bool
  | 0 => fun _ => false
  | k + 1 => fun s => mkG c tg k s || (c k && s == tg k)
theorem mkG_iff {c : Nat → Bool} {tg : Nat → Nat} {N s : Nat} : mkG c tg N s = true ↔ ∃ t, t < N ∧ c t = true ∧ tg t = s := by
  induction N with
  | zero => exact ⟨(fun h => by cases h), (fun ⟨t, h, _⟩ => by omega)⟩
  | succ N ih =>
    show (mkG c tg N s || (c N && s == tg N)) = true ↔ _
    rw [Bool.or_eq_true, Bool.and_eq_true, beq_iff_eq, ih]
    constructor
    · rintro (⟨t, h1, h2, h3⟩ | ⟨h1, h2⟩)
      · exact ⟨t, by omega, h2, h3⟩
      · exact ⟨N, by omega, h1, h2.symm⟩
    · rintro ⟨t, h1, h2, h3⟩
      by_cases e : t = N
      · subst e; exact Or.inr ⟨h2, h3.symm⟩
      · exact Or.inl ⟨t, by omega, h2, h3⟩
theorem lfp2_fresh {β : Type} {F : (Int32 → (Nat → Int32) → Option β) → Int32 → (Nat → Int32) → Option β} (G : Nat → Nat → Bool) (N : Nat) (Y : (Nat → Int32) → Option β) {m0 : Nat → Int32} (h0 : FR m0 (G 0)) (hs : ∀ k, k < N → ∀ m, FR m (G k) → ∃ m', FR m' (G (k + 1)) ∧ ∀ r, F r (nI k) m = r (nI (k + 1)) m') (he : ∀ m r, F r (nI N) m = Y m) : ∃ m, FR m (G N) ∧ lfp2 F 0 m0 = Y m := by
  have h : ∀ j, j ≤ N → ∃ m, FR m (G j) ∧ lfp2 F 0 m0 = lfp2 F (nI j) m := by
    intro j
    induction j with
    | zero => intro _; exact ⟨m0, h0, rfl⟩
    | succ j ih =>
      intro hj
      obtain ⟨m, h1, h2⟩ := ih (by omega)
      obtain ⟨m', h3, h4⟩ := hs j (by omega) m h1
      exact ⟨m', h3, h2.trans (lfp2_step h4)⟩
  obtain ⟨m, h1, h2⟩ := h N (Nat.le_refl N)
  exact ⟨m, h1, h2.trans (lfp2_done (he m))⟩
theorem lfp2_mark {β : Type} {F : (Int32 → (Nat → Int32) → Option β) → Int32 → (Nat → Int32) → Option β} (c : Nat → Bool) (tg : Nat → Nat) (N : Nat) (Y : (Nat → Int32) → Option β) {m0 : Nat → Int32} (h0 : FR m0 (fun _ => false)) (hs : ∀ k, k < N → ∀ m r, F r (nI k) m = if c k = true then r (nI (k + 1)) (upd m (tg k) (vp_nar .boolean 1)) else r (nI (k + 1)) m) (he : ∀ m r, F r (nI N) m = Y m) : ∃ m, FR m (mkG c tg N) ∧ lfp2 F 0 m0 = Y m := by
  refine lfp2_fresh (mkG c tg) N Y h0 (fun k hk m hm => ?_) he
  cases hc : c k with
  | true => exact ⟨_, (hm.set1 (tg k)).congr (fun s _ => by show _ = (mkG c tg k s || (c k && s == tg k)); rw [hc, Bool.true_and]), fun r => by rw [hs k hk, hc, if_pos rfl]⟩
  | false => exact ⟨m, hm.congr (fun s _ => by show _ = (mkG c tg k s || (c k && s == tg k)); rw [hc, Bool.false_and, Bool.or_false]), fun r => by rw [hs k hk, hc, if_neg (by decide)]⟩
theorem lfp2_cntB {β : Type} {F : (Int32 → Int32 → Option β) → Int32 → Int32 → Option β} (c : Nat → Bool) (N a0 : Nat) (y : Nat → Option β) (hs : ∀ k, k < N → ∀ a, a ≤ a0 + k → ∀ r, F r (nI a) (nI k) = r (nI (a + if c k = true then 1 else 0)) (nI (k + 1))) (he : ∀ a r, F r (nI a) (nI N) = y a) : lfp2 F (nI a0) 0 = y (a0 + cnt c N) := by
  exact lfp2_for (F := F) (y := y (a0 + cnt c N)) N (fun k => nI (a0 + cnt c k)) (fun k => nI k) (fun k hk r => by
    have := cnt_le c k
    rw [hs k hk _ (by omega), Nat.add_assoc]; rfl) (fun r => he _ r)
theorem fill_fact : ∀ n, n < 6 → ∀ s, s < 64 → xb (((1 : Int64) <<< (((1 : Int32) <<< (nI n &&& 31)).toInt64 &&& 63)) - (1 : Int64)) s = decide (s < 2 ^ n) := by decide +kernel
theorem fill_V {cP : Nat → Int32} {V : Nat → Nat → Bool} {i n : Nat} (hn : n ≤ 7) : X0_fill cP (LO V) (HI V) i (nI n) = some (va_up cP i (nI n), LO (va_up V i (fun s => decide (s < 2 ^ n))), HI (va_up V i (fun s => decide (s < 2 ^ n)))) := by
  have key : ∀ x y : Int64, (∀ s, s < 64 → xb x s = decide (s < 2 ^ n)) → (∀ s, s < 64 → xb y s = decide (64 + s < 2 ^ n)) → (some (va_up cP i (nI n), va_up (LO V) i x, va_up (HI V) i y) : Option ((Nat → Int32) × (Nat → Int64) × (Nat → Int64))) = some (va_up cP i (nI n), LO (va_up V i (fun s => decide (s < 2 ^ n))), HI (va_up V i (fun s => decide (s < 2 ^ n)))) := by
    intro x y h1 h2
    rw [lo_up (g := fun s => decide (s < 2 ^ n)) h1, hi_up (g := fun s => decide (s < 2 ^ n)) h2]
  unfold X0_fill
  by_cases h6 : 6 ≤ n
  · rw [if_pos (show (6 : Int32) ≤ nI n from nI_le (a := 6) h6 (by omega))]
    rcases (show n = 6 ∨ n = 7 by omega) with rfl | rfl
    · rw [if_pos (by decide)]
      exact key _ _ (fun s hs => by rw [xb_m1 hs]; simp; omega) (fun s hs => by rw [xb_zero]; simp)
    · rw [if_neg (by decide)]
      exact key _ _ (fun s hs => by rw [xb_m1 hs]; simp; omega) (fun s hs => by rw [xb_m1 hs]; simp; omega)
  · have hp : 2 ^ n ≤ 2 ^ 5 := Nat.pow_le_pow_right (by decide) (by omega)
    rw [if_neg (show ¬ (6 : Int32) ≤ nI n from nI_ge (b := 6) (by omega) (by decide)), if_pos (show nI n ≤ (6 : Int32) from nI_le (b := 6) (by omega) (by decide))]
    exact key _ _ (fun s hs => fill_fact n (by omega) s hs) (fun s hs => by rw [xb_zero, decide_eq_false (by omega)])
/-- meets all of f -/
def mAll (f : Nat → Bool) (c : Nat) : Bool := allB (fun t => !f t || (t &&& c != 0)) 128
def mA (n : Nat) (f : Nat → Bool) (c : Nat) : Bool := decide (c < 2 ^ n) && mAll f c
theorem mAll_iff {f : Nat → Bool} (hf : ∀ t, f t = true → t < 128) {c : Nat} : mAll f c = true ↔ ∀ t, f t = true → t &&& c ≠ 0 := by
  unfold mAll
  rw [allB_iff]
  constructor
  · intro h t ht
    have := h t (hf t ht)
    simpa [ht] using this
  · intro h t _
    cases ht : f t with
    | false => rfl
    | true => simpa using h t ht
theorem mA_iff {n : Nat} {f : Nat → Bool} (hf : ∀ t, f t = true → t < 128) {c : Nat} : mA n f c = true ↔ c < 2 ^ n ∧ ∀ t, f t = true → t &&& c ≠ 0 := by
  unfold mA
  rw [Bool.and_eq_true, decide_eq_true_eq, mAll_iff hf]
theorem cmp_bit {n c p : Nat} (hc : c < 2 ^ n) : (c ^^^ (2 ^ n - 1)).testBit p = (decide (p < n) && !c.testBit p) := by
  rw [Nat.testBit_xor, Nat.testBit_two_pow_sub_one]
  by_cases q : p < n
  · simp [q]
  · rw [Nat.testBit_lt_two_pow (Nat.lt_of_lt_of_le hc (Nat.pow_le_pow_right (by decide : 2 > 0) (by omega : n ≤ p)))]; simp [q]
theorem cmp_lt {n c : Nat} (hc : c < 2 ^ n) : c ^^^ (2 ^ n - 1) < 2 ^ n := xlt hc (by have := Nat.two_pow_pos n; omega)
theorem sub_cmp {n t c : Nat} (ht : t < 2 ^ n) (hc : c < 2 ^ n) : t &&& (c ^^^ (2 ^ n - 1)) = t ↔ t &&& c = 0 := by
  rw [sub7, and0_7]
  constructor
  · intro h p hp
    have := h p hp
    rw [cmp_bit hc] at this
    rw [Bool.and_eq_true] at this
    simpa using this.2
  · intro h p hp
    rw [cmp_bit hc, h p hp]
    have : p < n := by
      by_cases q : p < n
      · exact q
      · rw [Nat.testBit_lt_two_pow (Nat.lt_of_lt_of_le ht (Nat.pow_le_pow_right (by decide : 2 > 0) (by omega : n ≤ p)))] at hp; cases hp
    simp [this]
theorem up_ext' {cP : Nat → Int32} {V : Nat → Nat → Bool} {i : Nat} {g g' : Nat → Bool} (h : ∀ s, s < 128 → g s = g' s) : (some (cP, LO (va_up V i g), HI (va_up V i g)) : Option ((Nat → Int32) × (Nat → Int64) × (Nat → Int64))) = some (cP, LO (va_up V i g'), HI (va_up V i g')) := by
  rw [(up_ext h).1, (up_ext h).2]
theorem becomeAnswers_V {cP : Nat → Int32} {V : Nat → Nat → Bool} {i j n : Nat} (hij : j ≠ i) (hP : cP j = nI n) (hn : n ≤ 7) (hf : inN n (V j)) : X0_becomeAnswers cP (LO V) (HI V) i j = some (va_up cP i (nI n), LO (va_up V i (mA n (V j))), HI (va_up V i (mA n (V j)))) := by
  unfold X0_becomeAnswers
  rw [become_V, bd3_s, hP, closeUp_V (n := n) up_at hn, bd2_s, turnOver_V (n := n) up_at hn, bd2_s, up_ne hij, hP, fill_V hn, bd3_s]
  simp only [up_at, bx_uu]
  rw [lo_up (g := fun s => decide (s < 2 ^ n) && !toW n (upW n (V j)) s) (fun s hs => by rw [xb_and, xb_not _ hs, xb_LO hs, xb_LO hs, up_at, up_at]), hi_up (g := fun s => decide (s < 2 ^ n) && !toW n (upW n (V j)) s) (fun s hs => by rw [xb_and, xb_not _ hs, xb_HI hs, xb_HI hs, up_at, up_at])]
  simp only [bx_uu]
  refine up_ext' fun s hs => ?_
  by_cases q : s < 2 ^ n
  · apply Bool.eq_iff_iff.mpr
    rw [mA_iff (hf.to hn), Bool.and_eq_true, Bool.not_eq_true', toW_eq n hn s hs, decide_eq_true_eq]
    have hc := cmp_lt q
    constructor
    · rintro ⟨_, h⟩
      refine ⟨q, fun t ht h0 => ?_⟩
      have := (up_iff hn hf (l128 hn hc)).mpr ⟨hc, t, ht, (sub_cmp (hf t ht) q).mpr h0⟩
      rw [this] at h; cases h
    · rintro ⟨_, h⟩
      refine ⟨q, ?_⟩
      cases hu : upW n (V j) (s ^^^ (2 ^ n - 1)) with
      | false => rfl
      | true =>
        obtain ⟨_, t, ht, h0⟩ := (up_iff hn hf (l128 hn hc)).mp hu
        exact absurd ((sub_cmp (hf t ht) q).mp h0) (h t ht)
  · unfold mA; rw [decide_eq_false q, Bool.false_and, Bool.false_and]
theorem meetsAll_eq {mnow : Nat → Int32} {j n : Nat} {f : Nat → Bool} (hj : j < 3) (hM : FamM mnow (129 * j) (n, f)) {c : Nat} (hc : c < 128) : X9_meetsAll mnow (nI j) (nI c) = some (b01 (mAll f c)) := by
  unfold X9_meetsAll mAll
  have := lfp1_all (F := X9_meetsAll_h2 mnow (nI j) (nI c)) (fun t => !f t || (t &&& c != 0)) 0 128 (by omega) (y0 := some 0) (y1 := some 1) (fun k _ hk h r => by
    unfold X9_meetsAll_h2
    have hkc : k &&& c < 128 := and_128l hk
    rw [if_neg (inn128 hk), isIn9 hj hM hk, bd1_s, ib0, land_nI' k c, nI_1]
    cases hb : f k with
    | false => rfl
    | true =>
      rw [hb] at h
      rw [if_pos rfl, if_neg (nI_ne0 (by simp at h; omega) (by omega))]) (fun k _ hk h r => by
    unfold X9_meetsAll_h2
    rw [if_neg (inn128 hk), isIn9 hj hM hk, bd1_s, ib0, land_nI' k c]
    rw [Bool.or_eq_false_iff, Bool.not_eq_false'] at h
    have h2 : k &&& c = 0 := by simpa using h.2
    rw [h.1, if_pos rfl, h2, if_pos (show nI 0 = (0 : Int32) from rfl)]) (fun r => by
    unfold X9_meetsAll_h2
    rw [if_pos i128])
  rw [allF_0] at this
  refine this.trans ?_
  cases allB (fun t => !f t || (t &&& c != 0)) 128 <;> rfl
theorem okF_mk {n : Nat} {f : Nat → Bool} (hn : n ≤ 7) (h0 : 0 < n) (h : ∀ t, f t = true → t < 2 ^ n) : okF (n, f) := ⟨hn, fun t ht => ⟨h t ht, h0⟩⟩
theorem i32_nonneg {p : Int32} (h : p.toInt < 0) : ¬ (0 : Int32) ≤ p := fun q => by have := i32_le.mp q; have : (0 : Int32).toInt = 0 := rfl; omega
section SIM
variable {cP : Nat → Int32} {cLo : Nat → Int64} {cHi : Nat → Int64} {cpl : Nat → Int32} {ctb : Nat → Int32} {ctl : Int32} {ctf : Int32} {ctp : Int32} {ctk : Int32} {cts : Int32} {cth : Int32} {cob : Nat → Int32} {col : Int32} {cso : Nat → Int32} {cha : Int32} {chs : Int32} {cbe : Int32} {ctr : Int32} {cgl : Nat → Int64} {cgh : Nat → Int64} {cll : Nat → Int64} {clh : Nat → Int64} {cta : Nat → Int32} {cme : Nat → Int32} {cps : Int32} {cwh : Nat → Int32} {cal : Nat → Int64} {cah : Nat → Int64} {mthr : Int32} {mfrp : Int32} {mact : Int32} {mtpd : Int32} {msiz : Int32} {matx : Int32} {mfrm : Int32} {mtok : Int32} {mval : Int32} {mfk : Int32} {mfpl : Int32} {mbem : Int32} {mtrs : Int32} {mtrl : Int32} {mrom : Int32} {mtom : Int32} {mnow : Nat → Int32} {mfre : Nat → Int32} {mkep : Nat → Int32} {mtap : Nat → Int32} {mlef : Nat → Int32} {mtak : Nat → Int32} {mbes : Nat → Int32} {mrow : Nat → Int32} {mint : Nat → Int32} {mrnd : Nat → Int32} {mplo : Nat → Int32} {mhio : Nat → Int32} {mtox : Nat → Int32} {mtol : Nat → Int32}
theorem sim_adds {p1 p2 : Int32} (hr : Rel cP cLo cHi ctb ctl ctf ctp cob col cso cha chs mact mtpd mfk mfpl mtom mnow mkep mtap mtol) : ∃ (r : Int32) (ocP : Nat → Int32) (ocLo : Nat → Int64) (ocHi : Nat → Int64) (ocso : Nat → Int32) (ocha : Int32) (ochs : Int32) (omfrp : Int32) (omact : Int32) (omnow : Nat → Int32) (omfre : Nat → Int32) (omkep : Nat → Int32), X8_adds cP cLo cHi cso cha chs p1 p2 = some (r, ocP, ocLo, ocHi, ocso, ocha, ochs) ∧ X9_adds mfrp mact mnow mfre mkep p1 p2 = some (r, omfrp, omact, omnow, omfre, omkep) ∧ Rel ocP ocLo ocHi ctb ctl ctf ctp cob col ocso ocha ochs omact mtpd mfk mfpl mtom omnow omkep mtap mtol := by
  obtain ⟨V, rfl, rfl, hV⟩ := toV cLo cHi
  unfold X8_adds X9_adds
  rcases famcase hV hr p1 with ⟨j, n, hj, rfl, h0, hn, hi, hP, hM, e1, e2⟩ | ⟨e1, e2⟩
  · rw [e1, bdo_s, isSet9 hj hM hn h0, bd1_s, X0_knows_eq hP hn, bd1_s]
    by_cases q : 0 ≤ p2.toInt ∧ p2.toInt < (2 : Int) ^ n
    · obtain ⟨s, hs1, hs2, rfl⟩ := set_of hn q
      rw [decide_eq_true q, bt0, bt0, holds_V hs2, bd1_s, isIn9 hj hM hs2, bd1_s]
      cases hb : V j s with
      | true => rw [bt0, bt0]; exact ⟨_, _, _, _, _, _, _, _, _, _, _, _, rfl, rfl, hr⟩
      | false =>
        rw [bf0, bf0, become_V, bd3_s, put_V hs2, bd2_s, X9_copiesFresh_eq (v := (n, V j)) hj hM, bd2_s, gin_nI hs2 (by decide), nI_clamp (by omega)]
        simp only [up_at, bx_uu]
        obtain ⟨oP, oLo, oHi, so, ha, hz, act, now, kep, c1, c2, c3⟩ := comes_sim hr (oP := va_up cP 3 (cP j)) (V := va_up V 3 (fun t => V j t || t == s)) (w := 3) (n := n) (f := fun t => V j t || t == s) (m := upd (fillA mfre 0 (fun s => b01 (V j s)) 128) s (vp_nar .boolean 1)) ((Keeps.rfl'.up 3 (by omega) _).upP 3 (by omega) _) (by omega) hj (by rw [up_at]; exact hP) (fun t _ => by rw [up_at]) ⟨hn, fun t ht => by
          rw [Bool.or_eq_true, beq_iff_eq] at ht
          rcases ht with ht | rfl
          · exact ⟨hi t ht, h0⟩
          · exact ⟨hs1, h0⟩⟩ ((FR_copy mfre (V j)).set1 s)
        rw [c1, bd7_s, c2, bd4_s]
        exact ⟨_, _, _, _, _, _, _, _, _, _, _, _, rfl, rfl, c3⟩
    · rw [decide_eq_false q, bf0, bf0]
      exact ⟨_, _, _, _, _, _, _, _, _, _, _, _, rfl, rfl, hr⟩
  · rw [e1, bdo_n, X9_isSet_out e2, bd1_s, i00]
    exact ⟨_, _, _, _, _, _, _, _, _, _, _, _, rfl, rfl, hr⟩
theorem sim_cuts {p1 p2 : Int32} (hr : Rel cP cLo cHi ctb ctl ctf ctp cob col cso cha chs mact mtpd mfk mfpl mtom mnow mkep mtap mtol) : ∃ (r : Int32) (ocP : Nat → Int32) (ocLo : Nat → Int64) (ocHi : Nat → Int64) (ocso : Nat → Int32) (ocha : Int32) (ochs : Int32) (omfrp : Int32) (omact : Int32) (omnow : Nat → Int32) (omfre : Nat → Int32) (omkep : Nat → Int32), X8_cuts cP cLo cHi cso cha chs p1 p2 = some (r, ocP, ocLo, ocHi, ocso, ocha, ochs) ∧ X9_cuts mfrp mact mnow mfre mkep p1 p2 = some (r, omfrp, omact, omnow, omfre, omkep) ∧ Rel ocP ocLo ocHi ctb ctl ctf ctp cob col ocso ocha ochs omact mtpd mfk mfpl mtom omnow omkep mtap mtol := by
  obtain ⟨V, rfl, rfl, hV⟩ := toV cLo cHi
  unfold X8_cuts X9_cuts
  rcases famcase hV hr p1 with ⟨j, n, hj, rfl, h0, hn, hi, hP, hM, e1, e2⟩ | ⟨e1, e2⟩
  · rw [e1, bdo_s, isSet9 hj hM hn h0, bd1_s, X0_knows_eq hP hn, bd1_s]
    by_cases q : 0 ≤ p2.toInt ∧ p2.toInt < (2 : Int) ^ n
    · obtain ⟨s, hs1, hs2, rfl⟩ := set_of hn q
      rw [decide_eq_true q, bt0, bt0, holds_V hs2, bd1_s, isIn9 hj hM hs2, bd1_s]
      cases hb : V j s with
      | false => rw [bf0, bf0]; exact ⟨_, _, _, _, _, _, _, _, _, _, _, _, rfl, rfl, hr⟩
      | true =>
        rw [bt0, bt0, become_V, bd3_s, remove_V hs2, bd2_s, X9_copiesFresh_eq (v := (n, V j)) hj hM, bd2_s, gin_nI hs2 (by decide), nI_clamp (by omega), vnz0]
        simp only [up_at, bx_uu]
        obtain ⟨oP, oLo, oHi, so, ha, hz, act, now, kep, c1, c2, c3⟩ := comes_sim hr (oP := va_up cP 3 (cP j)) (V := va_up V 3 (fun t => V j t && !(t == s))) (w := 3) (n := n) (f := fun t => V j t && !(t == s)) (m := upd (fillA mfre 0 (fun s => b01 (V j s)) 128) s 0) ((Keeps.rfl'.up 3 (by omega) _).upP 3 (by omega) _) (by omega) hj (by rw [up_at]; exact hP) (fun t _ => by rw [up_at]) ⟨hn, fun t ht => by
          rw [Bool.and_eq_true] at ht
          exact ⟨hi t ht.1, h0⟩⟩ (((FR_copy mfre (V j)).set s false).congr (fun t _ => by
            by_cases e : t = s
            · rw [if_pos e, e]; simp
            · rw [if_neg e, show (t == s) = false from beq_eq_false_iff_ne.mpr e]; simp))
        rw [c1, bd7_s, c2, bd4_s]
        exact ⟨_, _, _, _, _, _, _, _, _, _, _, _, rfl, rfl, c3⟩
    · rw [decide_eq_false q, bf0, bf0]
      exact ⟨_, _, _, _, _, _, _, _, _, _, _, _, rfl, rfl, hr⟩
  · rw [e1, bdo_n, X9_isSet_out e2, bd1_s, i00]
    exact ⟨_, _, _, _, _, _, _, _, _, _, _, _, rfl, rfl, hr⟩
theorem sim_drops {p1 : Int32} (hr : Rel cP cLo cHi ctb ctl ctf ctp cob col cso cha chs mact mtpd mfk mfpl mtom mnow mkep mtap mtol) : ∃ (r : Int32) (ocP : Nat → Int32) (ocLo : Nat → Int64) (ocHi : Nat → Int64) (ocso : Nat → Int32) (ocha : Int32) (ochs : Int32) (omfrp : Int32) (omact : Int32) (omnow : Nat → Int32) (omfre : Nat → Int32) (omkep : Nat → Int32), X8_drops cP cLo cHi cso cha chs p1 = some (r, ocP, ocLo, ocHi, ocso, ocha, ochs) ∧ X9_drops mfrp mact mnow mfre mkep p1 = some (r, omfrp, omact, omnow, omfre, omkep) ∧ Rel ocP ocLo ocHi ctb ctl ctf ctp cob col ocso ocha ochs omact mtpd mfk mfpl mtom omnow omkep mtap mtol := by
  obtain ⟨V, rfl, rfl, hV⟩ := toV cLo cHi
  unfold X8_drops X9_drops
  rcases slot_cases p1 with ⟨j, hj, rfl⟩ | hp
  · rw [X8_isSlot_in hj, bd1_s, i10, X9_isSlot_in hj, bd1_s, i10]
    rcases famcase hV hr (nI j) with ⟨j', n, hj', ej, h0, hn, hi, hP, hM, e1, e2⟩ | ⟨e1, e2⟩
    · rw [e1, bdo_s, e2, bd1_s, i10, clear_V, bd3_s, X9_clearsFresh_eq, bd2_s]
      obtain ⟨oP, oLo, oHi, so, ha, hz, act, now, kep, c1, c2, c3⟩ := comes_sim hr (oP := va_up cP 3 0) (V := va_up V 3 (fun _ => false)) (w := 3) (n := 0) (f := fun _ => false) (m := fillA mfre 0 (fun _ => 0) 128) ((Keeps.rfl'.up 3 (by omega) _).upP 3 (by omega) _) (by omega) hj up_at (fun t _ => by rw [up_at]) (okF_none 0 (by omega)) (FR_clear mfre)
      have c2' : X9_comes 0 mact mnow (fillA mfre 0 (fun _ => 0) 128) mkep (nI j) = _ := c2
      rw [c1, bd7_s, c2', bd4_s]
      exact ⟨_, _, _, _, _, _, _, _, _, _, _, _, rfl, rfl, c3⟩
    · rw [e1, bdo_n, e2, bd1_s, i00]
      exact ⟨_, _, _, _, _, _, _, _, _, _, _, _, rfl, rfl, hr⟩
  · rw [X8_isSlot_out hp, bd1_s, i00, X9_isSlot_out hp, bd1_s, i00]
    exact ⟨_, _, _, _, _, _, _, _, _, _, _, _, rfl, rfl, hr⟩
theorem sim_trace {p1 p2 p3 : Int32} (hr : Rel cP cLo cHi ctb ctl ctf ctp cob col cso cha chs mact mtpd mfk mfpl mtom mnow mkep mtap mtol) : ∃ (r : Int32) (ocP : Nat → Int32) (ocLo : Nat → Int64) (ocHi : Nat → Int64) (ocso : Nat → Int32) (ocha : Int32) (ochs : Int32) (omfrp : Int32) (omact : Int32) (omnow : Nat → Int32) (omfre : Nat → Int32) (omkep : Nat → Int32), X8_trace cP cLo cHi cso cha chs p1 p2 p3 = some (r, ocP, ocLo, ocHi, ocso, ocha, ochs) ∧ X9_trace mfrp mact mnow mfre mkep p1 p2 p3 = some (r, omfrp, omact, omnow, omfre, omkep) ∧ Rel ocP ocLo ocHi ctb ctl ctf ctp cob col ocso ocha ochs omact mtpd mfk mfpl mtom omnow omkep mtap mtol := by
  obtain ⟨V, rfl, rfl, hV⟩ := toV cLo cHi
  unfold X8_trace X9_trace
  rcases famcase hV hr p1 with ⟨j, n, hj, rfl, h0, hn, hi, hP, hM, e1, e2⟩ | ⟨e1, e2⟩
  · rw [e1, bdo_s, isSet9 hj hM hn h0, bd1_s, X0_knows_eq hP hn, bd1_s]
    by_cases q : 0 ≤ p2.toInt ∧ p2.toInt < (2 : Int) ^ n
    · obtain ⟨m, hm1, hm2, rfl⟩ := set_of hn q
      rw [decide_eq_true q, bt0, bt0]
      rcases slot_cases p3 with ⟨j', hj', rfl⟩ | hp
      · rw [X8_isSlot_in hj', bd1_s, i10, X9_isSlot_in hj', bd1_s, i10, become_V, bd3_s, cutTo_V (n := n) (by rw [up_at]; exact hP) hn hm2, bd2_s, points9 hj hM, bd1_s, X9_clearsFresh_eq, bd2_s]
        simp only [up_at, bx_uu]
        obtain ⟨fr, hfr, efr⟩ := lfp2_mark (F := X9_trace_h31 (nI n) mact mnow mkep (nI j') (nI j) (nI m)) (V j) (fun s => s &&& m) 128 (fun mfre => bd4 (X9_comes (nI n) mact mnow mfre mkep (nI j')) (fun q17 mact_18 mnow_19 mkep_20 => some (q17, nI n, mact_18, mnow_19, mfre, mkep_20))) (FR_clear mfre) (fun k hk x r => by
          have := and_128l (b := m) hk
          unfold X9_trace_h31
          rw [if_neg (inn128 hk), isIn9 hj hM hk, bd1_s, ib0, land_nI', gin_nI this (by decide), nI_clamp (by omega), nI_1]) (fun x r => by
          unfold X9_trace_h31
          rw [if_pos i128])
        rw [efr]
        have hg : ∀ t, t < 128 → ctW m n (V j) t = mkG (V j) (fun s => s &&& m) 128 t := fun t ht => Bool.eq_iff_iff.mpr (by
          rw [ct_iff hn hi hm1 ht, mkG_iff]
          constructor
          · rintro ⟨u, h1, h2⟩; exact ⟨u, hi.to hn u h1, h1, h2⟩
          · rintro ⟨u, _, h1, h2⟩; exact ⟨u, h1, h2⟩)
        obtain ⟨oP, oLo, oHi, so, ha, hz, act, now, kep, c1, c2, c3⟩ := comes_sim hr (oP := va_up cP 3 (cP j)) (V := va_up V 3 (ctW m n (V j))) (w := 3) (n := n) (f := mkG (V j) (fun s => s &&& m) 128) (m := fr) ((Keeps.rfl'.up 3 (by omega) _).upP 3 (by omega) _) (by omega) hj' (by rw [up_at]; exact hP) (fun t ht => by rw [up_at]; exact hg t ht) (okF_mk hn h0 fun t ht => by
          obtain ⟨u, _, h1, h2⟩ := mkG_iff.mp ht
          rw [← h2]; exact Nat.lt_of_le_of_lt Nat.and_le_left (hi u h1)) hfr
        rw [c1, bd7_s, c2, bd4_s]
        exact ⟨_, _, _, _, _, _, _, _, _, _, _, _, rfl, rfl, c3⟩
      · rw [X8_isSlot_out hp, bd1_s, i00, X9_isSlot_out hp, bd1_s, i00]
        exact ⟨_, _, _, _, _, _, _, _, _, _, _, _, rfl, rfl, hr⟩
    · rw [decide_eq_false q, bf0, bf0]
      exact ⟨_, _, _, _, _, _, _, _, _, _, _, _, rfl, rfl, hr⟩
  · rw [e1, bdo_n, X9_isSet_out e2, bd1_s, i00]
    exact ⟨_, _, _, _, _, _, _, _, _, _, _, _, rfl, rfl, hr⟩
theorem sim_lacks {p1 p2 : Int32} (hr : Rel cP cLo cHi ctb ctl ctf ctp cob col cso cha chs mact mtpd mfk mfpl mtom mnow mkep mtap mtol) : ∃ (r : Int32) (ocP : Nat → Int32) (ocLo : Nat → Int64) (ocHi : Nat → Int64), X8_lacks cP cLo cHi p1 p2 = some (r, ocP, ocLo, ocHi) ∧ X9_lacks mnow p1 p2 = some r ∧ Rel ocP ocLo ocHi ctb ctl ctf ctp cob col cso cha chs mact mtpd mfk mfpl mtom mnow mkep mtap mtol := by
  obtain ⟨V, rfl, rfl, hV⟩ := toV cLo cHi
  unfold X8_lacks X9_lacks
  rcases famcase hV hr p1 with ⟨j, n, hj, rfl, h0, hn, hi, hP, hM, e1, e2⟩ | ⟨e1, e2⟩
  · have hq := pow_le7 hn
    rw [e1, bdo_s, e2, bd1_s, i10]
    rcases i32_cases p2 with hneg | ⟨k, hk, rfl⟩
    · rw [if_neg (i32_nonneg hneg), if_neg (i32_nonneg hneg)]
      exact ⟨_, _, _, _, rfl, rfl, hr⟩
    · have hne : j ≠ 3 := by omega
      rw [if_pos (nI_pos' hk), if_pos (nI_pos' hk), hP, fill_V hn, bd3_s, lose_V, bd2_s, pick_V (n := n) up_at hn hk, bd1_s]
      simp only [up_at, bx_uu, up_ne hne]
      refine ⟨_, _, _, _, rfl, ?_, hr.keep ((Keeps.rfl'.up 3 (by omega) _).upP 3 (by omega) _)⟩
      rw [kthI_congr (d := fun s => !V j s) (fun s hs => by rw [decide_eq_true hs]; rfl)]
      refine lfp2_kth (F := X9_lacks_h20 mnow (nI j) (nI k)) (fun s => !V j s) (2 ^ n) k (fun z => some z) (fun s hs a ha hc r => ?_) (fun s hs hc ha r => ?_) (fun a r => ?_)
      · unfold X9_lacks_h20
        rw [points9 hj hM, bd1_s, shl1 _ (by omega), if_neg (nI_ge hs (by omega)), isIn9 hj hM (by omega), bd1_s, ib0, nI_1, nI_1]
        cases hb : V j s with
        | true => rfl
        | false =>
          have hne : a ≠ k := by
            rcases hc with hc | hc
            · rw [hb] at hc; cases hc
            · exact hc
          rw [if_neg (by decide), if_neg (fun q => hne ((nI_eq (by omega) hk).mp q))]; rfl
      · unfold X9_lacks_h20
        have hc' : V j s = false := by simpa using hc
        rw [points9 hj hM, bd1_s, shl1 _ (by omega), if_neg (nI_ge hs (by omega)), isIn9 hj hM (by omega), bd1_s, hc', bf0, if_pos rfl]
      · unfold X9_lacks_h20
        rw [points9 hj hM, bd1_s, shl1 _ (by omega), if_pos (nI_le (Nat.le_refl _) (by omega))]
  · rw [e1, bdo_n, e2, bd1_s, i00]
    exact ⟨_, _, _, _, rfl, rfl, hr⟩
theorem keep3 {V : Nat → Nat → Bool} (hr : Rel cP (LO V) (HI V) ctb ctl ctf ctp cob col cso cha chs mact mtpd mfk mfpl mtom mnow mkep mtap mtol) (x : Int32) (g : Nat → Bool) : Rel (va_up cP 3 x) (LO (va_up V 3 g)) (HI (va_up V 3 g)) ctb ctl ctf ctp cob col cso cha chs mact mtpd mfk mfpl mtom mnow mkep mtap mtol := hr.keep ((Keeps.rfl'.up 3 (by omega) _).upP 3 (by omega) _)
theorem sim_answers {p1 p2 : Int32} (hr : Rel cP cLo cHi ctb ctl ctf ctp cob col cso cha chs mact mtpd mfk mfpl mtom mnow mkep mtap mtol) : ∃ (r : Int32) (ocP : Nat → Int32) (ocLo : Nat → Int64) (ocHi : Nat → Int64), X8_answers cP cLo cHi p1 p2 = some (r, ocP, ocLo, ocHi) ∧ X9_answers mnow p1 p2 = some r ∧ Rel ocP ocLo ocHi ctb ctl ctf ctp cob col cso cha chs mact mtpd mfk mfpl mtom mnow mkep mtap mtol := by
  obtain ⟨V, rfl, rfl, hV⟩ := toV cLo cHi
  unfold X8_answers X9_answers
  rcases famcase hV hr p1 with ⟨j, n, hj, rfl, h0, hn, hi, hP, hM, e1, e2⟩ | ⟨e1, e2⟩
  · have hq := pow_le7 hn
    rw [e1, bdo_s, e2, bd1_s, i10, points9 hj hM, bd1_s, X9_in_n (a := 0) (b := n) (by decide) (by omega) rfl (nI_t64 (by omega)), bd1_s, hP]
    rcases in_cases (p := p2) 0 n (by omega) with ⟨k, _, hk, rfl⟩ | h
    · rw [if_neg (nI_pos (by omega)), if_pos (nI_le hk (by omega)), becomeAnswers_V (by omega) hP hn hi, bd3_s, sizeOfLevel_V (n := n) up_at hn (by omega), bd1_s, nI_toInt (by omega), decide_eq_true (by omega), bt0, up_at]
      refine ⟨_, _, _, _, rfl, ?_, keep3 hr _ _⟩
      have := lfp2_cnt (F := X9_answers_h31 mnow (nI j) (nI k)) (fun s => (pc s == k) && mA n (V j) s) (2 ^ n) 0 (fun a => some (nI a)) (fun s hs a r => by
        have := pc_le s
        unfold X9_answers_h31
        have key : ∀ b : Bool, X9_answers_j57 r (nI a) (nI s) mnow (nI j) (b01 b) = r (nI (a + if (b && mAll (V j) s) = true then 1 else 0)) (nI (s + 1)) := by
          intro b
          unfold X9_answers_j57 mAll
          exact lfp2_flag (F := X9_answers_h62 r (nI a) (nI s) mnow (nI j)) (fun t => !V j t || (t &&& s != 0)) 128 (fun b => r (nI (a + if b = true then 1 else 0)) (nI (s + 1))) (fun t ht r2 => by
            unfold X9_answers_h62
            have hts : t &&& s < 128 := and_128l ht
            rw [if_neg (inn128 ht), i10, isIn9 hj hM ht, bd1_s, ib0, land_nI', nI_1]
            cases V j t with
            | false => rfl
            | true =>
              rw [if_pos rfl]
              by_cases e : t &&& s = 0
              · rw [if_pos (show nI (t &&& s) = 0 by rw [e]; rfl), e]; rfl
              · rw [if_neg (nI_ne0 (by omega) (by omega)), show (t &&& s != 0) = true by simpa using e]; rfl) (fun t ht r2 => by
            unfold X9_answers_h62 X9_answers_j106
            by_cases q : (128 : Int32) ≤ nI t
            · rw [if_pos q, i00, nI_1, Int32.add_zero]; rfl
            · rw [if_neg q, i00, i00, nI_1, Int32.add_zero]; rfl) (fun r2 => by
            unfold X9_answers_h62 X9_answers_j106
            rw [if_pos i128, i10, nI_1, nI_1]; rfl) b
        rw [points9 hj hM, bd1_s, shl1 _ (by omega), if_neg (nI_ge hs (by omega)), X9_bits_eq (by omega), bd1_s]
        unfold mA
        rw [decide_eq_true hs, Bool.true_and]
        by_cases e : pc s = k
        · rw [if_pos (show nI (pc s) = nI k by rw [e]), show (pc s == k) = true by simpa using e]; exact key true
        · rw [if_neg (fun q => e ((nI_eq (by omega) (by omega)).mp q)), show (pc s == k) = false by simpa using e]; exact key false) (fun a r => by
        unfold X9_answers_h31
        rw [points9 hj hM, bd1_s, shl1 _ (by omega), if_pos (nI_le (Nat.le_refl _) (by omega))])
      rw [Nat.zero_add] at this
      exact this
    · rw [decide_eq_false h, bf0]
      refine ⟨-2, _, _, _, ?_, rfl, hr⟩
      exact outA h rfl (nI_toInt (by omega))
  · rw [e1, bdo_n, e2, bd1_s, i00]
    exact ⟨_, _, _, _, rfl, rfl, hr⟩
theorem sim_covers {p1 p2 : Int32} (hr : Rel cP cLo cHi ctb ctl ctf ctp cob col cso cha chs mact mtpd mfk mfpl mtom mnow mkep mtap mtol) : ∃ (r : Int32) (ocP : Nat → Int32) (ocLo : Nat → Int64) (ocHi : Nat → Int64), X8_covers cP cLo cHi p1 p2 = some (r, ocP, ocLo, ocHi) ∧ X9_covers mnow p1 p2 = some r ∧ Rel ocP ocLo ocHi ctb ctl ctf ctp cob col cso cha chs mact mtpd mfk mfpl mtom mnow mkep mtap mtol := by
  obtain ⟨V, rfl, rfl, hV⟩ := toV cLo cHi
  unfold X8_covers X9_covers
  rcases famcase hV hr p1 with ⟨j, n, hj, rfl, h0, hn, hi, hP, hM, e1, e2⟩ | ⟨e1, e2⟩
  · have hq := pow_le7 hn
    have hcut : ∀ s, mA n (V j) s = true → s < 2 ^ n := fun s h => by unfold mA at h; rw [Bool.and_eq_true, decide_eq_true_eq] at h; exact h.1
    rw [e1, bdo_s, e2, bd1_s, i10]
    have hm1 : ((-1 : Int32).toInt) = -1 := rfl
    by_cases hge : (-1 : Int32) ≤ p2
    · rw [if_pos hge, if_pos hge, becomeAnswers_V (by omega) hP hn hi, bd3_s]
      by_cases hm : p2 = -1
      · subst hm
        rw [if_pos rfl, size_V, bd1_s, up_at]
        refine ⟨_, _, _, _, rfl, ?_, keep3 hr _ _⟩
        have := lfp2_cntB (F := X9_covers_h21 mnow (nI j) (-1)) (mA n (V j)) (2 ^ n) 0 (fun a => some (nI a)) (fun s hs a ha r => by
          unfold X9_covers_h21
          rw [points9 hj hM, bd1_s, shl1 _ (by omega), if_neg (nI_ge hs (by omega)), meetsAll_eq hj hM (by omega), bd1_s, ib0, nI_1, nI_1]
          unfold mA
          rw [decide_eq_true hs, Bool.true_and]
          cases mAll (V j) s with
          | false => rfl
          | true =>
            rw [if_pos rfl, if_neg]
            · rfl
            · exact ne_m1 (by omega)) (fun a r => by
          unfold X9_covers_h21
          rw [points9 hj hM, bd1_s, shl1 _ (by omega), if_pos (nI_le (Nat.le_refl _) (by omega)), if_pos rfl])
        rw [Nat.zero_add, ← cnt_cut (pow_le7 hn) (fun s _ h => hcut s h)] at this
        exact this
      · obtain ⟨k, hk, rfl⟩ : ∃ k : Nat, k < 2 ^ 31 ∧ p2 = nI k := by
          rcases i32_cases p2 with h | h
          · have := i32_le.mp hge
            exact absurd (Int32.toInt_inj.mp (show p2.toInt = (-1 : Int32).toInt by omega)) hm
          · exact h
        rw [if_neg hm, pick_V (n := n) up_at hn hk, bd1_s, up_at]
        refine ⟨_, _, _, _, rfl, ?_, keep3 hr _ _⟩
        refine lfp2_kth (F := X9_covers_h21 mnow (nI j) (nI k)) (mA n (V j)) (2 ^ n) k (fun z => some z) (fun s hs a ha hc r => ?_) (fun s hs hc ha r => ?_) (fun a r => ?_)
        · unfold X9_covers_h21
          rw [points9 hj hM, bd1_s, shl1 _ (by omega), if_neg (nI_ge hs (by omega)), meetsAll_eq hj hM (by omega), bd1_s, ib0, nI_1, nI_1]
          unfold mA at hc ⊢
          rw [decide_eq_true hs, Bool.true_and] at hc ⊢
          cases hb : mAll (V j) s with
          | false => rfl
          | true =>
            have hne : a ≠ k := by
              rcases hc with hc | hc
              · rw [hb] at hc; cases hc
              · exact hc
            rw [if_pos rfl, if_neg (fun q => hne ((nI_eq (by omega) hk).mp q))]; rfl
        · unfold X9_covers_h21
          unfold mA at hc
          rw [decide_eq_true hs, Bool.true_and] at hc
          rw [points9 hj hM, bd1_s, shl1 _ (by omega), if_neg (nI_ge hs (by omega)), meetsAll_eq hj hM (by omega), bd1_s, hc, bt0, if_pos rfl]
        · unfold X9_covers_h21
          rw [points9 hj hM, bd1_s, shl1 _ (by omega), if_pos (nI_le (Nat.le_refl _) (by omega)), if_neg hm]
    · rw [if_neg hge, if_neg hge]
      exact ⟨_, _, _, _, rfl, rfl, hr⟩
  · rw [e1, bdo_n, e2, bd1_s, i00]
    exact ⟨_, _, _, _, rfl, rfl, hr⟩
end SIM
