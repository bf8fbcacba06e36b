/-! how many shifts change something; settled -/
def wp (i j : Nat) (f : Nat → Bool) : Nat := if 0 < cnt (wsB i j f) 128 then 1 else 0
def mvJ (f : Nat → Bool) (i : Nat) : Nat → Nat
  | 0 => 0
  | k + 1 => mvJ f i k + wp i (i + 1 + k) f
def mvI (f : Nat → Bool) (n : Nat) : Nat → Nat
  | 0 => 0
  | i + 1 => mvI f n i + mvJ f i (n - (i + 1))
theorem wp_if {α : Type} {i j : Nat} {f : Nat → Bool} {x y : α} : (if nI (cnt (wsB i j f) 128) ≤ (0 : Int32) then x else y) = if wp i j f = 0 then x else y := by
  have h := cnt_le (wsB i j f) 128
  unfold wp
  by_cases c : 0 < cnt (wsB i j f) 128
  · rw [if_neg (nI_nle c (by omega)), if_pos c]; rfl
  · rw [if_pos (by rw [show cnt (wsB i j f) 128 = 0 by omega]; decide), if_neg c]; rfl
theorem wp_le (i j : Nat) (f : Nat → Bool) : wp i j f ≤ 1 := by unfold wp; split <;> omega
theorem changing_V {cP : Nat → Int32} {V : Nat → Nat → Bool} {u n : Nat} (hu : u ≠ 3) (hP : cP u = nI n) (hn : n ≤ 7) : ∃ x g, X8_changingShifts cP (LO V) (HI V) u = some (nI (mvI (V u) n n), va_up cP 3 x, LO (va_up V 3 g), HI (va_up V 3 g)) := by
  have inner : ∀ i, i < n → ∀ c x g k, i + 1 + k ≤ n → ∃ x' g', ∀ r7, lfp5 (X8_changingShifts_h17 u r7 (nI i)) (nI c) (nI (i + 1)) (va_up cP 3 x) (LO (va_up V 3 g)) (HI (va_up V 3 g)) = lfp5 (X8_changingShifts_h17 u r7 (nI i)) (nI (c + mvJ (V u) i k)) (nI (i + 1 + k)) (va_up cP 3 x') (LO (va_up V 3 g')) (HI (va_up V 3 g')) := by
    intro i hi c x g k
    induction k with
    | zero => intro _; exact ⟨x, g, fun r7 => rfl⟩
    | succ k ih =>
      intro hk
      obtain ⟨x1, g1, e1⟩ := ih (by omega)
      refine ⟨nI n, nwF i (i + 1 + k) (V u), fun r7 => (e1 r7).trans (lfp5_step fun r => ?_)⟩
      unfold X8_changingShifts_h17
      rw [up_ne hu, hP, if_neg (nI_ge (by omega) (by omega)), newcomers_V hu (by omega) (by omega) (by omega), bd4_s]
      simp only [up_ne hu, bx_uu, hP]
      rw [wp_if, nI_1, nI_1]
      show _ = r (nI (c + (mvJ (V u) i k + wp i (i + 1 + k) (V u)))) _ _ _ _
      have := wp_le i (i + 1 + k) (V u)
      rcases (show wp i (i + 1 + k) (V u) = 0 ∨ wp i (i + 1 + k) (V u) = 1 by omega) with h | h
      · rw [h, if_pos rfl]; rfl
      · rw [h, if_neg (by decide)]; rfl
  unfold X8_changingShifts
  refine lfp5_inv (F := X8_changingShifts_h4 u) (fun o => ∃ x g, o = some (nI (mvI (V u) n n), va_up cP 3 x, LO (va_up V 3 g), HI (va_up V 3 g))) n (fun i c a p lo hi => c = nI (mvI (V u) n i) ∧ a = nI i ∧ ∃ x g, p = va_up cP 3 x ∧ lo = LO (va_up V 3 g) ∧ hi = HI (va_up V 3 g)) (fun i c a p lo hi' hi hI => ?_) (fun c a p lo hi' hI => ?_) ⟨rfl, rfl, cP 3, V 3, by rw [up_self], by rw [up_self], by rw [up_self]⟩
  · obtain ⟨rfl, rfl, x, g, rfl, rfl, rfl⟩ := hI
    right
    obtain ⟨x', g', e⟩ := inner i hi (mvI (V u) n i) x g (n - (i + 1)) (by omega)
    refine ⟨nI (mvI (V u) n (i + 1)), nI (i + 1), va_up cP 3 x', LO (va_up V 3 g'), HI (va_up V 3 g'), fun r => ?_, rfl, rfl, x', g', rfl, rfl, rfl⟩
    unfold X8_changingShifts_h4
    rw [up_ne hu, hP, if_neg (nI_ge hi (by omega)), nI_1, e r, show i + 1 + (n - (i + 1)) = n by omega]
    refine lfp5_done fun r2 => ?_
    unfold X8_changingShifts_h17
    rw [up_ne hu, hP, if_pos (nI_le (Nat.le_refl _) (by omega)), nI_1]
    rfl
  · obtain ⟨rfl, rfl, x, g, rfl, rfl, rfl⟩ := hI
    refine ⟨_, fun r => ?_, x, g, rfl⟩
    unfold X8_changingShifts_h4
    rw [up_ne hu, hP, if_pos (nI_le (Nat.le_refl _) (by omega))]
section SIM
variable {cP : Nat → Int32} {cLo : Nat → Int64} {cHi : Nat → Int64} {cpl : Nat → Int32} {ctb : Nat → Int32} {ctl : Int32} {ctf : Int32} {ctp : Int32} {ctk : Int32} {cts : Int32} {cth : Int32} {cob : Nat → Int32} {col : Int32} {cso : Nat → Int32} {cha : Int32} {chs : Int32} {cbe : Int32} {ctr : Int32} {cgl : Nat → Int64} {cgh : Nat → Int64} {cll : Nat → Int64} {clh : Nat → Int64} {cta : Nat → Int32} {cme : Nat → Int32} {cps : Int32} {cwh : Nat → Int32} {cal : Nat → Int64} {cah : Nat → Int64} {mthr : Int32} {mfrp : Int32} {mact : Int32} {mtpd : Int32} {msiz : Int32} {matx : Int32} {mfrm : Int32} {mtok : Int32} {mval : Int32} {mfk : Int32} {mfpl : Int32} {mbem : Int32} {mtrs : Int32} {mtrl : Int32} {mrom : Int32} {mtom : Int32} {mnow : Nat → Int32} {mfre : Nat → Int32} {mkep : Nat → Int32} {mtap : Nat → Int32} {mlef : Nat → Int32} {mtak : Nat → Int32} {mbes : Nat → Int32} {mrow : Nat → Int32} {mint : Nat → Int32} {mrnd : Nat → Int32} {mplo : Nat → Int32} {mhio : Nat → Int32} {mtox : Nat → Int32} {mtol : Nat → Int32}
theorem sim_moved {p1 : Int32} (hr : Rel cP cLo cHi ctb ctl ctf ctp cob col cso cha chs mact mtpd mfk mfpl mtom mnow mkep mtap mtol) : ∃ (r : Int32) (ocP : Nat → Int32) (ocLo : Nat → Int64) (ocHi : Nat → Int64), X8_moved cP cLo cHi p1 = some (r, ocP, ocLo, ocHi) ∧ X9_moved mnow p1 = some r ∧ Rel ocP ocLo ocHi ctb ctl ctf ctp cob col cso cha chs mact mtpd mfk mfpl mtom mnow mkep mtap mtol := by
  obtain ⟨V, rfl, rfl, hV⟩ := toV cLo cHi
  unfold X8_moved X9_moved
  rcases famcase hV hr p1 with ⟨j, n, hj, rfl, h0, hn, hi, hP, hM, e1, e2⟩ | ⟨e1, e2⟩
  · obtain ⟨x, g, hc⟩ := changing_V (cP := cP) (V := V) (u := j) (by omega) hP hn
    rw [e1, bdo_s, e2, bd1_s, i10, hc, bd4_s]
    refine ⟨_, _, _, _, rfl, ?_, keep3 hr _ _⟩
    exact lfp2_for (F := X9_moved_h15 mnow (nI j)) n (fun i => nI (mvI (V j) n i)) (fun i => nI i) (fun i hi' r => by
      unfold X9_moved_h15
      rw [points9 hj hM, bd1_s, if_neg (nI_ge hi' (by omega)), nI_1]
      exact lfp2_for (F := X9_moved_h29 mnow (nI j) r (nI i)) (y := r (nI (mvI (V j) n (i + 1))) (nI (i + 1))) (n - (i + 1)) (fun k => nI (mvI (V j) n i + mvJ (V j) i k)) (fun k => nI (i + 1 + k)) (fun k hk r2 => by
        unfold X9_moved_h29
        rw [points9 hj hM, bd1_s, if_neg (nI_ge (by omega) (by omega)), wouldShift_9 hj hM (by omega) (by omega), bd1_s, wp_if, nI_1, nI_1, Int32.add_zero]
        show _ = r2 (nI (mvI (V j) n i + (mvJ (V j) i k + wp i (i + 1 + k) (V j)))) _
        have := wp_le i (i + 1 + k) (V j)
        rcases (show wp i (i + 1 + k) (V j) = 0 ∨ wp i (i + 1 + k) (V j) = 1 by omega) with h | h
        · rw [h, if_pos rfl]; rfl
        · rw [h, if_neg (by decide)]; rfl) (fun r2 => by
        unfold X9_moved_h29
        rw [points9 hj hM, bd1_s, show i + 1 + (n - (i + 1)) = n by omega, if_pos (nI_le (Nat.le_refl _) (by omega)), nI_1]; rfl)) (fun r => by
      unfold X9_moved_h15
      rw [points9 hj hM, bd1_s, if_pos (nI_le (Nat.le_refl _) (by omega))])
  · rw [e1, bdo_n, e2, bd1_s, i00]
    exact ⟨_, _, _, _, rfl, rfl, hr⟩
end SIM
/-! settled -/
def Phi (f : Nat → Bool) : Nat := smF f (fun s => s) 128
theorem sgm_less : ∀ j, j < 7 → ∀ i, i < j → ∀ s, s < 128 → s.testBit j = true → s.testBit i = false → sgm i j s < s := by decide +kernel
theorem Phi_sh {i j : Nat} {f : Nat → Bool} (hij : i < j) (hj : j < 7) : Phi (shG i j f) + cnt (wsB i j f) 128 ≤ Phi f := by
  have hne : i ≠ j := by omega
  -- pointwise
  have h1 : Phi (shG i j f) + smF (wsB i j f) (fun s => s) 128 = Phi f + smF (nwF i j f) (fun s => s) 128 := by
    unfold Phi smF
    rw [← sm_add, ← sm_add]
    refine sm_congr fun s hs => ?_
    rw [← sh_eq hne]
    have hw : wsB i j f s = true → f s = true ∧ rpF i j (nwF i j f) s = true := fun h => by
      have e : rpF i j (nwF i j f) s = (s.testBit j && (!s.testBit i && wsB i j f s)) := by
        unfold rpF
        rw [sgm_comm i j, nw_sgm hne]
      rw [e, h]
      unfold wsB at h
      rw [Bool.and_eq_true, Bool.and_eq_true, Bool.and_eq_true] at h
      rw [h.2.1, h.2.2.1]
      exact ⟨h.1, rfl⟩
    have hw2 : wsB i j f s = false → (f s && !rpF i j (nwF i j f) s) = f s := fun h => by
      have e : rpF i j (nwF i j f) s = (s.testBit j && (!s.testBit i && wsB i j f s)) := by
        unfold rpF
        rw [sgm_comm i j, nw_sgm hne]
      rw [e, h]; simp
    have hn : nwF i j f s = true → f s = false := fun h => by
      unfold nwF at h
      rw [Bool.and_eq_true, Bool.not_eq_true'] at h
      exact h.2
    cases a : wsB i j f s with
    | true =>
      obtain ⟨b1, b2⟩ := hw a
      have b3 : nwF i j f s = false := by
        cases c : nwF i j f s with
        | false => rfl
        | true => rw [hn c] at b1; cases b1
      rw [b1, b2, b3]; simp
    | false =>
      rw [hw2 a]
      cases c : nwF i j f s with
      | true => rw [hn c]; simp
      | false => simp
  have h2 : smF (nwF i j f) (fun s => s) 128 = smF (wsB i j f) (sgm i j) 128 := by
    unfold smF
    rw [← sm_inv (h := fun s => if nwF i j f s = true then s else 0) (σ := sgm i j) (B := 128) (fun s hs => by
      show (if nwF i j f s = true then s else 0) ≤ 128
      split <;> omega) (fun s hs => sgm_lt (by omega) hj hs) (fun s _ => sgm_sgm i j s)]
    exact sm_congr fun s _ => by rw [nw_sgm hne]
  have h3 : smF (wsB i j f) (sgm i j) 128 + cnt (wsB i j f) 128 ≤ smF (wsB i j f) (fun s => s) 128 := by
    unfold smF
    rw [← sm_cnt, ← sm_add]
    refine sm_le fun s hs => ?_
    cases a : wsB i j f s with
    | false => simp
    | true =>
      rw [if_pos rfl, if_pos rfl, if_pos rfl]
      show sgm i j s + 1 ≤ s
      unfold wsB at a
      rw [Bool.and_eq_true, Bool.and_eq_true, Bool.and_eq_true, Bool.not_eq_true'] at a
      have := sgm_less j hj i hij s hs a.2.1 a.2.2.1
      omega
  omega
abbrev SSt : Type := (Nat → Bool) × Nat
def pS (i j : Nat) (st : SSt) : SSt := (shG i j st.1, st.2 + wp i j st.1)
def jF (i : Nat) (st : SSt) : Nat → SSt
  | 0 => st
  | k + 1 => pS i (i + 1 + k) (jF i st k)
def iF (n : Nat) (st : SSt) : Nat → SSt
  | 0 => st
  | i + 1 => jF i (iF n st i) (n - (i + 1))
def settle (n : Nat) : Nat → SSt → SSt
  | 0, st => st
  | k + 1, st => if (iF n st n).2 = st.2 then iF n st n else settle n k (iF n st n)
/-- good states: of n points; changes and what is left -/
def GS (n : Nat) (st0 st : SSt) : Prop := inN n st.1 ∧ st0.2 ≤ st.2 ∧ Phi st.1 + (st.2 - st0.2) ≤ Phi st0.1
theorem GS.step {n i j : Nat} {st0 st : SSt} (hij : i < j) (hj : j < n) (hn : n ≤ 7) (h : GS n st0 st) : GS n st0 (pS i j st) := by
  obtain ⟨h1, h2, h3⟩ := h
  refine ⟨sh_in hij hj h1, ?_, ?_⟩
  · show st0.2 ≤ st.2 + wp i j st.1; omega
  · show Phi (shG i j st.1) + (st.2 + wp i j st.1 - st0.2) ≤ Phi st0.1
    have := Phi_sh (f := st.1) hij (show j < 7 by omega)
    have hw : wp i j st.1 ≤ cnt (wsB i j st.1) 128 := by unfold wp; split <;> omega
    omega
theorem jF_GS {n i : Nat} {st0 st : SSt} (hn : n ≤ 7) (h : GS n st0 st) : ∀ k, i + 1 + k ≤ n → GS n st0 (jF i st k) ∧ (jF i st k).2 ≤ st.2 + k := by
  intro k
  induction k with
  | zero => intro _; exact ⟨h, Nat.le_refl _⟩
  | succ k ih =>
    intro hk
    obtain ⟨a, b⟩ := ih (by omega)
    refine ⟨a.step (by omega) (by omega) hn, ?_⟩
    show (jF i st k).2 + wp i (i + 1 + k) (jF i st k).1 ≤ _
    have := wp_le i (i + 1 + k) (jF i st k).1
    omega
theorem iF_GS {n : Nat} {st0 st : SSt} (hn : n ≤ 7) (h : GS n st0 st) : ∀ i, i ≤ n → GS n st0 (iF n st i) ∧ (iF n st i).2 ≤ st.2 + 7 * i := by
  intro i
  induction i with
  | zero => intro _; exact ⟨h, by show st.2 ≤ st.2 + 0; omega⟩
  | succ i ih =>
    intro hi
    obtain ⟨a, b⟩ := ih (by omega)
    obtain ⟨c, d⟩ := jF_GS (i := i) hn a (n - (i + 1)) (by omega)
    refine ⟨c, ?_⟩
    show (jF i (iF n st i) (n - (i + 1))).2 ≤ _
    omega
theorem GS.refl {n : Nat} {st : SSt} (h : inN n st.1) : GS n st st := ⟨h, Nat.le_refl _, by omega⟩
theorem settle_in {n : Nat} (hn : n ≤ 7) : ∀ k st, inN n st.1 → inN n (settle n k st).1 := by
  intro k
  induction k with
  | zero => intro st h; exact h
  | succ k ih =>
    intro st h
    have := (iF_GS hn (GS.refl h) n (Nat.le_refl n)).1.1
    show inN n (if (iF n st n).2 = st.2 then iF n st n else settle n k (iF n st n)).1
    split
    · exact this
    · exact ih _ this
theorem up345 {α : Type} {V : Nat → α} {a b c a' b' c' : α} : va_up (va_up (va_up (va_up (va_up (va_up V 3 a) 4 b) 5 c) 3 a') 4 b') 5 c' = va_up (va_up (va_up V 3 a') 4 b') 5 c' := by
  funext k
  unfold va_up
  by_cases h3 : k = 3
  · subst h3; rfl
  · by_cases h4 : k = 4
    · subst h4; rfl
    · by_cases h5 : k = 5
      · subst h5; rfl
      · simp [h3, h4, h5]
theorem up3434 {α : Type} {V : Nat → α} {a b a' b' : α} : va_up (va_up (va_up (va_up V 3 a) 4 b) 3 a') 4 b' = va_up (va_up V 3 a') 4 b' := by
  funext k
  unfold va_up
  by_cases h3 : k = 3
  · subst h3; rfl
  · by_cases h4 : k = 4
    · subst h4; rfl
    · simp [h3, h4]
section
variable {cP : Nat → Int32} {V : Nat → Nat → Bool} {n : Nat}
theorem move_W (hP : cP 5 = nI n) {x y : Int32} {a b f : Nat → Bool} {i j : Nat} (hi : i < 7) (hj : j < 7) (hij : i ≠ j) : ∃ b', X8_move (va_up (va_up cP 3 x) 4 y) (LO (va_up (va_up (va_up V 3 a) 4 b) 5 f)) (HI (va_up (va_up (va_up V 3 a) 4 b) 5 f)) 5 (nI i) (nI j) = some (nI (cnt (wsB i j f) 128), va_up (va_up cP 3 (nI n)) 4 (nI n), LO (va_up (va_up (va_up V 3 (nwF i j f)) 4 b') 5 (shG i j f)), HI (va_up (va_up (va_up V 3 (nwF i j f)) 4 b') 5 (shG i j f))) := by
  obtain ⟨g, h⟩ := move_V (cP := va_up (va_up cP 3 x) 4 y) (V := va_up (va_up (va_up V 3 a) 4 b) 5 f) hi hj hij
  refine ⟨g, ?_⟩
  rw [h]
  simp only [up_at, up_ne (show (5 : Nat) ≠ 4 by decide), up_ne (show (5 : Nat) ≠ 3 by decide), hP, up345, up3434]
theorem settle_V (hP : cP 5 = nI n) (hn : n ≤ 7) : ∀ K (st : SSt) turn x y a b, inN n st.1 → Phi st.1 < K → turn + K ≤ 16384 → st.2 + 49 * K < 2 ^ 30 → ∃ x' y' a' b', lfp5 (X8_settle_h4 5) (nI st.2) (nI turn) (va_up (va_up cP 3 x) 4 y) (LO (va_up (va_up (va_up V 3 a) 4 b) 5 st.1)) (HI (va_up (va_up (va_up V 3 a) 4 b) 5 st.1)) = some (nI (settle n K st).2, va_up (va_up cP 3 x') 4 y', LO (va_up (va_up (va_up V 3 a') 4 b') 5 (settle n K st).1), HI (va_up (va_up (va_up V 3 a') 4 b') 5 (settle n K st).1)) := by
  have h5 : ∀ x y, va_up (va_up cP 3 x) 4 y 5 = nI n := fun x y => by rw [up_ne (by decide), up_ne (by decide)]; exact hP
  intro K
  induction K with
  | zero => intro st turn x y a b _ h; omega
  | succ K ih =>
    intro st turn x y a b hin hphi hturn hc
    have inner : ∀ i, i < n → ∀ (s : SSt) x y a b k, i + 1 + k ≤ n → ∃ x' y' a' b', ∀ r, lfp5 (X8_settle_h32 5 r (nI i)) (nI s.2) (nI (i + 1)) (va_up (va_up cP 3 x) 4 y) (LO (va_up (va_up (va_up V 3 a) 4 b) 5 s.1)) (HI (va_up (va_up (va_up V 3 a) 4 b) 5 s.1)) = lfp5 (X8_settle_h32 5 r (nI i)) (nI (jF i s k).2) (nI (i + 1 + k)) (va_up (va_up cP 3 x') 4 y') (LO (va_up (va_up (va_up V 3 a') 4 b') 5 (jF i s k).1)) (HI (va_up (va_up (va_up V 3 a') 4 b') 5 (jF i s k).1)) := by
      intro i hi s x y a b k
      induction k with
      | zero => intro _; exact ⟨x, y, a, b, fun r => rfl⟩
      | succ k ihk =>
        intro hk
        obtain ⟨x1, y1, a1, b1, e1⟩ := ihk (by omega)
        obtain ⟨b', hm⟩ := move_W (V := V) hP (x := x1) (y := y1) (a := a1) (b := b1) (f := (jF i s k).1) (i := i) (j := i + 1 + k) (by omega) (by omega) (by omega)
        refine ⟨nI n, nI n, nwF i (i + 1 + k) (jF i s k).1, b', fun r => (e1 r).trans (lfp5_step fun r2 => ?_)⟩
        · unfold X8_settle_h32
          rw [h5, if_neg (nI_ge (by omega) (by omega)), hm, bd4_s, wp_if, nI_1, nI_1]
          show _ = r2 (nI ((jF i s k).2 + wp i (i + 1 + k) (jF i s k).1)) _ _ _ _
          have := wp_le i (i + 1 + k) (jF i s k).1
          rcases (show wp i (i + 1 + k) (jF i s k).1 = 0 ∨ wp i (i + 1 + k) (jF i s k).1 = 1 by omega) with h | h
          · rw [h, if_pos rfl]; rfl
          · rw [h, if_neg (by decide)]; rfl
    have outer : ∀ i, i ≤ n → ∃ x' y' a' b', ∀ r, lfp5 (X8_settle_h17 5 (nI st.2) r (nI turn)) (nI st.2) 0 (va_up (va_up cP 3 x) 4 y) (LO (va_up (va_up (va_up V 3 a) 4 b) 5 st.1)) (HI (va_up (va_up (va_up V 3 a) 4 b) 5 st.1)) = lfp5 (X8_settle_h17 5 (nI st.2) r (nI turn)) (nI (iF n st i).2) (nI i) (va_up (va_up cP 3 x') 4 y') (LO (va_up (va_up (va_up V 3 a') 4 b') 5 (iF n st i).1)) (HI (va_up (va_up (va_up V 3 a') 4 b') 5 (iF n st i).1)) := by
      intro i
      induction i with
      | zero => intro _; exact ⟨x, y, a, b, fun r => rfl⟩
      | succ i ihi =>
        intro hi
        obtain ⟨x1, y1, a1, b1, e1⟩ := ihi (by omega)
        obtain ⟨x2, y2, a2, b2, e2⟩ := inner i (by omega) (iF n st i) x1 y1 a1 b1 (n - (i + 1)) (by omega)
        refine ⟨x2, y2, a2, b2, fun r => (e1 r).trans (lfp5_step fun r2 => ?_)⟩
        unfold X8_settle_h17
        rw [h5, if_neg (nI_ge (by omega) (by omega)), nI_1, e2 r2, show i + 1 + (n - (i + 1)) = n by omega]
        refine lfp5_done fun r3 => ?_
        unfold X8_settle_h32
        rw [h5, if_pos (nI_le (Nat.le_refl _) (by omega)), nI_1]
        rfl
    obtain ⟨x1, y1, a1, b1, e1⟩ := outer n (Nat.le_refl n)
    obtain ⟨gs, gb⟩ := iF_GS hn (GS.refl hin) n (Nat.le_refl n)
    have hstep : ∀ r, X8_settle_h4 5 r (nI st.2) (nI turn) (va_up (va_up cP 3 x) 4 y) (LO (va_up (va_up (va_up V 3 a) 4 b) 5 st.1)) (HI (va_up (va_up (va_up V 3 a) 4 b) 5 st.1)) = (if (iF n st n).2 = st.2 then some (nI (iF n st n).2, va_up (va_up cP 3 x1) 4 y1, LO (va_up (va_up (va_up V 3 a1) 4 b1) 5 (iF n st n).1), HI (va_up (va_up (va_up V 3 a1) 4 b1) 5 (iF n st n).1)) else r (nI (iF n st n).2) (nI (turn + 1)) (va_up (va_up cP 3 x1) 4 y1) (LO (va_up (va_up (va_up V 3 a1) 4 b1) 5 (iF n st n).1)) (HI (va_up (va_up (va_up V 3 a1) 4 b1) 5 (iF n st n).1))) := by
      intro r
      unfold X8_settle_h4
      rw [if_neg (show ¬ (16384 : Int32) ≤ nI turn from nI_ge (b := 16384) (by omega) (by decide)), e1 r]
      refine lfp5_done fun r2 => ?_
      unfold X8_settle_h17
      rw [h5, if_pos (nI_le (Nat.le_refl _) (by omega)), nI_1]
      by_cases q : (iF n st n).2 = st.2
      · rw [if_pos (show nI (iF n st n).2 = nI st.2 by rw [q]), if_pos q]
      · rw [if_neg (fun z => q ((nI_eq (by omega) (by omega)).mp z)), if_neg q]
    by_cases q : (iF n st n).2 = st.2
    · refine ⟨x1, y1, a1, b1, ?_⟩
      show _ = some (nI (if (iF n st n).2 = st.2 then iF n st n else settle n K (iF n st n)).2, _, LO (va_up _ 5 (if (iF n st n).2 = st.2 then iF n st n else settle n K (iF n st n)).1), HI (va_up _ 5 (if (iF n st n).2 = st.2 then iF n st n else settle n K (iF n st n)).1))
      rw [if_pos q]
      exact lfp5_done fun r => by rw [hstep r, if_pos q]
    · obtain ⟨x2, y2, a2, b2, e2⟩ := ih (iF n st n) (turn + 1) x1 y1 a1 b1 gs.1 (by have h1 := gs.2.1; have h2 := gs.2.2; omega) (by omega) (by omega)
      refine ⟨x2, y2, a2, b2, ?_⟩
      show _ = some (nI (if (iF n st n).2 = st.2 then iF n st n else settle n K (iF n st n)).2, _, LO (va_up _ 5 (if (iF n st n).2 = st.2 then iF n st n else settle n K (iF n st n)).1), HI (va_up _ 5 (if (iF n st n).2 = st.2 then iF n st n else settle n K (iF n st n)).1))
      rw [if_neg q]
      exact (lfp5_step fun r => by rw [hstep r, if_neg q]).trans e2
end
theorem settle_9 {n : Nat} (hn : n ≤ 7) {mact : Int32} {mnow mkep : Nat → Int32} {p : Int32} : ∀ K (st : SSt) (last : Int32) m, FR m st.1 → inN n st.1 → Phi st.1 < K → st.2 + 49 * K < 2 ^ 30 → nI st.2 ≠ last → ∃ m', FR m' (settle n K st).1 ∧ lfp3 (X9_settles_h20 (nI n) mact mnow mkep p) (nI st.2) last m = bd4 (X9_comes (nI n) mact mnow m' mkep p) (fun q13 mact_14 mnow_15 mkep_16 => some (nI (settle n K st).2, nI n, mact_14, mnow_15, m', mkep_16)) := by
  intro K
  induction K with
  | zero => intro st last m _ _ h; omega
  | succ K ih =>
    intro st last m hm hin hphi hc hne
    have inner : ∀ i, i < n → ∀ (s : SSt) m, FR m s.1 → ∀ k, i + 1 + k ≤ n → ∃ m', FR m' (jF i s k).1 ∧ ∀ r, lfp3 (X9_settles_h45 (nI n) r (nI i)) (nI s.2) (nI (i + 1)) m = lfp3 (X9_settles_h45 (nI n) r (nI i)) (nI (jF i s k).2) (nI (i + 1 + k)) m' := by
      intro i hi s m hm k
      induction k with
      | zero => intro _; exact ⟨m, hm, fun r => rfl⟩
      | succ k ihk =>
        intro hk
        obtain ⟨m1, f1, e1⟩ := ihk (by omega)
        obtain ⟨m2, e2, f2⟩ := shiftsFresh_9 (i := i) (j := i + 1 + k) f1 (by omega) (by omega) (by omega)
        refine ⟨m2, f2, fun r => (e1 r).trans (lfp3_step fun r2 => ?_)⟩
        unfold X9_settles_h45
        rw [if_neg (nI_ge (by omega) (by omega)), e2, bd2_s, wp_if, nI_1, nI_1, Int32.add_zero]
        show _ = r2 (nI ((jF i s k).2 + wp i (i + 1 + k) (jF i s k).1)) _ _
        have := wp_le i (i + 1 + k) (jF i s k).1
        rcases (show wp i (i + 1 + k) (jF i s k).1 = 0 ∨ wp i (i + 1 + k) (jF i s k).1 = 1 by omega) with h | h
        · rw [h, if_pos rfl]; rfl
        · rw [h, if_neg (by decide)]; rfl
    have outer : ∀ i, i ≤ n → ∃ m', FR m' (iF n st i).1 ∧ ∀ r, lfp3 (X9_settles_h30 (nI n) r (nI st.2)) (nI st.2) 0 m = lfp3 (X9_settles_h30 (nI n) r (nI st.2)) (nI (iF n st i).2) (nI i) m' := by
      intro i
      induction i with
      | zero => intro _; exact ⟨m, hm, fun r => rfl⟩
      | succ i ihi =>
        intro hi
        obtain ⟨m1, f1, e1⟩ := ihi (by omega)
        obtain ⟨m2, f2, e2⟩ := inner i (by omega) (iF n st i) m1 f1 (n - (i + 1)) (by omega)
        refine ⟨m2, f2, fun r => (e1 r).trans (lfp3_step fun r2 => ?_)⟩
        unfold X9_settles_h30
        rw [if_neg (nI_ge (by omega) (by omega)), nI_1, e2 r2, show i + 1 + (n - (i + 1)) = n by omega]
        refine lfp3_done fun r3 => ?_
        unfold X9_settles_h45
        rw [if_pos (nI_le (Nat.le_refl _) (by omega)), nI_1]
        rfl
    obtain ⟨m1, f1, e1⟩ := outer n (Nat.le_refl n)
    obtain ⟨gs, gb⟩ := iF_GS hn (GS.refl hin) n (Nat.le_refl n)
    have hstep : ∀ r, X9_settles_h20 (nI n) mact mnow mkep p r (nI st.2) last m = r (nI (iF n st n).2) (nI st.2) m1 := by
      intro r
      unfold X9_settles_h20
      rw [if_neg hne, e1 r]
      refine lfp3_done fun r2 => ?_
      unfold X9_settles_h30
      rw [if_pos (nI_le (Nat.le_refl _) (by omega))]
    by_cases q : (iF n st n).2 = st.2
    · refine ⟨m1, ?_, ?_⟩
      · show FR m1 (if (iF n st n).2 = st.2 then iF n st n else settle n K (iF n st n)).1
        rw [if_pos q]; exact f1
      · rw [lfp3_step hstep]
        refine lfp3_done fun r => ?_
        unfold X9_settles_h20
        rw [if_pos (by rw [q])]
        show _ = bd4 _ (fun q13 mact_14 mnow_15 mkep_16 => some (nI (if (iF n st n).2 = st.2 then iF n st n else settle n K (iF n st n)).2, nI n, mact_14, mnow_15, m1, mkep_16))
        rw [if_pos q]
    · obtain ⟨m2, f2, e2⟩ := ih (iF n st n) (nI st.2) m1 f1 gs.1 (by have h1 := gs.2.1; have h2 := gs.2.2; omega) (by omega) (fun z => q ((nI_eq (by omega) (by omega)).mp z))
      refine ⟨m2, ?_, ?_⟩
      · show FR m2 (if (iF n st n).2 = st.2 then iF n st n else settle n K (iF n st n)).1
        rw [if_neg q]; exact f2
      · rw [lfp3_step hstep, e2]
        show _ = bd4 _ (fun q13 mact_14 mnow_15 mkep_16 => some (nI (if (iF n st n).2 = st.2 then iF n st n else settle n K (iF n st n)).2, nI n, mact_14, mnow_15, m2, mkep_16))
        rw [if_neg q]
section SIM
variable {cP : Nat → Int32} {cLo : Nat → Int64} {cHi : Nat → Int64} {cpl : Nat → Int32} {ctb : Nat → Int32} {ctl : Int32} {ctf : Int32} {ctp : Int32} {ctk : Int32} {cts : Int32} {cth : Int32} {cob : Nat → Int32} {col : Int32} {cso : Nat → Int32} {cha : Int32} {chs : Int32} {cbe : Int32} {ctr : Int32} {cgl : Nat → Int64} {cgh : Nat → Int64} {cll : Nat → Int64} {clh : Nat → Int64} {cta : Nat → Int32} {cme : Nat → Int32} {cps : Int32} {cwh : Nat → Int32} {cal : Nat → Int64} {cah : Nat → Int64} {mthr : Int32} {mfrp : Int32} {mact : Int32} {mtpd : Int32} {msiz : Int32} {matx : Int32} {mfrm : Int32} {mtok : Int32} {mval : Int32} {mfk : Int32} {mfpl : Int32} {mbem : Int32} {mtrs : Int32} {mtrl : Int32} {mrom : Int32} {mtom : Int32} {mnow : Nat → Int32} {mfre : Nat → Int32} {mkep : Nat → Int32} {mtap : Nat → Int32} {mlef : Nat → Int32} {mtak : Nat → Int32} {mbes : Nat → Int32} {mrow : Nat → Int32} {mint : Nat → Int32} {mrnd : Nat → Int32} {mplo : Nat → Int32} {mhio : Nat → Int32} {mtox : Nat → Int32} {mtol : Nat → Int32}
theorem sim_settles {p1 : Int32} (hr : Rel cP cLo cHi ctb ctl ctf ctp cob col cso cha chs mact mtpd mfk mfpl mtom mnow mkep mtap mtol) : ∃ (r : Int32) (ocP : Nat → Int32) (ocLo : Nat → Int64) (ocHi : Nat → Int64) (ocso : Nat → Int32) (ocha : Int32) (ochs : Int32) (omfrp : Int32) (omact : Int32) (omnow : Nat → Int32) (omfre : Nat → Int32) (omkep : Nat → Int32), X8_settles cP cLo cHi cso cha chs p1 = some (r, ocP, ocLo, ocHi, ocso, ocha, ochs) ∧ X9_settles mfrp mact mnow mfre mkep p1 = some (r, omfrp, omact, omnow, omfre, omkep) ∧ Rel ocP ocLo ocHi ctb ctl ctf ctp cob col ocso ocha ochs omact mtpd mfk mfpl mtom omnow omkep mtap mtol := by
  obtain ⟨V, rfl, rfl, hV⟩ := toV cLo cHi
  unfold X8_settles X9_settles
  rcases famcase hV hr p1 with ⟨j, n, hj, rfl, h0, hn, hi, hP, hM, e1, e2⟩ | ⟨e1, e2⟩
  · have hphi : Phi (V j) < 16384 := by
      have : Phi (V j) ≤ sm (fun _ => 127) 128 := sm_le fun s hs => by
        show (if V j s = true then s else 0) ≤ 127
        split <;> omega
      rw [sm_const] at this
      omega
    have e0 : va_up (va_up (va_up V 5 (V j)) 3 (V 3)) 4 (V 4) = va_up V 5 (V j) := by
      rw [show V 3 = va_up V 5 (V j) 3 from (up_ne (by decide)).symm, up_self, show V 4 = va_up V 5 (V j) 4 from (up_ne (by decide)).symm, up_self]
    have ev : va_up (va_up (va_up V 3 (V 3)) 4 (V 4)) 5 (V j) = va_up V 5 (V j) := by rw [up_self, up_self]
    have ep : va_up (va_up (va_up cP 5 (cP j)) 3 (va_up cP 5 (cP j) 3)) 4 (va_up cP 5 (cP j) 4) = va_up cP 5 (cP j) := by rw [up_self, up_self]
    obtain ⟨x, y, a, b, h1⟩ := settle_V (cP := va_up cP 5 (cP j)) (V := V) (n := n) (by rw [up_at]; exact hP) hn 16384 (V j, 0) 0 (va_up cP 5 (cP j) 3) (va_up cP 5 (cP j) 4) (V 3) (V 4) hi hphi (by decide) (by show 0 + 49 * 16384 < 2 ^ 30; decide)
    obtain ⟨m', h2, h3⟩ := settle_9 hn (mact := mact) (mnow := mnow) (mkep := mkep) (p := nI j) 16384 (V j, 0) (-1) (fillA mfre 0 (fun s => b01 (V j s)) 128) (FR_copy mfre (V j)) hi hphi (by show 0 + 49 * 16384 < 2 ^ 30; decide) (fun z => ne_m1 (k := 0) (by decide) z)
    have h1' : X8_settle (va_up cP 5 (cP j)) (LO (va_up V 5 (V j))) (HI (va_up V 5 (V j))) 5 = some (nI (settle n 16384 (V j, 0)).2, va_up (va_up (va_up cP 5 (cP j)) 3 x) 4 y, LO (va_up (va_up (va_up V 3 a) 4 b) 5 (settle n 16384 (V j, 0)).1), HI (va_up (va_up (va_up V 3 a) 4 b) 5 (settle n 16384 (V j, 0)).1)) := by
      have := h1
      dsimp only at this
      rw [ev, ep] at this
      exact this
    rw [e1, bdo_s, e2, bd1_s, i10, become_V, bd3_s, h1', bd4_s, X9_copiesFresh_eq (v := (n, V j)) hj hM, bd2_s]
    show ∃ r ocP ocLo ocHi ocso ocha ochs omfrp omact omnow omfre omkep, _ ∧ lfp3 (X9_settles_h20 (nI n) mact mnow mkep (nI j)) (nI 0) (-1) (fillA mfre 0 (fun s => b01 (V j s)) 128) = _ ∧ _
    rw [h3]
    obtain ⟨oP, oLo, oHi, so, ha, hz, act, now, kep, c1, c2, c3⟩ := comes_sim hr (oP := va_up (va_up (va_up cP 5 (cP j)) 3 x) 4 y) (V := va_up (va_up (va_up V 3 a) 4 b) 5 (settle n 16384 (V j, 0)).1) (w := 5) (n := n) (f := (settle n 16384 (V j, 0)).1) (m := m') ((((((Keeps.rfl'.up 3 (by omega) _).up 4 (by omega) _).up 5 (by omega) _).upP 5 (by omega) _).upP 3 (by omega) _).upP 4 (by omega) _) (by omega) hj (by rw [up_ne (by decide), up_ne (by decide), up_at]; exact hP) (fun t _ => by rw [up_at]) (okF_mk hn h0 (settle_in hn 16384 (V j, 0) hi)) h2
    rw [c1, bd7_s, c2, bd4_s]
    exact ⟨_, _, _, _, _, _, _, _, _, _, _, _, rfl, rfl, c3⟩
  · rw [e1, bdo_n, e2, bd1_s, i00]
    exact ⟨_, _, _, _, _, _, _, _, _, _, _, _, rfl, rfl, hr⟩
end SIM
