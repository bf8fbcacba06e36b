/-! names: like ones -/
section
variable {h : Nat → Nat} {n : Nat}
theorem im_bit (s : Nat) : ∀ k q, (im h s k).testBit q = true ↔ ∃ p, p < k ∧ s.testBit p = true ∧ h p = q := by
  intro k
  induction k with
  | zero =>
    intro q
    show Nat.testBit 0 q = true ↔ _
    rw [Nat.zero_testBit]
    exact ⟨(fun e => by cases e), (fun ⟨u, e, _⟩ => by omega)⟩
  | succ k ih =>
    intro q
    show (im h s k ||| (if s.testBit k = true then 2 ^ h k else 0)).testBit q = true ↔ _
    rw [Nat.testBit_or, Bool.or_eq_true, ih q]
    have e : (if s.testBit k = true then 2 ^ h k else 0).testBit q = true ↔ s.testBit k = true ∧ h k = q := by
      cases s.testBit k with
      | true => rw [if_pos rfl, Nat.testBit_two_pow, decide_eq_true_eq]; exact ⟨(fun w => ⟨rfl, w⟩), (fun w => w.2)⟩
      | false => rw [if_neg Bool.false_ne_true, Nat.zero_testBit]; exact ⟨(fun w => by cases w), (fun w => by cases w.1)⟩
    rw [e]
    constructor
    · rintro (⟨p, h1, h2⟩ | w)
      · exact ⟨p, by omega, h2⟩
      · exact ⟨k, by omega, w⟩
    · rintro ⟨p, h1, h2⟩
      by_cases w : p = k
      · subst w; exact Or.inr h2
      · exact Or.inl ⟨p, by omega, h2⟩
theorem im_lt (hh : ∀ p, p < n → h p < n) (s : Nat) : ∀ k, k ≤ n → im h s k < 2 ^ n := by
  intro k
  induction k with
  | zero => exact fun _ => Nat.two_pow_pos n
  | succ k ih =>
    intro hk
    refine Nat.or_lt_two_pow (ih (by omega)) ?_
    split
    · exact Nat.pow_lt_pow_right (by decide) (hh k (by omega))
    · exact Nat.two_pow_pos n
theorem im_at (hi : ∀ p, p < n → ∀ q, q < n → h p = h q → p = q) (s : Nat) {p : Nat} (hp : p < n) : (im h s n).testBit (h p) = s.testBit p := by
  rw [Bool.eq_iff_iff, im_bit]
  constructor
  · rintro ⟨q, h1, h2, h3⟩
    rw [← hi q h1 p hp h3]; exact h2
  · intro w; exact ⟨p, hp, w, rfl⟩
theorem im_inj (hi : ∀ p, p < n → ∀ q, q < n → h p = h q → p = q) {s t : Nat} (hs : s < 2 ^ n) (ht : t < 2 ^ n) (e : im h s n = im h t n) : s = t :=
  eqN hs ht fun p hp => by rw [← im_at hi s hp, ← im_at hi t hp, e]
theorem im_sur (hh : ∀ p, p < n → h p < n) (hi : ∀ p, p < n → ∀ q, q < n → h p = h q → p = q) {t : Nat} (ht : t < 2 ^ n) : ∃ s, s < 2 ^ n ∧ im h s n = t :=
  inj_surj (2 ^ n) (fun s => im h s n) (fun s _ => im_lt hh s n (Nat.le_refl n)) (fun s hs t ht e => im_inj hi hs ht e) t ht
/-- a swap of two points -/
def swS (a b s : Nat) : Nat := if s.testBit a = s.testBit b then s else sgm a b s
theorem swS_bit {a b : Nat} (hab : a ≠ b) (s p : Nat) : (swS a b s).testBit (hsw a b p) = s.testBit p := by
  unfold swS hsw
  by_cases w : s.testBit a = s.testBit b
  · rw [if_pos w]
    by_cases e : p = a
    · subst e; rw [if_pos rfl, w]
    · rw [if_neg e]
      by_cases e2 : p = b
      · subst e2; rw [if_pos rfl, w]
      · rw [if_neg e2]
  · rw [if_neg w]
    by_cases e : p = a
    · subst e
      rw [if_pos rfl, sgm_j hab]
      cases q1 : s.testBit p <;> cases q2 : s.testBit b <;> simp_all
    · rw [if_neg e]
      by_cases e2 : p = b
      · subst e2
        rw [if_pos rfl, sgm_i hab]
        cases q1 : s.testBit a <;> cases q2 : s.testBit p <;> simp_all
      · rw [if_neg e2]
        unfold sgm
        rw [flip_ne _ e, flip_ne _ e2]
theorem hsw_hsw {a b : Nat} (p : Nat) : hsw a b (hsw a b p) = p := by
  unfold hsw
  by_cases e : p = a
  · subst e
    rw [if_pos rfl]
    by_cases e2 : b = p
    · rw [if_pos e2]; exact e2
    · rw [if_neg e2, if_pos rfl]
  · by_cases e2 : p = b
    · subst e2; rw [if_neg e, if_pos rfl, if_pos rfl]
    · rw [if_neg e, if_neg e2, if_neg e, if_neg e2]
theorem hsw_lt {a b p : Nat} (ha : a < n) (hb : b < n) (hp : p < n) : hsw a b p < n := by
  unfold hsw
  split
  · exact hb
  · split
    · exact ha
    · exact hp
theorem swS_lt {a b s k : Nat} (ha : a < k) (hb : b < k) (hs : s < 2 ^ k) : swS a b s < 2 ^ k := by
  unfold swS
  split
  · exact hs
  · unfold sgm
    exact Nat.xor_lt_two_pow (Nat.xor_lt_two_pow hs (Nat.pow_lt_pow_right (by decide) hb)) (Nat.pow_lt_pow_right (by decide) ha)
theorem swS_q {a b : Nat} (hab : a ≠ b) (s q : Nat) : (swS a b s).testBit q = s.testBit (hsw a b q) := by
  have := swS_bit hab s (hsw a b q)
  rwa [hsw_hsw] at this
theorem swS_swS {a b : Nat} (hab : a ≠ b) (s : Nat) : swS a b (swS a b s) = s :=
  Nat.eq_of_testBit_eq fun q => by rw [swS_q hab, swS_q hab, hsw_hsw]
theorem im_congr {g : Nat → Nat} {s : Nat} : ∀ {k : Nat}, (∀ p, p < k → h p = g p) → im h s k = im g s k := by
  intro k
  induction k with
  | zero => exact fun _ => rfl
  | succ k ih =>
    intro e
    show im h s k ||| (if s.testBit k = true then 2 ^ h k else 0) = im g s k ||| (if s.testBit k = true then 2 ^ g k else 0)
    rw [ih (fun p hp => e p (by omega)), e k (by omega)]
theorem im_swap {a b : Nat} (hab : a ≠ b) (s : Nat) (k : Nat) : im (fun p => hsw a b (h p)) s k = swS a b (im h s k) :=
  Nat.eq_of_testBit_eq fun q => by
    rw [swS_q hab, Bool.eq_iff_iff, im_bit, im_bit]
    constructor
    · rintro ⟨p, h1, h2, h3⟩
      exact ⟨p, h1, h2, by rw [← h3, hsw_hsw]⟩
    · rintro ⟨p, h1, h2, h3⟩
      exact ⟨p, h1, h2, by show hsw a b (h p) = q; rw [h3, hsw_hsw]⟩
end
theorem exchange_V {cP : Nat → Int32} {V : Nat → Nat → Bool} {a b : Nat} (ha : a < 7) (hb : b < 7) (hab : a ≠ b) : ∃ oP W, X0_exchange cP (LO V) (HI V) 3 (nI a) (nI b) 4 5 = some (oP, LO W, HI W) ∧ (∀ s, W 3 s = V 3 (swS a b s)) ∧ (∀ i, i ≠ 3 → i ≠ 4 → i ≠ 5 → W i = V i) ∧ (∀ i, i ≠ 4 → i ≠ 5 → oP i = cP i) := by
  unfold X0_exchange
  rw [becomeReplaced_V (by decide) ha hb hab, bd3_s, becomeReplaced_V (by decide) hb ha (Ne.symm hab), bd3_s, join_V, bd2_s, become_V, bd3_s, keepLacking_V ha, bd2_s, keepLacking_V hb, bd2_s, keepWith_V ha, bd2_s, keepWith_V hb, bd2_s, join_V, bd2_s, join_V, bd2_s]
  refine ⟨_, _, rfl, fun s => ?_, fun i h3 h4 h5 => ?_, fun i h4 h5 => ?_⟩
  · simp only [up_at, bx_uu, up_ne (show (3 : Nat) ≠ 4 by decide), up_ne (show (3 : Nat) ≠ 5 by decide), up_ne (show (4 : Nat) ≠ 3 by decide), up_ne (show (4 : Nat) ≠ 5 by decide), up_ne (show (5 : Nat) ≠ 3 by decide), up_ne (show (5 : Nat) ≠ 4 by decide)]
    unfold rpF swS
    rw [sgm_comm]
    cases s.testBit a <;> cases s.testBit b <;> simp
  · simp only [up_ne h3, up_ne h4, up_ne h5]
  · simp only [up_ne h4, up_ne h5]
/-! the class's loop -/
def gooB (n : Nat) (F G : Nat → Bool) (h : List Nat) : Bool := allB (fun s => F s == G (im (hf h) s n)) (2 ^ n)
theorem hf_map {h : List Nat} {g : Nat → Nat} {p : Nat} (hp : p < h.length) : hf (h.map g) p = g (hf h p) := by
  unfold hf
  rw [List.getD_eq_getElem?_getD, List.getD_eq_getElem?_getD, List.getElem?_map, List.getElem?_eq_getElem hp]; rfl
/-- an order of n points -/
def Ord (n : Nat) (h : List Nat) : Prop := h.length = n ∧ (∀ p, p < n → hf h p < n) ∧ (∀ p, p < n → ∀ q, q < n → hf h p = hf h q → p = q)
theorem Ord.swap {n : Nat} {h : List Nat} (o : Ord n h) {a b : Nat} (ha : a < n) (hb : b < n) : Ord n (h.map (hsw a b)) := by
  refine ⟨by rw [List.length_map]; exact o.1, fun p hp => ?_, fun p hp q hq e => ?_⟩
  · rw [hf_map (by rw [o.1]; exact hp)]; exact hsw_lt ha hb (o.2.1 p hp)
  · rw [hf_map (by rw [o.1]; exact hp), hf_map (by rw [o.1]; exact hq)] at e
    have := congrArg (hsw a b) e
    rw [hsw_hsw, hsw_hsw] at this
    exact o.2.2 p hp q hq this
/-- the family that an order makes of F -/
def Img (n : Nat) (F g : Nat → Bool) (h : List Nat) : Prop := inN n g ∧ ∀ s, s < 2 ^ n → g (im (hf h) s n) = F s
theorem Img_same {n : Nat} {F g G : Nat → Bool} {h : List Nat} (hn : n ≤ 7) (o : Ord n h) (hi : Img n F g h) (hG : inN n G) : allB (fun s => g s == G s) 128 = gooB n F G h := by
  have hq := pow_le7 hn
  rw [Bool.eq_iff_iff]
  unfold gooB
  rw [allB_iff, allB_iff]
  constructor
  · intro w s hs
    have := w (im (hf h) s n) (Nat.lt_of_lt_of_le (im_lt o.2.1 s n (Nat.le_refl n)) hq)
    rw [beq_iff_eq, hi.2 s hs] at this
    rw [beq_iff_eq]; exact this
  · intro w t ht
    rw [beq_iff_eq]
    by_cases q : t < 2 ^ n
    · obtain ⟨s, hs, rfl⟩ := im_sur o.2.1 o.2.2 q
      have := w s hs
      rw [beq_iff_eq] at this
      rw [hi.2 s hs]; exact this
    · cases e1 : g t with
      | true => exact absurd (hi.1 t e1) q
      | false =>
        cases e2 : G t with
        | true => exact absurd (hG t e2) q
        | false => rfl
theorem namings_run {n j1 j2 : Nat} {F G : Nat → Bool} (hn : n ≤ 7) (hj1 : j1 < 3) (hj2 : j2 < 3) (hG : inN n G) : ∀ f i c h cnt (cpl cP : Nat → Int32) (V : Nat → Nat → Bool), hend n f i c = true → 0 < i → i ≤ n → c.length = 7 → (∀ t, t < 7 → cpl t = nI (c.getD t 0) ∧ c.getD t 0 ≤ t) → Ord n h → Img n F (V 3) h → V j2 = G → cP 3 = nI n → cP j1 = nI n → cP j2 = nI n → f ≤ 20000 → ∃ oP W ocpl, lfp7 (X8_namings_h55 j1 j2) (nI cnt) (nI i) (nI (20000 - f)) cP (LO V) (HI V) cpl = some (nI (cnt + ((hvis n f i c h).map (fun h => b2n (gooB n F G h))).sum), oP, LO W, HI W, ocpl) ∧ Keeps cP oP (LO V) (LO W) (HI V) (HI W) := by
  intro f
  induction f with
  | zero => intro i c h cnt cpl cP V he; cases he
  | succ f ih =>
    intro i c h cnt cpl cP V he hi0 hin hc hcp ho hI hVG h3 h1 h2 hfu
    have ht : 20000 - (f + 1) + 1 = 20000 - f := by omega
    have hturn : ¬ (20000 : Int32) ≤ nI (20000 - (f + 1)) := nI_ge (b := 20000) (by omega) (by decide)
    by_cases q : n ≤ i
    · refine ⟨cP, V, cpl, lfp7_done fun r => ?_, Keeps.rfl'⟩
      unfold X8_namings_h55
      rw [if_neg hturn, h1, if_pos (nI_le q (by omega)), show hvis n (f + 1) i c h = [] from if_pos q]; rfl
    · have hcl : (nI i).toNatClampNeg = i := nI_clamp (by omega)
      obtain ⟨hc1, hc2⟩ := hcp i (by omega)
      by_cases w : i ≤ c.getD i 0
      · have e : hvis n (f + 1) i c h = hvis n f (i + 1) (c.set i 0) h := by
          show (if n ≤ i then _ else if i ≤ c.getD i 0 then _ else _) = _
          rw [if_neg q, if_pos w]
        have e2 : hend n (f + 1) i c = hend n f (i + 1) (c.set i 0) := by
          show (if n ≤ i then _ else if i ≤ c.getD i 0 then _ else _) = _
          rw [if_neg q, if_pos w]
        obtain ⟨oP, W, oc, g1, g2⟩ := ih (i + 1) (c.set i 0) h cnt (upd cpl i 0) cP V (by rw [← e2]; exact he) (by omega) (by omega) (by rw [List.length_set]; exact hc) (fun t ht => by
          by_cases k : t = i
          · subst k; rw [getD_set_eq (by omega)]; exact ⟨by simp [upd]; rfl, Nat.zero_le _⟩
          · rw [getD_set_ne (fun z => k z.symm)]; exact ⟨by simp [upd, k]; exact (hcp t ht).1, (hcp t ht).2⟩) ho hI hVG h3 h1 h2 (by omega)
        refine ⟨oP, W, oc, (lfp7_step (fun r => ?_)).trans (g1.trans (by rw [e])), g2⟩
        unfold X8_namings_h55
        rw [if_neg hturn, h1, if_neg (nI_ge (by omega) (by omega)), gin_nI (by omega) (by decide), hcl, hc1, if_pos (nI_le w (by omega)), gin_nI (by omega) (by decide), nI_1, nI_1, ht]
      · obtain ⟨a, ha⟩ : ∃ a, a = if i % 2 = 0 then 0 else c.getD i 0 := ⟨_, rfl⟩
        have hai : a < i := by rw [ha]; split <;> omega
        have e : hvis n (f + 1) i c h = h.map (hsw a i) :: hvis n f 1 (c.set i (c.getD i 0 + 1)) (h.map (hsw a i)) := by
          show (if n ≤ i then _ else if i ≤ c.getD i 0 then _ else _) = _
          rw [if_neg q, if_neg w, ← ha]
        have e2 : hend n (f + 1) i c = hend n f 1 (c.set i (c.getD i 0 + 1)) := by
          show (if n ≤ i then _ else if i ≤ c.getD i 0 then _ else _) = _
          rw [if_neg q, if_neg w]
        obtain ⟨oP1, W1, x1, x2, x3, x4⟩ := exchange_V (cP := cP) (V := V) (a := a) (b := i) (by omega) (by omega) (by omega)
        have ho' := ho.swap (a := a) (b := i) (by omega) (by omega)
        have hI' : Img n F (W1 3) (h.map (hsw a i)) := by
          refine ⟨fun t ht => ?_, fun s hs => ?_⟩
          · rw [x2] at ht
            have := hI.1 _ ht
            have h5 := swS_lt (a := a) (b := i) (k := n) (by omega) (by omega) this
            rwa [swS_swS (by omega)] at h5
          · have hmap : im (hf (h.map (hsw a i))) s n = swS a i (im (hf h) s n) := by
              rw [← im_swap (by omega)]
              exact im_congr fun p hp => hf_map (by rw [ho.1]; exact hp)
            rw [x2, hmap, swS_swS (by omega)]
            exact hI.2 s hs
        have hW2 : W1 j2 = G := by rw [x3 j2 (by omega) (by omega) (by omega)]; exact hVG
        have hK1 : Keeps cP oP1 (LO V) (LO W1) (HI V) (HI W1) := fun j hj => by
          have hw : W1 j = V j := x3 j (by omega) (by omega) (by omega)
          exact ⟨x4 j (by omega) (by omega), by unfold LO; rw [hw], by unfold HI; rw [hw]⟩
        obtain ⟨oP, W, oc, g1, g2⟩ := ih 1 (c.set i (c.getD i 0 + 1)) (h.map (hsw a i)) (cnt + b2n (gooB n F G (h.map (hsw a i)))) (upd cpl i (nI (c.getD i 0 + 1))) oP1 W1 (by rw [← e2]; exact he) (by omega) (by omega) (by rw [List.length_set]; exact hc) (fun t ht => by
          by_cases k : t = i
          · subst k; rw [getD_set_eq (by omega)]; exact ⟨by simp [upd], by omega⟩
          · rw [getD_set_ne (fun z => k z.symm)]; exact ⟨by simp [upd, k]; exact (hcp t ht).1, (hcp t ht).2⟩) ho' hI' hW2 (by rw [x4 3 (by omega) (by omega)]; exact h3) (by rw [x4 j1 (by omega) (by omega)]; exact h1) (by rw [x4 j2 (by omega) (by omega)]; exact h2) (by omega)
        refine ⟨oP, W, oc, (lfp7_step (fun r => ?_)).trans (g1.trans (by rw [e, List.map_cons, List.sum_cons, Nat.add_assoc])), ?_⟩
        · have key : X8_namings_j106 cP (LO V) (HI V) (nI i) j2 r (nI cnt) (nI (20000 - (f + 1))) cpl (nI a) = r (nI (cnt + b2n (gooB n F G (h.map (hsw a i))))) 1 (nI (20000 - f)) oP1 (LO W1) (HI W1) (upd cpl i (nI (c.getD i 0 + 1))) := by
            unfold X8_namings_j106 X8_namings_j136
            rw [x1, bd3_s, sameAs_V, bd1_s, x4 3 (by omega) (by omega), h3, x4 j2 (by omega) (by omega), h2, decide_eq_true rfl, Bool.true_and, hW2, Img_same hn ho' hI' hG, ib0]
            cases gooB n F G (h.map (hsw a i)) with
            | true => rw [if_pos rfl, gin_nI (by omega) (by decide), gin_nI (by omega) (by decide), hcl, hc1, nI_1, nI_1, nI_1, ht]; rfl
            | false => rw [if_neg Bool.false_ne_true, gin_nI (by omega) (by decide), gin_nI (by omega) (by decide), hcl, hc1, Int32.add_zero, nI_1, nI_1, ht]; rfl
          unfold X8_namings_h55
          rw [if_neg hturn, h1, if_neg (nI_ge (by omega) (by omega)), gin_nI (by omega) (by decide), hcl, hc1, if_neg (nI_ge (by omega) (by omega)), show nI i - nI i / 2 * 2 = nI (i % 2) from pk_rem (d := 2) (by omega) (by decide) (by decide), gin_nI (by omega) (by decide)]
          by_cases k : i % 2 = 0
          · rw [k, if_pos (show nI 0 = 0 from rfl)]
            rw [if_pos k] at ha
            subst ha
            exact key
          · rw [if_neg (show ¬ nI (i % 2) = 0 from fun z => k ((nI_eq (b := 0) (by omega) (by decide)).mp z))]
            rw [if_neg k] at ha
            subst ha
            exact key
        · exact fun j hj => ⟨(g2 j hj).1.trans (hK1 j hj).1, (g2 j hj).2.1.trans (hK1 j hj).2.1, (g2 j hj).2.2.trans (hK1 j hj).2.2⟩
/-! the reference -/
theorem seek_N {T n q a k x5 v : Nat} {m : Nat → Int32} {r25 : Int32 → Int32 → Int32 → Int32 → (Nat → Int32) → Option (Int32 × (Nat → Int32))} (hT : T < 128) (ha : a < 7) (h1 : T.testBit a = false) (h2 : cnt (fun i => !T.testBit i) a = q) (hk : k < 7) : lfp2 (X9_names_h97 (nI T) (nI k) r25 (nI v) (nI x5) (nI n) m) (nI q) 0 = r25 (nI (T ||| 2 ^ a)) (nI v - nI v / (nI x5 / (nI n - nI k)) * (nI x5 / (nI n - nI k))) (nI x5 / (nI n - nI k)) (nI (k + 1)) (upd m k (nI a)) := by
  have hq := cnt_le (fun i => !T.testBit i) a
  have := lfp2_for (F := X9_names_h97 (nI T) (nI k) r25 (nI v) (nI x5) (nI n) m) (y := r25 (nI (T ||| 2 ^ a)) (nI v - nI v / (nI x5 / (nI n - nI k)) * (nI x5 / (nI n - nI k))) (nI x5 / (nI n - nI k)) (nI (k + 1)) (upd m k (nI a))) a (fun t => nI (q - cnt (fun i => !T.testBit i) t)) (fun t => nI t) (fun t ht r => ?_) (fun r => ?_)
  · exact this
  · have hc := cnt_succ (fun i => !T.testBit i) t
    have hm := cnt_mono (fun i => !T.testBit i) (show t + 1 ≤ a by omega)
    unfold X9_names_h97 X9_names_j112
    rw [X9_hasBit_eq hT (by omega), bd1_s]
    cases hb : T.testBit t with
    | true =>
      simp only [hb, Bool.not_true, Bool.false_eq_true, if_false] at hc
      rw [bt0, bd1_s, bt0, hc, nI_1, show nI (q - cnt (fun i => !T.testBit i) t) - (0 : Int32) = nI (q - cnt (fun i => !T.testBit i) t) from Int32.sub_zero _]; rfl
    | false =>
      simp only [hb, Bool.not_false, if_true] at hc
      rw [bf0, bd1_s, bf0, hc, nI_1, if_neg (show ¬ nI (q - cnt (fun i => !T.testBit i) t) ≤ (0 : Int32) from nI_ge (a := 0) (by omega) (by omega)), nI_m1 (by omega), Nat.sub_sub, nI_1]
  · unfold X9_names_h97
    rw [X9_hasBit_eq hT ha, bd1_s, h1, bf0, h2, Nat.sub_self, if_pos (show nI 0 ≤ (0 : Int32) by decide), gin_nI hk (by decide), nI_clamp (by omega), shl1 a (by omega), lor_nI', nI_1]
theorem lay_N {n : Nat} (hn : n ≤ 7) {mnow : Nat → Int32} {p1 p2 x4 x6 : Int32} {r17 : Int32 → Int32 → (Nat → Int32) → Option (Int32 × (Nat → Int32))} : ∀ j R T v k (m : Nat → Int32), k + j = n → R < 128 → T < 128 → (∀ p, p < 7 → R.testBit p = (decide (p < n) && !T.testBit p)) → pc R = j → v < fac j → lfp5 (X9_names_h65 (nI n) r17 x4 x6 mnow p1 p2) (nI T) (nI v) (nI (fac j)) (nI k) m = lfp2 (X9_names_h168 (nI n) r17 x4 x6 (fillL m k (layL j R v)) mnow p1 p2) 1 0 := by
  intro j
  induction j with
  | zero =>
    intro R T v k m hk hR hT hRT hp hv
    refine lfp5_done fun r => ?_
    unfold X9_names_h65
    rw [if_pos (nI_le (by omega) (by omega))]; rfl
  | succ j ih =>
    intro R T v k m hk hR hT hRT hp hv
    obtain ⟨a, h1, h2, h3, h4⟩ := pt_ex (R := R) (q := v / fac j) (by rw [hp]; exact div_facs hv)
    obtain ⟨c1, c2⟩ := clr_fact R hR a h1 h2
    obtain ⟨f1, f2⟩ := fac_7 j (by omega)
    obtain ⟨f3, _⟩ := fac_7 (j + 1) (by omega)
    have f0 := fac_pos j
    have ha2 : 2 ^ a < 128 := by have : 2 ^ a < 2 ^ 7 := Nat.pow_lt_pow_right (by decide) h1; exact this
    have hx : R ^^^ 2 ^ a < 128 := xor_128 hR ha2
    have hRa := hRT a h1
    rw [h2] at hRa
    have hTa : T.testBit a = false ∧ a < n := by
      have := hRa.symm
      rw [Bool.and_eq_true, decide_eq_true_eq, Bool.not_eq_true'] at this
      exact ⟨this.2, this.1⟩
    have hcnt : cnt (fun i => !T.testBit i) a = v / fac j := by
      rw [← h3]
      exact cnt_congr fun p hp => by rw [hRT p (by omega), decide_eq_true (by omega), Bool.true_and]
    have hdiv : fac (j + 1) / (j + 1) = fac j := Nat.mul_div_cancel_left _ (by omega)
    have e := ih (R ^^^ 2 ^ a) (T ||| 2 ^ a) (v % fac j) (k + 1) (upd m k (nI a)) (by omega) hx (or_128 hT ha2) (fun p hp => by
      rw [Nat.testBit_xor, Nat.testBit_or, Nat.testBit_two_pow, hRT p hp]
      by_cases w : a = p
      · subst w; simp [hTa.1, hTa.2]
      · simp [w]) (by omega) (Nat.mod_lt _ f0)
    refine (lfp5_step (fun r => ?_)).trans (e.trans ?_)
    · unfold X9_names_h65
      rw [if_neg (nI_ge (by omega) (by omega)), pk_sub (by omega), show n - k = j + 1 by omega, gnz_nI (by omega) (by omega), pk_div (by omega) (by omega) (by omega), hdiv, gnz_nI f0 (by omega), gnz_nI f0 (by omega), pk_div (by omega) f0 (by omega), seek_N hT h1 hTa.1 hcnt (by omega), pk_sub (by omega), show n - k = j + 1 by omega, pk_div (by omega) (by omega) (by omega), hdiv, pk_rem (by omega) f0 (by omega)]
    · rw [show layL (j + 1) R v = a :: layL j (R ^^^ 2 ^ a) (v % fac j) from by
        show ptN R (v / fac j) :: layL j (R ^^^ 2 ^ ptN R (v / fac j)) (v % fac j) = _
        rw [h4]]
      rfl
theorem named_9 {τ : Nat → Nat} {m : Nat → Int32} {n s : Nat} (hn : n ≤ 7) (hτ : ∀ p, p < n → τ p < n) (hm : ∀ p, p < n → m p = nI (τ p)) (hs : s < 128) : X9_named m (nI s) (nI n) = some (nI (im τ s n)) := by
  unfold X9_named
  have := lfp2_for (F := X9_named_h5 (nI n) (nI s) m) (y := some (nI (im τ s n))) n (fun k => nI (im τ s k)) (fun k => nI k) (fun k hk r => ?_) (fun r => ?_)
  · exact this
  · unfold X9_named_h5
    rw [if_neg (nI_ge hk (by omega)), X9_hasBit_eq hs (by omega), bd1_s, gin_nI (by omega) (by decide), nI_clamp (by omega), hm k hk, shl1 _ (by have := hτ k hk; omega), lor_nI', ib0, nI_1]
    show _ = r (nI (im τ s k ||| (if s.testBit k = true then 2 ^ τ k else 0))) _
    cases s.testBit k with
    | true => rfl
    | false => rw [if_neg Bool.false_ne_true, show nI (im τ s k) ||| (0 : Int32) = nI (im τ s k ||| 0) from lor_nI' _ 0]; rfl
  · unfold X9_named_h5
    rw [if_pos (nI_le (Nat.le_refl _) (by omega))]
theorem check_N {τ : Nat → Nat} {m mnow : Nat → Int32} {n j1 j2 x4 x6 : Nat} {F G : Nat → Bool} {r17 : Int32 → Int32 → (Nat → Int32) → Option (Int32 × (Nat → Int32))} (hn : n ≤ 7) (hj1 : j1 < 3) (hj2 : j2 < 3) (hM1 : FamM mnow (129 * j1) (n, F)) (hM2 : FamM mnow (129 * j2) (n, G)) (hτ : ∀ p, p < n → τ p < n) (hm : ∀ p, p < n → m p = nI (τ p)) : lfp2 (X9_names_h168 (nI n) r17 (nI x4) (nI x6) m mnow (nI j1) (nI j2)) 1 0 = r17 (nI (x4 + b2n (allB (fun s => !F s || G (im τ s n)) (2 ^ n)))) (nI (x6 + 1)) m := by
  have hq := pow_le7 hn
  have hstep : ∀ s, s < 2 ^ n → ∀ r, X9_names_h168 (nI n) r17 (nI x4) (nI x6) m mnow (nI j1) (nI j2) r 1 (nI s) = r (b01 (!F s || G (im τ s n))) (nI (s + 1)) := fun s hs r => by
    have hl : im τ s n < 2 ^ n := im_lt hτ s n (Nat.le_refl n)
    unfold X9_names_h168
    rw [shl1 n (by omega), if_neg (nI_ge hs (by omega)), i10, isIn9 hj1 hM1 (by omega), bd1_s, named_9 hn hτ hm (by omega), bd1_s, isIn9 hj2 hM2 (by omega), bd1_s, nI_1]
    cases F s <;> cases G (im τ s n) <;> rfl
  rcases first_or (fun s => !(!F s || G (im τ s n))) (2 ^ n) with ⟨s0, w1, w2, w3⟩ | w
  · rw [Bool.not_eq_true'] at w2
    have hall : allB (fun s => !F s || G (im τ s n)) (2 ^ n) = false := by
      cases e : allB (fun s => !F s || G (im τ s n)) (2 ^ n) with
      | false => rfl
      | true => rw [allB_iff] at e; rw [e s0 w1] at w2; cases w2
    have := lfp2_for (F := X9_names_h168 (nI n) r17 (nI x4) (nI x6) m mnow (nI j1) (nI j2)) (y := r17 (nI x4) (nI (x6 + 1)) m) (s0 + 1) (fun k => if k ≤ s0 then 1 else 0) (fun k => nI k) (fun k hk r => ?_) (fun r => ?_)
    · rw [hall]; exact this
    · rw [if_pos (show k ≤ s0 by omega), hstep k (by omega)]
      by_cases z : k = s0
      · subst z; rw [w2, if_neg (by omega)]; rfl
      · have := w3 k (by omega)
        rw [Bool.not_eq_false'] at this
        rw [this, if_pos (by omega)]; rfl
    · rw [if_neg (by omega)]
      unfold X9_names_h168 X9_names_j219
      rw [i00, i00, nI_1, Int32.add_zero]
      split <;> rfl
  · have hall : allB (fun s => !F s || G (im τ s n)) (2 ^ n) = true := by
      rw [allB_iff]; intro s hs
      have := w s hs
      rw [Bool.not_eq_false'] at this; exact this
    have := lfp2_for (F := X9_names_h168 (nI n) r17 (nI x4) (nI x6) m mnow (nI j1) (nI j2)) (y := r17 (nI (x4 + 1)) (nI (x6 + 1)) m) (2 ^ n) (fun _ => 1) (fun k => nI k) (fun k hk r => ?_) (fun r => ?_)
    · rw [hall]; exact this
    · rw [hstep k hk]
      have := w k hk
      rw [Bool.not_eq_false'] at this
      rw [this]; rfl
    · unfold X9_names_h168 X9_names_j219
      rw [shl1 n (by omega), if_pos (nI_le (Nat.le_refl _) (by omega)), i10, nI_1, nI_1]
/-! both tests are one, both sums are one -/
theorem cnt_1 {c : Nat → Bool} {p : Nat} : ∀ {N : Nat}, p < N → c p = true → (∀ q, q < N → q ≠ p → c q = false) → cnt c N = 1 := by
  intro N
  induction N with
  | zero => intro h; omega
  | succ N ih =>
    intro h1 h2 h3
    rw [cnt_succ]
    by_cases e : p = N
    · subst e
      have hz : cnt c p = cnt (fun _ => false) p := cnt_congr fun k hk => h3 k (by omega) (by omega)
      have hz2 : ∀ M, cnt (fun _ => false) M = 0 := fun M => by
        induction M with
        | zero => rfl
        | succ M ih => rw [cnt_succ, ih]; rfl
      rw [h2, hz, hz2]; rfl
    · rw [ih (by omega) h2 (fun q hq hne => h3 q (by omega) hne), h3 N (by omega) (fun z => e z.symm)]; rfl
theorem cnt_0 {c : Nat → Bool} {N : Nat} (h : ∀ q, q < N → c q = false) : cnt c N = 0 := by
  induction N with
  | zero => rfl
  | succ N ih => rw [cnt_succ, ih (fun q hq => h q (by omega)), h N (by omega)]; rfl
theorem cnt_bij {r : Nat → Nat} {N : Nat} (c : Nat → Bool) (h1 : ∀ s, s < N → r s < N) (h2 : ∀ s, s < N → ∀ t, t < N → r s = r t → s = t) : cnt (fun s => c (r s)) N = cnt c N := by
  have := sm_swap (fun s v => (r s == v) && c v) N N
  have e1 : sm (fun s => cnt (fun v => (r s == v) && c v) N) N = cnt (fun s => c (r s)) N := by
    rw [← sm_cnt]
    refine sm_congr fun s hs => ?_
    cases hb : c (r s) with
    | true => exact cnt_1 (p := r s) (h1 s hs) (by rw [beq_self_eq_true, hb]; rfl) (fun q _ hne => by rw [beq_eq_false_iff_ne.mpr (fun z => hne z.symm)]; rfl)
    | false =>
      refine cnt_0 fun q _ => ?_
      by_cases z : r s = q
      · rw [← z, hb, Bool.and_false]
      · rw [beq_eq_false_iff_ne.mpr z]; rfl
  have e2 : sm (fun v => cnt (fun s => (r s == v) && c v) N) N = cnt c N := by
    rw [← sm_cnt]
    refine sm_congr fun v hv => ?_
    cases hb : c v with
    | true =>
      obtain ⟨p, hp, hpv⟩ := inj_surj N r h1 h2 v hv
      exact cnt_1 (p := p) hp (by rw [hpv, beq_self_eq_true]; rfl) (fun q hq hne => by rw [beq_eq_false_iff_ne.mpr (fun z => hne (h2 q hq p hp (z.trans hpv.symm)))]; rfl)
    | false => exact cnt_0 fun q _ => Bool.and_false _
  rw [← e1, this, e2]
theorem good_one {n : Nat} {F G : Nat → Bool} {h : List Nat} (o : Ord n h) (hc : cnt F (2 ^ n) = cnt G (2 ^ n)) : allB (fun s => !F s || G (im (hf h) s n)) (2 ^ n) = gooB n F G h := by
  have hb := cnt_bij (r := fun s => im (hf h) s n) (N := 2 ^ n) G (fun s _ => im_lt o.2.1 s n (Nat.le_refl n)) (fun s hs t ht e => im_inj o.2.2 hs ht e)
  unfold gooB
  rw [Bool.eq_iff_iff, allB_iff, allB_iff]
  constructor
  · intro w s hs
    have hsub : ∀ t, t < 2 ^ n → F t = true → G (im (hf h) t n) = true := fun t ht hF => by
      have := w t ht
      rw [hF, Bool.not_true, Bool.false_or] at this; exact this
    have := (cnt_sub_eq (a := F) (b := fun s => G (im (hf h) s n)) hsub).2.mp (by rw [hc, hb]) s hs
    rw [beq_iff_eq]
    cases hF : F s with
    | true => exact (hsub s hs hF).symm
    | false =>
      cases hG : G (im (hf h) s n) with
      | false => rfl
      | true => rw [this hG] at hF; cases hF
  · intro w s hs
    have := w s hs
    rw [beq_iff_eq] at this
    rw [this]
    cases G (im (hf h) s n) <;> rfl
theorem good_cnt {n : Nat} {F G : Nat → Bool} {h : List Nat} (o : Ord n h) (hg : gooB n F G h = true) : cnt F (2 ^ n) = cnt G (2 ^ n) := by
  have hb := cnt_bij (r := fun s => im (hf h) s n) (N := 2 ^ n) G (fun s _ => im_lt o.2.1 s n (Nat.le_refl n)) (fun s hs t ht e => im_inj o.2.2 hs ht e)
  rw [← hb]
  unfold gooB at hg
  rw [allB_iff] at hg
  exact cnt_congr fun s hs => beq_iff_eq.mp (hg s hs)
theorem ord_lex {n v : Nat} (hn : n ≤ 7) (hv : v < fac n) : Ord n (lexL n v) := by
  have hp : pc (2 ^ n - 1) = n ∧ 2 ^ n - 1 < 128 := by
    rcases (show n = 0 ∨ n = 1 ∨ n = 2 ∨ n = 3 ∨ n = 4 ∨ n = 5 ∨ n = 6 ∨ n = 7 by omega) with rfl | rfl | rfl | rfl | rfl | rfl | rfl | rfl <;> decide
  obtain ⟨i1, i2⟩ := layL_fn n (2 ^ n - 1) v hp.2 hp.1 hv
  refine ⟨layL_len n _ _, fun p hp => ?_, fun p hp q hq e => i2 p q hp hq e⟩
  have := i1 p hp
  rw [Nat.testBit_two_pow_sub_one, decide_eq_true_eq] at this
  exact this
theorem lay_inj : ∀ j R v v', R < 128 → pc R = j → v < fac j → v' < fac j → layL j R v = layL j R v' → v = v' := by
  intro j
  induction j with
  | zero => intro R v v' _ _ h1 h2 _; have h1' : v < 1 := h1; have h2' : v' < 1 := h2; omega
  | succ j ih =>
    intro R v v' hR hp h1 h2 e
    have e' : ptN R (v / fac j) :: layL j (R ^^^ 2 ^ ptN R (v / fac j)) (v % fac j) = ptN R (v' / fac j) :: layL j (R ^^^ 2 ^ ptN R (v' / fac j)) (v' % fac j) := e
    injection e' with e1 e2
    obtain ⟨a, a1, a2, a3, a4⟩ := pt_ex (R := R) (q := v / fac j) (by rw [hp]; exact div_facs h1)
    obtain ⟨b, b1, b2, b3, b4⟩ := pt_ex (R := R) (q := v' / fac j) (by rw [hp]; exact div_facs h2)
    rw [a4, b4] at e1 e2
    subst e1
    have hd : v / fac j = v' / fac j := by rw [← a3, b3]
    obtain ⟨c1, c2⟩ := clr_fact R hR a a1 a2
    have hx : R ^^^ 2 ^ a < 128 := x128 hR a1
    have hm := ih (R ^^^ 2 ^ a) (v % fac j) (v' % fac j) hx (by omega) (Nat.mod_lt _ (fac_pos j)) (Nat.mod_lt _ (fac_pos j)) e2
    rw [← Nat.div_add_mod v (fac j), ← Nat.div_add_mod v' (fac j), hd, hm]
theorem lay_ex : ∀ j R (h : List Nat), R < 128 → pc R = j → h.length = j → (∀ p, p < j → hf h p < 7 ∧ R.testBit (hf h p) = true) → (∀ p, p < j → ∀ q, q < j → hf h p = hf h q → p = q) → ∃ v, v < fac j ∧ layL j R v = h := by
  intro j
  induction j with
  | zero =>
    intro R h _ _ hl _ _
    refine ⟨0, Nat.one_pos, ?_⟩
    cases h with
    | nil => rfl
    | cons a h => cases hl
  | succ j ih =>
    intro R h hR hp hl hb hi
    cases h with
    | nil => cases hl
    | cons a h =>
      rw [List.length_cons] at hl
      obtain ⟨a1, a2⟩ : a < 7 ∧ R.testBit a = true := hb 0 (by omega)
      obtain ⟨c1, c2⟩ := clr_fact R hR a a1 a2
      have hx : R ^^^ 2 ^ a < 128 := x128 hR a1
      obtain ⟨v, hv, e⟩ := ih (R ^^^ 2 ^ a) h hx (by omega) (by omega) (fun p hp' => by
        obtain ⟨d1, d2⟩ : hf h p < 7 ∧ R.testBit (hf h p) = true := hb (p + 1) (by omega)
        refine ⟨d1, ?_⟩
        rw [flip_ne R (show hf h p ≠ a from fun w => by
          have := hi (p + 1) (by omega) 0 (by omega) w
          omega)]
        exact d2) (fun p hp' q hq' w => by
        have := hi (p + 1) (by omega) (q + 1) (by omega) w
        omega)
      have hq : cnt (fun i => R.testBit i) a < j + 1 := by rw [← hp]; exact cnt_lt a1 a2
      have f0 := fac_pos j
      have hdv : (cnt (fun i => R.testBit i) a * fac j + v) / fac j = cnt (fun i => R.testBit i) a := by
        rw [Nat.add_comm, Nat.add_mul_div_right _ _ f0, Nat.div_eq_of_lt hv, Nat.zero_add]
      have hmd : (cnt (fun i => R.testBit i) a * fac j + v) % fac j = v := by
        rw [Nat.add_comm, Nat.add_mul_mod_self_right, Nat.mod_eq_of_lt hv]
      have hpt : ptN R (cnt (fun i => R.testBit i) a) = a := ptF_at a2 7 0 _ (Nat.zero_le a) (by omega) rfl
      refine ⟨cnt (fun i => R.testBit i) a * fac j + v, ?_, ?_⟩
      · show _ < (j + 1) * fac j
        have h3 : (cnt (fun i => R.testBit i) a + 1) * fac j ≤ (j + 1) * fac j := Nat.mul_le_mul_right _ hq
        rw [Nat.succ_mul] at h3
        omega
      · show ptN R (_ / fac j) :: layL j (R ^^^ 2 ^ ptN R (_ / fac j)) (_ % fac j) = a :: h
        rw [hdv, hmd, hpt, e]
def cR (r : List Nat → Nat) (L : List (List Nat)) (v : Nat) : Nat := (L.map (fun h => if r h = v then 1 else 0)).sum
theorem cR_lin {r : List Nat → Nat} {N : Nat} (q : Nat → Nat) : ∀ L : List (List Nat), (∀ h, h ∈ L → r h < N) → (L.map (fun h => q (r h))).sum = sm (fun v => cR r L v * q v) N
  | [], _ => by
    rw [sm_congr (g := fun v => cR r [] v * q v) (h := fun _ => 0) (fun v _ => Nat.zero_mul _), sm_const, Nat.mul_zero]; rfl
  | h :: L, w => by
    have h1 := cR_lin q L (fun g hg => w g (List.mem_cons.mpr (Or.inr hg)))
    have h2 := sm_one (w h (List.mem_cons.mpr (Or.inl rfl))) true q
    rw [if_pos rfl] at h2
    show q (r h) + (L.map (fun h => q (r h))).sum = sm (fun v => ((if r h = v then 1 else 0) + cR r L v) * q v) N
    rw [h1, ← h2, ← sm_add]
    refine sm_congr fun v _ => ?_
    rw [Nat.add_mul]
    by_cases z : r h = v
    · subst z; rw [beq_self_eq_true, if_pos rfl, Bool.true_and, if_pos rfl]
    · rw [beq_eq_false_iff_ne.mpr z, if_neg z, Bool.false_and, if_neg Bool.false_ne_true]
theorem hf_ext : ∀ (l m : List Nat), l.length = m.length → (∀ p, p < l.length → hf l p = hf m p) → l = m := by
  intro l
  induction l with
  | nil =>
    intro m e _
    cases m with
    | nil => rfl
    | cons b m => cases e
  | cons a l ih =>
    intro m e w
    cases m with
    | nil => cases e
    | cons b m =>
      rw [List.length_cons, List.length_cons] at e
      have h0 : a = b := w 0 (by rw [List.length_cons]; omega)
      rw [h0, ih m (by omega) (fun p hp => w (p + 1) (by rw [List.length_cons]; omega))]
theorem hf_rmap {n p : Nat} (v : Nat → Nat) (hp : p < n) : hf ((List.range n).map v) p = v p := by
  unfold hf
  rw [List.getD_eq_getElem?_getD, List.getElem?_map, List.getElem?_range hp]; rfl
theorem ord_in {n : Nat} {h : List Nat} (hn : n ≤ 7) (o : Ord n h) : ∃ v, v < fac n ∧ lexL n v = h := by
  have hp : pc (2 ^ n - 1) = n ∧ 2 ^ n - 1 < 128 := by
    rcases (show n = 0 ∨ n = 1 ∨ n = 2 ∨ n = 3 ∨ n = 4 ∨ n = 5 ∨ n = 6 ∨ n = 7 by omega) with rfl | rfl | rfl | rfl | rfl | rfl | rfl | rfl <;> decide
  refine lay_ex n (2 ^ n - 1) h hp.2 hp.1 o.1 (fun p hp' => ?_) o.2.2
  have := o.2.1 p hp'
  exact ⟨by omega, by rw [Nat.testBit_two_pow_sub_one, decide_eq_true this]⟩
/-- how often an order is come by: once -/
theorem vis_once {n : Nat} {t : List Nat} (h0 : 0 < n) (hn : n ≤ 7) (o : Ord n t) : ((vis n).map (fun h => if h = t then 1 else 0)).sum = 1 := by
  have hone := oK_one n hn (fun q => if q < n then hf t q else q) ⟨fun q hq => by
    show (if q < n then hf t q else q) < n
    rw [if_pos hq]; exact o.2.1 q hq, fun p hp q hq w => by
    have w' : (if p < n then hf t p else p) = (if q < n then hf t q else q) := w
    rw [if_pos hp, if_pos hq] at w'
    exact o.2.2 p hp q hq w', fun q h1 _ => if_neg (by omega)⟩
  rw [(vis_eq h0 hn).1, List.map_map]
  refine Eq.trans ?_ hone
  unfold oK
  congr 1
  refine List.map_congr_left fun v hv => ?_
  show (if (List.range n).map v = t then 1 else 0) = b2n (allB (fun q => v q == if q < n then hf t q else q) 7)
  have key : (List.range n).map v = t ↔ allB (fun q => v q == if q < n then hf t q else q) 7 = true := by
    rw [allB_iff]
    constructor
    · intro e q hq
      rw [beq_iff_eq]
      by_cases w : q < n
      · rw [if_pos w, ← e, hf_rmap v w]
      · rw [if_neg w]; exact VK_fix n hn v hv q (by omega) hq
    · intro e
      refine hf_ext _ _ (by rw [List.length_map, List.length_range]; exact o.1.symm) fun p hp => ?_
      rw [List.length_map, List.length_range] at hp
      have := e p (by omega)
      rw [beq_iff_eq, if_pos hp] at this
      rw [hf_rmap v hp]; exact this
  by_cases w : (List.range n).map v = t
  · rw [if_pos w, key.mp w]; rfl
  · rw [if_neg w]
    cases z : allB (fun q => v q == if q < n then hf t q else q) 7 with
    | true => exact absurd (key.mpr z) w
    | false => rfl
theorem vis_ord {n : Nat} : ∀ (f i : Nat) (c h : List Nat), i ≤ n → (∀ t, c.getD t 0 ≤ t) → Ord n h → ∀ g, g ∈ hvis n f i c h → Ord n g := by
  intro f
  induction f with
  | zero => intro i c h _ _ _ g hg; cases hg
  | succ f ih =>
    intro i c h hin hc ho g hg
    by_cases q : n ≤ i
    · rw [show hvis n (f + 1) i c h = [] from if_pos q] at hg
      cases hg
    · by_cases w : i ≤ c.getD i 0
      · rw [(hvis_up q w).1] at hg
        refine ih (i + 1) (c.set i 0) h (by omega) (fun t => ?_) ho g hg
        by_cases z : i = t
        · subst z
          by_cases y : i < c.length
          · rw [getD_set_eq y]; exact Nat.zero_le _
          · rw [List.getD_eq_getElem?_getD, List.getElem?_eq_none (by rw [List.length_set]; omega)]; exact Nat.zero_le _
        · rw [getD_set_ne z]; exact hc t
      · rw [(hvis_go q w).1] at hg
        have hsw' : swK i (c.getD i 0) < n := by
          unfold swK
          split <;> omega
        have ho' := ho.swap hsw' (show i < n by omega)
        rcases List.mem_cons.mp hg with e | hg
        · rw [e]; exact ho'
        · refine ih 1 (c.set i (c.getD i 0 + 1)) _ (by omega) (fun t => ?_) ho' g hg
          by_cases z : i = t
          · subst z
            by_cases y : i < c.length
            · rw [getD_set_eq y]; omega
            · rw [List.getD_eq_getElem?_getD, List.getElem?_eq_none (by rw [List.length_set]; omega)]; exact Nat.zero_le _
          · rw [getD_set_ne z]; exact hc t
theorem hf_range {n p : Nat} (hp : p < n) : hf (List.range n) p = p := by
  unfold hf
  rw [List.getD_eq_getElem?_getD, List.getElem?_range hp]; rfl
theorem ord_range (n : Nat) : Ord n (List.range n) :=
  ⟨List.length_range, fun p hp => by rw [hf_range hp]; exact hp, fun p hp q hq e => by rwa [hf_range hp, hf_range hq] at e⟩
theorem vis_all {n : Nat} (h0 : 0 < n) (hn : n ≤ 7) (φ : List Nat → Nat) : ((vis n).map φ).sum = sm (fun v => φ (lexL n v)) (fac n) := by
  have hp : pc (2 ^ n - 1) = n ∧ 2 ^ n - 1 < 128 := by
    rcases (show n = 1 ∨ n = 2 ∨ n = 3 ∨ n = 4 ∨ n = 5 ∨ n = 6 ∨ n = 7 by omega) with rfl | rfl | rfl | rfl | rfl | rfl | rfl <;> decide
  have hord : ∀ h, h ∈ vis n → Ord n h := fun h hh => by
    unfold vis at hh
    rcases List.mem_cons.mp hh with e | hh
    · rw [e]; exact ord_range n
    · refine vis_ord 20000 1 [0, 0, 0, 0, 0, 0, 0] (List.range n) (by omega) (fun t => ?_) (ord_range n) h hh
      have : ([0, 0, 0, 0, 0, 0, 0] : List Nat).getD t 0 = 0 := by
        by_cases z : t < 7
        · rcases (show t = 0 ∨ t = 1 ∨ t = 2 ∨ t = 3 ∨ t = 4 ∨ t = 5 ∨ t = 6 by omega) with rfl | rfl | rfl | rfl | rfl | rfl | rfl <;> rfl
        · rw [List.getD_eq_getElem?_getD, List.getElem?_eq_none (show ([0, 0, 0, 0, 0, 0, 0] : List Nat).length ≤ t by show 7 ≤ t; omega)]; rfl
      rw [this]; exact Nat.zero_le t
  have hex : ∀ h, ∃ v, Ord n h → v < fac n ∧ lexL n v = h := fun h => by
    by_cases o : Ord n h
    · obtain ⟨v, hv⟩ := ord_in hn o
      exact ⟨v, fun _ => hv⟩
    · exact ⟨0, fun w => absurd w o⟩
  obtain ⟨r, hr⟩ : ∃ r : List Nat → Nat, ∀ h, Ord n h → r h < fac n ∧ lexL n (r h) = h := ⟨fun h => Classical.choose (hex h), fun h => Classical.choose_spec (hex h)⟩
  rw [show (vis n).map φ = (vis n).map (fun h => φ (lexL n (r h))) from List.map_congr_left fun h hh => by rw [(hr h (hord h hh)).2], cR_lin (r := r) (fun v => φ (lexL n v)) (vis n) (fun h hh => (hr h (hord h hh)).1)]
  refine sm_congr fun v hv => ?_
  have : cR r (vis n) v = 1 := by
    rw [← vis_once h0 hn (ord_lex hn hv)]
    unfold cR
    congr 1
    refine List.map_congr_left fun h hh => ?_
    obtain ⟨g1, g2⟩ := hr h (hord h hh)
    by_cases z : r h = v
    · rw [if_pos z, if_pos (by rw [← g2, z])]
    · rw [if_neg z, if_neg (show ¬ h = lexL n v from fun w => z (lay_inj n (2 ^ n - 1) (r h) v hp.2 hp.1 g1 hv (g2.trans w)))]
  rw [this, Nat.one_mul]
/-! the two namings -/
theorem img_range {n : Nat} {F : Nat → Bool} (hF : inN n F) : Img n F F (List.range n) := by
  refine ⟨hF, fun s hs => ?_⟩
  have o := ord_range n
  have : im (hf (List.range n)) s n = s := eqN (im_lt o.2.1 s n (Nat.le_refl n)) hs fun p hp => by
    have := im_at o.2.2 s hp
    rwa [hf_range hp] at this
  rw [this]
theorem namings_V {cP cpl : Nat → Int32} {V : Nat → Nat → Bool} {n j1 j2 : Nat} (h0 : 0 < n) (hn : n ≤ 7) (hj1 : j1 < 3) (hj2 : j2 < 3) (hP1 : cP j1 = nI n) (hP2 : cP j2 = nI n) (hi1 : inN n (V j1)) (hi2 : inN n (V j2)) : ∃ oP W oc, X8_namings cP (LO V) (HI V) cpl j1 j2 = some (nI (((vis n).map (fun h => b2n (gooB n (V j1) (V j2) h))).sum), oP, LO W, HI W, oc) ∧ Keeps cP oP (LO V) (LO W) (HI V) (HI W) := by
  have e1 : va_up V 3 (V j1) j2 = V j2 := up_ne (by omega)
  have e3 : va_up V 3 (V j1) 3 = V j1 := up_at
  obtain ⟨oP, W, oc, g1, g2⟩ := namings_run (F := V j1) (G := V j2) hn hj1 hj2 hi2 20000 1 [0, 0, 0, 0, 0, 0, 0] (List.range n) (b2n (gooB n (V j1) (V j2) (List.range n))) (fillA cpl 0 (fun _ => 0) 7) (va_up cP 3 (nI n)) (va_up V 3 (V j1)) (vis_eq h0 hn).2 (by decide) (by omega) rfl (fun t ht => by
    have : ([0, 0, 0, 0, 0, 0, 0] : List Nat).getD t 0 = 0 := by
      rcases (show t = 0 ∨ t = 1 ∨ t = 2 ∨ t = 3 ∨ t = 4 ∨ t = 5 ∨ t = 6 by omega) with rfl | rfl | rfl | rfl | rfl | rfl | rfl <;> rfl
    rw [this]
    exact ⟨fillA_in (Nat.zero_le t) (by omega), Nat.zero_le t⟩) (ord_range n) (by rw [e3]; exact img_range hi1) e1 up_at (by rw [up_ne (by omega)]; exact hP1) (by rw [up_ne (by omega)]; exact hP2) (Nat.le_refl _)
  refine ⟨oP, W, oc, ?_, fun j hj => ?_⟩
  · unfold X8_namings
    rw [become_V, bd3_s, sameAs_V, bd1_s, up_at, up_ne (by omega), hP1, hP2, decide_eq_true rfl, Bool.true_and, e1, e3, Img_same hn (ord_range n) (img_range hi1) hi2]
    have fill : ∀ y : Nat, X8_namings_j24 j1 j2 (va_up cP 3 (nI n)) (LO (va_up V 3 (V j1))) (HI (va_up V 3 (V j1))) cpl (nI y) = lfp7 (X8_namings_h55 j1 j2) (nI y) 1 0 (va_up cP 3 (nI n)) (LO (va_up V 3 (V j1))) (HI (va_up V 3 (V j1))) (fillA cpl 0 (fun _ => 0) 7) := fun y => by
      unfold X8_namings_j24
      refine lfp2_fill cpl 0 0 7 (fun _ => 0) (fun k hk r => ?_) (fun r => ?_)
      · unfold X8_namings_h28
        rw [Nat.zero_add, Nat.zero_add, if_neg (show ¬ (7 : Int32) ≤ nI k from nI_ge (b := 7) hk (by decide)), gin_nI hk (by decide), nI_clamp (by omega), nI_1]
      · unfold X8_namings_h28
        rw [Nat.zero_add, if_pos (show (7 : Int32) ≤ nI 7 by decide)]
    have hsum : ((vis n).map (fun h => b2n (gooB n (V j1) (V j2) h))).sum = b2n (gooB n (V j1) (V j2) (List.range n)) + ((hvis n 20000 1 [0, 0, 0, 0, 0, 0, 0] (List.range n)).map (fun h => b2n (gooB n (V j1) (V j2) h))).sum := by
      unfold vis
      rw [List.map_cons, List.sum_cons]
    rw [hsum, ← g1, ib0]
    cases gooB n (V j1) (V j2) (List.range n) with
    | true => exact fill 1
    | false => exact fill 0
  · have hk := ((Keeps.rfl' (cP := cP) (cLo := LO V) (cHi := HI V)).up 3 (by omega) (V j1)).upP 3 (by omega) (nI n)
    exact ⟨(g2 j hj).1.trans (hk j hj).1, (g2 j hj).2.1.trans (hk j hj).2.1, (g2 j hj).2.2.trans (hk j hj).2.2⟩
theorem rounds0_n {n : Nat} (hn : n ≤ 7) : X9_rounds0 (nI (n + 1)) = some (nI (fac n)) := by
  unfold X9_rounds0
  by_cases q : n = 0
  · subst q
    refine lfp2_done fun r => ?_
    unfold X9_rounds0_h4
    rw [if_pos (by decide)]; rfl
  · have := lfp2_for (F := X9_rounds0_h4 (nI (n + 1))) (y := some (nI (fac n))) (n - 1) (fun k => nI (fac (k + 1))) (fun k => nI (k + 2)) (fun k hk r => ?_) (fun r => ?_)
    · exact this
    · unfold X9_rounds0_h4
      rw [if_neg (nI_ge (by omega) (by omega)), pk_mul, nI_1, Nat.mul_comm]; rfl
    · unfold X9_rounds0_h4
      rw [if_pos (nI_le (by omega) (by omega)), show n - 1 + 1 = n by omega]
theorem names_9 {mnow mtox : Nat → Int32} {n j1 j2 : Nat} {F G : Nat → Bool} (h0 : 0 < n) (hn : n ≤ 7) (hj1 : j1 < 3) (hj2 : j2 < 3) (hM1 : FamM mnow (129 * j1) (n, F)) (hM2 : FamM mnow (129 * j2) (n, G)) (hF : inN n F) (hG : inN n G) : ∃ om, X9_names mnow mtox (nI j1) (nI j2) = some (nI (sm (fun v => b2n (gooB n F G (lexL n v))) (fac n)), om) := by
  have hq := pow_le7 hn
  have cF : cnt F 128 = cnt F (2 ^ n) := cnt_cut hq fun s _ h => hF s h
  have cG : cnt G 128 = cnt G (2 ^ n) := cnt_cut hq fun s _ h => hG s h
  have l1 := cnt_le F 128
  have l2 := cnt_le G 128
  obtain ⟨f1, f2⟩ := fac_7 n (by omega)
  unfold X9_names
  rw [points9 hj1 hM1, bd1_s, points9 hj2 hM2, bd1_s, if_pos rfl, many9 hj1 hM1, bd1_s, many9 hj2 hM2, bd1_s]
  by_cases e : cnt F 128 = cnt G 128
  · rw [if_pos (by rw [e]), nI_1, show X9_rounds0 (nI (n + 1)) = some (nI (fac n)) from rounds0_n (by omega), bd1_s]
    refine lfp3_inv (F := X9_names_h44 (nI (fac n)) (nI n) mnow (nI j1) (nI j2)) (fun o => ∃ om, o = some (nI (sm (fun v => b2n (gooB n F G (lexL n v))) (fac n)), om)) (fac n) (fun v a x _ => a = nI (sm (fun v => b2n (gooB n F G (lexL n v))) v) ∧ x = nI v) (fun v a x m hv hI => ?_) (fun a x m hI => ?_) ⟨rfl, rfl⟩
    · obtain ⟨rfl, rfl⟩ := hI
      right
      have o := ord_lex hn hv
      have hp : pc (2 ^ n - 1) = n ∧ 2 ^ n - 1 < 128 := by
        rcases (show n = 1 ∨ n = 2 ∨ n = 3 ∨ n = 4 ∨ n = 5 ∨ n = 6 ∨ n = 7 by omega) with rfl | rfl | rfl | rfl | rfl | rfl | rfl <;> decide
      refine ⟨nI (sm (fun v => b2n (gooB n F G (lexL n v))) (v + 1)), nI (v + 1), fillL m 0 (lexL n v), fun r => ?_, rfl, rfl⟩
      unfold X9_names_h44
      rw [if_neg (nI_ge hv (by omega))]
      refine (lay_N hn n (2 ^ n - 1) 0 v 0 m (by omega) hp.2 (by decide) (fun p hp => by rw [Nat.testBit_two_pow_sub_one, Nat.zero_testBit]; simp) hp.1 hv).trans ?_
      refine (check_N (τ := hf (lexL n v)) hn hj1 hj2 hM1 hM2 o.2.1 (fun p hp => ?_)).trans ?_
      · have := fillL_at (lexL n v) m 0 p (by rw [o.1]; exact hp)
        rw [Nat.zero_add] at this
        exact this.trans (rowAt_getD _ _ (by rw [o.1]; exact hp))
      · rw [good_one o (by rw [← cF, ← cG, e])]; rfl
    · obtain ⟨rfl, rfl⟩ := hI
      refine ⟨_, fun r => ?_, m, rfl⟩
      unfold X9_names_h44
      rw [if_pos (nI_le (Nat.le_refl _) (by omega))]
  · rw [if_neg (fun z => e ((nI_eq (by omega) (by omega)).mp z))]
    refine ⟨mtox, ?_⟩
    rw [sm_congr (g := fun v => b2n (gooB n F G (lexL n v))) (h := fun _ => 0) (fun v hv => ?_), sm_const, Nat.mul_zero]
    · rfl
    · cases z : gooB n F G (lexL n v) with
      | false => rfl
      | true => exact absurd (by rw [cF, cG]; exact good_cnt (ord_lex hn hv) z) e
section SIM
variable {cP : Nat → Int32} {cLo : Nat → Int64} {cHi : Nat → Int64} {cpl : Nat → Int32} {ctb : Nat → Int32} {ctl : Int32} {ctf : Int32} {ctp : Int32} {ctk : Int32} {cts : Int32} {cth : Int32} {cob : Nat → Int32} {col : Int32} {cso : Nat → Int32} {cha : Int32} {chs : Int32} {cbe : Int32} {ctr : Int32} {cgl : Nat → Int64} {cgh : Nat → Int64} {cll : Nat → Int64} {clh : Nat → Int64} {cta : Nat → Int32} {cme : Nat → Int32} {cps : Int32} {cwh : Nat → Int32} {cal : Nat → Int64} {cah : Nat → Int64} {mthr : Int32} {mfrp : Int32} {mact : Int32} {mtpd : Int32} {msiz : Int32} {matx : Int32} {mfrm : Int32} {mtok : Int32} {mval : Int32} {mfk : Int32} {mfpl : Int32} {mbem : Int32} {mtrs : Int32} {mtrl : Int32} {mrom : Int32} {mtom : Int32} {mnow : Nat → Int32} {mfre : Nat → Int32} {mkep : Nat → Int32} {mtap : Nat → Int32} {mlef : Nat → Int32} {mtak : Nat → Int32} {mbes : Nat → Int32} {mrow : Nat → Int32} {mint : Nat → Int32} {mrnd : Nat → Int32} {mplo : Nat → Int32} {mhio : Nat → Int32} {mtox : Nat → Int32} {mtol : Nat → Int32}
theorem sim_selves {p1 : Int32} (hr : Rel cP cLo cHi ctb ctl ctf ctp cob col cso cha chs mact mtpd mfk mfpl mtom mnow mkep mtap mtol) : ∃ (r : Int32) (ocP : Nat → Int32) (ocLo : Nat → Int64) (ocHi : Nat → Int64) (ocpl : Nat → Int32) (omtox : Nat → Int32), X8_selves cP cLo cHi cpl p1 = some (r, ocP, ocLo, ocHi, ocpl) ∧ X9_selves mnow mtox p1 = some (r, omtox) ∧ Rel ocP ocLo ocHi ctb ctl ctf ctp cob col cso cha chs mact mtpd mfk mfpl mtom mnow mkep mtap mtol := by
  obtain ⟨V, rfl, rfl, hV⟩ := toV cLo cHi
  unfold X8_selves X9_selves
  rcases famcase hV hr p1 with ⟨j, n, hj, rfl, h0, hn, hi, hP, hM, e1, e2⟩ | ⟨e1, e2⟩
  · obtain ⟨oP, W, oc, g1, g2⟩ := namings_V (cpl := cpl) h0 hn hj hj hP hP hi hi
    obtain ⟨om, g3⟩ := names_9 (mtox := mtox) h0 hn hj hj hM hM hi hi
    rw [e1, bdo_s, e2, bd1_s, i10, g1, bd5_s, g3, bd2_s, vis_all h0 hn]
    exact ⟨_, _, _, _, _, _, rfl, rfl, hr.keep g2⟩
  · rw [e1, bdo_n, e2, bd1_s, i00]
    exact ⟨_, _, _, _, _, _, rfl, rfl, hr⟩
theorem sim_alike {p1 p2 : Int32} (hr : Rel cP cLo cHi ctb ctl ctf ctp cob col cso cha chs mact mtpd mfk mfpl mtom mnow mkep mtap mtol) : ∃ (r : Int32) (ocP : Nat → Int32) (ocLo : Nat → Int64) (ocHi : Nat → Int64) (ocpl : Nat → Int32) (omtox : Nat → Int32), X8_alike cP cLo cHi cpl p1 p2 = some (r, ocP, ocLo, ocHi, ocpl) ∧ X9_alike mnow mtox p1 p2 = some (r, omtox) ∧ Rel ocP ocLo ocHi ctb ctl ctf ctp cob col cso cha chs mact mtpd mfk mfpl mtom mnow mkep mtap mtol := by
  obtain ⟨V, rfl, rfl, hV⟩ := toV cLo cHi
  unfold X8_alike X9_alike
  rcases famcase hV hr p1 with ⟨j, n, hj, rfl, h0, hn, hi, hP, hM, e1, e2⟩ | ⟨e1, e2⟩
  · rcases famcase hV hr p2 with ⟨j', n', hj', rfl, h0', hn', hi', hP', hM', e1', e2'⟩ | ⟨e1', e2'⟩
    · rw [e1, bdo_s, e1', bdo_s, e2, bd1_s, i10, e2', bd1_s, i10, hP, hP']
      by_cases q : n = n'
      · subst q
        obtain ⟨oP, W, oc, g1, g2⟩ := namings_V (cpl := cpl) h0 hn hj hj' hP hP' hi hi'
        obtain ⟨om, g3⟩ := names_9 (mtox := mtox) h0 hn hj hj' hM hM' hi hi'
        rw [if_pos rfl, g1, bd5_s, g3, bd2_s, vis_all h0 hn]
        by_cases z : nI (sm (fun v => b2n (gooB n (V j) (V j') (lexL n v))) (fac n)) ≤ 0
        · rw [if_pos z, if_pos z]
          exact ⟨_, _, _, _, _, _, rfl, rfl, hr.keep g2⟩
        · rw [if_neg z, if_neg z]
          exact ⟨_, _, _, _, _, _, rfl, rfl, hr.keep g2⟩
      · have hne : ¬ nI n = nI n' := fun z => q ((nI_eq (by omega) (by omega)).mp z)
        unfold X9_names
        rw [if_neg hne, points9 hj hM, bd1_s, points9 hj' hM', bd1_s, if_neg hne, bd2_s, if_pos (by decide)]
        exact ⟨_, _, _, _, _, _, rfl, rfl, hr⟩
    · rw [e1, bdo_s, e1', bdo_n, e2, bd1_s, i10, e2', bd1_s, i00]
      exact ⟨_, _, _, _, _, _, rfl, rfl, hr⟩
  · rw [e1, bdo_n, e2, bd1_s, i00]
    refine ⟨-2, cP, LO V, HI V, cpl, mtox, ?_, rfl, hr⟩
    rcases famcase hV hr p2 with ⟨j', n', hj', rfl, h0', hn', hi', hP', hM', e1', e2'⟩ | ⟨e1', e2'⟩
    · rw [e1', bdo_s]
    · rw [e1', bdo_n]
end SIM
