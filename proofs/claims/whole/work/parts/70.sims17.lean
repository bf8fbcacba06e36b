/-! steps from set to set -/
def exB (c : Nat → Bool) : Nat → Bool
  | 0 => false
  | n + 1 => exB c n || c n
theorem exB_iff {c : Nat → Bool} {n : Nat} : exB c n = true ↔ ∃ k, k < n ∧ c k = true := by
  induction n with
  | zero => exact ⟨(fun h => by cases h), (fun ⟨k, h, _⟩ => by omega)⟩
  | succ n ih =>
    show (exB c n || c n) = true ↔ _
    rw [Bool.or_eq_true, ih]
    constructor
    · rintro (⟨k, h1, h2⟩ | h)
      · exact ⟨k, by omega, h2⟩
      · exact ⟨n, by omega, h⟩
    · rintro ⟨k, h1, h2⟩
      by_cases e : k = n
      · subst e; exact Or.inr h2
      · exact Or.inl ⟨k, by omega, h2⟩
def WL (f : Nat → Bool) (a : Nat) : Nat → (Nat → Bool) × (Nat → Bool)
  | 0 => (fun s => s == a, f)
  | d + 1 => (fun s => ((WL f a d).2 s && !(WL f a d).1 s) && exB (fun t => (WL f a d).1 t && (t &&& s == 0)) 128, fun s => (WL f a d).2 s && !(WL f a d).1 s)
def LD (f : Nat → Bool) (a d : Nat) : Nat → Bool := (WL f a d).1
def LU (f : Nat → Bool) (a d : Nat) : Nat → Bool := (WL f a d).2
section
variable {f : Nat → Bool} {a : Nat}
theorem LU_succ (d s : Nat) : LU f a (d + 1) s = (LU f a d s && !LD f a d s) := rfl
theorem LD_succ (d s : Nat) : LD f a (d + 1) s = (LU f a (d + 1) s && exB (fun t => LD f a d t && (t &&& s == 0)) 128) := rfl
theorem LD_LU (ha : f a = true) (d s : Nat) (h : LD f a d s = true) : LU f a d s = true := by
  cases d with
  | zero =>
    have : (s == a) = true := h
    rw [beq_iff_eq] at this
    subst this
    exact ha
  | succ d =>
    rw [LD_succ, Bool.and_eq_true] at h
    exact h.1
theorem LU_f (d s : Nat) (h : LU f a d s = true) : f s = true := by
  induction d with
  | zero => exact h
  | succ d ih =>
    rw [LU_succ, Bool.and_eq_true] at h
    exact ih h.1
theorem LU_no {d e s : Nat} (h : LU f a d s = true) (he : e < d) : LD f a e s = false := by
  induction d with
  | zero => omega
  | succ d ih =>
    rw [LU_succ, Bool.and_eq_true, Bool.not_eq_true'] at h
    by_cases w : e = d
    · subst w; exact h.2
    · exact ih h.1 (by omega)
theorem LD_uniq (ha : f a = true) {d e s : Nat} (h1 : LD f a d s = true) (h2 : LD f a e s = true) : d = e := by
  rcases Nat.lt_trichotomy d e with q | q | q
  · rw [LU_no (LD_LU ha e s h2) q] at h1; cases h1
  · exact q
  · rw [LU_no (LD_LU ha d s h1) q] at h2; cases h2
theorem LD_none {d e : Nat} (h : ∀ s, s < 128 → LD f a d s = false) (hde : d < e) : ∀ s, LD f a e s = false := by
  induction e with
  | zero => omega
  | succ e ih =>
    intro s
    have hz : ∀ t, t < 128 → LD f a e t = false := by
      by_cases w : d = e
      · subst w; exact h
      · exact fun t _ => ih (by omega) t
    cases q : LD f a (e + 1) s with
    | false => rfl
    | true =>
      rw [LD_succ, Bool.and_eq_true, exB_iff] at q
      obtain ⟨_, t, h1, h2⟩ := q
      rw [hz t h1, Bool.false_and] at h2
      cases h2
theorem LD_cnt (hf : ∀ s, f s = true → s < 128) (ha : f a = true) {d s : Nat} (h : LD f a d s = true) : cnt (LU f a d) 128 + d ≤ 128 := by
  have hne : ∀ e, e < d → ∃ t, t < 128 ∧ LD f a e t = true := fun e he => Classical.byContradiction fun q => by
    have := LD_none (f := f) (a := a) (d := e) (e := d) (fun t ht => by
      cases w : LD f a e t with
      | false => rfl
      | true => exact absurd ⟨t, ht, w⟩ q) he s
    rw [this] at h; cases h
  have key : ∀ e, e ≤ d → cnt (LU f a e) 128 + e ≤ 128 := by
    intro e
    induction e with
    | zero => intro _; have := cnt_le (LU f a 0) 128; omega
    | succ e ih =>
      intro he
      have h1 := ih (by omega)
      obtain ⟨t, h2, h3⟩ := hne e (by omega)
      obtain ⟨h4, h5⟩ := cnt_sub_eq (a := LU f a (e + 1)) (b := LU f a e) (N := 128) (fun u _ hu => by rw [LU_succ, Bool.and_eq_true] at hu; exact hu.1)
      have h6 : cnt (LU f a (e + 1)) 128 ≠ cnt (LU f a e) 128 := fun q => by
        have := h5.mp q t h2 (LD_LU ha e t h3)
        rw [LU_succ, h3, Bool.not_true, Bool.and_false] at this
        cases this
      omega
  exact key d (Nat.le_refl d)
theorem LD_127 (hf : ∀ s, f s = true → s < 128) (ha : f a = true) {d s : Nat} (h : LD f a d s = true) : d ≤ 127 := by
  have h1 := LD_cnt hf ha h
  have h2 := LD_LU ha d s h
  have h3 : 0 < cnt (LU f a d) 128 := by
    have := cnt_sub_eq (a := fun _ => false) (b := LU f a d) (N := 128) (fun _ _ q => by cases q)
    rcases Nat.eq_zero_or_pos (cnt (LU f a d) 128) with q | q
    · have h4 := this.2.mp (by have := this.1; omega) s (hf s (LU_f d s h2)) h2
      cases h4
    · exact q
  omega
/-- what steps answers -/
def StP (f : Nat → Bool) (a b : Nat) (v : Int32) : Prop := (∃ d, LD f a d b = true ∧ v = nI d) ∨ ((∀ d, LD f a d b = false) ∧ v = -1)
theorem StP_uniq (ha : f a = true) {b : Nat} {v w : Int32} (h1 : StP f a b v) (h2 : StP f a b w) : v = w := by
  rcases h1 with ⟨d, p1, rfl⟩ | ⟨p1, rfl⟩ <;> rcases h2 with ⟨e, q1, rfl⟩ | ⟨q1, rfl⟩
  · rw [LD_uniq ha p1 q1]
  · rw [q1 d] at p1; cases p1
  · rw [p1 e] at q1; cases q1
  · rfl
theorem walk_V {cP : Nat → Int32} {V : Nat → Nat → Bool} {j n b : Nat} (hj : j < 3) (hP : cP j = nI n) (hn : n ≤ 7) (hi : inN n (V j)) (ha : V j a = true) (hb : b < 128) : ∃ v oP W, X8_walk cP (LO V) (HI V) j (nI a) (nI b) = some (v, oP, LO W, HI W) ∧ StP (V j) a b v ∧ Keeps cP oP (LO V) (LO W) (HI V) (HI W) := by
  have ha2 : a < 128 := hi.to hn a ha
  unfold X8_walk
  rw [clear_V, bd3_s, put_V ha2, bd2_s, become_V, bd3_s, up_at, bx_uu, hP]
  generalize hp0 : va_up (va_up cP 3 (nI n)) 5 (va_up cP 3 (nI n) j) = p
  have hKp : ∀ W, Keeps cP cP (LO V) (LO W) (HI V) (HI W) → Keeps cP p (LO V) (LO W) (HI V) (HI W) := fun W h => by
    rw [← hp0]; exact (h.upP 3 (by omega) _).upP 5 (by omega) _
  have hp3 : p 3 = nI n := by rw [← hp0, up_ne (by decide), up_at]
  refine lfp3_inv (F := X8_walk_h30 p (nI b)) (fun o => ∃ v oP W, o = some (v, oP, LO W, HI W) ∧ StP (V j) a b v ∧ Keeps cP oP (LO V) (LO W) (HI V) (HI W)) 128 (fun k x lo hi => x = nI k ∧ (∀ e, e < k → LD (V j) a e b = false) ∧ ∃ W, lo = LO W ∧ hi = HI W ∧ (∀ s, s < 128 → W 3 s = LD (V j) a k s) ∧ (∀ s, s < 128 → W 5 s = LU (V j) a k s) ∧ inN n (W 3) ∧ inN n (W 5) ∧ Keeps cP cP (LO V) (LO W) (HI V) (HI W)) (fun k x lo hi' hk hI => ?_) (fun x lo hi' hI => ?_) ⟨rfl, (fun e he => by omega), _, rfl, rfl, fun s _ => ?_, fun s _ => ?_, fun s h => ?_, fun s h => ?_, ?_⟩
  · obtain ⟨rfl, hno, W, rfl, rfl, h3, h5, hi3, hi5, hK⟩ := hI
    have hfl : (fun s => (W 5 s && !W 3 s)) = fun s => (W 5 s && !W 3 s) := rfl
    have body : ∀ r, X8_walk_h30 p (nI b) r (nI k) (LO W) (HI W) = (if b01 (W 3 b) = 0 then (if b01 (allB (fun s => !(toW n (upW n (W 3)) s && (W 5 s && !W 3 s))) 128) = 0 then r (nI (k + 1)) (LO (va_up (va_up W 5 (fun s => W 5 s && !W 3 s)) 3 (fun s => toW n (upW n (W 3)) s && (W 5 s && !W 3 s)))) (HI (va_up (va_up W 5 (fun s => W 5 s && !W 3 s)) 3 (fun s => toW n (upW n (W 3)) s && (W 5 s && !W 3 s)))) else some (-1, p, LO (va_up (va_up W 5 (fun s => W 5 s && !W 3 s)) 3 (fun s => toW n (upW n (W 3)) s && (W 5 s && !W 3 s))), HI (va_up (va_up W 5 (fun s => W 5 s && !W 3 s)) 3 (fun s => toW n (upW n (W 3)) s && (W 5 s && !W 3 s))))) else some (nI k, p, LO W, HI W)) := fun r => by
      unfold X8_walk_h30
      rw [if_neg (inn128 hk), holds_V hb, bd1_s, lose_V, bd2_s, closeUp_V hp3 hn, bd2_s, turnOver_V hp3 hn, bd2_s, keep_V, bd2_s, isEmpty_V, bd1_s, nI_1]
      simp only [up_at, bx_uu, up_ne (show (3 : Nat) ≠ 5 by decide), up_ne (show (5 : Nat) ≠ 3 by decide)]
    have hU : ∀ s, s < 128 → (W 5 s && !W 3 s) = LU (V j) a (k + 1) s := fun s hs => by rw [h5 s hs, h3 s hs, LU_succ]
    have hD : ∀ s, s < 128 → (toW n (upW n (W 3)) s && (W 5 s && !W 3 s)) = LD (V j) a (k + 1) s := fun s hs => by
      rw [hU s hs, LD_succ, Bool.and_comm]
      cases hu : LU (V j) a (k + 1) s with
      | false => rw [Bool.false_and, Bool.false_and]
      | true =>
        have hsn : s < 2 ^ n := hi s (LU_f _ s hu)
        have hxn := cmp_lt (n := n) (c := s) hsn
        have hq := pow_le7 hn
        rw [Bool.true_and, Bool.true_and, toW_eq n hn s hs, Bool.eq_iff_iff, up_iff hn hi3 (by omega), exB_iff]
        constructor
        · rintro ⟨_, t, q1, q2⟩
          have ht := hi3 t q1
          refine ⟨t, by omega, ?_⟩
          rw [← h3 t (by omega), q1, Bool.true_and, beq_iff_eq]
          exact (sub_cmp ht hsn).mp q2
        · rintro ⟨t, q1, q2⟩
          rw [Bool.and_eq_true, beq_iff_eq, ← h3 t q1] at q2
          exact ⟨hxn, t, q2.1, (sub_cmp (hi3 t q2.1) hsn).mpr q2.2⟩
    have hK2 : Keeps cP cP (LO V) (LO (va_up (va_up W 5 (fun s => W 5 s && !W 3 s)) 3 (fun s => toW n (upW n (W 3)) s && (W 5 s && !W 3 s)))) (HI V) (HI (va_up (va_up W 5 (fun s => W 5 s && !W 3 s)) 3 (fun s => toW n (upW n (W 3)) s && (W 5 s && !W 3 s)))) := (hK.up 5 (by omega) _).up 3 (by omega) _
    cases h3b : W 3 b with
    | true =>
      left
      exact ⟨_, fun r => by rw [body, h3b, bt0], _, _, _, rfl, Or.inl ⟨k, by rw [← h3 b hb]; exact h3b, rfl⟩, hKp _ hK⟩
    | false =>
      have hno2 : ∀ e, e < k + 1 → LD (V j) a e b = false := fun e he => by
        by_cases w : e = k
        · subst w; rw [← h3 b hb]; exact h3b
        · exact hno e (by omega)
      cases hem : allB (fun s => !(toW n (upW n (W 3)) s && (W 5 s && !W 3 s))) 128 with
      | true =>
        left
        refine ⟨_, fun r => by rw [body, h3b, bf0, hem, bt0], _, _, _, rfl, Or.inr ⟨fun d => ?_, rfl⟩, hKp _ hK2⟩
        rw [allB_iff] at hem
        have hz : ∀ s, s < 128 → LD (V j) a (k + 1) s = false := fun s hs => by
          have := hem s hs
          rw [hD s hs, Bool.not_eq_true'] at this
          exact this
        by_cases w : d < k + 1
        · exact hno2 d w
        · by_cases w2 : d = k + 1
          · subst w2; exact hz b hb
          · exact LD_none hz (by omega) b
      | false =>
        right
        refine ⟨_, _, _, fun r => by rw [body, h3b, bf0, hem, bf0], rfl, hno2, _, rfl, rfl, fun s hs => ?_, fun s hs => ?_, fun s h => ?_, fun s h => ?_, hK2⟩
        · rw [up_at]; exact hD s hs
        · rw [up_ne (by decide), up_at]; exact hU s hs
        · rw [up_at, Bool.and_eq_true, Bool.and_eq_true] at h
          exact hi5 s h.2.1
        · rw [up_ne (by decide), up_at, Bool.and_eq_true] at h
          exact hi5 s h.1
  · obtain ⟨rfl, hno, W, rfl, rfl, h3, h5, hi3, hi5, hK⟩ := hI
    refine ⟨some (-1, p, LO W, HI W), fun r => ?_, _, _, _, rfl, Or.inr ⟨fun d => ?_, rfl⟩, hKp _ hK⟩
    · unfold X8_walk_h30
      rw [if_pos i128]
    · cases w : LD (V j) a d b with
      | false => rfl
      | true =>
        rw [hno d (by have := LD_127 (hi.to hn) ha w; omega)] at w
        cases w
  · rw [up_ne (by decide), up_at, Bool.false_or]; rfl
  · rw [up_at, up_ne (by omega)]; rfl
  · rw [up_ne (by decide), up_at, Bool.false_or, beq_iff_eq] at h
    subst h
    exact hi s ha
  · rw [up_at, up_ne (by omega)] at h
    exact hi s h
  · exact ((Keeps.rfl'.up 3 (by omega) _).up 5 (by omega) _)

/-! the reference -/
def dI (f : Nat → Bool) (a : Nat) : Nat → Nat → Int32
  | 0, s => if s = a then 0 else -1
  | d + 1, s => if LD f a (d + 1) s = true then nI (d + 1) else dI f a d s
theorem dI_some {d e s : Nat} (ha : f a = true) (h : LD f a e s = true) (hed : e ≤ d) : dI f a d s = nI e := by
  induction d with
  | zero =>
    obtain rfl : e = 0 := by omega
    have : (s == a) = true := h
    rw [beq_iff_eq] at this
    show (if s = a then (0 : Int32) else -1) = _
    rw [if_pos this]; rfl
  | succ d ih =>
    show (if LD f a (d + 1) s = true then nI (d + 1) else dI f a d s) = _
    by_cases w : e = d + 1
    · subst w; rw [if_pos h]
    · rw [if_neg (fun q => w (LD_uniq ha h q)), ih (by omega)]
theorem dI_none {d s : Nat} (h : ∀ e, e ≤ d → LD f a e s = false) : dI f a d s = -1 := by
  induction d with
  | zero =>
    have : (s == a) = false := h 0 (Nat.le_refl 0)
    show (if s = a then (0 : Int32) else -1) = _
    rw [if_neg (fun q => by rw [q, beq_self_eq_true] at this; cases this)]
  | succ d ih =>
    show (if LD f a (d + 1) s = true then nI (d + 1) else dI f a d s) = _
    rw [h (d + 1) (Nat.le_refl _), if_neg Bool.false_ne_true, ih (fun e he => h e (by omega))]
theorem dI_cases (ha : f a = true) (d s : Nat) : (∃ e, e ≤ d ∧ LD f a e s = true ∧ dI f a d s = nI e) ∨ ((∀ e, e ≤ d → LD f a e s = false) ∧ dI f a d s = -1) := by
  by_cases w : ∃ e, e ≤ d ∧ LD f a e s = true
  · obtain ⟨e, h1, h2⟩ := w
    exact Or.inl ⟨e, h1, h2, dI_some ha h2 h1⟩
  · have h : ∀ e, e ≤ d → LD f a e s = false := fun e he => by
      cases q : LD f a e s with
      | false => rfl
      | true => exact absurd ⟨e, he, q⟩ w
    exact Or.inr ⟨h, dI_none h⟩
theorem LU_iff {d s : Nat} : LU f a d s = true ↔ f s = true ∧ ∀ e, e < d → LD f a e s = false := by
  constructor
  · intro h
    exact ⟨LU_f d s h, fun e he => LU_no h he⟩
  · rintro ⟨h1, h2⟩
    induction d with
    | zero => exact h1
    | succ d ih => rw [LU_succ, ih (fun e he => h2 e (by omega)), h2 d (by omega)]; rfl
theorem dI_eq (ha : f a = true) {d s : Nat} (hd : d < 128) : dI f a d s = nI d ↔ LD f a d s = true := by
  constructor
  · intro h
    rcases dI_cases ha d s with ⟨e, h1, h2, h3⟩ | ⟨_, h3⟩
    · rw [h3, nI_eq (by omega) (by omega)] at h
      subst h; exact h2
    · rw [h3] at h; exact absurd h (m1_ne (by omega))
  · intro h; exact dI_some ha h (Nat.le_refl d)
theorem dI_m1 (ha : f a = true) {d s : Nat} (hd : d < 128) : (f s = true ∧ dI f a d s = -1) ↔ LU f a (d + 1) s = true := by
  rw [LU_iff]
  constructor
  · rintro ⟨h1, h⟩
    refine ⟨h1, fun e he => ?_⟩
    rcases dI_cases ha d s with ⟨e', q1, q2, q3⟩ | ⟨q, _⟩
    · rw [q3] at h; exact absurd h (ne_m1 (by omega))
    · exact q e (by omega)
  · rintro ⟨h1, h2⟩
    exact ⟨h1, dI_none fun e he => h2 e (by omega)⟩
/-- within a level: the sets that were reached from the first T -/
def qB (f : Nat → Bool) (a d T s : Nat) : Bool := LU f a (d + 1) s && exB (fun t => LD f a d t && (t &&& s == 0)) T
theorem steps_in {mnow : Nat → Int32} {j n d T : Nat} {m : Nat → Int32} (hj : j < 3) (hM : FamM mnow (129 * j) (n, f)) (ha : f a = true) (hd : d < 128) (hT : T < 128) (hT2 : LD f a d T = true) (hm : ∀ s, s < 128 → m s = if qB f a d T s = true then nI (d + 1) else dI f a d s) : ∃ m', (∀ r, lfp2 (X9_steps_h124 r (nI T) mnow (nI j) (nI d)) 0 m = r (nI (T + 1)) m') ∧ ∀ s, s < 128 → m' s = if qB f a d (T + 1) s = true then nI (d + 1) else dI f a d s := by
  have hq : ∀ s, qB f a d (T + 1) s = (qB f a d T s || (LU f a (d + 1) s && (T &&& s == 0))) := fun s => by
    show (LU f a (d + 1) s && (exB (fun t => LD f a d t && (t &&& s == 0)) T || (LD f a d T && (T &&& s == 0)))) = _
    rw [hT2, Bool.true_and, Bool.and_or_distrib_left]; rfl
  have inner : ∀ k, k ≤ 128 → ∃ mk, (∀ r, lfp2 (X9_steps_h124 r (nI T) mnow (nI j) (nI d)) 0 m = lfp2 (X9_steps_h124 r (nI T) mnow (nI j) (nI d)) (nI k) mk) ∧ (∀ s, s < 128 → mk s = if (if s < k then qB f a d (T + 1) s else qB f a d T s) = true then nI (d + 1) else dI f a d s) := by
    intro k
    induction k with
    | zero => exact fun _ => ⟨m, fun r => rfl, fun s hs => by rw [if_neg (Nat.not_lt_zero s)]; exact hm s hs⟩
    | succ k ih =>
      intro hk
      obtain ⟨mk, e1, e2⟩ := ih (by omega)
      have hk2 : k < 128 := by omega
      have hcl : (nI k).toNatClampNeg = k := nI_clamp (by omega)
      have hcur : mk k = if qB f a d T k = true then nI (d + 1) else dI f a d k := by
        have := e2 k hk2
        rw [if_neg (Nat.lt_irrefl k)] at this
        exact this
      have keep : ∀ (mk' : Nat → Int32), (∀ s, s ≠ k → mk' s = mk s) → mk' k = (if qB f a d (T + 1) k = true then nI (d + 1) else dI f a d k) → ∀ s, s < 128 → mk' s = if (if s < k + 1 then qB f a d (T + 1) s else qB f a d T s) = true then nI (d + 1) else dI f a d s := by
        intro mk' h1 h2 s hs
        by_cases w : s = k
        · subst w
          rw [if_pos (Nat.lt_succ_self s)]
          exact h2
        · rw [h1 s w, e2 s hs]
          by_cases w2 : s < k
          · rw [if_pos w2, if_pos (show s < k + 1 by omega)]
          · rw [if_neg w2, if_neg (show ¬ s < k + 1 by omega)]
      by_cases hgo : (f k = true ∧ mk k = -1) ∧ T &&& k = 0
      · refine ⟨upd mk k (nI (d + 1)), fun r => (e1 r).trans (lfp2_step fun r2 => ?_), keep _ (fun s hs => by simp [upd, hs]) ?_⟩
        · unfold X9_steps_h124
          rw [if_neg (inn128 hk2), isIn9 hj hM hk2, bd1_s, hgo.1.1, bt0, gin_nI hk2 (by decide), hcl, if_pos hgo.1.2, land_nI', if_pos (by rw [hgo.2]; rfl), gin_nI hk2 (by decide), nI_1, nI_1]
        · have hz : qB f a d T k = false := by
            cases w : qB f a d T k with
            | false => rfl
            | true =>
              rw [w, if_pos rfl] at hcur
              exact absurd (hcur.symm.trans hgo.1.2) (ne_m1 (by omega))
          rw [hz, if_neg Bool.false_ne_true] at hcur
          have hu := (dI_m1 ha hd).mp ⟨hgo.1.1, hcur ▸ hgo.1.2⟩
          rw [hq, hz, hu, hgo.2]
          simp [upd]
      · refine ⟨mk, fun r => (e1 r).trans (lfp2_step fun r2 => ?_), keep _ (fun s hs => rfl) ?_⟩
        · unfold X9_steps_h124
          rw [if_neg (inn128 hk2), isIn9 hj hM hk2, bd1_s, gin_nI hk2 (by decide), hcl, land_nI', gin_nI hk2 (by decide), nI_1, nI_1]
          by_cases w1 : f k = true
          · rw [w1, bt0]
            by_cases w2 : mk k = -1
            · rw [if_pos w2, if_neg (show ¬ nI (T &&& k) = (0 : Int32) from fun w3 => hgo ⟨⟨w1, w2⟩, (nI_eq (b := 0) (by have := and_128l (b := k) hT; omega) (by omega)).mp w3⟩)]
            · rw [if_neg w2]
          · rw [Bool.not_eq_true] at w1
            rw [w1, bf0]
        · rw [hcur, hq]
          cases w : qB f a d T k with
          | true => rfl
          | false =>
            rw [w, if_neg Bool.false_ne_true] at hcur
            cases hu : LU f a (d + 1) k with
            | false => rfl
            | true =>
              have h1 := (dI_m1 ha hd).mpr hu
              have : (T &&& k == 0) = false := by
                rw [beq_eq_false_iff_ne]
                exact fun q => hgo ⟨⟨h1.1, hcur.trans h1.2⟩, q⟩
              rw [this]; rfl
  obtain ⟨mk, e1, e2⟩ := inner 128 (Nat.le_refl _)
  refine ⟨mk, fun r => (e1 r).trans (lfp2_done fun r2 => ?_), fun s hs => ?_⟩
  · unfold X9_steps_h124
    rw [if_pos i128, nI_1]
  · rw [e2 s hs, if_pos hs]
theorem steps_lev {mnow : Nat → Int32} {j n d : Nat} {m : Nat → Int32} (hj : j < 3) (hM : FamM mnow (129 * j) (n, f)) (ha : f a = true) (hd : d < 128) (hm : ∀ s, s < 128 → m s = dI f a d s) : ∃ m', (∀ r, lfp2 (X9_steps_h98 r (nI d) mnow (nI j)) 0 m = r (nI (d + 1)) m') ∧ ∀ s, s < 128 → m' s = dI f a (d + 1) s := by
  have inner : ∀ T, T ≤ 128 → ∃ mk, (∀ r, lfp2 (X9_steps_h98 r (nI d) mnow (nI j)) 0 m = lfp2 (X9_steps_h98 r (nI d) mnow (nI j)) (nI T) mk) ∧ ∀ s, s < 128 → mk s = if qB f a d T s = true then nI (d + 1) else dI f a d s := by
    intro T
    induction T with
    | zero =>
      exact fun _ => ⟨m, fun r => rfl, fun s hs => by
        have : qB f a d 0 s = false := Bool.and_false _
        rw [this, if_neg Bool.false_ne_true]; exact hm s hs⟩
    | succ T ih =>
      intro hT
      obtain ⟨mk, e1, e2⟩ := ih (by omega)
      have hT2 : T < 128 := by omega
      have hcl : (nI T).toNatClampNeg = T := nI_clamp (by omega)
      cases hD : LD f a d T with
      | true =>
        obtain ⟨m', g1, g2⟩ := steps_in hj hM ha hd hT2 hD e2
        refine ⟨m', fun r => (e1 r).trans (lfp2_step fun r2 => ?_), g2⟩
        unfold X9_steps_h98
        rw [if_neg (inn128 hT2), gin_nI hT2 (by decide), hcl, if_pos, g1]
        rw [e2 T hT2, (dI_eq ha hd).mpr hD]
        have : qB f a d T T = false := by
          cases w : qB f a d T T with
          | false => rfl
          | true =>
            unfold qB at w
            rw [Bool.and_eq_true] at w
            rw [LU_no w.1 (Nat.lt_succ_self d)] at hD; cases hD
        rw [this, if_neg Bool.false_ne_true]
      | false =>
        refine ⟨mk, fun r => (e1 r).trans (lfp2_step fun r2 => ?_), fun s hs => ?_⟩
        · unfold X9_steps_h98
          rw [if_neg (inn128 hT2), gin_nI hT2 (by decide), hcl, if_neg, nI_1]
          rw [e2 T hT2]
          intro w
          by_cases w2 : qB f a d T T = true
          · rw [if_pos w2, nI_eq (by omega) (by omega)] at w; omega
          · rw [if_neg w2, dI_eq ha hd, hD] at w; cases w
        · rw [e2 s hs]
          have : qB f a d (T + 1) s = qB f a d T s := by
            show (LU f a (d + 1) s && (exB (fun t => LD f a d t && (t &&& s == 0)) T || (LD f a d T && (T &&& s == 0)))) = _
            rw [hD, Bool.false_and, Bool.or_false]; rfl
          rw [this]
  obtain ⟨mk, e1, e2⟩ := inner 128 (Nat.le_refl _)
  refine ⟨mk, fun r => (e1 r).trans (lfp2_done fun r2 => ?_), fun s hs => ?_⟩
  · unfold X9_steps_h98
    rw [if_pos i128, nI_1]
  · exact e2 s hs
theorem steps_9 {mnow : Nat → Int32} {j n b : Nat} {mint : Nat → Int32} (hj : j < 3) (hM : FamM mnow (129 * j) (n, f)) (hf : ∀ s, f s = true → s < 128) (ha : f a = true) (hb : b < 128) : ∃ v om, lfp2 (X9_steps_h45 (nI a) (nI b) mnow (nI j)) 0 mint = some (v, om) ∧ StP f a b v := by
  have ha2 := hf a ha
  have hclb : (nI b).toNatClampNeg = b := nI_clamp (by omega)
  have main : ∃ v om, lfp2 (X9_steps_h77 (nI b) mnow (nI j)) 0 (upd (fillA mint 0 (fun _ => -1) 128) a 0) = some (v, om) ∧ StP f a b v := by
    refine lfp2_inv (F := X9_steps_h77 (nI b) mnow (nI j)) (fun o => ∃ v om, o = some (v, om) ∧ StP f a b v) 128 (fun k x m => x = nI k ∧ (∀ e, e < k → LD f a e b = false) ∧ ∀ s, s < 128 → m s = dI f a k s) (fun k x m hk hI => ?_) (fun x m hI => ?_) ⟨rfl, (fun e he => by omega), fun s hs => ?_⟩
    · obtain ⟨rfl, hno, hm⟩ := hI
      rcases dI_cases ha k b with ⟨e, q1, q2, q3⟩ | ⟨q1, q2⟩
      · left
        refine ⟨some (nI e, m), fun r => ?_, _, _, rfl, Or.inl ⟨e, q2, rfl⟩⟩
        unfold X9_steps_h77
        rw [if_neg (inn128 hk), gin_nI hb (by decide), hclb, hm b hb, q3, if_neg (ne_m1 (by omega)), gin_nI hb (by decide)]
      · right
        obtain ⟨m', g1, g2⟩ := steps_lev hj hM ha hk hm
        refine ⟨_, m', fun r => ?_, rfl, fun e he => q1 e (by omega), g2⟩
        unfold X9_steps_h77
        rw [if_neg (inn128 hk), gin_nI hb (by decide), hclb, hm b hb, q2, if_pos rfl, g1]
    · obtain ⟨rfl, hno, hm⟩ := hI
      have hall : ∀ d, LD f a d b = false := fun d => by
        cases w : LD f a d b with
        | false => rfl
        | true => rw [hno d (by have := LD_127 hf ha w; omega)] at w; cases w
      refine ⟨some (-1, m), fun r => ?_, _, _, rfl, Or.inr ⟨hall, rfl⟩⟩
      unfold X9_steps_h77
      rw [if_pos i128, gin_nI hb (by decide), hclb, hm b hb, dI_none (fun e _ => hall e)]
    · show _ = (if s = a then (0 : Int32) else -1)
      by_cases w : s = a
      · simp [upd, w]
      · simp only [upd, w, if_false]
        exact fillA_in (Nat.zero_le s) (by omega)
  obtain ⟨v, om, h1, h2⟩ := main
  refine ⟨v, om, ?_, h2⟩
  rw [← h1]
  have := lfp2_fill (F := X9_steps_h45 (nI a) (nI b) mnow (nI j)) mint 0 0 128 (fun _ => -1) (y := lfp2 (X9_steps_h77 (nI b) mnow (nI j)) 0 (upd (fillA mint 0 (fun _ => -1) 128) a 0)) (fun k hk r => ?_) (fun r => ?_)
  · exact this
  · unfold X9_steps_h45
    rw [Nat.zero_add, Nat.zero_add, if_neg (inn128 hk), gin_nI hk (by decide), nI_clamp (by omega), nI_1]
  · unfold X9_steps_h45
    rw [Nat.zero_add, if_pos i128, gin_nI ha2 (by decide), nI_clamp (by omega)]
end
section SIM
variable {cP : Nat → Int32} {cLo : Nat → Int64} {cHi : Nat → Int64} {cpl : Nat → Int32} {ctb : Nat → Int32} {ctl : Int32} {ctf : Int32} {ctp : Int32} {ctk : Int32} {cts : Int32} {cth : Int32} {cob : Nat → Int32} {col : Int32} {cso : Nat → Int32} {cha : Int32} {chs : Int32} {cbe : Int32} {ctr : Int32} {cgl : Nat → Int64} {cgh : Nat → Int64} {cll : Nat → Int64} {clh : Nat → Int64} {cta : Nat → Int32} {cme : Nat → Int32} {cps : Int32} {cwh : Nat → Int32} {cal : Nat → Int64} {cah : Nat → Int64} {mthr : Int32} {mfrp : Int32} {mact : Int32} {mtpd : Int32} {msiz : Int32} {matx : Int32} {mfrm : Int32} {mtok : Int32} {mval : Int32} {mfk : Int32} {mfpl : Int32} {mbem : Int32} {mtrs : Int32} {mtrl : Int32} {mrom : Int32} {mtom : Int32} {mnow : Nat → Int32} {mfre : Nat → Int32} {mkep : Nat → Int32} {mtap : Nat → Int32} {mlef : Nat → Int32} {mtak : Nat → Int32} {mbes : Nat → Int32} {mrow : Nat → Int32} {mint : Nat → Int32} {mrnd : Nat → Int32} {mplo : Nat → Int32} {mhio : Nat → Int32} {mtox : Nat → Int32} {mtol : Nat → Int32}
theorem sim_steps {p1 p2 p3 : Int32} (hr : Rel cP cLo cHi ctb ctl ctf ctp cob col cso cha chs mact mtpd mfk mfpl mtom mnow mkep mtap mtol) : ∃ (r : Int32) (ocP : Nat → Int32) (ocLo : Nat → Int64) (ocHi : Nat → Int64) (omint : Nat → Int32), X8_steps cP cLo cHi p1 p2 p3 = some (r, ocP, ocLo, ocHi) ∧ X9_steps mnow mint p1 p2 p3 = some (r, omint) ∧ Rel ocP ocLo ocHi ctb ctl ctf ctp cob col cso cha chs mact mtpd mfk mfpl mtom mnow mkep mtap mtol := by
  obtain ⟨V, rfl, rfl, hV⟩ := toV cLo cHi
  unfold X8_steps X9_steps
  rcases famcase hV hr p1 with ⟨j, n, hj, rfl, h0, hn, hi, hP, hM, e1, e2⟩ | ⟨e1, e2⟩
  · have hq := pow_le7 hn
    rw [e1, bdo_s, isSet9 hj hM hn h0, bd1_s, X0_knows_eq hP hn, bd1_s]
    by_cases q : 0 ≤ p2.toInt ∧ p2.toInt < (2 : Int) ^ n
    · obtain ⟨a, ha1, ha2, rfl⟩ := set_of hn q
      rw [decide_eq_true q, bt0, bt0, isSet9 hj hM hn h0, bd1_s, X0_knows_eq hP hn, bd1_s]
      by_cases q' : 0 ≤ p3.toInt ∧ p3.toInt < (2 : Int) ^ n
      · obtain ⟨b, hb1, hb2, rfl⟩ := set_of hn q'
        rw [decide_eq_true q', bt0, bt0, holds_V ha2, bd1_s, isIn9 hj hM ha2, bd1_s]
        cases hva : V j a with
        | false =>
          rw [bf0, bf0]
          exact ⟨_, _, _, _, _, rfl, rfl, hr⟩
        | true =>
          rw [bt0, bt0, holds_V hb2, bd1_s, isIn9 hj hM hb2, bd1_s]
          cases hvb : V j b with
          | false =>
            rw [bf0, bf0]
            exact ⟨_, _, _, _, _, rfl, rfl, hr⟩
          | true =>
            rw [bt0, bt0]
            obtain ⟨v, om, h1, h2⟩ := steps_9 (mint := mint) hj hM (hi.to hn) hva hb2
            obtain ⟨w, oP, W, h3, h4, h5⟩ := walk_V hj hP hn hi hva hb2
            rw [h1, h3, bd4_s, StP_uniq hva h4 h2]
            exact ⟨_, _, _, _, _, rfl, rfl, hr.keep h5⟩
      · rw [decide_eq_false q', bf0, bf0]
        exact ⟨_, _, _, _, _, rfl, rfl, hr⟩
    · rw [decide_eq_false q, bf0, bf0]
      exact ⟨_, _, _, _, _, rfl, rfl, hr⟩
  · rw [e1, bdo_n, X9_isSet_out e2, bd1_s, i00]
    exact ⟨_, _, _, _, _, rfl, rfl, hr⟩
end SIM
