/-! a way with seven parts -/
section
variable {φ : Nat → Nat}
def usB (φ : Nat → Nat) (k q : Nat) : Bool := !allB (fun i => !(φ i == q)) k
theorem usB_iff {k q : Nat} : usB φ k q = true ↔ ∃ i, i < k ∧ φ i = q := by
  unfold usB
  rw [Bool.not_eq_true', allB_ff]
  constructor
  · rintro ⟨i, hi, e⟩; exact ⟨i, hi, by simpa using e⟩
  · rintro ⟨i, hi, e⟩; exact ⟨i, hi, by simpa using e⟩
theorem usB_f {k q : Nat} : usB φ k q = false ↔ ∀ i, i < k → φ i ≠ q := by
  constructor
  · intro h i hi e
    rw [usB_iff.mpr ⟨i, hi, e⟩] at h; cases h
  · intro h
    cases hv : usB φ k q with
    | false => rfl
    | true =>
      obtain ⟨i, hi, e⟩ := usB_iff.mp hv
      exact absurd e (h i hi)
def mN (φ : Nat → Nat) (k : Nat) : Nat := cnt (usB φ k) 7
theorem mN_le (k : Nat) : mN φ k ≤ 7 := cnt_le _ 7
theorem mN_old {k : Nat} (h : usB φ k (φ k) = true) : mN φ (k + 1) = mN φ k := cnt_congr fun q _ => by
  obtain ⟨j, hj, e⟩ := usB_iff.mp h
  rw [Bool.eq_iff_iff, usB_iff, usB_iff]
  constructor
  · rintro ⟨i, hi, e2⟩
    by_cases v : i = k
    · subst v; exact ⟨j, hj, e.trans e2⟩
    · exact ⟨i, by omega, e2⟩
  · rintro ⟨i, hi, e2⟩; exact ⟨i, by omega, e2⟩
theorem mN_new {k : Nat} (hk : φ k < 7) (h : usB φ k (φ k) = false) : mN φ (k + 1) = mN φ k + 1 := by
  have e1 : cnt (usB φ (k + 1)) 7 = cnt (fun q => usB φ k q || q == φ k) 7 := cnt_congr fun q _ => by
    rw [Bool.eq_iff_iff, usB_iff, Bool.or_eq_true, usB_iff, beq_iff_eq]
    constructor
    · rintro ⟨i, hi, e2⟩
      by_cases v : i = k
      · subst v; exact Or.inr e2.symm
      · exact Or.inl ⟨i, by omega, e2⟩
    · rintro (⟨i, hi, e2⟩ | e2)
      · exact ⟨i, by omega, e2⟩
      · exact ⟨k, by omega, e2.symm⟩
  have e2 : cnt (fun q => q == φ k) 7 = 1 := cnt_one hk fun t _ => beq_iff_eq
  have e3 := cnt_or (c := usB φ k) (d := fun q => q == φ k) (n := 7)
  have e4 : cnt (fun q => usB φ k q && q == φ k) 7 = 0 := cnt_false fun q _ => by
    by_cases v : q = φ k
    · rw [v, h]; rfl
    · rw [beq_eq_false_iff_ne.mpr v, Bool.and_false]
  unfold mN
  omega
theorem mN_mono {i j : Nat} (h : i ≤ j) : mN φ i ≤ mN φ j := (cnt_sub_eq fun t _ ht => by
  obtain ⟨a, ha, e⟩ := usB_iff.mp ht
  exact usB_iff.mpr ⟨a, by omega, e⟩).1
def fsN (φ : Nat → Nat) (q : Nat) : Nat → Nat → Nat
  | 0, s => s
  | f + 1, s => if φ s = q then s else fsN φ q f (s + 1)
theorem fsN_ok {q : Nat} : ∀ (f s : Nat), (∃ t, s ≤ t ∧ t ≤ s + f ∧ φ t = q) → s ≤ fsN φ q f s ∧ fsN φ q f s ≤ s + f ∧ φ (fsN φ q f s) = q ∧ ∀ t, s ≤ t → t < fsN φ q f s → φ t ≠ q := by
  intro f
  induction f with
  | zero =>
    rintro s ⟨t, h1, h2, h3⟩
    have e : t = s := by omega
    subst e
    exact ⟨Nat.le_refl _, Nat.le_refl _, h3, fun u a b => by have b' : u < t := b; omega⟩
  | succ f ih =>
    rintro s ⟨t, h1, h2, h3⟩
    unfold fsN
    by_cases e : φ s = q
    · rw [if_pos e]; exact ⟨Nat.le_refl _, by omega, e, fun u a b => by omega⟩
    · rw [if_neg e]
      have : t ≠ s := fun v => e (v ▸ h3)
      obtain ⟨a1, a2, a3, a4⟩ := ih (s + 1) ⟨t, by omega, by omega, h3⟩
      refine ⟨by omega, by omega, a3, fun u b1 b2 => ?_⟩
      by_cases v : u = s
      · rw [v]; exact e
      · exact a4 u (by omega) b2
def fsI (φ : Nat → Nat) (i : Nat) : Nat := fsN φ (φ i) i 0
theorem fsI_ok (i : Nat) : fsI φ i ≤ i ∧ φ (fsI φ i) = φ i ∧ ∀ t, t < fsI φ i → φ t ≠ φ i := by
  obtain ⟨_, a2, a3, a4⟩ := fsN_ok (φ := φ) (q := φ i) i 0 ⟨i, by omega, by omega, rfl⟩
  unfold fsI
  exact ⟨by omega, a3, fun t ht => a4 t (Nat.zero_le t) ht⟩
def psi (φ : Nat → Nat) (i : Nat) : Nat := mN φ (fsI φ i)
theorem fsI_new (i : Nat) : usB φ (fsI φ i) (φ (fsI φ i)) = false := by
  obtain ⟨a1, a2, a3⟩ := fsI_ok (φ := φ) i
  exact usB_f.mpr fun t ht => by rw [a2]; exact a3 t ht
theorem psi_new {k : Nat} (h : usB φ k (φ k) = false) : psi φ k = mN φ k := by
  obtain ⟨a1, a2, a3⟩ := fsI_ok (φ := φ) k
  have e : fsI φ k = k := by
    by_cases v : fsI φ k = k
    · exact v
    · exact absurd a2 (usB_f.mp h _ (by omega))
  unfold psi; rw [e]
theorem psi_hit : ∀ k, (∀ i, i < k → φ i < 7) → 0 < mN φ k → ∃ j, j < k ∧ psi φ j + 1 = mN φ k := by
  intro k
  induction k with
  | zero =>
    intro _ h
    have : mN φ 0 = 0 := cnt_false fun q _ => rfl
    omega
  | succ k ih =>
    intro hφ h
    cases hv : usB φ k (φ k) with
    | true =>
      rw [mN_old hv] at h
      obtain ⟨j, hj, e⟩ := ih (fun i hi => hφ i (by omega)) h
      exact ⟨j, by omega, by rw [mN_old hv]; exact e⟩
    | false => exact ⟨k, by omega, by rw [mN_new (hφ k (by omega)) hv, psi_new hv]⟩
theorem psi_lt {sz i : Nat} (hφ : ∀ i, i < sz → φ i < 7) (hi : i < sz) : psi φ i < 7 := by
  obtain ⟨a1, a2, a3⟩ := fsI_ok (φ := φ) i
  have h1 := mN_new (hφ (fsI φ i) (by omega)) (fsI_new i)
  have h2 := mN_le (φ := φ) (fsI φ i + 1)
  unfold psi; omega
theorem psi_rg {sz i : Nat} (hφ : ∀ i, i < sz → φ i < 7) (hi : i < sz) : psi φ i ≤ mxW (fun j => psi φ j + 1) i := by
  obtain ⟨a1, a2, a3⟩ := fsI_ok (φ := φ) i
  by_cases e : mN φ (fsI φ i) = 0
  · unfold psi; rw [e]; exact Nat.zero_le _
  · obtain ⟨j, hj, e2⟩ := psi_hit (φ := φ) (fsI φ i) (fun t ht => hφ t (by omega)) (by omega)
    have := mxW_ge (w := fun j => psi φ j + 1) (k := i) (i := j) (by omega)
    show mN φ (fsI φ i) ≤ _
    rw [← e2]; exact this
theorem psi_less {sz i j : Nat} (hφ : ∀ i, i < sz → φ i < 7) (hi : i < sz) (h : fsI φ i < fsI φ j) : psi φ i < psi φ j := by
  obtain ⟨a1, a2, a3⟩ := fsI_ok (φ := φ) i
  have h1 := mN_new (hφ (fsI φ i) (by omega)) (fsI_new i)
  have h2 := mN_mono (φ := φ) (show fsI φ i + 1 ≤ fsI φ j by omega)
  unfold psi; omega
theorem psi_eq {sz i j : Nat} (hφ : ∀ i, i < sz → φ i < 7) (hi : i < sz) (hj : j < sz) (h : psi φ i = psi φ j) : φ i = φ j := by
  by_cases v : fsI φ i = fsI φ j
  · rw [← (fsI_ok (φ := φ) i).2.1, v, (fsI_ok (φ := φ) j).2.1]
  · by_cases u : fsI φ i < fsI φ j
    · have := psi_less hφ hi u; omega
    · have := psi_less hφ hj (show fsI φ j < fsI φ i by omega); omega
end
theorem low7 : ∀ s, s < 128 → s ≠ 0 → ∃ p, p < 7 ∧ s.testBit p = true := by decide +kernel
theorem way7 {mem : Nat → Nat} {sz : Nat} (h128 : ∀ i, i < sz → mem i < 128) (h0 : ∀ i, i < sz → mem i ≠ 0) : ∃ ψ : Nat → Nat, (∀ i, i < sz → ψ i < 7 ∧ ψ i ≤ mxW (fun j => ψ j + 1) i) ∧ ∀ i, i < sz → ∀ j, j < sz → ψ i = ψ j → mem i &&& mem j ≠ 0 := by
  have hex : ∀ i, ∃ p, i < sz → p < 7 ∧ (mem i).testBit p = true := fun i => by
    by_cases hi : i < sz
    · obtain ⟨p, hp⟩ := low7 (mem i) (h128 i hi) (h0 i hi)
      exact ⟨p, fun _ => hp⟩
    · exact ⟨0, fun h => absurd h hi⟩
  obtain ⟨φ, hφ⟩ : ∃ φ : Nat → Nat, ∀ i, i < sz → φ i < 7 ∧ (mem i).testBit (φ i) = true := ⟨fun i => Classical.choose (hex i), fun i => Classical.choose_spec (hex i)⟩
  have h7 : ∀ i, i < sz → φ i < 7 := fun i hi => (hφ i hi).1
  refine ⟨psi φ, fun i hi => ⟨psi_lt h7 hi, psi_rg h7 hi⟩, fun i hi j hj e q => ?_⟩
  have e2 := psi_eq h7 hi hj e
  have h1 := (hφ i hi).2
  have h2 := (hφ j hj).2
  rw [← e2] at h2
  rw [and0_7.mp q _ h1] at h2
  cases h2
def LXw (ψ w : Nat → Nat) (k : Nat) : Prop := ∃ e, e ≤ k ∧ (∀ i, i < e → w i = ψ i + 1) ∧ w e ≤ ψ e
def krI (o : Nat) : Int32 := if o = 0 then 1 else if o = 1 then 0 else -3
theorem col_loop {cP cme mrow : Nat → Int32} {cal cah : Nat → Int64} {mem ψ : Nat → Nat} {f : Nat → Bool} {sz c lim : Nat} (hsz : sz ≤ 128) (hc : c ≤ 7) (hlim : lim ≤ 50000) (h128 : ∀ i, i < sz → mem i < 128) (hf : ∀ i, i < sz → f (mem i) = true) (hinj : ∀ i, i < sz → ∀ j, j < sz → mem i = mem j → i = j) (hme : ∀ i, i < sz → cme i = nI (mem i)) (hrow : ∀ i, i < sz → mrow i = nI (mem i)) (hA : ∀ i, i < sz → ∀ s, s < 128 → mbs (cal (mem i)) (cah (mem i)) s = (f s && decide (s &&& mem i = 0)))
    (hψ : (∀ i, i < sz → ψ i < 7 ∧ ψ i ≤ mxW (fun j => ψ j + 1) i) ∧ ∀ i, i < sz → ∀ j, j < sz → ψ i = ψ j → mem i &&& mem j ≠ 0) :
    ∀ (m k t : Nat) (w : Nat → Nat) (V : Nat → Nat → Bool) (cwh mint : Nat → Int32), 2 * lim + 1 ≤ 2 * t - k + m → k ≤ t → t ≤ lim → k ≤ sz → okW w c k → (k < sz → w k ≤ c ∧ w k ≤ mxW w k + 1) → (∀ i, i < sz → (i ≤ k → cwh i = wI (w i) ∧ mint i = wI (w i)) ∧ (k < i → cwh i = -1)) → PtR V mem w k → (c = 7 → k < sz → LXw ψ w k) →
      ∃ (o : Nat) (W : Nat → Nat → Bool) (cwh' mint' : Nat → Int32), lfp6 (X3_run_h14 (nI lim) cP cme (nI sz) cal cah (nI c)) (nI t) (nI k) (nI (2 * t - k)) (LO V) (HI V) cwh = some (nI o, cP, LO W, HI W, cme, nI sz, cwh', cal, cah) ∧ lfp3 (X9_colours0_h69 (nI sz) mrow (nI c)) (nI (lim - t)) (nI k) mint = some (krI o, nI sz, mrow, mint') ∧ (∀ i, i < 20 → W i = V i) ∧ (o = 0 → ∀ i, i < sz → cwh' i = mint' i) ∧ o < 3 ∧ (o = 1 → c ≠ 7) := by
  intro m
  induction m with
  | zero => intro k t w V cwh mint h0 h1 h2; omega
  | succ m ih =>
    intro k t w V cwh mint h0 h1 h2 h3 hW hwk hmap hV hLX
    have n1 : ¬ ((((2 : Int32) * nI lim) + (2 : Int32)) < nI (2 * t - k)) := by
      rw [show (2 : Int32) = nI 2 from rfl, pk_mul, nI_add]; exact nI_nlt (by omega) (by omega)
    by_cases hks : k = sz
    · refine ⟨0, V, cwh, mint, lfp6_done fun r => ?_, lfp3_done fun r => ?_, fun i _ => rfl, fun _ i hi => ?_, by decide, fun q => by cases q⟩
      · unfold X3_run_h14
        rw [if_neg n1, if_pos (nI_le (by omega) (by omega))]; rfl
      · unfold X9_colours0_h69
        rw [if_neg (nI_pos (by omega)), if_pos (nI_le (by omega) (by omega)), if_pos (nI_pos' (by omega))]; rfl
      · obtain ⟨a, b⟩ := (hmap i hi).1 (by omega)
        rw [a, b]
    · have hk : k < sz := by omega
      obtain ⟨hw1, hw2⟩ := hwk hk
      have hU : mxW w k ≤ c := mxW_up fun i hi => (hW i hi).2.1
      have n2 : ¬ nI sz ≤ nI k := nI_ge hk (by omega)
      have n3 : ¬ nI k < 0 := nI_pos (by omega)
      have hal : c = 7 → (∀ i, i < k → w i = ψ i + 1) → okP mem w k (ψ k) = true ∧ ψ k < c ∧ ψ k ≤ mxW w k := fun hc7 he => by
        obtain ⟨p1, p2⟩ := hψ.1 k hk
        refine ⟨okP_iff.mpr fun i hi e => hψ.2 i (by omega) k hk (by have := he i hi; omega), by omega, ?_⟩
        rw [mxW_congr (v := fun j => ψ j + 1) he]; exact p2
      have hin := fun {e : Nat} (a1 : w k ≤ e) (a2 : e ≤ c) (a3 : e ≤ mxW w k + 1) a4 a5 r12 => inner_9 (mrow := mrow) (mint := mint) (mem := mem) (w := w) (k := k) (c := c) (sz := sz) (by omega) hc (fun i hi => ((hmap i (by omega)).1 hi).2) (fun i hi => hrow i (by omega)) (fun i hi => h128 i (by omega)) hW a1 a2 a3 a4 a5 r12 (nI (lim - t))
      rcases first_from (okP mem w k) (w k) (min c (mxW w k + 1)) with ⟨s, a1, a2, a3, a4⟩ | a4
      · have hnx := nextPart_some (V := V) (f := f) (cme := cme) (cwh := cwh) (cal := cal) (cah := cah) (by omega) hc (hme k hk) ((hmap k hk).1 (Nat.le_refl k)).1 (fun i hi => h128 i (by omega)) (hA k hk) hV (fun i hi => hf i (by omega)) hW a1 (by omega) (by omega) a3 a4
        by_cases ht : t = lim
        · refine ⟨2, V, cwh, upd mint k (-1), lfp6_done fun r => ?_, lfp3_done fun r => ?_, fun i _ => rfl, (fun q => by cases q), by decide, fun q => by cases q⟩
          · unfold X3_run_h14
            rw [if_neg n1, if_neg n2, hnx, bd1_s, if_neg (ne_m1 (by omega)), nI_1 t, if_neg (nI_ge (by omega) (by omega))]; rfl
          · unfold X9_colours0_h69
            rw [if_neg n3, if_neg n2, hin a1 (by omega) (by omega) a4 (Or.inr (Or.inr a3)) r]
            unfold X9_colours0_j167
            rw [if_neg (nI_ge (by omega) (by omega)), if_pos (nI_le (by omega) (by omega)), if_pos (show nI (lim - t) = 0 by rw [ht, Nat.sub_self]; rfl), nI_clamp (by omega)]; rfl
        · obtain ⟨mi, hmi⟩ : ∃ mi, mi = (if sz ≤ k + 1 then upd (upd mint k (-1)) k (nI s) else upd (upd (upd mint k (-1)) k (nI s)) (k + 1) (-1)) := ⟨_, rfl⟩
          have hlow : ∀ i, i < k → va_up (va_up w k (s + 1)) (k + 1) 0 i = w i := fun i hi => by rw [up_ne (by omega), up_ne (by omega)]
          have hat : va_up (va_up w k (s + 1)) (k + 1) 0 k = s + 1 := by rw [up_ne (by omega), up_at]
          have hmx : ∀ i, i ≤ k → mxW (va_up (va_up w k (s + 1)) (k + 1) 0) i = mxW w i := fun i hi => mxW_congr fun j hj => hlow j (by omega)
          obtain ⟨o, W, cw, mi', g1, g2, g3, g4, g5, g6⟩ := ih (k + 1) (t + 1) (va_up (va_up w k (s + 1)) (k + 1) 0) (va_up V (20 + s) (fun u => V (20 + s) u || u == mem k)) (upd cwh k (nI s)) mi (by omega) (by omega) (by omega) (by omega) (fun i hi => by
            by_cases e : i = k
            · subst e; rw [hat, hmx i (Nat.le_refl i)]; omega
            · rw [hlow i (by omega), hmx i (by omega)]; exact hW i (by omega)) (fun _ => by rw [up_at]; omega) (fun i hi => ⟨fun hik => by
            by_cases e : i = k
            · subst e
              rw [hat, wI_s, pk_us, hmi]
              refine ⟨rfl, ?_⟩
              by_cases v : sz ≤ i + 1
              · rw [if_pos v, pk_us]
              · rw [if_neg v, pk_un (by omega), pk_us]
            · by_cases e2 : i = k + 1
              · subst e2
                rw [up_at, wI_0, pk_un (by omega), hmi, if_neg (by omega), pk_us]
                exact ⟨(hmap _ hi).2 (by omega), rfl⟩
              · obtain ⟨b1, b2⟩ := (hmap i hi).1 (by omega)
                rw [hlow i (by omega), pk_un e, hmi]
                refine ⟨b1, ?_⟩
                by_cases v : sz ≤ k + 1
                · rw [if_pos v, pk_un e, pk_un e]; exact b2
                · rw [if_neg v, pk_un e2, pk_un e, pk_un e]; exact b2, fun hik => by rw [pk_un (by omega)]; exact (hmap i hi).2 (by omega)⟩) (fun p hp u hu => by
            by_cases e : p = s
            · subst e
              rw [up_at, Bool.or_eq_true, hV p hp u hu, beq_iff_eq]
              constructor
              · rintro (⟨i, hi, e1, e2⟩ | e1)
                · exact ⟨i, by omega, by rw [hlow i hi]; exact e1, e2⟩
                · exact ⟨k, by omega, hat, e1.symm⟩
              · rintro ⟨i, hi, e1, e2⟩
                by_cases v : i = k
                · subst v; exact Or.inr e2.symm
                · rw [hlow i (by omega)] at e1
                  exact Or.inl ⟨i, by omega, e1, e2⟩
            · rw [up_ne (by omega), hV p hp u hu]
              constructor
              · rintro ⟨i, hi, e1, e2⟩
                exact ⟨i, by omega, by rw [hlow i hi]; exact e1, e2⟩
              · rintro ⟨i, hi, e1, e2⟩
                by_cases v : i = k
                · subst v; rw [hat] at e1; omega
                · rw [hlow i (by omega)] at e1
                  exact ⟨i, by omega, e1, e2⟩) (fun hc7 _ => by
            obtain ⟨e, b1, b2, b3⟩ := hLX hc7 hk
            by_cases v : e = k
            · subst v
              obtain ⟨q1, q2, q3⟩ := hal hc7 b2
              by_cases u : ψ e < s
              · rw [a4 (ψ e) b3 u] at q1; cases q1
              · by_cases x : s = ψ e
                · refine ⟨e + 1, Nat.le_refl _, fun i hi => ?_, by rw [up_at]; exact Nat.zero_le _⟩
                  by_cases y : i = e
                  · subst y; rw [hat, x]
                  · rw [hlow i (by omega)]; exact b2 i (by omega)
                · exact ⟨e, by omega, fun i hi => by rw [hlow i hi]; exact b2 i hi, by rw [hat]; omega⟩
            · exact ⟨e, by omega, fun i hi => by rw [hlow i (by omega)]; exact b2 i hi, by rw [hlow e (by omega)]; exact b3⟩)
          refine ⟨o, W, cw, mi', (lfp6_step fun r => ?_).trans g1, (lfp3_step fun r => ?_).trans g2, fun i hi => by rw [g3 i hi, up_ne (by omega)], g4, g5, g6⟩
          · unfold X3_run_h14
            rw [if_neg n1, if_neg n2, hnx, bd1_s, if_neg (ne_m1 (by omega)), nI_1 t, if_pos (nI_le (by omega) (by omega)), gin_nI (by omega) (by decide), gin_nI (by omega) (by decide), gin_nI (by omega) (by decide), nI_clamp (show k < 2 ^ 31 by omega), nI_clamp (show s < 2 ^ 31 by omega), hme k hk, put_V (h128 k hk), bd2_s, nI_1 k, nI_1 (2 * t - k), show 2 * t - k + 1 = 2 * (t + 1) - (k + 1) by omega]
          · unfold X9_colours0_h69
            rw [if_neg n3, if_neg n2, hin a1 (by omega) (by omega) a4 (Or.inr (Or.inr a3)) r]
            unfold X9_colours0_j167
            rw [if_neg (nI_ge (by omega) (by omega)), if_pos (nI_le (by omega) (by omega)), if_neg (nI_ne0 (by omega) (by omega)), gin_nI (by omega) (by decide), nI_1 k, nI_clamp (show k < 2 ^ 31 by omega), show nI (lim - t) + (-1) = nI (lim - (t + 1)) by rw [show lim - t = lim - (t + 1) + 1 by omega, pk_m1], hmi]
            by_cases v : sz ≤ k + 1
            · rw [if_pos (nI_le v (by omega)), if_pos v]
            · rw [if_neg (nI_ge (by omega) (by omega)), if_neg v, gin_nI (by omega) (by decide), nI_clamp (show k + 1 < 2 ^ 31 by omega)]
      · have hnx := nextPart_none (V := V) (f := f) (cme := cme) (cwh := cwh) (cal := cal) (cah := cah) (by omega) hc (hme k hk) ((hmap k hk).1 (Nat.le_refl k)).1 (fun i hi => h128 i (by omega)) (hA k hk) hV (fun i hi => hf i (by omega)) hW hw1 hw2 a4
        have hnoLX : c = 7 → ¬ ((∀ i, i < k → w i = ψ i + 1) ∧ w k ≤ ψ k) := fun hc7 q => by
          obtain ⟨q1, q2, q3⟩ := hal hc7 q.1
          rw [a4 (ψ k) q.2 (by omega)] at q1; cases q1
        have hrs : ∀ r : Int32 → Int32 → (Nat → Int32) → Option (Int32 × Int32 × (Nat → Int32) × (Nat → Int32)), X9_colours0_h69 (nI sz) mrow (nI c) r (nI (lim - t)) (nI k) mint = r (nI (lim - t)) (nI k + (-1)) (upd mint k (-1)) := fun r => by
          have hmn : min c (mxW w k + 1) = c ∨ min c (mxW w k + 1) = mxW w k + 1 := by omega
          unfold X9_colours0_h69
          rw [if_neg n3, if_neg n2, hin (show w k ≤ min c (mxW w k + 1) by omega) (by omega) (by omega) a4 (hmn.imp id Or.inl) r]
          unfold X9_colours0_j167
          rw [nI_clamp (show k < 2 ^ 31 by omega)]
          by_cases v : c ≤ min c (mxW w k + 1)
          · rw [if_pos (nI_le v (by omega))]
          · rw [if_neg (nI_ge (by omega) (by omega)), if_neg (nI_ge (by omega) (by omega))]
        by_cases hk0 : k = 0
        · subst hk0
          refine ⟨1, V, upd cwh 0 (-1), upd mint 0 (-1), lfp6_done fun r => ?_, (lfp3_step hrs).trans (lfp3_done fun r => ?_), fun i _ => rfl, (fun q => by cases q), by decide, fun _ hc7 => ?_⟩
          · unfold X3_run_h14
            rw [if_neg n1, if_neg n2, hnx, bd1_s, if_pos rfl, gin_nI (by omega) (by decide), if_neg (show ¬ (0 : Int32) ≤ nI 0 + (-1) by decide), nI_clamp (by decide)]; rfl
          · unfold X9_colours0_h69
            rw [if_pos (show nI 0 + (-1) < (0 : Int32) by decide), if_neg (show ¬ (0 : Int32) ≤ nI 0 + (-1) by decide)]; rfl
          · obtain ⟨e, b1, b2, b3⟩ := hLX hc7 hk
            have : e = 0 := by omega
            subst this
            exact hnoLX hc7 ⟨b2, b3⟩
        · obtain ⟨k, rfl⟩ : ∃ k', k = k' + 1 := ⟨k - 1, by omega⟩
          obtain ⟨u1, u2, u3⟩ := hW k (by omega)
          have hwk' : upd cwh (k + 1) (-1) k = nI (w k - 1) := by
            rw [pk_un (by omega), ((hmap k (by omega)).1 (by omega)).1]
            unfold wI; rw [if_neg (by omega)]
          obtain ⟨o, W, cw, mi', g1, g2, g3, g4, g5, g6⟩ := ih k t w (va_up V (20 + (w k - 1)) (fun u => V (20 + (w k - 1)) u && !(u == mem k))) (upd cwh (k + 1) (-1)) (upd mint (k + 1) (-1)) (by omega) (by omega) h2 (by omega) (fun i hi => hW i (by omega)) (fun _ => ⟨u2, u3⟩) (fun i hi => ⟨fun hik => by
            rw [pk_un (by omega), pk_un (by omega)]; exact (hmap i hi).1 (by omega), fun hik => by
            by_cases e : i = k + 1
            · rw [e, pk_us]
            · rw [pk_un e]; exact (hmap i hi).2 (by omega)⟩) (fun p hp u hu => by
            by_cases e : p = w k - 1
            · subst e
              rw [up_at, Bool.and_eq_true, hV _ hp u hu]
              constructor
              · rintro ⟨⟨i, hi, e1, e2⟩, e3⟩
                by_cases v : i = k
                · subst v; rw [e2, beq_self_eq_true] at e3; cases e3
                · exact ⟨i, by omega, e1, e2⟩
              · rintro ⟨i, hi, e1, e2⟩
                refine ⟨⟨i, by omega, e1, e2⟩, ?_⟩
                rw [beq_eq_false_iff_ne.mpr (fun q => by
                  have := hinj i (by omega) k (by omega) (e2.trans q)
                  omega)]; rfl
            · rw [up_ne (by omega), hV p hp u hu]
              constructor
              · rintro ⟨i, hi, e1, e2⟩
                by_cases v : i = k
                · subst v; omega
                · exact ⟨i, by omega, e1, e2⟩
              · rintro ⟨i, hi, e1, e2⟩
                exact ⟨i, by omega, e1, e2⟩) (fun hc7 _ => by
            obtain ⟨e, b1, b2, b3⟩ := hLX hc7 hk
            by_cases v : e = k + 1
            · subst v; exact absurd ⟨b2, b3⟩ (hnoLX hc7)
            · exact ⟨e, by omega, b2, b3⟩)
          refine ⟨o, W, cw, mi', (lfp6_step fun r => ?_).trans g1, (lfp3_step fun r => (hrs r).trans (by rw [pk_m1])).trans g2, fun i hi => by rw [g3 i hi, up_ne (by omega)], g4, g5, g6⟩
          unfold X3_run_h14
          rw [if_neg n1, if_neg n2, hnx, bd1_s, if_pos rfl, gin_nI (by omega) (by decide), pk_m1, if_pos (nI_pos' (by omega)), nI_clamp (show k + 1 < 2 ^ 31 by omega)]
          unfold X3_takeOut
          rw [gin_nI (by omega) (by decide), nI_clamp (show k < 2 ^ 31 by omega), hwk', if_neg (nI_pos (by omega)), if_neg (show ¬ (7 : Int32) ≤ nI (w k - 1) from nI_ge (b := 7) (by omega) (by decide)), gin_nI (by omega) (by decide), gin_nI (by omega) (by decide), nI_clamp (show w k - 1 < 2 ^ 31 by omega), hme k (by omega), remove_V (h128 k (by omega)), bd2_s, bd2_s, nI_1 (2 * t - (k + 1)), show 2 * t - (k + 1) + 1 = 2 * t - k by omega]
