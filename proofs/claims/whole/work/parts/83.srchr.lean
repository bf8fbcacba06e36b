/-! the search: the reference -/
def goB (w x y : Nat) : Bool := if w = 0 then !decide (x &&& y = 0) else if w = 1 then decide (x &&& y = 0) else if w = 2 then !(decide (x &&& y = x) || decide (x &&& y = y)) else (decide (x &&& y = x) || decide (x &&& y = y))
theorem goes9 {x y w : Nat} (hx : x < 128) (hy : y < 128) (hw : w < 4) : X9_gosWith (nI x) (nI y) (nI w) = some (b01 (goB w x y)) := by
  have hxy := and_128l (b := y) hx
  have j19 : ∀ b : Bool, b = (decide (x &&& y = x) || decide (x &&& y = y)) → X9_gosWith_j19 (nI w) (nI x) (nI y) (b01 b) = some (b01 (goB w x y)) := by
    intro b hb
    unfold X9_gosWith_j19
    rw [land_nI']
    rcases (show w = 0 ∨ w = 1 ∨ w = 2 ∨ w = 3 by omega) with rfl | rfl | rfl | rfl
    · rw [if_pos (show nI 0 = (0 : Int32) from rfl)]
      show _ = some (b01 (!decide (x &&& y = 0)))
      by_cases q : x &&& y = 0
      · rw [q, if_pos (show nI 0 = (0 : Int32) from rfl), decide_eq_true rfl]; rfl
      · rw [if_neg (nI_ne0 (by omega) (by omega)), decide_eq_false q]; rfl
    · rw [if_neg (show ¬ nI 1 = (0 : Int32) by decide), if_pos (show nI 1 = (1 : Int32) from rfl)]
      show _ = some (b01 (decide (x &&& y = 0)))
      by_cases q : x &&& y = 0
      · rw [q, if_pos (show nI 0 = (0 : Int32) from rfl), decide_eq_true rfl]; rfl
      · rw [if_neg (nI_ne0 (by omega) (by omega)), decide_eq_false q]; rfl
    · rw [if_neg (show ¬ nI 2 = (0 : Int32) by decide), if_neg (show ¬ nI 2 = (1 : Int32) by decide), if_pos (show nI 2 = (2 : Int32) from rfl)]
      show _ = some (b01 (!(decide (x &&& y = x) || decide (x &&& y = y))))
      rw [← hb]
      cases b <;> rfl
    · rw [if_neg (show ¬ nI 3 = (0 : Int32) by decide), if_neg (show ¬ nI 3 = (1 : Int32) by decide), if_neg (show ¬ nI 3 = (2 : Int32) by decide), gbo_01]
      show _ = some (b01 (decide (x &&& y = x) || decide (x &&& y = y)))
      rw [← hb]
  unfold X9_gosWith
  rw [land_nI']
  by_cases a : x &&& y = x
  · rw [if_pos (show nI (x &&& y) = nI x by rw [a])]
    exact j19 true (by rw [decide_eq_true a]; rfl)
  · rw [if_neg (fun q => a ((nI_eq (by omega) (by omega)).mp q))]
    by_cases b : x &&& y = y
    · rw [if_pos (show nI (x &&& y) = nI y by rw [b])]
      exact j19 true (by rw [decide_eq_true b, Bool.or_true])
    · rw [if_neg (fun q => b ((nI_eq (by omega) (by omega)).mp q))]
      exact j19 false (by rw [decide_eq_false a, decide_eq_false b]; rfl)
/-- those that go with x are laid into the next row -/
theorem filt_r {w x d c P t u y6 : Nat} {rgo : Int32 → Int32 → Int32 → (Nat → Int32) → (Nat → Int32) → (Nat → Int32) → Int32 → Int32 → Int32 → Int32 → Int32 → Option (Int32 × Int32 × Int32 × Int32 × (Nat → Int32) × (Nat → Int32) × (Nat → Int32))} {mlef mtak mbes : Nat → Int32} (hx : x < 128) (hw : w < 4) (hP : P ≤ 128) (h6 : mlef (128 * d + y6) = nI x) (hd6 : 128 * d + y6 < 2 ^ 31) :
    ∀ (R F : List Nat) (y : Nat) (m1 : Nat → Int32), y + R.length = P → (∀ s, s ∈ R → s < 128) → d + 1 + F.length + R.length ≤ 128 → (∀ i, i < F.length → m1 (128 * (d + 1) + i) = nI (gtL F i)) → (∀ i, i < 128 * (d + 1) → m1 i = mlef i) → (∀ i, i < R.length → mlef (128 * d + y + i) = nI (gtL R i)) →
      ∃ m2, (∀ r9, lfp3 (X9_goes_h81 (nI P) (nI d) (nI c) rgo (nI t) (nI u) mtak mlef (nI (128 * d)) (nI y6) (nI w) r9 mbes) (nI F.length) (nI y) m1 = (if nI (d + 1) ≤ nI c then X9_goes_j186 rgo (nI t) (nI u) m2 mtak (nI d) mlef (nI (128 * d)) (nI y6) (nI (F ++ R.filter (goB w x)).length) (nI w) r9 (nI c) mbes else lfp2 (X9_goes_h159 (nI d) rgo (nI t) (nI u) m2 mtak mlef (nI (128 * d)) (nI y6) (nI (F ++ R.filter (goB w x)).length) (nI w) r9) (0 : Int32) mbes)) ∧ (∀ i, i < (F ++ R.filter (goB w x)).length → m2 (128 * (d + 1) + i) = nI (gtL (F ++ R.filter (goB w x)) i)) ∧ ∀ i, i < 128 * (d + 1) → m2 i = mlef i := by
  intro R
  induction R with
  | nil =>
    intro F y m1 hy hR hd hF hm hr
    refine ⟨m1, ?_, ?_, hm⟩
    · refine fun r9 => lfp3_done fun r => ?_
      have hy' : y = P := hy
      unfold X9_goes_h81
      rw [if_pos (nI_le (by omega) (by omega)), nI_1 d, List.filter_nil, List.append_nil]
    · rw [List.filter_nil, List.append_nil]; exact hF
  | cons z R ih =>
    intro F y m1 hy hR hd hF hm hr
    rw [List.length_cons] at hy hd
    have hz := hR z (List.mem_cons.mpr (Or.inl rfl))
    have h0 : mlef (128 * d + y) = nI z := hr 0 (by rw [List.length_cons]; omega)
    have hrd : m1 (128 * d + y) = nI z := by rw [hm _ (by omega)]; exact h0
    have hr' : ∀ i, i < R.length → mlef (128 * d + (y + 1) + i) = nI (gtL R i) := fun i hi => by
      have := hr (i + 1) (by rw [List.length_cons]; omega)
      rw [show 128 * d + (y + 1) + i = 128 * d + y + (i + 1) by omega]; exact this
    have hR' : ∀ s, s ∈ R → s < 128 := fun s hs => hR s (List.mem_cons.mpr (Or.inr hs))
    cases hv : goB w x z with
    | false =>
      obtain ⟨m2, g1, g2, g3⟩ := ih F (y + 1) m1 (by omega) hR' (by omega) hF hm hr'
      rw [List.filter_cons, hv, if_neg Bool.false_ne_true]
      refine ⟨m2, fun r9 => (lfp3_step fun r => ?_).trans (g1 r9), g2, g3⟩
      unfold X9_goes_h81
      rw [if_neg (nI_ge (by omega) (by omega)), nI_add, gin_nI (by omega) (by decide), nI_add, nI_clamp (by omega), h6, nI_clamp (by omega), hrd, goes9 hx hz hw, bd1_s, hv, bf0, nI_1 y]
    | true =>
      have hk : 128 * (d + 1) + F.length < 16384 := by omega
      obtain ⟨m2, g1, g2, g3⟩ := ih (F ++ [z]) (y + 1) (upd m1 (128 * (d + 1) + F.length) (nI z)) (by omega) hR' (by rw [List.length_append]; show d + 1 + (F.length + 1) + R.length ≤ 128; omega) (fun i hi => by
        rw [List.length_append] at hi
        have hi' : i < F.length + 1 := hi
        by_cases e : i = F.length
        · rw [e, pk_us, gtL_end]
        · rw [pk_un (by omega), gtL_app (by omega)]; exact hF i (by omega)) (fun i hi => by rw [pk_un (by omega)]; exact hm i hi) hr'
      rw [List.append_assoc, List.singleton_append] at g1 g2
      rw [List.filter_cons, hv, if_pos rfl]
      refine ⟨m2, fun r9 => (lfp3_step fun r => ?_).trans (g1 r9), g2, g3⟩
      unfold X9_goes_h81
      rw [if_neg (nI_ge (by omega) (by omega)), nI_add, gin_nI (by omega) (by decide), nI_add, nI_clamp (by omega), h6, nI_clamp (by omega), hrd, goes9 hx hz hw, bd1_s, hv, bt0, show nI (128 * d) + (128 : Int32) = nI (128 * (d + 1)) from nI_add (128 * d) 128, nI_add, gin_nI hk (by decide), nI_clamp (by omega), nI_1 y, nI_1 F.length, List.length_append]
      rfl
/-- the reference: one row of it -/
theorem srch_r {w lim : Nat} (hw : w < 4) (hlim : lim ≤ 50000) :
    ∀ (f : Nat) (L : List Nat) (d : Nat) (T : Nat → Nat) (c : Nat) (G : Nat → Nat) (t k x6 : Nat) (mlef mtak mbes : Nat → Int32),
      L.length < f → L.length ≤ k → d + L.length ≤ 128 → x6 + L.length ≤ 128 → t ≤ lim → c ≤ 128 → (∀ x, x ∈ L → x < 128) → (∀ i, i < d → mtak i = nI (T i)) → (∀ i, i < L.length → mlef (128 * d + x6 + i) = nI (gtL L i)) → (∀ i, i < max c d → mbes i = nI ((if c < d then T else G) i)) →
      (srch (goB w) lim f L d T c G t = none → ∃ (a1 a2 a3 : Int32) (a4 a5 a6 : Nat → Int32), lfp7 (X9_goes_h3 (nI (x6 + L.length)) (nI d) (nI (128 * d)) (X9_goesF k) (nI w)) (nI x6) (nI (max c d)) (nI t) (nI (lim - t)) mlef mtak mbes = some (1, a1, a2, a3, a4, a5, a6)) ∧
      (∀ (c' : Nat) (G' : Nat → Nat) (t' : Nat), srch (goB w) lim f L d T c G t = some (c', G', t') → ∃ (mlef' mtak' mbes' : Nat → Int32), lfp7 (X9_goes_h3 (nI (x6 + L.length)) (nI d) (nI (128 * d)) (X9_goesF k) (nI w)) (nI x6) (nI (max c d)) (nI t) (nI (lim - t)) mlef mtak mbes = some (0, nI c', nI t', nI (lim - t'), mlef', mtak', mbes') ∧ (∀ i, i < 128 * (d + 1) → mlef' i = mlef i) ∧ (∀ i, i < d → mtak' i = mtak i) ∧ ∀ i, i < c' → mbes' i = nI (G' i)) := by
  intro f
  induction f with
  | zero => intro L d T c G t k x6 mlef mtak mbes h; exact absurd h (Nat.not_lt_zero _)
  | succ f ih =>
    intro L d T c G t k x6 mlef mtak mbes hf hk hd h6 ht hc hL hT hm hb
    cases L with
    | nil =>
      have e : srch (goB w) lim (f + 1) [] d T c G t = some (max c d, (if c < d then T else G), t) := by
        by_cases q : d ≤ c
        · rw [srch_done (L := []) q, Nat.max_eq_left q, if_neg (by omega)]
        · rw [srch_leaf q, Nat.max_eq_right (by omega), if_pos (by omega)]
      rw [e]
      refine ⟨(fun e => by cases e), fun c' G' t' e => ?_⟩
      injection e with e; injection e with e1 e; injection e with e2 e3
      subst e1 e2 e3
      refine ⟨mlef, mtak, mbes, lfp7_done fun r => ?_, fun i _ => rfl, fun i _ => rfl, hb⟩
      unfold X9_goes_h3
      exact if_pos (show nI (x6 + ([] : List Nat).length) ≤ nI x6 from nI_le (a := x6) (b := x6) (Nat.le_refl _) (by have h6' : x6 ≤ 128 := h6; omega))
    | cons x L =>
      rw [List.length_cons] at hf hk hd h6
      have hl := List.length_filter_le (goB w x) L
      have hx := hL x (List.mem_cons.mpr (Or.inl rfl))
      have hmx : mlef (128 * d + x6) = nI x := hm 0 (by rw [List.length_cons]; omega)
      have n1 : ¬ nI (x6 + (L.length + 1)) ≤ nI x6 := nI_ge (by omega) (by omega)
      have n2 : nI d + nI (x6 + (L.length + 1)) - nI x6 = nI (d + (L.length + 1)) := by
        rw [nI_add, pk_sub (by omega), show d + (x6 + (L.length + 1)) - x6 = d + (L.length + 1) by omega]
      by_cases q : d + (L.length + 1) ≤ c
      · rw [srch_done (L := x :: L) q]
        refine ⟨(fun e => by cases e), fun c' G' t' e => ?_⟩
        injection e with e; injection e with e1 e; injection e with e2 e3
        subst e1 e2 e3
        have hmx : max c d = c := Nat.max_eq_left (by omega)
        rw [hmx, if_neg (by omega)] at hb
        refine ⟨mlef, mtak, mbes, lfp7_done fun r => ?_, fun i _ => rfl, fun i _ => rfl, hb⟩
        unfold X9_goes_h3
        rw [List.length_cons, if_neg n1, n2, hmx, if_pos (nI_le q (by omega))]
      · have n3 : ¬ nI (d + (L.length + 1)) ≤ nI (max c d) := nI_ge (by omega) (by omega)
        by_cases hw' : t = lim
        · rw [srch_long q hw']
          refine ⟨fun _ => ⟨nI (max c d), nI t, nI (lim - t), mlef, mtak, mbes, lfp7_done fun r => ?_⟩, fun c' G' t' e => by cases e⟩
          unfold X9_goes_h3
          rw [List.length_cons, if_neg n1, n2, if_neg n3, if_pos (show nI (lim - t) = 0 by rw [hw', Nat.sub_self]; rfl)]
        · have n4 : ¬ nI (lim - t) = (0 : Int32) := nI_ne0 (by omega) (by omega)
          obtain ⟨k, rfl⟩ : ∃ k', k = k' + 1 := ⟨k - 1, by omega⟩
          have hLm : ∀ s, s ∈ L → s < 128 := fun s hs => hL s (List.mem_cons.mpr (Or.inr hs))
          have hseg : ∀ i, i < L.length → mlef (128 * d + (x6 + 1) + i) = nI (gtL L i) := fun i hi => by
            have := hm (i + 1) (by rw [List.length_cons]; omega)
            rw [show 128 * d + (x6 + 1) + i = 128 * d + x6 + (i + 1) by omega]; exact this
          obtain ⟨m2, g1, g2, g3⟩ := filt_r (w := w) (x := x) (d := d) (c := max c d) (P := x6 + (L.length + 1)) (t := t) (u := lim - t) (y6 := x6) (rgo := X9_goesF (k + 1)) (mlef := mlef) (mtak := mtak) (mbes := mbes) hx hw (by omega) hmx (by omega) L [] (x6 + 1) mlef (by omega) hLm (by show d + 1 + 0 + L.length ≤ 128; omega) (fun i hi => absurd hi (Nat.not_lt_zero i)) (fun i _ => rfl) hseg
          rw [List.nil_append] at g2
          obtain ⟨mb, hmb⟩ : ∃ mb, mb = (if d + 1 ≤ c then mbes else fillA mbes 0 (upd mtak d (nI x)) (d + 1)) := ⟨_, rfl⟩
          have hb' : ∀ i, i < max c (d + 1) → mb i = nI ((if c < d + 1 then va_up T d x else G) i) := fun i hi => by
            rw [hmb]
            by_cases e : d + 1 ≤ c
            · rw [if_pos e, if_neg (by omega), hb i (by omega), if_neg (by omega)]
            · rw [if_neg e, if_pos (by omega), fillA_in (Nat.zero_le i) (by omega), Nat.sub_zero]
              by_cases v : i = d
              · rw [v, pk_us, up_at]
              · rw [pk_un v, up_ne v]; exact hT i (by omega)
          obtain ⟨i1, i2⟩ := ih (L.filter (goB w x)) (d + 1) (va_up T d x) c G (t + 1) k 0 m2 (upd mtak d (nI x)) mb (by omega) (by omega) (by omega) (by omega) (by omega) hc (fun y hy => hLm y (List.mem_filter.mp hy).1) (fun i hi => by
            by_cases v : i = d
            · rw [v, pk_us, up_at]
            · rw [pk_un v, up_ne v]; exact hT i (by omega)) g2 hb'
          rw [Nat.zero_add] at i1 i2
          obtain ⟨SUB, hS⟩ : ∃ S, S = lfp7 (X9_goes_h3 (nI (L.filter (goB w x)).length) (nI (d + 1)) (nI (128 * (d + 1))) (X9_goesF k) (nI w)) (nI 0) (nI (max c (d + 1))) (nI (t + 1)) (nI (lim - (t + 1))) m2 (upd mtak d (nI x)) mb := ⟨_, rfl⟩
          rw [← hS] at i1 i2
          have hj : ∀ r9 : Int32 → Int32 → Int32 → Int32 → (Nat → Int32) → (Nat → Int32) → (Nat → Int32) → Option (Int32 × Int32 × Int32 × Int32 × (Nat → Int32) × (Nat → Int32) × (Nat → Int32)), X9_goes_j186 (X9_goesF (k + 1)) (nI t) (nI (lim - t)) m2 mtak (nI d) mlef (nI (128 * d)) (nI x6) (nI (L.filter (goB w x)).length) (nI w) r9 (nI (max c (d + 1))) mb = bd7 SUB (fun q a1 a2 a3 a4 a5 a6 => if q = (0 : Int32) then r9 (nI (x6 + 1)) a1 a2 a3 a4 a5 a6 else some ((1 : Int32), a1, a2, a3, a4, a5, a6)) := fun r9 => by
            unfold X9_goes_j186
            rw [nI_1 t, nI_m1 (show 0 < lim - t by omega), show lim - t - 1 = lim - (t + 1) by omega, nI_clamp (show d < 2 ^ 31 by omega), nI_add (128 * d) x6, nI_clamp (show 128 * d + x6 < 2 ^ 31 by omega), hmx, show nI (128 * d) + (128 : Int32) = nI (128 * (d + 1)) from nI_add (128 * d) 128, nI_1 d, nI_1 x6, hS]
            rfl
          have hstep : ∀ r9 : Int32 → Int32 → Int32 → Int32 → (Nat → Int32) → (Nat → Int32) → (Nat → Int32) → Option (Int32 × Int32 × Int32 × Int32 × (Nat → Int32) × (Nat → Int32) × (Nat → Int32)), X9_goes_h3 (nI (x6 + (L.length + 1))) (nI d) (nI (128 * d)) (X9_goesF (k + 1)) (nI w) r9 (nI x6) (nI (max c d)) (nI t) (nI (lim - t)) mlef mtak mbes = bd7 SUB (fun q a1 a2 a3 a4 a5 a6 => if q = (0 : Int32) then r9 (nI (x6 + 1)) a1 a2 a3 a4 a5 a6 else some ((1 : Int32), a1, a2, a3, a4, a5, a6)) := fun r9 => by
            unfold X9_goes_h3
            rw [if_neg n1, n2, if_neg n3, if_neg n4, nI_add (128 * d) x6, gin_nI (by omega) (by decide), gin_nI (by omega) (by decide), nI_1 x6]
            refine (g1 r9).trans ?_
            rw [List.nil_append]
            by_cases e : d + 1 ≤ c
            · rw [if_pos (nI_le (by omega) (by omega)), ← hj r9, hmb, if_pos e, show max c d = max c (d + 1) by omega]
            · rw [if_neg (nI_ge (by omega) (by omega)), ← hj r9, hmb, if_neg e, show max c (d + 1) = d + 1 by omega]
              refine lfp2_fill mbes 0 0 (d + 1) (upd mtak d (nI x)) (fun j hj r => ?_) (fun r => ?_)
              · unfold X9_goes_h159
                rw [Nat.zero_add, Nat.zero_add, if_neg (nI_nlt (by omega) (by omega)), gin_nI (by omega) (by decide), gin_nI (by omega) (by decide), nI_clamp (show j < 2 ^ 31 by omega), nI_clamp (show d < 2 ^ 31 by omega), nI_add (128 * d) x6, nI_clamp (show 128 * d + x6 < 2 ^ 31 by omega), hmx, nI_1 j]
              · unfold X9_goes_h159
                rw [Nat.zero_add, if_pos (nI_lt (by omega) (by omega)), nI_1 d]
          cases e2 : srch (goB w) lim f (L.filter (goB w x)) (d + 1) (va_up T d x) c G (t + 1) with
          | none =>
            rw [srch_none q hw' e2]
            refine ⟨fun _ => ?_, fun c' G' t' e => by cases e⟩
            obtain ⟨a1, a2, a3, a4, a5, a6, es⟩ := i1 e2
            exact ⟨a1, a2, a3, a4, a5, a6, lfp7_done fun r => (hstep r).trans (by rw [es, bd7_s, i10])⟩
          | some r =>
            obtain ⟨c1, G1, t1⟩ := r
            rw [srch_some q hw' e2]
            obtain ⟨o1, o2, o3, o4, o5, o6⟩ := srch_ok (A := fun _ => True) _ _ _ _ _ _ _ _ _ _ (by omega) (by omega) (fun _ _ => trivial) (fun _ _ => trivial) (fun _ _ => trivial) e2
            obtain ⟨m3, m4, m5, es, u1, u2, u3⟩ := i2 c1 G1 t1 e2
            have hmax : max c1 d = c1 := Nat.max_eq_left (by omega)
            obtain ⟨k1, k2⟩ := ih L d T c1 G1 t1 (k + 1) (x6 + 1) m3 m4 m5 (by omega) (by omega) (by omega) (by omega) o4 (by omega) hLm (fun i hi => by rw [u2 i (by omega), pk_un (by omega)]; exact hT i hi) (fun i hi => by rw [u1 _ (by omega), g3 _ (by omega)]; exact hseg i hi) (fun i hi => by rw [hmax] at hi; rw [if_neg (by omega)]; exact u3 i hi)
            rw [hmax, show x6 + 1 + L.length = x6 + (L.length + 1) by omega] at k1 k2
            have step : lfp7 (X9_goes_h3 (nI (x6 + (L.length + 1))) (nI d) (nI (128 * d)) (X9_goesF (k + 1)) (nI w)) (nI x6) (nI (max c d)) (nI t) (nI (lim - t)) mlef mtak mbes = lfp7 (X9_goes_h3 (nI (x6 + (L.length + 1))) (nI d) (nI (128 * d)) (X9_goesF (k + 1)) (nI w)) (nI (x6 + 1)) (nI c1) (nI t1) (nI (lim - t1)) m3 m4 m5 := lfp7_step fun r => (hstep r).trans (by rw [es, bd7_s, i00])
            rw [List.length_cons, step]
            refine ⟨k1, fun c' G' t' e => ?_⟩
            obtain ⟨m6, m7, m8, v1, v2, v3, v4⟩ := k2 c' G' t' e
            exact ⟨m6, m7, m8, v1, fun i hi => by rw [v2 i hi, u1 i (by omega), g3 i hi], fun i hi => by rw [v3 i hi, u2 i (by omega), pk_un (by omega)], v4⟩
