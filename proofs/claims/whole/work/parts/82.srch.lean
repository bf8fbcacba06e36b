/-! the search: what class and reference come to -/
noncomputable def srch (go : Nat → Nat → Bool) (lim : Nat) : Nat → List Nat → Nat → (Nat → Nat) → Nat → (Nat → Nat) → Nat → Option (Nat × (Nat → Nat) × Nat)
  | 0, _, _, _, c, G, t => some (c, G, t)
  | f + 1, L, d, T, c, G, t =>
    if d + L.length ≤ c then some (c, G, t)
    else match L with
      | [] => some (d, T, t)
      | x :: L' => if t = lim then none else bd3 (srch go lim f (L'.filter (go x)) (d + 1) (va_up T d x) c G (t + 1)) (fun c' G' t' => srch go lim f L' d T c' G' t')
section SR
variable {go : Nat → Nat → Bool} {lim f d c t x : Nat} {L : List Nat} {T G : Nat → Nat}
theorem srch_done (h : d + L.length ≤ c) : srch go lim (f + 1) L d T c G t = some (c, G, t) := by
  unfold srch
  exact if_pos h
theorem srch_leaf (h : ¬ d + ([] : List Nat).length ≤ c) : srch go lim (f + 1) [] d T c G t = some (d, T, t) := by
  unfold srch
  exact if_neg h
theorem srch_cons : srch go lim (f + 1) (x :: L) d T c G t = (if d + (L.length + 1) ≤ c then some (c, G, t) else if t = lim then none else bd3 (srch go lim f (L.filter (go x)) (d + 1) (va_up T d x) c G (t + 1)) (fun c' G' t' => srch go lim f L d T c' G' t')) := by
  conv => lhs; unfold srch
  rfl
theorem srch_long (h : ¬ d + (L.length + 1) ≤ c) (ht : t = lim) : srch go lim (f + 1) (x :: L) d T c G t = none := by rw [srch_cons, if_neg h, if_pos ht]
theorem srch_none (h : ¬ d + (L.length + 1) ≤ c) (ht : t ≠ lim) (e : srch go lim f (L.filter (go x)) (d + 1) (va_up T d x) c G (t + 1) = none) : srch go lim (f + 1) (x :: L) d T c G t = none := by
  rw [srch_cons, if_neg h, if_neg ht, e]; rfl
theorem srch_some {c' t' : Nat} {G' : Nat → Nat} (h : ¬ d + (L.length + 1) ≤ c) (ht : t ≠ lim) (e : srch go lim f (L.filter (go x)) (d + 1) (va_up T d x) c G (t + 1) = some (c', G', t')) : srch go lim (f + 1) (x :: L) d T c G t = srch go lim f L d T c' G' t' := by
  rw [srch_cons, if_neg h, if_neg ht, e, bd3_s]
end SR
theorem srch_ok {go : Nat → Nat → Bool} {lim : Nat} {A : Nat → Prop} : ∀ (f : Nat) (L : List Nat) (d : Nat) (T : Nat → Nat) (c : Nat) (G : Nat → Nat) (t c' : Nat) (G' : Nat → Nat) (t' : Nat), L.length < f → t ≤ lim → (∀ x, x ∈ L → A x) → (∀ i, i < d → A (T i)) → (∀ i, i < c → A (G i)) → srch go lim f L d T c G t = some (c', G', t') → d ≤ c' ∧ c ≤ c' ∧ t ≤ t' ∧ t' ≤ lim ∧ (∀ i, i < c' → A (G' i)) ∧ (c' ≤ c ∨ c' ≤ d + L.length) := by
  intro f
  induction f with
  | zero => intro L d T c G t c' G' t' h; exact absurd h (Nat.not_lt_zero _)
  | succ f ih =>
    intro L d T c G t c' G' t' hf ht hL hT hG e
    by_cases q : d + L.length ≤ c
    · rw [srch_done q] at e
      injection e with e; injection e with e1 e; injection e with e2 e3
      subst e1 e2 e3
      exact ⟨by omega, by omega, by omega, ht, hG, Or.inl (Nat.le_refl _)⟩
    · cases L with
      | nil =>
        have q' : ¬ d ≤ c := q
        rw [srch_leaf q] at e
        injection e with e; injection e with e1 e; injection e with e2 e3
        subst e1 e2 e3
        exact ⟨by omega, by omega, by omega, ht, hT, Or.inr (Nat.le_refl _)⟩
      | cons x L =>
        rw [List.length_cons] at q hf
        have hl := List.length_filter_le (go x) L
        by_cases w : t = lim
        · rw [srch_long q w] at e; cases e
        · cases e1 : srch go lim f (L.filter (go x)) (d + 1) (va_up T d x) c G (t + 1) with
          | none => rw [srch_none q w e1] at e; cases e
          | some r =>
            obtain ⟨c1, G1, t1⟩ := r
            rw [srch_some q w e1] at e
            obtain ⟨a1, a2, a3, a4, a5, a6⟩ := ih _ _ _ _ _ _ _ _ _ (by omega) (by omega) (fun y hy => hL y (List.mem_cons.mpr (Or.inr (List.mem_filter.mp hy).1))) (fun i hi => by
              by_cases v : i = d
              · rw [v, up_at]; exact hL x (List.mem_cons.mpr (Or.inl rfl))
              · rw [up_ne v]; exact hT i (by omega)) hG e1
            obtain ⟨b1, b2, b3, b4, b5, b6⟩ := ih _ _ _ _ _ _ _ _ _ (by omega) a4 (fun y hy => hL y (List.mem_cons.mpr (Or.inr hy))) hT a5 e
            rw [List.length_cons]
            exact ⟨b1, by omega, by omega, b4, b5, by omega⟩
/-- the class: from depth d it comes to the depth below -/
theorem srch_c {go : Nat → Nat → Bool} {lim n : Nat} {cgl cgh : Nat → Int64} {A : Nat → Prop} (hlim : lim ≤ 50000) (hg : ∀ x, A x → ∀ s, A s → mbs (cgl x) (cgh x) s = go x s) :
    ∀ (f : Nat) (L : List Nat) (d : Nat) (T : Nat → Nat) (c : Nat) (G : Nat → Nat) (t : Nat) (cP : Nat → Int32) (V : Nat → Nat → Bool) (cll clh : Nat → Int64) (cta : Nat → Int32),
      L.length < f → d + L.length ≤ 128 → d ≤ t → t ≤ lim → c ≤ 128 → srt L → (∀ x, x ∈ L → A x) → (∀ i, i < d → T i < 128) → WDL (cll d) (clh d) L → (∀ i, i < d → cta (i + 1) = nI (T i)) → cP 17 = nI n → cP 16 = nI n → (∀ s, s < 128 → V 16 s = tkB G c s) →
      (srch go lim f L d T c G t = none → ∃ (oP : Nat → Int32) (W : Nat → Nat → Bool) (a b : Int32) (o1 o2 : Nat → Int64) (o3 : Nat → Int32), lfp10 (X5_run_h78 (nI lim) cgl cgh) (nI d) (nI (2 * t - d)) cP (LO V) (HI V) (nI c) (nI t) cll clh cta = some (0, oP, LO W, HI W, a, b, cgl, cgh, o1, o2, o3) ∧ ∀ i, i ≠ 16 → oP i = cP i ∧ W i = V i) ∧
      (∀ (c' : Nat) (G' : Nat → Nat) (t' : Nat), srch go lim f L d T c G t = some (c', G', t') → ∃ (oP : Nat → Int32) (W : Nat → Nat → Bool) (cll' clh' : Nat → Int64) (cta' : Nat → Int32), lfp10 (X5_run_h78 (nI lim) cgl cgh) (nI d) (nI (2 * t - d)) cP (LO V) (HI V) (nI c) (nI t) cll clh cta = lfp10 (X5_run_h78 (nI lim) cgl cgh) (nI d + (-1)) (nI (2 * t' + 1 - d)) oP (LO W) (HI W) (nI c') (nI t') cll' clh' cta' ∧ (∀ i, i ≠ 16 → oP i = cP i ∧ W i = V i) ∧ oP 16 = nI n ∧ (∀ s, s < 128 → W 16 s = tkB G' c' s) ∧ (∀ i, i < d → cll' i = cll i ∧ clh' i = clh i) ∧ ∀ i, i ≤ d → cta' i = cta i) := by
  intro f
  induction f with
  | zero => intro L d T c G t cP V cll clh cta h; exact absurd h (Nat.not_lt_zero _)
  | succ f ih =>
    intro L d T c G t cP V cll clh cta hf hd hdt ht hc hs hL hT hw hta hP hP16 hV
    have n1 : ¬ ((((2 : Int32) * nI lim) + (2 : Int32)) < nI (2 * t - d)) := by
      rw [show (2 : Int32) = nI 2 from rfl, pk_mul, nI_add]; exact nI_nlt (by omega) (by omega)
    by_cases q : d + L.length ≤ c
    · rw [srch_done q]
      refine ⟨(fun e => by cases e), fun c' G' t' e => ?_⟩
      injection e with e; injection e with e1 e; injection e with e2 e3
      subst e1 e2 e3
      refine ⟨cP, V, cll, clh, cta, lfp10_step fun r => ?_, fun i _ => ⟨rfl, rfl⟩, hP16, hV, fun i _ => ⟨rfl, rfl⟩, fun i _ => rfl⟩
      unfold X5_run_h78
      rw [if_neg n1, if_neg (nI_pos (by omega)), leftAt_c (by omega) hs hw, bd1_s, nI_add, if_neg (nI_nlt q (by omega)), nI_1 (2 * t - d), show 2 * t - d + 1 = 2 * t + 1 - d by omega]
    · have n2 : nI c < nI (d + L.length) := nI_lt (by omega) (by omega)
      cases L with
      | nil =>
        have q' : ¬ d ≤ c := q
        rw [srch_leaf q]
        refine ⟨(fun e => by cases e), fun c' G' t' e => ?_⟩
        injection e with e; injection e with e1 e; injection e with e2 e3
        subst e1 e2 e3
        refine ⟨va_up cP 16 (cP 17), va_up V 16 (tkB T d), cll, clh, cta, lfp10_step fun r => ?_, fun i hi => ⟨up_ne hi, up_ne hi⟩, by rw [up_at]; exact hP, fun s _ => by rw [up_at], fun i _ => ⟨rfl, rfl⟩, fun i _ => rfl⟩
        unfold X5_run_h78
        rw [if_neg n1, if_neg (nI_pos (by omega)), leftAt_c (by omega) hs hw, bd1_s, nI_add, if_pos n2, if_pos (show nI ([] : List Nat).length = 0 from rfl), keepBest_c (by omega) hT hta, bd4_s, nI_1 (2 * t - d), show 2 * t - d + 1 = 2 * t + 1 - d by omega]
      | cons x L =>
        rw [List.length_cons] at q hf hd n2
        have hl := List.length_filter_le (go x) L
        obtain ⟨s1, s2, s3⟩ := hs.tail
        have n3 : ¬ (nI (L.length + 1) = (0 : Int32)) := nI_ne0 (by omega) (by omega)
        by_cases w : t = lim
        · rw [srch_long q w]
          refine ⟨fun _ => ⟨cP, V, nI c, nI (t + 1), cll, clh, cta, lfp10_done fun r => ?_, fun i _ => ⟨rfl, rfl⟩⟩, fun c' G' t' e => by cases e⟩
          unfold X5_run_h78
          rw [if_neg n1, if_neg (nI_pos (by omega)), leftAt_c (by omega) hs hw, bd1_s, List.length_cons, nI_add, if_pos n2, if_neg n3, nI_1 t, if_neg (nI_ge (by omega) (by omega))]
        · obtain ⟨l1, l2, e1, w1, w2, w3⟩ := takeFirst_c (cta := cta) (cgl := cgl) (cgh := cgh) (go := go x) (by omega) hs hw (fun s hs' => hg x (hL x (List.mem_cons.mpr (Or.inl rfl))) s (hL s (List.mem_cons.mpr (Or.inr hs'))))
          have step : lfp10 (X5_run_h78 (nI lim) cgl cgh) (nI d) (nI (2 * t - d)) cP (LO V) (HI V) (nI c) (nI t) cll clh cta = lfp10 (X5_run_h78 (nI lim) cgl cgh) (nI (d + 1)) (nI (2 * (t + 1) - (d + 1))) cP (LO V) (HI V) (nI c) (nI (t + 1)) l1 l2 (upd cta (d + 1) (nI x)) := lfp10_step fun r => by
            unfold X5_run_h78
            rw [if_neg n1, if_neg (nI_pos (by omega)), leftAt_c (by omega) hs hw, bd1_s, List.length_cons, nI_add, if_pos n2, if_neg n3, nI_1 t, if_pos (nI_le (by omega) (by omega)), e1, bd3_s, nI_1 d, nI_1 (2 * t - d), show 2 * t - d + 1 = 2 * (t + 1) - (d + 1) by omega]
          obtain ⟨i1, i2⟩ := ih (L.filter (go x)) (d + 1) (va_up T d x) c G (t + 1) cP V l1 l2 (upd cta (d + 1) (nI x)) (by omega) (by omega) (by omega) (by omega) hc (s1.filt _) (fun y hy => hL y (List.mem_cons.mpr (Or.inr (List.mem_filter.mp hy).1))) (fun i hi => by
            by_cases v : i = d
            · rw [v, up_at]; exact s2
            · rw [up_ne v]; exact hT i (by omega)) w2 (fun i hi => by
            by_cases v : i = d
            · rw [v, up_at, pk_us]
            · rw [up_ne v, pk_un (by omega)]; exact hta i (by omega)) hP hP16 hV
          cases e2 : srch go lim f (L.filter (go x)) (d + 1) (va_up T d x) c G (t + 1) with
          | none =>
            rw [srch_none q w e2]
            refine ⟨fun _ => ?_, fun c' G' t' e => by cases e⟩
            obtain ⟨oP, W, a, b, o1, o2, o3, g1, g2⟩ := i1 e2
            exact ⟨oP, W, a, b, o1, o2, o3, step.trans g1, g2⟩
          | some r =>
            obtain ⟨c1, G1, t1⟩ := r
            rw [srch_some q w e2]
            obtain ⟨a1, a2, a3, a4, a5, a6⟩ := srch_ok (A := fun _ => True) _ _ _ _ _ _ _ _ _ _ (by omega) (by omega) (fun _ _ => trivial) (fun _ _ => trivial) (fun _ _ => trivial) e2
            obtain ⟨oP, W, cll', clh', cta', g1, g2, g3, g4, g5, g6⟩ := i2 c1 G1 t1 e2
            rw [pk_m1, show 2 * t1 + 1 - (d + 1) = 2 * t1 - d by omega] at g1
            have hm : ∀ i, i ≤ d → cta' i = cta i := fun i hi => by rw [g6 i (by omega), pk_un (by omega)]
            obtain ⟨k1, k2⟩ := ih L d T c1 G1 t1 oP W cll' clh' cta' (by omega) (by omega) (by omega) a4 (by omega) s1 (fun y hy => hL y (List.mem_cons.mpr (Or.inr hy))) hT (by rw [(g5 d (by omega)).1, (g5 d (by omega)).2]; exact w1) (fun i hi => by rw [hm (i + 1) (by omega)]; exact hta i hi) (by rw [(g2 17 (by decide)).1]; exact hP) g3 g4
            refine ⟨fun e => ?_, fun c' G' t' e => ?_⟩
            · obtain ⟨oP', W', a, b, o1, o2, o3, m1, m2⟩ := k1 e
              exact ⟨oP', W', a, b, o1, o2, o3, (step.trans g1).trans m1, fun i hi => ⟨by rw [(m2 i hi).1, (g2 i hi).1], by rw [(m2 i hi).2, (g2 i hi).2]⟩⟩
            · obtain ⟨oP', W', c2, c3, c4, m1, m2, m3, m4, m5, m6⟩ := k2 c' G' t' e
              exact ⟨oP', W', c2, c3, c4, (step.trans g1).trans m1, fun i hi => ⟨by rw [(m2 i hi).1, (g2 i hi).1], by rw [(m2 i hi).2, (g2 i hi).2]⟩, m3, m4, fun i hi => ⟨by rw [(m5 i hi).1, (g5 i (by omega)).1, (w3 i hi).1], by rw [(m5 i hi).2, (g5 i (by omega)).2, (w3 i hi).2]⟩, fun i hi => by rw [m6 i hi, hm i hi]⟩
