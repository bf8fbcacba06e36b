/-! the search: most, takes -/
section
variable {cP : Nat → Int32} {V : Nat → Nat → Bool} {x w n : Nat}
theorem cmpr_c (hx : x < 128) : X0_becomeComparable cP (LO V) (HI V) 18 17 (nI x) 19 = some (va_up (va_up cP 19 (cP 17)) 18 (cP 17), LO (va_up (va_up V 19 (ksW (x ^^^ 127) 0 (V 17) 7)) 18 (fun s => ksW x x (V 17) 7 s || ksW (x ^^^ 127) 0 (V 17) 7 s)), HI (va_up (va_up V 19 (ksW (x ^^^ 127) 0 (V 17) 7)) 18 (fun s => ksW x x (V 17) 7 s || ksW (x ^^^ 127) 0 (V 17) 7 s))) := by
  unfold X0_becomeComparable
  rw [become_V, bd3_s, show ((127 : Int32) &&& (nI x ^^^ (-1 : Int32))) = nI (x ^^^ 127) from cmp_nI (n := 7) (by decide) hx, show (0 : Int32) = nI 0 from rfl, keepSharing_V (xor_128 hx (by decide)) (by decide), bd2_s, become_V, bd3_s, keepSharing_V hx hx, bd2_s, join_V, bd2_s]
  simp only [up_at, bx_uu, up_ne (show (17 : Nat) ≠ 19 by decide), up_ne (show (17 : Nat) ≠ 18 by decide), up_ne (show (19 : Nat) ≠ 18 by decide)]
theorem fitting_c (hx : x < 128) (hw : w < 4) : ∃ oP W, X5_fitting cP (LO V) (HI V) (nI x) (nI w) = some (oP, LO W, HI W) ∧ (∀ i, i ≠ 18 → i ≠ 19 → oP i = cP i ∧ W i = V i) ∧ ∀ s, s < 128 → W 18 s = (V 17 s && goB w x s) := by
  unfold X5_fitting
  rw [become_V, bd3_s]
  rcases (show w = 0 ∨ w = 1 ∨ w = 2 ∨ w = 3 by omega) with rfl | rfl | rfl | rfl
  · rw [if_neg (show ¬ (1 : Int32) < nI 0 by decide), show (0 : Int32) = nI 0 from rfl, keepSharing_V hx (by decide), bd2_s]
    unfold X5_fitting_j44
    rw [if_pos (show nI 0 = (0 : Int32) from rfl), restOf_V, bd2_s]
    refine ⟨_, _, rfl, fun i h1 h2 => ⟨up_ne h1, by rw [up_ne h1, up_ne h1, up_ne h1]⟩, fun s hs => ?_⟩
    simp only [up_at, up_ne (show (17 : Nat) ≠ 18 by decide)]
    rw [ks_eq hs hx, Nat.zero_and, Nat.and_comm s x]
    show (V 17 s && !(V 17 s && decide (x &&& s = 0))) = (V 17 s && !decide (x &&& s = 0))
    cases V 17 s <;> rfl
  · rw [if_neg (show ¬ (1 : Int32) < nI 1 by decide), show (0 : Int32) = nI 0 from rfl, keepSharing_V hx (by decide), bd2_s]
    unfold X5_fitting_j44
    rw [if_neg (show ¬ nI 1 = (0 : Int32) by decide), if_neg (show ¬ nI 1 = (2 : Int32) by decide)]
    refine ⟨_, _, rfl, fun i h1 h2 => ⟨up_ne h1, by rw [up_ne h1, up_ne h1]⟩, fun s hs => ?_⟩
    simp only [up_at]
    rw [ks_eq hs hx, Nat.zero_and, Nat.and_comm s x]
    rfl
  · rw [if_pos (show (1 : Int32) < nI 2 by decide), cmpr_c hx, bd3_s]
    unfold X5_fitting_j44
    rw [if_neg (show ¬ nI 2 = (0 : Int32) by decide), if_pos (show nI 2 = (2 : Int32) from rfl), restOf_V, bd2_s]
    refine ⟨_, _, rfl, fun i h1 h2 => ⟨by rw [up_ne h1, up_ne h2, up_ne h1], by rw [up_ne h1, up_ne h1, up_ne h2, up_ne h1]⟩, fun s hs => ?_⟩
    simp only [up_at, up_ne (show (17 : Nat) ≠ 18 by decide), up_ne (show (17 : Nat) ≠ 19 by decide)]
    rw [cmpr_eq hx hs, Nat.and_comm s x]
    show (V 17 s && !(V 17 s && (decide (x &&& s = x) || decide (x &&& s = s)))) = (V 17 s && !(decide (x &&& s = x) || decide (x &&& s = s)))
    cases V 17 s <;> rfl
  · rw [if_pos (show (1 : Int32) < nI 3 by decide), cmpr_c hx, bd3_s]
    unfold X5_fitting_j44
    rw [if_neg (show ¬ nI 3 = (0 : Int32) by decide), if_neg (show ¬ nI 3 = (2 : Int32) by decide)]
    refine ⟨_, _, rfl, fun i h1 h2 => ⟨by rw [up_ne h1, up_ne h2, up_ne h1], by rw [up_ne h1, up_ne h2, up_ne h1]⟩, fun s hs => ?_⟩
    simp only [up_at, up_ne (show (17 : Nat) ≠ 18 by decide)]
    rw [cmpr_eq hx hs, Nat.and_comm s x]
    rfl
theorem pairUp_c {cgl cgh : Nat → Int64} (hn : n ≤ 7) (hP : cP 17 = nI n) (hw : w < 4) : ∃ oP W gl gh, X5_pairUp cP (LO V) (HI V) cgl cgh (nI w) = some (oP, LO W, HI W, gl, gh) ∧ (∀ i, i ≠ 18 → i ≠ 19 → oP i = cP i ∧ W i = V i) ∧ ∀ x, x < 2 ^ n → V 17 x = true → ∀ s, s < 128 → mbs (gl x) (gh x) s = (V 17 s && goB w x s) := by
  have hq := pow_le7 hn
  unfold X5_pairUp
  refine lfp6_inv (F := X5_pairUp_h2 (nI w)) (fun o => ∃ oP W gl gh, o = some (oP, LO W, HI W, gl, gh) ∧ (∀ i, i ≠ 18 → i ≠ 19 → oP i = cP i ∧ W i = V i) ∧ ∀ x, x < 2 ^ n → V 17 x = true → ∀ s, s < 128 → mbs (gl x) (gh x) s = (V 17 s && goB w x s)) (2 ^ n) (fun k a p lo hi gl gh => a = nI k ∧ ∃ W, lo = LO W ∧ hi = HI W ∧ (∀ i, i ≠ 18 → i ≠ 19 → p i = cP i ∧ W i = V i) ∧ ∀ x, x < k → V 17 x = true → ∀ s, s < 128 → mbs (gl x) (gh x) s = (V 17 s && goB w x s)) (fun k a p lo hi gl gh hk hI => ?_) (fun a p lo hi gl gh hI => ?_) ⟨rfl, V, rfl, rfl, fun i _ _ => ⟨rfl, rfl⟩, fun x hx => absurd hx (Nat.not_lt_zero x)⟩
  · obtain ⟨rfl, W, rfl, rfl, hK, hD⟩ := hI
    have hsp : X0_span p 17 = some (nI (2 ^ n)) := X0_span_eq (by rw [(hK 17 (by decide) (by decide)).1]; exact hP) hn
    have h17 : W 17 = V 17 := (hK 17 (by decide) (by decide)).2
    right
    cases hb : V 17 k with
    | false =>
      refine ⟨nI (k + 1), p, LO W, HI W, gl, gh, fun r => by
        unfold X5_pairUp_h2
        rw [hsp, bd1_s, if_neg (nI_ge hk (by omega)), holds_V (by omega), bd1_s, h17, hb, bf0, nI_1 k], rfl, W, rfl, rfl, hK, fun x hx hv => ?_⟩
      by_cases e : x = k
      · subst e; rw [hb] at hv; cases hv
      · exact hD x (by omega) hv
    | true =>
      obtain ⟨oP, W', f1, f2, f3⟩ := fitting_c (cP := p) (V := W) (x := k) (w := w) (by omega) hw
      refine ⟨nI (k + 1), oP, LO W', HI W', vp_updL gl k (LO W' 18), vp_updL gh k (HI W' 18), fun r => by
        unfold X5_pairUp_h2
        rw [hsp, bd1_s, if_neg (nI_ge hk (by omega)), holds_V (by omega), bd1_s, h17, hb, bt0, f1, bd3_s, gin_nI (by omega) (by decide), gin_nI (by omega) (by decide), nI_clamp (by omega), nI_1 k], rfl, W', rfl, rfl, fun i h1 h2 => ⟨by rw [(f2 i h1 h2).1, (hK i h1 h2).1], by rw [(f2 i h1 h2).2, (hK i h1 h2).2]⟩, fun x hx hv s hs => ?_⟩
      by_cases e : x = k
      · subst e; rw [pk_uLs, pk_uLs, mbs_LH hs, f3 s hs, h17]
      · rw [pk_uLn e, pk_uLn e]; exact hD x (by omega) hv s hs
  · obtain ⟨rfl, W, rfl, rfl, hK, hD⟩ := hI
    have hsp : X0_span p 17 = some (nI (2 ^ n)) := X0_span_eq (by rw [(hK 17 (by decide) (by decide)).1]; exact hP) hn
    exact ⟨_, fun r => by
      unfold X5_pairUp_h2
      rw [hsp, bd1_s, if_pos (nI_le (Nat.le_refl _) (by omega))], p, W, gl, gh, rfl, hK, hD⟩
end
/-- the sets that are searched, in order -/
def lstA (A : Nat → Bool) (s : Nat) : List Nat := (List.range s).filter A
theorem lstA_mem {A : Nat → Bool} {s x : Nat} : x ∈ lstA A s ↔ x < s ∧ A x = true := by
  unfold lstA; rw [List.mem_filter, List.mem_range]
theorem lstA_len (A : Nat → Bool) (s : Nat) : (lstA A s).length ≤ s := by
  have := List.length_filter_le A (List.range s)
  rw [List.length_range] at this; exact this
theorem lstA_srt (A : Nat → Bool) : srt (lstA A 128) := ⟨List.pairwise_lt_range.filter A, fun x hx => (lstA_mem.mp hx).1⟩
theorem lstA_succ (A : Nat → Bool) (s : Nat) : lstA A (s + 1) = if A s = true then lstA A s ++ [s] else lstA A s := by
  unfold lstA
  rw [show List.range (s + 1) = List.range s ++ [s] from List.range_succ, List.filter_append, List.filter_cons, List.filter_nil]
  cases A s with
  | true => rfl
  | false => exact List.append_nil _
def frmA (f : Nat → Bool) (w s : Nat) : Bool := f s && !(decide (w = 0) && s == 0)
def RunOK (cP : Nat → Int32) (V : Nat → Nat → Bool) (n : Nat) (S : Option (Nat × (Nat → Nat) × Nat)) (X : Option (Int32 × (Nat → Int32) × (Nat → Int64) × (Nat → Int64) × Int32 × Int32 × (Nat → Int64) × (Nat → Int64) × (Nat → Int64) × (Nat → Int64) × (Nat → Int32))) : Prop :=
  (S = none → ∃ oP W a b gl gh o1 o2 o3, X = some (0, oP, LO W, HI W, a, b, gl, gh, o1, o2, o3) ∧ ∀ i, i < 16 → oP i = cP i ∧ W i = V i) ∧
  (∀ c G t, S = some (c, G, t) → ∃ oP W gl gh o1 o2 o3, X = some (1, oP, LO W, HI W, nI c, nI t, gl, gh, o1, o2, o3) ∧ (∀ i, i < 16 → oP i = cP i ∧ W i = V i) ∧ oP 16 = nI n ∧ ∀ s, s < 128 → W 16 s = tkB G c s)
section
variable {cP cta : Nat → Int32} {V : Nat → Nat → Bool} {cgl cgh cll clh : Nat → Int64} {w n lim j : Nat}
theorem runJ_c (hn : n ≤ 7) (hw : w < 4) (hlim : lim ≤ 50000) (hj : cP j = nI n) (hP : cP 17 = nI n) (hN : ∀ s, V 17 s = true → s < 2 ^ n) :
    (srch (goB w) lim 129 (lstA (V 17) 128) 0 (fun _ => 0) 0 (fun _ => 0) 0 = none → ∃ oP W a b gl gh o1 o2 o3, X5_run_j20 cP j cgl cgh (nI w) (nI lim) cll clh cta (LO V) (HI V) = some (0, oP, LO W, HI W, a, b, gl, gh, o1, o2, o3) ∧ ∀ i, i ≠ 16 → i ≠ 18 → i ≠ 19 → oP i = cP i ∧ W i = V i) ∧
    (∀ c G t, srch (goB w) lim 129 (lstA (V 17) 128) 0 (fun _ => 0) 0 (fun _ => 0) 0 = some (c, G, t) → ∃ oP W gl gh o1 o2 o3, X5_run_j20 cP j cgl cgh (nI w) (nI lim) cll clh cta (LO V) (HI V) = some (1, oP, LO W, HI W, nI c, nI t, gl, gh, o1, o2, o3) ∧ (∀ i, i ≠ 16 → i ≠ 18 → i ≠ 19 → oP i = cP i ∧ W i = V i) ∧ oP 16 = nI n ∧ ∀ s, s < 128 → W 16 s = tkB G c s) := by
  have hq := pow_le7 hn
  obtain ⟨oP, W, gl, gh, p1, p2, p3⟩ := pairUp_c (cP := va_up cP 16 (nI n)) (V := va_up V 16 (fun _ => false)) (cgl := cgl) (cgh := cgh) (w := w) hn (by rw [up_ne (by decide)]; exact hP) hw
  rw [up_ne (show (17 : Nat) ≠ 16 by decide)] at p3
  have hW17 : W 17 = V 17 := by rw [(p2 17 (by decide) (by decide)).2, up_ne (by decide)]
  have hA : ∀ x, x ∈ lstA (V 17) 128 → V 17 x = true := fun x hx => (lstA_mem.mp hx).2
  have hl := lstA_len (V 17) 128
  obtain ⟨c1, c2⟩ := srch_c (go := goB w) (lim := lim) (n := n) (cgl := gl) (cgh := gh) (A := fun x => V 17 x = true) hlim (fun x hx s hs => by
      rw [p3 x (hN x hx) hx s (Nat.lt_of_lt_of_le (hN s hs) hq), hs, Bool.true_and]) 129 (lstA (V 17) 128) 0 (fun _ => 0) 0 (fun _ => 0) 0 oP W (vp_updL cll 0 (LO W 17)) (vp_updL clh 0 (HI W 17)) cta (by omega) (by omega) (Nat.le_refl 0) (Nat.zero_le _) (by decide) (lstA_srt _) hA (fun i hi => absurd hi (Nat.not_lt_zero i)) (fun s hs => by
      rw [pk_uLs, pk_uLs, mbs_LH hs, hW17]
      cases hv : V 17 s with
      | true => exact (decide_eq_true (lstA_mem.mpr ⟨hs, hv⟩)).symm
      | false => exact (decide_eq_false (fun q => by rw [hA s q] at hv; cases hv)).symm) (fun i hi => absurd hi (Nat.not_lt_zero i)) (by rw [(p2 17 (by decide) (by decide)).1, up_ne (by decide)]; exact hP) (by rw [(p2 16 (by decide) (by decide)).1, up_at]) (fun s _ => by rw [(p2 16 (by decide) (by decide)).2, up_at]; rfl)
  have hrun : X5_run_j20 cP j cgl cgh (nI w) (nI lim) cll clh cta (LO V) (HI V) = lfp10 (X5_run_h78 (nI lim) gl gh) (nI 0) (nI (2 * 0 - 0)) oP (LO W) (HI W) (nI 0) (nI 0) (vp_updL cll 0 (LO W 17)) (vp_updL clh 0 (HI W 17)) cta := by
    unfold X5_run_j20
    rw [clear_V, bd3_s, hj, p1, bd5_s, show (0 : Int32) = nI 0 from rfl, gin_nI (by decide) (by decide), gin_nI (by decide) (by decide), nI_clamp (by decide)]
  have hk : ∀ i, i ≠ 16 → i ≠ 18 → i ≠ 19 → oP i = cP i ∧ W i = V i := fun i h1 h2 h3 => ⟨by rw [(p2 i h2 h3).1, up_ne h1], by rw [(p2 i h2 h3).2, up_ne h1]⟩
  rw [hrun]
  refine ⟨fun e => ?_, fun c G t e => ?_⟩
  · obtain ⟨oP', W', a, b, o1, o2, o3, g1, g2⟩ := c1 e
    exact ⟨oP', W', a, b, gl, gh, o1, o2, o3, g1, fun i h1 h2 h3 => ⟨by rw [(g2 i h1).1, (hk i h1 h2 h3).1], by rw [(g2 i h1).2, (hk i h1 h2 h3).2]⟩⟩
  · obtain ⟨oP', W', l1, l2, ta, g1, g2, g3, g4, _, _⟩ := c2 c G t e
    obtain ⟨_, _, _, b4, _, _⟩ := srch_ok (A := fun _ => True) _ _ _ _ _ _ _ _ _ _ (by omega) (Nat.zero_le _) (fun _ _ => trivial) (fun _ _ => trivial) (fun _ _ => trivial) e
    refine ⟨oP', W', gl, gh, l1, l2, ta, g1.trans (lfp10_done fun r => ?_), fun i h1 h2 h3 => ⟨by rw [(g2 i h1).1, (hk i h1 h2 h3).1], by rw [(g2 i h1).2, (hk i h1 h2 h3).2]⟩, g3, g4⟩
    unfold X5_run_h78
    rw [if_neg (by rw [show (2 : Int32) = nI 2 from rfl, pk_mul, nI_add]; exact nI_nlt (by omega) (by omega)), if_pos (show nI 0 + (-1) < (0 : Int32) by decide)]
theorem run_c (hn : n ≤ 7) (hw : w < 4) (hlim : lim ≤ 50000) (hj3 : j < 3) (hj : cP j = nI n) (hi : inN n (V j)) : RunOK cP V n (srch (goB w) lim 129 (lstA (frmA (V j) w) 128) 0 (fun _ => 0) 0 (fun _ => 0) 0) (X5_run cP (LO V) (HI V) cgl cgh cll clh cta j (nI w) (nI lim)) := by
  have key : ∀ U : Nat → Nat → Bool, U 17 = frmA (V j) w → (∀ i, i ≠ 17 → U i = V i) → X5_run cP (LO V) (HI V) cgl cgh cll clh cta j (nI w) (nI lim) = X5_run_j20 (va_up cP 17 (cP j)) j cgl cgh (nI w) (nI lim) cll clh cta (LO U) (HI U) → RunOK cP V n (srch (goB w) lim 129 (lstA (frmA (V j) w) 128) 0 (fun _ => 0) 0 (fun _ => 0) 0) (X5_run cP (LO V) (HI V) cgl cgh cll clh cta j (nI w) (nI lim)) := by
    intro U h17 hU he
    obtain ⟨r1, r2⟩ := runJ_c (cP := va_up cP 17 (cP j)) (cta := cta) (V := U) (cgl := cgl) (cgh := cgh) (cll := cll) (clh := clh) (w := w) (n := n) (lim := lim) (j := j) hn hw hlim (by rw [up_ne (by omega)]; exact hj) (by rw [up_at]; exact hj) (fun s hs => by
      rw [h17] at hs
      unfold frmA at hs
      rw [Bool.and_eq_true] at hs
      exact hi s hs.1)
    rw [h17] at r1 r2
    refine ⟨fun e => ?_, fun c G t e => ?_⟩
    · obtain ⟨oP, W, a, b, gl, gh, o1, o2, o3, g1, g2⟩ := r1 e
      exact ⟨oP, W, a, b, gl, gh, o1, o2, o3, he.trans g1, fun i h => ⟨by rw [(g2 i (by omega) (by omega) (by omega)).1, up_ne (by omega)], by rw [(g2 i (by omega) (by omega) (by omega)).2, hU i (by omega)]⟩⟩
    · obtain ⟨oP, W, gl, gh, o1, o2, o3, g1, g2, g3, g4⟩ := r2 c G t e
      exact ⟨oP, W, gl, gh, o1, o2, o3, he.trans g1, fun i h => ⟨by rw [(g2 i (by omega) (by omega) (by omega)).1, up_ne (by omega)], by rw [(g2 i (by omega) (by omega) (by omega)).2, hU i (by omega)]⟩, g3, g4⟩
  by_cases q : w = 0
  · subst q
    refine key (va_up V 17 (frmA (V j) 0)) up_at (fun i h => up_ne h) ?_
    unfold X5_run
    rw [become_V, bd3_s, if_pos (show nI 0 = (0 : Int32) from rfl), show X0_remove (LO (va_up V 17 (V j))) (HI (va_up V 17 (V j))) 17 (0 : Int32) = _ from remove_V (s := 0) (by decide), bd2_s]
    simp only [up_at, bx_uu]
    rfl
  · refine key (va_up V 17 (V j)) ?_ (fun i h => up_ne h) ?_
    · rw [up_at]
      funext s
      unfold frmA
      rw [decide_eq_false q]
      cases V j s <;> rfl
    · unfold X5_run
      rw [become_V, bd3_s, if_neg (nI_ne0 (by omega) (by omega))]
end
theorem searches_9 {mnow mlef mtak mbes : Nat → Int32} {f : Nat → Bool} {n j w lim : Nat} (hj : j < 3) (hM : FamM mnow (129 * j) (n, f)) (hw : w < 4) (hlim : lim ≤ 50000) :
    (srch (goB w) lim 129 (lstA (frmA f w) 128) 0 (fun _ => 0) 0 (fun _ => 0) 0 = none → ∃ (a1 a2 a3 : Int32) (a4 a5 a6 : Nat → Int32), X9_searches mnow mlef mtak mbes (nI j) (nI w) (nI lim) = some (1, a1, a2, a3, a4, a5, a6)) ∧
    (∀ c G t, srch (goB w) lim 129 (lstA (frmA f w) 128) 0 (fun _ => 0) 0 (fun _ => 0) 0 = some (c, G, t) → ∃ (a3 : Int32) (a4 a5 a6 : Nat → Int32), X9_searches mnow mlef mtak mbes (nI j) (nI w) (nI lim) = some (0, nI c, nI t, a3, a4, a5, a6) ∧ ∀ i, i < c → a6 i = nI (G i)) := by
  have loop : ∀ y, y ≤ 1 → (∀ s, y ≤ s → frmA f w s = f s) → lstA (frmA f w) y = [] → ∃ m, X9_searches_j12 (nI lim) mtak mbes (nI w) mnow (nI j) mlef (nI y) = bd7 (X9_goes (0 : Int32) (0 : Int32) (nI lim) m mtak mbes (0 : Int32) (0 : Int32) (nI (lstA (frmA f w) 128).length) (0 : Int32) (nI w)) (fun q9 mbem_10 mtrs_11 mtrl_12 mlef_13 mtak_14 mbes_15 => gbo q9 (some (q9, mbem_10, mtrs_11, mtrl_12, mlef_13, mtak_14, mbes_15))) ∧ ∀ i, i < (lstA (frmA f w) 128).length → m i = nI (gtL (lstA (frmA f w) 128) i) := by
    intro y hy hA h0
    unfold X9_searches_j12
    refine lfp3_inv (F := X9_searches_h14 (nI lim) mtak mbes (nI w) mnow (nI j)) (fun o => ∃ m, o = bd7 (X9_goes (0 : Int32) (0 : Int32) (nI lim) m mtak mbes (0 : Int32) (0 : Int32) (nI (lstA (frmA f w) 128).length) (0 : Int32) (nI w)) (fun q9 mbem_10 mtrs_11 mtrl_12 mlef_13 mtak_14 mbes_15 => gbo q9 (some (q9, mbem_10, mtrs_11, mtrl_12, mlef_13, mtak_14, mbes_15))) ∧ ∀ i, i < (lstA (frmA f w) 128).length → m i = nI (gtL (lstA (frmA f w) 128) i)) (128 - y) (fun k a1 a2 a3 => a2 = nI (y + k) ∧ a1 = nI (lstA (frmA f w) (y + k)).length ∧ ∀ i, i < (lstA (frmA f w) (y + k)).length → a3 i = nI (gtL (lstA (frmA f w) (y + k)) i)) (fun k a1 a2 a3 hk hI => ?_) (fun a1 a2 a3 hI => ?_) ⟨rfl, by rw [Nat.add_zero, h0]; rfl, fun i hi => by rw [Nat.add_zero, h0] at hi; exact absurd hi (Nat.not_lt_zero i)⟩
    · obtain ⟨rfl, rfl, hm⟩ := hI
      have hl := lstA_len (frmA f w) (y + k)
      have hs := lstA_succ (frmA f w) (y + k)
      right
      cases hv : f (y + k) with
      | false =>
        rw [hA _ (by omega), hv, if_neg Bool.false_ne_true] at hs
        refine ⟨nI (lstA (frmA f w) (y + k)).length, nI (y + (k + 1)), a3, fun r => ?_, rfl, ?_, ?_⟩
        · unfold X9_searches_h14
          rw [if_neg (inn128 (by omega)), isIn9 hj hM (by omega), bd1_s, hv, bf0, nI_1 (y + k)]; rfl
        · rw [show y + (k + 1) = y + k + 1 from rfl, hs]
        · rw [show y + (k + 1) = y + k + 1 from rfl, hs]; exact hm
      | true =>
        rw [hA _ (by omega), hv, if_pos rfl] at hs
        refine ⟨nI ((lstA (frmA f w) (y + k)).length + 1), nI (y + (k + 1)), upd a3 (lstA (frmA f w) (y + k)).length (nI (y + k)), fun r => ?_, rfl, ?_, ?_⟩
        · unfold X9_searches_h14
          rw [if_neg (inn128 (by omega)), isIn9 hj hM (by omega), bd1_s, hv, bt0, gin_nI (by omega) (by decide), nI_clamp (by omega), nI_1 (y + k), nI_1 (lstA (frmA f w) (y + k)).length]; rfl
        · rw [show y + (k + 1) = y + k + 1 from rfl, hs, List.length_append]; rfl
        · rw [show y + (k + 1) = y + k + 1 from rfl, hs]
          intro i hi
          rw [List.length_append] at hi
          have hi' : i < (lstA (frmA f w) (y + k)).length + 1 := hi
          by_cases e : i = (lstA (frmA f w) (y + k)).length
          · rw [e, pk_us, gtL_end]
          · rw [pk_un e, gtL_app (by omega)]; exact hm i (by omega)
    · obtain ⟨rfl, rfl, hm⟩ := hI
      rw [show y + (128 - y) = 128 by omega] at hm
      refine ⟨_, fun r => ?_, a3, rfl, hm⟩
      unfold X9_searches_h14
      rw [show y + (128 - y) = 128 by omega, if_pos i128]
  have main : ∃ m, X9_searches mnow mlef mtak mbes (nI j) (nI w) (nI lim) = bd7 (X9_goes (0 : Int32) (0 : Int32) (nI lim) m mtak mbes (0 : Int32) (0 : Int32) (nI (lstA (frmA f w) 128).length) (0 : Int32) (nI w)) (fun q9 mbem_10 mtrs_11 mtrl_12 mlef_13 mtak_14 mbes_15 => gbo q9 (some (q9, mbem_10, mtrs_11, mtrl_12, mlef_13, mtak_14, mbes_15))) ∧ ∀ i, i < (lstA (frmA f w) 128).length → m i = nI (gtL (lstA (frmA f w) 128) i) := by
    unfold X9_searches
    by_cases q : w = 0
    · subst q
      rw [if_pos (show nI 0 = (0 : Int32) from rfl)]
      refine loop 1 (Nat.le_refl 1) (fun s hs => ?_) ?_
      · unfold frmA
        rw [beq_eq_false_iff_ne.mpr (show s ≠ 0 by omega), Bool.and_false]; exact Bool.and_true _
      · rw [show (1 : Nat) = 0 + 1 from rfl, lstA_succ]
        show (if (f 0 && !(decide (0 = 0) && (0 : Nat) == 0)) = true then _ else _) = _
        rw [if_neg (by cases f 0 <;> decide)]; rfl
    · rw [if_neg (nI_ne0 (by omega) (by omega))]
      refine loop 0 (Nat.zero_le 1) (fun s hs => ?_) rfl
      unfold frmA
      rw [decide_eq_false q]; exact Bool.and_true _
  obtain ⟨m, e, hm⟩ := main
  have hl := lstA_len (frmA f w) 128
  obtain ⟨i1, i2⟩ := srch_r (w := w) (lim := lim) hw hlim 129 (lstA (frmA f w) 128) 0 (fun _ => 0) 0 (fun _ => 0) 0 129 0 m mtak mbes (by omega) (by omega) (by omega) (by omega) (Nat.zero_le _) (by decide) (fun x hx => (lstA_mem.mp hx).1) (fun i hi => absurd hi (Nat.not_lt_zero i)) (fun i hi => by rw [show 128 * 0 + 0 + i = i by omega]; exact hm i hi) (fun i hi => absurd hi (Nat.not_lt_zero i))
  rw [Nat.zero_add] at i1 i2
  rw [e]
  refine ⟨fun h => ?_, fun c G t h => ?_⟩
  · obtain ⟨a1, a2, a3, a4, a5, a6, g⟩ := i1 h
    have g' : X9_goes (0 : Int32) (0 : Int32) (nI lim) m mtak mbes (0 : Int32) (0 : Int32) (nI (lstA (frmA f w) 128).length) (0 : Int32) (nI w) = some (1, a1, a2, a3, a4, a5, a6) := g
    rw [g', bd7_s, gbo_1]
    exact ⟨a1, a2, a3, a4, a5, a6, rfl⟩
  · obtain ⟨m1, m2, m3, g, _, _, g4⟩ := i2 c G t h
    have g' : X9_goes (0 : Int32) (0 : Int32) (nI lim) m mtak mbes (0 : Int32) (0 : Int32) (nI (lstA (frmA f w) 128).length) (0 : Int32) (nI w) = some (0, nI c, nI t, nI (lim - t), m1, m2, m3) := g
    rw [g', bd7_s, gbo_0]
    exact ⟨nI (lim - t), m1, m2, m3, rfl, g4⟩
theorem isTries_in {l : Nat} (h1 : 1 ≤ l) (h2 : l ≤ 50000) : X8_isTries (nI l) = some 1 := by
  unfold X8_isTries
  rw [if_neg (show ¬ nI l < (1 : Int32) from nI_nlt (b := 1) h1 (by omega)), if_neg (show ¬ (50000 : Int32) < nI l from nI_nlt (a := 50000) h2 (by decide))]
theorem isTries_out {p : Int32} (h : ¬ (((1 : Nat) : Int) ≤ p.toInt ∧ p.toInt ≤ ((50000 : Nat) : Int))) : X8_isTries p = some 0 := by
  unfold X8_isTries
  exact outB h rfl rfl
theorem isSearch_eq {w : Nat} {p : Int32} (hw : w ≤ 3) : X8_isSearch (nI w) p = bd1 (X8_isTries p) (fun q3 => (if q3 = (0 : Int32) then some (0 : Int32) else some (1 : Int32))) := by
  unfold X8_isSearch
  rw [if_neg (nI_pos (by omega)), if_neg (show ¬ (3 : Int32) < nI w from nI_nlt (a := 3) hw (by decide))]
theorem isSearch_out {p q : Int32} (h : ¬ (((0 : Nat) : Int) ≤ p.toInt ∧ p.toInt ≤ ((3 : Nat) : Int))) : X8_isSearch p q = some 0 := by
  unfold X8_isSearch
  exact outB h rfl rfl
theorem keeps16 {cP oP : Nat → Int32} {V W : Nat → Nat → Bool} (h : ∀ i, i < 16 → oP i = cP i ∧ W i = V i) : Keeps cP oP (LO V) (LO W) (HI V) (HI W) := fun i hi => by
  obtain ⟨h1, h2⟩ := h i (by omega)
  refine ⟨h1, ?_, ?_⟩
  · show wd (W i) = wd (V i); rw [h2]
  · show wd (fun s => W i (64 + s)) = wd (fun s => V i (64 + s)); rw [h2]
section SIM
variable {cP : Nat → Int32} {cLo : Nat → Int64} {cHi : Nat → Int64} {cpl : Nat → Int32} {ctb : Nat → Int32} {ctl : Int32} {ctf : Int32} {ctp : Int32} {ctk : Int32} {cts : Int32} {cth : Int32} {cob : Nat → Int32} {col : Int32} {cso : Nat → Int32} {cha : Int32} {chs : Int32} {cbe : Int32} {ctr : Int32} {cgl : Nat → Int64} {cgh : Nat → Int64} {cll : Nat → Int64} {clh : Nat → Int64} {cta : Nat → Int32} {cme : Nat → Int32} {cps : Int32} {cwh : Nat → Int32} {cal : Nat → Int64} {cah : Nat → Int64} {mthr : Int32} {mfrp : Int32} {mact : Int32} {mtpd : Int32} {msiz : Int32} {matx : Int32} {mfrm : Int32} {mtok : Int32} {mval : Int32} {mfk : Int32} {mfpl : Int32} {mbem : Int32} {mtrs : Int32} {mtrl : Int32} {mrom : Int32} {mtom : Int32} {mnow : Nat → Int32} {mfre : Nat → Int32} {mkep : Nat → Int32} {mtap : Nat → Int32} {mlef : Nat → Int32} {mtak : Nat → Int32} {mbes : Nat → Int32} {mrow : Nat → Int32} {mint : Nat → Int32} {mrnd : Nat → Int32} {mplo : Nat → Int32} {mhio : Nat → Int32} {mtox : Nat → Int32} {mtol : Nat → Int32}
theorem sim_most {p1 p2 p3 : Int32} (hr : Rel cP cLo cHi ctb ctl ctf ctp cob col cso cha chs mact mtpd mfk mfpl mtom mnow mkep mtap mtol) : ∃ (r : Int32) (ocP : Nat → Int32) (ocLo : Nat → Int64) (ocHi : Nat → Int64) (ocbe : Int32) (octr : Int32) (ocgl : Nat → Int64) (ocgh : Nat → Int64) (ocll : Nat → Int64) (oclh : Nat → Int64) (octa : Nat → Int32) (ombem : Int32) (omtrs : Int32) (omtrl : Int32) (omlef : Nat → Int32) (omtak : Nat → Int32) (ombes : Nat → Int32), X8_most cP cLo cHi cbe ctr cgl cgh cll clh cta p1 p2 p3 = some (r, ocP, ocLo, ocHi, ocbe, octr, ocgl, ocgh, ocll, oclh, octa) ∧ X9_most mbem mtrs mtrl mnow mlef mtak mbes p1 p2 p3 = some (r, ombem, omtrs, omtrl, omlef, omtak, ombes) ∧ Rel ocP ocLo ocHi ctb ctl ctf ctp cob col cso cha chs mact mtpd mfk mfpl mtom mnow mkep mtap mtol := by
  obtain ⟨V, rfl, rfl, hV⟩ := toV cLo cHi
  unfold X8_most X9_most
  rcases famcase hV hr p1 with ⟨j, n, hj, rfl, h0, hn, hi, hP, hM, e1, e2⟩ | ⟨e1, e2⟩
  · rw [e1, bdo_s, e2, bd1_s, i10, X9_in_n (a := 0) (b := 3) (by decide) (by decide) rfl rfl, bd1_s]
    rcases in_cases (p := p2) 0 3 (by decide) with ⟨w, _, hw, rfl⟩ | h
    · rw [isSearch_eq hw, nI_toInt (by omega), decide_eq_true (by omega), bt0, X9_in_n (a := 1) (b := 50000) (by decide) (by decide) rfl rfl, bd1_s]
      rcases in_cases (p := p3) 1 50000 (by decide) with ⟨l, hl1, hl2, rfl⟩ | h
      · rw [isTries_in hl1 hl2, bd1_s, i10, bd1_s, i10, nI_toInt (by omega), decide_eq_true (by omega), bt0]
        obtain ⟨r1, r2⟩ := run_c (cP := cP) (V := V) (cgl := cgl) (cgh := cgh) (cll := cll) (clh := clh) (cta := cta) (w := w) (lim := l) hn (by omega) hl2 hj hP hi
        obtain ⟨s1, s2⟩ := searches_9 (mlef := mlef) (mtak := mtak) (mbes := mbes) (w := w) (lim := l) hj hM (by omega) hl2
        cases hS : srch (goB w) l 129 (lstA (frmA (V j) w) 128) 0 (fun _ => 0) 0 (fun _ => 0) 0 with
        | none =>
          obtain ⟨oP, W, a, b, gl, gh, o1, o2, o3, g1, g2⟩ := r1 hS
          obtain ⟨a1, a2, a3, a4, a5, a6, g3⟩ := s1 hS
          rw [g1, bd11_s, i00, g3, bd7_s, i10]
          exact ⟨_, _, _, _, _, _, _, _, _, _, _, _, _, _, _, _, _, rfl, rfl, hr.keep (keeps16 g2)⟩
        | some R =>
          obtain ⟨c, G, t⟩ := R
          obtain ⟨oP, W, gl, gh, o1, o2, o3, g1, g2, _, _⟩ := r2 c G t hS
          obtain ⟨a3, a4, a5, a6, g3, _⟩ := s2 c G t hS
          rw [g1, bd11_s, i10, g3, bd7_s, i00]
          exact ⟨_, _, _, _, _, _, _, _, _, _, _, _, _, _, _, _, _, rfl, rfl, hr.keep (keeps16 g2)⟩
      · rw [isTries_out h, bd1_s, i00, bd1_s, i00, decide_eq_false h, bf0]
        exact ⟨_, _, _, _, _, _, _, _, _, _, _, _, _, _, _, _, _, rfl, rfl, hr⟩
    · rw [isSearch_out h, bd1_s, i00, decide_eq_false h, bf0]
      exact ⟨_, _, _, _, _, _, _, _, _, _, _, _, _, _, _, _, _, rfl, rfl, hr⟩
  · rw [e1, bdo_n, e2, bd1_s, i00]
    exact ⟨_, _, _, _, _, _, _, _, _, _, _, _, _, _, _, _, _, rfl, rfl, hr⟩
theorem sim_takes {p1 p2 p3 p4 : Int32} (hr : Rel cP cLo cHi ctb ctl ctf ctp cob col cso cha chs mact mtpd mfk mfpl mtom mnow mkep mtap mtol) : ∃ (r : Int32) (ocP : Nat → Int32) (ocLo : Nat → Int64) (ocHi : Nat → Int64) (ocso : Nat → Int32) (ocha : Int32) (ochs : Int32) (ocbe : Int32) (octr : Int32) (ocgl : Nat → Int64) (ocgh : Nat → Int64) (ocll : Nat → Int64) (oclh : Nat → Int64) (octa : Nat → Int32) (omfrp : Int32) (omact : Int32) (ombem : Int32) (omtrs : Int32) (omtrl : Int32) (omnow : Nat → Int32) (omfre : Nat → Int32) (omkep : Nat → Int32) (omlef : Nat → Int32) (omtak : Nat → Int32) (ombes : Nat → Int32), X8_takes cP cLo cHi cso cha chs cbe ctr cgl cgh cll clh cta p1 p2 p3 p4 = some (r, ocP, ocLo, ocHi, ocso, ocha, ochs, ocbe, octr, ocgl, ocgh, ocll, oclh, octa) ∧ X9_takes mfrp mact mbem mtrs mtrl mnow mfre mkep mlef mtak mbes p1 p2 p3 p4 = some (r, omfrp, omact, ombem, omtrs, omtrl, omnow, omfre, omkep, omlef, omtak, ombes) ∧ Rel ocP ocLo ocHi ctb ctl ctf ctp cob col ocso ocha ochs omact mtpd mfk mfpl mtom omnow omkep mtap mtol := by
  obtain ⟨V, rfl, rfl, hV⟩ := toV cLo cHi
  unfold X8_takes X9_takes
  rcases famcase hV hr p1 with ⟨j, n, hj, rfl, h0, hn, hi, hP, hM, e1, e2⟩ | ⟨e1, e2⟩
  · rw [e1, bdo_s, e2, bd1_s, i10, X9_in_n (a := 0) (b := 3) (by decide) (by decide) rfl rfl, bd1_s]
    rcases in_cases (p := p2) 0 3 (by decide) with ⟨w, _, hw, rfl⟩ | h
    · rw [isSearch_eq hw, nI_toInt (by omega), decide_eq_true (by omega), bt0, X9_in_n (a := 1) (b := 50000) (by decide) (by decide) rfl rfl, bd1_s]
      rcases in_cases (p := p3) 1 50000 (by decide) with ⟨l, hl1, hl2, rfl⟩ | h
      · rw [isTries_in hl1 hl2, bd1_s, i10, bd1_s, i10, nI_toInt (by omega), decide_eq_true (by omega), bt0]
        rcases slot_cases p4 with ⟨j', hj', rfl⟩ | hp
        · rw [X8_isSlot_in hj', bd1_s, i10, X9_isSlot_in hj', bd1_s, i10]
          obtain ⟨r1, r2⟩ := run_c (cP := cP) (V := V) (cgl := cgl) (cgh := cgh) (cll := cll) (clh := clh) (cta := cta) (w := w) (lim := l) hn (by omega) hl2 hj hP hi
          obtain ⟨s1, s2⟩ := searches_9 (mlef := mlef) (mtak := mtak) (mbes := mbes) (w := w) (lim := l) hj hM (by omega) hl2
          cases hS : srch (goB w) l 129 (lstA (frmA (V j) w) 128) 0 (fun _ => 0) 0 (fun _ => 0) 0 with
          | none =>
            obtain ⟨oP, W, a, b, gl, gh, o1, o2, o3, g1, g2⟩ := r1 hS
            obtain ⟨a1, a2, a3, a4, a5, a6, g3⟩ := s1 hS
            rw [g1, bd11_s, i00, g3, bd7_s, i10]
            exact ⟨_, _, _, _, _, _, _, _, _, _, _, _, _, _, _, _, _, _, _, _, _, _, _, _, _, rfl, rfl, hr.keep (keeps16 g2)⟩
          | some R =>
            obtain ⟨c, G, t⟩ := R
            have hl := lstA_len (frmA (V j) w) 128
            obtain ⟨_, _, _, _, ok5, ok6⟩ := srch_ok (A := fun x => x < 2 ^ n) _ _ _ _ _ _ _ _ _ _ (by omega) (Nat.zero_le _) (fun x hx => hi x (by
              have := (lstA_mem.mp hx).2
              unfold frmA at this
              rw [Bool.and_eq_true] at this
              exact this.1)) (fun i hi => absurd hi (Nat.not_lt_zero i)) (fun i hi => absurd hi (Nat.not_lt_zero i)) hS
            obtain ⟨oP, W, gl, gh, o1, o2, o3, g1, g2, g5, g6⟩ := r2 c G t hS
            obtain ⟨a3, a4, a5, a6, g3, g4⟩ := s2 c G t hS
            have hq := pow_le7 hn
            rw [g1, bd11_s, i10, g3, bd7_s, i00, points9 hj hM, bd1_s, X9_clearsFresh_eq, bd2_s]
            have hloop := lfp2_inv (F := X9_takes_h68 (nI c) (nI n) mact mnow mkep (nI j') (nI t) a3 a4 a5 a6) (fun o => ∃ m, FR m (tkB G c) ∧ o = bd4 (X9_comes (nI n) mact mnow m mkep (nI j')) (fun q32 mact_33 mnow_34 mkep_35 => some (nI t, nI n, mact_33, nI c, nI t, a3, mnow_34, m, mkep_35, a4, a5, a6))) c (fun k x m => x = nI k ∧ FR m (tkB G k)) (fun k x m hk hI => ?_) (fun x m hI => ?_) (a1 := 0) (a2 := fillA mfre 0 (fun _ => 0) 128) ⟨rfl, FR_clear mfre⟩
            · obtain ⟨m, hm, em⟩ := hloop
              rw [em]
              obtain ⟨oP', oLo, oHi, so, ha, hz, act, now, kep, c1, c2, c3⟩ := comes_sim hr (oP := oP) (V := W) (w := 16) (n := n) (f := tkB G c) (m := m) (keeps16 g2) (by omega) hj' g5 g6 (okF_mk hn h0 fun t ht => by
                obtain ⟨i, hi1, hi2⟩ := tkB_iff.mp ht
                rw [← hi2]; exact ok5 i hi1) hm
              rw [c1, bd7_s, c2, bd4_s]
              exact ⟨_, _, _, _, _, _, _, _, _, _, _, _, _, _, _, _, _, _, _, _, _, _, _, _, _, rfl, rfl, c3⟩
            · obtain ⟨rfl, hm⟩ := hI
              have hG := ok5 k hk
              right
              refine ⟨nI (k + 1), upd m (G k) (vp_nar .boolean 1), fun r => ?_, rfl, hm.set1 (G k)⟩
              unfold X9_takes_h68
              rw [if_neg (nI_ge hk (by omega)), gin_nI (by omega) (by decide), nI_clamp (show k < 2 ^ 31 by omega), g4 k hk, gin_nI (by omega) (by decide), nI_clamp (show G k < 2 ^ 31 by omega), nI_1 k]
            · obtain ⟨rfl, hm⟩ := hI
              refine ⟨_, fun r => ?_, m, hm, rfl⟩
              unfold X9_takes_h68
              rw [if_pos (nI_le (Nat.le_refl _) (by omega))]
        · rw [X8_isSlot_out hp, bd1_s, i00, X9_isSlot_out hp, bd1_s, i00]
          exact ⟨_, _, _, _, _, _, _, _, _, _, _, _, _, _, _, _, _, _, _, _, _, _, _, _, _, rfl, rfl, hr⟩
      · rw [isTries_out h, bd1_s, i00, bd1_s, i00, decide_eq_false h, bf0]
        exact ⟨_, _, _, _, _, _, _, _, _, _, _, _, _, _, _, _, _, _, _, _, _, _, _, _, _, rfl, rfl, hr⟩
    · rw [isSearch_out h, bd1_s, i00, decide_eq_false h, bf0]
      exact ⟨_, _, _, _, _, _, _, _, _, _, _, _, _, _, _, _, _, _, _, _, _, _, _, _, _, rfl, rfl, hr⟩
  · rw [e1, bdo_n, e2, bd1_s, i00]
    exact ⟨_, _, _, _, _, _, _, _, _, _, _, _, _, _, _, _, _, _, _, _, _, _, _, _, _, rfl, rfl, hr⟩
end SIM
