/-! the K-th of codes -/
def hitB (c : Nat → Bool) (p : Int32) (x : Nat) : Bool := c x && decide (nI (cnt c x) = p)
def SpecI (c : Nat → Bool) (M : Nat) (p : Int32) (dec : Nat → Int32) (v : Int32) : Prop := (∃ x, x < M ∧ hitB c p x = true ∧ v = dec x) ∨ ((∀ x, x < M → hitB c p x = false) ∧ v = if p = -1 then nI (cnt c M) else -1)
theorem cnt_lt {c : Nat → Bool} {x y : Nat} (h : x < y) (hc : c x = true) : cnt c x < cnt c y := by
  have h1 := cnt_mono c (show x + 1 ≤ y from h)
  rw [cnt_succ, hc, if_pos rfl] at h1
  omega
theorem hit_uniq {c : Nat → Bool} {p : Int32} {x y : Nat} (hx : hitB c p x = true) (hy : hitB c p y = true) (bx : x < 2 ^ 31) (by' : y < 2 ^ 31) : x = y := by
  unfold hitB at hx hy
  rw [Bool.and_eq_true, decide_eq_true_eq] at hx hy
  have e : cnt c x = cnt c y := (nI_eq (by have := cnt_le c x; omega) (by have := cnt_le c y; omega)).mp (hx.2.trans hy.2.symm)
  rcases Nat.lt_trichotomy x y with h | h | h
  · have := cnt_lt h hx.1; omega
  · exact h
  · have := cnt_lt h hy.1; omega
theorem SpecI_uniq {c : Nat → Bool} {M : Nat} {p : Int32} {dec : Nat → Int32} {v w : Int32} (hM : M < 2 ^ 31) (hv : SpecI c M p dec v) (hw : SpecI c M p dec w) : v = w := by
  rcases hv with ⟨x, h1, h2, rfl⟩ | ⟨h1, rfl⟩ <;> rcases hw with ⟨y, g1, g2, rfl⟩ | ⟨g1, rfl⟩
  · rw [hit_uniq h2 g2 (by omega) (by omega)]
  · rw [g1 x h1] at h2; cases h2
  · rw [h1 y g1] at g2; cases g2
  · rfl
theorem noHit {c : Nat → Bool} {M K : Nat} (hK : K < 2 ^ 31) (hM : M < 2 ^ 31) (h : cnt c M ≤ K) : ∀ x, x < M → hitB c (nI K) x = false := by
  intro x hx
  cases hh : hitB c (nI K) x with
  | false => rfl
  | true =>
    unfold hitB at hh
    rw [Bool.and_eq_true, decide_eq_true_eq] at hh
    have e := (nI_eq (by have := cnt_le c x; omega) hK).mp hh.2
    have := cnt_lt hx hh.1
    omega
theorem noHit1 {c : Nat → Bool} {x : Nat} (hx : x < 2 ^ 31) : hitB c (-1) x = false := by
  unfold hitB
  rw [decide_eq_false (ne_m1 (by have := cnt_le c x; omega)), Bool.and_false]
theorem scan_hit {β : Type} {F : (Int32 → Int32 → Option β) → Int32 → Int32 → Option β} {c : Nat → Bool} {B t0 t : Nat} {y : Option β} (ht : t0 ≤ t) (hs : ∀ u, t0 ≤ u → u < t → ∀ r, F r (nI (cnt c (B + u))) (nI u) = r (nI (cnt c (B + u + 1))) (nI (u + 1))) (hh : ∀ r, F r (nI (cnt c (B + t))) (nI t) = y) : lfp2 F (nI (cnt c (B + t0))) (nI t0) = y := by
  exact lfp2_for (F := F) (y := y) (t - t0) (fun k => nI (cnt c (B + (t0 + k)))) (fun k => nI (t0 + k)) (fun k hk r => by
    rw [hs (t0 + k) (by omega) (by omega)]; rfl) (fun r => by
    rw [show t0 + (t - t0) = t by omega]; exact hh r)
theorem kthI_ex {c : Nat → Bool} {N K : Nat} (h : K < cnt c N) : ∃ s, s < N ∧ kthI c N K = nI s ∧ c s = true ∧ cnt c s = K := by
  rcases first_or (fun s => c s && (cnt c s == K)) N with ⟨s, h1, h2, h3⟩ | hn
  · rw [Bool.and_eq_true, beq_iff_eq] at h2
    exact ⟨s, h1, kthI_at h1 h2.1 h2.2 h3, h2.1, h2.2⟩
  · exfalso
    have : ∀ k, k ≤ N → cnt c k ≤ K := by
      intro k
      induction k with
      | zero => intro _; exact Nat.zero_le _
      | succ k ih =>
        intro hk
        have h1 := ih (by omega)
        have h2 := hn k (by omega)
        rw [cnt_succ]
        cases hc : c k with
        | false => rw [if_neg (by decide)]; omega
        | true =>
          rw [hc, Bool.true_and, beq_eq_false_iff_ne] at h2
          rw [if_pos rfl]; omega
    have := this N (Nat.le_refl N)
    omega
theorem keepBehind_V {V : Nat → Nat → Bool} {i m : Nat} (hm : m < 128) : X0_keepBehind (LO V) (HI V) i (nI m) = some (LO (va_up V i (fun s => V i s && decide (m < s))), HI (va_up V i (fun s => V i s && decide (m < s)))) := by
  have hsh : ∀ k, k < 64 → ∀ s, s < 64 → xb ((-1 : Int64) <<< ((nI k).toInt64 &&& 63)) s = decide (k ≤ s) := fun k hk s hs => by rw [xb_shl _ hk hs, xb_m1 (by omega), Bool.and_true]
  unfold X0_keepBehind
  by_cases h : 63 ≤ m
  · rw [if_pos (show (63 : Int32) ≤ nI m from nI_le (a := 63) h (by omega))]
    by_cases h2 : m = 63
    · subst h2
      rw [if_pos (by decide)]
      rw [lo_up (g := fun s => V i s && decide (63 < s)) (fun s hs => by rw [xb_zero, decide_eq_false (by omega), Bool.and_false]), HI_same (V := V) (i := i) (g := fun s => V i s && decide (63 < s)) (fun s hs => by show (V i (64 + s) && decide (63 < 64 + s)) = _; rw [decide_eq_true (by omega), Bool.and_true])]
    · rw [if_neg (show ¬ nI m ≤ (63 : Int32) from nI_ge (a := 63) (by omega) (by omega))]
      by_cases h3 : m = 127
      · subst h3
        rw [if_pos (by decide)]
        exact lh_up (fun s hs => by rw [xb_zero, decide_eq_false (by omega), Bool.and_false]) (fun s hs => by rw [xb_zero, decide_eq_false (by omega), Bool.and_false])
      · rw [if_neg (show ¬ (127 : Int32) ≤ nI m from nI_ge (b := 127) (by omega) (by decide)), show nI m - (63 : Int32) = nI (m - 63) from pk_sub (b := 63) (by omega)]
        exact lh_up (fun s hs => by rw [xb_zero, decide_eq_false (by omega), Bool.and_false]) (fun s hs => by
          rw [xb_and, xb_HI hs, hsh _ (by omega) s hs]
          congr 1
          apply decide_eq_decide.mpr; omega)
  · rw [if_neg (show ¬ (63 : Int32) ≤ nI m from nI_ge (b := 63) (by omega) (by decide)), show nI m + (1 : Int32) = nI (m + 1) from nI_1 m]
    rw [lo_up (g := fun s => V i s && decide (m < s)) (fun s hs => by
      rw [xb_and, xb_LO hs, hsh _ (by omega) s hs]
      rfl), HI_same (V := V) (i := i) (g := fun s => V i s && decide (m < s)) (fun s hs => by show (V i (64 + s) && decide (m < 64 + s)) = _; rw [decide_eq_true (by omega), Bool.and_true])]
/-- twos apart: codes -/
def apC (f : Nat → Bool) (x : Nat) : Bool := f (x / 128) && (f (x % 128) && (decide (x / 128 < x % 128) && (x / 128 &&& x % 128 == 0)))
def apR (f : Nat → Bool) (a t : Nat) : Bool := f t && (decide (a < t) && (a &&& t == 0))
def apD (x : Nat) : Int32 := nI (1000 * (x / 128) + x % 128)
theorem apC_row {f : Nat → Bool} {a t : Nat} (ht : t < 128) : apC f (a * 128 + t) = (f a && apR f a t) := by
  unfold apC apR
  rw [show (a * 128 + t) / 128 = a by omega, show (a * 128 + t) % 128 = t by omega]
theorem ap_next {f : Nat → Bool} {a : Nat} : cnt (apC f) ((a + 1) * 128) = cnt (apC f) (a * 128) + if f a = true then cnt (apR f a) 128 else 0 := by
  rw [show (a + 1) * 128 = a * 128 + 128 by omega, cnt_add]
  congr 1
  cases hf : f a with
  | true => rw [if_pos rfl]; exact cnt_congr fun t ht => by rw [apC_row ht, hf, Bool.true_and]
  | false => rw [if_neg (by decide)]; exact cnt_false fun t ht => by rw [apC_row ht, hf, Bool.false_and]
theorem ap_cut {n : Nat} {f : Nat → Bool} (hn : n ≤ 7) (hi : inN n f) : cnt (apC f) 16384 = cnt (apC f) (2 ^ n * 128) := by
  have := pow_le7 hn
  refine cnt_cut (by omega) fun x hx h => ?_
  unfold apC at h
  rw [Bool.and_eq_true] at h
  have := hi _ h.1
  omega
theorem findApart_V {cP : Nat → Int32} {V : Nat → Nat → Bool} {j n : Nat} (hj : j ≠ 3) (hP : cP j = nI n) (hn : n ≤ 7) (hi : inN n (V j)) {p : Int32} (hp : p = -1 ∨ ∃ K, K < 2 ^ 31 ∧ p = nI K) : ∃ v x g, X8_findApart cP (LO V) (HI V) j p = some (v, va_up cP 3 x, LO (va_up V 3 g), HI (va_up V 3 g)) ∧ SpecI (apC (V j)) 16384 p apD v := by
  have hq := pow_le7 hn
  unfold X8_findApart
  refine lfp5_inv (F := X8_findApart_h5 j p) (fun o => ∃ v x g, o = some (v, va_up cP 3 x, LO (va_up V 3 g), HI (va_up V 3 g)) ∧ SpecI (apC (V j)) 16384 p apD v) (2 ^ n) (fun k s a c lo hi => s = nI (cnt (apC (V j)) (k * 128)) ∧ a = nI k ∧ (∃ x g, c = va_up cP 3 x ∧ lo = LO (va_up V 3 g) ∧ hi = HI (va_up V 3 g)) ∧ ∀ K, K < 2 ^ 31 → p = nI K → cnt (apC (V j)) (k * 128) ≤ K) (fun k s a c lo hi' hk hI => ?_) (fun s a c lo hi' hI => ?_) ⟨rfl, rfl, ⟨cP 3, V 3, by rw [up_self], by rw [up_self], by rw [up_self]⟩, fun K _ _ => Nat.zero_le K⟩
  · obtain ⟨rfl, rfl, ⟨x, g, rfl, rfl, rfl⟩, hK⟩ := hI
    have hsp : X0_span (va_up cP 3 x) j = some (nI (2 ^ n)) := X0_span_eq (by rw [up_ne hj]; exact hP) hn
    have hcl := cnt_le (apC (V j)) (k * 128)
    cases hb : V j k with
    | false =>
      right
      have hnx : cnt (apC (V j)) ((k + 1) * 128) = cnt (apC (V j)) (k * 128) := by rw [ap_next, hb]; rfl
      refine ⟨_, _, _, _, _, fun r => ?_, by rw [hnx], rfl, ⟨x, g, rfl, rfl, rfl⟩, fun K h1 h2 => by rw [hnx]; exact hK K h1 h2⟩
      unfold X8_findApart_h5
      rw [hsp, bd1_s, if_neg (nI_ge hk (by omega)), holds_V (by omega), bd1_s, up_ne hj, hb, bf0, nI_1]
    | true =>
      have hnx := ap_next (f := V j) (a := k)
      rw [hb, if_pos rfl] at hnx
      have hcell : ∀ s, s < 128 → (ksW k 0 (V j) 7 s && decide (k < s)) = apR (V j) k s := fun s hs => by
        rw [ks_eq hs (by omega), Nat.zero_and, Nat.and_comm s k]
        unfold apR
        cases V j s with
        | false => rfl
        | true =>
          rw [Bool.true_and, Bool.true_and, Bool.and_comm]
          congr 1
      have hsz : cnt (fun s => ksW k 0 (V j) 7 s && decide (k < s)) 128 = cnt (apR (V j) k) 128 := cnt_congr hcell
      have hcl2 := cnt_le (apR (V j) k) 128
      have body : ∀ r, X8_findApart_h5 j p r (nI (cnt (apC (V j)) (k * 128))) (nI k) (va_up cP 3 x) (LO (va_up V 3 g)) (HI (va_up V 3 g)) = (if p = (-1 : Int32) then r (nI (cnt (apC (V j)) (k * 128)) + nI (cnt (apR (V j) k) 128)) (nI (k + 1)) (va_up cP 3 (nI n)) (LO (va_up V 3 (fun s => ksW k 0 (V j) 7 s && decide (k < s)))) (HI (va_up V 3 (fun s => ksW k 0 (V j) 7 s && decide (k < s)))) else (if nI (cnt (apR (V j) k) 128) ≤ (p - nI (cnt (apC (V j)) (k * 128))) then r (nI (cnt (apC (V j)) (k * 128)) + nI (cnt (apR (V j) k) 128)) (nI (k + 1)) (va_up cP 3 (nI n)) (LO (va_up V 3 (fun s => ksW k 0 (V j) 7 s && decide (k < s)))) (HI (va_up V 3 (fun s => ksW k 0 (V j) 7 s && decide (k < s)))) else bd1 (X0_pick (va_up cP 3 (nI n)) (LO (va_up V 3 (fun s => ksW k 0 (V j) 7 s && decide (k < s)))) (HI (va_up V 3 (fun s => ksW k 0 (V j) 7 s && decide (k < s)))) 3 (p - nI (cnt (apC (V j)) (k * 128)))) (fun q29 => some ((((1000 : Int32) * nI k) + q29), va_up cP 3 (nI n), LO (va_up V 3 (fun s => ksW k 0 (V j) 7 s && decide (k < s))), HI (va_up V 3 (fun s => ksW k 0 (V j) 7 s && decide (k < s))))))) := by
        intro r
        unfold X8_findApart_h5
        rw [hsp, bd1_s, if_neg (nI_ge hk (by omega)), holds_V (by omega), bd1_s, up_ne hj, hb, bt0, become_V, bd3_s, show (0 : Int32) = nI 0 from rfl, keepSharing_V (by omega) (by omega), bd2_s, keepBehind_V (by omega), bd2_s, size_V, bd1_s, nI_1]
        simp only [up_at, bx_uu, up_ne hj, hP, hsz]
      rcases hp with rfl | ⟨K, hK1, rfl⟩
      · right
        refine ⟨_, _, _, _, _, fun r => by rw [body, if_pos rfl], by rw [nI_add, hnx], rfl, ⟨_, _, rfl, rfl, rfl⟩, fun K h1 h2 => absurd h2 (m1_ne h1)⟩
      · have hle := hK K hK1 rfl
        have hsub : nI K - nI (cnt (apC (V j)) (k * 128)) = nI (K - cnt (apC (V j)) (k * 128)) := pk_sub hle
        by_cases q : cnt (apR (V j) k) 128 ≤ K - cnt (apC (V j)) (k * 128)
        · right
          refine ⟨_, _, _, _, _, fun r => by rw [body, if_neg (ne_m1 hK1), hsub, if_pos (nI_le q (by omega))], by rw [nI_add, hnx], rfl, ⟨_, _, rfl, rfl, rfl⟩, fun K' h1 h2 => ?_⟩
          have := (nI_eq hK1 h1).mp h2
          rw [hnx]; omega
        · left
          obtain ⟨t, h1, h2, h3, h4⟩ := kthI_ex (c := fun s => ksW k 0 (V j) 7 s && decide (k < s)) (N := 2 ^ n) (K := K - cnt (apC (V j)) (k * 128)) (by
            rw [← cnt_cut hq (fun s hs h => ?_), hsz]
            · omega
            · rw [hcell s hs] at h
              unfold apR at h
              rw [Bool.and_eq_true] at h
              exact hi s h.1)
          refine ⟨_, fun r => by rw [body, if_neg (ne_m1 hK1), hsub, if_neg (nI_ge (by omega) (by omega)), pick_V (n := n) up_at hn (by omega), bd1_s, up_at, h2], _, _, _, rfl, ?_⟩
          left
          refine ⟨k * 128 + t, by omega, ?_, ?_⟩
          · unfold hitB
            rw [apC_row (by omega), hb, Bool.true_and, ← hcell t (by omega), h3, Bool.true_and, decide_eq_true_eq, cnt_add]
            congr 1
            rw [cnt_congr (c := fun u => apC (V j) (k * 128 + u)) (d := fun s => ksW k 0 (V j) 7 s && decide (k < s)) (n := t) (fun u hu => by rw [apC_row (by omega), hb, Bool.true_and, hcell u (by omega)]), h4]
            omega
          · unfold apD
            rw [show (k * 128 + t) / 128 = k by omega, show (k * 128 + t) % 128 = t by omega, show (1000 : Int32) * nI k = nI (1000 * k) from pk_mul 1000 k, nI_add]
  · obtain ⟨rfl, rfl, ⟨x, g, rfl, rfl, rfl⟩, hK⟩ := hI
    have hsp : X0_span (va_up cP 3 x) j = some (nI (2 ^ n)) := X0_span_eq (by rw [up_ne hj]; exact hP) hn
    have hcl := cnt_le (apC (V j)) (2 ^ n * 128)
    refine ⟨if p = -1 then some (nI (cnt (apC (V j)) (2 ^ n * 128)), va_up cP 3 x, LO (va_up V 3 g), HI (va_up V 3 g)) else some (-1, va_up cP 3 x, LO (va_up V 3 g), HI (va_up V 3 g)), fun r => ?_, ?_⟩
    · unfold X8_findApart_h5
      rw [hsp, bd1_s, if_pos (nI_le (Nat.le_refl _) (by omega))]
    · rcases hp with rfl | ⟨K, hK1, rfl⟩
      · rw [if_pos rfl]
        exact ⟨_, _, _, rfl, Or.inr ⟨fun x hx => noHit1 (by omega), by rw [if_pos rfl, ap_cut hn hi]⟩⟩
      · rw [if_neg (ne_m1 hK1)]
        exact ⟨_, _, _, rfl, Or.inr ⟨noHit hK1 (by decide) (by rw [ap_cut hn hi]; exact hK K hK1 rfl), by rw [if_neg (ne_m1 hK1)]⟩⟩
theorem i32_m1 {p : Int32} (h : (-1 : Int32) ≤ p) : p = -1 ∨ ∃ K, K < 2 ^ 31 ∧ p = nI K := by
  rcases i32_cases p with h1 | h1
  · left
    have h2 := i32_le.mp h
    have : ((-1 : Int32).toInt) = -1 := rfl
    exact Int32.toInt_inj.mp (show p.toInt = (-1 : Int32).toInt by omega)
  · right; exact h1
theorem apart_9 {mnow : Nat → Int32} {j n : Nat} {f : Nat → Bool} (hj : j < 3) (hM : FamM mnow (129 * j) (n, f)) {p : Int32} : ∃ v, lfp2 (X9_apart_h21 p mnow (nI j)) 0 0 = some v ∧ SpecI (apC f) 16384 p apD v := by
  refine lfp2_inv (F := X9_apart_h21 p mnow (nI j)) (fun o => ∃ v, o = some v ∧ SpecI (apC f) 16384 p apD v) 128 (fun k s a => s = nI (cnt (apC f) (k * 128)) ∧ a = nI k ∧ ∀ x, x < k * 128 → hitB (apC f) p x = false) (fun k s a hk hI => ?_) (fun s a hI => ?_) ⟨rfl, rfl, fun x hx => by omega⟩
  · obtain ⟨rfl, rfl, hno⟩ := hI
    have h0 : cnt (apC f) (k * 128 + (k + 1)) = cnt (apC f) (k * 128) := by
      have hz : cnt (fun t => apC f (k * 128 + t)) (k + 1) = 0 := cnt_false fun t ht => by
        rw [apC_row (by omega)]
        unfold apR
        rw [decide_eq_false (by omega), Bool.false_and, Bool.and_false, Bool.and_false]
      rw [cnt_add, hz]; rfl
    have step : ∀ t, k + 1 ≤ t → t < 128 → f k = true → hitB (apC f) p (k * 128 + t) = false → ∀ r r2, X9_apart_h35 r (nI k) mnow (nI j) p r2 (nI (cnt (apC f) (k * 128 + t))) (nI t) = r2 (nI (cnt (apC f) (k * 128 + t + 1))) (nI (t + 1)) := by
      intro t h1 h2 hf hh r r2
      have hkt : k &&& t < 128 := and_128l hk
      unfold X9_apart_h35
      rw [if_neg (inn128 h2), isIn9 hj hM hk, bd1_s, hf, bt0, isIn9 hj hM h2, bd1_s, ib0, land_nI', nI_1, nI_1, cnt_succ, apC_row h2, hf, Bool.true_and]
      unfold apR
      rw [decide_eq_true (by omega), Bool.true_and]
      cases hft : f t with
      | false => rfl
      | true =>
        rw [if_pos rfl, Bool.true_and]
        by_cases e : k &&& t = 0
        · rw [if_pos (show nI (k &&& t) = 0 by rw [e]; rfl), show (k &&& t == 0) = true by simpa using e, if_pos rfl, if_neg]
          intro q
          unfold hitB at hh
          rw [apC_row h2, hf, Bool.true_and] at hh
          unfold apR at hh
          rw [decide_eq_true (by omega), hft, show (k &&& t == 0) = true by simpa using e, decide_eq_true q] at hh
          cases hh
        · rw [if_neg (nI_ne0 (by omega) (by omega)), show (k &&& t == 0) = false by simpa using e]; rfl
    cases hf : f k with
    | false =>
      right
      have hnx : cnt (apC f) ((k + 1) * 128) = cnt (apC f) (k * 128) := by rw [ap_next, hf]; rfl
      refine ⟨_, _, fun r => ?_, by rw [hnx], rfl, fun x hx => ?_⟩
      · unfold X9_apart_h21
        rw [if_neg (inn128 hk)]
        refine lfp2_done fun r2 => ?_
        unfold X9_apart_h35
        rw [nI_1, isIn9 hj hM hk, bd1_s, hf, bf0]
        split <;> rfl
      · by_cases q : x < k * 128
        · exact hno x q
        · unfold hitB
          have : apC f x = false := by
            unfold apC
            rw [show x / 128 = k by omega, hf, Bool.false_and]
          rw [this, Bool.false_and]
    | true =>
      rcases first_from (fun t => hitB (apC f) p (k * 128 + t)) (k + 1) 128 with ⟨t, h1, h2, h3, h4⟩ | h
      · left
        refine ⟨some (apD (k * 128 + t)), fun r => ?_, _, rfl, Or.inl ⟨k * 128 + t, by omega, h3, rfl⟩⟩
        unfold X9_apart_h21
        rw [if_neg (inn128 hk), nI_1, ← h0]
        refine scan_hit (c := apC f) (B := k * 128) h1 (fun u q1 q2 r2 => step u q1 (by omega) hf (h4 u q1 q2) r r2) (fun r2 => ?_)
        have hh := h3
        unfold hitB at hh
        rw [Bool.and_eq_true, decide_eq_true_eq, apC_row h2, hf, Bool.true_and] at hh
        unfold apR at hh
        rw [Bool.and_eq_true, Bool.and_eq_true, beq_iff_eq] at hh
        unfold X9_apart_h35
        rw [if_neg (inn128 h2), isIn9 hj hM hk, bd1_s, hf, bt0, isIn9 hj hM h2, bd1_s, hh.1.1, bt0, land_nI', if_pos (show nI (k &&& t) = 0 by rw [hh.1.2.2]; rfl), if_pos hh.2]
        unfold apD
        rw [show (k * 128 + t) / 128 = k by omega, show (k * 128 + t) % 128 = t by omega, show (1000 : Int32) * nI k = nI (1000 * k) from pk_mul 1000 k, nI_add]
      · right
        refine ⟨nI (cnt (apC f) (k * 128 + 128)), nI (k + 1), fun r => ?_, by rw [show (k + 1) * 128 = k * 128 + 128 by omega], rfl, fun x hx => ?_⟩
        · unfold X9_apart_h21
          rw [if_neg (inn128 hk), nI_1, ← h0]
          refine scan_hit (c := apC f) (B := k * 128) (t := 128) (by omega) (fun u q1 q2 r2 => step u q1 q2 hf (h u q1 q2) r r2) (fun r2 => ?_)
          unfold X9_apart_h35
          rw [if_pos i128, nI_1]
        · by_cases q : x < k * 128
          · exact hno x q
          · obtain ⟨t, rfl⟩ : ∃ t, x = k * 128 + t := ⟨x - k * 128, by omega⟩
            by_cases q2 : k + 1 ≤ t
            · exact h t q2 (by omega)
            · unfold hitB
              rw [apC_row (by omega)]
              unfold apR
              rw [decide_eq_false (by omega), Bool.false_and, Bool.and_false, Bool.and_false, Bool.false_and]
  · obtain ⟨rfl, rfl, hno⟩ := hI
    refine ⟨some (if p = -1 then nI (cnt (apC f) 16384) else -1), fun r => ?_, _, rfl, Or.inr ⟨hno, rfl⟩⟩
    unfold X9_apart_h21
    rw [if_pos i128]
    split <;> rfl
section SIM
variable {cP : Nat → Int32} {cLo : Nat → Int64} {cHi : Nat → Int64} {cpl : Nat → Int32} {ctb : Nat → Int32} {ctl : Int32} {ctf : Int32} {ctp : Int32} {ctk : Int32} {cts : Int32} {cth : Int32} {cob : Nat → Int32} {col : Int32} {cso : Nat → Int32} {cha : Int32} {chs : Int32} {cbe : Int32} {ctr : Int32} {cgl : Nat → Int64} {cgh : Nat → Int64} {cll : Nat → Int64} {clh : Nat → Int64} {cta : Nat → Int32} {cme : Nat → Int32} {cps : Int32} {cwh : Nat → Int32} {cal : Nat → Int64} {cah : Nat → Int64} {mthr : Int32} {mfrp : Int32} {mact : Int32} {mtpd : Int32} {msiz : Int32} {matx : Int32} {mfrm : Int32} {mtok : Int32} {mval : Int32} {mfk : Int32} {mfpl : Int32} {mbem : Int32} {mtrs : Int32} {mtrl : Int32} {mrom : Int32} {mtom : Int32} {mnow : Nat → Int32} {mfre : Nat → Int32} {mkep : Nat → Int32} {mtap : Nat → Int32} {mlef : Nat → Int32} {mtak : Nat → Int32} {mbes : Nat → Int32} {mrow : Nat → Int32} {mint : Nat → Int32} {mrnd : Nat → Int32} {mplo : Nat → Int32} {mhio : Nat → Int32} {mtox : Nat → Int32} {mtol : Nat → Int32}
theorem sim_apart {p1 p2 : Int32} (hr : Rel cP cLo cHi ctb ctl ctf ctp cob col cso cha chs mact mtpd mfk mfpl mtom mnow mkep mtap mtol) : ∃ (r : Int32) (ocP : Nat → Int32) (ocLo : Nat → Int64) (ocHi : Nat → Int64), X8_apart cP cLo cHi p1 p2 = some (r, ocP, ocLo, ocHi) ∧ X9_apart mnow p1 p2 = some r ∧ Rel ocP ocLo ocHi ctb ctl ctf ctp cob col cso cha chs mact mtpd mfk mfpl mtom mnow mkep mtap mtol := by
  obtain ⟨V, rfl, rfl, hV⟩ := toV cLo cHi
  unfold X8_apart X9_apart
  rcases famcase hV hr p1 with ⟨j, n, hj, rfl, h0, hn, hi, hP, hM, e1, e2⟩ | ⟨e1, e2⟩
  · rw [e1, bdo_s, e2, bd1_s, i10]
    by_cases hge : (-1 : Int32) ≤ p2
    · rw [if_pos hge, if_pos hge]
      obtain ⟨v, x, g, h1, h2⟩ := findApart_V (cP := cP) (V := V) (by omega) hP hn hi (i32_m1 hge)
      obtain ⟨w, h3, h4⟩ := apart_9 (p := p2) hj hM
      rw [h1, bd4_s, h3, SpecI_uniq (by decide) h2 h4]
      exact ⟨_, _, _, _, rfl, rfl, keep3 hr _ _⟩
    · rw [if_neg hge, if_neg hge]
      exact ⟨_, _, _, _, rfl, rfl, hr⟩
  · rw [e1, bdo_n, e2, bd1_s, i00]
    exact ⟨_, _, _, _, rfl, rfl, hr⟩
end SIM
