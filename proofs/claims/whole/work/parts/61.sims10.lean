/-! shifting -/
theorem cnt_one {P : Nat → Bool} {N s : Nat} (hs : s < N) (h : ∀ t, t < N → (P t = true ↔ t = s)) : cnt P N = 1 := by
  obtain ⟨d, rfl⟩ : ∃ d, N = s + 1 + d := ⟨N - (s + 1), by omega⟩
  rw [cnt_add, cnt_succ, cnt_false (c := P) (n := s) (fun k hk => by
    cases hp : P k with
    | false => rfl
    | true => have := (h k (by omega)).mp hp; omega), (h s (by omega)).mpr rfl, if_pos rfl, cnt_false (fun k hk => by
    cases hp : P (s + 1 + k) with
    | false => rfl
    | true => have := (h (s + 1 + k) (by omega)).mp hp; omega)]
theorem cnt_inv {c : Nat → Bool} {σ : Nat → Nat} {N : Nat} (h1 : ∀ s, s < N → σ s < N) (h2 : ∀ s, s < N → σ (σ s) = s) : cnt (fun s => c (σ s)) N = cnt c N := by
  have a : cnt (fun s => c (σ s)) N = sm (fun s => cnt (fun t => (σ s == t) && c t) N) N := by
    rw [← sm_cnt]
    refine sm_congr fun s hs => ?_
    cases hc : c (σ s) with
    | true => rw [if_pos rfl, cnt_one (h1 s hs) (fun t ht => by
        rw [Bool.and_eq_true, beq_iff_eq]
        exact ⟨(fun h => h.1.symm), (fun h => by rw [h]; exact ⟨rfl, hc⟩)⟩)]
    | false => rw [if_neg (by decide), cnt_false (fun t ht => by
        by_cases e : σ s = t
        · rw [← e, hc, Bool.and_false]
        · rw [show (σ s == t) = false by simpa using e, Bool.false_and])]
  have b : cnt c N = sm (fun t => cnt (fun s => (σ s == t) && c t) N) N := by
    rw [← sm_cnt]
    refine sm_congr fun t ht => ?_
    cases hc : c t with
    | true => rw [if_pos rfl, cnt_one (h1 t ht) (fun s hs => by
        rw [Bool.and_true, beq_iff_eq]
        constructor
        · intro e; rw [← e, h2 s hs]
        · intro e; rw [e, h2 t ht])]
    | false => rw [if_neg (by decide), cnt_false (fun s hs => by rw [Bool.and_false])]
  rw [a, b, sm_swap (fun s t => (σ s == t) && c t) N N]
theorem cnt_dec (x B : Nat) (h : x ≤ B) : cnt (fun v => decide (v < x)) B = x := by
  obtain ⟨d, rfl⟩ : ∃ d, B = x + d := ⟨B - x, by omega⟩
  have z : cnt (fun k => decide (x + k < x)) d = 0 := cnt_false (fun k hk => decide_eq_false (by omega))
  rw [cnt_add, z, Nat.add_zero]
  have := cnt_not (fun v => decide (v < x)) x
  rw [cnt_false (c := fun k => !decide (k < x)) (fun k hk => by rw [decide_eq_true hk]; rfl)] at this
  omega
theorem sm_inv {h : Nat → Nat} {σ : Nat → Nat} {N B : Nat} (hB : ∀ s, s < N → h s ≤ B) (h1 : ∀ s, s < N → σ s < N) (h2 : ∀ s, s < N → σ (σ s) = s) : sm (fun s => h (σ s)) N = sm h N := by
  rw [sm_congr (h := fun s => cnt (fun v => decide (v < h (σ s))) B) (fun s hs => (cnt_dec _ _ (hB _ (h1 s hs))).symm), sm_congr (g := h) (h := fun s => cnt (fun v => decide (v < h s)) B) (fun s hs => (cnt_dec _ _ (hB s hs)).symm), sm_swap (fun s v => decide (v < h (σ s))) N B, sm_swap (fun s v => decide (v < h s)) N B]
  exact sm_congr fun v _ => cnt_inv (c := fun s => decide (v < h s)) h1 h2
def sgm (i j s : Nat) : Nat := (s ^^^ 2 ^ j) ^^^ 2 ^ i
theorem sgm_lt {i j s : Nat} (hi : i < 7) (hj : j < 7) (hs : s < 128) : sgm i j s < 128 := x128 (x128 hs hj) hi
theorem sgm_sgm (i j s : Nat) : sgm i j (sgm i j s) = s := by
  unfold sgm
  apply Nat.eq_of_testBit_eq
  intro p
  simp only [Nat.testBit_xor]
  cases s.testBit p <;> cases (2 ^ i).testBit p <;> cases (2 ^ j).testBit p <;> rfl
theorem sgm_comm (i j s : Nat) : sgm j i s = sgm i j s := by
  unfold sgm
  rw [Nat.xor_assoc, Nat.xor_comm (2 ^ i), ← Nat.xor_assoc]
theorem sgm_i {i j s : Nat} (h : i ≠ j) : (sgm i j s).testBit i = !s.testBit i := by
  unfold sgm; rw [flip_eq, flip_ne s h]
theorem sgm_j {i j s : Nat} (h : i ≠ j) : (sgm i j s).testBit j = !s.testBit j := by
  unfold sgm; rw [flip_ne _ (Ne.symm h), flip_eq]
def rpF (a i : Nat) (f : Nat → Bool) (s : Nat) : Bool := s.testBit i && (!s.testBit a && f (sgm i a s))
def nwF (i j : Nat) (f : Nat → Bool) (s : Nat) : Bool := rpF j i f s && !f s
def wsB (i j : Nat) (f : Nat → Bool) (s : Nat) : Bool := f s && (s.testBit j && (!s.testBit i && !f (sgm i j s)))
def shG (i j : Nat) (f : Nat → Bool) (s : Nat) : Bool := if s.testBit j && !s.testBit i then f s && f (sgm i j s) else if s.testBit i && !s.testBit j then f s || f (sgm i j s) else f s
theorem nw_sgm {i j : Nat} (h : i ≠ j) (f : Nat → Bool) (s : Nat) : nwF i j f (sgm i j s) = wsB i j f s := by
  unfold nwF rpF wsB
  rw [sgm_i h, sgm_j h, sgm_sgm, Bool.not_not]
  cases s.testBit i <;> cases s.testBit j <;> cases f s <;> simp
theorem nw_cnt {i j : Nat} (h : i ≠ j) (hi : i < 7) (hj : j < 7) (f : Nat → Bool) : cnt (nwF i j f) 128 = cnt (wsB i j f) 128 := by
  rw [← cnt_inv (c := nwF i j f) (σ := sgm i j) (fun s hs => sgm_lt hi hj hs) (fun s _ => sgm_sgm i j s)]
  exact cnt_congr fun s _ => nw_sgm h f s
theorem sh_eq {i j : Nat} (h : i ≠ j) (f : Nat → Bool) (s : Nat) : ((f s && !rpF i j (nwF i j f) s) || nwF i j f s) = shG i j f s := by
  have e : rpF i j (nwF i j f) s = (s.testBit j && (!s.testBit i && wsB i j f s)) := by
    unfold rpF
    rw [sgm_comm i j, nw_sgm h]
  rw [e]
  unfold shG nwF rpF wsB
  cases hi : s.testBit i <;> cases hj : s.testBit j <;> cases f s <;> cases f (sgm i j s) <;> simp
theorem becomeReplaced_V {cP : Nat → Int32} {V : Nat → Nat → Bool} {w u a b : Nat} (hwu : u ≠ w) (ha : a < 7) (hb : b < 7) (hab : a ≠ b) : X0_becomeReplaced cP (LO V) (HI V) w u (nI a) (nI b) = some (va_up cP w (cP u), LO (va_up V w (rpF a b (V u))), HI (va_up V w (rpF a b (V u)))) := by
  unfold X0_becomeReplaced
  rw [clear_V, bd3_s, joinLink_V ha, bd2_s, keepLacking_V hb, bd2_s, joinRaised_V hb, bd2_s, keepWith_V hb, bd2_s]
  simp only [up_at, bx_uu, up_ne hwu]
  refine up_ext' fun s hs => ?_
  unfold rsF lkF rpF
  rw [sgm_comm a b]
  unfold sgm
  dsimp only
  rw [flip_eq, flip_ne s hab]
  cases h1 : s.testBit b <;> cases h2 : s.testBit a <;> simp
theorem newcomers_V {cP : Nat → Int32} {V : Nat → Nat → Bool} {u i j : Nat} (hu : u ≠ 3) (hi : i < 7) (hj : j < 7) (hij : i ≠ j) : X8_newcomers cP (LO V) (HI V) u (nI i) (nI j) = some (nI (cnt (wsB i j (V u)) 128), va_up cP 3 (cP u), LO (va_up V 3 (nwF i j (V u))), HI (va_up V 3 (nwF i j (V u)))) := by
  unfold X8_newcomers
  rw [becomeReplaced_V hu hj hi (Ne.symm hij), bd3_s, lose_V, bd2_s, size_V, bd1_s]
  simp only [up_at, bx_uu, up_ne hu]
  show some (nI (cnt (nwF i j (V u)) 128), _, _, _) = _
  rw [nw_cnt hij hi hj]
  rfl
theorem move_V {cP : Nat → Int32} {V : Nat → Nat → Bool} {i j : Nat} (hi : i < 7) (hj : j < 7) (hij : i ≠ j) : ∃ g, X8_move cP (LO V) (HI V) 5 (nI i) (nI j) = some (nI (cnt (wsB i j (V 5)) 128), va_up (va_up cP 3 (cP 5)) 4 (cP 5), LO (va_up (va_up (va_up V 3 (nwF i j (V 5))) 4 g) 5 (shG i j (V 5))), HI (va_up (va_up (va_up V 3 (nwF i j (V 5))) 4 g) 5 (shG i j (V 5)))) := by
  refine ⟨rpF i j (nwF i j (V 5)), ?_⟩
  unfold X8_move
  rw [newcomers_V (by decide) hi hj hij, bd4_s, becomeReplaced_V (by decide) hi hj hij, bd3_s, lose_V, bd2_s, join_V, bd2_s]
  simp only [up_at, bx_uu, up_ne (show (5 : Nat) ≠ 3 by decide), up_ne (show (5 : Nat) ≠ 4 by decide), up_ne (show (3 : Nat) ≠ 4 by decide), up_ne (show (3 : Nat) ≠ 5 by decide), up_ne (show (4 : Nat) ≠ 5 by decide), sh_eq hij]
theorem wouldShift_9 {mnow : Nat → Int32} {u n i j : Nat} {f : Nat → Bool} (hu : u < 3) (hM : FamM mnow (129 * u) (n, f)) (hi : i < 7) (hj : j < 7) : X9_wouldShift mnow (nI u) (nI i) (nI j) = some (nI (cnt (wsB i j f) 128)) := by
  unfold X9_wouldShift
  have := lfp2_cnt (F := X9_wouldShift_h6 mnow (nI u) (nI j) (nI i)) (wsB i j f) 128 0 (fun a => some (nI a)) (fun s hs a r => by
    have hx : sgm i j s < 128 := sgm_lt hi hj hs
    unfold X9_wouldShift_h6
    rw [if_neg (inn128 hs), isIn9 hu hM hs, bd1_s, X9_hasBit_eq hs hj, bd1_s, X9_hasBit_eq hs hi, bd1_s, shl1 _ (by omega), shl1 _ (by omega), xor_nI', xor_nI', show X9_isIn mnow (nI u) (nI (s ^^^ 2 ^ j ^^^ 2 ^ i)) = some (b01 (f (sgm i j s))) from isIn9 hu hM hx, bd1_s, ib0, ib0, ib0, ib0, nI_1, nI_1, Int32.add_zero]
    unfold wsB
    cases f s <;> cases s.testBit j <;> cases s.testBit i <;> cases f (sgm i j s) <;> rfl) (fun a r => by
    unfold X9_wouldShift_h6
    rw [if_pos i128])
  rw [Nat.zero_add] at this
  exact this
def shK (i j : Nat) (f : Nat → Bool) (k u : Nat) : Bool := if (u.testBit j && (!u.testBit i && decide (u < k))) || (u.testBit i && (!u.testBit j && decide (sgm i j u < k))) then shG i j f u else f u
theorem shiftsFresh_9 {m : Nat → Int32} {i j : Nat} {f : Nat → Bool} (hm : FR m f) (hi : i < 7) (hj : j < 7) (hij : i ≠ j) : ∃ m', X9_shiftsFresh m (nI i) (nI j) = some (nI (cnt (wsB i j f) 128), m') ∧ FR m' (shG i j f) := by
  unfold X9_shiftsFresh
  refine lfp3_inv (F := X9_shiftsFresh_h5 (nI j) (nI i)) (fun o => ∃ m', o = some (nI (cnt (wsB i j f) 128), m') ∧ FR m' (shG i j f)) 128 (fun k a s m => a = nI (cnt (wsB i j f) k) ∧ s = nI k ∧ FR m (shK i j f k)) (fun k a s m hk hI => ?_) (fun a s m hI => ?_) ⟨rfl, rfl, hm.congr (fun u _ => ?_)⟩
  · obtain ⟨rfl, rfl, hF⟩ := hI
    have hx : sgm i j k < 128 := sgm_lt hi hj hk
    right
    have hfk : m k = b01 (shK i j f k k) := hF k hk
    have hft : m (sgm i j k) = b01 (shK i j f k (sgm i j k)) := hF _ hx
    by_cases hb : k.testBit j = true ∧ k.testBit i = false
    · obtain ⟨b1, b2⟩ := hb
      have e1 : shK i j f k k = f k := by
        unfold shK; rw [b1, b2, decide_eq_false (show ¬ k < k by omega)]; rfl
      have e2 : shK i j f k (sgm i j k) = f (sgm i j k) := by
        unfold shK; rw [sgm_i hij, sgm_j hij, sgm_sgm, b1, b2, decide_eq_false (show ¬ k < k by omega)]; rfl
      rw [e1] at hfk
      rw [e2] at hft
      by_cases hc : f k = true ∧ f (sgm i j k) = false
      · obtain ⟨c1, c2⟩ := hc
        refine ⟨nI (cnt (wsB i j f) k + 1), nI (k + 1), upd (upd m k 0) (sgm i j k) 1, fun r => ?_, ?_, rfl, ?_⟩
        · unfold X9_shiftsFresh_h5
          rw [if_neg (inn128 hk), gin_nI hk (by decide), nI_clamp (by omega), hfk, c1, bt0, X9_hasBit_eq hk hj, bd1_s, b1, bt0, X9_hasBit_eq hk hi, bd1_s, b2, bf0, shl1 _ (by omega), shl1 _ (by omega), xor_nI', xor_nI', show k ^^^ 2 ^ j ^^^ 2 ^ i = sgm i j k from rfl, gin_nI hx (by decide), nI_clamp (by omega), hft, c2, bf0, gin_nI hk (by decide), gin_nI hx (by decide), nI_1, nI_1, vnz0, vnz1]
        · rw [cnt_succ, show wsB i j f k = true by unfold wsB; rw [c1, b1, b2, c2]; rfl, if_pos rfl]
        · intro u hu
          show (if u = sgm i j k then (1 : Int32) else (if u = k then (0 : Int32) else m u)) = _
          by_cases q1 : u = sgm i j k
          · rw [if_pos q1, q1]
            unfold shK shG
            rw [sgm_i hij, sgm_j hij, sgm_sgm, b1, b2, decide_eq_true (show k < k + 1 by omega), c1, c2]; rfl
          · rw [if_neg q1]
            by_cases q2 : u = k
            · rw [if_pos q2, q2]
              unfold shK shG
              rw [b1, b2, decide_eq_true (show k < k + 1 by omega), c1, c2]; rfl
            · rw [if_neg q2, hF u hu]
              unfold shK
              rw [show decide (u < k + 1) = decide (u < k) from decide_eq_decide.mpr (by omega), show decide (sgm i j u < k + 1) = decide (sgm i j u < k) from decide_eq_decide.mpr (by
                have : sgm i j u ≠ k := fun z => q1 (by rw [← z, sgm_sgm])
                omega)]
      · refine ⟨nI (cnt (wsB i j f) (k + 1)), nI (k + 1), m, fun r => ?_, rfl, rfl, hF.congr (fun u hu => ?_)⟩
        · have hw : wsB i j f k = false := by
            unfold wsB
            rw [b1, b2]
            cases c1 : f k with
            | false => rfl
            | true =>
              cases c2 : f (sgm i j k) with
              | true => rfl
              | false => exact absurd ⟨c1, c2⟩ hc
          unfold X9_shiftsFresh_h5
          rw [if_neg (inn128 hk), gin_nI hk (by decide), nI_clamp (by omega), hfk, X9_hasBit_eq hk hj, bd1_s, b1, bt0, X9_hasBit_eq hk hi, bd1_s, b2, bf0, shl1 _ (by omega), shl1 _ (by omega), xor_nI', xor_nI', show k ^^^ 2 ^ j ^^^ 2 ^ i = sgm i j k from rfl, gin_nI hx (by decide), nI_clamp (show sgm i j k < 2 ^ 31 by omega), hft, nI_1, show cnt (wsB i j f) (k + 1) = cnt (wsB i j f) k from by rw [cnt_succ, hw]; rfl]
          cases c1 : f k with
          | false => rw [bf0]
          | true =>
            rw [bt0]
            cases c2 : f (sgm i j k) with
            | true => rw [bt0]
            | false => exact absurd ⟨c1, c2⟩ hc
        · by_cases q1 : u = sgm i j k
          · rw [q1]
            unfold shK shG
            rw [sgm_i hij, sgm_j hij, sgm_sgm, b1, b2, decide_eq_true (show k < k + 1 by omega), decide_eq_false (show ¬ k < k by omega)]
            cases c1 : f k <;> cases c2 : f (sgm i j k) <;> simp
            exact absurd ⟨c1, c2⟩ hc
          · by_cases q2 : u = k
            · rw [q2]
              unfold shK shG
              rw [b1, b2, decide_eq_true (show k < k + 1 by omega), decide_eq_false (show ¬ k < k by omega)]
              cases c1 : f k <;> cases c2 : f (sgm i j k) <;> simp
              exact absurd ⟨c1, c2⟩ hc
            · unfold shK
              rw [show decide (u < k + 1) = decide (u < k) from decide_eq_decide.mpr (by omega), show decide (sgm i j u < k + 1) = decide (sgm i j u < k) from decide_eq_decide.mpr (by
                have : sgm i j u ≠ k := fun z => q1 (by rw [← z, sgm_sgm])
                omega)]
    · refine ⟨nI (cnt (wsB i j f) (k + 1)), nI (k + 1), m, fun r => ?_, rfl, rfl, hF.congr (fun u hu => ?_)⟩
      · have hw : wsB i j f k = false := by
          unfold wsB
          cases c1 : k.testBit j with
          | false => rw [Bool.false_and, Bool.and_false]
          | true =>
            cases c2 : k.testBit i with
            | true => simp
            | false => exact absurd ⟨c1, c2⟩ hb
        unfold X9_shiftsFresh_h5
        rw [if_neg (inn128 hk), gin_nI hk (by decide), nI_clamp (by omega), hfk, X9_hasBit_eq hk hj, bd1_s, X9_hasBit_eq hk hi, bd1_s, nI_1, show cnt (wsB i j f) (k + 1) = cnt (wsB i j f) k from by rw [cnt_succ, hw]; rfl]
        cases shK i j f k k with
        | false => rw [bf0]
        | true =>
          rw [bt0]
          cases c1 : k.testBit j with
          | false => rw [bf0]
          | true =>
            rw [bt0]
            cases c2 : k.testBit i with
            | true => rw [bt0]
            | false => exact absurd ⟨c1, c2⟩ hb
      · unfold shK
        have a1 : (u.testBit j && (!u.testBit i && decide (u < k + 1))) = (u.testBit j && (!u.testBit i && decide (u < k))) := by
          by_cases q : u = k
          · rw [q]
            cases c1 : k.testBit j with
            | false => rfl
            | true =>
              cases c2 : k.testBit i with
              | true => rfl
              | false => exact absurd ⟨c1, c2⟩ hb
          · rw [show decide (u < k + 1) = decide (u < k) from decide_eq_decide.mpr (by omega)]
        have a2 : (u.testBit i && (!u.testBit j && decide (sgm i j u < k + 1))) = (u.testBit i && (!u.testBit j && decide (sgm i j u < k))) := by
          by_cases q : sgm i j u = k
          · have b1 := sgm_i (s := u) hij
            have b2 := sgm_j (s := u) hij
            rw [q] at b1 b2
            cases c1 : u.testBit i with
            | false => rfl
            | true =>
              cases c2 : u.testBit j with
              | true => rfl
              | false => rw [c1] at b1; rw [c2] at b2; exact absurd ⟨b2, b1⟩ hb
          · rw [show decide (sgm i j u < k + 1) = decide (sgm i j u < k) from decide_eq_decide.mpr (by omega)]
        rw [a1, a2]
  · obtain ⟨rfl, rfl, hF⟩ := hI
    refine ⟨_, fun r => ?_, m, rfl, hF.congr (fun u hu => ?_)⟩
    · unfold X9_shiftsFresh_h5
      rw [if_pos i128]
    · unfold shK
      rw [decide_eq_true hu, decide_eq_true (sgm_lt hi hj hu)]
      unfold shG
      cases u.testBit i <;> cases u.testBit j <;> rfl
  · unfold shK
    rw [decide_eq_false (by omega), decide_eq_false (by omega)]
    simp
theorem sh_in {n i j : Nat} {f : Nat → Bool} (hij : i < j) (hj : j < n) (hf : inN n f) : inN n (shG i j f) := by
  intro s hs
  have key : ∀ u, u < 2 ^ n → sgm i j u < 2 ^ n := fun u hu => flip_lt (by omega) (flip_lt hj hu)
  unfold shG at hs
  split at hs
  · rw [Bool.and_eq_true] at hs; exact hf s hs.1
  · split at hs
    · rw [Bool.or_eq_true] at hs
      rcases hs with hs | hs
      · exact hf s hs
      · have := key _ (hf _ hs); rwa [sgm_sgm] at this
    · exact hf s hs
theorem two_cases {n : Nat} (hn : n ≤ 7) (p q : Int32) : (∃ i j, p = nI i ∧ q = nI j ∧ i < j ∧ j < n) ∨ ¬ ((0 ≤ p.toInt ∧ p.toInt < (n : Int)) ∧ (0 ≤ q.toInt ∧ q.toInt < (n : Int)) ∧ p.toInt < q.toInt) := by
  by_cases h : (0 ≤ p.toInt ∧ p.toInt < (n : Int)) ∧ (0 ≤ q.toInt ∧ q.toInt < (n : Int)) ∧ p.toInt < q.toInt
  · left
    obtain ⟨i, hi, rfl⟩ := point_of hn h.1
    obtain ⟨j, hj, rfl⟩ := point_of hn h.2.1
    have := h.2.2
    rw [nI_toInt (by omega), nI_toInt (by omega)] at this
    exact ⟨i, j, rfl, rfl, by omega, hj⟩
  · right; exact h
theorem isShift_in {cP : Nat → Int32} {u n i j : Nat} (hP : cP u = nI n) (hn : n ≤ 7) (hij : i < j) (hj : j < n) : X8_isShift cP u (nI i) (nI j) = some 1 := by
  unfold X8_isShift
  rw [X0_knowsPoint_eq hP hn, bd1_s, X0_knowsPoint_eq hP hn, bd1_s, nI_toInt (by omega), nI_toInt (by omega), decide_eq_true (by omega), decide_eq_true (by omega), bt0, bt0, if_neg (nI_ge hij (by omega))]
theorem isTwo_in {mnow : Nat → Int32} {u n i j : Nat} {f : Nat → Bool} (hu : u < 3) (hM : FamM mnow (129 * u) (n, f)) (hn : n ≤ 7) (h0 : 0 < n) (hij : i < j) (hj : j < n) : X9_isTwo mnow (nI u) (nI i) (nI j) = some 1 := by
  unfold X9_isTwo
  rw [isPoint9 hu hM hn h0, bd1_s, isPoint9 hu hM hn h0, bd1_s, nI_toInt (by omega), nI_toInt (by omega), decide_eq_true (by omega), decide_eq_true (by omega), bt0, bt0, if_neg (nI_ge hij (by omega))]
theorem isShift_out {cP : Nat → Int32} {u n : Nat} {p q : Int32} (hP : cP u = nI n) (hn : n ≤ 7) (h : ¬ ((0 ≤ p.toInt ∧ p.toInt < (n : Int)) ∧ (0 ≤ q.toInt ∧ q.toInt < (n : Int)) ∧ p.toInt < q.toInt)) : X8_isShift cP u p q = some 0 := by
  unfold X8_isShift
  rw [X0_knowsPoint_eq hP hn, bd1_s, X0_knowsPoint_eq hP hn, bd1_s]
  by_cases h1 : 0 ≤ p.toInt ∧ p.toInt < (n : Int)
  · rw [decide_eq_true h1, bt0]
    by_cases h2 : 0 ≤ q.toInt ∧ q.toInt < (n : Int)
    · rw [decide_eq_true h2, bt0, if_pos (i32_le.mpr (by omega))]
    · rw [decide_eq_false h2, bf0]
  · rw [decide_eq_false h1, bf0]
theorem isTwo_out {mnow : Nat → Int32} {u n : Nat} {f : Nat → Bool} {p q : Int32} (hu : u < 3) (hM : FamM mnow (129 * u) (n, f)) (hn : n ≤ 7) (h0 : 0 < n) (h : ¬ ((0 ≤ p.toInt ∧ p.toInt < (n : Int)) ∧ (0 ≤ q.toInt ∧ q.toInt < (n : Int)) ∧ p.toInt < q.toInt)) : X9_isTwo mnow (nI u) p q = some 0 := by
  unfold X9_isTwo
  rw [isPoint9 hu hM hn h0, bd1_s, isPoint9 hu hM hn h0, bd1_s]
  by_cases h1 : 0 ≤ p.toInt ∧ p.toInt < (n : Int)
  · rw [decide_eq_true h1, bt0]
    by_cases h2 : 0 ≤ q.toInt ∧ q.toInt < (n : Int)
    · rw [decide_eq_true h2, bt0, if_pos (i32_le.mpr (by omega))]
    · rw [decide_eq_false h2, bf0]
  · rw [decide_eq_false h1, bf0]
theorem isTwo_no {mnow : Nat → Int32} {p a b : Int32} (h : X9_hasOne mnow p = some 0) : X9_isTwo mnow p a b = some 0 := by unfold X9_isTwo; rw [X9_isPoint_out h]; rfl
section SIM
variable {cP : Nat → Int32} {cLo : Nat → Int64} {cHi : Nat → Int64} {cpl : Nat → Int32} {ctb : Nat → Int32} {ctl : Int32} {ctf : Int32} {ctp : Int32} {ctk : Int32} {cts : Int32} {cth : Int32} {cob : Nat → Int32} {col : Int32} {cso : Nat → Int32} {cha : Int32} {chs : Int32} {cbe : Int32} {ctr : Int32} {cgl : Nat → Int64} {cgh : Nat → Int64} {cll : Nat → Int64} {clh : Nat → Int64} {cta : Nat → Int32} {cme : Nat → Int32} {cps : Int32} {cwh : Nat → Int32} {cal : Nat → Int64} {cah : Nat → Int64} {mthr : Int32} {mfrp : Int32} {mact : Int32} {mtpd : Int32} {msiz : Int32} {matx : Int32} {mfrm : Int32} {mtok : Int32} {mval : Int32} {mfk : Int32} {mfpl : Int32} {mbem : Int32} {mtrs : Int32} {mtrl : Int32} {mrom : Int32} {mtom : Int32} {mnow : Nat → Int32} {mfre : Nat → Int32} {mkep : Nat → Int32} {mtap : Nat → Int32} {mlef : Nat → Int32} {mtak : Nat → Int32} {mbes : Nat → Int32} {mrow : Nat → Int32} {mint : Nat → Int32} {mrnd : Nat → Int32} {mplo : Nat → Int32} {mhio : Nat → Int32} {mtox : Nat → Int32} {mtol : Nat → Int32}
theorem sim_would {p1 p2 p3 : Int32} (hr : Rel cP cLo cHi ctb ctl ctf ctp cob col cso cha chs mact mtpd mfk mfpl mtom mnow mkep mtap mtol) : ∃ (r : Int32) (ocP : Nat → Int32) (ocLo : Nat → Int64) (ocHi : Nat → Int64), X8_would cP cLo cHi p1 p2 p3 = some (r, ocP, ocLo, ocHi) ∧ X9_would mnow p1 p2 p3 = some r ∧ Rel ocP ocLo ocHi ctb ctl ctf ctp cob col cso cha chs mact mtpd mfk mfpl mtom mnow mkep mtap mtol := by
  obtain ⟨V, rfl, rfl, hV⟩ := toV cLo cHi
  unfold X8_would X9_would
  rcases famcase hV hr p1 with ⟨j, n, hj, rfl, h0, hn, hi, hP, hM, e1, e2⟩ | ⟨e1, e2⟩
  · rw [e1, bdo_s]
    rcases two_cases hn p2 p3 with ⟨a, b, rfl, rfl, hab, hb⟩ | h
    · rw [isShift_in hP hn hab hb, bd1_s, i10, isTwo_in hj hM hn h0 hab hb, bd1_s, i10, newcomers_V (by omega) (by omega) (by omega) (by omega), bd4_s, wouldShift_9 hj hM (by omega) (by omega), bd1_s]
      exact ⟨_, _, _, _, rfl, rfl, keep3 hr _ _⟩
    · rw [isShift_out hP hn h, bd1_s, i00, isTwo_out hj hM hn h0 h, bd1_s, i00]
      exact ⟨_, _, _, _, rfl, rfl, hr⟩
  · rw [e1, bdo_n, isTwo_no e2, bd1_s, i00]
    exact ⟨_, _, _, _, rfl, rfl, hr⟩
theorem sim_shift {p1 p2 p3 : Int32} (hr : Rel cP cLo cHi ctb ctl ctf ctp cob col cso cha chs mact mtpd mfk mfpl mtom mnow mkep mtap mtol) : ∃ (r : Int32) (ocP : Nat → Int32) (ocLo : Nat → Int64) (ocHi : Nat → Int64) (ocso : Nat → Int32) (ocha : Int32) (ochs : Int32) (omfrp : Int32) (omact : Int32) (omnow : Nat → Int32) (omfre : Nat → Int32) (omkep : Nat → Int32), X8_shift cP cLo cHi cso cha chs p1 p2 p3 = some (r, ocP, ocLo, ocHi, ocso, ocha, ochs) ∧ X9_shift mfrp mact mnow mfre mkep p1 p2 p3 = some (r, omfrp, omact, omnow, omfre, omkep) ∧ Rel ocP ocLo ocHi ctb ctl ctf ctp cob col ocso ocha ochs omact mtpd mfk mfpl mtom omnow omkep mtap mtol := by
  obtain ⟨V, rfl, rfl, hV⟩ := toV cLo cHi
  unfold X8_shift X9_shift
  rcases famcase hV hr p1 with ⟨j, n, hj, rfl, h0, hn, hi, hP, hM, e1, e2⟩ | ⟨e1, e2⟩
  · rw [e1, bdo_s]
    rcases two_cases hn p2 p3 with ⟨a, b, rfl, rfl, hab, hb⟩ | h
    · obtain ⟨g, hmv⟩ := move_V (cP := va_up cP 5 (cP j)) (V := va_up V 5 (V j)) (i := a) (j := b) (by omega) (by omega) (by omega)
      obtain ⟨m', hs1, hs2⟩ := shiftsFresh_9 (i := a) (j := b) (FR_copy mfre (V j)) (by omega) (by omega) (by omega)
      rw [isShift_in hP hn hab hb, bd1_s, i10, isTwo_in hj hM hn h0 hab hb, bd1_s, i10, become_V, bd3_s, hmv, bd4_s, X9_copiesFresh_eq (v := (n, V j)) hj hM, bd2_s]
      show ∃ r ocP ocLo ocHi ocso ocha ochs omfrp omact omnow omfre omkep, _ ∧ bd2 (X9_shiftsFresh (fillA mfre 0 (fun s => b01 (V j s)) 128) (nI a) (nI b)) _ = _ ∧ _
      rw [hs1, bd2_s]
      simp only [up_at]
      obtain ⟨oP, oLo, oHi, so, ha, hz, act, now, kep, c1, c2, c3⟩ := comes_sim hr (oP := va_up (va_up (va_up cP 5 (cP j)) 3 (cP j)) 4 (cP j)) (V := va_up (va_up (va_up (va_up V 5 (V j)) 3 (nwF a b (V j))) 4 g) 5 (shG a b (V j))) (w := 5) (n := n) (f := shG a b (V j)) (m := m') (((((((Keeps.rfl'.up 5 (by omega) _).up 3 (by omega) _).up 4 (by omega) _).up 5 (by omega) _).upP 5 (by omega) _).upP 3 (by omega) _).upP 4 (by omega) _) (by omega) hj (by rw [up_ne (by decide), up_ne (by decide), up_at]; exact hP) (fun t _ => by rw [up_at]) (okF_mk hn h0 (sh_in hab hb hi)) hs2
      rw [c1, bd7_s, c2, bd4_s]
      exact ⟨_, _, _, _, _, _, _, _, _, _, _, _, rfl, rfl, c3⟩
    · rw [isShift_out hP hn h, bd1_s, i00, isTwo_out hj hM hn h0 h, bd1_s, i00]
      exact ⟨_, _, _, _, _, _, _, _, _, _, _, _, rfl, rfl, hr⟩
  · rw [e1, bdo_n, isTwo_no e2, bd1_s, i00]
    exact ⟨_, _, _, _, _, _, _, _, _, _, _, _, rfl, rfl, hr⟩
end SIM
