/-! colours, colour -/
theorem lstA_cnt (f : Nat → Bool) : ∀ s, (lstA f s).length = cnt f s := by
  intro s
  induction s with
  | zero => rfl
  | succ s ih =>
    rw [lstA_succ, cnt_succ]
    cases f s with
    | true => rw [if_pos rfl, if_pos rfl, List.length_append, ih]; rfl
    | false => rw [if_neg Bool.false_ne_true, if_neg Bool.false_ne_true, ih]; rfl
theorem lstA_cut {f : Nat → Bool} {a : Nat} (h : ∀ s, a ≤ s → f s = false) : ∀ d, lstA f (a + d) = lstA f a := by
  intro d
  induction d with
  | zero => rfl
  | succ d ih => rw [show a + (d + 1) = a + d + 1 from rfl, lstA_succ, h _ (by omega), if_neg Bool.false_ne_true, ih]
theorem gtL_less : ∀ (L : List Nat), L.Pairwise (· < ·) → ∀ i j, i < j → j < L.length → gtL L i < gtL L j := by
  intro L
  induction L with
  | nil => intro _ i j _ h; exact absurd h (Nat.not_lt_zero j)
  | cons x L ih =>
    intro h i j hij hj
    rw [List.pairwise_cons] at h
    rw [List.length_cons] at hj
    cases j with
    | zero => exact absurd hij (Nat.not_lt_zero i)
    | succ j =>
      cases i with
      | zero => exact h.1 _ (gtL_mem L (by omega))
      | succ i => exact ih h.2 i j (by omega) (by omega)
theorem gtL_inj {L : List Nat} (h : L.Pairwise (· < ·)) {i j : Nat} (hi : i < L.length) (hj : j < L.length) (e : gtL L i = gtL L j) : i = j := by
  by_cases a : i < j
  · have := gtL_less L h i j a hj; omega
  · by_cases b : j < i
    · have := gtL_less L h j i b hi; omega
    · omega
section
variable {cP cme cwh : Nat → Int32} {V : Nat → Nat → Bool} {cal cah : Nat → Int64} {n j : Nat}
theorem clear7_c {me wh : Nat → Int32} {ps : Int32} {al ah : Nat → Int64} (hj : j < 3) : ∃ oP W, lfp4 (X3_gather_h104 me ps wh al ah j) (0 : Int32) cP (LO V) (HI V) = some (oP, LO W, HI W, me, ps, wh, al, ah) ∧ (∀ i, i < 20 → oP i = cP i ∧ W i = V i) ∧ ∀ q, q < 7 → W (20 + q) = fun _ => false := by
  refine lfp4_inv (F := X3_gather_h104 me ps wh al ah j) (fun o => ∃ oP W, o = some (oP, LO W, HI W, me, ps, wh, al, ah) ∧ (∀ i, i < 20 → oP i = cP i ∧ W i = V i) ∧ ∀ q, q < 7 → W (20 + q) = fun _ => false) 7 (fun k a p lo hi => a = nI k ∧ ∃ W, lo = LO W ∧ hi = HI W ∧ (∀ i, i < 20 → p i = cP i ∧ W i = V i) ∧ ∀ q, q < k → W (20 + q) = fun _ => false) (fun k a p lo hi hk hI => ?_) (fun a p lo hi hI => ?_) ⟨rfl, V, rfl, rfl, fun i _ => ⟨rfl, rfl⟩, fun q hq => absurd hq (Nat.not_lt_zero q)⟩
  · obtain ⟨rfl, W, rfl, rfl, hK, hD⟩ := hI
    right
    refine ⟨nI (k + 1), va_up p (20 + k) (p j), LO (va_up W (20 + k) (fun _ => false)), HI (va_up W (20 + k) (fun _ => false)), fun r => by
      unfold X3_gather_h104
      rw [if_neg (show ¬ (7 : Int32) ≤ nI k from nI_ge (b := 7) hk (by decide)), gin_nI hk (by decide), nI_clamp (by omega), clear_V, bd3_s, nI_1], rfl, va_up W (20 + k) (fun _ => false), rfl, rfl, fun i hi => ⟨by rw [up_ne (by omega)]; exact (hK i hi).1, by rw [up_ne (by omega)]; exact (hK i hi).2⟩, fun q hq => ?_⟩
    by_cases e : q = k
    · subst e; rw [up_at]
    · rw [up_ne (by omega)]; exact hD q (by omega)
  · obtain ⟨rfl, W, rfl, rfl, hK, hD⟩ := hI
    exact ⟨_, fun r => by
      unfold X3_gather_h104
      rw [if_pos (show (7 : Int32) ≤ nI 7 by decide)], p, W, rfl, hK, hD⟩
theorem gather_c (hj : j < 3) (hn : n ≤ 7) (hP : cP j = nI n) (hi : inN n (V j)) : ∃ oP W me wh al ah, X3_gather cP (LO V) (HI V) cme cwh cal cah j = some (oP, LO W, HI W, me, nI (lstA (V j) 128).length, wh, al, ah) ∧ (∀ i, i < 20 → oP i = cP i ∧ W i = V i) ∧ (∀ q, q < 7 → W (20 + q) = fun _ => false) ∧ (∀ i, i < (lstA (V j) 128).length → me i = nI (gtL (lstA (V j) 128) i)) ∧ (∀ i, i < (lstA (V j) 128).length → wh i = -1) ∧ ∀ x, V j x = true → ∀ s, s < 128 → mbs (al x) (ah x) s = (V j s && decide (s &&& x = 0)) := by
  have hq := pow_le7 hn
  have hcut : lstA (V j) 128 = lstA (V j) (2 ^ n) := by
    have := lstA_cut (f := V j) (a := 2 ^ n) (fun s hs => by
      cases hv : V j s with
      | false => rfl
      | true => have := hi s hv; omega) (128 - 2 ^ n)
    rw [show 2 ^ n + (128 - 2 ^ n) = 128 by omega] at this
    exact this
  rw [hcut]
  unfold X3_gather
  refine lfp9_inv (F := X3_gather_h7 j) (fun o => ∃ oP W me wh al ah, o = some (oP, LO W, HI W, me, nI (lstA (V j) (2 ^ n)).length, wh, al, ah) ∧ (∀ i, i < 20 → oP i = cP i ∧ W i = V i) ∧ (∀ q, q < 7 → W (20 + q) = fun _ => false) ∧ (∀ i, i < (lstA (V j) (2 ^ n)).length → me i = nI (gtL (lstA (V j) (2 ^ n)) i)) ∧ (∀ i, i < (lstA (V j) (2 ^ n)).length → wh i = -1) ∧ ∀ x, V j x = true → ∀ s, s < 128 → mbs (al x) (ah x) s = (V j s && decide (s &&& x = 0))) (2 ^ n)
    (fun k a p lo hi me ps wh al ah => a = nI k ∧ ps = nI (lstA (V j) k).length ∧ (∃ W, lo = LO W ∧ hi = HI W ∧ ∀ i, i < 20 → p i = cP i ∧ W i = V i) ∧ (∀ i, i < (lstA (V j) k).length → me i = nI (gtL (lstA (V j) k) i)) ∧ (∀ i, i < (lstA (V j) k).length → wh i = -1) ∧ ∀ x, x < k → V j x = true → ∀ s, s < 128 → mbs (al x) (ah x) s = (V j s && decide (s &&& x = 0))) (fun k a p lo hi me ps wh al ah hk hI => ?_) (fun a p lo hi me ps wh al ah hI => ?_) ⟨rfl, rfl, ⟨V, rfl, rfl, fun i _ => ⟨rfl, rfl⟩⟩, fun i hi => absurd hi (Nat.not_lt_zero i), fun i hi => absurd hi (Nat.not_lt_zero i), fun x hx => absurd hx (Nat.not_lt_zero x)⟩
  · obtain ⟨rfl, rfl, ⟨W, rfl, rfl, hK⟩, hme, hwh, hD⟩ := hI
    have hl := lstA_len (V j) k
    have hs := lstA_succ (V j) k
    have hsp : X0_span p j = some (nI (2 ^ n)) := X0_span_eq (by rw [(hK j (by omega)).1]; exact hP) hn
    have hWj : W j = V j := (hK j (by omega)).2
    right
    cases hb : V j k with
    | false =>
      rw [hb, if_neg Bool.false_ne_true] at hs
      refine ⟨nI (k + 1), p, LO W, HI W, me, nI (lstA (V j) k).length, wh, al, ah, fun r => by
        unfold X3_gather_h7
        rw [hsp, bd1_s, if_neg (nI_ge hk (by omega)), holds_V (by omega), bd1_s, hWj, hb, bf0, nI_1], rfl, by rw [hs], ⟨W, rfl, rfl, hK⟩, by rw [hs]; exact hme, by rw [hs]; exact hwh, fun x hx hv => ?_⟩
      by_cases e : x = k
      · subst e; rw [hb] at hv; cases hv
      · exact hD x (by omega) hv
    | true =>
      rw [hb, if_pos rfl] at hs
      refine ⟨nI (k + 1), va_up p 27 (p j), LO (va_up (va_up W 27 (W j)) 27 (ksW k 0 (va_up W 27 (W j) 27) 7)), HI (va_up (va_up W 27 (W j)) 27 (ksW k 0 (va_up W 27 (W j) 27) 7)), upd me (lstA (V j) k).length (nI k), nI ((lstA (V j) k).length + 1), upd wh (lstA (V j) k).length (-1), vp_updL al k (LO (va_up (va_up W 27 (W j)) 27 (ksW k 0 (va_up W 27 (W j) 27) 7)) 27), vp_updL ah k (HI (va_up (va_up W 27 (W j)) 27 (ksW k 0 (va_up W 27 (W j) 27) 7)) 27), fun r => by
        unfold X3_gather_h7
        rw [hsp, bd1_s, if_neg (nI_ge hk (by omega)), holds_V (by omega), bd1_s, show W j k = true by rw [hWj]; exact hb, bt0, become_V, bd3_s, show (0 : Int32) = nI 0 from rfl, keepSharing_V (by omega) (by decide), bd2_s, gin_nI (by omega) (by decide), gin_nI (by omega) (by decide), gin_nI (by omega) (by decide), gin_nI (by omega) (by decide), nI_clamp (show k < 2 ^ 31 by omega), nI_clamp (show (lstA (V j) k).length < 2 ^ 31 by omega), nI_1 k, nI_1 (lstA (V j) k).length], rfl, by rw [hs, List.length_append]; rfl, ⟨_, rfl, rfl, fun i hi => ⟨by rw [up_ne (by omega)]; exact (hK i hi).1, by rw [up_ne (by omega), up_ne (by omega)]; exact (hK i hi).2⟩⟩, fun i hi => ?_, fun i hi => ?_, fun x hx hv s hs' => ?_⟩
      · rw [hs, List.length_append] at hi
        have hi' : i < (lstA (V j) k).length + 1 := hi
        rw [hs]
        by_cases e : i = (lstA (V j) k).length
        · rw [e, pk_us, gtL_end]
        · rw [pk_un e, gtL_app (by omega)]; exact hme i (by omega)
      · rw [hs, List.length_append] at hi
        have hi' : i < (lstA (V j) k).length + 1 := hi
        by_cases e : i = (lstA (V j) k).length
        · rw [e, pk_us]
        · rw [pk_un e]; exact hwh i (by omega)
      · by_cases e : x = k
        · subst e
          rw [pk_uLs, pk_uLs, mbs_LH hs', up_at, ks_eq hs' (by omega), Nat.zero_and, up_at, hWj]
        · rw [pk_uLn e, pk_uLn e]; exact hD x (by omega) hv s hs'
  · obtain ⟨rfl, rfl, ⟨W, rfl, rfl, hK⟩, hme, hwh, hD⟩ := hI
    have hsp : X0_span p j = some (nI (2 ^ n)) := X0_span_eq (by rw [(hK j (by omega)).1]; exact hP) hn
    obtain ⟨oP, W', e1, e2, e3⟩ := clear7_c (cP := p) (V := W) (me := me) (wh := wh) (ps := nI (lstA (V j) (2 ^ n)).length) (al := al) (ah := ah) hj
    exact ⟨_, fun r => by
      unfold X3_gather_h7
      rw [hsp, bd1_s, if_pos (nI_le (Nat.le_refl _) (by omega)), e1], oP, W', me, wh, al, ah, rfl, fun i hi => ⟨by rw [(e2 i hi).1, (hK i hi).1], by rw [(e2 i hi).2, (hK i hi).2]⟩, e3, hme, hwh, fun x hv => hD x (hi x hv) hv⟩
end
theorem rows0_9 {mnow mrow mint : Nat → Int32} {f : Nat → Bool} {n j : Nat} {c l : Int32} (hj : j < 3) (hM : FamM mnow (129 * j) (n, f)) : ∃ row, X9_colours0 mnow mrow mint (nI j) c l = lfp3 (X9_colours0_h69 (nI (lstA f 128).length) row c) l (nI 0) (upd mint 0 (-1)) ∧ ∀ i, i < (lstA f 128).length → row i = nI (gtL (lstA f 128) i) := by
  unfold X9_colours0
  refine lfp3_inv (F := X9_colours0_h8 c l mint mnow (nI j)) (fun o => ∃ row, o = lfp3 (X9_colours0_h69 (nI (lstA f 128).length) row c) l (nI 0) (upd mint 0 (-1)) ∧ ∀ i, i < (lstA f 128).length → row i = nI (gtL (lstA f 128) i)) 128 (fun k a1 a2 a3 => a1 = nI k ∧ a2 = nI (lstA f k).length ∧ ∀ i, i < (lstA f k).length → a3 i = nI (gtL (lstA f k) i)) (fun k a1 a2 a3 hk hI => ?_) (fun a1 a2 a3 hI => ?_) ⟨rfl, rfl, fun i hi => absurd hi (Nat.not_lt_zero i)⟩
  · obtain ⟨rfl, rfl, hm⟩ := hI
    have hl := lstA_len f k
    have hs := lstA_succ f k
    right
    cases hv : f k with
    | false =>
      rw [hv, if_neg Bool.false_ne_true] at hs
      refine ⟨nI (k + 1), nI (lstA f k).length, a3, fun r => ?_, rfl, by rw [hs], by rw [hs]; exact hm⟩
      unfold X9_colours0_h8
      rw [if_neg (inn128 hk), isIn9 hj hM hk, bd1_s, hv, bf0, nI_1]
    | true =>
      rw [hv, if_pos rfl] at hs
      refine ⟨nI (k + 1), nI ((lstA f k).length + 1), upd a3 (lstA f k).length (nI k), fun r => ?_, rfl, by rw [hs, List.length_append]; rfl, ?_⟩
      · unfold X9_colours0_h8
        rw [if_neg (inn128 hk), isIn9 hj hM hk, bd1_s, hv, bt0, gin_nI (by omega) (by decide), nI_clamp (by omega), nI_1 k, nI_1 (lstA f k).length]
      · rw [hs]
        intro i hi
        rw [List.length_append] at hi
        have hi' : i < (lstA f k).length + 1 := hi
        by_cases e : i = (lstA f k).length
        · rw [e, pk_us, gtL_end]
        · rw [pk_un e, gtL_app (by omega)]; exact hm i (by omega)
  · obtain ⟨rfl, rfl, hm⟩ := hI
    refine ⟨_, fun r => ?_, a3, rfl, hm⟩
    unfold X9_colours0_h8
    rw [if_pos i128, show (0 : Int32) = nI 0 from rfl, gin_nI (by decide) (by decide), nI_clamp (by decide)]
section
variable {mnow : Nat → Int32} {f : Nat → Bool} {n j lim : Nat}
theorem col_sim {cP cme cwh mrow mint : Nat → Int32} {V : Nat → Nat → Bool} {cal cah : Nat → Int64} {c : Nat} (hj : j < 3) (hn : n ≤ 7) (hM : FamM mnow (129 * j) (n, f)) (hi : inN n f) (hf0 : f 0 = false) (hlim : lim ≤ 50000) (hc : c ≤ 7) (hP : cP j = nI n) (hVj : V j = f) :
    ∃ (o : Nat) (oP : Nat → Int32) (W : Nat → Nat → Bool) (me wh : Nat → Int32) (al ah : Nat → Int64) (row int : Nat → Int32), X3_run cP (LO V) (HI V) cme cwh cal cah j (nI c) (nI lim) = some (nI o, oP, LO W, HI W, me, nI (cnt f 128), wh, al, ah) ∧ X9_colours0 mnow mrow mint (nI j) (nI c) (nI lim) = some (krI o, nI (cnt f 128), row, int) ∧ (∀ i, i < 20 → oP i = cP i ∧ W i = V i) ∧ (o = 0 → ∀ i, i < cnt f 128 → wh i = int i) ∧ o < 3 ∧ (o = 1 → c ≠ 7) := by
  subst hVj
  obtain ⟨oP, W, me, wh, al, ah, g1, g2, g3, g4, g5, g6⟩ := gather_c (cP := cP) (cme := cme) (cwh := cwh) (V := V) (cal := cal) (cah := cah) hj hn hP hi
  obtain ⟨row, r1, r2⟩ := rows0_9 (mrow := mrow) (mint := mint) (c := nI c) (l := nI lim) hj hM
  have hlen := lstA_cnt (V j) 128
  have hl := lstA_len (V j) 128
  have hmem : ∀ i, i < (lstA (V j) 128).length → gtL (lstA (V j) 128) i < 128 ∧ V j (gtL (lstA (V j) 128) i) = true := fun i hi => lstA_mem.mp (gtL_mem _ hi)
  obtain ⟨ψ, hψ⟩ := way7 (mem := gtL (lstA (V j) 128)) (sz := (lstA (V j) 128).length) (fun i hi => (hmem i hi).1) (fun i hi q => by
    have := (hmem i hi).2
    rw [q, hf0] at this; cases this)
  obtain ⟨o, W', cw, mi, c1, c2, c3, c4, c5, c6⟩ := col_loop (cP := oP) (cme := me) (mrow := row) (cal := al) (cah := ah) (mem := gtL (lstA (V j) 128)) (ψ := ψ) (f := V j) (sz := (lstA (V j) 128).length) (c := c) (lim := lim) hl hc hlim (fun i hi => (hmem i hi).1) (fun i hi => (hmem i hi).2) (fun i hi k hk e => gtL_inj (lstA_srt (V j)).1 hi hk e) g4 r2 (fun i hi => g6 _ (hmem i hi).2) hψ (2 * lim + 1) 0 0 (fun _ => 0) W wh (upd mint 0 (-1)) (by omega) (Nat.le_refl 0) (Nat.zero_le _) (Nat.zero_le _) (fun i hi => absurd hi (Nat.not_lt_zero i)) (fun _ => ⟨Nat.zero_le _, Nat.zero_le _⟩) (fun i hi => ⟨fun h => by
      have : i = 0 := by omega
      subst this
      exact ⟨g5 0 hi, pk_us⟩, fun h => g5 i hi⟩) (fun p hp s hs => by
      rw [g3 p hp]
      exact ⟨(fun q => by cases q), fun ⟨i, hi, _⟩ => absurd hi (Nat.not_lt_zero i)⟩) (fun _ _ => ⟨0, Nat.le_refl 0, fun i hi => absurd hi (Nat.not_lt_zero i), Nat.zero_le _⟩)
  rw [hlen] at c1 c2 c4 g1 r1
  refine ⟨o, oP, W', me, cw, al, ah, row, mi, ?_, r1.trans c2, fun i hi => ⟨(g2 i hi).1, by rw [c3 i hi, (g2 i hi).2]⟩, c4, c5, c6⟩
  unfold X3_run
  rw [g1, bd8_s]
  exact c1
theorem colours_loop (hj : j < 3) (hn : n ≤ 7) (hM : FamM mnow (129 * j) (n, f)) (hi : inN n f) (hf0 : f 0 = false) (hlim : lim ≤ 50000) :
    ∀ (d c : Nat), c + d = 7 → 1 ≤ c → ∀ (cP cme : Nat → Int32) (cps : Int32) (cwh mrow mint : Nat → Int32) (V : Nat → Nat → Bool) (cal cah : Nat → Int64), cP j = nI n → V j = f →
      ∃ (r : Int32) (oP : Nat → Int32) (W : Nat → Nat → Bool) (me : Nat → Int32) (ps : Int32) (wh : Nat → Int32) (al ah : Nat → Int64) (rom : Int32) (row int : Nat → Int32), lfp9 (X8_colours_h43 j (nI lim)) (nI c) cP (LO V) (HI V) cme cps cwh cal cah = some (r, oP, LO W, HI W, me, ps, wh, al, ah) ∧ bd4 (X9_colours0 mnow mrow mint (nI j) (nI c) (nI lim)) (fun q a b d => lfp5 (X9_colours_h56 mnow (nI j) (nI lim)) (nI c) q a b d) = some (r, rom, row, int) ∧ ∀ i, i < 20 → oP i = cP i ∧ W i = V i := by
  intro d
  induction d with
  | zero =>
    intro c hcd hc1 cP cme cps cwh mrow mint V cal cah hP hVj
    obtain ⟨o, oP, W, me, wh, al, ah, row, int, e1, e2, e3, _, e5, e6⟩ := col_sim (cP := cP) (cme := cme) (cwh := cwh) (mrow := mrow) (mint := mint) (V := V) (cal := cal) (cah := cah) (c := c) hj hn hM hi hf0 hlim (by omega) hP hVj
    have n7 : ¬ (7 : Int32) < nI c := nI_nlt (a := 7) (by omega) (by decide)
    rcases (show o = 0 ∨ o = 1 ∨ o = 2 by omega) with rfl | rfl | rfl
    · refine ⟨nI c, oP, W, me, nI (cnt f 128), wh, al, ah, nI (cnt f 128), row, int, lfp9_done fun r => ?_, ?_, e3⟩
      · unfold X8_colours_h43
        rw [if_neg n7, e1, bd9_s]; rfl
      · rw [e2, bd4_s]
        refine lfp5_done fun r => ?_
        unfold X9_colours_h56; rfl
    · exact absurd (show c = 7 by omega) (e6 rfl)
    · refine ⟨-3, oP, W, me, nI (cnt f 128), wh, al, ah, nI (cnt f 128), row, int, lfp9_done fun r => ?_, ?_, e3⟩
      · unfold X8_colours_h43
        rw [if_neg n7, e1, bd9_s]; rfl
      · rw [e2, bd4_s]
        refine lfp5_done fun r => ?_
        unfold X9_colours_h56; rfl
  | succ d ih =>
    intro c hcd hc1 cP cme cps cwh mrow mint V cal cah hP hVj
    obtain ⟨o, oP, W, me, wh, al, ah, row, int, e1, e2, e3, _, e5, e6⟩ := col_sim (cP := cP) (cme := cme) (cwh := cwh) (mrow := mrow) (mint := mint) (V := V) (cal := cal) (cah := cah) (c := c) hj hn hM hi hf0 hlim (by omega) hP hVj
    have n7 : ¬ (7 : Int32) < nI c := nI_nlt (a := 7) (by omega) (by decide)
    rcases (show o = 0 ∨ o = 1 ∨ o = 2 by omega) with rfl | rfl | rfl
    · refine ⟨nI c, oP, W, me, nI (cnt f 128), wh, al, ah, nI (cnt f 128), row, int, lfp9_done fun r => ?_, ?_, e3⟩
      · unfold X8_colours_h43
        rw [if_neg n7, e1, bd9_s]; rfl
      · rw [e2, bd4_s]
        refine lfp5_done fun r => ?_
        unfold X9_colours_h56; rfl
    · obtain ⟨r, oP', W', me', ps', wh', al', ah', rom', row', int', g1, g2, g3⟩ := ih (c + 1) (by omega) (by omega) oP me (nI (cnt f 128)) wh row int W al ah (by rw [(e3 j (by omega)).1]; exact hP) (by rw [(e3 j (by omega)).2]; exact hVj)
      obtain ⟨o2, _, _, _, _, _, _, row2, int2, _, k2, _⟩ := col_sim (cP := oP) (cme := me) (cwh := wh) (mrow := row) (mint := int) (V := W) (cal := al) (cah := ah) (c := c + 1) hj hn hM hi hf0 hlim (by omega) (by rw [(e3 j (by omega)).1]; exact hP) (by rw [(e3 j (by omega)).2]; exact hVj)
      rw [k2, bd4_s] at g2
      refine ⟨r, oP', W', me', ps', wh', al', ah', rom', row', int', (lfp9_step fun r => ?_).trans g1, ?_, fun i hi => ⟨by rw [(g3 i hi).1, (e3 i hi).1], by rw [(g3 i hi).2, (e3 i hi).2]⟩⟩
      · unfold X8_colours_h43
        rw [if_neg n7, e1, bd9_s, nI_1]; rfl
      · rw [e2, bd4_s]
        refine (lfp5_step fun r => ?_).trans g2
        unfold X9_colours_h56
        rw [if_pos (show krI 1 = 0 from rfl), nI_1, k2, bd4_s]
    · refine ⟨-3, oP, W, me, nI (cnt f 128), wh, al, ah, nI (cnt f 128), row, int, lfp9_done fun r => ?_, ?_, e3⟩
      · unfold X8_colours_h43
        rw [if_neg n7, e1, bd9_s]; rfl
      · rw [e2, bd4_s]
        refine lfp5_done fun r => ?_
        unfold X9_colours_h56; rfl
end
theorem keeps20 {cP oP : Nat → Int32} {V W : Nat → Nat → Bool} (h : ∀ i, i < 20 → oP i = cP i ∧ W i = V i) : Keeps cP oP (LO V) (LO W) (HI V) (HI W) := keeps16 fun i hi => h i (by omega)
section SIM
variable {cP : Nat → Int32} {cLo : Nat → Int64} {cHi : Nat → Int64} {cpl : Nat → Int32} {ctb : Nat → Int32} {ctl : Int32} {ctf : Int32} {ctp : Int32} {ctk : Int32} {cts : Int32} {cth : Int32} {cob : Nat → Int32} {col : Int32} {cso : Nat → Int32} {cha : Int32} {chs : Int32} {cbe : Int32} {ctr : Int32} {cgl : Nat → Int64} {cgh : Nat → Int64} {cll : Nat → Int64} {clh : Nat → Int64} {cta : Nat → Int32} {cme : Nat → Int32} {cps : Int32} {cwh : Nat → Int32} {cal : Nat → Int64} {cah : Nat → Int64} {mthr : Int32} {mfrp : Int32} {mact : Int32} {mtpd : Int32} {msiz : Int32} {matx : Int32} {mfrm : Int32} {mtok : Int32} {mval : Int32} {mfk : Int32} {mfpl : Int32} {mbem : Int32} {mtrs : Int32} {mtrl : Int32} {mrom : Int32} {mtom : Int32} {mnow : Nat → Int32} {mfre : Nat → Int32} {mkep : Nat → Int32} {mtap : Nat → Int32} {mlef : Nat → Int32} {mtak : Nat → Int32} {mbes : Nat → Int32} {mrow : Nat → Int32} {mint : Nat → Int32} {mrnd : Nat → Int32} {mplo : Nat → Int32} {mhio : Nat → Int32} {mtox : Nat → Int32} {mtol : Nat → Int32}
theorem sim_colours {p1 p2 : Int32} (hr : Rel cP cLo cHi ctb ctl ctf ctp cob col cso cha chs mact mtpd mfk mfpl mtom mnow mkep mtap mtol) : ∃ (r : Int32) (ocP : Nat → Int32) (ocLo : Nat → Int64) (ocHi : Nat → Int64) (ocme : Nat → Int32) (ocps : Int32) (ocwh : Nat → Int32) (ocal : Nat → Int64) (ocah : Nat → Int64) (omrom : Int32) (omrow : Nat → Int32) (omint : Nat → Int32), X8_colours cP cLo cHi cme cps cwh cal cah p1 p2 = some (r, ocP, ocLo, ocHi, ocme, ocps, ocwh, ocal, ocah) ∧ X9_colours mrom mnow mrow mint p1 p2 = some (r, omrom, omrow, omint) ∧ Rel ocP ocLo ocHi ctb ctl ctf ctp cob col cso cha chs mact mtpd mfk mfpl mtom mnow mkep mtap mtol := by
  obtain ⟨V, rfl, rfl, hV⟩ := toV cLo cHi
  unfold X8_colours X9_colours
  rcases famcase hV hr p1 with ⟨j, n, hj, rfl, h0, hn, hi, hP, hM, e1, e2⟩ | ⟨e1, e2⟩
  · rw [e1, bdo_s, e2, bd1_s, i10, X9_in_n (a := 1) (b := 50000) (by decide) (by decide) rfl rfl, bd1_s]
    rcases in_cases (p := p2) 1 50000 (by decide) with ⟨l, hl1, hl2, rfl⟩ | h
    · rw [isTries_in hl1 hl2, bd1_s, i10, nI_toInt (by omega), decide_eq_true (by omega), bt0, show X0_holds (LO V) (HI V) j (0 : Int32) = some (b01 (V j 0)) from holds_V (s := 0) (by decide), bd1_s, show X9_isIn mnow (nI j) (0 : Int32) = some (b01 (V j 0)) from isIn9 hj hM (s := 0) (by decide), bd1_s, isEmpty_V, bd1_s, X9_many_eq (v := (n, V j)) hj hM, bd1_s]
      cases hv : V j 0 with
      | true =>
        rw [bt0, bt0]
        exact ⟨_, _, _, _, _, _, _, _, _, _, _, _, rfl, rfl, hr⟩
      | false =>
        rw [bf0, bf0]
        by_cases q : cnt (V j) 128 = 0
        · have hall : allB (fun s => !V j s) 128 = true := allB_iff.mpr fun s hs => by
            cases hu : V j s with
            | false => rfl
            | true => have := cnt_pos.mpr ⟨s, hs, hu⟩; omega
          rw [hall, bt0, show nI (cnt (n, V j).2 128) = (0 : Int32) by show nI (cnt (V j) 128) = 0; rw [q]; rfl, i00]
          exact ⟨_, _, _, _, _, _, _, _, _, _, _, _, rfl, rfl, hr⟩
        · have hall : allB (fun s => !V j s) 128 = false := allB_f fun w => q (cnt_false fun s hs => by
            have := w s hs
            cases hu : V j s with
            | false => rfl
            | true => rw [hu] at this; cases this)
          have hq := cnt_le (V j) 128
          obtain ⟨r, oP, W, me, ps, wh, al, ah, rom, row, int, g1, g2, g3⟩ := colours_loop (lim := l) hj hn hM hi hv hl2 6 1 rfl (Nat.le_refl 1) cP cme cps cwh mrow mint V cal cah hP rfl
          rw [hall, bf0, if_neg (show ¬ nI (cnt (n, V j).2 128) = (0 : Int32) from nI_ne0 (by show 0 < cnt (V j) 128; omega) (by show cnt (V j) 128 < 2 ^ 31; omega))]
          exact ⟨_, _, _, _, _, _, _, _, _, _, _, _, g1, g2, hr.keep (keeps20 g3)⟩
    · rw [isTries_out h, bd1_s, i00, decide_eq_false h, bf0]
      exact ⟨_, _, _, _, _, _, _, _, _, _, _, _, rfl, rfl, hr⟩
  · rw [e1, bdo_n, e2, bd1_s, i00]
    exact ⟨_, _, _, _, _, _, _, _, _, _, _, _, rfl, rfl, hr⟩
theorem sim_colour {p1 p2 p3 p4 : Int32} (hr : Rel cP cLo cHi ctb ctl ctf ctp cob col cso cha chs mact mtpd mfk mfpl mtom mnow mkep mtap mtol) : ∃ (r : Int32) (ocP : Nat → Int32) (ocLo : Nat → Int64) (ocHi : Nat → Int64) (ocme : Nat → Int32) (ocps : Int32) (ocwh : Nat → Int32) (ocal : Nat → Int64) (ocah : Nat → Int64) (omrom : Int32) (omrow : Nat → Int32) (omint : Nat → Int32), X8_colour cP cLo cHi cme cps cwh cal cah p1 p2 p3 p4 = some (r, ocP, ocLo, ocHi, ocme, ocps, ocwh, ocal, ocah) ∧ X9_colour mrom mnow mrow mint p1 p2 p3 p4 = some (r, omrom, omrow, omint) ∧ Rel ocP ocLo ocHi ctb ctl ctf ctp cob col cso cha chs mact mtpd mfk mfpl mtom mnow mkep mtap mtol := by
  obtain ⟨V, rfl, rfl, hV⟩ := toV cLo cHi
  unfold X8_colour X9_colour
  rcases famcase hV hr p1 with ⟨j, n, hj, rfl, h0, hn, hi, hP, hM, e1, e2⟩ | ⟨e1, e2⟩
  · rw [e1, bdo_s, e2, bd1_s, i10, X9_in_n (a := 1) (b := 7) (by decide) (by decide) rfl rfl, bd1_s]
    rcases in_cases (p := p2) 1 7 (by decide) with ⟨c, hc1, hc2, rfl⟩ | h
    · rw [if_neg (show ¬ nI c < (1 : Int32) from nI_nlt (b := 1) hc1 (by omega)), if_neg (show ¬ (7 : Int32) < nI c from nI_nlt (a := 7) hc2 (by decide)), nI_toInt (show c < 2 ^ 31 by omega), decide_eq_true (by omega), bt0, X9_in_n (a := 1) (b := 50000) (by decide) (by decide) rfl rfl, bd1_s]
      rcases in_cases (p := p3) 1 50000 (by decide) with ⟨l, hl1, hl2, rfl⟩ | h
      · rw [isTries_in hl1 hl2, bd1_s, i10, nI_toInt (show l < 2 ^ 31 by omega), decide_eq_true (by omega), bt0]
        rcases i32_cases p4 with hneg | ⟨k, hk, rfl⟩
        · rw [if_neg (i32_nonneg hneg), if_neg (i32_nonneg hneg)]
          exact ⟨_, _, _, _, _, _, _, _, _, _, _, _, rfl, rfl, hr⟩
        · rw [if_pos (nI_pos' hk), if_pos (nI_pos' hk), show X0_holds (LO V) (HI V) j (0 : Int32) = some (b01 (V j 0)) from holds_V (s := 0) (by decide), bd1_s, show X9_isIn mnow (nI j) (0 : Int32) = some (b01 (V j 0)) from isIn9 hj hM (s := 0) (by decide), bd1_s, size_V, bd1_s, X9_many_eq (v := (n, V j)) hj hM, bd1_s]
          have hq := cnt_le (V j) 128
          cases hv : V j 0 with
          | true =>
            rw [bt0, bt0]
            exact ⟨_, _, _, _, _, _, _, _, _, _, _, _, rfl, rfl, hr⟩
          | false =>
            rw [bf0, bf0]
            by_cases q : k < cnt (V j) 128
            · rw [if_pos (show nI k < nI (cnt (V j) 128) from nI_lt q (by omega)), if_pos (show nI k < nI (cnt (n, V j).2 128) from nI_lt q (by show cnt (V j) 128 < 2 ^ 31; omega))]
              obtain ⟨o, oP, W, me, wh, al, ah, row, int, g1, g2, g3, g4, g5, g6⟩ := col_sim (cP := cP) (cme := cme) (cwh := cwh) (mrow := mrow) (mint := mint) (V := V) (cal := cal) (cah := cah) (c := c) (lim := l) hj hn hM hi hv hl2 hc2 hP rfl
              rw [g1, bd9_s, g2, bd4_s]
              rcases (show o = 0 ∨ o = 1 ∨ o = 2 by omega) with rfl | rfl | rfl
              · rw [if_neg (show ¬ nI 0 = (2 : Int32) by decide), if_pos (show nI 0 = (0 : Int32) from rfl), if_neg (show ¬ krI 0 = (-3 : Int32) by decide), if_neg (show ¬ krI 0 = (0 : Int32) by decide)]
                unfold X3_partOf
                rw [if_neg (nI_pos hk), if_neg (nI_ge q (by omega)), gin_nI (by omega) (by decide), nI_clamp hk, bd1_s, g4 rfl k q]
                exact ⟨_, _, _, _, _, _, _, _, _, _, _, _, rfl, gin_nI (by omega) (by decide), hr.keep (keeps20 g3)⟩
              · exact ⟨_, _, _, _, _, _, _, _, _, _, _, _, rfl, rfl, hr.keep (keeps20 g3)⟩
              · exact ⟨_, _, _, _, _, _, _, _, _, _, _, _, rfl, rfl, hr.keep (keeps20 g3)⟩
            · rw [if_neg (show ¬ nI k < nI (cnt (V j) 128) from nI_nlt (by omega) hk), if_neg (show ¬ nI k < nI (cnt (n, V j).2 128) from nI_nlt (by show cnt (V j) 128 ≤ k; omega) hk)]
              exact ⟨_, _, _, _, _, _, _, _, _, _, _, _, rfl, rfl, hr⟩
      · rw [isTries_out h, bd1_s, i00, decide_eq_false h, bf0]
        exact ⟨_, _, _, _, _, _, _, _, _, _, _, _, rfl, rfl, hr⟩
    · rw [decide_eq_false h, bf0]
      exact ⟨-2, _, _, _, _, _, _, _, _, _, _, _, outB h rfl rfl, rfl, hr⟩
  · rw [e1, bdo_n, e2, bd1_s, i00]
    exact ⟨_, _, _, _, _, _, _, _, _, _, _, _, rfl, rfl, hr⟩
end SIM
