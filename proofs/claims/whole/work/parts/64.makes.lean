/-! what is made of a family: the reference -/
theorem nest_mark {β : Type} {F : (Int32 → (Nat → Int32) → Option β) → Int32 → (Nat → Int32) → Option β} (Fi : (Int32 → (Nat → Int32) → Option β) → Nat → (Int32 → (Nat → Int32) → Option β) → Int32 → (Nat → Int32) → Option β) (c : Nat → Nat → Bool) (tg : Nat → Nat → Nat) (N M : Nat) (Y : (Nat → Int32) → Option β) {m0 : Nat → Int32} (h0 : FR m0 (fun _ => false))
    (hF : ∀ k, k < N → ∀ m r, F r (nI k) m = lfp2 (Fi r k) 0 m)
    (hi : ∀ k, k < N → ∀ t, t < M → ∀ m r r2, Fi r k r2 (nI t) m = if c k t = true then r2 (nI (t + 1)) (upd m (tg k t) (vp_nar .boolean 1)) else r2 (nI (t + 1)) m)
    (he' : ∀ k, k < N → ∀ m r r2, Fi r k r2 (nI M) m = r (nI (k + 1)) m)
    (he : ∀ m r, F r (nI N) m = Y m) : ∃ m, FR m (accG (fun _ => true) (fun k => mkG (c k) (tg k) M) (fun _ => false) N) ∧ lfp2 F 0 m0 = Y m := by
  refine lfp2_fresh (accG (fun _ => true) (fun k => mkG (c k) (tg k) M) (fun _ => false)) N Y h0 (fun k hk m hm => ?_) he
  have h : ∀ j, j ≤ M → ∃ m', FR m' (fun s => accG (fun _ => true) (fun k => mkG (c k) (tg k) M) (fun _ => false) k s || mkG (c k) (tg k) j s) ∧ ∀ r, lfp2 (Fi r k) 0 m = lfp2 (Fi r k) (nI j) m' := by
    intro j
    induction j with
    | zero => intro _; exact ⟨m, hm.congr (fun s _ => by show _ = (_ || false); rw [Bool.or_false]), fun r => rfl⟩
    | succ j ih =>
      intro hj
      obtain ⟨m', g1, g2⟩ := ih (by omega)
      cases hc : c k j with
      | false =>
        refine ⟨m', g1.congr (fun s _ => ?_), fun r => (g2 r).trans (lfp2_step (fun r2 => by rw [hi k hk j (by omega), hc, if_neg (by decide)]))⟩
        show _ = (_ || (mkG (c k) (tg k) j s || (c k j && s == tg k j)))
        rw [hc, Bool.false_and, Bool.or_false]
      | true =>
        refine ⟨_, (g1.set1 (tg k j)).congr (fun s _ => ?_), fun r => (g2 r).trans (lfp2_step (fun r2 => by rw [hi k hk j (by omega), hc, if_pos rfl]))⟩
        show ((_ || _) || s == tg k j) = (_ || (mkG (c k) (tg k) j s || (c k j && s == tg k j)))
        rw [hc, Bool.true_and, Bool.or_assoc]
  obtain ⟨m', g1, g2⟩ := h M (Nat.le_refl _)
  refine ⟨m', g1.congr (fun s _ => by simp only [accG, if_true]), fun r => ?_⟩
  rw [hF k hk, g2 r]
  exact lfp2_done (fun r2 => he' k hk m' r r2)
section
variable {mnow m : Nat → Int32} {j n : Nat} {f : Nat → Bool}
theorem laysShadow_9 (hj : j < 3) (hM : FamM mnow (129 * j) (n, f)) (hn : n ≤ 7) (hf : inN n f) (hm : FR m (fun _ => false)) (up : Bool) : ∃ m' g, X9_laysShadow mnow m (nI j) (b01 up) = some m' ∧ FR m' g ∧ ∀ s, s < 128 → (g s = true ↔ MK n f (if up then 1 else 0) s) := by
  have hq := pow_le7 hn
  unfold X9_laysShadow
  obtain ⟨m', h1, h2⟩ := nest_mark (F := X9_laysShadow_h2 mnow (nI j) (b01 up)) (fun r k => X9_laysShadow_h16 mnow (nI j) r (nI k) (b01 up)) (fun s p => f s && (s.testBit p != up)) (fun s p => s ^^^ 2 ^ p) (2 ^ n) n (fun m => some m) hm (fun k hk m r => by
    unfold X9_laysShadow_h2
    rw [points9 hj hM, bd1_s, shl1 _ (by omega), if_neg (nI_ge hk (by omega))]) (fun k hk t ht m r r2 => by
    have hx : k ^^^ 2 ^ t < 128 := x128 (by omega) (by omega)
    unfold X9_laysShadow_h16
    rw [points9 hj hM, bd1_s, if_neg (nI_ge ht (by omega)), isIn9 hj hM (by omega), bd1_s, ib0, X9_hasBit_eq (by omega) (by omega), bd1_s, shl1 _ (by omega), xor_nI', gin_nI hx (by decide), nI_clamp (by omega), nI_1]
    cases f k <;> cases k.testBit t <;> cases up <;> rfl) (fun k hk m r r2 => by
    unfold X9_laysShadow_h16
    rw [points9 hj hM, bd1_s, if_pos (nI_le (Nat.le_refl _) (by omega)), nI_1]) (fun m r => by
    unfold X9_laysShadow_h2
    rw [points9 hj hM, bd1_s, shl1 _ (by omega), if_pos (nI_le (Nat.le_refl _) (by omega))])
  refine ⟨m', _, h2, h1, fun s hs => ?_⟩
  rw [accG_iff]
  constructor
  · rintro (h | ⟨t, h3, _, h4⟩)
    · cases h
    · obtain ⟨p, h5, h6, h7⟩ := mkG_iff.mp h4
      rw [Bool.and_eq_true] at h6
      have e : s ^^^ 2 ^ p = t := by rw [← h7, flip_flip]
      cases up with
      | true =>
        refine ⟨p, h5, ?_, by rw [e]; exact h6.1⟩
        rw [← h7, flip_eq]
        have := h6.2
        cases hb : t.testBit p with
        | true => rw [hb] at this; cases this
        | false => rfl
      | false =>
        refine ⟨p, h5, ?_, by rw [e]; exact h6.1⟩
        rw [← h7, flip_eq]
        have := h6.2
        cases hb : t.testBit p with
        | false => rw [hb] at this; cases this
        | true => rfl
  · intro h
    right
    cases up with
    | true =>
      obtain ⟨p, h1, h2, h3⟩ := h
      refine ⟨s ^^^ 2 ^ p, hf _ h3, rfl, mkG_iff.mpr ⟨p, h1, ?_, flip_flip s p⟩⟩
      rw [h3, flip_eq, h2]; rfl
    | false =>
      obtain ⟨p, h1, h2, h3⟩ := h
      refine ⟨s ^^^ 2 ^ p, hf _ h3, rfl, mkG_iff.mpr ⟨p, h1, ?_, flip_flip s p⟩⟩
      rw [h3, flip_eq, h2]; rfl
theorem laysWithin_9 (hj : j < 3) (hM : FamM mnow (129 * j) (n, f)) (hn : n ≤ 7) (hf : inN n f) (hm : FR m (fun _ => false)) (up : Bool) : ∃ m' g, X9_laysWithin mnow m (nI j) (b01 up) = some m' ∧ FR m' g ∧ ∀ s, s < 128 → (g s = true ↔ MK n f (if up then 3 else 2) s) := by
  have hq := pow_le7 hn
  unfold X9_laysWithin
  obtain ⟨m', h1, h2⟩ := nest_mark (F := X9_laysWithin_h2 mnow (nI j) (b01 up)) (fun r k => X9_laysWithin_h16 mnow (nI j) r (nI k) (b01 up)) (fun s t => f s && (if up then s &&& t == s else s &&& t == t)) (fun s t => t) (2 ^ n) (2 ^ n) (fun m => some m) hm (fun k hk m r => by
    unfold X9_laysWithin_h2
    rw [points9 hj hM, bd1_s, shl1 _ (by omega), if_neg (nI_ge hk (by omega))]) (fun k hk t ht m r r2 => by
    have hx : k &&& t < 128 := and_128l (by omega)
    unfold X9_laysWithin_h16
    rw [points9 hj hM, bd1_s, shl1 _ (by omega), if_neg (nI_ge ht (by omega)), isIn9 hj hM (by omega), bd1_s, ib0, land_nI', gin_nI (show t < 128 by omega) (by decide), nI_clamp (by omega), nI_1]
    cases hfk : f k with
    | false => rw [if_neg (by decide), Bool.false_and, if_neg (by decide)]
    | true =>
      rw [if_pos rfl, Bool.true_and]
      cases up with
      | true =>
        rw [if_neg (show ¬ b01 true = 0 by decide), if_pos rfl]
        by_cases e : k &&& t = k
        · rw [if_pos (show nI (k &&& t) = nI k by rw [e]), show (k &&& t == k) = true by simpa using e, if_pos rfl]
        · rw [if_neg (fun z => e ((nI_eq (by omega) (by omega)).mp z)), show (k &&& t == k) = false by simpa using e, if_neg (by decide)]
      | false =>
        rw [if_pos (show b01 false = 0 by decide), show (if false = true then k &&& t == k else k &&& t == t) = (k &&& t == t) from rfl]
        by_cases e : k &&& t = t
        · rw [if_pos (show nI (k &&& t) = nI t by rw [e]), show (k &&& t == t) = true by simpa using e, if_pos rfl]
        · rw [if_neg (fun z => e ((nI_eq (by omega) (by omega)).mp z)), show (k &&& t == t) = false by simpa using e, if_neg (by decide)]) (fun k hk m r r2 => by
    unfold X9_laysWithin_h16
    rw [points9 hj hM, bd1_s, shl1 _ (by omega), if_pos (nI_le (Nat.le_refl _) (by omega)), nI_1]) (fun m r => by
    unfold X9_laysWithin_h2
    rw [points9 hj hM, bd1_s, shl1 _ (by omega), if_pos (nI_le (Nat.le_refl _) (by omega))])
  refine ⟨m', _, h2, h1, fun s hs => ?_⟩
  rw [accG_iff]
  constructor
  · rintro (h | ⟨t, h3, _, h4⟩)
    · cases h
    · obtain ⟨u, h5, h6, h7⟩ := mkG_iff.mp h4
      have h7' : u = s := h7
      subst h7'
      rw [Bool.and_eq_true] at h6
      cases up with
      | true =>
        have h8 : (t &&& u == t) = true := h6.2
        rw [beq_iff_eq] at h8
        exact ⟨h5, t, h6.1, h8⟩
      | false =>
        have h8 : (t &&& u == u) = true := h6.2
        rw [beq_iff_eq] at h8
        exact ⟨t, h6.1, by rw [Nat.and_comm]; exact h8⟩
  · intro h
    right
    cases up with
    | true =>
      obtain ⟨h1, t, h2, h3⟩ := h
      refine ⟨t, hf t h2, rfl, mkG_iff.mpr ⟨s, h1, ?_, rfl⟩⟩
      rw [h2, Bool.true_and]
      show (t &&& s == t) = true
      simpa using h3
    | false =>
      obtain ⟨t, h2, h3⟩ := h
      refine ⟨t, hf t h2, rfl, mkG_iff.mpr ⟨s, sub_lt h3 (hf t h2), ?_, rfl⟩⟩
      rw [h2, Bool.true_and]
      show (t &&& s == s) = true
      rw [Nat.and_comm]
      simpa using h3
theorem laysEnds_9 (hj : j < 3) (hM : FamM mnow (129 * j) (n, f)) (hn : n ≤ 7) (hf : inN n f) (up : Bool) : ∃ m' g, X9_laysEnds mnow m (nI j) (b01 up) = some m' ∧ FR m' g ∧ ∀ s, s < 128 → (g s = true ↔ MK n f (if up then 8 else 7) s) := by
  let ed : Nat → Bool := fun s => f s && allB (fun t => (t == s) || (!f t || !(if up then s &&& t == s else s &&& t == t))) 128
  have inner : ∀ k, k < 128 → ∀ m (r : Int32 → (Nat → Int32) → Option (Nat → Int32)), lfp2 (X9_laysEnds_h20 (nI k) r m mnow (nI j) (b01 up)) (b01 (f k)) 0 = r (nI (k + 1)) (upd m k (b01 (ed k))) := fun k hk m r =>
    lfp2_flag (F := X9_laysEnds_h20 (nI k) r m mnow (nI j) (b01 up)) (fun t => (t == k) || (!f t || !(if up then k &&& t == k else k &&& t == t))) 128 (fun b => r (nI (k + 1)) (upd m k (b01 b))) (fun t ht r2 => by
      have hx : k &&& t < 128 := and_128l hk
      unfold X9_laysEnds_h20
      rw [if_neg (inn128 ht), i10, isIn9 hj hM ht, bd1_s, ib0, land_nI', nI_1]
      by_cases e0 : t = k
      · rw [if_pos (by rw [e0]), show (t == k) = true by simpa using e0]; rfl
      · rw [if_neg (fun z => e0 ((nI_eq (by omega) (by omega)).mp z)), show (t == k) = false by simpa using e0, Bool.false_or]
        cases f t with
        | false => rfl
        | true =>
          rw [if_pos rfl]
          cases up with
          | true =>
            rw [if_neg (show ¬ b01 true = 0 by decide)]
            by_cases e : k &&& t = k
            · rw [if_pos (show nI (k &&& t) = nI k by rw [e]), if_pos rfl, show (k &&& t == k) = true by simpa using e]; rfl
            · rw [if_neg (fun z => e ((nI_eq (by omega) (by omega)).mp z)), if_pos rfl, show (k &&& t == k) = false by simpa using e]; rfl
          | false =>
            rw [if_pos (show b01 false = 0 by decide)]
            by_cases e : k &&& t = t
            · rw [if_pos (show nI (k &&& t) = nI t by rw [e]), if_neg (by decide), show (k &&& t == t) = true by simpa using e]; rfl
            · rw [if_neg (fun z => e ((nI_eq (by omega) (by omega)).mp z)), if_neg (by decide), show (k &&& t == t) = false by simpa using e]; rfl) (fun t ht r2 => by
      unfold X9_laysEnds_h20
      rw [i00, gin_nI hk (by decide), nI_clamp (by omega), nI_1, vnz0]
      split <;> rfl) (fun r2 => by
      unfold X9_laysEnds_h20
      rw [if_pos i128, gin_nI hk (by decide), nI_clamp (by omega), nI_1, vnz1]; rfl) (f k)
  unfold X9_laysEnds
  have hl : ∃ m', (∀ s, s < 128 → m' s = b01 (ed s)) ∧ lfp2 (X9_laysEnds_h2 mnow (nI j) (b01 up)) 0 m = some m' := by
    have := lfp2_fill (F := X9_laysEnds_h2 mnow (nI j) (b01 up)) (y := some (fillA m 0 (fun s => b01 (ed s)) 128)) m 0 0 128 (fun s => b01 (ed s)) (fun k hk r => by
      unfold X9_laysEnds_h2
      rw [Nat.zero_add, if_neg (inn128 hk), isIn9 hj hM hk, bd1_s, inner k hk]
      simp only [Nat.zero_add]) (fun r => by
      unfold X9_laysEnds_h2
      rw [if_pos i128])
    exact ⟨_, FR_copy m ed, this⟩
  obtain ⟨m', h1, h2⟩ := hl
  refine ⟨m', ed, h2, h1, fun s hs => ?_⟩
  show (f s && allB (fun t => (t == s) || (!f t || !(if up then s &&& t == s else s &&& t == t))) 128) = true ↔ _
  rw [Bool.and_eq_true, allB_iff]
  cases up with
  | true =>
    show _ ↔ f s = true ∧ ∀ t, f t = true → s &&& t = s → t = s
    constructor
    · rintro ⟨a, b⟩
      refine ⟨a, fun t ht hts => ?_⟩
      have := b t (hf.to hn t ht)
      rw [ht] at this
      simpa [hts] using this
    · rintro ⟨a, b⟩
      refine ⟨a, fun t _ => ?_⟩
      cases ht : f t with
      | false => simp
      | true =>
        by_cases e : s &&& t = s
        · rw [b t ht e]; simp
        · simp [e]
  | false =>
    show _ ↔ f s = true ∧ ∀ t, f t = true → t &&& s = t → t = s
    constructor
    · rintro ⟨a, b⟩
      refine ⟨a, fun t ht hts => ?_⟩
      have := b t (hf.to hn t ht)
      rw [ht] at this
      rw [Nat.and_comm] at hts
      simpa [hts] using this
    · rintro ⟨a, b⟩
      refine ⟨a, fun t _ => ?_⟩
      cases ht : f t with
      | false => simp
      | true =>
        by_cases e : s &&& t = t
        · rw [b t ht (by rw [Nat.and_comm]; exact e)]; simp
        · simp [e]
theorem laysMeeting_9 (hj : j < 3) (hM : FamM mnow (129 * j) (n, f)) (hn : n ≤ 7) (hf : inN n f) (hm : FR m (fun _ => false)) : ∃ m' g, X9_laysMeeting mnow m (nI j) = some m' ∧ FR m' g ∧ ∀ s, s < 128 → (g s = true ↔ MK n f 9 s) := by
  have hq := pow_le7 hn
  let ed : Nat → Bool := fun s => mAll f s && allB (fun p => !s.testBit p || !mAll f (s ^^^ 2 ^ p)) n
  have inner : ∀ k, k < 2 ^ n → ∀ m (r : Int32 → (Nat → Int32) → Option (Nat → Int32)), lfp2 (X9_laysMeeting_h23 mnow (nI j) (nI k) r m) (b01 (mAll f k)) 0 = r (nI (k + 1)) (upd m k (b01 (ed k))) := fun k hk m r =>
    lfp2_flag (F := X9_laysMeeting_h23 mnow (nI j) (nI k) r m) (fun p => !k.testBit p || !mAll f (k ^^^ 2 ^ p)) n (fun b => r (nI (k + 1)) (upd m k (b01 b))) (fun p hp r2 => by
      have hx : k ^^^ 2 ^ p < 128 := x128 (by omega) (by omega)
      unfold X9_laysMeeting_h23
      rw [points9 hj hM, bd1_s, if_neg (nI_ge hp (by omega)), i10, X9_hasBit_eq (by omega) (by omega), bd1_s, ib0, shl1 _ (by omega), xor_nI', meetsAll_eq hj hM hx, bd1_s, ib0, nI_1]
      cases k.testBit p <;> cases mAll f (k ^^^ 2 ^ p) <;> rfl) (fun p hp r2 => by
      unfold X9_laysMeeting_h23
      rw [points9 hj hM, bd1_s, i00, gin_nI (by omega) (by decide), nI_clamp (by omega), nI_1, vnz0]
      split <;> rfl) (fun r2 => by
      unfold X9_laysMeeting_h23
      rw [points9 hj hM, bd1_s, if_pos (nI_le (Nat.le_refl _) (by omega)), gin_nI (by omega) (by decide), nI_clamp (by omega), nI_1, vnz1]; rfl) (mAll f k)
  unfold X9_laysMeeting
  obtain ⟨m', h1, h2⟩ := lfp2_fresh (F := X9_laysMeeting_h2 mnow (nI j)) (fun t s => decide (s < t) && ed s) (2 ^ n) (fun m => some m) (m0 := m) (hm.congr fun s _ => by rw [decide_eq_false (by omega), Bool.false_and]) (fun t ht m hm => by
    refine ⟨upd m t (b01 (ed t)), (hm.set t _).congr (fun s _ => ?_), fun r => ?_⟩
    · by_cases e : s = t
      · subst e; rw [if_pos rfl, decide_eq_true (by omega), Bool.true_and]
      · rw [if_neg e]
        congr 1
        apply decide_eq_decide.mpr; omega
    · unfold X9_laysMeeting_h2
      rw [points9 hj hM, bd1_s, shl1 _ (by omega), if_neg (nI_ge ht (by omega)), meetsAll_eq hj hM (by omega), bd1_s, inner t ht]) (fun m r => by
    unfold X9_laysMeeting_h2
    rw [points9 hj hM, bd1_s, shl1 _ (by omega), if_pos (nI_le (Nat.le_refl _) (by omega))])
  refine ⟨m', _, h2, h1, fun s hs => ?_⟩
  show (decide (s < 2 ^ n) && (mAll f s && allB (fun p => !s.testBit p || !mAll f (s ^^^ 2 ^ p)) n)) = true ↔ mA n f s = true ∧ ∀ p, p < n → s.testBit p = true → mA n f (s ^^^ 2 ^ p) = false
  unfold mA
  rw [Bool.and_eq_true, Bool.and_eq_true, Bool.and_eq_true, decide_eq_true_eq, allB_iff]
  constructor
  · rintro ⟨a, b, c⟩
    refine ⟨⟨a, b⟩, fun p hp hb => ?_⟩
    have := c p hp
    rw [hb, Bool.not_true, Bool.false_or, Bool.not_eq_true'] at this
    rw [this, Bool.and_false]
  · rintro ⟨⟨a, b⟩, c⟩
    refine ⟨a, b, fun p hp => ?_⟩
    cases hb : s.testBit p with
    | false => rfl
    | true =>
      have := c p hp hb
      rw [decide_eq_true (flip_lt hp a), Bool.true_and] at this
      rw [this]; rfl
end
/-- closing till nothing comes -/
theorem laysClosed_9 {mnow m : Nat → Int32} {j n : Nat} {f : Nat → Bool} (hj : j < 3) (hM : FamM mnow (129 * j) (n, f)) (hn : n ≤ 7) (hf : inN n f) (jn : Bool) : ∃ m' g, X9_laysClosed mnow m (nI j) (b01 jn) = some (nI n, m') ∧ FR m' g ∧ ∀ s, s < 128 → (g s = true ↔ MK n f (if jn then 6 else 5) s) := by
  let op : Nat → Nat → Nat := fun a b => if jn then a ||| b else a &&& b
  have hop : ∀ a b, a < 128 → b < 128 → op a b < 128 := fun a b ha hb => by
    show (if jn = true then a ||| b else a &&& b) < 128
    cases jn
    · exact and_128l ha
    · exact or_128 ha hb
  have hMK : ∀ s, MK n f (if jn then 6 else 5) s ↔ clP op f s := fun s => by cases jn <;> exact Iff.rfl
  -- one look at two sets
  have two : ∀ k, k < 128 → ∀ t, t < k → ∀ m g, FR m g → ∀ (more : Bool) (r1 r2 : Int32 → Int32 → (Nat → Int32) → Option (Int32 × (Nat → Int32))), X9_laysClosed_h27 (nI k) r1 (b01 jn) r2 (b01 more) (nI t) m = if (g k && (g t && !g (op k t))) = true then r2 1 (nI (t + 1)) (upd m (op k t) (vp_nar .boolean 1)) else r2 (b01 more) (nI (t + 1)) m := by
    intro k hk t ht m g hm more r1 r2
    have ho := hop k t hk (by omega)
    have key : X9_laysClosed_j51 (nI k) m r2 (b01 more) (nI t) (nI (op k t)) = if (g k && (g t && !g (op k t))) = true then r2 1 (nI (t + 1)) (upd m (op k t) (vp_nar .boolean 1)) else r2 (b01 more) (nI (t + 1)) m := by
      unfold X9_laysClosed_j51
      rw [gin_nI hk (by decide), nI_clamp (by omega), hm k hk, ib0, gin_nI (show t < 128 by omega) (by decide), nI_clamp (by omega), hm t (by omega), ib0, gin_nI ho (by decide), nI_clamp (by omega), hm _ ho, ib0, gin_nI ho (by decide), nI_1]
      cases g k <;> cases g t <;> cases g (op k t) <;> rfl
    unfold X9_laysClosed_h27
    rw [if_neg (nI_ge ht (by omega)), land_nI', lor_nI', ← key]
    cases jn <;> rfl
  -- a pass
  have pass : ∀ m g, FR m g → (∀ s, s < 128 → f s = true → g s = true) → (∀ s, s < 128 → g s = true → clP op f s) → ∃ (more : Bool) (m' : Nat → Int32) (g' : Nat → Bool), (∀ r : Int32 → (Nat → Int32) → Option (Int32 × (Nat → Int32)), lfp3 (X9_laysClosed_h16 r (b01 jn)) 0 0 m = r (b01 more) m') ∧ FR m' g' ∧ (∀ s, s < 128 → g s = true → g' s = true) ∧ (∀ s, s < 128 → g' s = true → clP op f s) ∧ (more = true → cnt g 128 < cnt g' 128) ∧ (more = false → ∀ s, s < 128 → ∀ t, t < s → g' s = true → g' t = true → g' (op s t) = true) := by
    intro m g hm hfg hgc
    -- state: as below
    have St : ∀ k, k ≤ 128 → ∃ (more : Bool) (m' : Nat → Int32) (g' : Nat → Bool), (∀ r : Int32 → (Nat → Int32) → Option (Int32 × (Nat → Int32)), lfp3 (X9_laysClosed_h16 r (b01 jn)) 0 0 m = lfp3 (X9_laysClosed_h16 r (b01 jn)) (b01 more) (nI k) m') ∧ FR m' g' ∧ (∀ s, s < 128 → g s = true → g' s = true) ∧ (∀ s, s < 128 → g' s = true → clP op f s) ∧ (more = true → cnt g 128 < cnt g' 128) ∧ (more = false → ∀ s, s < k → ∀ t, t < s → g' s = true → g' t = true → g' (op s t) = true) := by
      intro k
      induction k with
      | zero => intro _; exact ⟨false, m, g, fun r => rfl, hm, fun s _ h => h, hgc, (fun h => by cases h), (fun _ s hs => by omega)⟩
      | succ k ih =>
        intro hk
        obtain ⟨more, m1, g1, e1, a1, a2, a3, a4, a5⟩ := ih (by omega)
        have inn : ∀ t, t ≤ k → ∃ (more' : Bool) (m' : Nat → Int32) (g' : Nat → Bool), (∀ r1 : Int32 → Int32 → (Nat → Int32) → Option (Int32 × (Nat → Int32)), lfp3 (X9_laysClosed_h27 (nI k) r1 (b01 jn)) (b01 more) 0 m1 = lfp3 (X9_laysClosed_h27 (nI k) r1 (b01 jn)) (b01 more') (nI t) m') ∧ FR m' g' ∧ (∀ s, s < 128 → g s = true → g' s = true) ∧ (∀ s, s < 128 → g' s = true → clP op f s) ∧ (more' = true → cnt g 128 < cnt g' 128) ∧ (more' = false → (∀ s, s < k → ∀ u, u < s → g' s = true → g' u = true → g' (op s u) = true) ∧ ∀ u, u < t → g' k = true → g' u = true → g' (op k u) = true) := by
          intro t
          induction t with
          | zero => intro _; exact ⟨more, m1, g1, fun r => rfl, a1, a2, a3, a4, fun h => ⟨a5 h, fun u hu => by omega⟩⟩
          | succ t iht =>
            intro ht
            obtain ⟨more2, m2, g2, e2, b1, b2, b3, b4, b5⟩ := iht (by omega)
            have ho := hop k t (by omega) (by omega)
            cases hc : (g2 k && (g2 t && !g2 (op k t))) with
            | true =>
              have hc2 := hc
              rw [Bool.and_eq_true, Bool.and_eq_true, Bool.not_eq_true'] at hc2
              refine ⟨true, _, fun s => g2 s || s == op k t, fun r1 => (e2 r1).trans (lfp3_step fun r2 => ?_), b1.set1 (op k t), fun s hs h => by show (g2 s || s == op k t) = true; rw [b2 s hs h]; rfl, fun s hs h => ?_, fun _ => ?_, fun h => by cases h⟩
              · rw [two k (by omega) t (by omega) m2 g2 b1, hc, if_pos rfl]; rfl
              · rw [Bool.or_eq_true, beq_iff_eq] at h
                rcases h with h | h
                · exact b3 s hs h
                · intro G hG1 hG2
                  rw [h]
                  exact hG2 k t (b3 k (by omega) hc2.1 G hG1 hG2) (b3 t (by omega) hc2.2.1 G hG1 hG2)
              · have h1 := cnt_sub_eq (a := g2) (b := fun s => g2 s || s == op k t) (N := 128) (fun s _ h => by rw [h]; rfl)
                have h2 : cnt g2 128 ≠ cnt (fun s => g2 s || s == op k t) 128 := fun z => by
                  have := h1.2.mp z (op k t) ho (by simp)
                  rw [hc2.2.2] at this; cases this
                have h3 := (cnt_sub_eq (a := g) (b := g2) (N := 128) (fun s hs h => b2 s hs h)).1
                omega
            | false =>
              refine ⟨more2, m2, g2, fun r1 => (e2 r1).trans (lfp3_step fun r2 => ?_), b1, b2, b3, b4, fun h => ⟨(b5 h).1, fun u hu hk1 hu1 => ?_⟩⟩
              · rw [two k (by omega) t (by omega) m2 g2 b1, hc, if_neg (by decide)]
              · by_cases w : u = t
                · subst w
                  rw [hk1, hu1, Bool.true_and, Bool.true_and, Bool.not_eq_false'] at hc
                  exact hc
                · exact (b5 h).2 u (by omega) hk1 hu1
        obtain ⟨more2, m2, g2, e2, b1, b2, b3, b4, b5⟩ := inn k (Nat.le_refl _)
        refine ⟨more2, m2, g2, fun r => (e1 r).trans (lfp3_step fun r1 => ?_), b1, b2, b3, b4, fun h s hs t ht h1 h2 => ?_⟩
        · unfold X9_laysClosed_h16
          rw [if_neg (inn128 (by omega)), e2 r1]
          refine lfp3_done fun r2 => ?_
          unfold X9_laysClosed_h27
          rw [if_pos (nI_le (Nat.le_refl _) (by omega)), nI_1]
        · by_cases w : s = k
          · subst w; exact (b5 h).2 t ht h1 h2
          · exact (b5 h).1 s (by omega) t ht h1 h2
    obtain ⟨more, m1, g1, e1, a1, a2, a3, a4, a5⟩ := St 128 (Nat.le_refl _)
    refine ⟨more, m1, g1, fun r => (e1 r).trans (lfp3_done fun r1 => ?_), a1, a2, a3, a4, a5⟩
    unfold X9_laysClosed_h16
    rw [if_pos i128]
  -- till nothing comes
  have all : ∀ K m g, 128 - cnt g 128 < K → FR m g → (∀ s, s < 128 → f s = true → g s = true) → (∀ s, s < 128 → g s = true → clP op f s) → ∃ m' g', lfp2 (X9_laysClosed_h7 (nI n) (b01 jn)) 1 m = some (nI n, m') ∧ FR m' g' ∧ ∀ s, s < 128 → (g' s = true ↔ clP op f s) := by
    intro K
    induction K with
    | zero => intro m g h; omega
    | succ K ih =>
      intro m g hK hm hfg hgc
      obtain ⟨more, m1, g1, e1, a1, a2, a3, a4, a5⟩ := pass m g hm hfg hgc
      have hs : ∀ r, X9_laysClosed_h7 (nI n) (b01 jn) r 1 m = r (b01 more) m1 := fun r => by
        unfold X9_laysClosed_h7
        rw [i10]; exact e1 r
      cases more with
      | true =>
        obtain ⟨m2, g2, e2, b1, b2⟩ := ih m1 g1 (by have := a4 rfl; have := cnt_le g1 128; omega) a1 (fun s hs h => a2 s hs (hfg s hs h)) a3
        exact ⟨m2, g2, (lfp2_step hs).trans e2, b1, b2⟩
      | false =>
        refine ⟨m1, g1, (lfp2_step hs).trans (lfp2_done fun r => ?_), a1, fun s hs => ⟨a3 s hs, fun h => ?_⟩⟩
        · unfold X9_laysClosed_h7
          show (if b01 false = 0 then _ else _) = _
          rw [bf0]
        · have hcl := a5 rfl
          have := h (fun s => decide (s < 128) && g1 s) (fun t ht => by rw [a2 t (hf.to hn t ht) (hfg t (hf.to hn t ht) ht), decide_eq_true (hf.to hn t ht)]; rfl) (fun a b ha hb => by
            rw [Bool.and_eq_true, decide_eq_true_eq] at ha hb ⊢
            refine ⟨hop a b ha.1 hb.1, ?_⟩
            rcases Nat.lt_trichotomy a b with w | w | w
            · have e : op a b = op b a := by
                show (if jn = true then a ||| b else a &&& b) = (if jn = true then b ||| a else b &&& a)
                cases jn
                · exact Nat.and_comm a b
                · exact Nat.or_comm a b
              rw [e]; exact hcl b hb.1 a w hb.2 ha.2
            · subst w
              have e : op a a = a := by
                show (if jn = true then a ||| a else a &&& a) = a
                cases jn
                · exact Nat.and_self a
                · exact Nat.or_self a
              rw [e]; exact ha.2
            · exact hcl a ha.1 b w ha.2 hb.2)
          rw [Bool.and_eq_true] at this
          exact this.2
  unfold X9_laysClosed
  rw [X9_copiesFresh_eq (v := (n, f)) hj hM, bd2_s]
  obtain ⟨m', g', e, h1, h2⟩ := all 129 (fillA m 0 (fun s => b01 (f s)) 128) f (by omega) (FR_copy m f) (fun s _ h => h) (fun s _ h G hG1 _ => hG1 s h)
  exact ⟨m', g', e, h1, fun s hs => (h2 s hs).trans (hMK s).symm⟩
