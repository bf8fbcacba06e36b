/-! the search: words and lists -/
theorem xb_dec {x : Int64} {k : Nat} (h1 : xb x k = true) (h2 : ∀ i, i < k → xb x i = false) (i : Nat) : xb (x - 1) i = if i < k then true else if i = k then false else xb x i := by
  have hX : (uN x) % 2 ^ (k + 1) = 2 ^ k := by
    apply Nat.eq_of_testBit_eq
    intro j
    rw [Nat.testBit_mod_two_pow, Nat.testBit_two_pow, ← xb_testBit]
    by_cases a : j < k
    · rw [h2 j a, Bool.and_false, decide_eq_false (by omega)]
    · by_cases b : j = k
      · subst b; rw [h1, decide_eq_true (by omega), decide_eq_true rfl]; rfl
      · rw [decide_eq_false (show ¬ j < k + 1 by omega), decide_eq_false (show ¬ k = j by omega)]; rfl
  have hp : 0 < 2 ^ k := Nat.two_pow_pos k
  have hd := Nat.div_add_mod (uN x) (2 ^ (k + 1))
  rw [hX] at hd
  have hu : uN (1 : Int64) = 1 := by decide +kernel
  have e2 : ∀ A B C : Nat, A + B = C → 0 < B → C - 1 = A + (B - 1) ∧ 1 ≤ C := by intro A B C h1 h2; omega
  have e : uN (x - 1) = 2 ^ (k + 1) * (uN x / 2 ^ (k + 1)) + (2 ^ k - 1) := by
    rw [uN_sub x 1 (by rw [hu]; exact (e2 _ _ _ hd hp).2), hu]; exact (e2 _ _ _ hd hp).1
  rw [xb_testBit, e, Nat.testBit_two_pow_mul_add _ (by rw [Nat.pow_succ]; omega), Nat.testBit_two_pow_sub_one, Nat.testBit_div_two_pow, xb_testBit]
  by_cases a : i < k
  · rw [if_pos (by omega), if_pos a, decide_eq_true a]
  · rw [if_neg a]
    by_cases b : i = k
    · subst b; rw [if_pos (by omega), if_pos rfl, decide_eq_false (by omega)]
    · rw [if_neg (by omega), if_neg b, show i - (k + 1) + (k + 1) = i by omega]
theorem xb_neg (x : Int64) {i : Nat} (hi : i < 64) : xb (-x) i = !xb (x - 1) i := by
  have e : (-x.toBitVec) = ~~~(x.toBitVec - 1#64) := by
    apply BitVec.eq_of_toNat_eq
    rw [BitVec.toNat_neg, BitVec.toNat_not, BitVec.toNat_sub]
    have := x.toBitVec.isLt
    show (2 ^ 64 - x.toBitVec.toNat) % 2 ^ 64 = 2 ^ 64 - 1 - (2 ^ 64 - 1 + x.toBitVec.toNat) % 2 ^ 64
    omega
  show (-x.toBitVec).getLsbD i = !(x.toBitVec - 1#64).getLsbD i
  rw [e, BitVec.getLsbD_not, decide_eq_true hi, Bool.true_and]
theorem low_bit {x : Int64} {k : Nat} (h1 : xb x k = true) (h2 : ∀ i, i < k → xb x i = false) {i : Nat} (hi : i < 64) : xb (x &&& (-x)) i = decide (i = k) := by
  rw [xb_and, xb_neg x hi, xb_dec h1 h2]
  by_cases a : i < k
  · rw [h2 i a, decide_eq_false (by omega)]; rfl
  · rw [if_neg a]
    by_cases b : i = k
    · rw [if_pos b, b, h1, decide_eq_true rfl]; rfl
    · rw [if_neg b, decide_eq_false b]; cases xb x i <;> rfl
theorem low_cnt {x : Int64} {k : Nat} (hk : k < 64) (h1 : xb x k = true) (h2 : ∀ i, i < k → xb x i = false) : J13_bitCount_95d88 ((x &&& (-x)) - 1) = some (nI k) := by
  have g1 : xb (x &&& (-x)) k = true := by rw [low_bit h1 h2 hk, decide_eq_true rfl]
  have g2 : ∀ i, i < k → xb (x &&& (-x)) i = false := fun i hi => by rw [low_bit h1 h2 (by omega), decide_eq_false (by omega)]
  have e : cnt (xb ((x &&& (-x)) - 1)) 64 = cnt (fun v => decide (v < k)) 64 := cnt_congr fun i hi => by
    rw [xb_dec g1 g2]
    by_cases a : i < k
    · rw [if_pos a, decide_eq_true a]
    · rw [if_neg a, decide_eq_false a]
      by_cases b : i = k
      · rw [if_pos b]
      · rw [if_neg b, low_bit h1 h2 hi, decide_eq_false b]
  rw [J13_eq, e, cnt_dec k 64 (by omega)]
theorem low_clr {x : Int64} {k : Nat} (h1 : xb x k = true) (h2 : ∀ i, i < k → xb x i = false) (i : Nat) : xb (x &&& (x - 1)) i = (xb x i && !(i == k)) := by
  rw [xb_and, xb_dec h1 h2]
  by_cases a : i < k
  · rw [h2 i a]; rfl
  · rw [if_neg a]
    by_cases b : i = k
    · subst b; rw [if_pos rfl, beq_self_eq_true]; rfl
    · rw [if_neg b, beq_eq_false_iff_ne.mpr b]; cases xb x i <;> rfl
/-- entry i of a list -/
def gtL : List Nat → Nat → Nat
  | [], _ => 0
  | x :: _, 0 => x
  | _ :: l, i + 1 => gtL l i
theorem gtL_app {F R : List Nat} : ∀ {i : Nat}, i < F.length → gtL (F ++ R) i = gtL F i := by
  induction F with
  | nil => intro i h; exact absurd h (Nat.not_lt_zero i)
  | cons x F ih =>
    intro i h
    cases i with
    | zero => rfl
    | succ i => exact ih (by rw [List.length_cons] at h; omega)
theorem gtL_end (F : List Nat) (x : Nat) : gtL (F ++ [x]) F.length = x := by
  induction F with
  | nil => rfl
  | cons y F ih => exact ih
theorem gtL_mem : ∀ (F : List Nat) {i : Nat}, i < F.length → gtL F i ∈ F := by
  intro F
  induction F with
  | nil => intro i h; exact absurd h (Nat.not_lt_zero i)
  | cons x F ih =>
    intro i h
    cases i with
    | zero => exact List.mem_cons.mpr (Or.inl rfl)
    | succ i => exact List.mem_cons.mpr (Or.inr (ih (by rw [List.length_cons] at h; omega)))
/-- two words that hold the sets of a list -/
def WDL (lo hi : Int64) (L : List Nat) : Prop := ∀ s, s < 128 → mbs lo hi s = decide (s ∈ L)
def srt (L : List Nat) : Prop := L.Pairwise (· < ·) ∧ ∀ x, x ∈ L → x < 128
theorem srt.tail {x : Nat} {L : List Nat} (h : srt (x :: L)) : srt L ∧ x < 128 ∧ (∀ y, y ∈ L → x < y) := by
  obtain ⟨h1, h2⟩ := h
  rw [List.pairwise_cons] at h1
  exact ⟨⟨h1.2, fun y hy => h2 y (List.mem_cons.mpr (Or.inr hy))⟩, h2 x (List.mem_cons.mpr (Or.inl rfl)), h1.1⟩
theorem srt.filt {L : List Nat} (h : srt L) (p : Nat → Bool) : srt (L.filter p) := ⟨h.1.filter p, fun x hx => h.2 x (List.mem_filter.mp hx).1⟩
theorem cnt_srt {N : Nat} : ∀ L : List Nat, L.Pairwise (· < ·) → (∀ x, x ∈ L → x < N) → cnt (fun s => decide (s ∈ L)) N = L.length := by
  intro L
  induction L with
  | nil => intro _ _; exact cnt_false fun k _ => decide_eq_false (by intro h; cases h)
  | cons x L ih =>
    intro h1 h2
    rw [List.pairwise_cons] at h1
    have hx := h2 x (List.mem_cons.mpr (Or.inl rfl))
    have e1 : cnt (fun s => s == x) N = 1 := cnt_one hx fun t _ => beq_iff_eq
    have e2 := ih h1.2 fun y hy => h2 y (List.mem_cons.mpr (Or.inr hy))
    have e3 := cnt_or (c := fun s => s == x) (d := fun s => decide (s ∈ L)) (n := N)
    have e4 : cnt (fun k => (k == x) && decide (k ∈ L)) N = 0 := cnt_false fun k _ => by
      by_cases w : k = x
      · subst w; rw [decide_eq_false (fun q => Nat.lt_irrefl _ (h1.1 k q)), Bool.and_false]
      · rw [beq_eq_false_iff_ne.mpr w]; rfl
    have e5 : cnt (fun s => decide (s ∈ x :: L)) N = cnt (fun k => (k == x) || decide (k ∈ L)) N := cnt_congr fun k _ => by
      by_cases w : k = x
      · subst w; rw [beq_self_eq_true, decide_eq_true (List.mem_cons.mpr (Or.inl rfl))]; rfl
      · rw [beq_eq_false_iff_ne.mpr w, Bool.false_or]
        exact decide_eq_decide.mpr ⟨fun q => (List.mem_cons.mp q).resolve_left w, fun q => List.mem_cons.mpr (Or.inr q)⟩
    rw [e5, List.length_cons]
    omega
theorem cnt_mbs (lo hi : Int64) : cnt (xb lo) 64 + cnt (xb hi) 64 = cnt (mbs lo hi) 128 := by
  rw [show (128 : Nat) = 64 + 64 from rfl, cnt_add]
  have e1 : cnt (xb lo) 64 = cnt (mbs lo hi) 64 := cnt_congr fun k hk => by unfold mbs; rw [if_pos hk]
  have e2 : cnt (xb hi) 64 = cnt (fun k => mbs lo hi (64 + k)) 64 := cnt_congr fun k hk => by unfold mbs; rw [if_neg (by omega), show 64 + k - 64 = k by omega]
  rw [e1, e2]
theorem leftAt_c {cll clh : Nat → Int64} {d : Nat} {L : List Nat} (hd : d < 129) (hs : srt L) (h : WDL (cll d) (clh d) L) : X5_leftAt cll clh (nI d) = some (nI L.length) := by
  unfold X5_leftAt
  rw [gin_nI hd (by decide), nI_clamp (by omega), J13_eq, bd1_s, gin_nI hd (by decide), J13_eq, bd1_s, nI_add, cnt_mbs, cnt_congr (d := fun s => decide (s ∈ L)) h, cnt_srt L hs.1 hs.2]
theorem mem_tl {x s : Nat} {L : List Nat} (h : ∀ y, y ∈ L → x < y) : (decide (s ∈ x :: L) && !(s == x)) = decide (s ∈ L) := by
  by_cases w : s = x
  · subst w; rw [beq_self_eq_true, decide_eq_false (fun q => Nat.lt_irrefl _ (h s q))]; exact Bool.and_false _
  · rw [beq_eq_false_iff_ne.mpr w, Bool.not_false, Bool.and_true]
    exact decide_eq_decide.mpr ⟨fun q => (List.mem_cons.mp q).resolve_left w, fun q => List.mem_cons.mpr (Or.inr q)⟩
theorem takeFirst_c {cgl cgh cll clh : Nat → Int64} {cta : Nat → Int32} {d x : Nat} {L : List Nat} {go : Nat → Bool} (hd : d + 1 < 129) (hs : srt (x :: L)) (h : WDL (cll d) (clh d) (x :: L)) (hg : ∀ s, s ∈ L → mbs (cgl x) (cgh x) s = go s) :
    ∃ cll' clh', X5_takeFirst cgl cgh cll clh cta (nI d) = some (cll', clh', upd cta (d + 1) (nI x)) ∧ WDL (cll' d) (clh' d) L ∧ WDL (cll' (d + 1)) (clh' (d + 1)) (L.filter go) ∧ ∀ i, i < d → cll' i = cll i ∧ clh' i = clh i := by
  obtain ⟨h1, h2, h3⟩ := hs.tail
  have hx : mbs (cll d) (clh d) x = true := by rw [h x h2, decide_eq_true (List.mem_cons.mpr (Or.inl rfl))]
  have hlow : ∀ s, s < x → mbs (cll d) (clh d) s = false := fun s q => by
    rw [h s (by omega)]
    refine decide_eq_false fun w => ?_
    rcases List.mem_cons.mp w with w | w
    · omega
    · have := h3 s w; omega
  have j70 : ∀ c1 c2 : Nat → Int64, (∀ i, i < d → c1 i = cll i ∧ c2 i = clh i) → WDL (c1 d) (c2 d) L → ∃ cll' clh', X5_takeFirst_j70 cta (nI d) cgl cgh (nI x) c1 c2 = some (cll', clh', upd cta (d + 1) (nI x)) ∧ WDL (cll' d) (clh' d) L ∧ WDL (cll' (d + 1)) (clh' (d + 1)) (L.filter go) ∧ ∀ i, i < d → cll' i = cll i ∧ clh' i = clh i := by
    intro c1 c2 hk hw
    refine ⟨vp_updL c1 (d + 1) (c1 d &&& cgl x), vp_updL c2 (d + 1) (c2 d &&& cgh x), ?_, ?_, ?_, ?_⟩
    · unfold X5_takeFirst_j70
      rw [if_neg (inn128 h2), nI_1, if_pos (show nI (d + 1) < (129 : Int32) from nI_lt (b := 129) hd (by decide))]
      simp only [gin_nI hd (show 129 < 2 ^ 31 by decide), gin_nI (show d < 129 by omega) (show 129 < 2 ^ 31 by decide), gin_nI h2 (show 128 < 2 ^ 31 by decide), nI_clamp (show d + 1 < 2 ^ 31 by omega), nI_clamp (show d < 2 ^ 31 by omega), nI_clamp (show x < 2 ^ 31 by omega)]
    · rw [pk_uLn (by omega), pk_uLn (by omega)]; exact hw
    · intro s hs'
      rw [pk_uLs, pk_uLs, mbs_and, hw s hs']
      by_cases w : s ∈ L
      · rw [decide_eq_true w, hg s w, Bool.true_and]
        cases hv : go s with
        | true => exact (decide_eq_true (List.mem_filter.mpr ⟨w, hv⟩)).symm
        | false => exact (decide_eq_false (fun q => by have := (List.mem_filter.mp q).2; rw [hv] at this; cases this)).symm
      · rw [decide_eq_false w, decide_eq_false (fun q => w (List.mem_filter.mp q).1)]; rfl
    · intro i hi
      rw [pk_uLn (by omega), pk_uLn (by omega)]; exact hk i hi
  unfold X5_takeFirst
  rw [gin_nI (show d < 129 by omega) (by decide), nI_clamp (by omega)]
  by_cases q : x < 64
  · have a1 : xb (cll d) x = true := by unfold mbs at hx; rwa [if_pos q] at hx
    have a2 : ∀ i, i < x → xb (cll d) i = false := fun i hi => by have := hlow i hi; unfold mbs at this; rwa [if_pos (by omega)] at this
    rw [if_neg (fun w => by rw [lgc0.mp w, xb_zero] at a1; cases a1), low_cnt q a1 a2, bd1_s, gin_nI (show d < 129 by omega) (by decide)]
    refine j70 _ _ (fun i hi => ⟨pk_uLn (by omega), rfl⟩) fun s hs' => ?_
    rw [pk_uLs, ← mem_tl h3, ← h s hs']
    unfold mbs
    by_cases r : s < 64
    · rw [if_pos r, if_pos r, low_clr a1 a2]
    · rw [if_neg r, if_neg r, beq_eq_false_iff_ne.mpr (show s ≠ x by omega), Bool.not_false, Bool.and_true]
  · have a0 : cll d = 0 := xb_ext fun s hs' => by
      have := hlow s (by omega); unfold mbs at this; rw [if_pos hs'] at this; rw [this, xb_zero]
    have a1 : xb (clh d) (x - 64) = true := by unfold mbs at hx; rwa [if_neg q] at hx
    have a2 : ∀ i, i < x - 64 → xb (clh d) i = false := fun i hi => by
      have := hlow (64 + i) (by omega); unfold mbs at this; rwa [if_neg (by omega), show 64 + i - 64 = i by omega] at this
    rw [if_pos (lgc0.mpr a0), gin_nI (show d < 129 by omega) (by decide), low_cnt (by omega) a1 a2, bd1_s, gin_nI (show d < 129 by omega) (by decide), show (64 : Int32) + nI (x - 64) = nI x by rw [show (64 : Int32) = nI 64 from rfl, nI_add, show 64 + (x - 64) = x by omega]]
    refine j70 _ _ (fun i hi => ⟨rfl, pk_uLn (by omega)⟩) fun s hs' => ?_
    rw [pk_uLs, ← mem_tl h3, ← h s hs']
    unfold mbs
    by_cases r : s < 64
    · rw [if_pos r, if_pos r, beq_eq_false_iff_ne.mpr (show s ≠ x by omega), Bool.not_false, Bool.and_true]
    · rw [if_neg r, if_neg r, low_clr a1 a2]
      congr 2
      rw [Bool.eq_iff_iff, beq_iff_eq, beq_iff_eq]; omega
/-- the first k of those taken -/
def tkB (T : Nat → Nat) : Nat → Nat → Bool
  | 0, _ => false
  | k + 1, t => tkB T k t || t == T k
theorem tkB_iff {T : Nat → Nat} {t : Nat} : ∀ {k : Nat}, tkB T k t = true ↔ ∃ i, i < k ∧ T i = t := by
  intro k
  induction k with
  | zero => exact ⟨fun h => (by cases h), fun ⟨i, h, _⟩ => absurd h (Nat.not_lt_zero i)⟩
  | succ k ih =>
    show (tkB T k t || t == T k) = true ↔ _
    rw [Bool.or_eq_true, ih, beq_iff_eq]
    constructor
    · rintro (⟨i, h, e⟩ | e)
      · exact ⟨i, by omega, e⟩
      · exact ⟨k, by omega, e.symm⟩
    · rintro ⟨i, h, e⟩
      by_cases w : i = k
      · subst w; exact Or.inr e.symm
      · exact Or.inl ⟨i, by omega, e⟩
theorem keepBest_c {cP : Nat → Int32} {V : Nat → Nat → Bool} {cta : Nat → Int32} {d : Nat} {T : Nat → Nat} (hd : d < 129) (hT : ∀ i, i < d → T i < 128) (hc : ∀ i, i < d → cta (i + 1) = nI (T i)) : X5_keepBest cP (LO V) (HI V) cta (nI d) = some (va_up cP 16 (cP 17), LO (va_up V 16 (tkB T d)), HI (va_up V 16 (tkB T d)), nI d) := by
  unfold X5_keepBest
  rw [clear_V, bd3_s]
  have := lfp3_for (F := X5_keepBest_h21 (nI d) (va_up cP 16 (cP 17)) cta) (y := some (va_up cP 16 (cP 17), LO (va_up V 16 (tkB T d)), HI (va_up V 16 (tkB T d)), nI d)) d (fun k => nI (k + 1)) (fun k => LO (va_up V 16 (tkB T k))) (fun k => HI (va_up V 16 (tkB T k))) (fun k hk r => ?_) (fun r => ?_)
  · exact this
  · have := hT k hk
    unfold X5_keepBest_h21
    rw [if_neg (nI_nlt (by omega) (by omega)), gin_nI (by omega) (by decide), nI_clamp (by omega), hc k hk, put_V this, bd2_s, nI_1]
    simp only [up_at, bx_uu]
    rfl
  · unfold X5_keepBest_h21
    rw [if_pos (nI_lt (by omega) (by omega))]
