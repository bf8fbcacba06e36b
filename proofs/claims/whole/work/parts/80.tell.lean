/-! what a family is told as -/
theorem fillL_app : ∀ (l1 l2 : List Nat) (c : Nat → Int32) k, fillL (fillL c k l1) (k + l1.length) l2 = fillL c k (l1 ++ l2)
  | [], _, _, _ => rfl
  | a :: l1, l2, c, k => by
    show fillL (fillL (upd c k (nI a)) (k + 1) l1) (k + (l1.length + 1)) l2 = fillL (upd c k (nI a)) (k + 1) (l1 ++ l2)
    rw [← fillL_app l1 l2 (upd c k (nI a)) (k + 1), show k + (l1.length + 1) = k + 1 + l1.length by omega]
theorem byte_nI : ∀ a, a < 128 → vp_nar .byte ((nI a).toInt8.toInt32) = nI a := by decide +kernel
theorem char_nI : ∀ a, a < 128 → (((nI a).toUInt32 % 65536).toInt32) = nI a := by decide +kernel
/-- what a buffer holds: the text l -/
def bufL (c : Nat → Int32) (l : List Nat) : Nat → Int32 := fillL c 0 l
theorem buf_add (c : Nat → Int32) (l : List Nat) (a : Nat) : upd (bufL c l) l.length (nI a) = bufL c (l ++ [a]) := by
  have := fillL_app l [a] c 0
  rw [Nat.zero_add] at this
  exact this
theorem len_add (l : List Nat) (a : Nat) : (l ++ [a]).length = l.length + 1 := by rw [List.length_append]; rfl
theorem sign_c {c : Nat → Int32} {l : List Nat} {a : Nat} (h : l.length < 640) (ha : a < 128) : X7_sign (bufL c l) (nI l.length) (nI a) = some (bufL c (l ++ [a]), nI (l ++ [a]).length) := by
  unfold X7_sign
  rw [if_neg (show ¬ (640 : Int32) ≤ nI l.length from nI_ge (b := 640) h (by decide)), gin_nI h (by decide), nI_clamp (by omega), byte_nI a ha, buf_add, nI_1, len_add]
theorem says_9 {c : Nat → Int32} {l : List Nat} {a : Nat} (h : l.length < 640) (ha : a < 128) : X9_says (nI l.length) (bufL c l) (nI a) = some (nI (l ++ [a]).length, bufL c (l ++ [a])) := by
  unfold X9_says
  rw [gin_nI (by omega) (by decide), nI_clamp (by omega), byte_nI a ha, buf_add, nI_1, len_add]
/-- the words -/
def wdL (k : Nat) : List Nat := if k = 1 then [110, 111, 110, 101] else [102, 97, 109, 105, 108, 121, 32]
theorem wd_ch : ∀ k, k < 3 → 0 < k → ∀ i, i < (wdL k).length → stN k = (wdL k).length ∧ ((stB k i &&& (255 : Int32)).toUInt32 % 65536).toInt32 = nI ((wdL k).getD i 0) ∧ (wdL k).getD i 0 < 128 := by decide +kernel
theorem stlen_eq : ∀ k, k < 3 → 0 < k → stlen k = some (nI (wdL k).length) := by
  intro k h1 h2
  rcases (show k = 1 ∨ k = 2 by omega) with rfl | rfl
  · unfold stlen; rfl
  · unfold stlen; rfl
theorem stch_eq {k i : Nat} (h1 : k < 3) (h2 : 0 < k) (hi : i < (wdL k).length) : stch k (nI i) = some (nI ((wdL k).getD i 0)) := by
  obtain ⟨e1, e2, e3⟩ := wd_ch k h1 h2 i hi
  have hl : (wdL k).length ≤ 7 := by rcases (show k = 1 ∨ k = 2 by omega) with rfl | rfl <;> decide
  unfold stch
  rw [e1, gin_nI hi (by omega), nI_clamp (by omega), e2]
theorem take_s (l : List Nat) : ∀ i, i < l.length → l.take (i + 1) = l.take i ++ [l.getD i 0] := by
  intro i hi
  rw [List.take_succ, List.getElem?_eq_getElem hi, List.getD_eq_getElem?_getD, List.getElem?_eq_getElem hi]; rfl
theorem word_c {c : Nat → Int32} {l : List Nat} {k : Nat} (h1 : k < 3) (h2 : 0 < k) (h : l.length + 7 ≤ 640) : X7_word (bufL c l) (nI l.length) k = some (bufL c (l ++ wdL k), nI (l ++ wdL k).length) := by
  have hl : (wdL k).length ≤ 7 := by rcases (show k = 1 ∨ k = 2 by omega) with rfl | rfl <;> decide
  unfold X7_word
  have := lfp3_for (F := X7_word_h2 k) (y := some (bufL c (l ++ wdL k), nI (l ++ wdL k).length)) (wdL k).length (fun i => nI i) (fun i => bufL c (l ++ (wdL k).take i)) (fun i => nI (l ++ (wdL k).take i).length) (fun i hi r => ?_) (fun r => ?_)
  · simp only [List.take_zero, List.append_nil] at this
    exact this
  · obtain ⟨e1, e2, e3⟩ := wd_ch k h1 h2 i hi
    unfold X7_word_h2
    rw [stlen_eq k h1 h2, bd1_s, if_neg (nI_ge hi (by omega)), stch_eq h1 h2 hi, bd1_s, sign_c (by rw [List.length_append, List.length_take]; omega) e3, bd2_s, nI_1, List.append_assoc, ← take_s _ i hi]
  · unfold X7_word_h2
    rw [stlen_eq k h1 h2, bd1_s, if_pos (nI_le (Nat.le_refl _) (by omega)), List.take_length]
theorem word_9 {c : Nat → Int32} {l : List Nat} {k : Nat} (h1 : k < 3) (h2 : 0 < k) (h : l.length + 7 ≤ 640) : X9_saysText (nI l.length) (bufL c l) k = some (nI (l ++ wdL k).length, bufL c (l ++ wdL k)) := by
  have hl : (wdL k).length ≤ 7 := by rcases (show k = 1 ∨ k = 2 by omega) with rfl | rfl <;> decide
  unfold X9_saysText
  have := lfp3_for (F := X9_saysText_h2 k) (y := some (nI (l ++ wdL k).length, bufL c (l ++ wdL k))) (wdL k).length (fun i => nI i) (fun i => nI (l ++ (wdL k).take i).length) (fun i => bufL c (l ++ (wdL k).take i)) (fun i hi r => ?_) (fun r => ?_)
  · simp only [List.take_zero, List.append_nil] at this
    exact this
  · obtain ⟨e1, e2, e3⟩ := wd_ch k h1 h2 i hi
    unfold X9_saysText_h2
    rw [stlen_eq k h1 h2, bd1_s, if_neg (nI_ge hi (by omega)), stch_eq h1 h2 hi, bd1_s, says_9 (by rw [List.length_append, List.length_take]; omega) e3, bd2_s, nI_1, List.append_assoc, ← take_s _ i hi]
  · unfold X9_saysText_h2
    rw [stlen_eq k h1 h2, bd1_s, if_pos (nI_le (Nat.le_refl _) (by omega)), List.take_length]
/-- the points of s below x -/
def dgL (s : Nat) : Nat → List Nat
  | 0 => []
  | x + 1 => dgL s x ++ (if s.testBit x = true then [48 + x] else [])
theorem dgL_len (s : Nat) : ∀ x, (dgL s x).length = cnt (fun i => s.testBit i) x
  | 0 => rfl
  | x + 1 => by
    show (dgL s x ++ (if s.testBit x = true then [48 + x] else [])).length = _
    rw [List.length_append, dgL_len s x, cnt_succ]
    cases s.testBit x <;> rfl
theorem dgL_cut {s n : Nat} (hs : s < 2 ^ n) : ∀ d, dgL s (n + d) = dgL s n
  | 0 => rfl
  | d + 1 => by
    show dgL s (n + d) ++ (if s.testBit (n + d) = true then [48 + (n + d)] else []) = dgL s n
    have hp : 2 ^ n ≤ 2 ^ (n + d) := Nat.pow_le_pow_right (by decide) (by omega)
    rw [Nat.testBit_lt_two_pow (by omega), if_neg Bool.false_ne_true, List.append_nil, dgL_cut hs d]
def setL (s : Nat) : List Nat := (if s = 0 then wdL 1 else []) ++ dgL s 7
/-- the text after the sets below k -/
def preT (n : Nat) (f : Nat → Bool) : Nat → List Nat
  | 0 => wdL 2 ++ [48 + n]
  | k + 1 => if f k = true then preT n f k ++ [if cnt f k = 0 then 58 else 44] ++ setL k else preT n f k
theorem preL_le (n : Nat) (f : Nat → Bool) : ∀ k, (preT n f k).length + (if k = 0 then 4 else 0) ≤ 12 + sm (fun s => 1 + pc s) k := by
  intro k
  induction k with
  | zero => show 8 + 4 ≤ 12 + 0; omega
  | succ k ih =>
    have hs : sm (fun s => 1 + pc s) (k + 1) = sm (fun s => 1 + pc s) k + (1 + pc k) := rfl
    have hd := dgL_len k 7
    have hp : pc k = cnt (fun i => k.testBit i) 7 := rfl
    show (if f k = true then preT n f k ++ [if cnt f k = 0 then 58 else 44] ++ setL k else preT n f k).length + (if k + 1 = 0 then 4 else 0) ≤ _
    rw [if_neg (show ¬ k + 1 = 0 by omega), hs]
    by_cases z : k = 0
    · subst z
      rw [if_pos rfl] at ih
      cases f 0 with
      | true =>
        rw [if_pos rfl, List.length_append, List.length_append]
        show (preT n f 0).length + 1 + (wdL 1 ++ dgL 0 7).length + 0 ≤ _
        rw [List.length_append, hd]
        show (preT n f 0).length + 1 + (4 + _) + 0 ≤ _
        omega
      | false => rw [if_neg Bool.false_ne_true]; omega
    · rw [if_neg z] at ih
      cases f k with
      | true =>
        rw [if_pos rfl, List.length_append, List.length_append]
        unfold setL
        rw [if_neg z, List.nil_append, hd]
        show (preT n f k).length + 1 + _ + 0 ≤ _
        omega
      | false => rw [if_neg Bool.false_ne_true]; omega
theorem sm_pc : sm (fun s => 1 + pc s) 128 = 576 := by decide +kernel
theorem sm_mono {g : Nat → Nat} {m n : Nat} (h : m ≤ n) : sm g m ≤ sm g n := by
  induction n with
  | zero => rw [show m = 0 by omega]; exact Nat.le_refl _
  | succ n ih =>
    by_cases e : m = n + 1
    · rw [e]; exact Nat.le_refl _
    · exact Nat.le_trans (ih (by omega)) (Nat.le_add_right _ _)
theorem preL_588 {n : Nat} {f : Nat → Bool} {k : Nat} (hk : k ≤ 128) : (preT n f k).length ≤ 588 := by
  have h1 := preL_le n f k
  have h2 : sm (fun s => 1 + pc s) k ≤ 576 := by rw [← sm_pc]; exact sm_mono hk
  omega
theorem add_nI (a b : Nat) : nI a + nI b = nI (a + b) := nI_add a b
theorem pts_c {c : Nat → Int32} {s : Nat} (hs : s < 128) {l : List Nat} (h : l.length + 7 ≤ 640) : X7_points_j10 (nI s) (bufL c l) (nI l.length) = some (bufL c (l ++ dgL s 7), nI (l ++ dgL s 7).length) := by
  unfold X7_points_j10
  have := lfp3_for (F := X7_points_h12 (nI s)) (y := some (bufL c (l ++ dgL s 7), nI (l ++ dgL s 7).length)) 7 (fun x => nI x) (fun x => bufL c (l ++ dgL s x)) (fun x => nI (l ++ dgL s x).length) (fun x hx r => ?_) (fun r => ?_)
  · simp only [dgL, List.append_nil] at this
    exact this
  · have hl := dgL_len s x
    have hc := cnt_le (fun i => s.testBit i) x
    unfold X7_points_h12
    rw [if_neg (show ¬ (7 : Int32) ≤ nI x from nI_ge (b := 7) hx (by decide)), sbit s hs x hx, ib1, show (48 : Int32) + nI x = nI (48 + x) from add_nI 48 x, char_nI (48 + x) (by omega), sign_c (by rw [List.length_append]; omega) (by omega), bd2_s, nI_1]
    show _ = r (nI (x + 1)) (bufL c (l ++ (dgL s x ++ (if s.testBit x = true then [48 + x] else [])))) (nI (l ++ (dgL s x ++ (if s.testBit x = true then [48 + x] else []))).length)
    cases s.testBit x with
    | true => rw [if_pos rfl, if_pos rfl, List.append_assoc]
    | false => rw [if_neg Bool.false_ne_true, if_neg Bool.false_ne_true, List.append_nil]
  · unfold X7_points_h12
    rw [if_pos (show (7 : Int32) ≤ nI 7 by decide)]
theorem points_c {c : Nat → Int32} {s : Nat} (hs : s < 128) {l : List Nat} (h : l.length + 12 ≤ 640) : X7_points (bufL c l) (nI l.length) (nI s) = some (bufL c (l ++ setL s), nI (l ++ setL s).length) := by
  unfold X7_points setL
  by_cases z : s = 0
  · subst z
    rw [if_pos (show nI 0 = 0 from rfl), word_c (by decide) (by decide) (by omega), bd2_s, pts_c hs (by rw [List.length_append]; show l.length + 4 + 7 ≤ 640; omega), if_pos rfl, List.append_assoc]
  · rw [if_neg (show ¬ nI s = 0 from fun q => z ((nI_eq (b := 0) (by omega) (by decide)).mp q)), pts_c hs (by omega), if_neg z, List.nil_append]
theorem pts_9 {mnow c : Nat → Int32} {n j s : Nat} {f : Nat → Bool} {r17 : Int32 → Int32 → Int32 → (Nat → Int32) → Option (Int32 × Int32 × (Nat → Int32))} (hj : j < 3) (hM : FamM mnow (129 * j) (n, f)) (hn : n ≤ 7) (hs : s < 2 ^ n) {l : List Nat} (h : l.length + 7 ≤ 640) : X9_tell_j77 mnow (nI j) r17 (nI s) (nI l.length) (bufL c l) = r17 44 (nI (s + 1)) (nI (l ++ dgL s 7).length) (bufL c (l ++ dgL s 7)) := by
  have hq := pow_le7 hn
  have e : dgL s 7 = dgL s n := by
    have := dgL_cut hs (7 - n)
    rwa [show n + (7 - n) = 7 by omega] at this
  rw [e]
  unfold X9_tell_j77
  have := lfp3_for (F := X9_tell_h80 mnow (nI j) r17 (nI s)) (y := r17 44 (nI (s + 1)) (nI (l ++ dgL s n).length) (bufL c (l ++ dgL s n))) n (fun x => nI x) (fun x => nI (l ++ dgL s x).length) (fun x => bufL c (l ++ dgL s x)) (fun x hx r => ?_) (fun r => ?_)
  · simp only [dgL, List.append_nil] at this
    exact this
  · have hl := dgL_len s x
    have hc := cnt_le (fun i => s.testBit i) x
    unfold X9_tell_h80
    rw [points9 hj hM, bd1_s, if_neg (nI_ge hx (by omega)), X9_hasBit_eq (by omega) (by omega), bd1_s, show (48 : Int32) + nI x = nI (48 + x) from add_nI 48 x, says_9 (by rw [List.length_append]; omega) (by omega), bd2_s, nI_1, ib0]
    show _ = r (nI (x + 1)) (nI (l ++ (dgL s x ++ (if s.testBit x = true then [48 + x] else []))).length) (bufL c (l ++ (dgL s x ++ (if s.testBit x = true then [48 + x] else []))))
    cases s.testBit x with
    | true => rw [if_pos rfl, if_pos rfl, List.append_assoc]
    | false => rw [if_neg Bool.false_ne_true, if_neg Bool.false_ne_true, List.append_nil]
  · unfold X9_tell_h80
    rw [points9 hj hM, bd1_s, if_pos (nI_le (Nat.le_refl _) (by omega)), nI_1]
theorem cnt_s0 {f : Nat → Bool} {k : Nat} (h : f k = true) : ¬ cnt f (k + 1) = 0 := by rw [cnt_succ, h]; simp
theorem cnt_s1 {f : Nat → Bool} {k : Nat} (h : f k = false) : cnt f (k + 1) = cnt f k := by rw [cnt_succ, h]; rfl
theorem write_V {cP cob : Nat → Int32} {V : Nat → Nat → Bool} {j n : Nat} (hn : n ≤ 7) (hP : cP j = nI n) : X7_write cP (LO V) (HI V) cob j = some (bufL cob (preT n (V j) (2 ^ n) ++ [59]), nI (preT n (V j) (2 ^ n) ++ [59]).length) := by
  have hq := pow_le7 hn
  unfold X7_write
  have hw := word_c (c := cob) (l := []) (k := 2) (by decide) (by decide) (by decide)
  rw [List.nil_append] at hw
  rw [show X7_word cob 0 2 = _ from hw, bd2_s, hP, show (48 : Int32) + nI n = nI (48 + n) from add_nI 48 n, char_nI (48 + n) (by omega), sign_c (by decide) (by omega), bd2_s]
  have := lfp4_for (F := X7_write_h27 cP j (LO V) (HI V)) (y := some (bufL cob (preT n (V j) (2 ^ n) ++ [59]), nI (preT n (V j) (2 ^ n) ++ [59]).length)) (2 ^ n) (fun k => if cnt (V j) k = 0 then 1 else 0) (fun k => nI k) (fun k => bufL cob (preT n (V j) k)) (fun k => nI (preT n (V j) k).length) (fun k hk r => ?_) (fun r => ?_)
  · exact this
  · have hb := preL_588 (n := n) (f := V j) (k := k) (by omega)
    unfold X7_write_h27
    rw [X0_span_eq hP hn, bd1_s, if_neg (nI_ge hk (by omega)), holds_V (by omega), bd1_s, nI_1]
    show _ = r _ _ (bufL cob (if V j k = true then preT n (V j) k ++ [if cnt (V j) k = 0 then 58 else 44] ++ setL k else preT n (V j) k)) (nI (if V j k = true then preT n (V j) k ++ [if cnt (V j) k = 0 then 58 else 44] ++ setL k else preT n (V j) k).length)
    cases hv : V j k with
    | false => rw [bf0, if_neg Bool.false_ne_true, cnt_s1 hv]
    | true =>
      rw [bt0, if_pos rfl, if_neg (cnt_s0 hv)]
      by_cases z : cnt (V j) k = 0
      · rw [if_pos z, if_pos z, i10, show (58 : Int32) = nI 58 from rfl, sign_c (by omega) (by decide), bd2_s, points_c (by omega) (by rw [len_add]; omega), bd2_s]
      · rw [if_neg z, if_neg z, i00, show (44 : Int32) = nI 44 from rfl, sign_c (by omega) (by decide), bd2_s, points_c (by omega) (by rw [len_add]; omega), bd2_s]
  · have hb := preL_588 (n := n) (f := V j) (k := 2 ^ n) hq
    unfold X7_write_h27
    rw [X0_span_eq hP hn, bd1_s, if_pos (nI_le (Nat.le_refl _) (by omega)), show (59 : Int32) = nI 59 from rfl, sign_c (by omega) (by decide), bd2_s]
theorem preL_cut {n : Nat} {f : Nat → Bool} (hi : inN n f) : ∀ d, preT n f (2 ^ n + d) = preT n f (2 ^ n)
  | 0 => rfl
  | d + 1 => by
    show (if f (2 ^ n + d) = true then _ else preT n f (2 ^ n + d)) = _
    cases hv : f (2 ^ n + d) with
    | true => have := hi _ hv; omega
    | false => rw [if_neg Bool.false_ne_true, preL_cut hi d]
theorem tell_9 {mnow mtol : Nat → Int32} {j n : Nat} {f : Nat → Bool} (hj : j < 3) (hM : FamM mnow (129 * j) (n, f)) (hn : n ≤ 7) (hi : inN n f) : (bd2 (X9_saysText 0 mtol 2) (fun mtom_4 mtol_5 => bd1 (X9_points mnow (nI j)) (fun q7 => bd2 (X9_says mtom_4 mtol_5 ((48 : Int32) + q7)) (fun mtom_9 mtol_10 => lfp4 (X9_tell_h40 mnow (nI j)) 58 0 mtom_9 mtol_10)))) = some (nI (preT n f (2 ^ n) ++ [59]).length, nI (preT n f (2 ^ n) ++ [59]).length, bufL mtol (preT n f (2 ^ n) ++ [59])) := by
  have hq := pow_le7 hn
  have hw := word_9 (c := mtol) (l := []) (k := 2) (by decide) (by decide) (by decide)
  rw [List.nil_append] at hw
  rw [show X9_saysText 0 mtol 2 = _ from hw, bd2_s, points9 hj hM, bd1_s, show (48 : Int32) + nI n = nI (48 + n) from add_nI 48 n, says_9 (by decide) (by omega), bd2_s]
  have e128 : preT n f 128 = preT n f (2 ^ n) := by
    have := preL_cut (n := n) hi (128 - 2 ^ n)
    rwa [show 2 ^ n + (128 - 2 ^ n) = 128 by omega] at this
  rw [← e128]
  have := lfp4_for (F := X9_tell_h40 mnow (nI j)) (y := some (nI (preT n f 128 ++ [59]).length, nI (preT n f 128 ++ [59]).length, bufL mtol (preT n f 128 ++ [59]))) 128 (fun k => if cnt f k = 0 then 58 else 44) (fun k => nI k) (fun k => nI (preT n f k).length) (fun k => bufL mtol (preT n f k)) (fun k hk r => ?_) (fun r => ?_)
  · exact this
  · have hb := preL_588 (n := n) (f := f) (k := k) (by omega)
    unfold X9_tell_h40
    rw [if_neg (inn128 hk), isIn9 hj hM hk, bd1_s, nI_1]
    show _ = r _ _ (nI (if f k = true then preT n f k ++ [if cnt f k = 0 then 58 else 44] ++ setL k else preT n f k).length) (bufL mtol (if f k = true then preT n f k ++ [if cnt f k = 0 then 58 else 44] ++ setL k else preT n f k))
    cases hv : f k with
    | false => rw [bf0, if_neg Bool.false_ne_true, cnt_s1 hv]
    | true =>
      have hsep : (if cnt f k = 0 then (58 : Int32) else 44) = nI (if cnt f k = 0 then 58 else 44) := by split <;> rfl
      rw [bt0, if_pos rfl, if_neg (cnt_s0 hv), hsep, says_9 (by omega) (by split <;> decide), bd2_s]
      unfold setL
      by_cases z : k = 0
      · subst z
        rw [if_pos (show nI 0 = 0 from rfl), word_9 (by decide) (by decide) (by rw [len_add]; omega), bd2_s, pts_9 hj hM hn (hi 0 hv) (by rw [List.length_append, len_add]; show _ + 4 + 7 ≤ 640; omega), if_pos rfl, List.append_assoc, List.append_assoc]
      · rw [if_neg (show ¬ nI k = 0 from fun q => z ((nI_eq (b := 0) (by omega) (by decide)).mp q)), pts_9 hj hM hn (hi k hv) (by rw [len_add]; omega), if_neg z, List.nil_append]
  · have hb := preL_588 (n := n) (f := f) (k := 128) (Nat.le_refl _)
    unfold X9_tell_h40
    rw [if_pos i128, show (59 : Int32) = nI 59 from rfl, says_9 (by omega) (by decide), bd2_s]
section SIM
variable {cP : Nat → Int32} {cLo : Nat → Int64} {cHi : Nat → Int64} {cpl : Nat → Int32} {ctb : Nat → Int32} {ctl : Int32} {ctf : Int32} {ctp : Int32} {ctk : Int32} {cts : Int32} {cth : Int32} {cob : Nat → Int32} {col : Int32} {cso : Nat → Int32} {cha : Int32} {chs : Int32} {cbe : Int32} {ctr : Int32} {cgl : Nat → Int64} {cgh : Nat → Int64} {cll : Nat → Int64} {clh : Nat → Int64} {cta : Nat → Int32} {cme : Nat → Int32} {cps : Int32} {cwh : Nat → Int32} {cal : Nat → Int64} {cah : Nat → Int64} {mthr : Int32} {mfrp : Int32} {mact : Int32} {mtpd : Int32} {msiz : Int32} {matx : Int32} {mfrm : Int32} {mtok : Int32} {mval : Int32} {mfk : Int32} {mfpl : Int32} {mbem : Int32} {mtrs : Int32} {mtrl : Int32} {mrom : Int32} {mtom : Int32} {mnow : Nat → Int32} {mfre : Nat → Int32} {mkep : Nat → Int32} {mtap : Nat → Int32} {mlef : Nat → Int32} {mtak : Nat → Int32} {mbes : Nat → Int32} {mrow : Nat → Int32} {mint : Nat → Int32} {mrnd : Nat → Int32} {mplo : Nat → Int32} {mhio : Nat → Int32} {mtox : Nat → Int32} {mtol : Nat → Int32}
theorem sim_tell {p1 : Int32} (hr : Rel cP cLo cHi ctb ctl ctf ctp cob col cso cha chs mact mtpd mfk mfpl mtom mnow mkep mtap mtol) : ∃ (r : Int32) (ocob : Nat → Int32) (ocol : Int32) (omtom : Int32) (omtol : Nat → Int32), X8_tell cP cLo cHi cob col p1 = some (r, ocob, ocol) ∧ X9_tell mtom mnow mtol p1 = some (r, omtom, omtol) ∧ Rel cP cLo cHi ctb ctl ctf ctp ocob ocol cso cha chs mact mtpd mfk mfpl omtom mnow mkep mtap omtol := by
  obtain ⟨V, rfl, rfl, hV⟩ := toV cLo cHi
  unfold X8_tell X9_tell
  rcases famcase hV hr p1 with ⟨j, n, hj, rfl, h0, hn, hi, hP, hM, e1, e2⟩ | ⟨e1, e2⟩
  · rw [e1, bdo_s, e2, bd1_s, i10, write_V hn hP, bd2_s, tell_9 hj hM hn hi]
    have hb := preL_588 (n := n) (f := V j) (k := 2 ^ n) (pow_le7 hn)
    refine ⟨_, _, _, _, _, rfl, rfl, hr.1, hr.2.1, hr.2.2.1, (preT n (V j) (2 ^ n) ++ [59]).length, by rw [len_add]; omega, rfl, rfl, fun i hi => ?_⟩
    have q1 := fillL_at (preT n (V j) (2 ^ n) ++ [59]) cob 0 i hi
    have q2 := fillL_at (preT n (V j) (2 ^ n) ++ [59]) mtol 0 i hi
    rw [Nat.zero_add] at q1 q2
    exact q1.trans q2.symm
  · rw [e1, bdo_n, e2, bd1_s, i00]
    exact ⟨_, _, _, _, _, rfl, rfl, hr⟩
end SIM
