/-! Long.bitCount: bytes -/
def hv : List Nat → Nat
  | [] => 0
  | b :: bs => b + 256 * hv bs
theorem land_split {a b c d : Nat} (ha : a < 256) (hc : c < 256) : (a + 256 * b) &&& (c + 256 * d) = (a &&& c) + 256 * (b &&& d) := by
  have hac : a &&& c < 256 := Nat.lt_of_le_of_lt Nat.and_le_left ha
  apply Nat.eq_of_testBit_eq
  intro i
  rw [Nat.testBit_and, show a + 256 * b = 2 ^ 8 * b + a by omega, show c + 256 * d = 2 ^ 8 * d + c by omega, show (a &&& c) + 256 * (b &&& d) = 2 ^ 8 * (b &&& d) + (a &&& c) by omega, Nat.testBit_two_pow_mul_add _ ha, Nat.testBit_two_pow_mul_add _ hc, Nat.testBit_two_pow_mul_add _ hac]
  split
  · rw [Nat.testBit_and]
  · rw [Nat.testBit_and]
def s1 (b : Nat) : Nat := b - ((b / 2) &&& 85)
def s2 (b : Nat) : Nat := (b &&& 51) + ((b / 4) &&& 51)
def s3 (b : Nat) : Nat := (b + b / 16) &&& 15
theorem hv_half : ∀ bs : List Nat, (∀ b ∈ bs, b < 256) → (hv bs / 2) &&& hv (List.replicate bs.length 85) = hv (bs.map (fun b => (b / 2) &&& 85)) := by
  intro bs
  induction bs with
  | nil => intro _; rfl
  | cons b bs ih =>
    intro h
    have hb := h b List.mem_cons_self
    have e : ∀ b, b < 256 → ∀ y, y < 2 → (b / 2 + 128 * y) &&& 85 = (b / 2) &&& 85 := by decide +kernel
    have hy : hv bs % 2 < 2 := Nat.mod_lt _ (by decide)
    show ((b + 256 * hv bs) / 2) &&& (85 + 256 * hv (List.replicate bs.length 85)) = ((b / 2) &&& 85) + 256 * hv (bs.map _)
    rw [show (b + 256 * hv bs) / 2 = (b / 2 + 128 * (hv bs % 2)) + 256 * (hv bs / 2) by omega, land_split (by omega) (by decide), e b hb _ hy, ih (fun c hc => h c (List.mem_cons_of_mem _ hc))]
theorem hv_quart : ∀ bs : List Nat, (∀ b ∈ bs, b < 256) → (hv bs / 4) &&& hv (List.replicate bs.length 51) = hv (bs.map (fun b => (b / 4) &&& 51)) := by
  intro bs
  induction bs with
  | nil => intro _; rfl
  | cons b bs ih =>
    intro h
    have hb := h b List.mem_cons_self
    have e : ∀ b, b < 256 → ∀ y, y < 4 → (b / 4 + 64 * y) &&& 51 = (b / 4) &&& 51 := by decide +kernel
    have hy : hv bs % 4 < 4 := Nat.mod_lt _ (by decide)
    show ((b + 256 * hv bs) / 4) &&& (51 + 256 * hv (List.replicate bs.length 51)) = ((b / 4) &&& 51) + 256 * hv (bs.map _)
    rw [show (b + 256 * hv bs) / 4 = (b / 4 + 64 * (hv bs % 4)) + 256 * (hv bs / 4) by omega, land_split (by omega) (by decide), e b hb _ hy, ih (fun c hc => h c (List.mem_cons_of_mem _ hc))]
theorem hv_mask (m : Nat) (hm : m < 256) : ∀ bs : List Nat, (∀ b ∈ bs, b < 256) → hv bs &&& hv (List.replicate bs.length m) = hv (bs.map (fun b => b &&& m)) := by
  intro bs
  induction bs with
  | nil => intro _; exact Nat.zero_and _
  | cons b bs ih =>
    intro h
    show (b + 256 * hv bs) &&& (m + 256 * hv (List.replicate bs.length m)) = (b &&& m) + 256 * hv (bs.map _)
    rw [land_split (h b List.mem_cons_self) hm, ih (fun c hc => h c (List.mem_cons_of_mem _ hc))]
theorem hv_add (f g : Nat → Nat) (bs : List Nat) : hv (bs.map f) + hv (bs.map g) = hv (bs.map (fun b => f b + g b)) := by
  induction bs with
  | nil => rfl
  | cons b bs ih =>
    show (f b + 256 * hv (bs.map f)) + (g b + 256 * hv (bs.map g)) = (f b + g b) + 256 * hv (bs.map _)
    rw [← ih]; omega
theorem hv_sub (g : Nat → Nat) : ∀ bs : List Nat, (∀ b ∈ bs, g b ≤ b) → hv bs = hv (bs.map g) + hv (bs.map (fun b => b - g b)) := by
  intro bs
  induction bs with
  | nil => intro _; rfl
  | cons b bs ih =>
    intro h
    have hb := h b List.mem_cons_self
    have := ih (fun c hc => h c (List.mem_cons_of_mem _ hc))
    show b + 256 * hv bs = (g b + 256 * hv (bs.map g)) + ((b - g b) + 256 * hv (bs.map _))
    omega
theorem hv_16 : ∀ bs : List Nat, (∀ b ∈ bs, b < 256 ∧ b % 16 ≤ 4 ∧ b / 16 ≤ 4) → (hv bs + hv bs / 16) &&& hv (List.replicate bs.length 15) = hv (bs.map s3) := by
  intro bs
  induction bs with
  | nil => intro _; rfl
  | cons b bs ih =>
    intro h
    obtain ⟨h1, h2, h3⟩ := h b List.mem_cons_self
    have hY : hv bs % 16 ≤ 4 := by
      cases bs with
      | nil => exact Nat.zero_le _
      | cons c cs => have := h c (List.mem_cons_of_mem _ List.mem_cons_self); show (c + 256 * hv cs) % 16 ≤ 4; omega
    have e : ∀ b, b < 256 → ∀ y, y < 5 → b % 16 ≤ 4 → b / 16 ≤ 4 → (b + b / 16 + 16 * y) &&& 15 = s3 b := by decide +kernel
    show ((b + 256 * hv bs) + (b + 256 * hv bs) / 16) &&& (15 + 256 * hv (List.replicate bs.length 15)) = s3 b + 256 * hv (bs.map s3)
    rw [show (b + 256 * hv bs) + (b + 256 * hv bs) / 16 = (b + b / 16 + 16 * (hv bs % 16)) + 256 * (hv bs + hv bs / 16) by omega, land_split (by omega) (by decide), e b h1 _ (by omega) h2 h3, ih (fun c hc => h c (List.mem_cons_of_mem _ hc))]
def uN (x : Int64) : Nat := x.toBitVec.toNat
theorem uN_lt (x : Int64) : uN x < 2 ^ 64 := x.toBitVec.isLt
theorem uN_and (x y : Int64) : uN (x &&& y) = uN x &&& uN y := by simp [uN]
theorem uN_add (x y : Int64) : uN (x + y) = (uN x + uN y) % 2 ^ 64 := by simp [uN]
theorem uN_sub (x y : Int64) (h : uN y ≤ uN x) : uN (x - y) = uN x - uN y := by
  have h1 := uN_lt x
  have h2 := uN_lt y
  have e : uN (x - y) = (2 ^ 64 - uN y + uN x) % 2 ^ 64 := by simp [uN, BitVec.toNat_sub]
  rw [e]; omega
theorem uN_shr (x : Int64) {k : Nat} (hk : k < 64) : uN ((x.toUInt64 >>> ((nI k).toInt64.toUInt64 &&& Int64.toUInt64 63)).toInt64) = uN x / 2 ^ k := by
  unfold uN; rw [ushr_bv x hk, BitVec.toNat_ushiftRight, Nat.shiftRight_eq_div_pow]
theorem uN_m5 : uN 6148914691236517205 = hv (List.replicate 8 85) := by decide +kernel
theorem uN_m3 : uN 3689348814741910323 = hv (List.replicate 8 51) := by decide +kernel
theorem uN_mf : uN 1085102592571150095 = hv (List.replicate 8 15) := by decide +kernel
/-- the eight bytes -/
def byt (X : Nat) : List Nat := (List.range 8).map (fun i => X / 256 ^ i % 256)
theorem byt_hv {X : Nat} (h : X < 2 ^ 64) : hv (byt X) = X := by
  show X / 1 % 256 + 256 * (X / 256 % 256 + 256 * (X / 65536 % 256 + 256 * (X / 16777216 % 256 + 256 * (X / 4294967296 % 256 + 256 * (X / 1099511627776 % 256 + 256 * (X / 281474976710656 % 256 + 256 * (X / 72057594037927936 % 256 + 256 * 0))))))) = X
  omega
theorem byt_lt (X : Nat) : ∀ b ∈ byt X, b < 256 := by
  intro b hb
  obtain ⟨i, _, rfl⟩ := List.mem_map.mp hb
  exact Nat.mod_lt _ (by decide)
theorem byte_fact : ∀ b, b < 256 → (b / 2 &&& 85) ≤ b ∧ s1 b < 256 ∧ s2 (s1 b) < 256 ∧ (s2 (s1 b)) % 16 ≤ 4 ∧ (s2 (s1 b)) / 16 ≤ 4 ∧ s3 (s2 (s1 b)) = cnt (fun i => b.testBit i) 8 := by decide +kernel
theorem hv_div {c : Nat} {cs : List Nat} (h : c < 256) : hv (c :: cs) / 256 = hv cs := by
  show (c + 256 * hv cs) / 256 = hv cs
  omega
theorem hv_div2 {c d : Nat} {cs : List Nat} (h : c < 256) (h2 : d < 256) : hv (c :: d :: cs) / 65536 = hv cs := by
  rw [show 65536 = 256 * 256 from rfl, ← Nat.div_div_eq_div_mul, hv_div h, hv_div h2]
theorem hv_div4 {a b c d : Nat} {cs : List Nat} (h : a < 256) (h2 : b < 256) (h3 : c < 256) (h4 : d < 256) : hv (a :: b :: c :: d :: cs) / 4294967296 = hv cs := by
  rw [show 4294967296 = 65536 * 65536 from rfl, ← Nat.div_div_eq_div_mul, hv_div2 h h2, hv_div2 h3 h4]
theorem fin_sum {a b c d e f g h : Nat} (ha : a ≤ 8) (hb : b ≤ 8) (hc : c ≤ 8) (hd : d ≤ 8) (he : e ≤ 8) (hf : f ≤ 8) (hg : g ≤ 8) (hh : h ≤ 8) {y y4 y5 y6 : Nat} (ey : y = hv [a, b, c, d, e, f, g, h]) (e4 : y4 = (y + y / 256) % 2 ^ 64) (e5 : y5 = (y4 + y4 / 65536) % 2 ^ 64) (e6 : y6 = (y5 + y5 / 4294967296) % 2 ^ 64) :
    y6 % 256 = a + b + c + d + e + f + g + h := by
  have f4 : y4 = hv [a + b, b + c, c + d, d + e, e + f, f + g, g + h, h] := by
    have q : hv [a, b, c, d, e, f, g, h] + hv [b, c, d, e, f, g, h] = hv [a + b, b + c, c + d, d + e, e + f, f + g, g + h, h] := by simp only [hv]; omega
    have l : hv [a + b, b + c, c + d, d + e, e + f, f + g, g + h, h] < 2 ^ 64 := by simp only [hv]; omega
    rw [e4, ey, hv_div (by omega), q, Nat.mod_eq_of_lt l]
  have f5 : y5 = hv [a + b + (c + d), b + c + (d + e), c + d + (e + f), d + e + (f + g), e + f + (g + h), f + g + h, g + h, h] := by
    have q : hv [a + b, b + c, c + d, d + e, e + f, f + g, g + h, h] + hv [c + d, d + e, e + f, f + g, g + h, h] = hv [a + b + (c + d), b + c + (d + e), c + d + (e + f), d + e + (f + g), e + f + (g + h), f + g + h, g + h, h] := by simp only [hv]; omega
    have l : hv [a + b + (c + d), b + c + (d + e), c + d + (e + f), d + e + (f + g), e + f + (g + h), f + g + h, g + h, h] < 2 ^ 64 := by simp only [hv]; omega
    rw [e5, f4, hv_div2 (by omega) (by omega), q, Nat.mod_eq_of_lt l]
  have f6 : y6 = hv [a + b + (c + d) + (e + f + (g + h)), b + c + (d + e) + (f + g + h), c + d + (e + f) + (g + h), d + e + (f + g) + h, e + f + (g + h), f + g + h, g + h, h] := by
    have q : hv [a + b + (c + d), b + c + (d + e), c + d + (e + f), d + e + (f + g), e + f + (g + h), f + g + h, g + h, h] + hv [e + f + (g + h), f + g + h, g + h, h] = hv [a + b + (c + d) + (e + f + (g + h)), b + c + (d + e) + (f + g + h), c + d + (e + f) + (g + h), d + e + (f + g) + h, e + f + (g + h), f + g + h, g + h, h] := by simp only [hv]; omega
    have l : hv [a + b + (c + d) + (e + f + (g + h)), b + c + (d + e) + (f + g + h), c + d + (e + f) + (g + h), d + e + (f + g) + h, e + f + (g + h), f + g + h, g + h, h] < 2 ^ 64 := by simp only [hv]; omega
    rw [e6, f5, hv_div4 (by omega) (by omega) (by omega) (by omega), q, Nat.mod_eq_of_lt l]
  rw [f6]
  show (a + b + (c + d) + (e + f + (g + h)) + 256 * hv _) % 256 = _
  omega
