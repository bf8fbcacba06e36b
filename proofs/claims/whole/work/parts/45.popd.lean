theorem map2 {f g : Nat → Nat} (l : List Nat) : (l.map f).map g = l.map (fun b => g (f b)) := by rw [List.map_map]; rfl
theorem hv_lt8 {l : List Nat} (h8 : l.length = 8) (h : ∀ b ∈ l, b < 256) : hv l < 2 ^ 64 := by
  match l, h8 with
  | [a, b, c, d, e, f, g, i], _ =>
    have h1 := h a (by simp); have h2 := h b (by simp); have h3 := h c (by simp); have h4 := h d (by simp)
    have h5 := h e (by simp); have h6 := h f (by simp); have h7 := h g (by simp); have h8 := h i (by simp)
    simp only [hv]; omega
theorem cnt8 (c : Nat → Bool) : cnt c 64 = cnt (fun k => c k) 8 + cnt (fun k => c (8 + k)) 8 + cnt (fun k => c (16 + k)) 8 + cnt (fun k => c (24 + k)) 8 + cnt (fun k => c (32 + k)) 8 + cnt (fun k => c (40 + k)) 8 + cnt (fun k => c (48 + k)) 8 + cnt (fun k => c (56 + k)) 8 := by
  rw [show 64 = 56 + 8 from rfl, cnt_add c 56 8, show 56 = 48 + 8 from rfl, cnt_add c 48 8, show 48 = 40 + 8 from rfl, cnt_add c 40 8, show 40 = 32 + 8 from rfl, cnt_add c 32 8, show 32 = 24 + 8 from rfl, cnt_add c 24 8, show 24 = 16 + 8 from rfl, cnt_add c 16 8, show 16 = 8 + 8 from rfl, cnt_add c 8 8]
theorem byte_bit (X i : Nat) : cnt (fun k => (X / 256 ^ i % 256).testBit k) 8 = cnt (fun k => X.testBit (8 * i + k)) 8 := by
  apply cnt_congr
  intro k hk
  rw [show (256 : Nat) = 2 ^ 8 from rfl, ← Nat.pow_mul, Nat.testBit_mod_two_pow, Nat.testBit_div_two_pow]
  simp [hk, Nat.add_comm]
theorem xb_testBit (x : Int64) (s : Nat) : xb x s = (uN x).testBit s := by simp [xb, uN, BitVec.testBit_toNat]
set_option maxHeartbeats 2000000 in
theorem J13_eq (x : Int64) : J13_bitCount_95d88 x = some (nI (cnt (xb x) 64)) := by
  unfold J13_bitCount_95d88
  obtain ⟨B, hB⟩ : ∃ B, B = byt (uN x) := ⟨_, rfl⟩
  have hX : uN x = hv B := by rw [hB]; exact (byt_hv (uN_lt x)).symm
  have hl : B.length = 8 := by rw [hB]; rfl
  have hb : ∀ b ∈ B, b < 256 := by rw [hB]; exact byt_lt _
  obtain ⟨i1, h1⟩ : ∃ i, i = x - (((x.toUInt64 >>> ((1 : Int32).toInt64.toUInt64 &&& Int64.toUInt64 63)).toInt64) &&& (6148914691236517205 : Int64)) := ⟨_, rfl⟩
  rw [← h1]
  have f1 : uN i1 = hv (B.map s1) := by
    have q : uN (((x.toUInt64 >>> ((1 : Int32).toInt64.toUInt64 &&& Int64.toUInt64 63)).toInt64) &&& (6148914691236517205 : Int64)) = hv (B.map (fun b => (b / 2) &&& 85)) := by
      rw [uN_and, show uN ((x.toUInt64 >>> ((1 : Int32).toInt64.toUInt64 &&& Int64.toUInt64 63)).toInt64) = uN x / 2 ^ 1 from uN_shr x (k := 1) (by decide), uN_m5, hX, ← hl]
      exact hv_half B hb
    have s := hv_sub (fun b => (b / 2) &&& 85) B (fun b h => (byte_fact b (hb b h)).1)
    rw [h1, uN_sub _ _ (by rw [q, hX]; omega), q, hX]
    show hv B - hv (B.map _) = hv (B.map (fun b => b - ((b / 2) &&& 85)))
    omega
  have b1 : ∀ b ∈ B.map s1, b < 256 := fun b h => by obtain ⟨c, hc, rfl⟩ := List.mem_map.mp h; exact (byte_fact c (hb c hc)).2.1
  obtain ⟨i2, h2⟩ : ∃ i, i = (i1 &&& (3689348814741910323 : Int64)) + (((i1.toUInt64 >>> ((2 : Int32).toInt64.toUInt64 &&& Int64.toUInt64 63)).toInt64) &&& (3689348814741910323 : Int64)) := ⟨_, rfl⟩
  rw [← h2]
  have b2 : ∀ b ∈ (B.map s1).map s2, b < 256 ∧ b % 16 ≤ 4 ∧ b / 16 ≤ 4 := fun b h => by
    obtain ⟨c, hc, rfl⟩ := List.mem_map.mp h
    obtain ⟨d, hd, rfl⟩ := List.mem_map.mp hc
    have := byte_fact d (hb d hd)
    exact ⟨this.2.2.1, this.2.2.2.1, this.2.2.2.2.1⟩
  have f2 : uN i2 = hv ((B.map s1).map s2) := by
    have l1 : (B.map s1).length = 8 := by rw [List.length_map, hl]
    rw [h2, uN_add, uN_and, uN_and, show uN ((i1.toUInt64 >>> ((2 : Int32).toInt64.toUInt64 &&& Int64.toUInt64 63)).toInt64) = uN i1 / 2 ^ 2 from uN_shr i1 (k := 2) (by decide), uN_m3, f1, ← l1, hv_mask 51 (by decide) _ b1, show 2 ^ 2 = 4 from rfl, hv_quart _ b1, hv_add]
    exact Nat.mod_eq_of_lt (hv_lt8 (by rw [List.length_map, l1]) (fun b h => (b2 b h).1))
  obtain ⟨i3, h3⟩ : ∃ i, i = (i2 + ((i2.toUInt64 >>> ((4 : Int32).toInt64.toUInt64 &&& Int64.toUInt64 63)).toInt64)) &&& (1085102592571150095 : Int64) := ⟨_, rfl⟩
  rw [← h3]
  have f3 : uN i3 = hv (((B.map s1).map s2).map s3) := by
    have l2 : ((B.map s1).map s2).length = 8 := by rw [List.length_map, List.length_map, hl]
    have lt : hv ((B.map s1).map s2) + hv ((B.map s1).map s2) / 16 < 2 ^ 64 := by
      have hbig : hv ((B.map s1).map s2) < 2 ^ 63 := by
        match hm : (B.map s1).map s2, l2 with
        | [a, b, c, d, e, f, g, i], _ =>
          have q := fun z hz => b2 z (by rw [hm]; exact hz)
          have h1 := q a (by simp); have h2 := q b (by simp); have h3 := q c (by simp); have h4 := q d (by simp)
          have h5 := q e (by simp); have h6 := q f (by simp); have h7 := q g (by simp); have h8 := q i (by simp)
          simp only [hv]; omega
      omega
    rw [h3, uN_and, uN_add, show uN ((i2.toUInt64 >>> ((4 : Int32).toInt64.toUInt64 &&& Int64.toUInt64 63)).toInt64) = uN i2 / 2 ^ 4 from uN_shr i2 (k := 4) (by decide), uN_mf, f2, ← l2, show 2 ^ 4 = 16 from rfl, Nat.mod_eq_of_lt lt]
    exact hv_16 _ b2
  obtain ⟨i4, h4⟩ : ∃ i, i = i3 + ((i3.toUInt64 >>> ((8 : Int32).toInt64.toUInt64 &&& Int64.toUInt64 63)).toInt64) := ⟨_, rfl⟩
  rw [← h4]
  obtain ⟨i5, h5⟩ : ∃ i, i = i4 + ((i4.toUInt64 >>> ((16 : Int32).toInt64.toUInt64 &&& Int64.toUInt64 63)).toInt64) := ⟨_, rfl⟩
  rw [← h5]
  obtain ⟨i6, h6⟩ : ∃ i, i = i5 + ((i5.toUInt64 >>> ((32 : Int32).toInt64.toUInt64 &&& Int64.toUInt64 63)).toInt64) := ⟨_, rfl⟩
  rw [← h6]
  have g4 : uN i4 = (uN i3 + uN i3 / 256) % 2 ^ 64 := by rw [h4, uN_add, show uN ((i3.toUInt64 >>> ((8 : Int32).toInt64.toUInt64 &&& Int64.toUInt64 63)).toInt64) = uN i3 / 2 ^ 8 from uN_shr i3 (k := 8) (by decide)]
  have g5 : uN i5 = (uN i4 + uN i4 / 65536) % 2 ^ 64 := by rw [h5, uN_add, show uN ((i4.toUInt64 >>> ((16 : Int32).toInt64.toUInt64 &&& Int64.toUInt64 63)).toInt64) = uN i4 / 2 ^ 16 from uN_shr i4 (k := 16) (by decide)]
  have g6 : uN i6 = (uN i5 + uN i5 / 4294967296) % 2 ^ 64 := by rw [h6, uN_add, show uN ((i5.toUInt64 >>> ((32 : Int32).toInt64.toUInt64 &&& Int64.toUInt64 63)).toInt64) = uN i5 / 2 ^ 32 from uN_shr i5 (k := 32) (by decide)]
  have e3 : ((B.map s1).map s2).map s3 = B.map (fun b => cnt (fun i => b.testBit i) 8) := by
    rw [map2, map2]
    apply List.map_congr_left
    intro b h
    exact (byte_fact b (hb b h)).2.2.2.2.2
  have fin : uN i6 % 256 = cnt (xb x) 64 := by
    have e0 : xb x = fun s => (uN x).testBit s := funext (xb_testBit x)
    rw [e3, hB] at f3
    have q := fin_sum (y := uN i3) (y4 := uN i4) (y5 := uN i5) (y6 := uN i6) (cnt_le _ 8) (cnt_le _ 8) (cnt_le _ 8) (cnt_le _ 8) (cnt_le _ 8) (cnt_le _ 8) (cnt_le _ 8) (cnt_le _ 8) f3 g4 g5 g6
    rw [q, e0, cnt8]
    rw [byte_bit, byte_bit, byte_bit, byte_bit, byte_bit, byte_bit, byte_bit, byte_bit]
    simp
  have hc := cnt_le (xb x) 64
  rw [pk_and _ (m := 127) 7 (by decide)]
  have e7 : i6.toInt32.toBitVec.toNat = uN i6 % 2 ^ 32 := by
    show (BitVec.signExtend 32 i6.toBitVec).toNat = _
    rw [BitVec.signExtend_eq_setWidth_of_le _ (by decide), BitVec.toNat_setWidth]; rfl
  rw [e7]
  congr 2
  omega
theorem X0_size_eq {cLo cHi : Nat → Int64} {i : Nat} : X0_size cLo cHi i = some (nI (cnt (mbs (cLo i) (cHi i)) 128)) := by
  unfold X0_size
  rw [J13_eq, J13_eq, bd1_s, bd1_s, nI_add, show 128 = 64 + 64 from rfl, cnt_add (mbs (cLo i) (cHi i)) 64 64]
  rw [cnt_congr (c := mbs (cLo i) (cHi i)) (d := xb (cLo i)) (n := 64) (fun k hk => by unfold mbs; rw [if_pos hk]), cnt_congr (c := fun k => mbs (cLo i) (cHi i) (64 + k)) (d := xb (cHi i)) (n := 64) (fun k hk => by show mbs _ _ _ = _; unfold mbs; rw [if_neg (by omega), show 64 + k - 64 = k by omega])]
