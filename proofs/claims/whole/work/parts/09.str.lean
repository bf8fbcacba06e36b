
theorem fs_9 : Cond.fieldLink RJ0 9 RJ0 "value" "[B" ∈ TB := inTB 1738 (by decide +kernel) (by decide +kernel)
theorem fs_15 : Cond.fieldLink RJ0 15 RJ0 "coder" "B" ∈ TB := inTB 1739 (by decide +kernel) (by decide +kernel)
theorem J0_coder_ok {D : va_G} {cy : Nat → ClassId} {G : Nat → Nat} {ws : va_W} {k : Nat} (hk : k < 3) : MT yJ0_coder_7d493 cJ0_coder_7d493 1 (some .byte) 0 [.ref (G (10 + k))] D cy G ws ws (some (.int 0)) := by
  refine MT.go (own := RJ0) [(0, .ref (G (10 + k)))] (by decide) rfl (Nat.le_of_ble_eq_true rfl) rfl (fun p l e s m args below meth c A Q C hQ => ?_)
  refine gs_RJ0_38 C dJ0_coder_7d493_0 ?_
  refine jIfEq C 13 dJ0_coder_7d493_3 (by decide) (fun q => absurd q (by decide)) (fun _ => ?_)
  refine jAloadn C dJ0_coder_7d493_6 rfl 0 rfl ?_
  refine jOF C (C.2.2.2.2.2.2.1.2.2.2.2.1 k hk).2.1 fs_15 dJ0_coder_7d493_7 ?_
  refine jGoto C 14 dJ0_coder_7d493_10 (by decide) ?_
  exact jEndIZ C hQ rfl (by decide +kernel) dJ0_coder_7d493_14
theorem J0_isLatin1_ok {D : va_G} {cy : Nat → ClassId} {G : Nat → Nat} {ws : va_W} {k : Nat} (hk : k < 3) : MT yJ0_isLatin1_aae02 cJ0_isLatin1_aae02 1 (some .boolean) 0 [.ref (G (10 + k))] D cy G ws ws (some (.int 1)) := by
  refine MT.go (own := RJ0) [(0, .ref (G (10 + k)))] (by decide) rfl (Nat.le_of_ble_eq_true rfl) rfl (fun p l e s m args below meth c A Q C hQ => ?_)
  refine gs_RJ0_38 C dJ0_isLatin1_aae02_0 ?_
  refine jIfEq C 17 dJ0_isLatin1_aae02_3 (by decide) (fun q => absurd q (by decide)) (fun _ => ?_)
  refine jAloadn C dJ0_isLatin1_aae02_6 rfl 0 rfl ?_
  refine jOF C (C.2.2.2.2.2.2.1.2.2.2.2.1 k hk).2.1 fs_15 dJ0_isLatin1_aae02_7 ?_
  refine jIfNe C 17 dJ0_isLatin1_aae02_10 (by decide) (fun q => absurd rfl q) (fun _ => ?_)
  refine jIconst C (1 : Int32) dJ0_isLatin1_aae02_13 ki_1 ?_
  refine jGoto C 18 dJ0_isLatin1_aae02_14 (by decide) ?_
  exact jEndIZ C hQ rfl nar_z1 dJ0_isLatin1_aae02_18
noncomputable def stlen (k : Nat) : Option Int32 := some (Int32.ofNat (stN k) >>> ((0 : Int32) &&& 31))
theorem J0_length_ok {D : va_G} {cy : Nat → ClassId} {G : Nat → Nat} {ws : va_W} {k : Nat} {rr : Int32} (hk : k < 3) (hf : stlen k = some rr) : MT yJ0_length_8abf5 cJ0_length_8abf5 1 (some .int) 2 [.ref (G (10 + k))] D cy G ws ws (some (.int rr)) := by
  refine MT.go (own := RJ0) [(0, .ref (G (10 + k)))] (by decide) rfl (Nat.le_of_ble_eq_true rfl) rfl (fun p l e s m args below meth c A Q C hQ => ?_)
  unfold stlen at hf
  refine jAloadn C dJ0_length_8abf5_0 rfl 0 rfl ?_
  refine jOF C (C.2.2.2.2.2.2.1.2.2.2.2.1 k hk).2.2.1 fs_9 dJ0_length_8abf5_1 ?_
  refine jTlen C (C.2.2.2.2.2.2.1.2.2.2.2.1 k hk).2.2.2 dJ0_length_8abf5_4 ?_
  refine jAloadn C dJ0_length_8abf5_5 rfl 0 rfl ?_
  refine jVsI C (J0_coder_ok hk) vb_J0_coder_7d493 mk_RJ0_335 rfl (C.2.2.2.2.2.2.1.2.2.2.2.1 k hk).1 ⟨Nat.le_of_ble_eq_true rfl, Nat.le_of_ble_eq_true rfl⟩ rfl (Nat.le_of_ble_eq_true rfl) dJ0_length_8abf5_6 ?_
  refine jIshr C dJ0_length_8abf5_9 ?_
  cases hf
  exact jEndI C hQ rfl dJ0_length_8abf5_10
theorem J3_checkIndex_ok {D : va_G} {cy : Nat → ClassId} {G : Nat → Nat} {ws : va_W} {i n : Int32} {v : Value} (hv : v = .null ∨ ∃ t, v = .ref t) (h0 : ¬ i < 0) (h1 : i < n) : MT yJ3_checkIndex_8e157 cJ3_checkIndex_8e157 3 (some .int) 0 [.int i, .int n, v] D cy G ws ws (some (.int i)) := by
  rcases hv with rfl | ⟨t, rfl⟩
  · refine MT.go (own := RJ3) [(0, .int i), (1, .int n), (2, .null)] (by decide) rfl (Nat.le_of_ble_eq_true rfl) rfl (fun p l e s m args below meth c A Q C hQ => ?_)
    refine jIloadn C dJ3_checkIndex_8e157_0 rfl 0 rfl ?_
    refine jIfLt C 9 dJ3_checkIndex_8e157_1 (by decide) (fun q => absurd q h0) (fun _ => ?_)
    refine jIloadn C dJ3_checkIndex_8e157_4 rfl 0 rfl ?_
    refine jIloadn C dJ3_checkIndex_8e157_5 rfl 1 rfl ?_
    refine jCmpLt C 16 dJ3_checkIndex_8e157_6 (by decide) (fun _ => ?_) (fun q => absurd h1 q)
    refine jIloadn C dJ3_checkIndex_8e157_16 rfl 0 rfl ?_
    exact jEndI C hQ rfl dJ3_checkIndex_8e157_17
  · refine MT.go (own := RJ3) [(0, .int i), (1, .int n), (2, .ref t)] (by decide) rfl (Nat.le_of_ble_eq_true rfl) rfl (fun p l e s m args below meth c A Q C hQ => ?_)
    refine jIloadn C dJ3_checkIndex_8e157_0 rfl 0 rfl ?_
    refine jIfLt C 9 dJ3_checkIndex_8e157_1 (by decide) (fun q => absurd q h0) (fun _ => ?_)
    refine jIloadn C dJ3_checkIndex_8e157_4 rfl 0 rfl ?_
    refine jIloadn C dJ3_checkIndex_8e157_5 rfl 1 rfl ?_
    refine jCmpLt C 16 dJ3_checkIndex_8e157_6 (by decide) (fun _ => ?_) (fun q => absurd h1 q)
    refine jIloadn C dJ3_checkIndex_8e157_16 rfl 0 rfl ?_
    exact jEndI C hQ rfl dJ3_checkIndex_8e157_17
theorem J0_checkIndex_ok {D : va_G} {cy : Nat → ClassId} {G : Nat → Nat} {ws : va_W} {i n : Int32} (h0 : ¬ i < 0) (h1 : i < n) : MT yJ0_checkIndex_df160 cJ0_checkIndex_df160 2 none 1 [.int i, .int n] D cy G ws ws none := by
  refine MT.go (own := RJ0) [(0, .int i), (1, .int n)] (by decide) rfl (Nat.le_of_ble_eq_true rfl) rfl (fun p l e s m args below meth c A Q C hQ => ?_)
  refine jIloadn C dJ0_checkIndex_df160_0 rfl 0 rfl ?_
  refine jIloadn C dJ0_checkIndex_df160_1 rfl 1 rfl ?_
  rcases C.2.2.2.2.2.2.1.2.2.2.1.2 with hz | ⟨t, hz⟩
  · refine jGets C hz sk_RJ0_1053 dJ0_checkIndex_df160_2 ?_
    refine jSI C (J3_checkIndex_ok (Or.inl rfl) h0 h1) sb_J3_checkIndex_8e157 mk_RJ0_1059 rfl ⟨Nat.le_of_ble_eq_true rfl, Nat.le_of_ble_eq_true rfl⟩ rfl (Nat.le_of_ble_eq_true rfl) dJ0_checkIndex_df160_5 ?_
    refine jPop C dJ0_checkIndex_df160_8 rfl ?_
    exact jEndV C hQ rfl dJ0_checkIndex_df160_9
  · refine jGets C hz sk_RJ0_1053 dJ0_checkIndex_df160_2 ?_
    refine jSI C (J3_checkIndex_ok (Or.inr ⟨t, rfl⟩) h0 h1) sb_J3_checkIndex_8e157 mk_RJ0_1059 rfl ⟨Nat.le_of_ble_eq_true rfl, Nat.le_of_ble_eq_true rfl⟩ rfl (Nat.le_of_ble_eq_true rfl) dJ0_checkIndex_df160_5 ?_
    refine jPop C dJ0_checkIndex_df160_8 rfl ?_
    exact jEndV C hQ rfl dJ0_checkIndex_df160_9
theorem stN_lt : ∀ k, k < 3 → stN k < 8 := by decide +kernel
theorem vp_in_lt {i : Int32} {n : Nat} (h : vp_in i n) (hn : n < 2 ^ 31) : ¬ i < 0 ∧ i < Int32.ofNat n := by
  refine ⟨fun q => h (Or.inl q), ?_⟩
  obtain ⟨j, hj, rfl⟩ := vp_in_of h hn
  exact nI_lt hj hn
theorem J1_charAt_ok {D : va_G} {cy : Nat → ClassId} {G : Nat → Nat} {ws : va_W} {k : Nat} {i : Int32} (hk : k < 3) (hi : vp_in i (stN k)) : MT yJ1_charAt_3b067 cJ1_charAt_3b067 2 (some .char) 2 [.ref (G (20 + k)), .int i] D cy G ws ws (some (.int (((stB k i.toNatClampNeg) &&& (255 : Int32)).toUInt32 % 65536).toInt32)) := by
  refine MT.go (own := RJ1) [(0, .ref (G (20 + k))), (1, .int i)] (by decide) rfl (Nat.le_of_ble_eq_true rfl) rfl (fun p l e s m args below meth c A Q C hQ => ?_)
  have hlt := vp_in_lt hi (Nat.lt_trans (stN_lt k hk) (by decide))
  refine jIloadn C dJ1_charAt_3b067_0 rfl 1 rfl ?_
  refine jAloadn C dJ1_charAt_3b067_1 rfl 0 rfl ?_
  refine jTlen C (C.2.2.2.2.2.2.1.2.2.2.2.1 k hk).2.2.2 dJ1_charAt_3b067_2 ?_
  refine jSV C (J0_checkIndex_ok hlt.1 hlt.2) sb_J0_checkIndex_df160 mk_RJ1_9 rfl ⟨Nat.le_of_ble_eq_true rfl, Nat.le_of_ble_eq_true rfl⟩ rfl (Nat.le_of_ble_eq_true rfl) dJ1_charAt_3b067_3 ?_
  refine jAloadn C dJ1_charAt_3b067_6 rfl 0 rfl ?_
  refine jIloadn C dJ1_charAt_3b067_7 rfl 1 rfl ?_
  refine jTb C (C.2.2.2.2.2.2.1.2.2.2.2.1 k hk).2.2.2 hi dJ1_charAt_3b067_8 ?_
  refine jSipush C (255 : Int32) dJ1_charAt_3b067_9 ks_255 ?_
  refine jIand C dJ1_charAt_3b067_12 ?_
  refine jI2c C dJ1_charAt_3b067_13 ?_
  exact jEndIZ C hQ rfl (pk_nc _) dJ1_charAt_3b067_14
noncomputable def stch (k : Nat) (i : Int32) : Option Int32 := gin i (stN k) (some (((stB k i.toNatClampNeg) &&& (255 : Int32)).toUInt32 % 65536).toInt32)
theorem J0_charAt_ok {D : va_G} {cy : Nat → ClassId} {G : Nat → Nat} {ws : va_W} {k : Nat} {i rr : Int32} (hk : k < 3) (hf : stch k i = some rr) : MT yJ0_charAt_5068e cJ0_charAt_5068e 2 (some .char) 3 [.ref (G (10 + k)), .int i] D cy G ws ws (some (.int rr)) := by
  refine MT.go (own := RJ0) [(0, .ref (G (10 + k))), (1, .int i)] (by decide) rfl (Nat.le_of_ble_eq_true rfl) rfl (fun p l e s m args below meth c A Q C hQ => ?_)
  unfold stch at hf
  obtain ⟨hi, hf⟩ := gin_some hf
  cases hf
  refine jAloadn C dJ0_charAt_5068e_0 rfl 0 rfl ?_
  refine jVsI C (J0_isLatin1_ok hk) vb_J0_isLatin1_aae02 mk_RJ0_492 rfl (C.2.2.2.2.2.2.1.2.2.2.2.1 k hk).1 ⟨Nat.le_of_ble_eq_true rfl, Nat.le_of_ble_eq_true rfl⟩ rfl (Nat.le_of_ble_eq_true rfl) dJ0_charAt_5068e_1 ?_
  refine jIfEq C 16 dJ0_charAt_5068e_4 (by decide) (fun q => absurd q (by decide)) (fun _ => ?_)
  refine jAloadn C dJ0_charAt_5068e_7 rfl 0 rfl ?_
  refine jOF C (C.2.2.2.2.2.2.1.2.2.2.2.1 k hk).2.2.1 fs_9 dJ0_charAt_5068e_8 ?_
  refine jIloadn C dJ0_charAt_5068e_11 rfl 1 rfl ?_
  refine jSI C (J1_charAt_ok hk hi) sb_J1_charAt_3b067 mk_RJ0_495 rfl ⟨Nat.le_of_ble_eq_true rfl, Nat.le_of_ble_eq_true rfl⟩ rfl (Nat.le_of_ble_eq_true rfl) dJ0_charAt_5068e_12 ?_
  exact jEndIZ C hQ rfl (pk_nc _) dJ0_charAt_5068e_15
