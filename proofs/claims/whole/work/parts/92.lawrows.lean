section LR
variable {p : Program} {l : Launch} {e : Env} {R : Room} {s : State} {m : MethodId} {args : Array Value} {below : List Frame} {meth : Method} {c : Code} {cc : ByteArray} {nL K N : Nat} {own : String} {ret : Option FieldType} {D : va_G} {cy : Nat → ClassId} {G : Nat → Nat} {A : Nat → Prop} {Q : State → Prop} {ws : va_W} {pc : Nat} {lv : List (Nat × Value)} {st : List Value}
theorem kSld (C : Cx p l R s m args meth c cc nL own ret D cy G A) {b L : Nat} {xs : Nat → Int32} {i : Int32} (hX : va_X b L xs s s.heap) (hbl : b < s.heap.size) (hbA : ¬ A b) (hin : vp_in i L) (hd : decode cc pc = .ok (.iaload, 1)) (kk : JK p l e R s m args below meth c D A Q nL K N ws (pc + 1) lv (.int (xs i.toNatClampNeg) :: st)) : JK p l e R s m args below meth c D A Q nL K N ws pc lv (.int i :: .ref b :: st) := fun H locs ls hP hD hS hl => va_sld C.1 C.2.1 hX hbl hbA hS hin hd (kk H locs ls hP hD hS hl)
theorem kSlen (C : Cx p l R s m args meth c cc nL own ret D cy G A) {b L : Nat} {xs : Nat → Int32} (hX : va_X b L xs s s.heap) (hbl : b < s.heap.size) (hbA : ¬ A b) (hd : decode cc pc = .ok (.arraylength, 1)) (kk : JK p l e R s m args below meth c D A Q nL K N ws (pc + 1) lv (.int (Int32.ofNat L) :: st)) : JK p l e R s m args below meth c D A Q nL K N ws pc lv (.ref b :: st) := fun H locs ls hP hD hS hl => va_slen C.1 C.2.1 hX hbl hbA hS hd (kk H locs ls hP hD hS hl)
end LR
theorem sc_in {i k L : Nat} (hi : i + 6 ≤ L) (hL : L ≤ 3072) (hk : k < 6) : vp_in (nI i + nI k) L := by
  rw [nI_add]; exact vp_in_nI (by omega) (by omega)
theorem sc_in1 {i L : Nat} (hi : i + 6 ≤ L) (hL : L ≤ 3072) : vp_in (nI i + (1 : Int32)) L := sc_in (k := 1) hi hL (by omega)
theorem sc_in2 {i L : Nat} (hi : i + 6 ≤ L) (hL : L ≤ 3072) : vp_in (nI i + (2 : Int32)) L := sc_in (k := 2) hi hL (by omega)
theorem sc_in3 {i L : Nat} (hi : i + 6 ≤ L) (hL : L ≤ 3072) : vp_in (nI i + (3 : Int32)) L := sc_in (k := 3) hi hL (by omega)
theorem sc_in4 {i L : Nat} (hi : i + 6 ≤ L) (hL : L ≤ 3072) : vp_in (nI i + (4 : Int32)) L := sc_in (k := 4) hi hL (by omega)
theorem sc_in5 {i L : Nat} (hi : i + 6 ≤ L) (hL : L ≤ 3072) : vp_in (nI i + (5 : Int32)) L := sc_in (k := 5) hi hL (by omega)
theorem sc_in0 {i L : Nat} (hi : i + 6 ≤ L) (hL : L ≤ 3072) : vp_in (nI i) L := vp_in_nI (by omega) (by omega)
