/-! loops over a family's sets, with an accumulator and a scratch cell -/
theorem lfp4_ab {β : Type} {F : (Int32 → (Nat → Int32) → (Nat → Int64) → (Nat → Int64) → Option β) → Int32 → (Nat → Int32) → (Nat → Int64) → (Nat → Int64) → Option β} {cP : Nat → Int32} {V : Nat → Nat → Bool} (a b : Nat) (hab : a ≠ b) (G : Nat → Nat → Bool) (N : Nat) (Y : (Nat → Int32) → (Nat → Int64) → (Nat → Int64) → Option β) (h0 : V a = G 0)
    (hs : ∀ k, k < N → ∀ x g, ∃ x' g', ∀ r, F r (nI k) (va_up cP b x) (LO (va_up (va_up V a (G k)) b g)) (HI (va_up (va_up V a (G k)) b g)) = r (nI (k + 1)) (va_up cP b x') (LO (va_up (va_up V a (G (k + 1))) b g')) (HI (va_up (va_up V a (G (k + 1))) b g')))
    (he : ∀ x g, ∀ r, F r (nI N) (va_up cP b x) (LO (va_up (va_up V a (G N)) b g)) (HI (va_up (va_up V a (G N)) b g)) = Y (va_up cP b x) (LO (va_up (va_up V a (G N)) b g)) (HI (va_up (va_up V a (G N)) b g))) :
    ∃ x g, lfp4 F 0 cP (LO V) (HI V) = Y (va_up cP b x) (LO (va_up (va_up V a (G N)) b g)) (HI (va_up (va_up V a (G N)) b g)) := by
  have h : ∀ j, j ≤ N → ∃ x g, lfp4 F 0 cP (LO V) (HI V) = lfp4 F (nI j) (va_up cP b x) (LO (va_up (va_up V a (G j)) b g)) (HI (va_up (va_up V a (G j)) b g)) := by
    intro j
    induction j with
    | zero =>
      intro _
      refine ⟨cP b, V b, ?_⟩
      have e : va_up (va_up V a (G 0)) b (V b) = V := by rw [← h0, up_self, up_self]
      rw [up_self, e]; rfl
    | succ j ih =>
      intro hj
      obtain ⟨x, g, e⟩ := ih (by omega)
      obtain ⟨x', g', e'⟩ := hs j (by omega) x g
      exact ⟨x', g', e.trans (lfp4_step e')⟩
  obtain ⟨x, g, e⟩ := h N (Nat.le_refl N)
  exact ⟨x, g, e.trans (lfp4_done (he x g))⟩
theorem up_comm {α : Type} {V : Nat → α} {i j : Nat} {x y : α} (h : i ≠ j) : va_up (va_up V i x) j y = va_up (va_up V j y) i x := by
  funext k
  unfold va_up
  by_cases e1 : k = i
  · subst e1; simp [h]
  · by_cases e2 : k = j
    · subst e2; simp [Ne.symm h]
    · simp [e1, e2]
/-- f with another family for each of its sets -/
def accG (g : Nat → Bool) (T : Nat → Nat → Bool) (init : Nat → Bool) : Nat → Nat → Bool
  | 0 => init
  | k + 1 => if g k then fun s => accG g T init k s || T k s else accG g T init k
theorem accG_iff {g : Nat → Bool} {T : Nat → Nat → Bool} {init : Nat → Bool} {N s : Nat} : accG g T init N s = true ↔ init s = true ∨ ∃ t, t < N ∧ g t = true ∧ T t s = true := by
  induction N with
  | zero => exact ⟨(fun h => Or.inl h), (fun h => by rcases h with h | ⟨t, h, _⟩; · exact h
                                                     · omega)⟩
  | succ N ih =>
    cases hg : g N with
    | true =>
      simp only [accG, hg, if_true]
      rw [Bool.or_eq_true, ih]
      constructor
      · rintro ((h | ⟨t, h1, h2, h3⟩) | h)
        · exact Or.inl h
        · exact Or.inr ⟨t, by omega, h2, h3⟩
        · exact Or.inr ⟨N, by omega, hg, h⟩
      · rintro (h | ⟨t, h1, h2, h3⟩)
        · exact Or.inl (Or.inl h)
        · by_cases e : t = N
          · subst e; exact Or.inr h3
          · exact Or.inl (Or.inr ⟨t, by omega, h2, h3⟩)
    | false =>
      simp only [accG, hg]
      rw [if_neg (by decide), ih]
      constructor
      · rintro (h | ⟨t, h1, h2, h3⟩)
        · exact Or.inl h
        · exact Or.inr ⟨t, by omega, h2, h3⟩
      · rintro (h | ⟨t, h1, h2, h3⟩)
        · exact Or.inl h
        · have : t ≠ N := by rintro rfl; rw [hg] at h2; cases h2
          exact Or.inr ⟨t, by omega, h2, h3⟩
section
variable {cP : Nat → Int32} {V : Nat → Nat → Bool} {j l n : Nat}
theorem joinsAcross_V (hj : j < 3) (hl : l < 3) (hP : cP j = nI n) (hPl : cP l = nI n) (hn : n ≤ 7) : ∃ x g, X8_joinsAcross cP (LO V) (HI V) j l = some (va_up (va_up cP 3 (nI n)) 4 x, LO (va_up (va_up V 3 (accG (V l) (fun t => wnW t n (V j)) (fun _ => false) (2 ^ n))) 4 g), HI (va_up (va_up V 3 (accG (V l) (fun t => wnW t n (V j)) (fun _ => false) (2 ^ n))) 4 g)) := by
  have hq := pow_le7 hn
  unfold X8_joinsAcross
  rw [clear_V, bd3_s, hP]
  obtain ⟨x, g, e⟩ := lfp4_ab (F := X8_joinsAcross_h13 l j) (cP := va_up cP 3 (nI n)) (V := va_up V 3 (fun _ => false)) 3 4 (by decide) (accG (V l) (fun t => wnW t n (V j)) (fun _ => false)) (2 ^ n) (fun a b c => some (a, b, c)) (by rw [up_at]; rfl) (fun k hk x g => by
    have hsp : X0_span (va_up (va_up cP 3 (nI n)) 4 x) l = some (nI (2 ^ n)) := X0_span_eq (by rw [up_ne (by omega), up_ne (by omega)]; exact hPl) hn
    cases hb : V l k with
    | false =>
      refine ⟨x, g, fun r => ?_⟩
      unfold X8_joinsAcross_h13
      rw [hsp, bd1_s, if_neg (nI_ge hk (by omega)), holds_V (by omega), bd1_s, up_ne (by omega), up_ne (by omega), up_ne (by omega), hb, bf0, nI_1]
      simp only [accG, hb]; rfl
    | true =>
      refine ⟨nI n, wnW k n (V j), fun r => ?_⟩
      unfold X8_joinsAcross_h13
      rw [hsp, bd1_s, if_neg (nI_ge hk (by omega)), holds_V (by omega), bd1_s, up_ne (by omega), up_ne (by omega), up_ne (by omega), hb, bt0, nI_1, become_V, bd3_s, widenBy_V (n := n) (by rw [up_at, up_ne (by omega), up_ne (by omega)]; exact hP) hn (by omega), bd2_s, join_V, bd2_s]
      simp only [up_at, bx_uu, up_ne (show j ≠ 4 by omega), up_ne (show j ≠ 3 by omega), up_ne (show (3 : Nat) ≠ 4 by decide), up_comm (show (4 : Nat) ≠ 3 by decide), hP, accG, hb, if_true]) (fun x g r => by
    unfold X8_joinsAcross_h13
    rw [X0_span_eq (n := n) (by rw [up_ne (by omega), up_ne (by omega)]; exact hPl) hn, bd1_s, if_pos (nI_le (Nat.le_refl _) (by omega))])
  simp only [bx_uu] at e
  exact ⟨x, g, e⟩
end
theorem cl_fact : ∀ t, t < 128 → ∀ p, p < 7 → (nI t &&& (nI (2 ^ p) ^^^ (-1 : Int32))) = nI (clrB p t) := by decide +kernel
theorem clr_lt {p t n : Nat} (h : t < 2 ^ n) : clrB p t < 2 ^ n := by
  refine lt7 fun q hq => ?_
  rw [clr_bit]
  by_cases e : q = p
  · rw [if_pos e]
  · rw [if_neg e]; exact Nat.testBit_lt_two_pow (Nat.lt_of_lt_of_le h (Nat.pow_le_pow_right (by decide : 2 > 0) hq))
theorem flip_lt {p t n : Nat} (hp : p < n) (h : t < 2 ^ n) : t ^^^ 2 ^ p < 2 ^ n := xlt h (Nat.pow_lt_pow_right (by decide) hp)
section SIM
variable {cP : Nat → Int32} {cLo : Nat → Int64} {cHi : Nat → Int64} {cpl : Nat → Int32} {ctb : Nat → Int32} {ctl : Int32} {ctf : Int32} {ctp : Int32} {ctk : Int32} {cts : Int32} {cth : Int32} {cob : Nat → Int32} {col : Int32} {cso : Nat → Int32} {cha : Int32} {chs : Int32} {cbe : Int32} {ctr : Int32} {cgl : Nat → Int64} {cgh : Nat → Int64} {cll : Nat → Int64} {clh : Nat → Int64} {cta : Nat → Int32} {cme : Nat → Int32} {cps : Int32} {cwh : Nat → Int32} {cal : Nat → Int64} {cah : Nat → Int64} {mthr : Int32} {mfrp : Int32} {mact : Int32} {mtpd : Int32} {msiz : Int32} {matx : Int32} {mfrm : Int32} {mtok : Int32} {mval : Int32} {mfk : Int32} {mfpl : Int32} {mbem : Int32} {mtrs : Int32} {mtrl : Int32} {mrom : Int32} {mtom : Int32} {mnow : Nat → Int32} {mfre : Nat → Int32} {mkep : Nat → Int32} {mtap : Nat → Int32} {mlef : Nat → Int32} {mtak : Nat → Int32} {mbes : Nat → Int32} {mrow : Nat → Int32} {mint : Nat → Int32} {mrnd : Nat → Int32} {mplo : Nat → Int32} {mhio : Nat → Int32} {mtox : Nat → Int32} {mtol : Nat → Int32}
theorem sim_part {p1 p2 p3 p4 : Int32} (hr : Rel cP cLo cHi ctb ctl ctf ctp cob col cso cha chs mact mtpd mfk mfpl mtom mnow mkep mtap mtol) : ∃ (r : Int32) (ocP : Nat → Int32) (ocLo : Nat → Int64) (ocHi : Nat → Int64) (ocso : Nat → Int32) (ocha : Int32) (ochs : Int32) (omfrp : Int32) (omact : Int32) (omnow : Nat → Int32) (omfre : Nat → Int32) (omkep : Nat → Int32), X8_part cP cLo cHi cso cha chs p1 p2 p3 p4 = some (r, ocP, ocLo, ocHi, ocso, ocha, ochs) ∧ X9_part mfrp mact mnow mfre mkep p1 p2 p3 p4 = some (r, omfrp, omact, omnow, omfre, omkep) ∧ Rel ocP ocLo ocHi ctb ctl ctf ctp cob col ocso ocha ochs omact mtpd mfk mfpl mtom omnow omkep mtap mtol := by
  obtain ⟨V, rfl, rfl, hV⟩ := toV cLo cHi
  unfold X8_part X9_part
  rcases famcase hV hr p1 with ⟨j, n, hj, rfl, h0, hn, hi, hP, hM, e1, e2⟩ | ⟨e1, e2⟩
  · rw [e1, bdo_s, isPoint9 hj hM hn h0, bd1_s, X0_knowsPoint_eq hP hn, bd1_s]
    by_cases q : 0 ≤ p2.toInt ∧ p2.toInt < (n : Int)
    · obtain ⟨a, ha1, rfl⟩ := point_of hn q
      rw [decide_eq_true q, bt0, bt0, X9_in_n (a := 0) (b := 1) (by decide) (by decide) rfl rfl, bd1_s]
      rcases in_cases (p := p3) 0 1 (by decide) with ⟨k, _, hk, rfl⟩ | h
      · rw [if_neg (nI_pos (by omega)), if_neg (show ¬ (1 : Int32) < nI k from nI_nlt (a := 1) hk (by decide)), nI_toInt (by omega), decide_eq_true (by omega), bt0]
        rcases slot_cases p4 with ⟨j', hj', rfl⟩ | hp
        · rw [X8_isSlot_in hj', bd1_s, i10, X9_isSlot_in hj', bd1_s, i10, points9 hj hM, bd1_s, X9_clearsFresh_eq, bd2_s]
          obtain ⟨fr, hfr, efr⟩ := lfp2_mark (F := X9_part_h42 (nI n) mact mnow mkep (nI j') (nI j) (nI a) (nI k)) (fun t => V j t && (t.testBit a == (k == 0))) (fun t => clrB a t) 128 (fun mfre => bd4 (X9_comes (nI n) mact mnow mfre mkep (nI j')) (fun q20 mact_21 mnow_22 mkep_23 => some (q20, nI n, mact_21, mnow_22, mfre, mkep_23))) (FR_clear mfre) (fun t ht x r => by
            have hc : clrB a t < 128 := clr_lt (n := 7) ht
            unfold X9_part_h42 X9_part_j75
            rw [if_neg (inn128 ht), isIn9 hj hM ht, bd1_s, ib0, X9_hasBit_eq ht (by omega), bd1_s, shl1 _ (by omega), cl_fact t ht a (by omega), gin_nI hc (by decide), nI_clamp (by omega), nI_1]
            rcases (show k = 0 ∨ k = 1 by omega) with rfl | rfl
            · rw [if_pos (show nI 0 = (0 : Int32) from rfl)]
              cases V j t <;> cases t.testBit a <;> rfl
            · rw [if_neg (show ¬ nI 1 = (0 : Int32) by decide)]
              cases V j t <;> cases t.testBit a <;> rfl) (fun x r => by
            unfold X9_part_h42
            rw [if_pos i128])
          rw [efr]
          have hokf : okF (n, mkG (fun t => V j t && (t.testBit a == (k == 0))) (fun t => clrB a t) 128) := okF_mk hn h0 fun t ht => by
            obtain ⟨u, _, h1, h2⟩ := mkG_iff.mp ht
            rw [Bool.and_eq_true] at h1
            rw [← h2]; exact clr_lt (hi u h1.1)
          rcases (show k = 0 ∨ k = 1 by omega) with rfl | rfl
          · rw [if_pos (show nI 0 = (0 : Int32) from rfl), clear_V, bd3_s, joinLink_V (by omega), bd2_s]
            simp only [up_at, bx_uu, up_ne (show j ≠ 3 by omega)]
            obtain ⟨oP, oLo, oHi, so, ha, hz, act, now, kep, c1, c2, c3⟩ := comes_sim hr (oP := va_up cP 3 (cP j)) (V := va_up V 3 (fun s => false || lkF a (V j) s)) (w := 3) (m := fr) ((Keeps.rfl'.up 3 (by omega) _).upP 3 (by omega) _) (by omega) hj' (by rw [up_at]; exact hP) (fun t ht => by
              rw [up_at]
              apply Bool.eq_iff_iff.mpr
              rw [mkG_iff, Bool.false_or]
              unfold lkF
              rw [Bool.and_eq_true, Bool.not_eq_true']
              constructor
              · rintro ⟨h1, h2⟩
                refine ⟨t ^^^ 2 ^ a, hi.to hn _ h2, ?_, ct_fact2.mpr ⟨h1, Or.inr rfl⟩⟩
                rw [h2, flip_eq, h1]; rfl
              · rintro ⟨u, _, h1, h2⟩
                rw [Bool.and_eq_true, beq_iff_eq] at h1
                obtain ⟨h3, rfl | rfl⟩ := ct_fact2.mp h2
                · rw [h3] at h1; exact absurd h1.2 (by decide)
                · exact ⟨h3, h1.1⟩) hokf hfr
            rw [c1, bd7_s, c2, bd4_s]
            exact ⟨_, _, _, _, _, _, _, _, _, _, _, _, rfl, rfl, c3⟩
          · rw [if_neg (show ¬ nI 1 = (0 : Int32) by decide), become_V, bd3_s, keepLacking_V (by omega), bd2_s]
            simp only [up_at, bx_uu]
            obtain ⟨oP, oLo, oHi, so, ha, hz, act, now, kep, c1, c2, c3⟩ := comes_sim hr (oP := va_up cP 3 (cP j)) (V := va_up V 3 (fun s => V j s && !s.testBit a)) (w := 3) (m := fr) ((Keeps.rfl'.up 3 (by omega) _).upP 3 (by omega) _) (by omega) hj' (by rw [up_at]; exact hP) (fun t ht => by
              rw [up_at]
              apply Bool.eq_iff_iff.mpr
              rw [mkG_iff, Bool.and_eq_true, Bool.not_eq_true']
              constructor
              · rintro ⟨h1, h2⟩
                refine ⟨t, ht, ?_, ct_fact2.mpr ⟨h2, Or.inl rfl⟩⟩
                rw [h1, h2]; rfl
              · rintro ⟨u, _, h1, h2⟩
                rw [Bool.and_eq_true, beq_iff_eq] at h1
                obtain ⟨h3, rfl | rfl⟩ := ct_fact2.mp h2
                · exact ⟨h1.1, h3⟩
                · rw [flip_eq, h3] at h1; exact absurd h1.2 (by decide)) hokf hfr
            rw [c1, bd7_s, c2, bd4_s]
            exact ⟨_, _, _, _, _, _, _, _, _, _, _, _, rfl, rfl, c3⟩
        · rw [X8_isSlot_out hp, bd1_s, i00, X9_isSlot_out hp, bd1_s, i00]
          exact ⟨_, _, _, _, _, _, _, _, _, _, _, _, rfl, rfl, hr⟩
      · rw [decide_eq_false h, bf0]
        exact ⟨-2, _, _, _, _, _, _, _, _, _, _, _, outB h rfl rfl, rfl, hr⟩
    · rw [decide_eq_false q, bf0, bf0]
      exact ⟨_, _, _, _, _, _, _, _, _, _, _, _, rfl, rfl, hr⟩
  · rw [e1, bdo_n, X9_isPoint_out e2, bd1_s, i00]
    exact ⟨_, _, _, _, _, _, _, _, _, _, _, _, rfl, rfl, hr⟩
theorem jointF (k : Nat) (f g : Nat → Bool) {m : Nat → Int32} (hj : True) : True := trivial
def jop (k : Nat) (a b : Bool) : Bool := if k = 0 then a || b else if k = 1 then a && b else a && !b
theorem sim_joint {p1 p2 p3 p4 : Int32} (hr : Rel cP cLo cHi ctb ctl ctf ctp cob col cso cha chs mact mtpd mfk mfpl mtom mnow mkep mtap mtol) : ∃ (r : Int32) (ocP : Nat → Int32) (ocLo : Nat → Int64) (ocHi : Nat → Int64) (ocso : Nat → Int32) (ocha : Int32) (ochs : Int32) (omfrp : Int32) (omact : Int32) (omnow : Nat → Int32) (omfre : Nat → Int32) (omkep : Nat → Int32), X8_joint cP cLo cHi cso cha chs p1 p2 p3 p4 = some (r, ocP, ocLo, ocHi, ocso, ocha, ochs) ∧ X9_joint mfrp mact mnow mfre mkep p1 p2 p3 p4 = some (r, omfrp, omact, omnow, omfre, omkep) ∧ Rel ocP ocLo ocHi ctb ctl ctf ctp cob col ocso ocha ochs omact mtpd mfk mfpl mtom omnow omkep mtap mtol := by
  obtain ⟨V, rfl, rfl, hV⟩ := toV cLo cHi
  unfold X8_joint X9_joint
  rcases famcase hV hr p1 with ⟨j, n, hj, rfl, h0, hn, hi, hP, hM, e1, e2⟩ | ⟨e1, e2⟩
  · rcases famcase hV hr p2 with ⟨l, n', hl, rfl, h0', hn', hi', hP', hM', e1', e2'⟩ | ⟨e1', e2'⟩
    · have hq := pow_le7 hn
      rw [e1, bdo_s, e1', bdo_s, e2, bd1_s, i10, e2', bd1_s, i10, X9_in_n (a := 0) (b := 3) (by decide) (by decide) rfl rfl, bd1_s]
      rcases in_cases (p := p3) 0 3 (by decide) with ⟨k, _, hk, rfl⟩ | h
      · rw [if_neg (nI_pos (by omega)), if_neg (show ¬ (3 : Int32) < nI k from nI_nlt (a := 3) hk (by decide)), nI_toInt (by omega), decide_eq_true (by omega), bt0]
        rcases slot_cases p4 with ⟨j', hj', rfl⟩ | hp
        · rw [X8_isSlot_in hj', bd1_s, i10, X9_isSlot_in hj', bd1_s, i10, points9 hj hM, bd1_s, points9 hl hM', bd1_s, hP, hP']
          by_cases en : n = n'
          · subst en
            rw [if_pos rfl, if_pos rfl, bd1_s, X9_clearsFresh_eq, bd2_s, become_V, bd3_s]
            -- the reference's first loop
            have first : ∃ fr, FR fr (if k < 3 then fun s => jop k (V j s) (V l s) else fun _ => false) ∧ lfp2 (X9_joint_h67 (nI n) mact mnow mkep (nI j') (nI k) (nI j) (nI l)) 0 (fillA mfre 0 (fun _ => 0) 128) = lfp2 (X9_joint_h174 (nI n) mact mnow mkep (nI j') (nI k) (nI j) (nI l)) 0 fr := by
              obtain ⟨fr, h1, h2⟩ := lfp2_fresh (F := X9_joint_h67 (nI n) mact mnow mkep (nI j') (nI k) (nI j) (nI l)) (fun t s => if k < 3 ∧ s < t then jop k (V j s) (V l s) else false) 128 (fun fr => lfp2 (X9_joint_h174 (nI n) mact mnow mkep (nI j') (nI k) (nI j) (nI l)) 0 fr) (m0 := fillA mfre 0 (fun _ => 0) 128) ((FR_clear mfre).congr fun s _ => by rw [if_neg (by omega)]) (fun t ht m hm => by
                by_cases hk3 : k < 3
                · refine ⟨upd m t (b01 (jop k (V j t) (V l t))), (hm.set t _).congr (fun s _ => ?_), fun r => ?_⟩
                  · by_cases e : s = t
                    · subst e; rw [if_pos rfl, if_pos (by omega)]
                    · rw [if_neg e]
                      by_cases q : s < t
                      · rw [if_pos (by omega), if_pos (by omega)]
                      · rw [if_neg (by omega), if_neg (by omega)]
                  · unfold X9_joint_h67
                    rw [if_neg (inn128 ht), isIn9 hj hM ht, bd1_s, isIn9 hl hM' ht, bd1_s, if_neg (show ¬ (3 : Int32) ≤ nI k from nI_ge (b := 3) hk3 (by decide)), gin_nI ht (by decide), gin_nI ht (by decide), nI_clamp (by omega), nI_1, vnz0, vnz1]
                    rcases (show k = 0 ∨ k = 1 ∨ k = 2 by omega) with rfl | rfl | rfl
                    · rw [if_pos (show nI 0 = (0 : Int32) from rfl)]
                      cases V j t <;> cases V l t <;> rfl
                    · rw [if_neg (show ¬ nI 1 = (0 : Int32) by decide), if_pos (show nI 1 = (1 : Int32) from rfl)]
                      cases V j t <;> cases V l t <;> rfl
                    · rw [if_neg (show ¬ nI 2 = (0 : Int32) by decide), if_neg (show ¬ nI 2 = (1 : Int32) by decide)]
                      cases V j t <;> cases V l t <;> rfl
                · refine ⟨m, hm.congr (fun s _ => by rw [if_neg (by omega), if_neg (by omega)]), fun r => ?_⟩
                  unfold X9_joint_h67
                  rw [if_neg (inn128 ht), isIn9 hj hM ht, bd1_s, isIn9 hl hM' ht, bd1_s, if_pos (show (3 : Int32) ≤ nI k from nI_le (a := 3) (by omega) (by omega)), nI_1]) (fun m r => by
                unfold X9_joint_h67
                rw [if_pos i128])
              refine ⟨fr, h1.congr (fun s hs => ?_), h2⟩
              by_cases hk3 : k < 3
              · rw [if_pos hk3, if_pos ⟨hk3, hs⟩]
              · rw [if_neg hk3, if_neg (by omega)]
            obtain ⟨fr, hfr, efr⟩ := first
            rw [efr]
            have hok : ∀ f : Nat → Bool, (∀ t, f t = true → V j t = true ∨ V l t = true) → okF (n, f) := fun f hf => okF_mk hn h0 fun t ht => by
              rcases hf t ht with h | h
              · exact hi t h
              · exact hi' t h
            have stop : k < 3 → lfp2 (X9_joint_h174 (nI n) mact mnow mkep (nI j') (nI k) (nI j) (nI l)) 0 fr = bd4 (X9_comes (nI n) mact mnow fr mkep (nI j')) (fun q39 mact_40 mnow_41 mkep_42 => some (q39, nI n, mact_40, mnow_41, fr, mkep_42)) := fun hk3 => lfp2_done (fun r => by
              unfold X9_joint_h174
              rw [if_neg (by decide), if_neg (show ¬ nI k = (3 : Int32) from fun q => by have := (nI_eq (b := 3) (by omega) (by decide)).mp q; omega)])
            rcases (show k = 0 ∨ k = 1 ∨ k = 2 ∨ k = 3 by omega) with rfl | rfl | rfl | rfl
            · rw [stop (by decide), if_pos (show nI 0 = (0 : Int32) from rfl), join_V, bd2_s]
              simp only [up_at, bx_uu, up_ne (show l ≠ 3 by omega)]
              rw [if_pos (by decide)] at hfr
              obtain ⟨oP, oLo, oHi, so, ha, hz, act, now, kep, c1, c2, c3⟩ := comes_sim hr (oP := va_up cP 3 (cP j)) (V := va_up V 3 (fun s => V j s || V l s)) (w := 3) (m := fr) ((Keeps.rfl'.up 3 (by omega) _).upP 3 (by omega) _) (by omega) hj' (by rw [up_at]; exact hP) (fun t ht => by rw [up_at]; rfl) (hok _ fun t ht => by
                have : (V j t || V l t) = true := ht
                rwa [Bool.or_eq_true] at this) hfr
              rw [c1, bd7_s, c2, bd4_s]
              exact ⟨_, _, _, _, _, _, _, _, _, _, _, _, rfl, rfl, c3⟩
            · rw [stop (by decide), if_neg (show ¬ nI 1 = (0 : Int32) by decide), if_pos (show nI 1 = (1 : Int32) from rfl), keep_V, bd2_s]
              simp only [up_at, bx_uu, up_ne (show l ≠ 3 by omega)]
              rw [if_pos (by decide)] at hfr
              obtain ⟨oP, oLo, oHi, so, ha, hz, act, now, kep, c1, c2, c3⟩ := comes_sim hr (oP := va_up cP 3 (cP j)) (V := va_up V 3 (fun s => V j s && V l s)) (w := 3) (m := fr) ((Keeps.rfl'.up 3 (by omega) _).upP 3 (by omega) _) (by omega) hj' (by rw [up_at]; exact hP) (fun t ht => by rw [up_at]; rfl) (hok _ fun t ht => by
                have : (V j t && V l t) = true := ht
                rw [Bool.and_eq_true] at this
                exact Or.inl this.1) hfr
              rw [c1, bd7_s, c2, bd4_s]
              exact ⟨_, _, _, _, _, _, _, _, _, _, _, _, rfl, rfl, c3⟩
            · rw [stop (by decide), if_neg (show ¬ nI 2 = (0 : Int32) by decide), if_neg (show ¬ nI 2 = (1 : Int32) by decide), if_pos (show nI 2 = (2 : Int32) from rfl), lose_V, bd2_s]
              simp only [up_at, bx_uu, up_ne (show l ≠ 3 by omega)]
              rw [if_pos (by decide)] at hfr
              obtain ⟨oP, oLo, oHi, so, ha, hz, act, now, kep, c1, c2, c3⟩ := comes_sim hr (oP := va_up cP 3 (cP j)) (V := va_up V 3 (fun s => V j s && !V l s)) (w := 3) (m := fr) ((Keeps.rfl'.up 3 (by omega) _).upP 3 (by omega) _) (by omega) hj' (by rw [up_at]; exact hP) (fun t ht => by rw [up_at]; rfl) (hok _ fun t ht => by
                have : (V j t && !V l t) = true := ht
                rw [Bool.and_eq_true] at this
                exact Or.inl this.1) hfr
              rw [c1, bd7_s, c2, bd4_s]
              exact ⟨_, _, _, _, _, _, _, _, _, _, _, _, rfl, rfl, c3⟩
            · rw [if_neg (show ¬ nI 3 = (0 : Int32) by decide), if_neg (show ¬ nI 3 = (1 : Int32) by decide), if_neg (show ¬ nI 3 = (2 : Int32) by decide)]
              rw [if_neg (by decide)] at hfr
              obtain ⟨x, g, ej⟩ := joinsAcross_V (cP := va_up cP 3 (cP j)) (V := va_up V 3 (V j)) (n := n) hj hl (by rw [up_ne (by omega)]; exact hP) (by rw [up_ne (by omega)]; exact hP') hn
              rw [ej, bd3_s]
              simp only [bx_uu, up_ne (show l ≠ 3 by omega), up_ne (show j ≠ 3 by omega)]
              obtain ⟨fr2, h1, h2⟩ := lfp2_fresh (F := X9_joint_h174 (nI n) mact mnow mkep (nI j') (nI 3) (nI j) (nI l)) (fun k => accG (V j) (fun u => mkG (V l) (fun t => u ||| t) 128) (fun _ => false) k) 128 (fun fr => bd4 (X9_comes (nI n) mact mnow fr mkep (nI j')) (fun q33 mact_34 mnow_35 mkep_36 => some (q33, nI n, mact_34, mnow_35, fr, mkep_36))) (m0 := fr) hfr (fun u hu m hm => by
                cases hb : V j u with
                | false =>
                  refine ⟨m, hm.congr (fun s _ => by simp only [accG, hb]; rfl), fun r => ?_⟩
                  unfold X9_joint_h174
                  rw [if_neg (inn128 hu), if_pos (by decide)]
                  have := lfp2_for (F := X9_joint_h190 r (nI u) mnow (nI j) (nI l)) (y := r (nI (u + 1)) m) 128 (fun k => nI k) (fun _ => m) (fun k hk r2 => by
                    unfold X9_joint_h190
                    rw [if_neg (inn128 hk), isIn9 hj hM hu, bd1_s, hb, bf0, nI_1]) (fun r2 => by
                    unfold X9_joint_h190
                    rw [if_pos i128, nI_1])
                  exact this
                | true =>
                  have inner : ∃ m', FR m' (accG (V j) (fun u => mkG (V l) (fun t => u ||| t) 128) (fun _ => false) (u + 1)) ∧ ∀ r, lfp2 (X9_joint_h190 r (nI u) mnow (nI j) (nI l)) 0 m = r (nI (u + 1)) m' := by
                    have h : ∀ k, k ≤ 128 → ∃ m', FR m' (fun s => accG (V j) (fun u => mkG (V l) (fun t => u ||| t) 128) (fun _ => false) u s || mkG (V l) (fun t => u ||| t) k s) ∧ ∀ r, lfp2 (X9_joint_h190 r (nI u) mnow (nI j) (nI l)) 0 m = lfp2 (X9_joint_h190 r (nI u) mnow (nI j) (nI l)) (nI k) m' := by
                      intro k
                      induction k with
                      | zero => intro _; exact ⟨m, hm.congr (fun s _ => by show _ = (_ || false); rw [Bool.or_false]), fun r => rfl⟩
                      | succ k ih =>
                        intro hk
                        obtain ⟨m', g1, g2⟩ := ih (by omega)
                        have hor : u ||| k < 128 := or_128 hu (by omega)
                        cases hc : V l k with
                        | false =>
                          refine ⟨m', g1.congr (fun s _ => ?_), fun r => (g2 r).trans (lfp2_step (fun r2 => ?_))⟩
                          · show _ = (_ || (mkG (V l) (fun t => u ||| t) k s || (V l k && s == u ||| k)))
                            rw [hc, Bool.false_and, Bool.or_false]
                          · unfold X9_joint_h190
                            rw [if_neg (inn128 (by omega)), isIn9 hj hM hu, bd1_s, hb, bt0, isIn9 hl hM' (by omega), bd1_s, hc, bf0, nI_1]
                        | true =>
                          refine ⟨_, (g1.set1 (u ||| k)).congr (fun s _ => ?_), fun r => (g2 r).trans (lfp2_step (fun r2 => ?_))⟩
                          · show ((_ || _) || s == u ||| k) = (_ || (mkG (V l) (fun t => u ||| t) k s || (V l k && s == u ||| k)))
                            rw [hc, Bool.true_and, Bool.or_assoc]
                          · unfold X9_joint_h190
                            rw [if_neg (inn128 (by omega)), isIn9 hj hM hu, bd1_s, hb, bt0, isIn9 hl hM' (by omega), bd1_s, hc, bt0, lor_nI', gin_nI hor (by decide), nI_clamp (by omega), nI_1]
                    obtain ⟨m', g1, g2⟩ := h 128 (Nat.le_refl _)
                    refine ⟨m', g1.congr (fun s _ => by simp only [accG, hb, if_true]), fun r => (g2 r).trans (lfp2_done (fun r2 => ?_))⟩
                    unfold X9_joint_h190
                    rw [if_pos i128, nI_1]
                  obtain ⟨m', g1, g2⟩ := inner
                  refine ⟨m', g1, fun r => ?_⟩
                  unfold X9_joint_h174
                  rw [if_neg (inn128 hu), if_pos (by decide)]
                  exact g2 r) (fun m r => by
                unfold X9_joint_h174
                rw [if_pos i128])
              rw [h2]
              have heq : ∀ s, s < 128 → accG (V l) (fun t => wnW t n (V j)) (fun _ => false) (2 ^ n) s = accG (V j) (fun u => mkG (V l) (fun t => u ||| t) 128) (fun _ => false) 128 s := fun s hs => Bool.eq_iff_iff.mpr (by
                rw [accG_iff, accG_iff]
                constructor
                · rintro (h | ⟨t, h1, h2, h3⟩)
                  · cases h
                  · obtain ⟨u, h4, h5⟩ := (wn_iff hn hi h1 hs).mp h3
                    exact Or.inr ⟨u, hi.to hn u h4, h4, mkG_iff.mpr ⟨t, by omega, h2, h5⟩⟩
                · rintro (h | ⟨u, h1, h2, h3⟩)
                  · cases h
                  · obtain ⟨t, _, h4, h5⟩ := mkG_iff.mp h3
                    exact Or.inr ⟨t, hi' t h4, h4, (wn_iff hn hi (hi' t h4) hs).mpr ⟨u, h2, h5⟩⟩)
              obtain ⟨oP, oLo, oHi, so, ha, hz, act, now, kep, c1, c2, c3⟩ := comes_sim hr (oP := va_up (va_up cP 3 (nI n)) 4 x) (V := va_up (va_up V 3 (accG (V l) (fun t => wnW t n (V j)) (fun _ => false) (2 ^ n))) 4 g) (w := 3) (n := n) (f := accG (V j) (fun u => mkG (V l) (fun t => u ||| t) 128) (fun _ => false) 128) (m := fr2) ((((Keeps.rfl'.up 3 (by omega) _).up 4 (by omega) _).upP 3 (by omega) _).upP 4 (by omega) _) (by omega) hj' (by rw [up_ne (by decide), up_at]) (fun t ht => by rw [up_ne (by decide), up_at]; exact heq t ht) (okF_mk hn h0 fun t ht => by
                rcases accG_iff.mp ht with h | ⟨u, h1, h2, h3⟩
                · cases h
                · obtain ⟨t', _, h4, h5⟩ := mkG_iff.mp h3
                  rw [← h5]; exact Nat.or_lt_two_pow (hi u h2) (hi' t' h4)) h1
              rw [c1, bd7_s, c2, bd4_s]
              exact ⟨_, _, _, _, _, _, _, _, _, _, _, _, rfl, rfl, c3⟩
          · rw [if_neg (fun q => en ((nI_eq (by omega) (by omega)).mp q)), if_neg (fun q => en ((nI_eq (by omega) (by omega)).mp q))]
            exact ⟨_, _, _, _, _, _, _, _, _, _, _, _, rfl, rfl, hr⟩
        · rw [X8_isSlot_out hp, bd1_s, i00, X9_isSlot_out hp, bd1_s, i00]
          exact ⟨_, _, _, _, _, _, _, _, _, _, _, _, rfl, rfl, hr⟩
      · rw [decide_eq_false h, bf0]
        exact ⟨-2, _, _, _, _, _, _, _, _, _, _, _, outB h rfl rfl, rfl, hr⟩
    · rw [e1, bdo_s, e1', bdo_n, e2, bd1_s, i10, e2', bd1_s, i00]
      exact ⟨_, _, _, _, _, _, _, _, _, _, _, _, rfl, rfl, hr⟩
  · rw [e1, bdo_n, e2, bd1_s, i00]
    rcases famcase hV hr p2 with ⟨l, n', hl, rfl, h0', hn', hi', hP', hM', e1', e2'⟩ | ⟨e1', e2'⟩
    · rw [e1', bdo_s]; exact ⟨_, _, _, _, _, _, _, _, _, _, _, _, rfl, rfl, hr⟩
    · rw [e1', bdo_n]; exact ⟨_, _, _, _, _, _, _, _, _, _, _, _, rfl, rfl, hr⟩
end SIM
