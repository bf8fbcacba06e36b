/-! how high a set stands in its family -/
def Pk (f : Nat → Bool) : Nat → Nat → Prop
  | 0, s => f s = true
  | h + 1, s => f s = true ∧ ∃ t, t ≠ s ∧ t &&& s = t ∧ Pk f h t
theorem Pk_f {f : Nat → Bool} {h s : Nat} (q : Pk f h s) : f s = true := by
  cases h with
  | zero => exact q
  | succ h => exact q.1
theorem Pk_down {f : Nat → Bool} : ∀ h s, Pk f (h + 1) s → Pk f h s
  | 0, _, q => q.1
  | h + 1, _, ⟨q1, t, q2, q3, q4⟩ => ⟨q1, t, q2, q3, Pk_down h t q4⟩
theorem pc_sub {s t : Nat} (hs : s < 128) (h : t &&& s = t) (hne : t ≠ s) : pc t < pc s := by
  have ht : t < 128 := by have := Nat.and_le_right (n := t) (m := s); omega
  have hb := sub7.mp h
  obtain ⟨h1, h2⟩ := cnt_sub_eq (a := fun i => t.testBit i) (b := fun i => s.testBit i) (N := 7) (fun p _ q => hb p q)
  have h3 : cnt (fun i => t.testBit i) 7 ≠ cnt (fun i => s.testBit i) 7 := fun e => hne (eq7 ht hs fun p hp => by
    have := h2.mp e p hp
    cases q : s.testBit p with
    | true => exact this q
    | false =>
      cases q' : t.testBit p with
      | false => rfl
      | true => rw [hb p q'] at q; cases q)
  unfold pc
  omega
theorem Pk_pc {f : Nat → Bool} (hf : ∀ s, f s = true → s < 128) : ∀ h s, Pk f h s → h ≤ pc s
  | 0, _, _ => Nat.zero_le _
  | h + 1, s, ⟨q1, t, q2, q3, q4⟩ => by
    have := Pk_pc hf h t q4
    have := pc_sub (hf s q1) q3 q2
    omega
/-- a height: what the levels below it are -/
def Hgt (f : Nat → Bool) (s m : Nat) : Prop := m ≤ 8 ∧ ∀ h, Pk f h s ↔ h < m
theorem Hgt_top {f : Nat → Bool} (hf : ∀ s, f s = true → s < 128) {s m : Nat} (h : ∀ h, Pk f h s ↔ h < m) : m ≤ 8 := by
  cases m with
  | zero => omega
  | succ m =>
    have := Pk_pc hf m s ((h m).mpr (by omega))
    have := pc_le s
    omega
theorem chainUpTo_V {cP : Nat → Int32} {V : Nat → Nat → Bool} {j n s m : Nat} (hj : j < 3) (hP : cP j = nI n) (hn : n ≤ 7) (hi : inN n (V j)) (hs : s < 128) (hf : V j s = true) (hm : Hgt (V j) s m) : ∃ oP W, X8_chainUpTo cP (LO V) (HI V) j (nI s) = some (nI m, oP, LO W, HI W) ∧ Keeps cP oP (LO V) (LO W) (HI V) (HI W) := by
  unfold X8_chainUpTo
  rw [become_V, bd3_s, hP]
  refine lfp4_inv (F := X8_chainUpTo_h10 (nI s)) (fun o => ∃ oP W, o = some (nI m, oP, LO W, HI W) ∧ Keeps cP oP (LO V) (LO W) (HI V) (HI W)) 8 (fun k a p lo hi => a = nI (k + 1) ∧ ∃ W, lo = LO W ∧ hi = HI W ∧ p 4 = nI n ∧ inN n (W 4) ∧ (∀ t, t < 128 → (W 4 t = true ↔ Pk (V j) k t)) ∧ Pk (V j) k s ∧ Keeps cP p (LO V) (LO W) (HI V) (HI W)) (fun k a p lo hi' hk hI => ?_) (fun a p lo hi' hI => ?_) ⟨rfl, _, rfl, rfl, by rw [up_at], by rw [up_at]; exact hi, fun t _ => by rw [up_at]; exact Iff.rfl, hf, (Keeps.rfl'.up 4 (by omega) _).upP 4 (by omega) _⟩
  · obtain ⟨rfl, W, rfl, rfl, hp, hiW, hW, hks, hK⟩ := hI
    have hlow : ∀ t, t < 128 → ((W 4 t && !upW n (shU (W 4) n) t) = true ↔ Pk (V j) k t ∧ ¬ Pk (V j) (k + 1) t) := fun t ht => by
      rw [low_iff hn hiW ht, hW t ht]
      constructor
      · rintro ⟨q1, q2⟩
        refine ⟨q1, ?_⟩
        rintro ⟨_, u, w1, w2, w3⟩
        exact w1 (q2 u ((hW u (hi.to hn u (Pk_f w3))).mpr w3) w2)
      · rintro ⟨q1, q2⟩
        refine ⟨q1, fun u w1 w2 => Classical.byContradiction fun w3 => q2 ⟨Pk_f q1, u, w3, w2, (hW u (hiW.to hn u w1)).mp w1⟩⟩
    have body : ∀ r, X8_chainUpTo_h10 (nI s) r (nI (k + 1)) p (LO W) (HI W) = (if b01 (W 4 s && !upW n (shU (W 4) n) s) = 0 then r (nI (k + 1 + 1)) (va_up p 3 (nI n)) (LO (va_up (va_up W 3 (fun s => W 4 s && !upW n (shU (W 4) n) s)) 4 (fun t => W 4 t && !(W 4 t && !upW n (shU (W 4) n) t)))) (HI (va_up (va_up W 3 (fun s => W 4 s && !upW n (shU (W 4) n) s)) 4 (fun t => W 4 t && !(W 4 t && !upW n (shU (W 4) n) t)))) else some (nI (k + 1), va_up p 3 (nI n), LO (va_up W 3 (fun s => W 4 s && !upW n (shU (W 4) n) s)), HI (va_up W 3 (fun s => W 4 s && !upW n (shU (W 4) n) s)))) := fun r => by
      unfold X8_chainUpTo_h10
      rw [if_neg (show ¬ (8 : Int32) < nI (k + 1) from nI_nlt (a := 8) (by omega) (by omega)), becomeLowest_V (by decide) hp hn, bd3_s, holds_V hs, bd1_s, lose_V, bd2_s, nI_1]
      simp only [up_at, up_ne (show (4 : Nat) ≠ 3 by decide)]
    have hm2 := hm.2
    cases hb : (W 4 s && !upW n (shU (W 4) n) s) with
    | true =>
      left
      have h1 := (hlow s hs).mp hb
      have e : m = k + 1 := by
        have := (hm2 k).mp h1.1
        have : ¬ k + 1 < m := fun q => h1.2 ((hm2 (k + 1)).mpr q)
        omega
      exact ⟨_, fun r => by rw [body, hb, bt0], _, _, by rw [e], (hK.up 3 (by omega) _).upP 3 (by omega) _⟩
    | false =>
      right
      have h1 : Pk (V j) (k + 1) s := Classical.byContradiction fun q => by rw [(hlow s hs).mpr ⟨hks, q⟩] at hb; cases hb
      refine ⟨_, _, _, _, fun r => by rw [body, hb, bf0], rfl, _, rfl, rfl, by rw [up_ne (by decide)]; exact hp, ?_, fun t ht => ?_, h1, ((hK.up 3 (by omega) _).up 4 (by omega) _).upP 3 (by omega) _⟩
      · rw [up_at]
        intro t ht
        rw [Bool.and_eq_true] at ht
        exact hiW t ht.1
      · rw [up_at]
        show (W 4 t && !(W 4 t && !upW n (shU (W 4) n) t)) = true ↔ _
        rw [Bool.and_eq_true, Bool.not_eq_true', ← Bool.not_eq_true, hlow t ht, hW t ht]
        constructor
        · rintro ⟨q1, q2⟩
          exact Classical.byContradiction fun q3 => q2 ⟨q1, q3⟩
        · intro q
          exact ⟨Pk_down k t q, fun w => w.2 q⟩
  · obtain ⟨rfl, W, rfl, rfl, hp, hiW, hW, hks, hK⟩ := hI
    have := (hm.2 8).mp hks
    have := hm.1
    omega

theorem height_9 {mnow : Nat → Int32} {j n p : Nat} {f : Nat → Bool} {mhio : Nat → Int32} (hj : j < 3) (hM : FamM mnow (129 * j) (n, f)) (hf : ∀ s, f s = true → s < 128) (hp : p < 128) : ∃ om H, lfp2 (X9_height_h26 (nI p) mnow (nI j)) 0 mhio = some (nI H, om) ∧ Hgt f p H := by
  refine lfp2_inv (F := X9_height_h26 (nI p) mnow (nI j)) (fun o => ∃ om H, o = some (nI H, om) ∧ Hgt f p H) (p + 1) (fun k a m => a = nI k ∧ ∀ u, u < k → ∃ H, m u = nI H ∧ Hgt f u H) (fun k a m hk hI => ?_) (fun a m hI => ?_) ⟨rfl, fun u hu => by omega⟩
  · obtain ⟨rfl, hA⟩ := hI
    right
    have hk2 : k < 128 := by omega
    have hcl : (nI k).toNatClampNeg = k := nI_clamp (by omega)
    cases hb : f k with
    | false =>
      refine ⟨nI (k + 1), upd m k 0, fun r => ?_, rfl, fun u hu => ?_⟩
      · unfold X9_height_h26 X9_height_j50
        rw [if_neg (nI_nlt (by omega) (by omega)), isIn9 hj hM hk2, bd1_s, hb, bf0, gin_nI hk2 (by decide), hcl]
        refine lfp2_done fun r2 => ?_
        unfold X9_height_h54
        rw [isIn9 hj hM hk2, bd1_s, hb, bf0, nI_1]
        split <;> rfl
      · by_cases e : u = k
        · subst e
          refine ⟨0, by simp [upd]; rfl, by omega, fun h => ⟨fun q => ?_, fun q => by omega⟩⟩
          rw [Pk_f q] at hb; cases hb
        · obtain ⟨H, h1, h2⟩ := hA u (by omega)
          exact ⟨H, by simp [upd, e, h1], h2⟩
    | true =>
      have inner : ∀ t, t ≤ k → ∃ M mt, (∀ r, lfp2 (X9_height_h54 (nI k) r mnow (nI j)) 0 (upd m k 1) = lfp2 (X9_height_h54 (nI k) r mnow (nI j)) (nI t) mt) ∧ mt k = nI M ∧ M ≤ 9 ∧ (∀ u, u < k → mt u = m u) ∧ ∀ h, h < M ↔ h = 0 ∨ ∃ u, u < t ∧ u &&& k = u ∧ ∃ h', h = h' + 1 ∧ Pk f h' u := by
        intro t
        induction t with
        | zero =>
          intro _
          refine ⟨1, upd m k 1, fun r => rfl, by simp [upd]; rfl, by omega, fun u hu => by simp [upd, show u ≠ k by omega], fun h => ⟨fun q => Or.inl (by omega), ?_⟩⟩
          rintro (q | ⟨u, q, _⟩)
          · omega
          · omega
        | succ t ih =>
          intro ht
          obtain ⟨M, mt, e1, e2, e3, e4, e5⟩ := ih (by omega)
          obtain ⟨H, g1, g2, g3⟩ := hA t (by omega)
          have hclt : (nI t).toNatClampNeg = t := nI_clamp (by omega)
          by_cases hc : k &&& t = t ∧ 0 < H
          · refine ⟨max M (H + 1), upd mt k (nI (max M (H + 1))), fun r => (e1 r).trans (lfp2_step fun r2 => ?_), by simp [upd], by omega, fun u hu => by simp [upd, show u ≠ k by omega]; exact e4 u hu, fun h => ?_⟩
            · unfold X9_height_h54
              rw [if_neg (nI_ge (by omega) (by omega)), isIn9 hj hM hk2, bd1_s, hb, bt0, land_nI', if_pos (by rw [hc.1]), gin_nI (by omega) (by decide), hclt, e4 t (by omega), g1, if_neg (show ¬ nI H ≤ 0 from nI_ge (a := 0) hc.2 (by omega)), gin_nI hk2 (by decide), gin_nI (by omega) (by decide), gin_nI hk2 (by decide), hcl, e2, nI_1, nI_1, imax_nI (by omega) (by omega)]
            · have := e5 h
              constructor
              · intro q
                by_cases w : h < M
                · rcases this.mp w with q | ⟨u, q1, q2⟩
                  · exact Or.inl q
                  · exact Or.inr ⟨u, by omega, q2⟩
                · cases h with
                  | zero => exact Or.inl rfl
                  | succ h => exact Or.inr ⟨t, by omega, by rw [Nat.and_comm]; exact hc.1, h, rfl, (g3 h).mpr (by omega)⟩
              · rintro (q | ⟨u, q1, q2, h', q3, q4⟩)
                · omega
                · by_cases w : u = t
                  · subst w
                    have := (g3 h').mp q4
                    omega
                  · have := this.mpr (Or.inr ⟨u, by omega, q2, h', q3, q4⟩)
                    omega
          · refine ⟨M, mt, fun r => (e1 r).trans (lfp2_step fun r2 => ?_), e2, e3, e4, fun h => ?_⟩
            · unfold X9_height_h54
              rw [if_neg (nI_ge (by omega) (by omega)), isIn9 hj hM hk2, bd1_s, hb, bt0, land_nI', gin_nI (by omega) (by decide), hclt, e4 t (by omega), g1, nI_1]
              by_cases w : k &&& t = t
              · rw [if_pos (by rw [w]), if_pos (show nI H ≤ 0 from nI_le (b := 0) (by omega) (by omega))]
              · rw [if_neg (fun q => w ((nI_eq (by have := and_128l (b := t) hk2; omega) (by omega)).mp q))]
            · rw [e5 h]
              constructor
              · rintro (q | ⟨u, q1, q2⟩)
                · exact Or.inl q
                · exact Or.inr ⟨u, by omega, q2⟩
              · rintro (q | ⟨u, q1, q2, h', q3, q4⟩)
                · exact Or.inl q
                · by_cases w : u = t
                  · subst w
                    exact absurd ⟨by rw [Nat.and_comm]; exact q2, by have := (g3 h').mp q4; omega⟩ hc
                  · exact Or.inr ⟨u, by omega, q2, h', q3, q4⟩
      obtain ⟨M, mt, e1, e2, e3, e4, e5⟩ := inner k (Nat.le_refl k)
      refine ⟨nI (k + 1), mt, fun r => ?_, rfl, fun u hu => ?_⟩
      · unfold X9_height_h26 X9_height_j50
        rw [if_neg (nI_nlt (by omega) (by omega)), isIn9 hj hM hk2, bd1_s, hb, bt0, gin_nI hk2 (by decide), hcl, e1 r]
        refine lfp2_done fun r2 => ?_
        unfold X9_height_h54
        rw [if_pos (nI_le (Nat.le_refl _) (by omega)), nI_1]
      · by_cases e : u = k
        · subst e
          have hP : ∀ h, Pk f h u ↔ h < M := fun h => by
            rw [e5 h]
            cases h with
            | zero => exact ⟨fun _ => Or.inl rfl, fun _ => hb⟩
            | succ h =>
              constructor
              · rintro ⟨_, t, q1, q2, q3⟩
                have : t ≤ u := by have := Nat.and_le_right (n := t) (m := u); omega
                exact Or.inr ⟨t, by omega, q2, h, rfl, q3⟩
              · rintro (q | ⟨t, q1, q2, h', q3, q4⟩)
                · omega
                · obtain rfl : h = h' := by omega
                  exact ⟨hb, t, by omega, q2, q4⟩
          exact ⟨M, e2, Hgt_top hf hP, hP⟩
        · rw [e4 u (by omega)]
          exact hA u (by omega)
  · obtain ⟨rfl, hA⟩ := hI
    obtain ⟨H, h1, h2⟩ := hA p (by omega)
    refine ⟨some (nI H, m), fun r => ?_, m, H, rfl, h2⟩
    unfold X9_height_h26
    rw [if_pos (nI_lt (by omega) (by omega)), gin_nI hp (by decide), nI_clamp (by omega), h1]
section SIM
variable {cP : Nat → Int32} {cLo : Nat → Int64} {cHi : Nat → Int64} {cpl : Nat → Int32} {ctb : Nat → Int32} {ctl : Int32} {ctf : Int32} {ctp : Int32} {ctk : Int32} {cts : Int32} {cth : Int32} {cob : Nat → Int32} {col : Int32} {cso : Nat → Int32} {cha : Int32} {chs : Int32} {cbe : Int32} {ctr : Int32} {cgl : Nat → Int64} {cgh : Nat → Int64} {cll : Nat → Int64} {clh : Nat → Int64} {cta : Nat → Int32} {cme : Nat → Int32} {cps : Int32} {cwh : Nat → Int32} {cal : Nat → Int64} {cah : Nat → Int64} {mthr : Int32} {mfrp : Int32} {mact : Int32} {mtpd : Int32} {msiz : Int32} {matx : Int32} {mfrm : Int32} {mtok : Int32} {mval : Int32} {mfk : Int32} {mfpl : Int32} {mbem : Int32} {mtrs : Int32} {mtrl : Int32} {mrom : Int32} {mtom : Int32} {mnow : Nat → Int32} {mfre : Nat → Int32} {mkep : Nat → Int32} {mtap : Nat → Int32} {mlef : Nat → Int32} {mtak : Nat → Int32} {mbes : Nat → Int32} {mrow : Nat → Int32} {mint : Nat → Int32} {mrnd : Nat → Int32} {mplo : Nat → Int32} {mhio : Nat → Int32} {mtox : Nat → Int32} {mtol : Nat → Int32}
theorem sim_height {p1 p2 : Int32} (hr : Rel cP cLo cHi ctb ctl ctf ctp cob col cso cha chs mact mtpd mfk mfpl mtom mnow mkep mtap mtol) : ∃ (r : Int32) (ocP : Nat → Int32) (ocLo : Nat → Int64) (ocHi : Nat → Int64) (omhio : Nat → Int32), X8_height cP cLo cHi p1 p2 = some (r, ocP, ocLo, ocHi) ∧ X9_height mnow mhio p1 p2 = some (r, omhio) ∧ Rel ocP ocLo ocHi ctb ctl ctf ctp cob col cso cha chs mact mtpd mfk mfpl mtom mnow mkep mtap mtol := by
  obtain ⟨V, rfl, rfl, hV⟩ := toV cLo cHi
  unfold X8_height X9_height
  rcases famcase hV hr p1 with ⟨j, n, hj, rfl, h0, hn, hi, hP, hM, e1, e2⟩ | ⟨e1, e2⟩
  · have hq := pow_le7 hn
    rw [e1, bdo_s, isSet9 hj hM hn h0, bd1_s, X0_knows_eq hP hn, bd1_s]
    by_cases q : 0 ≤ p2.toInt ∧ p2.toInt < (2 : Int) ^ n
    · obtain ⟨m, hm1, hm2, rfl⟩ := set_of hn q
      rw [decide_eq_true q, bt0, bt0, holds_V hm2, bd1_s, isIn9 hj hM hm2, bd1_s]
      cases hb : V j m with
      | false =>
        rw [bf0, bf0]
        exact ⟨_, _, _, _, _, rfl, rfl, hr⟩
      | true =>
        rw [bt0, bt0]
        obtain ⟨om, H, h1, h2⟩ := height_9 (mhio := mhio) hj hM (hi.to hn) hm2
        obtain ⟨oP, W, h3, h4⟩ := chainUpTo_V hj hP hn hi hm2 hb h2
        rw [h1, h3, bd4_s]
        exact ⟨_, _, _, _, _, rfl, rfl, hr.keep h4⟩
    · rw [decide_eq_false q, bf0, bf0]
      exact ⟨_, _, _, _, _, rfl, rfl, hr⟩
  · rw [e1, bdo_n, X9_isSet_out e2, bd1_s, i00]
    exact ⟨_, _, _, _, _, rfl, rfl, hr⟩
end SIM
