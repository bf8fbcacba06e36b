/-! names: all orders of the points -/
def im (h : Nat → Nat) (s : Nat) : Nat → Nat
  | 0 => 0
  | p + 1 => im h s p ||| (if s.testBit p = true then 2 ^ h p else 0)
def hsw (a b p : Nat) : Nat := if p = a then b else if p = b then a else p
def hvis (n : Nat) : Nat → Nat → List Nat → List Nat → List (List Nat)
  | 0, _, _, _ => []
  | f + 1, i, c, h => if n ≤ i then [] else if i ≤ c.getD i 0 then hvis n f (i + 1) (c.set i 0) h else h.map (hsw (if i % 2 = 0 then 0 else c.getD i 0) i) :: hvis n f 1 (c.set i (c.getD i 0 + 1)) (h.map (hsw (if i % 2 = 0 then 0 else c.getD i 0) i))
def hend (n : Nat) : Nat → Nat → List Nat → Bool
  | 0, _, _ => false
  | f + 1, i, c => if n ≤ i then true else if i ≤ c.getD i 0 then hend n f (i + 1) (c.set i 0) else hend n f 1 (c.set i (c.getD i 0 + 1))
def lexL (n v : Nat) : List Nat := layL n (2 ^ n - 1) v
def vis (n : Nat) : List (List Nat) := List.range n :: hvis n 20000 1 [0, 0, 0, 0, 0, 0, 0] (List.range n)
def hf (h : List Nat) (p : Nat) : Nat := h.getD p 0
def b2n (b : Bool) : Nat := if b = true then 1 else 0
/-- with which point the k-th changes places -/
def swK (k c : Nat) : Nat := if k % 2 = 0 then 0 else c
def gC (π : Nat → Nat) (i : Nat) : Nat → Nat → Nat
  | 0 => fun q => q
  | c + 1 => fun q => hsw (swK i c) i (π (gC π i c q))
def piK : Nat → Nat → Nat
  | 0 => fun q => q
  | i + 1 => fun q => piK i (gC (piK i) i i q)
def TK : Nat → Nat
  | 0 => 0
  | k + 1 => if k = 0 then 0 else TK k + k * (1 + TK k) + 1
def vkC (π : Nat → Nat) (L : List (Nat → Nat)) (i : Nat) : Nat → List (Nat → Nat)
  | 0 => []
  | c + 1 => vkC π L i c ++ L.map (fun v q => v (gC π i c q))
def VK : Nat → List (Nat → Nat)
  | 0 => [fun q => q]
  | i + 1 => vkC (piK i) (VK i) i (i + 1)
theorem vkC_one (π : Nat → Nat) (L : List (Nat → Nat)) (i : Nat) : vkC π L i 1 = L := by
  show [] ++ L.map (fun v => v) = L
  rw [List.nil_append, List.map_id']
theorem vkC_head {π : Nat → Nat} {L : List (Nat → Nat)} {i : Nat} (hL : ∃ tl, L = (fun q => q) :: tl) : ∀ c, ∃ tl, vkC π L i (c + 1) = (fun q => q) :: tl := by
  intro c
  induction c with
  | zero => rw [vkC_one]; exact hL
  | succ c ih =>
    obtain ⟨tl, e⟩ := ih
    refine ⟨tl ++ L.map (fun v q => v (gC π i (c + 1) q)), ?_⟩
    show vkC π L i (c + 1) ++ L.map (fun v q => v (gC π i (c + 1) q)) = _
    rw [e]; rfl
theorem VK_head : ∀ k, ∃ tl, VK k = (fun q => q) :: tl := by
  intro k
  induction k with
  | zero => exact ⟨[], rfl⟩
  | succ k ih => exact vkC_head ih k
section
variable {n f i : Nat} {c h : List Nat}
theorem hvis_go (h1 : ¬ n ≤ i) (h2 : ¬ i ≤ c.getD i 0) : hvis n (f + 1) i c h = h.map (hsw (swK i (c.getD i 0)) i) :: hvis n f 1 (c.set i (c.getD i 0 + 1)) (h.map (hsw (swK i (c.getD i 0)) i)) ∧ hend n (f + 1) i c = hend n f 1 (c.set i (c.getD i 0 + 1)) := by
  constructor
  · show (if n ≤ i then _ else if i ≤ c.getD i 0 then _ else _) = _
    rw [if_neg h1, if_neg h2]; rfl
  · show (if n ≤ i then _ else if i ≤ c.getD i 0 then _ else _) = _
    rw [if_neg h1, if_neg h2]
theorem hvis_up (h1 : ¬ n ≤ i) (h2 : i ≤ c.getD i 0) : hvis n (f + 1) i c h = hvis n f (i + 1) (c.set i 0) h ∧ hend n (f + 1) i c = hend n f (i + 1) (c.set i 0) := by
  constructor
  · show (if n ≤ i then _ else if i ≤ c.getD i 0 then _ else _) = _
    rw [if_neg h1, if_pos h2]
  · show (if n ≤ i then _ else if i ≤ c.getD i 0 then _ else _) = _
    rw [if_neg h1, if_pos h2]
end
theorem getD_set_eq {c : List Nat} {i x : Nat} (hi : i < c.length) : (c.set i x).getD i 0 = x := by
  rw [List.getD_eq_getElem?_getD, List.getElem?_set_self hi]; rfl
theorem getD_set_ne {c : List Nat} {i j x : Nat} (h : i ≠ j) : (c.set i x).getD j 0 = c.getD j 0 := by
  rw [List.getD_eq_getElem?_getD, List.getElem?_set_ne h, ← List.getD_eq_getElem?_getD]
theorem set_samL : ∀ (c : List Nat) (i : Nat), c.getD i 0 = 0 → c.set i 0 = c := by
  intro c
  induction c with
  | nil => intro i _; rfl
  | cons x c ih =>
    intro i h
    cases i with
    | zero => have hx : x = 0 := h; rw [hx]; rfl
    | succ i => show x :: c.set i 0 = x :: c; rw [ih i h]
theorem map_two (h : List Nat) (g π : Nat → Nat) : (h.map g).map π = h.map (fun q => π (g q)) := List.map_map
theorem vkC_map {π : Nat → Nat} {L : List (Nat → Nat)} {i c : Nat} (h : List Nat) : (L.map (fun v q => v (gC π i c q))).map (fun v => h.map v) = L.map (fun v => (h.map (gC π i c)).map v) := by
  rw [List.map_map]
  exact List.map_congr_left fun v _ => (map_two h (gC π i c) v).symm
/-- Heap's way of orders, level by level -/
theorem hv_run {n : Nat} (hn : n ≤ 7) : ∀ k, 1 ≤ k → k ≤ n → ∀ (f : Nat) (c h : List Nat), c.length = 7 → (∀ t, 1 ≤ t → t < k → c.getD t 0 = 0) → hvis n (f + TK k) 1 c h = ((VK k).map (fun v => h.map v)).tail ++ hvis n f k c (h.map (piK k)) ∧ hend n (f + TK k) 1 c = hend n f k c := by
  intro k
  induction k with
  | zero => intro h; omega
  | succ k ih =>
    intro _ hk f c h hc h0
    by_cases k0 : k = 0
    · subst k0
      have e1 : h.map (piK 1) = h := List.map_id' h
      rw [e1]
      exact ⟨rfl, rfl⟩
    · have hkn : ¬ n ≤ k := by omega
      obtain ⟨tl, hV⟩ := VK_head k
      have hck : c.getD k 0 = 0 := h0 k (by omega) (by omega)
      have hT : TK (k + 1) = TK k + k * (1 + TK k) + 1 := by
        show (if k = 0 then 0 else TK k + k * (1 + TK k) + 1) = _
        rw [if_neg k0]
      have main : ∀ j, j ≤ k → hvis n (f + TK (k + 1)) 1 c h = ((vkC (piK k) (VK k) k (j + 1)).map (fun v => h.map v)).tail ++ hvis n (f + (k - j) * (1 + TK k) + 1) k (c.set k j) ((h.map (gC (piK k) k j)).map (piK k)) ∧ hend n (f + TK (k + 1)) 1 c = hend n (f + (k - j) * (1 + TK k) + 1) k (c.set k j) := by
        intro j
        induction j with
        | zero =>
          intro _
          obtain ⟨a1, a2⟩ := ih (by omega) (by omega) (f + k * (1 + TK k) + 1) c h hc (fun t ht1 ht2 => h0 t ht1 (by omega))
          rw [vkC_one, set_samL c k hck, show (h.map (gC (piK k) k 0)) = h from List.map_id' h, Nat.sub_zero, show f + TK (k + 1) = f + k * (1 + TK k) + 1 + TK k by rw [hT]; omega]
          exact ⟨a1, a2⟩
        | succ j ihj =>
          intro hj
          obtain ⟨b1, b2⟩ := ihj (by omega)
          have hcl : (c.set k j).getD k 0 = j := getD_set_eq (by omega)
          have hF : f + (k - j) * (1 + TK k) + 1 = f + (k - (j + 1)) * (1 + TK k) + 1 + TK k + 1 := by
            obtain ⟨d, hd⟩ : ∃ d, k - j = d + 1 := ⟨k - j - 1, by omega⟩
            rw [hd, show k - (j + 1) = d by omega, Nat.succ_mul]; omega
          obtain ⟨g1, g2⟩ := hvis_go (n := n) (f := f + (k - (j + 1)) * (1 + TK k) + 1 + TK k) (i := k) (c := c.set k j) (h := (h.map (gC (piK k) k j)).map (piK k)) hkn (by rw [hcl]; omega)
          rw [hcl, List.set_set] at g1 g2
          have hmap : ((h.map (gC (piK k) k j)).map (piK k)).map (hsw (swK k j) k) = h.map (gC (piK k) k (j + 1)) := by
            rw [map_two, map_two]; rfl
          rw [hmap] at g1
          obtain ⟨a1, a2⟩ := ih (by omega) (by omega) (f + (k - (j + 1)) * (1 + TK k) + 1) (c.set k (j + 1)) (h.map (gC (piK k) k (j + 1))) (by rw [List.length_set]; exact hc) (fun t ht1 ht2 => by rw [getD_set_ne (by omega)]; exact h0 t ht1 (by omega))
          have hfull : h.map (gC (piK k) k (j + 1)) :: ((VK k).map (fun v => (h.map (gC (piK k) k (j + 1))).map v)).tail = (VK k).map (fun v => (h.map (gC (piK k) k (j + 1))).map v) := by
            rw [hV, List.map_cons, List.tail_cons, List.map_id']
          refine ⟨?_, ?_⟩
          · rw [b1, hF, g1, a1]
            show _ = ((vkC (piK k) (VK k) k (j + 1) ++ (VK k).map (fun v q => v (gC (piK k) k (j + 1) q))).map (fun v => h.map v)).tail ++ _
            obtain ⟨tl2, hX⟩ := vkC_head (π := piK k) (i := k) (VK_head k) j
            rw [List.map_append, vkC_map, ← hfull, hX, List.map_cons]
            exact (List.append_assoc (List.map (fun v => List.map v h) tl2) (List.map (gC (piK k) k (j + 1)) h :: (List.map (fun v => List.map v (List.map (gC (piK k) k (j + 1)) h)) (VK k)).tail) (hvis n (f + (k - (j + 1)) * (1 + TK k) + 1) k (c.set k (j + 1)) (List.map (piK k) (List.map (gC (piK k) k (j + 1)) h)))).symm
          · rw [b2, hF, g2, a2]
      obtain ⟨m1, m2⟩ := main k (Nat.le_refl k)
      have hcl : (c.set k k).getD k 0 = k := getD_set_eq (by omega)
      obtain ⟨u1, u2⟩ := hvis_up (n := n) (f := f) (i := k) (c := c.set k k) (h := (h.map (gC (piK k) k k)).map (piK k)) hkn (by rw [hcl]; exact Nat.le_refl k)
      rw [List.set_set, set_samL c k hck] at u1 u2
      rw [Nat.sub_self, Nat.zero_mul, Nat.add_zero] at m1 m2
      refine ⟨?_, m2.trans u2⟩
      rw [m1, u1, map_two]
      rfl
theorem TK_le : ∀ n, n < 8 → TK n < 20000 := by decide +kernel
theorem vis_eq {n : Nat} (h0 : 0 < n) (hn : n ≤ 7) : vis n = (VK n).map (fun v => (List.range n).map v) ∧ hend n 20000 1 [0, 0, 0, 0, 0, 0, 0] = true := by
  have hT := TK_le n (by omega)
  obtain ⟨a1, a2⟩ := hv_run hn n h0 (Nat.le_refl n) (20000 - TK n) [0, 0, 0, 0, 0, 0, 0] (List.range n) rfl (fun t _ ht => by
    rcases (show t = 0 ∨ t = 1 ∨ t = 2 ∨ t = 3 ∨ t = 4 ∨ t = 5 ∨ t = 6 by omega) with rfl | rfl | rfl | rfl | rfl | rfl | rfl <;> rfl)
  rw [show 20000 - TK n + TK n = 20000 by omega] at a1 a2
  obtain ⟨F, hF⟩ : ∃ F, 20000 - TK n = F + 1 := ⟨20000 - TK n - 1, by omega⟩
  rw [hF] at a1 a2
  have z1 : hvis n (F + 1) n [0, 0, 0, 0, 0, 0, 0] ((List.range n).map (piK n)) = [] := by
    show (if n ≤ n then _ else _) = _
    rw [if_pos (Nat.le_refl n)]
  have z2 : hend n (F + 1) n [0, 0, 0, 0, 0, 0, 0] = true := by
    show (if n ≤ n then _ else _) = _
    rw [if_pos (Nat.le_refl n)]
  obtain ⟨tl, hV⟩ := VK_head n
  refine ⟨?_, a2.trans z2⟩
  unfold vis
  rw [a1, z1, List.append_nil, hV, List.map_cons, List.tail_cons, List.map_id']
/-- where Heap's levels end, as rows -/
def piT (k q : Nat) : Nat := (([[0, 1, 2, 3, 4, 5, 6], [0, 1, 2, 3, 4, 5, 6], [1, 0, 2, 3, 4, 5, 6], [2, 1, 0, 3, 4, 5, 6], [3, 0, 1, 2, 4, 5, 6], [4, 1, 2, 3, 0, 5, 6], [5, 2, 3, 0, 1, 4, 6], [6, 1, 2, 3, 4, 5, 0]] : List (List Nat)).getD k []).getD q 0
def piI (k q : Nat) : Nat := (([[0, 1, 2, 3, 4, 5, 6], [0, 1, 2, 3, 4, 5, 6], [1, 0, 2, 3, 4, 5, 6], [2, 1, 0, 3, 4, 5, 6], [1, 2, 3, 0, 4, 5, 6], [4, 1, 2, 3, 0, 5, 6], [3, 4, 1, 2, 5, 0, 6], [6, 1, 2, 3, 4, 5, 0]] : List (List Nat)).getD k []).getD q 0
def gI (i : Nat) : Nat → Nat → Nat
  | 0 => fun q => q
  | c + 1 => fun q => gI i c (piI i (hsw (swK i c) i q))
theorem piT_f : ∀ i, i < 7 → ∀ q, q < 7 → piT i q < 7 ∧ piT (i + 1) q = piT i (gC (piT i) i i q) ∧ ∀ c, c ≤ i → gC (piT i) i c q < 7 := by decide +kernel
theorem gI_a : ∀ i, i < 7 → ∀ c, c < i + 1 → ∀ q, q < 7 → gC (piT i) i c (gI i c q) = q ∧ gI i c (gC (piT i) i c q) = q ∧ gI i c q < 7 := by decide +kernel
theorem gI_b : ∀ i, i < 7 → ∀ c, c < i + 1 → ∀ q, q < 7 → i < q → gI i c q = q := by decide +kernel
theorem gI_c : ∀ i, i < 7 → ∀ c, c < i + 1 → ∀ q, q < 7 → q ≤ i → gI i c q ≤ i := by decide +kernel
theorem gI_f (i : Nat) (hi : i < 7) (c : Nat) (hc : c ≤ i) (q : Nat) (hq : q < 7) : gC (piT i) i c (gI i c q) = q ∧ gI i c (gC (piT i) i c q) = q ∧ gI i c q < 7 ∧ (i < q → gI i c q = q) ∧ (q ≤ i → gI i c q ≤ i) := by
  obtain ⟨a1, a2, a3⟩ := gI_a i hi c (by omega) q hq
  exact ⟨a1, a2, a3, gI_b i hi c (by omega) q hq, gI_c i hi c (by omega) q hq⟩
theorem pc_one : ∀ i, i < 7 → ∀ p, p ≤ i → cnt (fun c => gI i c i == p) (i + 1) = 1 := by decide +kernel
theorem gC_tab {i : Nat} (hi : i < 7) (e : ∀ q, q < 7 → piK i q = piT i q) : ∀ c, c ≤ i → ∀ q, q < 7 → gC (piK i) i c q = gC (piT i) i c q := by
  intro c
  induction c with
  | zero => intro _ q _; rfl
  | succ c ih =>
    intro hc q hq
    show hsw (swK i c) i (piK i (gC (piK i) i c q)) = hsw (swK i c) i (piT i (gC (piT i) i c q))
    rw [ih (by omega) q hq, e _ ((piT_f i hi q hq).2.2 c (by omega))]
theorem piK_tab : ∀ k, k ≤ 7 → ∀ q, q < 7 → piK k q = piT k q := by
  intro k
  induction k with
  | zero =>
    intro _ q hq
    have : ∀ q, q < 7 → q = piT 0 q := by decide
    exact this q hq
  | succ k ih =>
    intro hk q hq
    show piK k (gC (piK k) k k q) = piT (k + 1) q
    rw [gC_tab (by omega) (ih (by omega)) k (Nat.le_refl k) q hq, ih (by omega) _ ((piT_f k (by omega) q hq).2.2 k (Nat.le_refl k)), (piT_f k (by omega) q hq).2.1]
theorem vkC_fix {π : Nat → Nat} {L : List (Nat → Nat)} {i q : Nat} (hL : ∀ v, v ∈ L → v q = q) : ∀ c, (∀ d, d < c → gC π i d q = q) → ∀ v, v ∈ vkC π L i c → v q = q := by
  intro c
  induction c with
  | zero => intro _ v hv; cases hv
  | succ c ih =>
    intro hg v hv
    rcases List.mem_append.mp (show v ∈ vkC π L i c ++ L.map (fun v q => v (gC π i c q)) from hv) with hv | hv
    · exact ih (fun d hd => hg d (by omega)) v hv
    · obtain ⟨w, hw, rfl⟩ := List.mem_map.mp hv
      show w (gC π i c q) = q
      rw [hg c (by omega)]; exact hL w hw
theorem VK_fix : ∀ k, k ≤ 7 → ∀ v, v ∈ VK k → ∀ q, k ≤ q → q < 7 → v q = q := by
  intro k
  induction k with
  | zero =>
    intro _ v hv q _ _
    rw [List.mem_singleton.mp hv]
  | succ k ih =>
    intro hk v hv q h1 h2
    refine vkC_fix (fun w hw => ih (by omega) w hw q (by omega) h2) (k + 1) (fun d hd => ?_) v hv
    rw [gC_tab (by omega) (piK_tab k (by omega)) d (by omega) q h2]
    have := gI_f k (by omega) d (by omega) q h2
    have h3 := this.2.2.2.1 (by omega)
    have h4 := this.1
    rw [h3] at h4; exact h4
/-- how often a naming is come by -/
def oK (L : List (Nat → Nat)) (u : Nat → Nat) : Nat := (L.map (fun v => b2n (allB (fun q => v q == u q) 7))).sum
theorem oK_app (L M : List (Nat → Nat)) (u : Nat → Nat) : oK (L ++ M) u = oK L u + oK M u := by
  unfold oK
  rw [List.map_append, List.sum_append_nat]
theorem oK_0 {L : List (Nat → Nat)} {u : Nat → Nat} {q : Nat} (hq : q < 7) (h : ∀ v, v ∈ L → v q ≠ u q) : oK L u = 0 := by
  unfold oK
  induction L with
  | nil => rfl
  | cons v L ih =>
    rw [List.map_cons, List.sum_cons, ih (fun w hw => h w (List.mem_cons.mpr (Or.inr hw))), allB_f (fun w => h v (List.mem_cons.mpr (Or.inl rfl)) (beq_iff_eq.mp (w q hq)))]
    rfl
theorem oK_comp {L : List (Nat → Nat)} {u g gi : Nat → Nat} (h1 : ∀ q, q < 7 → g q < 7 ∧ gi (g q) = q) (h2 : ∀ q, q < 7 → gi q < 7 ∧ g (gi q) = q) : oK (L.map (fun v q => v (g q))) u = oK L (fun q => u (gi q)) := by
  unfold oK
  rw [List.map_map]
  congr 1
  refine List.map_congr_left fun v _ => ?_
  show b2n (allB (fun q => v (g q) == u q) 7) = b2n (allB (fun q => v q == u (gi q)) 7)
  congr 1
  rw [Bool.eq_iff_iff, allB_iff, allB_iff]
  constructor
  · intro w q hq
    have := w (gi q) (h2 q hq).1
    rw [(h2 q hq).2] at this; exact this
  · intro w q hq
    have := w (g q) (h1 q hq).1
    rw [(h1 q hq).2] at this; exact this
def PrmK (k : Nat) (u : Nat → Nat) : Prop := (∀ q, q < k → u q < k) ∧ (∀ p, p < k → ∀ q, q < k → u p = u q → p = q) ∧ ∀ q, k ≤ q → q < 7 → u q = q
theorem oK_one : ∀ k, k ≤ 7 → ∀ u, PrmK k u → oK (VK k) u = 1 := by
  intro k
  induction k with
  | zero =>
    intro _ u hu
    show b2n (allB (fun q => q == u q) 7) + 0 = 1
    rw [allB_iff.mpr (fun q hq => by rw [hu.2.2 q (Nat.zero_le q) hq]; exact beq_self_eq_true q)]; rfl
  | succ i ih =>
    intro hi u hu
    have hgt := gC_tab (i := i) (by omega) (piK_tab i (by omega))
    have h6 : ∀ c, c ≤ i → (∀ q, q < 7 → gC (piK i) i c q < 7 ∧ gI i c (gC (piK i) i c q) = q) ∧ (∀ q, q < 7 → gI i c q < 7 ∧ gC (piK i) i c (gI i c q) = q) := fun c hc => by
      refine ⟨fun q hq => ?_, fun q hq => ?_⟩
      · rw [hgt c hc q hq]; exact ⟨(piT_f i (by omega) q hq).2.2 c hc, (gI_f i (by omega) c hc q hq).2.1⟩
      · obtain ⟨a1, a2, a3, a4, a5⟩ := gI_f i (by omega) c hc q hq
        refine ⟨a3, ?_⟩
        rw [hgt c hc _ a3]; exact a1
    obtain ⟨p, hp, hpi⟩ := inj_surj (i + 1) u hu.1 hu.2.1 i (by omega)
    have term : ∀ c, c ≤ i → oK ((VK i).map (fun v q => v (gC (piK i) i c q))) u = (if (gI i c i == p) = true then 1 else 0) := fun c hc => by
      obtain ⟨b1, b2⟩ := h6 c hc
      rw [oK_comp b1 b2]
      obtain ⟨_, _, a3, a4, a5⟩ := gI_f i (by omega) c hc i (by omega)
      by_cases e : gI i c i = p
      · rw [if_pos (beq_iff_eq.mpr e)]
        have hgl : ∀ q, q < i → gI i c q < i + 1 := fun q hq => by
          have := (gI_f i (by omega) c hc q (by omega)).2.2.2.2 (by omega); omega
        have hne : ∀ q, q < i → u (gI i c q) ≠ i := fun q hq w => by
          have h1 := hu.2.1 _ (hgl q hq) p hp (by rw [w, hpi])
          have h2 := (b2 q (by omega)).2
          have h3 := (b2 i (by omega)).2
          rw [h1, ← e, h3] at h2
          omega
        refine ih (by omega) _ ⟨fun q hq => ?_, fun p' hp' q hq w => ?_, fun q h1 h2 => ?_⟩
        · have h1 := hu.1 _ (hgl q hq)
          have h2 := hne q hq
          show u (gI i c q) < i
          omega
        · have h1 := hu.2.1 _ (hgl p' hp') _ (hgl q hq) w
          have h2 := (b2 p' (by omega)).2
          have h3 := (b2 q (by omega)).2
          rw [h1] at h2; omega
        · show u (gI i c q) = q
          by_cases e2 : q = i
          · subst e2; rw [e]; exact hpi
          · rw [(gI_f i (by omega) c hc q h2).2.2.2.1 (by omega)]; exact hu.2.2 q (by omega) h2
      · rw [if_neg (fun w => e (beq_iff_eq.mp w))]
        refine oK_0 (q := i) (by omega) fun v hv w => ?_
        rw [VK_fix i (by omega) v hv i (Nat.le_refl i) (by omega)] at w
        have w' : i = u (gI i c i) := w
        exact e (hu.2.1 _ (by have := a5 (Nat.le_refl i); omega) p hp (by rw [← w', hpi]))
    have all : ∀ c, c ≤ i + 1 → oK (vkC (piK i) (VK i) i c) u = cnt (fun c => gI i c i == p) c := by
      intro c
      induction c with
      | zero => intro _; rfl
      | succ c ihc =>
        intro hc
        show oK (vkC (piK i) (VK i) i c ++ (VK i).map (fun v q => v (gC (piK i) i c q))) u = _
        rw [oK_app, ihc (by omega), term c (by omega), cnt_succ]
    show oK (vkC (piK i) (VK i) i (i + 1)) u = 1
    rw [all (i + 1) (Nat.le_refl _), pc_one i (by omega) p (by omega)]
