/-! sums of arcs -/
theorem smF_add (f : Nat → Bool) (g h : Nat → Nat) (N : Nat) : smF f (fun s => g s + h s) N = smF f g N + smF f h N := by
  unfold smF
  rw [← sm_add]
  refine sm_congr fun k _ => ?_
  split <;> rfl
theorem smF_one {f : Nat → Bool} {p N : Nat} (hp : p < N) : smF f (fun s => if p = s then 1 else 0) N = if f p = true then 1 else 0 := by
  have := sm_one hp (f p) (fun _ => 1)
  rw [← this]
  refine sm_congr fun k _ => ?_
  show (if f k = true then (if p = k then 1 else 0) else 0) = (if ((p == k) && f p) = true then 1 else 0) * 1
  by_cases w : p = k
  · subst w; rw [beq_self_eq_true, Bool.true_and, if_pos rfl, Nat.mul_one]
  · rw [beq_eq_false_iff_ne.mpr w, Bool.false_and, if_neg w, if_neg Bool.false_ne_true, Nat.zero_mul]
    split <;> rfl
theorem smF_sm (f : Nat → Bool) (h : Nat → Nat → Nat) (N : Nat) : ∀ K, smF f (fun s => sm (fun k => h k s) K) N = sm (fun k => smF f (h k) N) K := by
  intro K
  induction K with
  | zero =>
    show smF f (fun _ => 0) N = 0
    unfold smF
    rw [sm_congr (h := fun _ => 0) (fun k _ => by split <;> rfl), sm_const, Nat.mul_zero]
  | succ K ih =>
    show smF f (fun s => sm (fun k => h k s) K + h K s) N = sm (fun k => smF f (h k) N) K + smF f (h K) N
    rw [smF_add, ih]
theorem smF_arcs {f : Nat → Bool} {ρ : Nat → Nat} {n : Nat} (h0 : 0 < n) (hρ : ∀ x, x < n → ρ x < n) : smF f (arcsAt ρ n) (2 ^ n) = sm (fun i => cnt (fun l => f (Mk ρ n i (l + 1))) (n - 1)) n := by
  show smF f (fun s => sm (fun i => sm (fun l => if Mk ρ n i (l + 1) = s then 1 else 0) (n - 1)) n) (2 ^ n) = _
  rw [smF_sm f (fun i s => sm (fun l => if Mk ρ n i (l + 1) = s then 1 else 0) (n - 1))]
  refine sm_congr fun i _ => ?_
  rw [smF_sm f (fun l s => if Mk ρ n i (l + 1) = s then 1 else 0), ← sm_cnt]
  exact sm_congr fun l _ => smF_one (Mk_lt h0 hρ i (l + 1))
theorem cnt_smF (f b : Nat → Bool) : ∀ N, cnt (fun s => f s && b s) N = smF f (fun s => if b s = true then 1 else 0) N := by
  intro N
  induction N with
  | zero => rfl
  | succ N ih =>
    rw [cnt_succ, smF_s, ih]
    cases f N <;> cases b N <;> rfl
