theorem lfp1_for {T1 β : Type} {F : (T1 → Option β) → T1 → Option β} {y : Option β} (N : Nat) (a1 : Nat → T1) (hs : ∀ k, k < N → ∀ r, F r (a1 k) = r (a1 (k + 1))) (he : ∀ r, F r (a1 N) = y) : lfp1 F (a1 0) = y := by
  have h : ∀ j, j ≤ N → lfp1 F (a1 0) = lfp1 F (a1 j) := by
    intro j
    induction j with
    | zero => intro _; rfl
    | succ j ih => intro hj; exact (ih (by omega)).trans (lfp1_step (hs j (by omega)))
  exact (h N (Nat.le_refl N)).trans (lfp1_done he)
theorem lfp2_for {T1 T2 β : Type} {F : (T1 → T2 → Option β) → T1 → T2 → Option β} {y : Option β} (N : Nat) (a1 : Nat → T1) (a2 : Nat → T2) (hs : ∀ k, k < N → ∀ r, F r (a1 k) (a2 k) = r (a1 (k + 1)) (a2 (k + 1))) (he : ∀ r, F r (a1 N) (a2 N) = y) : lfp2 F (a1 0) (a2 0) = y := by
  have h : ∀ j, j ≤ N → lfp2 F (a1 0) (a2 0) = lfp2 F (a1 j) (a2 j) := by
    intro j
    induction j with
    | zero => intro _; rfl
    | succ j ih => intro hj; exact (ih (by omega)).trans (lfp2_step (hs j (by omega)))
  exact (h N (Nat.le_refl N)).trans (lfp2_done he)
theorem lfp3_for {T1 T2 T3 β : Type} {F : (T1 → T2 → T3 → Option β) → T1 → T2 → T3 → Option β} {y : Option β} (N : Nat) (a1 : Nat → T1) (a2 : Nat → T2) (a3 : Nat → T3) (hs : ∀ k, k < N → ∀ r, F r (a1 k) (a2 k) (a3 k) = r (a1 (k + 1)) (a2 (k + 1)) (a3 (k + 1))) (he : ∀ r, F r (a1 N) (a2 N) (a3 N) = y) : lfp3 F (a1 0) (a2 0) (a3 0) = y := by
  have h : ∀ j, j ≤ N → lfp3 F (a1 0) (a2 0) (a3 0) = lfp3 F (a1 j) (a2 j) (a3 j) := by
    intro j
    induction j with
    | zero => intro _; rfl
    | succ j ih => intro hj; exact (ih (by omega)).trans (lfp3_step (hs j (by omega)))
  exact (h N (Nat.le_refl N)).trans (lfp3_done he)
theorem lfp4_for {T1 T2 T3 T4 β : Type} {F : (T1 → T2 → T3 → T4 → Option β) → T1 → T2 → T3 → T4 → Option β} {y : Option β} (N : Nat) (a1 : Nat → T1) (a2 : Nat → T2) (a3 : Nat → T3) (a4 : Nat → T4) (hs : ∀ k, k < N → ∀ r, F r (a1 k) (a2 k) (a3 k) (a4 k) = r (a1 (k + 1)) (a2 (k + 1)) (a3 (k + 1)) (a4 (k + 1))) (he : ∀ r, F r (a1 N) (a2 N) (a3 N) (a4 N) = y) : lfp4 F (a1 0) (a2 0) (a3 0) (a4 0) = y := by
  have h : ∀ j, j ≤ N → lfp4 F (a1 0) (a2 0) (a3 0) (a4 0) = lfp4 F (a1 j) (a2 j) (a3 j) (a4 j) := by
    intro j
    induction j with
    | zero => intro _; rfl
    | succ j ih => intro hj; exact (ih (by omega)).trans (lfp4_step (hs j (by omega)))
  exact (h N (Nat.le_refl N)).trans (lfp4_done he)
theorem lfp5_for {T1 T2 T3 T4 T5 β : Type} {F : (T1 → T2 → T3 → T4 → T5 → Option β) → T1 → T2 → T3 → T4 → T5 → Option β} {y : Option β} (N : Nat) (a1 : Nat → T1) (a2 : Nat → T2) (a3 : Nat → T3) (a4 : Nat → T4) (a5 : Nat → T5) (hs : ∀ k, k < N → ∀ r, F r (a1 k) (a2 k) (a3 k) (a4 k) (a5 k) = r (a1 (k + 1)) (a2 (k + 1)) (a3 (k + 1)) (a4 (k + 1)) (a5 (k + 1))) (he : ∀ r, F r (a1 N) (a2 N) (a3 N) (a4 N) (a5 N) = y) : lfp5 F (a1 0) (a2 0) (a3 0) (a4 0) (a5 0) = y := by
  have h : ∀ j, j ≤ N → lfp5 F (a1 0) (a2 0) (a3 0) (a4 0) (a5 0) = lfp5 F (a1 j) (a2 j) (a3 j) (a4 j) (a5 j) := by
    intro j
    induction j with
    | zero => intro _; rfl
    | succ j ih => intro hj; exact (ih (by omega)).trans (lfp5_step (hs j (by omega)))
  exact (h N (Nat.le_refl N)).trans (lfp5_done he)
theorem lfp6_for {T1 T2 T3 T4 T5 T6 β : Type} {F : (T1 → T2 → T3 → T4 → T5 → T6 → Option β) → T1 → T2 → T3 → T4 → T5 → T6 → Option β} {y : Option β} (N : Nat) (a1 : Nat → T1) (a2 : Nat → T2) (a3 : Nat → T3) (a4 : Nat → T4) (a5 : Nat → T5) (a6 : Nat → T6) (hs : ∀ k, k < N → ∀ r, F r (a1 k) (a2 k) (a3 k) (a4 k) (a5 k) (a6 k) = r (a1 (k + 1)) (a2 (k + 1)) (a3 (k + 1)) (a4 (k + 1)) (a5 (k + 1)) (a6 (k + 1))) (he : ∀ r, F r (a1 N) (a2 N) (a3 N) (a4 N) (a5 N) (a6 N) = y) : lfp6 F (a1 0) (a2 0) (a3 0) (a4 0) (a5 0) (a6 0) = y := by
  have h : ∀ j, j ≤ N → lfp6 F (a1 0) (a2 0) (a3 0) (a4 0) (a5 0) (a6 0) = lfp6 F (a1 j) (a2 j) (a3 j) (a4 j) (a5 j) (a6 j) := by
    intro j
    induction j with
    | zero => intro _; rfl
    | succ j ih => intro hj; exact (ih (by omega)).trans (lfp6_step (hs j (by omega)))
  exact (h N (Nat.le_refl N)).trans (lfp6_done he)
theorem lfp7_for {T1 T2 T3 T4 T5 T6 T7 β : Type} {F : (T1 → T2 → T3 → T4 → T5 → T6 → T7 → Option β) → T1 → T2 → T3 → T4 → T5 → T6 → T7 → Option β} {y : Option β} (N : Nat) (a1 : Nat → T1) (a2 : Nat → T2) (a3 : Nat → T3) (a4 : Nat → T4) (a5 : Nat → T5) (a6 : Nat → T6) (a7 : Nat → T7) (hs : ∀ k, k < N → ∀ r, F r (a1 k) (a2 k) (a3 k) (a4 k) (a5 k) (a6 k) (a7 k) = r (a1 (k + 1)) (a2 (k + 1)) (a3 (k + 1)) (a4 (k + 1)) (a5 (k + 1)) (a6 (k + 1)) (a7 (k + 1))) (he : ∀ r, F r (a1 N) (a2 N) (a3 N) (a4 N) (a5 N) (a6 N) (a7 N) = y) : lfp7 F (a1 0) (a2 0) (a3 0) (a4 0) (a5 0) (a6 0) (a7 0) = y := by
  have h : ∀ j, j ≤ N → lfp7 F (a1 0) (a2 0) (a3 0) (a4 0) (a5 0) (a6 0) (a7 0) = lfp7 F (a1 j) (a2 j) (a3 j) (a4 j) (a5 j) (a6 j) (a7 j) := by
    intro j
    induction j with
    | zero => intro _; rfl
    | succ j ih => intro hj; exact (ih (by omega)).trans (lfp7_step (hs j (by omega)))
  exact (h N (Nat.le_refl N)).trans (lfp7_done he)
theorem lfp8_for {T1 T2 T3 T4 T5 T6 T7 T8 β : Type} {F : (T1 → T2 → T3 → T4 → T5 → T6 → T7 → T8 → Option β) → T1 → T2 → T3 → T4 → T5 → T6 → T7 → T8 → Option β} {y : Option β} (N : Nat) (a1 : Nat → T1) (a2 : Nat → T2) (a3 : Nat → T3) (a4 : Nat → T4) (a5 : Nat → T5) (a6 : Nat → T6) (a7 : Nat → T7) (a8 : Nat → T8) (hs : ∀ k, k < N → ∀ r, F r (a1 k) (a2 k) (a3 k) (a4 k) (a5 k) (a6 k) (a7 k) (a8 k) = r (a1 (k + 1)) (a2 (k + 1)) (a3 (k + 1)) (a4 (k + 1)) (a5 (k + 1)) (a6 (k + 1)) (a7 (k + 1)) (a8 (k + 1))) (he : ∀ r, F r (a1 N) (a2 N) (a3 N) (a4 N) (a5 N) (a6 N) (a7 N) (a8 N) = y) : lfp8 F (a1 0) (a2 0) (a3 0) (a4 0) (a5 0) (a6 0) (a7 0) (a8 0) = y := by
  have h : ∀ j, j ≤ N → lfp8 F (a1 0) (a2 0) (a3 0) (a4 0) (a5 0) (a6 0) (a7 0) (a8 0) = lfp8 F (a1 j) (a2 j) (a3 j) (a4 j) (a5 j) (a6 j) (a7 j) (a8 j) := by
    intro j
    induction j with
    | zero => intro _; rfl
    | succ j ih => intro hj; exact (ih (by omega)).trans (lfp8_step (hs j (by omega)))
  exact (h N (Nat.le_refl N)).trans (lfp8_done he)
theorem lfp9_for {T1 T2 T3 T4 T5 T6 T7 T8 T9 β : Type} {F : (T1 → T2 → T3 → T4 → T5 → T6 → T7 → T8 → T9 → Option β) → T1 → T2 → T3 → T4 → T5 → T6 → T7 → T8 → T9 → Option β} {y : Option β} (N : Nat) (a1 : Nat → T1) (a2 : Nat → T2) (a3 : Nat → T3) (a4 : Nat → T4) (a5 : Nat → T5) (a6 : Nat → T6) (a7 : Nat → T7) (a8 : Nat → T8) (a9 : Nat → T9) (hs : ∀ k, k < N → ∀ r, F r (a1 k) (a2 k) (a3 k) (a4 k) (a5 k) (a6 k) (a7 k) (a8 k) (a9 k) = r (a1 (k + 1)) (a2 (k + 1)) (a3 (k + 1)) (a4 (k + 1)) (a5 (k + 1)) (a6 (k + 1)) (a7 (k + 1)) (a8 (k + 1)) (a9 (k + 1))) (he : ∀ r, F r (a1 N) (a2 N) (a3 N) (a4 N) (a5 N) (a6 N) (a7 N) (a8 N) (a9 N) = y) : lfp9 F (a1 0) (a2 0) (a3 0) (a4 0) (a5 0) (a6 0) (a7 0) (a8 0) (a9 0) = y := by
  have h : ∀ j, j ≤ N → lfp9 F (a1 0) (a2 0) (a3 0) (a4 0) (a5 0) (a6 0) (a7 0) (a8 0) (a9 0) = lfp9 F (a1 j) (a2 j) (a3 j) (a4 j) (a5 j) (a6 j) (a7 j) (a8 j) (a9 j) := by
    intro j
    induction j with
    | zero => intro _; rfl
    | succ j ih => intro hj; exact (ih (by omega)).trans (lfp9_step (hs j (by omega)))
  exact (h N (Nat.le_refl N)).trans (lfp9_done he)
theorem lfp10_for {T1 T2 T3 T4 T5 T6 T7 T8 T9 T10 β : Type} {F : (T1 → T2 → T3 → T4 → T5 → T6 → T7 → T8 → T9 → T10 → Option β) → T1 → T2 → T3 → T4 → T5 → T6 → T7 → T8 → T9 → T10 → Option β} {y : Option β} (N : Nat) (a1 : Nat → T1) (a2 : Nat → T2) (a3 : Nat → T3) (a4 : Nat → T4) (a5 : Nat → T5) (a6 : Nat → T6) (a7 : Nat → T7) (a8 : Nat → T8) (a9 : Nat → T9) (a10 : Nat → T10) (hs : ∀ k, k < N → ∀ r, F r (a1 k) (a2 k) (a3 k) (a4 k) (a5 k) (a6 k) (a7 k) (a8 k) (a9 k) (a10 k) = r (a1 (k + 1)) (a2 (k + 1)) (a3 (k + 1)) (a4 (k + 1)) (a5 (k + 1)) (a6 (k + 1)) (a7 (k + 1)) (a8 (k + 1)) (a9 (k + 1)) (a10 (k + 1))) (he : ∀ r, F r (a1 N) (a2 N) (a3 N) (a4 N) (a5 N) (a6 N) (a7 N) (a8 N) (a9 N) (a10 N) = y) : lfp10 F (a1 0) (a2 0) (a3 0) (a4 0) (a5 0) (a6 0) (a7 0) (a8 0) (a9 0) (a10 0) = y := by
  have h : ∀ j, j ≤ N → lfp10 F (a1 0) (a2 0) (a3 0) (a4 0) (a5 0) (a6 0) (a7 0) (a8 0) (a9 0) (a10 0) = lfp10 F (a1 j) (a2 j) (a3 j) (a4 j) (a5 j) (a6 j) (a7 j) (a8 j) (a9 j) (a10 j) := by
    intro j
    induction j with
    | zero => intro _; rfl
    | succ j ih => intro hj; exact (ih (by omega)).trans (lfp10_step (hs j (by omega)))
  exact (h N (Nat.le_refl N)).trans (lfp10_done he)
theorem lfp11_for {T1 T2 T3 T4 T5 T6 T7 T8 T9 T10 T11 β : Type} {F : (T1 → T2 → T3 → T4 → T5 → T6 → T7 → T8 → T9 → T10 → T11 → Option β) → T1 → T2 → T3 → T4 → T5 → T6 → T7 → T8 → T9 → T10 → T11 → Option β} {y : Option β} (N : Nat) (a1 : Nat → T1) (a2 : Nat → T2) (a3 : Nat → T3) (a4 : Nat → T4) (a5 : Nat → T5) (a6 : Nat → T6) (a7 : Nat → T7) (a8 : Nat → T8) (a9 : Nat → T9) (a10 : Nat → T10) (a11 : Nat → T11) (hs : ∀ k, k < N → ∀ r, F r (a1 k) (a2 k) (a3 k) (a4 k) (a5 k) (a6 k) (a7 k) (a8 k) (a9 k) (a10 k) (a11 k) = r (a1 (k + 1)) (a2 (k + 1)) (a3 (k + 1)) (a4 (k + 1)) (a5 (k + 1)) (a6 (k + 1)) (a7 (k + 1)) (a8 (k + 1)) (a9 (k + 1)) (a10 (k + 1)) (a11 (k + 1))) (he : ∀ r, F r (a1 N) (a2 N) (a3 N) (a4 N) (a5 N) (a6 N) (a7 N) (a8 N) (a9 N) (a10 N) (a11 N) = y) : lfp11 F (a1 0) (a2 0) (a3 0) (a4 0) (a5 0) (a6 0) (a7 0) (a8 0) (a9 0) (a10 0) (a11 0) = y := by
  have h : ∀ j, j ≤ N → lfp11 F (a1 0) (a2 0) (a3 0) (a4 0) (a5 0) (a6 0) (a7 0) (a8 0) (a9 0) (a10 0) (a11 0) = lfp11 F (a1 j) (a2 j) (a3 j) (a4 j) (a5 j) (a6 j) (a7 j) (a8 j) (a9 j) (a10 j) (a11 j) := by
    intro j
    induction j with
    | zero => intro _; rfl
    | succ j ih => intro hj; exact (ih (by omega)).trans (lfp11_step (hs j (by omega)))
  exact (h N (Nat.le_refl N)).trans (lfp11_done he)
theorem lfp12_for {T1 T2 T3 T4 T5 T6 T7 T8 T9 T10 T11 T12 β : Type} {F : (T1 → T2 → T3 → T4 → T5 → T6 → T7 → T8 → T9 → T10 → T11 → T12 → Option β) → T1 → T2 → T3 → T4 → T5 → T6 → T7 → T8 → T9 → T10 → T11 → T12 → Option β} {y : Option β} (N : Nat) (a1 : Nat → T1) (a2 : Nat → T2) (a3 : Nat → T3) (a4 : Nat → T4) (a5 : Nat → T5) (a6 : Nat → T6) (a7 : Nat → T7) (a8 : Nat → T8) (a9 : Nat → T9) (a10 : Nat → T10) (a11 : Nat → T11) (a12 : Nat → T12) (hs : ∀ k, k < N → ∀ r, F r (a1 k) (a2 k) (a3 k) (a4 k) (a5 k) (a6 k) (a7 k) (a8 k) (a9 k) (a10 k) (a11 k) (a12 k) = r (a1 (k + 1)) (a2 (k + 1)) (a3 (k + 1)) (a4 (k + 1)) (a5 (k + 1)) (a6 (k + 1)) (a7 (k + 1)) (a8 (k + 1)) (a9 (k + 1)) (a10 (k + 1)) (a11 (k + 1)) (a12 (k + 1))) (he : ∀ r, F r (a1 N) (a2 N) (a3 N) (a4 N) (a5 N) (a6 N) (a7 N) (a8 N) (a9 N) (a10 N) (a11 N) (a12 N) = y) : lfp12 F (a1 0) (a2 0) (a3 0) (a4 0) (a5 0) (a6 0) (a7 0) (a8 0) (a9 0) (a10 0) (a11 0) (a12 0) = y := by
  have h : ∀ j, j ≤ N → lfp12 F (a1 0) (a2 0) (a3 0) (a4 0) (a5 0) (a6 0) (a7 0) (a8 0) (a9 0) (a10 0) (a11 0) (a12 0) = lfp12 F (a1 j) (a2 j) (a3 j) (a4 j) (a5 j) (a6 j) (a7 j) (a8 j) (a9 j) (a10 j) (a11 j) (a12 j) := by
    intro j
    induction j with
    | zero => intro _; rfl
    | succ j ih => intro hj; exact (ih (by omega)).trans (lfp12_step (hs j (by omega)))
  exact (h N (Nat.le_refl N)).trans (lfp12_done he)
theorem lfp13_for {T1 T2 T3 T4 T5 T6 T7 T8 T9 T10 T11 T12 T13 β : Type} {F : (T1 → T2 → T3 → T4 → T5 → T6 → T7 → T8 → T9 → T10 → T11 → T12 → T13 → Option β) → T1 → T2 → T3 → T4 → T5 → T6 → T7 → T8 → T9 → T10 → T11 → T12 → T13 → Option β} {y : Option β} (N : Nat) (a1 : Nat → T1) (a2 : Nat → T2) (a3 : Nat → T3) (a4 : Nat → T4) (a5 : Nat → T5) (a6 : Nat → T6) (a7 : Nat → T7) (a8 : Nat → T8) (a9 : Nat → T9) (a10 : Nat → T10) (a11 : Nat → T11) (a12 : Nat → T12) (a13 : Nat → T13) (hs : ∀ k, k < N → ∀ r, F r (a1 k) (a2 k) (a3 k) (a4 k) (a5 k) (a6 k) (a7 k) (a8 k) (a9 k) (a10 k) (a11 k) (a12 k) (a13 k) = r (a1 (k + 1)) (a2 (k + 1)) (a3 (k + 1)) (a4 (k + 1)) (a5 (k + 1)) (a6 (k + 1)) (a7 (k + 1)) (a8 (k + 1)) (a9 (k + 1)) (a10 (k + 1)) (a11 (k + 1)) (a12 (k + 1)) (a13 (k + 1))) (he : ∀ r, F r (a1 N) (a2 N) (a3 N) (a4 N) (a5 N) (a6 N) (a7 N) (a8 N) (a9 N) (a10 N) (a11 N) (a12 N) (a13 N) = y) : lfp13 F (a1 0) (a2 0) (a3 0) (a4 0) (a5 0) (a6 0) (a7 0) (a8 0) (a9 0) (a10 0) (a11 0) (a12 0) (a13 0) = y := by
  have h : ∀ j, j ≤ N → lfp13 F (a1 0) (a2 0) (a3 0) (a4 0) (a5 0) (a6 0) (a7 0) (a8 0) (a9 0) (a10 0) (a11 0) (a12 0) (a13 0) = lfp13 F (a1 j) (a2 j) (a3 j) (a4 j) (a5 j) (a6 j) (a7 j) (a8 j) (a9 j) (a10 j) (a11 j) (a12 j) (a13 j) := by
    intro j
    induction j with
    | zero => intro _; rfl
    | succ j ih => intro hj; exact (ih (by omega)).trans (lfp13_step (hs j (by omega)))
  exact (h N (Nat.le_refl N)).trans (lfp13_done he)
theorem lfp14_for {T1 T2 T3 T4 T5 T6 T7 T8 T9 T10 T11 T12 T13 T14 β : Type} {F : (T1 → T2 → T3 → T4 → T5 → T6 → T7 → T8 → T9 → T10 → T11 → T12 → T13 → T14 → Option β) → T1 → T2 → T3 → T4 → T5 → T6 → T7 → T8 → T9 → T10 → T11 → T12 → T13 → T14 → Option β} {y : Option β} (N : Nat) (a1 : Nat → T1) (a2 : Nat → T2) (a3 : Nat → T3) (a4 : Nat → T4) (a5 : Nat → T5) (a6 : Nat → T6) (a7 : Nat → T7) (a8 : Nat → T8) (a9 : Nat → T9) (a10 : Nat → T10) (a11 : Nat → T11) (a12 : Nat → T12) (a13 : Nat → T13) (a14 : Nat → T14) (hs : ∀ k, k < N → ∀ r, F r (a1 k) (a2 k) (a3 k) (a4 k) (a5 k) (a6 k) (a7 k) (a8 k) (a9 k) (a10 k) (a11 k) (a12 k) (a13 k) (a14 k) = r (a1 (k + 1)) (a2 (k + 1)) (a3 (k + 1)) (a4 (k + 1)) (a5 (k + 1)) (a6 (k + 1)) (a7 (k + 1)) (a8 (k + 1)) (a9 (k + 1)) (a10 (k + 1)) (a11 (k + 1)) (a12 (k + 1)) (a13 (k + 1)) (a14 (k + 1))) (he : ∀ r, F r (a1 N) (a2 N) (a3 N) (a4 N) (a5 N) (a6 N) (a7 N) (a8 N) (a9 N) (a10 N) (a11 N) (a12 N) (a13 N) (a14 N) = y) : lfp14 F (a1 0) (a2 0) (a3 0) (a4 0) (a5 0) (a6 0) (a7 0) (a8 0) (a9 0) (a10 0) (a11 0) (a12 0) (a13 0) (a14 0) = y := by
  have h : ∀ j, j ≤ N → lfp14 F (a1 0) (a2 0) (a3 0) (a4 0) (a5 0) (a6 0) (a7 0) (a8 0) (a9 0) (a10 0) (a11 0) (a12 0) (a13 0) (a14 0) = lfp14 F (a1 j) (a2 j) (a3 j) (a4 j) (a5 j) (a6 j) (a7 j) (a8 j) (a9 j) (a10 j) (a11 j) (a12 j) (a13 j) (a14 j) := by
    intro j
    induction j with
    | zero => intro _; rfl
    | succ j ih => intro hj; exact (ih (by omega)).trans (lfp14_step (hs j (by omega)))
  exact (h N (Nat.le_refl N)).trans (lfp14_done he)

/-- how many k below n -/
def cnt (c : Nat → Bool) : Nat → Nat
  | 0 => 0
  | n + 1 => cnt c n + (if c n then 1 else 0)
theorem cnt_succ (c : Nat → Bool) (n : Nat) : cnt c (n + 1) = cnt c n + (if c n then 1 else 0) := rfl
theorem cnt_le (c : Nat → Bool) (n : Nat) : cnt c n ≤ n := by
  induction n with
  | zero => exact Nat.le_refl 0
  | succ n ih => unfold cnt; split <;> omega
theorem cnt_congr {c d : Nat → Bool} {n : Nat} (h : ∀ k, k < n → c k = d k) : cnt c n = cnt d n := by
  induction n with
  | zero => rfl
  | succ n ih => unfold cnt; rw [ih (fun k hk => h k (by omega)), h n (by omega)]
theorem cnt_false {c : Nat → Bool} {n : Nat} (h : ∀ k, k < n → c k = false) : cnt c n = 0 := by
  induction n with
  | zero => rfl
  | succ n ih => unfold cnt; rw [ih (fun k hk => h k (by omega)), h n (by omega)]; rfl
theorem cnt_add (c : Nat → Bool) (m n : Nat) : cnt c (m + n) = cnt c m + cnt (fun k => c (m + k)) n := by
  induction n with
  | zero => rfl
  | succ n ih => rw [show m + (n + 1) = (m + n) + 1 from rfl, cnt_succ, cnt_succ, ih]; omega
theorem cnt_cut {c : Nat → Bool} {m n : Nat} (hmn : m ≤ n) (h : ∀ k, k < n → c k = true → k < m) : cnt c n = cnt c m := by
  obtain ⟨d, rfl⟩ : ∃ d, n = m + d := ⟨n - m, by omega⟩
  rw [cnt_add, cnt_false (n := d), Nat.add_zero]
  intro k hk
  cases hc : c (m + k) with
  | false => rfl
  | true => have := h (m + k) (by omega) hc; omega
theorem cnt_mono (c : Nat → Bool) {m n : Nat} (h : m ≤ n) : cnt c m ≤ cnt c n := by
  obtain ⟨d, rfl⟩ : ∃ d, n = m + d := ⟨n - m, by omega⟩
  rw [cnt_add]; omega
theorem cnt_or {c d : Nat → Bool} {n : Nat} : cnt c n + cnt d n = cnt (fun k => c k || d k) n + cnt (fun k => c k && d k) n := by
  induction n with
  | zero => rfl
  | succ n ih => unfold cnt; cases c n <;> cases d n <;> simp <;> omega
theorem cnt_not (c : Nat → Bool) (n : Nat) : cnt c n + cnt (fun k => !c k) n = n := by
  induction n with
  | zero => rfl
  | succ n ih => unfold cnt; cases c n <;> simp <;> omega
theorem nI_b01 (a : Nat) (b : Bool) : nI a + b01 b = nI (a + if b then 1 else 0) := by
  cases b
  · exact nI_add a 0
  · exact nI_add a 1
theorem wb_cu' : ∀ k, k < 64 → ((nI k).toInt64.toUInt64 &&& Int64.toUInt64 63) = UInt64.ofNat k := by decide +kernel
theorem wb_c' : ∀ k, k < 64 → ((nI k).toInt64 &&& 63) = lN k := by decide +kernel
theorem wb_sm' : ∀ k, k < 64 → ((lN k).toBitVec.smod 64) = BitVec.ofNat 64 k := by decide +kernel
theorem ushr_bv (x : Int64) {k : Nat} (hk : k < 64) : ((x.toUInt64 >>> ((nI k).toInt64.toUInt64 &&& Int64.toUInt64 63)).toInt64).toBitVec = x.toBitVec >>> k := by
  rw [wb_cu' k hk]
  show (x.toUInt64 >>> UInt64.ofNat k).toBitVec = _
  rw [UInt64.toBitVec_shiftRight]
  have h : (UInt64.ofNat k).toBitVec % 64 = BitVec.ofNat 64 k := by
    have : ∀ k, k < 64 → (UInt64.ofNat k).toBitVec % 64 = BitVec.ofNat 64 k := by decide +kernel
    exact this k hk
  rw [h]
  apply BitVec.eq_of_toNat_eq
  simp [BitVec.toNat_ushiftRight, Nat.mod_eq_of_lt (show k < 18446744073709551616 by omega)]
theorem shl_bv (x : Int64) {k : Nat} (hk : k < 64) : (x <<< ((nI k).toInt64 &&& 63)).toBitVec = x.toBitVec <<< k := by
  rw [wb_c' k hk, Int64.toBitVec_shiftLeft, wb_sm' k hk]
  apply BitVec.eq_of_toNat_eq
  simp [BitVec.toNat_shiftLeft, Nat.mod_eq_of_lt (show k < 18446744073709551616 by omega)]
theorem xb_or (x y : Int64) (s : Nat) : xb (x ||| y) s = (xb x s || xb y s) := by simp [xb]
theorem xb_and (x y : Int64) (s : Nat) : xb (x &&& y) s = (xb x s && xb y s) := by simp [xb]
theorem xb_big {x : Int64} {s : Nat} (h : 64 ≤ s) : xb x s = false := by simp [xb, BitVec.getLsbD_of_ge _ _ h]
theorem xb_m1 {s : Nat} (h : s < 64) : xb (-1) s = true := by
  have : ∀ s, s < 64 → xb (-1) s = true := by decide +kernel
  exact this s h
theorem xb_not (x : Int64) {s : Nat} (h : s < 64) : xb (x ^^^ (-1)) s = !xb x s := by
  unfold xb; simp [h]
theorem xb_ushr (x : Int64) {k : Nat} (hk : k < 64) (s : Nat) : xb ((x.toUInt64 >>> ((nI k).toInt64.toUInt64 &&& Int64.toUInt64 63)).toInt64) s = xb x (k + s) := by
  unfold xb; rw [ushr_bv x hk]; simp
theorem xb_shl (x : Int64) {k : Nat} (hk : k < 64) {s : Nat} (hs : s < 64) : xb (x <<< ((nI k).toInt64 &&& 63)) s = (decide (k ≤ s) && xb x (s - k)) := by
  unfold xb; rw [shl_bv x hk, BitVec.getLsbD_shiftLeft]
  by_cases h : s < k
  · simp [h, show ¬ k ≤ s by omega]
  · simp [h, hs, show k ≤ s by omega]
theorem xb_one (s : Nat) : xb 1 s = decide (s = 0) := by
  by_cases h : s < 64
  · have : ∀ s, s < 64 → xb 1 s = decide (s = 0) := by decide +kernel
    exact this s h
  · rw [xb_big (by omega)]; simp; omega
theorem xb_bit {k : Nat} (hk : k < 64) (s : Nat) : xb ((1 : Int64) <<< ((nI k).toInt64 &&& 63)) s = decide (s = k) := by
  by_cases h : s < 64
  · rw [xb_shl _ hk h, xb_one]
    by_cases e : s = k
    · subst e; simp
    · by_cases q : k ≤ s
      · simp [e, q]; omega
      · simp [e, q]
  · rw [xb_big (by omega)]; simp; omega
theorem xb_ext {x y : Int64} (h : ∀ s, s < 64 → xb x s = xb y s) : x = y := by
  apply Int64.toBitVec_inj.mp
  apply BitVec.eq_of_getLsbD_eq
  intro i hi
  exact h i hi
theorem mbs_ext {a b c d : Int64} (h : ∀ s, s < 128 → mbs a b s = mbs c d s) : a = c ∧ b = d := by
  refine ⟨xb_ext fun s hs => ?_, xb_ext fun s hs => ?_⟩
  · have := h s (by omega); unfold mbs at this; rwa [if_pos hs, if_pos hs] at this
  · have := h (64 + s) (by omega); unfold mbs at this; rwa [if_neg (by omega), if_neg (by omega), show 64 + s - 64 = s by omega] at this
theorem mbs_or (a b c d : Int64) (s : Nat) : mbs (a ||| c) (b ||| d) s = (mbs a b s || mbs c d s) := by unfold mbs; split <;> exact xb_or _ _ _
theorem mbs_and (a b c d : Int64) (s : Nat) : mbs (a &&& c) (b &&& d) s = (mbs a b s && mbs c d s) := by unfold mbs; split <;> exact xb_and _ _ _
theorem mbs_not (a b : Int64) {s : Nat} (h : s < 128) : mbs (a ^^^ (-1)) (b ^^^ (-1)) s = !mbs a b s := by
  unfold mbs; split
  · exact xb_not _ (by omega)
  · exact xb_not _ (by omega)
theorem mbs_big {a b : Int64} {s : Nat} (h : 128 ≤ s) : mbs a b s = false := by unfold mbs; rw [if_neg (by omega)]; exact xb_big (by omega)
/-- the last bit alone -/
theorem and1_eq (x : Int64) : x &&& 1 = if xb x 0 then 1 else 0 := by
  apply xb_ext
  intro s hs
  rw [xb_and, xb_one]
  by_cases h : s = 0
  · subst h
    cases h2 : xb x 0
    · simp [xb_zero]
    · simp [xb_one]
  · cases h2 : xb x 0
    · simp [h, xb_zero]
    · simp [h, xb_one]
theorem nI_63 {s : Nat} (h : s < 128) : (nI s &&& (63 : Int32)) = nI (s % 64) := by
  have : ∀ s, s < 128 → (nI s &&& (63 : Int32)) = nI (s % 64) := by decide +kernel
  exact this s h
theorem holds_j (y : Int64) {s : Nat} (h : s < 128) : X0_holds_j17 (nI s) y = some (b01 (xb y (s % 64))) := by
  unfold X0_holds_j17
  rw [nI_63 h, and1_eq, xb_ushr y (by omega), Nat.add_zero]
  cases xb y (s % 64) <;> rfl
theorem X0_holds_eq {cLo cHi : Nat → Int64} {i s : Nat} (h : s < 128) : X0_holds cLo cHi i (nI s) = some (b01 (mbs (cLo i) (cHi i) s)) := by
  unfold X0_holds
  by_cases q : s < 64
  · rw [if_neg (show ¬ (64 : Int32) ≤ nI s from nI_ge q (by decide)), holds_j _ h, Nat.mod_eq_of_lt q]
    unfold mbs; rw [if_pos q]
  · rw [if_pos (show (64 : Int32) ≤ nI s from nI_le (a := 64) (by omega) (by omega)), holds_j _ h]
    unfold mbs; rw [if_neg q, show s % 64 = s - 64 by omega]
theorem X0_span_eq {cP : Nat → Int32} {i n : Nat} (h : cP i = nI n) (hn : n ≤ 7) : X0_span cP i = some (nI (2 ^ n)) := by
  unfold X0_span
  rw [h]
  have : ∀ n, n < 8 → ((1 : Int32) <<< (nI n &&& 31)) = nI (2 ^ n) := by decide +kernel
  rw [this n (by omega)]
theorem pow_le7 {n : Nat} (h : n ≤ 7) : 2 ^ n ≤ 128 := Nat.pow_le_pow_right (by decide) h
