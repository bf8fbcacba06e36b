theorem lfp1_inv {T1 β : Type} {F : (T1 → Option β) → T1 → Option β} (P : Option β → Prop) (N : Nat) (I : Nat → T1 → Prop) (hs : ∀ k a1, k < N → I k a1 → (∃ y, (∀ r, F r a1 = y) ∧ P y) ∨ (∃ b1, (∀ r, F r a1 = r b1) ∧ I (k + 1) b1)) (he : ∀ a1, I N a1 → ∃ y, (∀ r, F r a1 = y) ∧ P y) {a1 : T1} (h0 : I 0 a1) : P (lfp1 F a1) := by
  have h : ∀ m k a1, k + m = N → I k a1 → P (lfp1 F a1) := by
    intro m
    induction m with
    | zero =>
      intro k a1 hk hI
      obtain rfl : k = N := hk
      obtain ⟨y, hy, hp⟩ := he _ hI
      rw [lfp1_done hy]; exact hp
    | succ m ih =>
      intro k a1 hk hI
      rcases hs k _ (by omega) hI with ⟨y, hy, hp⟩ | ⟨b1, hb, hI'⟩
      · rw [lfp1_done hy]; exact hp
      · rw [lfp1_step hb]; exact ih (k + 1) _ (by omega) hI'
  exact h N 0 _ (Nat.zero_add N) h0
theorem lfp1_mu {T1 β : Type} {F : (T1 → Option β) → T1 → Option β} (P : Option β → Prop) (I : T1 → Prop) (μ : T1 → Nat) (hs : ∀ a1, I a1 → (∃ y, (∀ r, F r a1 = y) ∧ P y) ∨ (∃ b1, (∀ r, F r a1 = r b1) ∧ I b1 ∧ μ b1 < μ a1)) {a1 : T1} (h0 : I a1) : P (lfp1 F a1) := by
  have h : ∀ m a1, μ a1 ≤ m → I a1 → P (lfp1 F a1) := by
    intro m
    induction m with
    | zero =>
      intro a1 hm hI
      rcases hs _ hI with ⟨y, hy, hp⟩ | ⟨b1, hb, hI', hlt⟩
      · rw [lfp1_done hy]; exact hp
      · omega
    | succ m ih =>
      intro a1 hm hI
      rcases hs _ hI with ⟨y, hy, hp⟩ | ⟨b1, hb, hI', hlt⟩
      · rw [lfp1_done hy]; exact hp
      · rw [lfp1_step hb]; exact ih _ (by omega) hI'
  exact h _ _ (Nat.le_refl _) h0
theorem lfp2_inv {T1 T2 β : Type} {F : (T1 → T2 → Option β) → T1 → T2 → Option β} (P : Option β → Prop) (N : Nat) (I : Nat → T1 → T2 → Prop) (hs : ∀ k a1 a2, k < N → I k a1 a2 → (∃ y, (∀ r, F r a1 a2 = y) ∧ P y) ∨ (∃ b1 b2, (∀ r, F r a1 a2 = r b1 b2) ∧ I (k + 1) b1 b2)) (he : ∀ a1 a2, I N a1 a2 → ∃ y, (∀ r, F r a1 a2 = y) ∧ P y) {a1 : T1} {a2 : T2} (h0 : I 0 a1 a2) : P (lfp2 F a1 a2) := by
  have h : ∀ m k a1 a2, k + m = N → I k a1 a2 → P (lfp2 F a1 a2) := by
    intro m
    induction m with
    | zero =>
      intro k a1 a2 hk hI
      obtain rfl : k = N := hk
      obtain ⟨y, hy, hp⟩ := he _ _ hI
      rw [lfp2_done hy]; exact hp
    | succ m ih =>
      intro k a1 a2 hk hI
      rcases hs k _ _ (by omega) hI with ⟨y, hy, hp⟩ | ⟨b1, b2, hb, hI'⟩
      · rw [lfp2_done hy]; exact hp
      · rw [lfp2_step hb]; exact ih (k + 1) _ _ (by omega) hI'
  exact h N 0 _ _ (Nat.zero_add N) h0
theorem lfp2_mu {T1 T2 β : Type} {F : (T1 → T2 → Option β) → T1 → T2 → Option β} (P : Option β → Prop) (I : T1 → T2 → Prop) (μ : T1 → T2 → Nat) (hs : ∀ a1 a2, I a1 a2 → (∃ y, (∀ r, F r a1 a2 = y) ∧ P y) ∨ (∃ b1 b2, (∀ r, F r a1 a2 = r b1 b2) ∧ I b1 b2 ∧ μ b1 b2 < μ a1 a2)) {a1 : T1} {a2 : T2} (h0 : I a1 a2) : P (lfp2 F a1 a2) := by
  have h : ∀ m a1 a2, μ a1 a2 ≤ m → I a1 a2 → P (lfp2 F a1 a2) := by
    intro m
    induction m with
    | zero =>
      intro a1 a2 hm hI
      rcases hs _ _ hI with ⟨y, hy, hp⟩ | ⟨b1, b2, hb, hI', hlt⟩
      · rw [lfp2_done hy]; exact hp
      · omega
    | succ m ih =>
      intro a1 a2 hm hI
      rcases hs _ _ hI with ⟨y, hy, hp⟩ | ⟨b1, b2, hb, hI', hlt⟩
      · rw [lfp2_done hy]; exact hp
      · rw [lfp2_step hb]; exact ih _ _ (by omega) hI'
  exact h _ _ _ (Nat.le_refl _) h0
theorem lfp3_inv {T1 T2 T3 β : Type} {F : (T1 → T2 → T3 → Option β) → T1 → T2 → T3 → Option β} (P : Option β → Prop) (N : Nat) (I : Nat → T1 → T2 → T3 → Prop) (hs : ∀ k a1 a2 a3, k < N → I k a1 a2 a3 → (∃ y, (∀ r, F r a1 a2 a3 = y) ∧ P y) ∨ (∃ b1 b2 b3, (∀ r, F r a1 a2 a3 = r b1 b2 b3) ∧ I (k + 1) b1 b2 b3)) (he : ∀ a1 a2 a3, I N a1 a2 a3 → ∃ y, (∀ r, F r a1 a2 a3 = y) ∧ P y) {a1 : T1} {a2 : T2} {a3 : T3} (h0 : I 0 a1 a2 a3) : P (lfp3 F a1 a2 a3) := by
  have h : ∀ m k a1 a2 a3, k + m = N → I k a1 a2 a3 → P (lfp3 F a1 a2 a3) := by
    intro m
    induction m with
    | zero =>
      intro k a1 a2 a3 hk hI
      obtain rfl : k = N := hk
      obtain ⟨y, hy, hp⟩ := he _ _ _ hI
      rw [lfp3_done hy]; exact hp
    | succ m ih =>
      intro k a1 a2 a3 hk hI
      rcases hs k _ _ _ (by omega) hI with ⟨y, hy, hp⟩ | ⟨b1, b2, b3, hb, hI'⟩
      · rw [lfp3_done hy]; exact hp
      · rw [lfp3_step hb]; exact ih (k + 1) _ _ _ (by omega) hI'
  exact h N 0 _ _ _ (Nat.zero_add N) h0
theorem lfp3_mu {T1 T2 T3 β : Type} {F : (T1 → T2 → T3 → Option β) → T1 → T2 → T3 → Option β} (P : Option β → Prop) (I : T1 → T2 → T3 → Prop) (μ : T1 → T2 → T3 → Nat) (hs : ∀ a1 a2 a3, I a1 a2 a3 → (∃ y, (∀ r, F r a1 a2 a3 = y) ∧ P y) ∨ (∃ b1 b2 b3, (∀ r, F r a1 a2 a3 = r b1 b2 b3) ∧ I b1 b2 b3 ∧ μ b1 b2 b3 < μ a1 a2 a3)) {a1 : T1} {a2 : T2} {a3 : T3} (h0 : I a1 a2 a3) : P (lfp3 F a1 a2 a3) := by
  have h : ∀ m a1 a2 a3, μ a1 a2 a3 ≤ m → I a1 a2 a3 → P (lfp3 F a1 a2 a3) := by
    intro m
    induction m with
    | zero =>
      intro a1 a2 a3 hm hI
      rcases hs _ _ _ hI with ⟨y, hy, hp⟩ | ⟨b1, b2, b3, hb, hI', hlt⟩
      · rw [lfp3_done hy]; exact hp
      · omega
    | succ m ih =>
      intro a1 a2 a3 hm hI
      rcases hs _ _ _ hI with ⟨y, hy, hp⟩ | ⟨b1, b2, b3, hb, hI', hlt⟩
      · rw [lfp3_done hy]; exact hp
      · rw [lfp3_step hb]; exact ih _ _ _ (by omega) hI'
  exact h _ _ _ _ (Nat.le_refl _) h0
theorem lfp4_inv {T1 T2 T3 T4 β : Type} {F : (T1 → T2 → T3 → T4 → Option β) → T1 → T2 → T3 → T4 → Option β} (P : Option β → Prop) (N : Nat) (I : Nat → T1 → T2 → T3 → T4 → Prop) (hs : ∀ k a1 a2 a3 a4, k < N → I k a1 a2 a3 a4 → (∃ y, (∀ r, F r a1 a2 a3 a4 = y) ∧ P y) ∨ (∃ b1 b2 b3 b4, (∀ r, F r a1 a2 a3 a4 = r b1 b2 b3 b4) ∧ I (k + 1) b1 b2 b3 b4)) (he : ∀ a1 a2 a3 a4, I N a1 a2 a3 a4 → ∃ y, (∀ r, F r a1 a2 a3 a4 = y) ∧ P y) {a1 : T1} {a2 : T2} {a3 : T3} {a4 : T4} (h0 : I 0 a1 a2 a3 a4) : P (lfp4 F a1 a2 a3 a4) := by
  have h : ∀ m k a1 a2 a3 a4, k + m = N → I k a1 a2 a3 a4 → P (lfp4 F a1 a2 a3 a4) := by
    intro m
    induction m with
    | zero =>
      intro k a1 a2 a3 a4 hk hI
      obtain rfl : k = N := hk
      obtain ⟨y, hy, hp⟩ := he _ _ _ _ hI
      rw [lfp4_done hy]; exact hp
    | succ m ih =>
      intro k a1 a2 a3 a4 hk hI
      rcases hs k _ _ _ _ (by omega) hI with ⟨y, hy, hp⟩ | ⟨b1, b2, b3, b4, hb, hI'⟩
      · rw [lfp4_done hy]; exact hp
      · rw [lfp4_step hb]; exact ih (k + 1) _ _ _ _ (by omega) hI'
  exact h N 0 _ _ _ _ (Nat.zero_add N) h0
theorem lfp4_mu {T1 T2 T3 T4 β : Type} {F : (T1 → T2 → T3 → T4 → Option β) → T1 → T2 → T3 → T4 → Option β} (P : Option β → Prop) (I : T1 → T2 → T3 → T4 → Prop) (μ : T1 → T2 → T3 → T4 → Nat) (hs : ∀ a1 a2 a3 a4, I a1 a2 a3 a4 → (∃ y, (∀ r, F r a1 a2 a3 a4 = y) ∧ P y) ∨ (∃ b1 b2 b3 b4, (∀ r, F r a1 a2 a3 a4 = r b1 b2 b3 b4) ∧ I b1 b2 b3 b4 ∧ μ b1 b2 b3 b4 < μ a1 a2 a3 a4)) {a1 : T1} {a2 : T2} {a3 : T3} {a4 : T4} (h0 : I a1 a2 a3 a4) : P (lfp4 F a1 a2 a3 a4) := by
  have h : ∀ m a1 a2 a3 a4, μ a1 a2 a3 a4 ≤ m → I a1 a2 a3 a4 → P (lfp4 F a1 a2 a3 a4) := by
    intro m
    induction m with
    | zero =>
      intro a1 a2 a3 a4 hm hI
      rcases hs _ _ _ _ hI with ⟨y, hy, hp⟩ | ⟨b1, b2, b3, b4, hb, hI', hlt⟩
      · rw [lfp4_done hy]; exact hp
      · omega
    | succ m ih =>
      intro a1 a2 a3 a4 hm hI
      rcases hs _ _ _ _ hI with ⟨y, hy, hp⟩ | ⟨b1, b2, b3, b4, hb, hI', hlt⟩
      · rw [lfp4_done hy]; exact hp
      · rw [lfp4_step hb]; exact ih _ _ _ _ (by omega) hI'
  exact h _ _ _ _ _ (Nat.le_refl _) h0
theorem lfp5_inv {T1 T2 T3 T4 T5 β : Type} {F : (T1 → T2 → T3 → T4 → T5 → Option β) → T1 → T2 → T3 → T4 → T5 → Option β} (P : Option β → Prop) (N : Nat) (I : Nat → T1 → T2 → T3 → T4 → T5 → Prop) (hs : ∀ k a1 a2 a3 a4 a5, k < N → I k a1 a2 a3 a4 a5 → (∃ y, (∀ r, F r a1 a2 a3 a4 a5 = y) ∧ P y) ∨ (∃ b1 b2 b3 b4 b5, (∀ r, F r a1 a2 a3 a4 a5 = r b1 b2 b3 b4 b5) ∧ I (k + 1) b1 b2 b3 b4 b5)) (he : ∀ a1 a2 a3 a4 a5, I N a1 a2 a3 a4 a5 → ∃ y, (∀ r, F r a1 a2 a3 a4 a5 = y) ∧ P y) {a1 : T1} {a2 : T2} {a3 : T3} {a4 : T4} {a5 : T5} (h0 : I 0 a1 a2 a3 a4 a5) : P (lfp5 F a1 a2 a3 a4 a5) := by
  have h : ∀ m k a1 a2 a3 a4 a5, k + m = N → I k a1 a2 a3 a4 a5 → P (lfp5 F a1 a2 a3 a4 a5) := by
    intro m
    induction m with
    | zero =>
      intro k a1 a2 a3 a4 a5 hk hI
      obtain rfl : k = N := hk
      obtain ⟨y, hy, hp⟩ := he _ _ _ _ _ hI
      rw [lfp5_done hy]; exact hp
    | succ m ih =>
      intro k a1 a2 a3 a4 a5 hk hI
      rcases hs k _ _ _ _ _ (by omega) hI with ⟨y, hy, hp⟩ | ⟨b1, b2, b3, b4, b5, hb, hI'⟩
      · rw [lfp5_done hy]; exact hp
      · rw [lfp5_step hb]; exact ih (k + 1) _ _ _ _ _ (by omega) hI'
  exact h N 0 _ _ _ _ _ (Nat.zero_add N) h0
theorem lfp5_mu {T1 T2 T3 T4 T5 β : Type} {F : (T1 → T2 → T3 → T4 → T5 → Option β) → T1 → T2 → T3 → T4 → T5 → Option β} (P : Option β → Prop) (I : T1 → T2 → T3 → T4 → T5 → Prop) (μ : T1 → T2 → T3 → T4 → T5 → Nat) (hs : ∀ a1 a2 a3 a4 a5, I a1 a2 a3 a4 a5 → (∃ y, (∀ r, F r a1 a2 a3 a4 a5 = y) ∧ P y) ∨ (∃ b1 b2 b3 b4 b5, (∀ r, F r a1 a2 a3 a4 a5 = r b1 b2 b3 b4 b5) ∧ I b1 b2 b3 b4 b5 ∧ μ b1 b2 b3 b4 b5 < μ a1 a2 a3 a4 a5)) {a1 : T1} {a2 : T2} {a3 : T3} {a4 : T4} {a5 : T5} (h0 : I a1 a2 a3 a4 a5) : P (lfp5 F a1 a2 a3 a4 a5) := by
  have h : ∀ m a1 a2 a3 a4 a5, μ a1 a2 a3 a4 a5 ≤ m → I a1 a2 a3 a4 a5 → P (lfp5 F a1 a2 a3 a4 a5) := by
    intro m
    induction m with
    | zero =>
      intro a1 a2 a3 a4 a5 hm hI
      rcases hs _ _ _ _ _ hI with ⟨y, hy, hp⟩ | ⟨b1, b2, b3, b4, b5, hb, hI', hlt⟩
      · rw [lfp5_done hy]; exact hp
      · omega
    | succ m ih =>
      intro a1 a2 a3 a4 a5 hm hI
      rcases hs _ _ _ _ _ hI with ⟨y, hy, hp⟩ | ⟨b1, b2, b3, b4, b5, hb, hI', hlt⟩
      · rw [lfp5_done hy]; exact hp
      · rw [lfp5_step hb]; exact ih _ _ _ _ _ (by omega) hI'
  exact h _ _ _ _ _ _ (Nat.le_refl _) h0
theorem lfp6_inv {T1 T2 T3 T4 T5 T6 β : Type} {F : (T1 → T2 → T3 → T4 → T5 → T6 → Option β) → T1 → T2 → T3 → T4 → T5 → T6 → Option β} (P : Option β → Prop) (N : Nat) (I : Nat → T1 → T2 → T3 → T4 → T5 → T6 → Prop) (hs : ∀ k a1 a2 a3 a4 a5 a6, k < N → I k a1 a2 a3 a4 a5 a6 → (∃ y, (∀ r, F r a1 a2 a3 a4 a5 a6 = y) ∧ P y) ∨ (∃ b1 b2 b3 b4 b5 b6, (∀ r, F r a1 a2 a3 a4 a5 a6 = r b1 b2 b3 b4 b5 b6) ∧ I (k + 1) b1 b2 b3 b4 b5 b6)) (he : ∀ a1 a2 a3 a4 a5 a6, I N a1 a2 a3 a4 a5 a6 → ∃ y, (∀ r, F r a1 a2 a3 a4 a5 a6 = y) ∧ P y) {a1 : T1} {a2 : T2} {a3 : T3} {a4 : T4} {a5 : T5} {a6 : T6} (h0 : I 0 a1 a2 a3 a4 a5 a6) : P (lfp6 F a1 a2 a3 a4 a5 a6) := by
  have h : ∀ m k a1 a2 a3 a4 a5 a6, k + m = N → I k a1 a2 a3 a4 a5 a6 → P (lfp6 F a1 a2 a3 a4 a5 a6) := by
    intro m
    induction m with
    | zero =>
      intro k a1 a2 a3 a4 a5 a6 hk hI
      obtain rfl : k = N := hk
      obtain ⟨y, hy, hp⟩ := he _ _ _ _ _ _ hI
      rw [lfp6_done hy]; exact hp
    | succ m ih =>
      intro k a1 a2 a3 a4 a5 a6 hk hI
      rcases hs k _ _ _ _ _ _ (by omega) hI with ⟨y, hy, hp⟩ | ⟨b1, b2, b3, b4, b5, b6, hb, hI'⟩
      · rw [lfp6_done hy]; exact hp
      · rw [lfp6_step hb]; exact ih (k + 1) _ _ _ _ _ _ (by omega) hI'
  exact h N 0 _ _ _ _ _ _ (Nat.zero_add N) h0
theorem lfp6_mu {T1 T2 T3 T4 T5 T6 β : Type} {F : (T1 → T2 → T3 → T4 → T5 → T6 → Option β) → T1 → T2 → T3 → T4 → T5 → T6 → Option β} (P : Option β → Prop) (I : T1 → T2 → T3 → T4 → T5 → T6 → Prop) (μ : T1 → T2 → T3 → T4 → T5 → T6 → Nat) (hs : ∀ a1 a2 a3 a4 a5 a6, I a1 a2 a3 a4 a5 a6 → (∃ y, (∀ r, F r a1 a2 a3 a4 a5 a6 = y) ∧ P y) ∨ (∃ b1 b2 b3 b4 b5 b6, (∀ r, F r a1 a2 a3 a4 a5 a6 = r b1 b2 b3 b4 b5 b6) ∧ I b1 b2 b3 b4 b5 b6 ∧ μ b1 b2 b3 b4 b5 b6 < μ a1 a2 a3 a4 a5 a6)) {a1 : T1} {a2 : T2} {a3 : T3} {a4 : T4} {a5 : T5} {a6 : T6} (h0 : I a1 a2 a3 a4 a5 a6) : P (lfp6 F a1 a2 a3 a4 a5 a6) := by
  have h : ∀ m a1 a2 a3 a4 a5 a6, μ a1 a2 a3 a4 a5 a6 ≤ m → I a1 a2 a3 a4 a5 a6 → P (lfp6 F a1 a2 a3 a4 a5 a6) := by
    intro m
    induction m with
    | zero =>
      intro a1 a2 a3 a4 a5 a6 hm hI
      rcases hs _ _ _ _ _ _ hI with ⟨y, hy, hp⟩ | ⟨b1, b2, b3, b4, b5, b6, hb, hI', hlt⟩
      · rw [lfp6_done hy]; exact hp
      · omega
    | succ m ih =>
      intro a1 a2 a3 a4 a5 a6 hm hI
      rcases hs _ _ _ _ _ _ hI with ⟨y, hy, hp⟩ | ⟨b1, b2, b3, b4, b5, b6, hb, hI', hlt⟩
      · rw [lfp6_done hy]; exact hp
      · rw [lfp6_step hb]; exact ih _ _ _ _ _ _ (by omega) hI'
  exact h _ _ _ _ _ _ _ (Nat.le_refl _) h0
theorem lfp7_inv {T1 T2 T3 T4 T5 T6 T7 β : Type} {F : (T1 → T2 → T3 → T4 → T5 → T6 → T7 → Option β) → T1 → T2 → T3 → T4 → T5 → T6 → T7 → Option β} (P : Option β → Prop) (N : Nat) (I : Nat → T1 → T2 → T3 → T4 → T5 → T6 → T7 → Prop) (hs : ∀ k a1 a2 a3 a4 a5 a6 a7, k < N → I k a1 a2 a3 a4 a5 a6 a7 → (∃ y, (∀ r, F r a1 a2 a3 a4 a5 a6 a7 = y) ∧ P y) ∨ (∃ b1 b2 b3 b4 b5 b6 b7, (∀ r, F r a1 a2 a3 a4 a5 a6 a7 = r b1 b2 b3 b4 b5 b6 b7) ∧ I (k + 1) b1 b2 b3 b4 b5 b6 b7)) (he : ∀ a1 a2 a3 a4 a5 a6 a7, I N a1 a2 a3 a4 a5 a6 a7 → ∃ y, (∀ r, F r a1 a2 a3 a4 a5 a6 a7 = y) ∧ P y) {a1 : T1} {a2 : T2} {a3 : T3} {a4 : T4} {a5 : T5} {a6 : T6} {a7 : T7} (h0 : I 0 a1 a2 a3 a4 a5 a6 a7) : P (lfp7 F a1 a2 a3 a4 a5 a6 a7) := by
  have h : ∀ m k a1 a2 a3 a4 a5 a6 a7, k + m = N → I k a1 a2 a3 a4 a5 a6 a7 → P (lfp7 F a1 a2 a3 a4 a5 a6 a7) := by
    intro m
    induction m with
    | zero =>
      intro k a1 a2 a3 a4 a5 a6 a7 hk hI
      obtain rfl : k = N := hk
      obtain ⟨y, hy, hp⟩ := he _ _ _ _ _ _ _ hI
      rw [lfp7_done hy]; exact hp
    | succ m ih =>
      intro k a1 a2 a3 a4 a5 a6 a7 hk hI
      rcases hs k _ _ _ _ _ _ _ (by omega) hI with ⟨y, hy, hp⟩ | ⟨b1, b2, b3, b4, b5, b6, b7, hb, hI'⟩
      · rw [lfp7_done hy]; exact hp
      · rw [lfp7_step hb]; exact ih (k + 1) _ _ _ _ _ _ _ (by omega) hI'
  exact h N 0 _ _ _ _ _ _ _ (Nat.zero_add N) h0
theorem lfp7_mu {T1 T2 T3 T4 T5 T6 T7 β : Type} {F : (T1 → T2 → T3 → T4 → T5 → T6 → T7 → Option β) → T1 → T2 → T3 → T4 → T5 → T6 → T7 → Option β} (P : Option β → Prop) (I : T1 → T2 → T3 → T4 → T5 → T6 → T7 → Prop) (μ : T1 → T2 → T3 → T4 → T5 → T6 → T7 → Nat) (hs : ∀ a1 a2 a3 a4 a5 a6 a7, I a1 a2 a3 a4 a5 a6 a7 → (∃ y, (∀ r, F r a1 a2 a3 a4 a5 a6 a7 = y) ∧ P y) ∨ (∃ b1 b2 b3 b4 b5 b6 b7, (∀ r, F r a1 a2 a3 a4 a5 a6 a7 = r b1 b2 b3 b4 b5 b6 b7) ∧ I b1 b2 b3 b4 b5 b6 b7 ∧ μ b1 b2 b3 b4 b5 b6 b7 < μ a1 a2 a3 a4 a5 a6 a7)) {a1 : T1} {a2 : T2} {a3 : T3} {a4 : T4} {a5 : T5} {a6 : T6} {a7 : T7} (h0 : I a1 a2 a3 a4 a5 a6 a7) : P (lfp7 F a1 a2 a3 a4 a5 a6 a7) := by
  have h : ∀ m a1 a2 a3 a4 a5 a6 a7, μ a1 a2 a3 a4 a5 a6 a7 ≤ m → I a1 a2 a3 a4 a5 a6 a7 → P (lfp7 F a1 a2 a3 a4 a5 a6 a7) := by
    intro m
    induction m with
    | zero =>
      intro a1 a2 a3 a4 a5 a6 a7 hm hI
      rcases hs _ _ _ _ _ _ _ hI with ⟨y, hy, hp⟩ | ⟨b1, b2, b3, b4, b5, b6, b7, hb, hI', hlt⟩
      · rw [lfp7_done hy]; exact hp
      · omega
    | succ m ih =>
      intro a1 a2 a3 a4 a5 a6 a7 hm hI
      rcases hs _ _ _ _ _ _ _ hI with ⟨y, hy, hp⟩ | ⟨b1, b2, b3, b4, b5, b6, b7, hb, hI', hlt⟩
      · rw [lfp7_done hy]; exact hp
      · rw [lfp7_step hb]; exact ih _ _ _ _ _ _ _ (by omega) hI'
  exact h _ _ _ _ _ _ _ _ (Nat.le_refl _) h0
theorem lfp8_inv {T1 T2 T3 T4 T5 T6 T7 T8 β : Type} {F : (T1 → T2 → T3 → T4 → T5 → T6 → T7 → T8 → Option β) → T1 → T2 → T3 → T4 → T5 → T6 → T7 → T8 → Option β} (P : Option β → Prop) (N : Nat) (I : Nat → T1 → T2 → T3 → T4 → T5 → T6 → T7 → T8 → Prop) (hs : ∀ k a1 a2 a3 a4 a5 a6 a7 a8, k < N → I k a1 a2 a3 a4 a5 a6 a7 a8 → (∃ y, (∀ r, F r a1 a2 a3 a4 a5 a6 a7 a8 = y) ∧ P y) ∨ (∃ b1 b2 b3 b4 b5 b6 b7 b8, (∀ r, F r a1 a2 a3 a4 a5 a6 a7 a8 = r b1 b2 b3 b4 b5 b6 b7 b8) ∧ I (k + 1) b1 b2 b3 b4 b5 b6 b7 b8)) (he : ∀ a1 a2 a3 a4 a5 a6 a7 a8, I N a1 a2 a3 a4 a5 a6 a7 a8 → ∃ y, (∀ r, F r a1 a2 a3 a4 a5 a6 a7 a8 = y) ∧ P y) {a1 : T1} {a2 : T2} {a3 : T3} {a4 : T4} {a5 : T5} {a6 : T6} {a7 : T7} {a8 : T8} (h0 : I 0 a1 a2 a3 a4 a5 a6 a7 a8) : P (lfp8 F a1 a2 a3 a4 a5 a6 a7 a8) := by
  have h : ∀ m k a1 a2 a3 a4 a5 a6 a7 a8, k + m = N → I k a1 a2 a3 a4 a5 a6 a7 a8 → P (lfp8 F a1 a2 a3 a4 a5 a6 a7 a8) := by
    intro m
    induction m with
    | zero =>
      intro k a1 a2 a3 a4 a5 a6 a7 a8 hk hI
      obtain rfl : k = N := hk
      obtain ⟨y, hy, hp⟩ := he _ _ _ _ _ _ _ _ hI
      rw [lfp8_done hy]; exact hp
    | succ m ih =>
      intro k a1 a2 a3 a4 a5 a6 a7 a8 hk hI
      rcases hs k _ _ _ _ _ _ _ _ (by omega) hI with ⟨y, hy, hp⟩ | ⟨b1, b2, b3, b4, b5, b6, b7, b8, hb, hI'⟩
      · rw [lfp8_done hy]; exact hp
      · rw [lfp8_step hb]; exact ih (k + 1) _ _ _ _ _ _ _ _ (by omega) hI'
  exact h N 0 _ _ _ _ _ _ _ _ (Nat.zero_add N) h0
theorem lfp8_mu {T1 T2 T3 T4 T5 T6 T7 T8 β : Type} {F : (T1 → T2 → T3 → T4 → T5 → T6 → T7 → T8 → Option β) → T1 → T2 → T3 → T4 → T5 → T6 → T7 → T8 → Option β} (P : Option β → Prop) (I : T1 → T2 → T3 → T4 → T5 → T6 → T7 → T8 → Prop) (μ : T1 → T2 → T3 → T4 → T5 → T6 → T7 → T8 → Nat) (hs : ∀ a1 a2 a3 a4 a5 a6 a7 a8, I a1 a2 a3 a4 a5 a6 a7 a8 → (∃ y, (∀ r, F r a1 a2 a3 a4 a5 a6 a7 a8 = y) ∧ P y) ∨ (∃ b1 b2 b3 b4 b5 b6 b7 b8, (∀ r, F r a1 a2 a3 a4 a5 a6 a7 a8 = r b1 b2 b3 b4 b5 b6 b7 b8) ∧ I b1 b2 b3 b4 b5 b6 b7 b8 ∧ μ b1 b2 b3 b4 b5 b6 b7 b8 < μ a1 a2 a3 a4 a5 a6 a7 a8)) {a1 : T1} {a2 : T2} {a3 : T3} {a4 : T4} {a5 : T5} {a6 : T6} {a7 : T7} {a8 : T8} (h0 : I a1 a2 a3 a4 a5 a6 a7 a8) : P (lfp8 F a1 a2 a3 a4 a5 a6 a7 a8) := by
  have h : ∀ m a1 a2 a3 a4 a5 a6 a7 a8, μ a1 a2 a3 a4 a5 a6 a7 a8 ≤ m → I a1 a2 a3 a4 a5 a6 a7 a8 → P (lfp8 F a1 a2 a3 a4 a5 a6 a7 a8) := by
    intro m
    induction m with
    | zero =>
      intro a1 a2 a3 a4 a5 a6 a7 a8 hm hI
      rcases hs _ _ _ _ _ _ _ _ hI with ⟨y, hy, hp⟩ | ⟨b1, b2, b3, b4, b5, b6, b7, b8, hb, hI', hlt⟩
      · rw [lfp8_done hy]; exact hp
      · omega
    | succ m ih =>
      intro a1 a2 a3 a4 a5 a6 a7 a8 hm hI
      rcases hs _ _ _ _ _ _ _ _ hI with ⟨y, hy, hp⟩ | ⟨b1, b2, b3, b4, b5, b6, b7, b8, hb, hI', hlt⟩
      · rw [lfp8_done hy]; exact hp
      · rw [lfp8_step hb]; exact ih _ _ _ _ _ _ _ _ (by omega) hI'
  exact h _ _ _ _ _ _ _ _ _ (Nat.le_refl _) h0
theorem lfp9_inv {T1 T2 T3 T4 T5 T6 T7 T8 T9 β : Type} {F : (T1 → T2 → T3 → T4 → T5 → T6 → T7 → T8 → T9 → Option β) → T1 → T2 → T3 → T4 → T5 → T6 → T7 → T8 → T9 → Option β} (P : Option β → Prop) (N : Nat) (I : Nat → T1 → T2 → T3 → T4 → T5 → T6 → T7 → T8 → T9 → Prop) (hs : ∀ k a1 a2 a3 a4 a5 a6 a7 a8 a9, k < N → I k a1 a2 a3 a4 a5 a6 a7 a8 a9 → (∃ y, (∀ r, F r a1 a2 a3 a4 a5 a6 a7 a8 a9 = y) ∧ P y) ∨ (∃ b1 b2 b3 b4 b5 b6 b7 b8 b9, (∀ r, F r a1 a2 a3 a4 a5 a6 a7 a8 a9 = r b1 b2 b3 b4 b5 b6 b7 b8 b9) ∧ I (k + 1) b1 b2 b3 b4 b5 b6 b7 b8 b9)) (he : ∀ a1 a2 a3 a4 a5 a6 a7 a8 a9, I N a1 a2 a3 a4 a5 a6 a7 a8 a9 → ∃ y, (∀ r, F r a1 a2 a3 a4 a5 a6 a7 a8 a9 = y) ∧ P y) {a1 : T1} {a2 : T2} {a3 : T3} {a4 : T4} {a5 : T5} {a6 : T6} {a7 : T7} {a8 : T8} {a9 : T9} (h0 : I 0 a1 a2 a3 a4 a5 a6 a7 a8 a9) : P (lfp9 F a1 a2 a3 a4 a5 a6 a7 a8 a9) := by
  have h : ∀ m k a1 a2 a3 a4 a5 a6 a7 a8 a9, k + m = N → I k a1 a2 a3 a4 a5 a6 a7 a8 a9 → P (lfp9 F a1 a2 a3 a4 a5 a6 a7 a8 a9) := by
    intro m
    induction m with
    | zero =>
      intro k a1 a2 a3 a4 a5 a6 a7 a8 a9 hk hI
      obtain rfl : k = N := hk
      obtain ⟨y, hy, hp⟩ := he _ _ _ _ _ _ _ _ _ hI
      rw [lfp9_done hy]; exact hp
    | succ m ih =>
      intro k a1 a2 a3 a4 a5 a6 a7 a8 a9 hk hI
      rcases hs k _ _ _ _ _ _ _ _ _ (by omega) hI with ⟨y, hy, hp⟩ | ⟨b1, b2, b3, b4, b5, b6, b7, b8, b9, hb, hI'⟩
      · rw [lfp9_done hy]; exact hp
      · rw [lfp9_step hb]; exact ih (k + 1) _ _ _ _ _ _ _ _ _ (by omega) hI'
  exact h N 0 _ _ _ _ _ _ _ _ _ (Nat.zero_add N) h0
theorem lfp9_mu {T1 T2 T3 T4 T5 T6 T7 T8 T9 β : Type} {F : (T1 → T2 → T3 → T4 → T5 → T6 → T7 → T8 → T9 → Option β) → T1 → T2 → T3 → T4 → T5 → T6 → T7 → T8 → T9 → Option β} (P : Option β → Prop) (I : T1 → T2 → T3 → T4 → T5 → T6 → T7 → T8 → T9 → Prop) (μ : T1 → T2 → T3 → T4 → T5 → T6 → T7 → T8 → T9 → Nat) (hs : ∀ a1 a2 a3 a4 a5 a6 a7 a8 a9, I a1 a2 a3 a4 a5 a6 a7 a8 a9 → (∃ y, (∀ r, F r a1 a2 a3 a4 a5 a6 a7 a8 a9 = y) ∧ P y) ∨ (∃ b1 b2 b3 b4 b5 b6 b7 b8 b9, (∀ r, F r a1 a2 a3 a4 a5 a6 a7 a8 a9 = r b1 b2 b3 b4 b5 b6 b7 b8 b9) ∧ I b1 b2 b3 b4 b5 b6 b7 b8 b9 ∧ μ b1 b2 b3 b4 b5 b6 b7 b8 b9 < μ a1 a2 a3 a4 a5 a6 a7 a8 a9)) {a1 : T1} {a2 : T2} {a3 : T3} {a4 : T4} {a5 : T5} {a6 : T6} {a7 : T7} {a8 : T8} {a9 : T9} (h0 : I a1 a2 a3 a4 a5 a6 a7 a8 a9) : P (lfp9 F a1 a2 a3 a4 a5 a6 a7 a8 a9) := by
  have h : ∀ m a1 a2 a3 a4 a5 a6 a7 a8 a9, μ a1 a2 a3 a4 a5 a6 a7 a8 a9 ≤ m → I a1 a2 a3 a4 a5 a6 a7 a8 a9 → P (lfp9 F a1 a2 a3 a4 a5 a6 a7 a8 a9) := by
    intro m
    induction m with
    | zero =>
      intro a1 a2 a3 a4 a5 a6 a7 a8 a9 hm hI
      rcases hs _ _ _ _ _ _ _ _ _ hI with ⟨y, hy, hp⟩ | ⟨b1, b2, b3, b4, b5, b6, b7, b8, b9, hb, hI', hlt⟩
      · rw [lfp9_done hy]; exact hp
      · omega
    | succ m ih =>
      intro a1 a2 a3 a4 a5 a6 a7 a8 a9 hm hI
      rcases hs _ _ _ _ _ _ _ _ _ hI with ⟨y, hy, hp⟩ | ⟨b1, b2, b3, b4, b5, b6, b7, b8, b9, hb, hI', hlt⟩
      · rw [lfp9_done hy]; exact hp
      · rw [lfp9_step hb]; exact ih _ _ _ _ _ _ _ _ _ (by omega) hI'
  exact h _ _ _ _ _ _ _ _ _ _ (Nat.le_refl _) h0
theorem lfp10_inv {T1 T2 T3 T4 T5 T6 T7 T8 T9 T10 β : Type} {F : (T1 → T2 → T3 → T4 → T5 → T6 → T7 → T8 → T9 → T10 → Option β) → T1 → T2 → T3 → T4 → T5 → T6 → T7 → T8 → T9 → T10 → Option β} (P : Option β → Prop) (N : Nat) (I : Nat → T1 → T2 → T3 → T4 → T5 → T6 → T7 → T8 → T9 → T10 → Prop) (hs : ∀ k a1 a2 a3 a4 a5 a6 a7 a8 a9 a10, k < N → I k a1 a2 a3 a4 a5 a6 a7 a8 a9 a10 → (∃ y, (∀ r, F r a1 a2 a3 a4 a5 a6 a7 a8 a9 a10 = y) ∧ P y) ∨ (∃ b1 b2 b3 b4 b5 b6 b7 b8 b9 b10, (∀ r, F r a1 a2 a3 a4 a5 a6 a7 a8 a9 a10 = r b1 b2 b3 b4 b5 b6 b7 b8 b9 b10) ∧ I (k + 1) b1 b2 b3 b4 b5 b6 b7 b8 b9 b10)) (he : ∀ a1 a2 a3 a4 a5 a6 a7 a8 a9 a10, I N a1 a2 a3 a4 a5 a6 a7 a8 a9 a10 → ∃ y, (∀ r, F r a1 a2 a3 a4 a5 a6 a7 a8 a9 a10 = y) ∧ P y) {a1 : T1} {a2 : T2} {a3 : T3} {a4 : T4} {a5 : T5} {a6 : T6} {a7 : T7} {a8 : T8} {a9 : T9} {a10 : T10} (h0 : I 0 a1 a2 a3 a4 a5 a6 a7 a8 a9 a10) : P (lfp10 F a1 a2 a3 a4 a5 a6 a7 a8 a9 a10) := by
  have h : ∀ m k a1 a2 a3 a4 a5 a6 a7 a8 a9 a10, k + m = N → I k a1 a2 a3 a4 a5 a6 a7 a8 a9 a10 → P (lfp10 F a1 a2 a3 a4 a5 a6 a7 a8 a9 a10) := by
    intro m
    induction m with
    | zero =>
      intro k a1 a2 a3 a4 a5 a6 a7 a8 a9 a10 hk hI
      obtain rfl : k = N := hk
      obtain ⟨y, hy, hp⟩ := he _ _ _ _ _ _ _ _ _ _ hI
      rw [lfp10_done hy]; exact hp
    | succ m ih =>
      intro k a1 a2 a3 a4 a5 a6 a7 a8 a9 a10 hk hI
      rcases hs k _ _ _ _ _ _ _ _ _ _ (by omega) hI with ⟨y, hy, hp⟩ | ⟨b1, b2, b3, b4, b5, b6, b7, b8, b9, b10, hb, hI'⟩
      · rw [lfp10_done hy]; exact hp
      · rw [lfp10_step hb]; exact ih (k + 1) _ _ _ _ _ _ _ _ _ _ (by omega) hI'
  exact h N 0 _ _ _ _ _ _ _ _ _ _ (Nat.zero_add N) h0
theorem lfp10_mu {T1 T2 T3 T4 T5 T6 T7 T8 T9 T10 β : Type} {F : (T1 → T2 → T3 → T4 → T5 → T6 → T7 → T8 → T9 → T10 → Option β) → T1 → T2 → T3 → T4 → T5 → T6 → T7 → T8 → T9 → T10 → Option β} (P : Option β → Prop) (I : T1 → T2 → T3 → T4 → T5 → T6 → T7 → T8 → T9 → T10 → Prop) (μ : T1 → T2 → T3 → T4 → T5 → T6 → T7 → T8 → T9 → T10 → Nat) (hs : ∀ a1 a2 a3 a4 a5 a6 a7 a8 a9 a10, I a1 a2 a3 a4 a5 a6 a7 a8 a9 a10 → (∃ y, (∀ r, F r a1 a2 a3 a4 a5 a6 a7 a8 a9 a10 = y) ∧ P y) ∨ (∃ b1 b2 b3 b4 b5 b6 b7 b8 b9 b10, (∀ r, F r a1 a2 a3 a4 a5 a6 a7 a8 a9 a10 = r b1 b2 b3 b4 b5 b6 b7 b8 b9 b10) ∧ I b1 b2 b3 b4 b5 b6 b7 b8 b9 b10 ∧ μ b1 b2 b3 b4 b5 b6 b7 b8 b9 b10 < μ a1 a2 a3 a4 a5 a6 a7 a8 a9 a10)) {a1 : T1} {a2 : T2} {a3 : T3} {a4 : T4} {a5 : T5} {a6 : T6} {a7 : T7} {a8 : T8} {a9 : T9} {a10 : T10} (h0 : I a1 a2 a3 a4 a5 a6 a7 a8 a9 a10) : P (lfp10 F a1 a2 a3 a4 a5 a6 a7 a8 a9 a10) := by
  have h : ∀ m a1 a2 a3 a4 a5 a6 a7 a8 a9 a10, μ a1 a2 a3 a4 a5 a6 a7 a8 a9 a10 ≤ m → I a1 a2 a3 a4 a5 a6 a7 a8 a9 a10 → P (lfp10 F a1 a2 a3 a4 a5 a6 a7 a8 a9 a10) := by
    intro m
    induction m with
    | zero =>
      intro a1 a2 a3 a4 a5 a6 a7 a8 a9 a10 hm hI
      rcases hs _ _ _ _ _ _ _ _ _ _ hI with ⟨y, hy, hp⟩ | ⟨b1, b2, b3, b4, b5, b6, b7, b8, b9, b10, hb, hI', hlt⟩
      · rw [lfp10_done hy]; exact hp
      · omega
    | succ m ih =>
      intro a1 a2 a3 a4 a5 a6 a7 a8 a9 a10 hm hI
      rcases hs _ _ _ _ _ _ _ _ _ _ hI with ⟨y, hy, hp⟩ | ⟨b1, b2, b3, b4, b5, b6, b7, b8, b9, b10, hb, hI', hlt⟩
      · rw [lfp10_done hy]; exact hp
      · rw [lfp10_step hb]; exact ih _ _ _ _ _ _ _ _ _ _ (by omega) hI'
  exact h _ _ _ _ _ _ _ _ _ _ _ (Nat.le_refl _) h0
theorem bd2_s {T1 T2 β : Type} {a1 : T1} {a2 : T2} {f : T1 → T2 → Option β} : bd2 (some (a1, a2)) f = f a1 a2 := rfl
theorem bd3_s {T1 T2 T3 β : Type} {a1 : T1} {a2 : T2} {a3 : T3} {f : T1 → T2 → T3 → Option β} : bd3 (some (a1, a2, a3)) f = f a1 a2 a3 := rfl
theorem bd4_s {T1 T2 T3 T4 β : Type} {a1 : T1} {a2 : T2} {a3 : T3} {a4 : T4} {f : T1 → T2 → T3 → T4 → Option β} : bd4 (some (a1, a2, a3, a4)) f = f a1 a2 a3 a4 := rfl
theorem bd5_s {T1 T2 T3 T4 T5 β : Type} {a1 : T1} {a2 : T2} {a3 : T3} {a4 : T4} {a5 : T5} {f : T1 → T2 → T3 → T4 → T5 → Option β} : bd5 (some (a1, a2, a3, a4, a5)) f = f a1 a2 a3 a4 a5 := rfl
theorem bd6_s {T1 T2 T3 T4 T5 T6 β : Type} {a1 : T1} {a2 : T2} {a3 : T3} {a4 : T4} {a5 : T5} {a6 : T6} {f : T1 → T2 → T3 → T4 → T5 → T6 → Option β} : bd6 (some (a1, a2, a3, a4, a5, a6)) f = f a1 a2 a3 a4 a5 a6 := rfl
theorem bd7_s {T1 T2 T3 T4 T5 T6 T7 β : Type} {a1 : T1} {a2 : T2} {a3 : T3} {a4 : T4} {a5 : T5} {a6 : T6} {a7 : T7} {f : T1 → T2 → T3 → T4 → T5 → T6 → T7 → Option β} : bd7 (some (a1, a2, a3, a4, a5, a6, a7)) f = f a1 a2 a3 a4 a5 a6 a7 := rfl
theorem bd8_s {T1 T2 T3 T4 T5 T6 T7 T8 β : Type} {a1 : T1} {a2 : T2} {a3 : T3} {a4 : T4} {a5 : T5} {a6 : T6} {a7 : T7} {a8 : T8} {f : T1 → T2 → T3 → T4 → T5 → T6 → T7 → T8 → Option β} : bd8 (some (a1, a2, a3, a4, a5, a6, a7, a8)) f = f a1 a2 a3 a4 a5 a6 a7 a8 := rfl
theorem bd9_s {T1 T2 T3 T4 T5 T6 T7 T8 T9 β : Type} {a1 : T1} {a2 : T2} {a3 : T3} {a4 : T4} {a5 : T5} {a6 : T6} {a7 : T7} {a8 : T8} {a9 : T9} {f : T1 → T2 → T3 → T4 → T5 → T6 → T7 → T8 → T9 → Option β} : bd9 (some (a1, a2, a3, a4, a5, a6, a7, a8, a9)) f = f a1 a2 a3 a4 a5 a6 a7 a8 a9 := rfl
theorem bd10_s {T1 T2 T3 T4 T5 T6 T7 T8 T9 T10 β : Type} {a1 : T1} {a2 : T2} {a3 : T3} {a4 : T4} {a5 : T5} {a6 : T6} {a7 : T7} {a8 : T8} {a9 : T9} {a10 : T10} {f : T1 → T2 → T3 → T4 → T5 → T6 → T7 → T8 → T9 → T10 → Option β} : bd10 (some (a1, a2, a3, a4, a5, a6, a7, a8, a9, a10)) f = f a1 a2 a3 a4 a5 a6 a7 a8 a9 a10 := rfl
theorem bd11_s {T1 T2 T3 T4 T5 T6 T7 T8 T9 T10 T11 β : Type} {a1 : T1} {a2 : T2} {a3 : T3} {a4 : T4} {a5 : T5} {a6 : T6} {a7 : T7} {a8 : T8} {a9 : T9} {a10 : T10} {a11 : T11} {f : T1 → T2 → T3 → T4 → T5 → T6 → T7 → T8 → T9 → T10 → T11 → Option β} : bd11 (some (a1, a2, a3, a4, a5, a6, a7, a8, a9, a10, a11)) f = f a1 a2 a3 a4 a5 a6 a7 a8 a9 a10 a11 := rfl
theorem bd12_s {T1 T2 T3 T4 T5 T6 T7 T8 T9 T10 T11 T12 β : Type} {a1 : T1} {a2 : T2} {a3 : T3} {a4 : T4} {a5 : T5} {a6 : T6} {a7 : T7} {a8 : T8} {a9 : T9} {a10 : T10} {a11 : T11} {a12 : T12} {f : T1 → T2 → T3 → T4 → T5 → T6 → T7 → T8 → T9 → T10 → T11 → T12 → Option β} : bd12 (some (a1, a2, a3, a4, a5, a6, a7, a8, a9, a10, a11, a12)) f = f a1 a2 a3 a4 a5 a6 a7 a8 a9 a10 a11 a12 := rfl
theorem bd13_s {T1 T2 T3 T4 T5 T6 T7 T8 T9 T10 T11 T12 T13 β : Type} {a1 : T1} {a2 : T2} {a3 : T3} {a4 : T4} {a5 : T5} {a6 : T6} {a7 : T7} {a8 : T8} {a9 : T9} {a10 : T10} {a11 : T11} {a12 : T12} {a13 : T13} {f : T1 → T2 → T3 → T4 → T5 → T6 → T7 → T8 → T9 → T10 → T11 → T12 → T13 → Option β} : bd13 (some (a1, a2, a3, a4, a5, a6, a7, a8, a9, a10, a11, a12, a13)) f = f a1 a2 a3 a4 a5 a6 a7 a8 a9 a10 a11 a12 a13 := rfl
theorem bd14_s {T1 T2 T3 T4 T5 T6 T7 T8 T9 T10 T11 T12 T13 T14 β : Type} {a1 : T1} {a2 : T2} {a3 : T3} {a4 : T4} {a5 : T5} {a6 : T6} {a7 : T7} {a8 : T8} {a9 : T9} {a10 : T10} {a11 : T11} {a12 : T12} {a13 : T13} {a14 : T14} {f : T1 → T2 → T3 → T4 → T5 → T6 → T7 → T8 → T9 → T10 → T11 → T12 → T13 → T14 → Option β} : bd14 (some (a1, a2, a3, a4, a5, a6, a7, a8, a9, a10, a11, a12, a13, a14)) f = f a1 a2 a3 a4 a5 a6 a7 a8 a9 a10 a11 a12 a13 a14 := rfl
theorem c2 : (2 : Int32) = nI 2 := rfl
theorem c3 : (3 : Int32) = nI 3 := rfl
theorem c4 : (4 : Int32) = nI 4 := rfl
theorem c5 : (5 : Int32) = nI 5 := rfl
theorem c6 : (6 : Int32) = nI 6 := rfl
theorem c7 : (7 : Int32) = nI 7 := rfl
theorem c8 : (8 : Int32) = nI 8 := rfl
theorem c9 : (9 : Int32) = nI 9 := rfl
theorem c10 : (10 : Int32) = nI 10 := rfl
theorem c20 : (20 : Int32) = nI 20 := rfl
theorem c64 : (64 : Int32) = nI 64 := rfl
theorem c127 : (127 : Int32) = nI 127 := rfl
theorem c128 : (128 : Int32) = nI 128 := rfl
theorem c387 : (387 : Int32) = nI 387 := rfl
theorem c800 : (800 : Int32) = nI 800 := rfl
