/-! arcs of a round -/
/-- the points of an arc: l of them, from place i on -/
def Mk (ρ : Nat → Nat) (n i : Nat) : Nat → Nat
  | 0 => 0
  | l + 1 => Mk ρ n i l ||| 2 ^ ρ ((i + l) % n)
def rho (n v x : Nat) : Nat := (rdL n v).getD x 0
def zT (n : Nat) (v : Nat) : Nat := sm (fun i => sm (fun l => 65536 ^ Mk (rho n v) n i (l + 1)) (n - 1)) n
/-- how many rounds have s for an arc -/
def dS (n s : Nat) : Nat := if s = 0 ∨ s = 2 ^ n - 1 then 0 else fac (pc s) * fac (n - pc s)
theorem arc_sum : ∀ n, n < 8 → 0 < n → sm (zT n) (fac (n - 1)) = sm (fun s => dS n s * 65536 ^ s) (2 ^ n) := by decide +kernel
/-- runs of the places of t -/
def runs (n t : Nat) : Nat := cnt (fun x => t.testBit x && !t.testBit ((x + n - 1) % n)) n
/-- at how many arcs the places are t -/
def arcsAt (ρ : Nat → Nat) (n s : Nat) : Nat := sm (fun i => sm (fun l => if Mk ρ n i (l + 1) = s then 1 else 0) (n - 1)) n
theorem runs_tbl : ∀ n, n < 8 → 0 < n → ∀ t, t < 2 ^ n → (if runs n t ≤ 1 then 1 else 0) = (if t = 0 then 1 else 0) + (if t = 2 ^ n - 1 then 1 else 0) + arcsAt (fun x => x) n t := by decide +kernel
