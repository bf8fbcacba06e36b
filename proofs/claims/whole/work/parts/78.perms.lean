/-! names: all orders of the points -/
def im (h : Nat → Nat) (s : Nat) : Nat → Nat
  | 0 => 0
  | p + 1 => im h s p ||| (if s.testBit p = true then 2 ^ h p else 0)
def hsw (a b p : Nat) : Nat := if p = a then b else if p = b then a else p
def hvis (n : Nat) : Nat → Nat → List Nat → List Nat → List (List Nat)
  | 0, _, _, _ => []
  | f + 1, i, c, h => if n ≤ i then [] else if i ≤ c.getD i 0 then hvis n f (i + 1) (c.set i 0) h else h.map (hsw (if i % 2 = 0 then 0 else c.getD i 0) i) :: hvis n f 1 (c.set i (c.getD i 0 + 1)) (h.map (hsw (if i % 2 = 0 then 0 else c.getD i 0) i))
def hend (n : Nat) : Nat → Nat → List Nat → Bool
  | 0, _, _ => false
  | f + 1, i, c => if n ≤ i then true else if i ≤ c.getD i 0 then hend n f (i + 1) (c.set i 0) else hend n f 1 (c.set i (c.getD i 0 + 1))
/-- the orders in the order of their numbers -/
def lexL (n v : Nat) : List Nat := layL n (2 ^ n - 1) v
def rk : Nat → List Nat → Nat
  | _, [] => 0
  | R, a :: l => pc (R &&& (2 ^ a - 1)) * fac l.length + rk (R ^^^ 2 ^ a) l
def vis (n : Nat) : List (List Nat) := List.range n :: hvis n 20000 1 [0, 0, 0, 0, 0, 0, 0] (List.range n)
theorem vis_ok : ∀ n, n < 8 → 0 < n → (vis n).all (fun h => decide (rk (2 ^ n - 1) h < fac n) && (lexL n (rk (2 ^ n - 1) h) == h)) = true := by decide +kernel
theorem vis_sum : ∀ n, n < 8 → 0 < n → ((vis n).map (fun h => 8192 ^ rk (2 ^ n - 1) h)).sum = sm (fun v => 1 * 8192 ^ v) (fac n) := by decide +kernel
theorem vis_len : ∀ n, n < 8 → 0 < n → (vis n).length < 8192 := by decide +kernel
theorem vis_end : ∀ n, n < 8 → 0 < n → hend n 20000 1 [0, 0, 0, 0, 0, 0, 0] = true := by decide +kernel
