/-! permutations as lines: how both sides go from one to the next -/
def pvt (l : List Nat) : Nat → Nat
  | 0 => 0
  | j + 1 => if l.getD (j + 1) 0 < l.getD j 0 then pvt l j else j + 1
def grt (l : List Nat) (u : Nat) : Nat → Nat
  | 0 => 0
  | j + 1 => if l.getD (j + 1) 0 < l.getD u 0 then grt l u j else j + 1
def swp (l : List Nat) (i j : Nat) : List Nat := (l.set i (l.getD j 0)).set j (l.getD i 0)
def rvs : Nat → List Nat → Nat → Nat → List Nat
  | 0, l, _, _ => l
  | m + 1, l, i, j => if i < j then rvs m (swp l i j) (i + 1) (j - 1) else l
def nxP (n : Nat) (l : List Nat) : Option (List Nat) := match pvt l (n - 1) with
  | 0 => none
  | u + 1 => some (rvs n (swp l u (grt l u (n - 1))) (u + 1) (n - 1))
def PL (n : Nat) : List (List Nat) := sq (nxP n) 5040 (List.range n)
def fct : Nat → Nat
  | 0 => 1
  | n + 1 => (n + 1) * fct n
def sqL (nx : List Nat → Option (List Nat)) : Nat → List Nat → Nat → Bool
  | 0, _, _ => false
  | m + 1, l, k => match nx l with
    | none => Nat.beq k 0
    | some l' => match k with
      | 0 => false
      | k + 1 => sqL nx m l' k
set_option maxRecDepth 100000 in
theorem PL_end : ∀ n, n < 8 → 1 ≤ n → sqL (nxP n) 5040 (List.range n) (fct n - 1) = true := by decide +kernel
