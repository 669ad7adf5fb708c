/-! how many permutations there are -/
set_option maxRecDepth 100000 in
theorem CM_len : ∀ n, n < 8 → 1 ≤ n → (CM (fun _ => true) (skp true false n) n n []).length = fct n := by decide +kernel
