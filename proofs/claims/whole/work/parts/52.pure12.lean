/-! copying loops of the reference -/
theorem cpy_0 {h : HF} {a sp b dp : Nat} : cpy h a sp b dp 0 = h := by
  funext c
  unfold cpy
  by_cases q : c = b
  · subst q
    rw [if_pos rfl]
    funext k
    rw [if_neg (by omega)]
  · rw [if_neg q]
theorem cpy_succ {h : HF} {a sp b dp i : Nat} : stp (cpy h a sp b dp i) b (dp + i) (h a (sp + i)) = cpy h a sp b dp (i + 1) := by
  funext c k
  by_cases q : c = b
  · subst q
    rw [stp_on]
    unfold cpy
    rw [if_pos rfl, if_pos rfl]
    show (if k = dp + i then h a (sp + i) else if dp ≤ k ∧ k < dp + i then h a (sp + (k - dp)) else h c k) = if dp ≤ k ∧ k < dp + (i + 1) then h a (sp + (k - dp)) else h c k
    by_cases q1 : k = dp + i
    · subst q1
      rw [if_pos rfl, if_pos ⟨by omega, by omega⟩, show dp + i - dp = i by omega]
    · rw [if_neg q1]
      by_cases q2 : dp ≤ k ∧ k < dp + i
      · rw [if_pos q2, if_pos ⟨q2.1, by omega⟩]
      · rw [if_neg q2, if_neg (by omega)]
  · rw [stp_ne (Or.inl q), cpy_off q, cpy_off q]
theorem keep_cells {F d c : Nat} {h : HF} {k : Int → HF → RO} (hd : d < 10) (hc : c < 16) : ∀ (m i N : Nat), i + m = 196 → m + 1 ≤ N → LX12_keep_71 F 181 (d : Int) (c : Int) k N (i : Int) (cpy h 187 (196 * d) 192 (196 * c) i) = k (c : Int) (cpy h 187 (196 * d) 192 (196 * c) 196) := by
  intro m
  induction m with
  | zero =>
    intro i N hi hN
    obtain ⟨N, rfl⟩ : ∃ M, N = M + 1 := ⟨N - 1, by omega⟩
    rw [LX12_keep_71, if_neg (by omega), show i = 196 by omega]
  | succ m ih =>
    intro i N hi hN
    obtain ⟨N, rfl⟩ : ∃ M, N = M + 1 := ⟨N - 1, by omega⟩
    rw [LX12_keep_71, if_pos (by omega), wr_id (x := 196 * (d : Int)) ⟨by omega, by omega⟩, wr_id (x := 196 * (d : Int) + (i : Int)) ⟨by omega, by omega⟩, wr_id (x := 196 * (c : Int)) ⟨by omega, by omega⟩, wr_id (x := 196 * (c : Int) + (i : Int)) ⟨by omega, by omega⟩, zrd_ok (a := 181 + 6) ⟨by omega, by show _ < ((1960 : Nat) : Int); omega⟩, zwr_ok (a := 181 + 11) ⟨by omega, by show _ < ((3136 : Nat) : Int); omega⟩]
    simp only [zlet]
    rw [wr_id ⟨by omega, by omega⟩, show (i : Int) + 1 = ((i + 1 : Nat) : Int) by omega, show (196 * (d : Int) + (i : Int)).toNat = 196 * d + i by omega, show (196 * (c : Int) + (i : Int)).toNat = 196 * c + i by omega, show cpy h 187 (196 * d) 192 (196 * c) i (181 + 6) (196 * d + i) = h 187 (196 * d + i) by rw [show (181 + 6 : Nat) = 187 by rfl, cpy_off (by decide)], show (181 + 11 : Nat) = 192 by rfl, cpy_succ]
    exact ih (i + 1) N (by omega) (by omega)
theorem keep_ar {F d c : Nat} {h : HF} {k : Int → HF → RO} (hd : d < 10) (hc : c < 16) : ∀ (m i N : Nat), i + m = 4 → m + 1 ≤ N → LX12_keep_38 F 181 (d : Int) (c : Int) k N (i : Int) (cpy h 186 (4 * d) 191 (4 * c) i) = k (c : Int) (cpy h 186 (4 * d) 191 (4 * c) 4) := by
  intro m
  induction m with
  | zero =>
    intro i N hi hN
    obtain ⟨N, rfl⟩ : ∃ M, N = M + 1 := ⟨N - 1, by omega⟩
    rw [LX12_keep_38, if_neg (by omega), show i = 4 by omega]
  | succ m ih =>
    intro i N hi hN
    obtain ⟨N, rfl⟩ : ∃ M, N = M + 1 := ⟨N - 1, by omega⟩
    rw [LX12_keep_38, if_pos (by omega), wr_id (x := 4 * (d : Int)) ⟨by omega, by omega⟩, wr_id (x := 4 * (d : Int) + (i : Int)) ⟨by omega, by omega⟩, wr_id (x := 4 * (c : Int)) ⟨by omega, by omega⟩, wr_id (x := 4 * (c : Int) + (i : Int)) ⟨by omega, by omega⟩, zrd_ok (a := 181 + 5) ⟨by omega, by show _ < ((40 : Nat) : Int); omega⟩, zwr_ok (a := 181 + 10) ⟨by omega, by show _ < ((64 : Nat) : Int); omega⟩]
    simp only [zlet]
    rw [wr_id ⟨by omega, by omega⟩, show (i : Int) + 1 = ((i + 1 : Nat) : Int) by omega, show (4 * (d : Int) + (i : Int)).toNat = 4 * d + i by omega, show (4 * (c : Int) + (i : Int)).toNat = 4 * c + i by omega, show cpy h 186 (4 * d) 191 (4 * c) i (181 + 5) (4 * d + i) = h 186 (4 * d + i) by rw [show (181 + 5 : Nat) = 186 by rfl, cpy_off (by decide)], show (181 + 10 : Nat) = 191 by rfl, cpy_succ]
    exact ih (i + 1) N (by omega) (by omega)
