/-! keep of the reference -/
theorem wdiv_N {x k : Nat} (hx : x < 2 ^ 31) : wdiv (x : Int) (k : Int) = ((x / k : Nat) : Int) := by
  unfold wdiv
  have h1 : x / k ≤ x := Nat.div_le_self _ _
  rw [show (x : Int).tdiv (k : Int) = ((x / k : Nat) : Int) from rfl]
  generalize x / k = y at h1 ⊢
  rw [wr_id ⟨by omega, by omega⟩]
theorem wrem_N {x k : Nat} (hx : x < 2 ^ 31) : wrem (x : Int) (k : Int) = ((x % k : Nat) : Int) := by
  unfold wrem
  have h1 : x / k * k ≤ x := Nat.div_mul_le_self x k
  have h2 := Nat.div_add_mod x k
  have h3 : k * (x / k) = x / k * k := Nat.mul_comm _ _
  rw [wdiv_N hx, show ((x / k : Nat) : Int) * (k : Int) = ((x / k * k : Nat) : Int) by rw [Int.natCast_mul], wr_id (x := ((x / k * k : Nat) : Int)) ⟨by omega, by omega⟩, wr_id ⟨by omega, by omega⟩]
  omega
theorem zdv_ok {b : Int} {f : RO} (hb : b ≠ 0) : zdv b f = f := if_neg hb
theorem mkeep {F d c m : Nat} {h : HF} (hF : 200 ≤ F) (hd : d < 10) (hc : h 181 15 = (c : Int)) (hc6 : c < 16) (hm : h 181 16 = (m : Int)) (hm6 : m ≤ 16) : ∃ h', fX12_keep F 181 (d : Int) h = some (0, h') ∧ (∀ c' k', (c' < 188 ∨ 192 < c') → (c' ≠ 181 ∨ (k' ≠ 15 ∧ k' ≠ 16)) → h' c' k' = h c' k') ∧ h' 181 15 = (((c + 1) % 16 : Nat) : Int) ∧ h' 181 16 = ((min (m + 1) 16 : Nat) : Int) ∧
    (h' 188 c = (d : Int) ∧ h' 189 c = h 184 d ∧ h' 190 c = h 185 d ∧ (∀ o, o < 4 → h' 191 (4 * c + o) = h 186 (4 * d + o)) ∧ ∀ k, k < 196 → h' 192 (196 * c + k) = h 187 (196 * d + k)) ∧
    ∀ j, j ≠ c → h' 188 j = h 188 j ∧ h' 189 j = h 189 j ∧ h' 190 j = h 190 j ∧ (∀ o, o < 4 → h' 191 (4 * j + o) = h 191 (4 * j + o)) ∧ ∀ k, k < 196 → h' 192 (196 * j + k) = h 192 (196 * j + k) := by
  generalize e0 : stp (stp (stp h 188 c (d : Int)) 189 c (h 184 d)) 190 c (h 185 d) = g0
  have g0o : ∀ c' k', c' ≠ 188 → c' ≠ 189 → c' ≠ 190 → g0 c' k' = h c' k' := fun c' k' a b e => by rw [← e0, stp_ne (Or.inl e), stp_ne (Or.inl b), stp_ne (Or.inl a)]
  generalize e1 : cpy g0 186 (4 * d) 191 (4 * c) 4 = g1
  have g1o : ∀ c', c' ≠ 191 → g1 c' = g0 c' := fun c' a => by rw [← e1, cpy_off a]
  generalize e2 : cpy g1 187 (196 * d) 192 (196 * c) 196 = g2
  have g2o : ∀ c', c' ≠ 192 → g2 c' = g1 c' := fun c' a => by rw [← e2, cpy_off a]
  have hlow : ∀ c' k', (c' < 188 ∨ 192 < c') → g2 c' k' = h c' k' := fun c' k' a => by rw [g2o c' (by omega), g1o c' (by omega), g0o c' k' (by omega) (by omega) (by omega)]
  refine ⟨stp (stp g2 181 15 (((c + 1) % 16 : Nat) : Int)) 181 16 ((min (m + 1) 16 : Nat) : Int), ?_, ?_, ?_, ?_, ⟨?_, ?_, ?_, ?_, ?_⟩, ?_⟩
  · unfold fX12_keep
    simp only [zgf, zjn]
    rw [hc, zwr_ok (a := 181 + 7) ⟨by omega, by show _ < ((16 : Nat) : Int); omega⟩, Int.toNat_natCast, zrd_ok (a := 181 + 3) ⟨by omega, by show _ < ((10 : Nat) : Int); omega⟩, Int.toNat_natCast, zwr_ok (a := 181 + 8) ⟨by omega, by show _ < ((16 : Nat) : Int); omega⟩, Int.toNat_natCast, zrd_ok (a := 181 + 4) ⟨by omega, by show _ < ((10 : Nat) : Int); omega⟩, Int.toNat_natCast, zwr_ok (a := 181 + 9) ⟨by omega, by show _ < ((16 : Nat) : Int); omega⟩, Int.toNat_natCast]
    rw [show stp h (181 + 7) c (d : Int) (181 + 3) d = h 184 d from stp_ne (Or.inl (by decide)), show stp (stp h (181 + 7) c (d : Int)) (181 + 8) c (h 184 d) (181 + 4) d = h 185 d by rw [stp_ne (Or.inl (by decide)), stp_ne (Or.inl (by decide))], show stp (stp (stp h (181 + 7) c (d : Int)) (181 + 8) c (h 184 d)) (181 + 9) c (h 185 d) = g0 from e0]
    have l1 := keep_ar (F := F) (d := d) (c := c) (h := g0) (k := fun x69_2 h => LX12_keep_71 F 181 (d : Int) x69_2 (fun x108_2 h => zdv 16 <| zpf h 181 15 (wrem (wr (x108_2 + 1)) 16) fun h => if h 181 16 < 16 then zpf h 181 16 (wr (h 181 16 + 1)) fun h => some (0, h) else zpf h 181 16 16 fun h => some (0, h)) F 0 h) hd hc6 4 0 F (by omega) (by omega)
    rw [cpy_0] at l1
    refine l1.trans ?_
    rw [e1]
    have l2 := keep_cells (F := F) (d := d) (c := c) (h := g1) (k := fun x108_2 h => zdv 16 <| zpf h 181 15 (wrem (wr (x108_2 + 1)) 16) fun h => if h 181 16 < 16 then zpf h 181 16 (wr (h 181 16 + 1)) fun h => some (0, h) else zpf h 181 16 16 fun h => some (0, h)) hd hc6 196 0 F (by omega) (by omega)
    rw [cpy_0] at l2
    refine l2.trans ?_
    rw [e2, zdv_ok (by decide), wr_id ⟨by omega, by omega⟩, show (c : Int) + 1 = ((c + 1 : Nat) : Int) by omega, show (16 : Int) = ((16 : Nat) : Int) from rfl, wrem_N (by omega)]
    simp only [zpf]
    rw [show stp g2 181 15 (((c + 1) % 16 : Nat) : Int) 181 16 = (m : Int) by rw [stp_ne (Or.inr (by decide)), hlow 181 16 (by decide), hm]]
    by_cases q : (m : Int) < ((16 : Nat) : Int)
    · rw [if_pos q, wr_id ⟨by omega, by omega⟩, show (m : Int) + 1 = ((min (m + 1) 16 : Nat) : Int) by omega]
    · rw [if_neg q, show ((16 : Nat) : Int) = ((min (m + 1) 16 : Nat) : Int) by omega]
  · intro c' k' a b
    rw [stp_ne (by omega), stp_ne (by omega), hlow c' k' a]
  · rw [stp_ne (Or.inr (by decide)), stp_eq]
  · rw [stp_eq]
  · rw [stp_ne (Or.inl (by decide)), stp_ne (Or.inl (by decide)), g2o 188 (by decide), g1o 188 (by decide), ← e0, stp_ne (Or.inl (by decide)), stp_ne (Or.inl (by decide)), stp_eq]
  · rw [stp_ne (Or.inl (by decide)), stp_ne (Or.inl (by decide)), g2o 189 (by decide), g1o 189 (by decide), ← e0, stp_ne (Or.inl (by decide)), stp_eq]
  · rw [stp_ne (Or.inl (by decide)), stp_ne (Or.inl (by decide)), g2o 190 (by decide), g1o 190 (by decide), ← e0, stp_eq]
  · intro o ho
    rw [stp_ne (Or.inl (by decide)), stp_ne (Or.inl (by decide)), g2o 191 (by decide), ← e1]
    unfold cpy
    rw [if_pos rfl, if_pos ⟨by omega, by omega⟩, show 4 * c + o - 4 * c = o by omega, g0o 186 _ (by decide) (by decide) (by decide)]
  · intro k hk
    rw [stp_ne (Or.inl (by decide)), stp_ne (Or.inl (by decide)), ← e2]
    unfold cpy
    rw [if_pos rfl, if_pos ⟨by omega, by omega⟩, show 196 * c + k - 196 * c = k by omega, g1o 187 (by decide), g0o 187 _ (by decide) (by decide) (by decide)]
  · intro j hj
    refine ⟨?_, ?_, ?_, fun o ho => ?_, fun k hk => ?_⟩
    · rw [stp_ne (Or.inl (by decide)), stp_ne (Or.inl (by decide)), g2o 188 (by decide), g1o 188 (by decide), ← e0, stp_ne (Or.inl (by decide)), stp_ne (Or.inl (by decide)), stp_ne (Or.inr hj)]
    · rw [stp_ne (Or.inl (by decide)), stp_ne (Or.inl (by decide)), g2o 189 (by decide), g1o 189 (by decide), ← e0, stp_ne (Or.inl (by decide)), stp_ne (Or.inr hj), stp_ne (Or.inl (by decide))]
    · rw [stp_ne (Or.inl (by decide)), stp_ne (Or.inl (by decide)), g2o 190 (by decide), g1o 190 (by decide), ← e0, stp_ne (Or.inr hj), stp_ne (Or.inl (by decide)), stp_ne (Or.inl (by decide))]
    · rw [stp_ne (Or.inl (by decide)), stp_ne (Or.inl (by decide)), g2o 191 (by decide), ← e1]
      unfold cpy
      rw [if_pos rfl, if_neg (by omega), g0o 191 _ (by decide) (by decide) (by decide)]
    · rw [stp_ne (Or.inl (by decide)), stp_ne (Or.inl (by decide)), ← e2]
      unfold cpy
      rw [if_pos rfl, if_neg (by omega), g1o 192 (by decide), g0o 192 _ (by decide) (by decide) (by decide)]
