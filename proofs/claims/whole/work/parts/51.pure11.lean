/-! copyFrom -/
theorem cpy_off {h : HF} {a sp b dp n c : Nat} (hc : c ≠ b) : cpy h a sp b dp n c = h c := by unfold cpy; rw [if_neg hc]
theorem cpy_in {h : HF} {a b n k : Nat} (hk : k < n) : cpy h a 0 b 0 n b k = h a k := by
  unfold cpy
  rw [if_pos rfl]
  rw [if_pos ⟨Nat.zero_le k, by omega⟩]
  congr 1
  omega
theorem zcp_ok {h : HF} {a b : Nat} {n : Int} {f : HF → RO} (h0 : 0 ≤ n) (h1 : n ≤ (kl a : Int)) (h2 : n ≤ (kl b : Int)) : zcp h a 0 b 0 n f = f (cpy h a 0 b 0 n.toNat) := by
  unfold zcp
  rw [if_pos ⟨by decide, by decide, h0, by omega, by omega⟩]
  rfl
theorem copyFrom_eq {F A B m t : Nat} {h : HF} (hA : kt A = 0 + 3) (hB : kt B = 0 + 3) (hAB : A + 4 ≤ B ∨ B + 4 ≤ A) (h1 : h B 1 = (m : Int)) (hm : m ≤ 4) (h2 : h (B + 2) m = (t : Int)) (ht : t ≤ 196) : ∃ h', fX0_copyFrom F A B h = some (0, h') ∧ (∀ c, c ≠ A → c ≠ A + 1 → c ≠ A + 2 → c ≠ A + 3 → h' c = h c) ∧ h' A 0 = h B 0 ∧ h' A 1 = h B 1 ∧ h' A 2 = h B 2 ∧ (∀ o, o < m → h' (A + 1) o = h (B + 1) o) ∧ (∀ o, o ≤ m → h' (A + 2) o = h (B + 2) o) ∧ ∀ i, i < t → h' (A + 3) i = h (B + 3) i := by
  obtain ⟨-, a1, -, a2, -, a3⟩ := zl_0 A hA
  obtain ⟨-, b1, -, b2, -, b3⟩ := zl_0 B hB
  have s1 : ∀ (v : Int) (c k : Nat), c ≠ A → stp h A 0 v c k = h c k := fun v c k hc => stp_ne (Or.inl hc)
  generalize e1 : stp (stp (stp h A 0 (h B 0)) A 1 (h B 1)) A 2 (h B 2) = g1
  have g1o : ∀ c k, c ≠ A → g1 c k = h c k := fun c k hc => by rw [← e1, stp_ne (Or.inl hc), stp_ne (Or.inl hc), stp_ne (Or.inl hc)]
  have g10 : g1 A 0 = h B 0 := by rw [← e1, stp_ne (Or.inr (by decide)), stp_ne (Or.inr (by decide)), stp_eq]
  have g11 : g1 A 1 = h B 1 := by rw [← e1, stp_ne (Or.inr (by decide)), stp_eq]
  have g12 : g1 A 2 = h B 2 := by rw [← e1, stp_eq]
  generalize e2 : cpy g1 (B + 1) 0 (A + 1) 0 m = g2
  have g2o : ∀ c, c ≠ A + 1 → g2 c = g1 c := fun c hc => by rw [← e2, cpy_off hc]
  have g2i : ∀ k, k < m → g2 (A + 1) k = h (B + 1) k := fun k hk => by rw [← e2, cpy_in hk, g1o _ _ (by omega)]
  generalize e3 : cpy g2 (B + 2) 0 (A + 2) 0 (m + 1) = g3
  have g3o : ∀ c, c ≠ A + 2 → g3 c = g2 c := fun c hc => by rw [← e3, cpy_off hc]
  have g3i : ∀ k, k ≤ m → g3 (A + 2) k = h (B + 2) k := fun k hk => by rw [← e3, cpy_in (by omega), g2o _ (by omega), g1o _ _ (by omega)]
  refine ⟨cpy g3 (B + 3) 0 (A + 3) 0 t, ?_, ?_, ?_, ?_, ?_, ?_, ?_, ?_⟩
  · unfold fX0_copyFrom fX0_cellCount
    simp only [zgf, zpf]
    rw [s1 _ B 1 (by omega), stp_ne (show B ≠ A ∨ (2 : Nat) ≠ 1 from Or.inr (by decide)), s1 _ B 2 (by omega), e1, g11, h1, zcp_ok (by omega) (by rw [b1]; omega) (by rw [a1]; omega), Int.toNat_natCast, e2]
    rw [show g2 A 1 = (m : Int) by rw [g2o A (by omega), g11, h1], wr_id ⟨by omega, by omega⟩, zcp_ok (by omega) (by rw [b2]; omega) (by rw [a2]; omega), show ((m : Int) + 1).toNat = m + 1 by omega, e3]
    rw [show g3 A 1 = (m : Int) by rw [g3o A (by omega), g2o A (by omega), g11, h1], zrd_ok (a := A + 2) ⟨by omega, by rw [a2]; omega⟩, Int.toNat_natCast, g3i m (Nat.le_refl _), h2, zbd_some, zcp_ok (by omega) (by rw [b3]; omega) (by rw [a3]; omega), Int.toNat_natCast]
  · intro c c0 c1 c2 c3
    rw [cpy_off c3, g3o c c2, g2o c c1]
    funext k
    exact g1o c k c0
  · rw [cpy_off (by omega), g3o _ (by omega), g2o _ (by omega)]; exact g10
  · rw [cpy_off (by omega), g3o _ (by omega), g2o _ (by omega)]; exact g11
  · rw [cpy_off (by omega), g3o _ (by omega), g2o _ (by omega)]; exact g12
  · intro o ho
    rw [cpy_off (by omega), g3o _ (by omega)]; exact g2i o ho
  · intro o ho
    rw [cpy_off (by omega)]; exact g3i o ho
  · intro i hi
    rw [cpy_in hi, g3o _ (by omega), g2o _ (by omega), g1o _ _ (by omega)]
