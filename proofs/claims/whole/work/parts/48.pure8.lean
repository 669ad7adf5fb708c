/-! the line of an algebra: its cells one behind another -/
section LN
variable {F A d n : Nat} {ar : List Nat} {tb : Nat → Nat → Int} {h : HF}
theorem power_eq {r : Nat} (hn : n ≤ 7) (hr : r ≤ 2) : fX12_power F (n : Int) (r : Int) h = some (((pw n r : Nat) : Int), h) := by
  unfold fX12_power pw
  simp only [zjn]
  have h5 : n * n ≤ 7 * 7 := Nat.mul_le_mul hn hn
  have e6 : (n : Int) * (n : Int) = ((n * n : Nat) : Int) := by rw [Int.natCast_mul]
  by_cases q0 : r = 0
  · rw [if_pos (by omega), if_pos q0]; rfl
  · rw [if_neg (by omega), if_neg q0]
    by_cases q1 : r = 1
    · rw [if_pos (by omega), if_pos q1]
    · rw [if_neg (by omega), if_neg q1, e6, wr_id ⟨by omega, by omega⟩]
theorem mops (hd : d < 10) (hr : RepM h 184 185 186 187 d n ar tb) {f : Int → RO} : zrd h (181 + 4) (d : Int) f = f (ar.length : Int) := by
  rw [zrd_ok (a := 181 + 4) ⟨by omega, by show _ < ((10 : Nat) : Int); omega⟩, Int.toNat_natCast, show h (181 + 4) d = (ar.length : Int) from hr.2.1]
theorem cellsOf_L (hd : d < 10) (hw : WF n ar tb) (hr : RepM h 184 185 186 187 d n ar tb) {k : Int → HF → RO} : ∀ (m o N : Nat), o + m = ar.length → m + 1 ≤ N → LX12_cellsOf_4 F 181 (d : Int) k N ((sto n ar o : Nat) : Int) (o : Int) h = k ((sto n ar ar.length : Nat) : Int) h := by
  have hl := hw.2.1
  intro m
  induction m with
  | zero =>
    intro o N ho hN
    obtain ⟨N, rfl⟩ : ∃ M, N = M + 1 := ⟨N - 1, by omega⟩
    rw [LX12_cellsOf_4, mops hd hr, if_neg (by omega), show o = ar.length by omega]
  | succ m ih =>
    intro o N ho hN
    obtain ⟨N, rfl⟩ : ∃ M, N = M + 1 := ⟨N - 1, by omega⟩
    have h1 := sto_le hw.1.2 hw.2.2.1 o (by omega)
    have h2 := pw_le hw.1.2 (hw.2.2.1 o (by omega))
    rw [LX12_cellsOf_4, mops hd hr, if_pos (by omega), msz hd hr, marity_eq hd hw hr (by omega), zbd_some, power_eq hw.1.2 (hw.2.2.1 o (by omega)), zbd_some]
    simp only [zlet]
    rw [wr_id (x := (o : Int) + 1) ⟨by omega, by omega⟩, wr_id ⟨by omega, by omega⟩, show (o : Int) + 1 = ((o + 1 : Nat) : Int) by omega, show ((sto n ar o : Nat) : Int) + ((pw n (ar.getD o 0) : Nat) : Int) = ((sto n ar (o + 1) : Nat) : Int) by simp only [sto]; omega]
    exact ih (o + 1) N (by omega) (by omega)
theorem cellsOf_eq (hF : 5 ≤ F) (hd : d < 10) (hw : WF n ar tb) (hr : RepM h 184 185 186 187 d n ar tb) : fX12_cellsOf F 181 (d : Int) h = some (((sto n ar ar.length : Nat) : Int), h) := by
  have hl := hw.2.1
  unfold fX12_cellsOf
  simp only [zjn]
  exact cellsOf_L hd hw hr (k := fun x h => some (x, h)) ar.length 0 F (by omega) (by omega)
theorem cellCount_eq (hk : kt A = 0 + 3) (hw : WF n ar tb) (hr : RepC h A n ar tb) : fX0_cellCount F A h = some (((sto n ar ar.length : Nat) : Int), h) := by
  obtain ⟨-, k1, -, k2, -, k3⟩ := zl_0 A hk
  have hl := hw.2.1
  unfold fX0_cellCount
  simp only [zgf]
  rw [hr.2.1, zrd_ok (a := A + 2) ⟨by omega, by rw [k2]; omega⟩, Int.toNat_natCast, hr.2.2.2.2.1 _ (Nat.le_refl _)]
theorem lineAt_L (hd : d < 10) (hw : WF n ar tb) (hr : RepM h 184 185 186 187 d n ar tb) {k : Int → Int → HF → RO} : ∀ (m o N left : Nat), o + m = ar.length → m ≤ N → sto n ar o + left < sto n ar ar.length → ∃ o' l', o' < ar.length ∧ l' < pw n (ar.getD o' 0) ∧ sto n ar o + left = sto n ar o' + l' ∧ LX12_lineAt_5 F 181 (d : Int) k N (left : Int) (o : Int) h = k (l' : Int) (o' : Int) h := by
  have hl := hw.2.1
  intro m
  induction m with
  | zero =>
    intro o N left ho hN hlt
    rw [show o = ar.length by omega] at hlt
    omega
  | succ m ih =>
    intro o N left ho hN hlt
    obtain ⟨N, rfl⟩ : ∃ M, N = M + 1 := ⟨N - 1, by omega⟩
    have h1 := sto_le hw.1.2 hw.2.2.1 ar.length (by omega)
    have h2 := pw_le hw.1.2 (hw.2.2.1 o (by omega))
    rw [LX12_lineAt_5, msz hd hr, marity_eq hd hw hr (by omega), zbd_some, power_eq hw.1.2 (hw.2.2.1 o (by omega)), zbd_some]
    by_cases q : left < pw n (ar.getD o 0)
    · rw [if_pos (by omega)]
      exact ⟨o, left, by omega, q, rfl, rfl⟩
    · rw [if_neg (by omega), msz hd hr, marity_eq hd hw hr (by omega), zbd_some, power_eq hw.1.2 (hw.2.2.1 o (by omega)), zbd_some]
      simp only [zlet]
      have hs : sto n ar (o + 1) = sto n ar o + pw n (ar.getD o 0) := rfl
      rw [wr_id (x := (o : Int) + 1) ⟨by omega, by omega⟩, wr_id ⟨by omega, by omega⟩, show (o : Int) + 1 = ((o + 1 : Nat) : Int) by omega, show (left : Int) - ((pw n (ar.getD o 0) : Nat) : Int) = ((left - pw n (ar.getD o 0) : Nat) : Int) by omega]
      obtain ⟨o', l', a1, a2, a3, a4⟩ := ih (o + 1) N (left - pw n (ar.getD o 0)) (by omega) (by omega) (by omega)
      exact ⟨o', l', a1, a2, by omega, a4⟩
/-- cell k of the line, on both sides -/
theorem lineAt_eq (hF : 5 ≤ F) (hd : d < 10) (hw : WF n ar tb) (hr : RepM h 184 185 186 187 d n ar tb) {i : Nat} (hi : i < sto n ar ar.length) : ∃ o l, o < ar.length ∧ l < pw n (ar.getD o 0) ∧ i = sto n ar o + l ∧ fX12_lineAt F 181 (d : Int) (i : Int) h = some (((196 * d + 49 * o + l : Nat) : Int), h) := by
  have hl := hw.2.1
  unfold fX12_lineAt
  simp only [zjn]
  obtain ⟨o, l, a1, a2, a3, a4⟩ := lineAt_L (F := F) hd hw hr (k := fun x y h => some (wr (wr (wr (196 * (d : Int)) + wr (49 * y)) + x), h)) ar.length 0 F i (by omega) (by omega) (by simp only [sto]; omega)
  have h2 := pw_le hw.1.2 (hw.2.2.1 o a1)
  refine ⟨o, l, a1, a2, by simp only [sto] at a3; omega, ?_⟩
  refine a4.trans ?_
  rw [wr_id (x := 196 * (d : Int)) ⟨by omega, by omega⟩, wr_id (x := 49 * (o : Int)) ⟨by omega, by omega⟩, wr_id (x := 196 * (d : Int) + 49 * (o : Int)) ⟨by omega, by omega⟩, wr_id ⟨by omega, by omega⟩]
  exact so_eq (by omega)
end LN
