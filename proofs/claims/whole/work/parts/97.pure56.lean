/-! read: bytes, cells -/
/-- byte i of the text; behind its end: none -/
def bA (t : List Int) (i : Nat) : Int := if i < t.length then t.getD i 0 else -1
theorem bA_rng {t : List Int} {i : Nat} (hb : ∀ b ∈ t, 0 ≤ b ∧ b ≤ 255) : -1 ≤ bA t i ∧ bA t i ≤ 255 := by
  unfold bA
  by_cases q : i < t.length
  · rw [if_pos q, List.getD_eq_getElem?_getD, List.getElem?_eq_getElem q]
    have := hb _ (List.getElem_mem q)
    show -1 ≤ t[i] ∧ t[i] ≤ 255
    omega
  · rw [if_neg q]; omega
theorem byteAt_c {F : Nat} {t : List Int} {i : Nat} {h : HF} (ht : TP h 1 1 2 t) (hl : t.length ≤ 400) : fX1_byteAt F 1 (i : Int) h = some (bA t i, h) := by
  have k2 : kl (1 + 1) = 400 := by decide +kernel
  unfold fX1_byteAt bA
  simp only [zjn_eq, zgf]
  rw [if_neg (by omega), ht.1]
  by_cases q : i < t.length
  · rw [if_pos (by omega), if_pos q, zrd_ok (a := 1 + 1) ⟨by omega, by rw [k2]; omega⟩, Int.toNat_natCast, show h (1 + 1) i = _ from ht.2 i q]
  · rw [if_neg (by omega), if_neg q]
theorem byteAt_m {F : Nat} {t : List Int} {i : Nat} {h : HF} (ht : ∀ i, i < t.length → h 182 i = t.getD i 0) (hl : t.length ≤ 400) (ha : h 181 17 = (i : Int)) : fX12_byteAt F 181 (t.length : Int) h = some (bA t i, h) := by
  unfold fX12_byteAt bA
  simp only [zjn_eq, zgf]
  rw [ha]
  by_cases q : i < t.length
  · rw [if_pos (by omega), if_pos q, rdm1 (by omega), ht i q]
  · rw [if_neg (by omega), if_neg q]
/-- how many cells are read, and the fault behind them (0: none) -/
def rdc (t : List Int) (n : Nat) : Nat → Nat → Nat × Nat
  | _, 0 => (0, 0)
  | a, m + 1 => if bA t a - 48 < 0 ∨ 9 < bA t a - 48 then (0, 1) else if bA t a - 48 < (n : Int) then ((rdc t n (a + 1) m).1 + 1, (rdc t n (a + 1) m).2) else (0, 2)
/-- the cells of operation o begin at byte ps o -/
def tbT (t : List Int) (ps : List Nat) (o k : Nat) : Int := bA t (ps.getD o 0 + k) - 48
section RC
variable {F n : Nat} {t : List Int} {l : List Nat}
theorem cells_c (hn : 1 ≤ n ∧ n ≤ 7) (hb : ∀ b ∈ t, 0 ≤ b ∧ b ≤ 255) (hlt : t.length ≤ 400) (hl : l.length ≤ 4) (h2 : ∀ o, o < l.length → l.getD o 0 ≤ 2) {o : Nat} (ho : o + 1 = l.length) {k : Int → HF → RO} : ∀ (m j a N : Nat) (T : Nat → Nat → Int) (h : HF), j + m = pw n (l.getD o 0) → m + 1 ≤ N → a + m ≤ 100000 → TP h 1 1 2 t → h 86 2 = 1 → h 86 3 = (a : Int) → RepC h 6 n l T → ∃ h', LX10_readOperation_110 F 86 6 k N 1 ((sto n l o + j : Nat) : Int) h = k (bi (decide ((rdc t n a m).2 = 0))) h' ∧ ((rdc t n a m).2 = 0 → h' 86 3 = ((a + m : Nat) : Int) ∧ h' 86 0 = h 86 0 ∧ ∃ T', RepC h' 6 n l T' ∧ (∀ k', k' < m → T' o (j + k') = bA t (a + k') - 48) ∧ ∀ o' k', (o' ≠ o ∨ k' < j) → T' o' k' = T o' k') ∧ ((rdc t n a m).2 ≠ 0 → h' 86 0 = (((rdc t n a m).2 : Nat) : Int) ∧ h' 86 1 = ((a + (rdc t n a m).1 : Nat) : Int)) ∧ ∀ c i, c ≠ 9 → (c ≠ 86 ∨ (i ≠ 0 ∧ i ≠ 1 ∧ i ≠ 3)) → h' c i = h c i := by
  obtain ⟨-, k1, -, k2, -, k3⟩ := zl_0 6 (by decide)
  have hs := sto_le hn.2 h2 o (by omega)
  have hp := pw_le hn.2 (h2 o (by omega))
  have hcc : ∀ (h : HF) (T : Nat → Nat → Int), RepC h 6 n l T → fX0_cellCount F 6 h = some (((sto n l o + pw n (l.getD o 0) : Nat) : Int), h) := fun h T hr => by
    unfold fX0_cellCount
    simp only [zgf]
    rw [hr.2.1, zrd_ok (a := 6 + 2) ⟨by omega, by rw [k2]; omega⟩, Int.toNat_natCast, hr.2.2.2.2.1 _ (Nat.le_refl _), ← ho]
    rfl
  intro m
  induction m with
  | zero =>
    intro j a N T h hj hN ha ht h8 h3 hr
    obtain ⟨N, rfl⟩ : ∃ M, N = M + 1 := ⟨N - 1, by omega⟩
    rw [LX10_readOperation_110, hcc h T hr, zbd_some, if_neg (by omega)]
    exact ⟨h, rfl, fun _ => ⟨by rw [h3]; rfl, rfl, T, hr, fun k' hk' => absurd hk' (by omega), fun _ _ _ => rfl⟩, fun z => absurd rfl z, fun _ _ _ _ => rfl⟩
  | succ m ih =>
    intro j a N T h hj hN ha ht h8 h3 hr
    obtain ⟨N, rfl⟩ : ∃ M, N = M + 1 := ⟨N - 1, by omega⟩
    have br := bA_rng (i := a) hb
    have e1 : ∀ f : Nat → RO, zgd h 86 2 f = f 1 := fun f => zgd_at h8
    rw [LX10_readOperation_110, hcc h T hr, zbd_some, if_pos (by omega), if_neg (by decide)]
    have rc : fX10_readCell F 86 6 ((sto n l o + j : Nat) : Int) h = if bA t a - 48 < 0 ∨ 9 < bA t a - 48 then some (0, stp (stp h 86 0 1) 86 1 (a : Int)) else if bA t a - 48 < (n : Int) then some (1, stp (stp h 9 (sto n l o + j) (bA t a - 48)) 86 3 ((a + 1 : Nat) : Int)) else some (0, stp (stp h 86 0 2) 86 1 (a : Int)) := by
      unfold fX10_readCell fX10_failAt
      rw [e1]
      simp only [zjn_eq, zlet_eq, zgf, zpf]
      rw [h3, byteAt_c ht hlt, zbd_some, wr_id ⟨by omega, by omega⟩]
      by_cases q1 : bA t a - 48 < 0
      · rw [if_pos q1, if_pos (Or.inl q1), zrz_0, zbd_some, zrz_0, h3]
      · rw [if_neg q1]
        by_cases q2 : 9 < bA t a - 48
        · rw [if_pos q2, if_pos (Or.inr q2), zrz_0, zbd_some, zrz_0, h3]
        · rw [if_neg q2, if_neg (show ¬ (bA t a - 48 < 0 ∨ 9 < bA t a - 48) from fun z => z.elim q1 q2), hr.1]
          by_cases q3 : bA t a - 48 < (n : Int)
          · rw [if_pos q3, if_pos q3, zwr_ok (a := 6 + 3) ⟨by omega, by rw [k3]; omega⟩, Int.toNat_natCast, stp_ne (show (86 : Nat) ≠ 6 + 3 ∨ (3 : Nat) ≠ sto n l o + j from Or.inl (by decide)), h3, wr_s (by omega), zrz_1]
          · rw [if_neg q3, if_neg q3, zrz_0, zbd_some, zrz_0, h3]
    rw [rc]
    simp only [zlet_eq]
    rw [wr_s (by omega)]
    have stop : ∀ (kd : Nat), kd ≠ 0 → rdc t n a (m + 1) = (0, kd) → ∃ h', (zbd (some (0, stp (stp h 86 0 (kd : Int)) 86 1 (a : Int))) fun r16 h => LX10_readOperation_110 F 86 6 k N r16 ((sto n l o + j + 1 : Nat) : Int) h) = k (bi (decide ((rdc t n a (m + 1)).2 = 0))) h' ∧ ((rdc t n a (m + 1)).2 = 0 → h' 86 3 = ((a + (m + 1) : Nat) : Int) ∧ h' 86 0 = h 86 0 ∧ ∃ T', RepC h' 6 n l T' ∧ (∀ k', k' < m + 1 → T' o (j + k') = bA t (a + k') - 48) ∧ ∀ o' k', (o' ≠ o ∨ k' < j) → T' o' k' = T o' k') ∧ ((rdc t n a (m + 1)).2 ≠ 0 → h' 86 0 = (((rdc t n a (m + 1)).2 : Nat) : Int) ∧ h' 86 1 = ((a + (rdc t n a (m + 1)).1 : Nat) : Int)) ∧ ∀ c i, c ≠ 9 → (c ≠ 86 ∨ (i ≠ 0 ∧ i ≠ 1 ∧ i ≠ 3)) → h' c i = h c i := by
      intro kd hk0 er
      obtain ⟨N, rfl⟩ : ∃ M, N = M + 1 := ⟨N - 1, by omega⟩
      rw [er]
      have hr2 : RepC (stp (stp h 86 0 (kd : Int)) 86 1 (a : Int)) 6 n l T := RepC_keep (fun i k hi => by rw [stp_ne (by omega), stp_ne (by omega)]) hr
      refine ⟨stp (stp h 86 0 (kd : Int)) 86 1 (a : Int), ?_, fun z => absurd z hk0, fun _ => ⟨by rw [stp_ne (Or.inr (by decide)), stp_eq], by rw [stp_eq]; rfl⟩, fun c i c1 c2 => by rw [stp_ne (by omega), stp_ne (by omega)]⟩
      rw [zbd_some, LX10_readOperation_110, hcc _ T hr2, zbd_some, decide_eq_false hk0, bi_f]
      by_cases z : ((sto n l o + j + 1 : Nat) : Int) < ((sto n l o + pw n (l.getD o 0) : Nat) : Int)
      · rw [if_pos z, if_pos rfl]
      · rw [if_neg z]
    by_cases q : bA t a - 48 < 0 ∨ 9 < bA t a - 48
    · rw [if_pos q]
      exact stop 1 (by decide) (by simp only [rdc]; rw [if_pos q])
    · rw [if_neg q]
      by_cases q3 : bA t a - 48 < (n : Int)
      · rw [if_pos q3, zbd_some]
        have er : rdc t n a (m + 1) = ((rdc t n (a + 1) m).1 + 1, (rdc t n (a + 1) m).2) := by simp only [rdc]; rw [if_neg q, if_pos q3]
        have hput := RepC_put (v := bA t a - 48) (o := o) (i := j) (show j < pw n (l.getD o 0) by omega) hr
        obtain ⟨h', x1, x2, x3, x4⟩ := ih (j + 1) (a + 1) N (updT T o j (bA t a - 48)) (stp (stp h 9 (sto n l o + j) (bA t a - 48)) 86 3 ((a + 1 : Nat) : Int)) (by omega) (by omega) (by omega) (TP_keep ht (by rw [stp_ne (by omega), stp_ne (by omega)]) (fun i => by rw [stp_ne (by omega), stp_ne (by omega)])) (by rw [stp_ne (by omega), stp_ne (by omega)]; exact h8) (by rw [stp_eq]) (RepC_keep (fun i k hi => by rw [stp_ne (by omega)]) hput)
        rw [er]
        refine ⟨h', x1, fun z => ?_, fun z => ?_, fun c i c1 c2 => by rw [x4 c i c1 c2, stp_ne (by omega), stp_ne (by omega)]⟩
        · obtain ⟨y1, y0, T', y2, y3, y4⟩ := x2 z
          refine ⟨by rw [y1]; omega, by rw [y0, stp_ne (by omega), stp_ne (by omega)], T', y2, fun k' hk' => ?_, fun o' k' hq => ?_⟩
          · by_cases w : k' = 0
            · subst w
              rw [Nat.add_zero, Nat.add_zero, y4 o j (Or.inr (by omega))]
              unfold updT
              rw [if_pos ⟨rfl, rfl⟩]
            · have := y3 (k' - 1) (by omega)
              rw [show j + 1 + (k' - 1) = j + k' by omega, show a + 1 + (k' - 1) = a + k' by omega] at this
              exact this
          · rw [y4 o' k' (by omega)]
            unfold updT
            rw [if_neg (by omega)]
        · obtain ⟨y1, y2⟩ := x3 z
          exact ⟨y1, by rw [y2]; show ((a + 1 + (rdc t n (a + 1) m).1 : Nat) : Int) = ((a + ((rdc t n (a + 1) m).1 + 1) : Nat) : Int); omega⟩
      · rw [if_neg q3]
        exact stop 2 (by decide) (by simp only [rdc]; rw [if_neg q, if_neg q3])
end RC
