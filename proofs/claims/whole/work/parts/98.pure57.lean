/-! read: cells of the reference; operations of the class -/
theorem rdc_ok {t : List Int} {n : Nat} : ∀ (m a : Nat), (rdc t n a m).2 = 0 → ∀ k, k < m → 0 ≤ bA t (a + k) - 48 ∧ bA t (a + k) - 48 < (n : Int)
  | 0, a, _, k, hk => absurd hk (by omega)
  | m + 1, a, h, k, hk => by
    simp only [rdc] at h
    by_cases q : bA t a - 48 < 0 ∨ 9 < bA t a - 48
    · rw [if_pos q] at h; exact absurd h (by decide)
    · rw [if_neg q] at h
      by_cases q3 : bA t a - 48 < (n : Int)
      · rw [if_pos q3] at h
        by_cases z : k = 0
        · subst z; rw [Nat.add_zero]; omega
        · have := rdc_ok m (a + 1) h (k - 1) (by omega)
          rw [show a + 1 + (k - 1) = a + k by omega] at this
          exact this
      · rw [if_neg q3] at h; exact absurd h (by decide)
theorem rdc_kind {t : List Int} {n : Nat} : ∀ (m a : Nat), (rdc t n a m).2 = 0 ∨ (rdc t n a m).2 = 1 ∨ (rdc t n a m).2 = 2
  | 0, a => Or.inl rfl
  | m + 1, a => by
    simp only [rdc]
    by_cases q : bA t a - 48 < 0 ∨ 9 < bA t a - 48
    · rw [if_pos q]; exact Or.inr (Or.inl rfl)
    · rw [if_neg q]
      by_cases q3 : bA t a - 48 < (n : Int)
      · rw [if_pos q3]; exact rdc_kind m (a + 1)
      · rw [if_neg q3]; exact Or.inr (Or.inr rfl)
theorem cells_m {F n : Nat} {t : List Int} (hn : 1 ≤ n ∧ n ≤ 7) (hb : ∀ b ∈ t, 0 ≤ b ∧ b ≤ 255) (hlt : t.length ≤ 400) {o r : Nat} (ho : o < 4) (hr : r ≤ 2) {u1 : Int} {k306 k248 k260 : HF → RO} : ∀ (m j a N : Nat) (h : HF), j + m = pw n r → m + 1 ≤ N → a + m ≤ 100000 → (∀ i, i < t.length → h 182 i = t.getD i 0) → h 181 17 = (a : Int) → h 185 8 = (o : Int) → ∃ h', LX12_read_215 F 181 u1 (t.length : Int) (n : Int) (r : Int) k306 k248 k260 N (j : Int) h = (if (rdc t n a m).2 = 0 then k306 h' else if (rdc t n a m).2 = 1 then k248 h' else k260 h') ∧ h' 181 17 = ((a + (rdc t n a m).1 : Nat) : Int) ∧ ((rdc t n a m).2 = 0 → (rdc t n a m).1 = m ∧ ∀ k', k' < m → h' 187 (1568 + 49 * o + (j + k')) = bA t (a + k') - 48) ∧ ∀ c i, (c ≠ 187 ∨ i < 1568 + 49 * o + j ∨ 1568 + 49 * o + 49 ≤ i) → (c ≠ 181 ∨ i ≠ 17) → h' c i = h c i := by
  have hp := pw_le hn.2 hr
  intro m
  induction m with
  | zero =>
    intro j a N h hj hN ha ht h7 h8
    obtain ⟨N, rfl⟩ : ∃ M, N = M + 1 := ⟨N - 1, by omega⟩
    rw [LX12_read_215, power_eq hn.2 hr, zbd_some, if_neg (by omega)]
    exact ⟨h, rfl, by rw [h7]; rfl, fun _ => ⟨rfl, fun k' hk' => absurd hk' (by omega)⟩, fun _ _ _ _ => rfl⟩
  | succ m ih =>
    intro j a N h hj hN ha ht h7 h8
    obtain ⟨N, rfl⟩ : ∃ M, N = M + 1 := ⟨N - 1, by omega⟩
    have br := bA_rng (i := a) hb
    rw [LX12_read_215, power_eq hn.2 hr, zbd_some, if_pos (by omega), byteAt_m ht hlt h7, zbd_some, zlet_eq, wr_id ⟨by omega, by omega⟩]
    by_cases q : bA t a - 48 < 0 ∨ 9 < bA t a - 48
    · have er : rdc t n a (m + 1) = (0, 1) := by simp only [rdc]; rw [if_pos q]
      rw [er]
      refine ⟨h, ?_, by rw [h7]; rfl, fun z => absurd z (by decide), fun _ _ _ _ => rfl⟩
      show _ = if (1 : Nat) = 0 then k306 h else if (1 : Nat) = 1 then k248 h else k260 h
      rw [if_neg (show ¬ (1 : Nat) = 0 by decide), if_pos (show (1 : Nat) = 1 from rfl)]
      by_cases q1 : bA t a - 48 < 0
      · rw [if_pos q1]
      · rw [if_neg q1, if_pos (q.resolve_left q1)]
    · have q1 : ¬ bA t a - 48 < 0 := fun z => q (Or.inl z)
      have q2 : ¬ 9 < bA t a - 48 := fun z => q (Or.inr z)
      rw [if_neg q1, if_neg q2]
      by_cases q3 : bA t a - 48 < (n : Int)
      · have er : rdc t n a (m + 1) = ((rdc t n (a + 1) m).1 + 1, (rdc t n (a + 1) m).2) := by simp only [rdc]; rw [if_neg q, if_pos q3]
        rw [er, if_pos q3, show (8 : Int) = ((8 : Nat) : Int) from rfl, rdm4 (by decide), h8, wr_id (x := 49 * (o : Int)) ⟨by omega, by omega⟩, wr_id (x := 1568 + 49 * (o : Int)) ⟨by omega, by omega⟩, wr_id (x := 1568 + 49 * (o : Int) + (j : Int)) ⟨by omega, by omega⟩, show 1568 + 49 * (o : Int) + (j : Int) = ((1568 + 49 * o + j : Nat) : Int) by omega, wtm6 (by omega)]
        simp only [zgf, zpf, zlet_eq]
        rw [stp_ne (show (181 : Nat) ≠ 187 ∨ (17 : Nat) ≠ 1568 + 49 * o + j from Or.inl (by decide)), h7, wr_s (by omega), wr_s (by omega)]
        obtain ⟨h', x1, x2, x3, x4⟩ := ih (j + 1) (a + 1) N (stp (stp h 187 (1568 + 49 * o + j) (bA t a - 48)) 181 17 ((a + 1 : Nat) : Int)) (by omega) (by omega) (by omega) (fun i hi => by rw [stp_ne (by omega), stp_ne (by omega)]; exact ht i hi) (by rw [stp_eq]) (by rw [stp_ne (by omega), stp_ne (by omega)]; exact h8)
        refine ⟨h', x1, by rw [x2]; omega, fun z => ?_, fun c i c1 c2 => by rw [x4 c i (by omega) c2, stp_ne c2, stp_ne (by omega)]⟩
        obtain ⟨y1, y2⟩ := x3 z
        refine ⟨by show (rdc t n (a + 1) m).1 + 1 = m + 1; omega, fun k' hk' => ?_⟩
        by_cases w : k' = 0
        · subst w
          rw [Nat.add_zero, Nat.add_zero, x4 187 _ (by omega) (by omega), stp_ne (by omega), stp_eq]
        · have := y2 (k' - 1) (by omega)
          rw [show j + 1 + (k' - 1) = j + k' by omega, show a + 1 + (k' - 1) = a + k' by omega] at this
          exact this
      · have er : rdc t n a (m + 1) = (0, 2) := by simp only [rdc]; rw [if_neg q, if_neg q3]
        rw [er, if_neg q3]
        refine ⟨h, ?_, by rw [h7]; rfl, fun z => absurd z (by decide), fun _ _ _ _ => rfl⟩
        show _ = if (2 : Nat) = 0 then k306 h else if (2 : Nat) = 1 then k248 h else k260 h
        rw [if_neg (show ¬ (2 : Nat) = 0 by decide), if_neg (show ¬ (2 : Nat) = 1 by decide)]
/-- the arity that a letter tells -/
def arO (b : Int) : Option Nat := if b = 99 then some 0 else if b = 117 then some 1 else if b = 98 then some 2 else none
/-- the operations of a text from byte a on: fault and its place, or the arities and where their cells begin -/
def rdo (t : List Int) (n : Nat) : Nat → Nat → List Nat → List Nat → Nat × Nat × List Nat × List Nat
  | 0, _, l, ps => (0, 0, l, ps)
  | f + 1, a, l, ps => if a < t.length then (if bA t a = 59 then (if l.length < 4 then (match arO (bA t (a + 1)) with
      | none => (1, a + 1, l, ps)
      | some r => if (rdc t n (a + 2) (pw n r)).2 = 0 then rdo t n f (a + 2 + pw n r) (l ++ [r]) (ps ++ [a + 2]) else ((rdc t n (a + 2) (pw n r)).2, a + 2 + (rdc t n (a + 2) (pw n r)).1, l, ps)) else (3, a, l, ps)) else (1, a, l, ps)) else (0, 0, l, ps)
theorem arO_le {b : Int} {r : Nat} (h : arO b = some r) : r ≤ 2 := by
  unfold arO at h
  by_cases q1 : b = 99
  · rw [if_pos q1] at h; simp at h; omega
  · rw [if_neg q1] at h
    by_cases q2 : b = 117
    · rw [if_pos q2] at h; simp at h; omega
    · rw [if_neg q2] at h
      by_cases q3 : b = 98
      · rw [if_pos q3] at h; simp at h; omega
      · rw [if_neg q3] at h; simp at h
