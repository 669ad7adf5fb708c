/-! traits: the reference's loops -/
section TM
variable {F n : Nat} {d o : Int} {h : HF} {V : Nat → Nat → Nat}
theorem mTr3s (hn : n ≤ 7) (hM : ∀ a b : Nat, a < n → b < n → fX12_value F 181 d o (a : Int) (b : Int) h = some (((V a b : Nat) : Int), h)) (hB : ∀ a b : Nat, a < n → b < n → V a b < n) {a b : Nat} (ha : a < n) (hb : b < n) {u8 u9 u11 u12 u14 u15 u16 : Int} {k : Int → Int → Int → Int → Int → Int → Int → HF → RO} {N c : Nat} {w7 w10 : Bool} (hc : c < n) : LX12_traits_189 F 181 (n : Int) d o u8 u9 u11 u12 (a : Int) u14 u15 u16 (b : Int) ((V a b : Nat) : Int) k (N + 1) (bi w7) (bi w10) (c : Int) h = LX12_traits_189 F 181 (n : Int) d o u8 u9 u11 u12 (a : Int) u14 u15 u16 (b : Int) ((V a b : Nat) : Int) k N (bi (w7 && decide (V (V a b) c = V a (V b c)))) (bi (w10 && decide (V a (V b c) = V (V a b) (V a c)))) ((c + 1 : Nat) : Int) h := by
  have e1 := hM b c hb hc
  have e2 := hM (V a b) c (hB a b ha hb) hc
  have e3 := hM a (V b c) ha (hB b c hb hc)
  have e4 := hM a c ha hc
  have e5 := hM (V a b) (V a c) (hB a b ha hb) (hB a c ha hc)
  rw [LX12_traits_189, if_pos (by omega), e1, zbd_some]
  simp only [zjn, zlet]
  rw [wr_s (by omega)]
  simp only [e2, e3, e4, e5, zbd_some]
  by_cases q1 : V (V a b) c = V a (V b c)
  · have p1 := eq_true (show ((V (V a b) c : Nat) : Int) = ((V a (V b c) : Nat) : Int) by rw [q1])
    rw [decide_eq_true q1]
    by_cases q2 : V a (V b c) = V (V a b) (V a c)
    · have p2 := eq_true (show ((V a (V b c) : Nat) : Int) = ((V (V a b) (V a c) : Nat) : Int) by rw [q2])
      rw [decide_eq_true q2]
      simp only [p1, p2, ↓reduceIte]
      cases w7 <;> cases w10 <;> rfl
    · have p2 := eq_false (show ¬ ((V a (V b c) : Nat) : Int) = ((V (V a b) (V a c) : Nat) : Int) by omega)
      rw [decide_eq_false q2]
      simp only [p1, p2, ↓reduceIte]
      cases w7 <;> cases w10 <;> rfl
  · have p1 := eq_false (show ¬ ((V (V a b) c : Nat) : Int) = ((V a (V b c) : Nat) : Int) by omega)
    rw [decide_eq_false q1]
    by_cases q2 : V a (V b c) = V (V a b) (V a c)
    · have p2 := eq_true (show ((V a (V b c) : Nat) : Int) = ((V (V a b) (V a c) : Nat) : Int) by rw [q2])
      rw [decide_eq_true q2]
      simp only [p1, p2, ↓reduceIte]
      cases w7 <;> cases w10 <;> rfl
    · have p2 := eq_false (show ¬ ((V a (V b c) : Nat) : Int) = ((V (V a b) (V a c) : Nat) : Int) by omega)
      rw [decide_eq_false q2]
      simp only [p1, p2, ↓reduceIte]
      cases w7 <;> cases w10 <;> rfl
theorem mTr3 (hn : n ≤ 7) (hM : ∀ a b : Nat, a < n → b < n → fX12_value F 181 d o (a : Int) (b : Int) h = some (((V a b : Nat) : Int), h)) (hB : ∀ a b : Nat, a < n → b < n → V a b < n) {a b : Nat} (ha : a < n) (hb : b < n) {u8 u9 u11 u12 u14 u15 u16 : Int} {k : Int → Int → Int → Int → Int → Int → Int → HF → RO} : ∀ (m c N : Nat) (w7 w10 : Bool), c + m = n → m + 1 ≤ N → LX12_traits_189 F 181 (n : Int) d o u8 u9 u11 u12 (a : Int) u14 u15 u16 (b : Int) ((V a b : Nat) : Int) k N (bi w7) (bi w10) (c : Int) h = k (bi (w7 && alB (fun c => decide (V (V a b) c = V a (V b c))) c m)) u8 (bi (w10 && alB (fun c => decide (V a (V b c) = V (V a b) (V a c))) c m)) u14 u15 u16 (b : Int) h := by
  intro m
  induction m with
  | zero =>
    intro c N w7 w10 hc hN
    obtain ⟨N, rfl⟩ : ∃ M, N = M + 1 := ⟨N - 1, by omega⟩
    rw [LX12_traits_189, if_neg (by omega)]
    simp [alB]
  | succ m ih =>
    intro c N w7 w10 hc hN
    obtain ⟨N, rfl⟩ : ∃ M, N = M + 1 := ⟨N - 1, by omega⟩
    rw [mTr3s hn hM hB ha hb (by omega), ih (c + 1) N _ _ (by omega) (by omega), alB_s, alB_s, Bool.and_assoc, Bool.and_assoc]
theorem mTr2s (hF : 8 ≤ F) (hn : n ≤ 7) (hM : ∀ a b : Nat, a < n → b < n → fX12_value F 181 d o (a : Int) (b : Int) h = some (((V a b : Nat) : Int), h)) (hB : ∀ a b : Nat, a < n → b < n → V a b < n) {a b : Nat} (ha : a < n) (hb : b < n) {u9 u11 u12 x y : Int} {k : Int → Int → Int → Int → Int → Int → Int → Int → Int → Int → HF → RO} {N : Nat} {w7 w8 w10 w16 : Bool} : LX12_traits_72 F 181 (n : Int) d o u9 u11 u12 (a : Int) k (N + 1) (bi w7) (bi w8) (bi w10) x y (bi w16) (b : Int) h = LX12_traits_72 F 181 (n : Int) d o u9 u11 u12 (a : Int) k N (bi (w7 && alB (fun c => decide (V (V a b) c = V a (V b c))) 0 n)) (bi (w8 && decide (V a b = V b a))) (bi (w10 && alB (fun c => decide (V a (V b c) = V (V a b) (V a c))) 0 n)) (wor x (wshl 1 ((V a b : Nat) : Int))) (wor y (wshl 1 ((V b a : Nat) : Int))) (bi (w16 && (decide (V a b = b) && decide (V b a = b)))) ((b + 1 : Nat) : Int) h := by
  have e1 := hM a b ha hb
  have e2 := hM b a hb ha
  have e9 : ∀ (u8 u14 u15 u16 : Int) (k : Int → Int → Int → Int → Int → Int → Int → HF → RO), LX12_traits_189 F 181 (n : Int) d o u8 u9 u11 u12 (a : Int) u14 u15 u16 (b : Int) ((V a b : Nat) : Int) k F (bi w7) (bi w10) 0 h = k (bi (w7 && alB (fun c => decide (V (V a b) c = V a (V b c))) 0 n)) u8 (bi (w10 && alB (fun c => decide (V a (V b c) = V (V a b) (V a c))) 0 n)) u14 u15 u16 (b : Int) h := fun u8 u14 u15 u16 k => mTr3 hn hM hB ha hb n 0 F w7 w10 (by omega) (by omega)
  rw [LX12_traits_72, if_pos (by omega), e1, zbd_some]
  simp only [zjn, zlet, e2, zbd_some, e9]
  rw [wr_s (by omega)]
  by_cases q1 : V a b = V b a <;> by_cases q2 : V a b = b <;> by_cases q3 : V b a = b
  · simp only [eq_true (show ((V a b : Nat) : Int) = ((V b a : Nat) : Int) by omega), eq_true (show ((V a b : Nat) : Int) = (b : Int) by omega), eq_true (show ((V b a : Nat) : Int) = (b : Int) by omega), decide_eq_true q1, decide_eq_true q2, decide_eq_true q3, ↓reduceIte]
    cases w8 <;> cases w16 <;> rfl
  · simp only [eq_true (show ((V a b : Nat) : Int) = ((V b a : Nat) : Int) by omega), eq_true (show ((V a b : Nat) : Int) = (b : Int) by omega), eq_false (show ¬ ((V b a : Nat) : Int) = (b : Int) by omega), decide_eq_true q1, decide_eq_true q2, decide_eq_false q3, ↓reduceIte]
    cases w8 <;> cases w16 <;> rfl
  · simp only [eq_true (show ((V a b : Nat) : Int) = ((V b a : Nat) : Int) by omega), eq_false (show ¬ ((V a b : Nat) : Int) = (b : Int) by omega), eq_true (show ((V b a : Nat) : Int) = (b : Int) by omega), decide_eq_true q1, decide_eq_false q2, decide_eq_true q3, ↓reduceIte]
    cases w8 <;> cases w16 <;> rfl
  · simp only [eq_true (show ((V a b : Nat) : Int) = ((V b a : Nat) : Int) by omega), eq_false (show ¬ ((V a b : Nat) : Int) = (b : Int) by omega), eq_false (show ¬ ((V b a : Nat) : Int) = (b : Int) by omega), decide_eq_true q1, decide_eq_false q2, decide_eq_false q3, ↓reduceIte]
    cases w8 <;> cases w16 <;> rfl
  · simp only [eq_false (show ¬ ((V a b : Nat) : Int) = ((V b a : Nat) : Int) by omega), eq_true (show ((V a b : Nat) : Int) = (b : Int) by omega), eq_true (show ((V b a : Nat) : Int) = (b : Int) by omega), decide_eq_false q1, decide_eq_true q2, decide_eq_true q3, ↓reduceIte]
    cases w8 <;> cases w16 <;> rfl
  · simp only [eq_false (show ¬ ((V a b : Nat) : Int) = ((V b a : Nat) : Int) by omega), eq_true (show ((V a b : Nat) : Int) = (b : Int) by omega), eq_false (show ¬ ((V b a : Nat) : Int) = (b : Int) by omega), decide_eq_false q1, decide_eq_true q2, decide_eq_false q3, ↓reduceIte]
    cases w8 <;> cases w16 <;> rfl
  · simp only [eq_false (show ¬ ((V a b : Nat) : Int) = ((V b a : Nat) : Int) by omega), eq_false (show ¬ ((V a b : Nat) : Int) = (b : Int) by omega), eq_true (show ((V b a : Nat) : Int) = (b : Int) by omega), decide_eq_false q1, decide_eq_false q2, decide_eq_true q3, ↓reduceIte]
    cases w8 <;> cases w16 <;> rfl
  · simp only [eq_false (show ¬ ((V a b : Nat) : Int) = ((V b a : Nat) : Int) by omega), eq_false (show ¬ ((V a b : Nat) : Int) = (b : Int) by omega), eq_false (show ¬ ((V b a : Nat) : Int) = (b : Int) by omega), decide_eq_false q1, decide_eq_false q2, decide_eq_false q3, ↓reduceIte]
    cases w8 <;> cases w16 <;> rfl
theorem mTr2 (hF : 8 ≤ F) (hn : n ≤ 7) (hM : ∀ a b : Nat, a < n → b < n → fX12_value F 181 d o (a : Int) (b : Int) h = some (((V a b : Nat) : Int), h)) (hB : ∀ a b : Nat, a < n → b < n → V a b < n) {a : Nat} (ha : a < n) {u9 u11 u12 : Int} {k : Int → Int → Int → Int → Int → Int → Int → Int → Int → Int → HF → RO} : ∀ (m b N : Nat) (x y : Int) (w7 w8 w10 w16 : Bool), b + m = n → m + 1 ≤ N → LX12_traits_72 F 181 (n : Int) d o u9 u11 u12 (a : Int) k N (bi w7) (bi w8) (bi w10) x y (bi w16) (b : Int) h = k (bi (w7 && alB (fun b => alB (fun c => decide (V (V a b) c = V a (V b c))) 0 n) b m)) (bi (w8 && alB (fun b => decide (V a b = V b a)) b m)) u9 (bi (w10 && alB (fun b => alB (fun c => decide (V a (V b c) = V (V a b) (V a c))) 0 n) b m)) u11 u12 (a : Int) (orF (V a) b x m) (orF (fun b => V b a) b y m) (bi (w16 && alB (fun b => decide (V a b = b) && decide (V b a = b)) b m)) h := by
  intro m
  induction m with
  | zero =>
    intro b N x y w7 w8 w10 w16 hb hN
    obtain ⟨N, rfl⟩ : ∃ M, N = M + 1 := ⟨N - 1, by omega⟩
    rw [LX12_traits_72, if_neg (by omega)]
    simp [alB, orF]
  | succ m ih =>
    intro b N x y w7 w8 w10 w16 hb hN
    obtain ⟨N, rfl⟩ : ∃ M, N = M + 1 := ⟨N - 1, by omega⟩
    rw [mTr2s hF hn hM hB ha (by omega), ih (b + 1) N _ _ _ _ _ _ (by omega) (by omega), alB_s, alB_s, alB_s, alB_s, Bool.and_assoc, Bool.and_assoc, Bool.and_assoc, Bool.and_assoc]
    rfl
theorem mTr1s (hF : 8 ≤ F) (hn : n ≤ 7) (hM : ∀ a b : Nat, a < n → b < n → fX12_value F 181 d o (a : Int) (b : Int) h = some (((V a b : Nat) : Int), h)) (hB : ∀ a b : Nat, a < n → b < n → V a b < n) {a : Nat} (ha : a < n) {k : Int → Int → Int → Int → Int → Int → HF → RO} {N : Nat} {w7 w8 w9 w10 w11 w12 : Bool} : LX12_traits_53 F 181 (n : Int) d o k (N + 1) (bi w7) (bi w8) (bi w9) (bi w10) (bi w11) (bi w12) (a : Int) h = LX12_traits_53 F 181 (n : Int) d o k N (bi (w7 && alB (fun b => alB (fun c => decide (V (V a b) c = V a (V b c))) 0 n) 0 n)) (bi (w8 && alB (fun b => decide (V a b = V b a)) 0 n)) (bi (w9 && decide (V a a = a))) (bi (w10 && alB (fun b => alB (fun c => decide (V a (V b c) = V (V a b) (V a c))) 0 n) 0 n)) (bi (w11 && (decide (orF (V a) 0 0 n = wr (wshl 1 (n : Int) - 1)) && decide (orF (fun b => V b a) 0 0 n = wr (wshl 1 (n : Int) - 1))))) (bi (w12 || alB (fun b => decide (V a b = b) && decide (V b a = b)) 0 n)) ((a + 1 : Nat) : Int) h := by
  have e1 := hM a a ha ha
  rw [LX12_traits_53, if_pos (by omega)]
  simp only [zjn, zlet]
  refine (mTr2 hF hn hM hB ha n 0 F 0 0 w7 w8 w10 true (by omega) (by omega)).trans ?_
  simp only [e1, zbd_some]
  rw [wr_s (by omega), Bool.true_and]
  generalize alB (fun b => decide (V a b = b) && decide (V b a = b)) 0 n = w16
  by_cases q1 : V a a = a <;> by_cases q2 : orF (V a) 0 0 n = wr (wshl 1 (n : Int) - 1) <;> by_cases q3 : orF (fun b => V b a) 0 0 n = wr (wshl 1 (n : Int) - 1)
  · simp only [eq_true (show ((V a a : Nat) : Int) = (a : Int) by omega), eq_true q2, eq_true q3, decide_eq_true q1, decide_true, decide_false, ↓reduceIte]
    cases w9 <;> cases w11 <;> cases w12 <;> cases w16 <;> rfl
  · simp only [eq_true (show ((V a a : Nat) : Int) = (a : Int) by omega), eq_true q2, eq_false q3, decide_eq_true q1, decide_true, decide_false, ↓reduceIte]
    cases w9 <;> cases w11 <;> cases w12 <;> cases w16 <;> rfl
  · simp only [eq_true (show ((V a a : Nat) : Int) = (a : Int) by omega), eq_false q2, eq_true q3, decide_eq_true q1, decide_true, decide_false, ↓reduceIte]
    cases w9 <;> cases w11 <;> cases w12 <;> cases w16 <;> rfl
  · simp only [eq_true (show ((V a a : Nat) : Int) = (a : Int) by omega), eq_false q2, eq_false q3, decide_eq_true q1, decide_true, decide_false, ↓reduceIte]
    cases w9 <;> cases w11 <;> cases w12 <;> cases w16 <;> rfl
  · simp only [eq_false (show ¬ ((V a a : Nat) : Int) = (a : Int) by omega), eq_true q2, eq_true q3, decide_eq_false q1, decide_true, decide_false, ↓reduceIte]
    cases w9 <;> cases w11 <;> cases w12 <;> cases w16 <;> rfl
  · simp only [eq_false (show ¬ ((V a a : Nat) : Int) = (a : Int) by omega), eq_true q2, eq_false q3, decide_eq_false q1, decide_true, decide_false, ↓reduceIte]
    cases w9 <;> cases w11 <;> cases w12 <;> cases w16 <;> rfl
  · simp only [eq_false (show ¬ ((V a a : Nat) : Int) = (a : Int) by omega), eq_false q2, eq_true q3, decide_eq_false q1, decide_true, decide_false, ↓reduceIte]
    cases w9 <;> cases w11 <;> cases w12 <;> cases w16 <;> rfl
  · simp only [eq_false (show ¬ ((V a a : Nat) : Int) = (a : Int) by omega), eq_false q2, eq_false q3, decide_eq_false q1, decide_true, decide_false, ↓reduceIte]
    cases w9 <;> cases w11 <;> cases w12 <;> cases w16 <;> rfl
theorem mTr1 (hF : 8 ≤ F) (hn : n ≤ 7) (hM : ∀ a b : Nat, a < n → b < n → fX12_value F 181 d o (a : Int) (b : Int) h = some (((V a b : Nat) : Int), h)) (hB : ∀ a b : Nat, a < n → b < n → V a b < n) {k : Int → Int → Int → Int → Int → Int → HF → RO} : ∀ (m a N : Nat) (w7 w8 w9 w10 w11 w12 : Bool), a + m = n → m + 1 ≤ N → LX12_traits_53 F 181 (n : Int) d o k N (bi w7) (bi w8) (bi w9) (bi w10) (bi w11) (bi w12) (a : Int) h = k (bi (w7 && alB (fun a => alB (fun b => alB (fun c => decide (V (V a b) c = V a (V b c))) 0 n) 0 n) a m)) (bi (w8 && alB (fun a => alB (fun b => decide (V a b = V b a)) 0 n) a m)) (bi (w9 && alB (fun a => decide (V a a = a)) a m)) (bi (w10 && alB (fun a => alB (fun b => alB (fun c => decide (V a (V b c) = V (V a b) (V a c))) 0 n) 0 n) a m)) (bi (w11 && alB (fun a => decide (orF (V a) 0 0 n = wr (wshl 1 (n : Int) - 1)) && decide (orF (fun b => V b a) 0 0 n = wr (wshl 1 (n : Int) - 1))) a m)) (bi (w12 || exB (fun a => alB (fun b => decide (V a b = b) && decide (V b a = b)) 0 n) a m)) h := by
  intro m
  induction m with
  | zero =>
    intro a N w7 w8 w9 w10 w11 w12 ha hN
    obtain ⟨N, rfl⟩ : ∃ M, N = M + 1 := ⟨N - 1, by omega⟩
    rw [LX12_traits_53, if_neg (by omega)]
    simp [alB, exB]
  | succ m ih =>
    intro a N w7 w8 w9 w10 w11 w12 ha hN
    obtain ⟨N, rfl⟩ : ∃ M, N = M + 1 := ⟨N - 1, by omega⟩
    rw [mTr1s hF hn hM hB (by omega), ih (a + 1) N _ _ _ _ _ _ (by omega) (by omega), alB_s, alB_s, alB_s, alB_s, alB_s, exB_s, Bool.and_assoc, Bool.and_assoc, Bool.and_assoc, Bool.and_assoc, Bool.and_assoc, Bool.or_assoc]
end TM
