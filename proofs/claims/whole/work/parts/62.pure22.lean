/-! filling; the digits of arities; addOperation, shape -/
def fil (h : HF) (a i m : Nat) (v : Int) : HF := fun c k => if c = a ∧ i ≤ k ∧ k < i + m then v else h c k
theorem fil_0 {h : HF} {a i : Nat} {v : Int} : fil h a i 0 v = h := by
  funext c k
  unfold fil
  rw [if_neg (by omega)]
theorem fil_succ {h : HF} {a i m : Nat} {v : Int} : fil (stp h a i v) a (i + 1) m v = fil h a i (m + 1) v := by
  funext c k
  unfold fil
  by_cases q : c = a ∧ k = i
  · rw [if_neg (by omega), if_pos (by omega), q.1, q.2, stp_eq]
  · by_cases q1 : c = a ∧ i + 1 ≤ k ∧ k < i + 1 + m
    · rw [if_pos q1, if_pos (by omega)]
    · rw [if_neg q1, if_neg (by omega), stp_ne (by omega)]
theorem fil_off {h : HF} {a i m c k : Nat} {v : Int} (q : c ≠ a ∨ k < i ∨ i + m ≤ k) : fil h a i m v c k = h c k := by unfold fil; rw [if_neg (by omega)]
theorem fil_in {h : HF} {a i m k : Nat} {v : Int} (q : i ≤ k ∧ k < i + m) : fil h a i m v a k = v := by unfold fil; rw [if_pos ⟨rfl, q⟩]
theorem fill_L {F a e : Nat} {v : Int} {k : HF → RO} (he : e ≤ kl a) (h4 : e < 100000) : ∀ (m i N : Nat) (h : HF), i + m = e → m + 1 ≤ N → LJ7_fill_fda19_10 F a (e : Int) v k N (i : Int) h = k (fil h a i m v) := by
  intro m
  induction m with
  | zero =>
    intro i N h hi hN
    obtain ⟨N, rfl⟩ : ∃ M, N = M + 1 := ⟨N - 1, by omega⟩
    rw [LJ7_fill_fda19_10, if_neg (by omega), fil_0]
  | succ m ih =>
    intro i N h hi hN
    obtain ⟨N, rfl⟩ : ∃ M, N = M + 1 := ⟨N - 1, by omega⟩
    rw [LJ7_fill_fda19_10, if_pos (by omega), zwr_ok ⟨by omega, by omega⟩, Int.toNat_natCast]
    simp only [zlet]
    rw [wr_id ⟨by omega, by omega⟩, show (i : Int) + 1 = ((i + 1 : Nat) : Int) by omega, ih (i + 1) N _ (by omega) (by omega), fil_succ]
theorem fill_eq {F a s e : Nat} {v : Int} {h : HF} (hs : s ≤ e) (he : e ≤ kl a) (h4 : e < 100000) (hF : e - s + 1 ≤ F) : fJ7_fill_fda19 F a (s : Int) (e : Int) v h = some (0, fil h a s (e - s) v) := by
  unfold fJ7_fill_fda19 fJ7_rangeCheck_23922
  simp only [zjn]
  rw [if_neg (by omega), if_neg (by omega), if_neg (by omega), zbd_some]
  exact fill_L (F := F) (v := v) (k := fun h => some (0, h)) he h4 (e - s) s F h (by omega) hF
def okA : Nat → Nat → Bool
  | 0, v => decide (v = 0)
  | m + 1, v => if v = 0 then true else (decide (1 ≤ v % 10) && decide (v % 10 ≤ 3)) && okA m (v / 10)
def arsOf : Nat → Nat → List Nat
  | 0, _ => []
  | m + 1, v => if v = 0 then [] else (v % 10 - 1) :: arsOf m (v / 10)
theorem okA_zero (m : Nat) : okA m 0 = true := by cases m <;> simp [okA]
theorem ars_zero (m : Nat) : arsOf m 0 = [] := by cases m <;> simp [arsOf]
theorem okA_s {m v : Nat} (q : v ≠ 0) : okA (m + 1) v = ((decide (1 ≤ v % 10) && decide (v % 10 ≤ 3)) && okA m (v / 10)) := by simp [okA, q]
theorem ars_s {m v : Nat} (q : v ≠ 0) : arsOf (m + 1) v = (v % 10 - 1) :: arsOf m (v / 10) := by simp [arsOf, q]
theorem okA_cod : ∀ (m v : Nat), okA m v = true → cod (arsOf m v) = v ∧ (arsOf m v).length ≤ m ∧ ∀ r ∈ arsOf m v, r ≤ 2
  | 0, v, h => by
    have : v = 0 := by simpa [okA] using h
    subst this
    exact ⟨rfl, Nat.le_refl _, fun r hr => absurd hr (by simp [arsOf])⟩
  | m + 1, v, h => by
    by_cases q : v = 0
    · subst q
      rw [ars_zero]
      exact ⟨rfl, Nat.zero_le _, fun r hr => absurd hr (by simp)⟩
    · rw [okA_s q] at h
      simp only [Bool.and_eq_true, decide_eq_true_eq] at h
      obtain ⟨i1, i2, i3⟩ := okA_cod m (v / 10) h.2
      rw [ars_s q]
      refine ⟨?_, ?_, ?_⟩
      · simp only [cod]
        rw [i1]
        omega
      · simp only [List.length_cons]
        omega
      · intro r hr
        rcases List.mem_cons.mp hr with z | z
        · omega
        · exact i3 r z
theorem okA_lt : ∀ (m v : Nat), okA m v = true → v < 10 ^ m
  | 0, v, h => by
    have : v = 0 := by simpa [okA] using h
    subst this
    decide
  | m + 1, v, h => by
    by_cases q : v = 0
    · subst q
      exact Nat.pow_pos (by decide)
    · rw [okA_s q] at h
      simp only [Bool.and_eq_true, decide_eq_true_eq] at h
      have := okA_lt m (v / 10) h.2
      rw [Nat.pow_succ]
      omega
theorem ars_WF {n m v : Nat} (hn : 1 ≤ n ∧ n ≤ 7) (hm : m ≤ 4) (h : okA m v = true) : WF n (arsOf m v) (fun _ _ => 0) := by
  obtain ⟨_, i2, i3⟩ := okA_cod m v h
  refine ⟨hn, by omega, fun o ho => ?_, fun o ho k hk => ⟨Int.le_refl _, by show (0 : Int) < (n : Int); omega⟩⟩
  rw [List.getD_eq_getElem?_getD, List.getElem?_eq_getElem ho]
  exact i3 _ (List.getElem_mem ho)
theorem isShape_L {F : Nat} {h : HF} : ∀ (m i N v : Nat), i + m = 4 → m + 1 ≤ N → v < 2 ^ 31 → LX11_isShape_21 F (fun x h => if x = 0 then zrz 1 h else zrz 0 h) (fun h => zrz 0 h) N (v : Int) (i : Int) h = some (bi (okA m v), h) := by
  intro m
  induction m with
  | zero =>
    intro i N v hi hN hv
    obtain ⟨N, rfl⟩ : ∃ M, N = M + 1 := ⟨N - 1, by omega⟩
    rw [LX11_isShape_21, if_neg (by omega)]
    by_cases q : v = 0
    · subst q
      rfl
    · show (if (v : Int) = 0 then zrz 1 h else zrz 0 h) = _
      rw [if_neg (by omega), zrz_0]
      simp [okA, q, bi]
  | succ m ih =>
    intro i N v hi hN hv
    obtain ⟨N, rfl⟩ : ∃ M, N = M + 1 := ⟨N - 1, by omega⟩
    rw [LX11_isShape_21, if_pos (by omega)]
    by_cases q : v = 0
    · subst q
      rw [okA_zero]
      rfl
    · rw [if_pos (by omega), zdv_ok (by decide), show (10 : Int) = ((10 : Nat) : Int) from rfl, wrem_N hv, okA_s q]
      simp only [zlet]
      by_cases q1 : v % 10 < 1
      · rw [if_pos (by omega), zrz_0, decide_eq_false (show ¬ 1 ≤ v % 10 by omega)]
        rfl
      · rw [if_neg (by omega)]
        by_cases q2 : 3 < v % 10
        · rw [if_pos (by omega), zrz_0, decide_eq_false (show ¬ v % 10 ≤ 3 by omega), Bool.and_false]
          rfl
        · rw [if_neg (by omega), zdv_ok (by decide), wdiv_N hv, wr_id ⟨by omega, by omega⟩, show (i : Int) + 1 = ((i + 1 : Nat) : Int) by omega, ih (i + 1) N (v / 10) (by omega) (by omega) (by omega), decide_eq_true (show 1 ≤ v % 10 by omega), decide_eq_true (show v % 10 ≤ 3 by omega)]
          rfl
theorem isShape_eq {F : Nat} {n a : Int} {h : HF} (hF : 5 ≤ F) (ra : rng a) : fX11_isShape F n a h = some (bl (1 ≤ n ∧ n ≤ 7 ∧ 0 ≤ a ∧ okA 4 a.toNat = true), h) := by
  unfold fX11_isShape
  simp only [zjn]
  by_cases q1 : n < 1
  · rw [if_pos q1, bl_neg (by omega)]; rfl
  · rw [if_neg q1]
    by_cases q2 : 7 < n
    · rw [if_pos q2, bl_neg (by omega)]; rfl
    · rw [if_neg q2]
      by_cases q3 : a < 0
      · rw [if_pos q3, bl_neg (by omega)]; rfl
      · rw [if_neg q3]
        obtain ⟨v, rfl⟩ : ∃ v : Nat, a = (v : Int) := ⟨a.toNat, by omega⟩
        have hv : v < 2 ^ 31 := by have := ra.2; omega
        rw [Int.toNat_natCast]
        refine (isShape_L (F := F) (h := h) 4 0 F v (by omega) (by omega) hv).trans ?_
        cases q4 : okA 4 v
        · rw [bl_neg (by simp)]; rfl
        · rw [bl_pos ⟨by omega, by omega, by omega, rfl⟩]; rfl
theorem areAr_L {F : Nat} {h : HF} {k : Int → HF → RO} : ∀ (m N v : Nat), m + 2 ≤ N → v < 2 ^ 31 → v < 10 ^ m → LX12_areArities_19 F k N 1 (v : Int) h = k (bi (okA m v)) h := by
  intro m
  induction m with
  | zero =>
    intro N v hN hv h1
    obtain ⟨N, rfl⟩ : ∃ M, N = M + 1 := ⟨N - 1, by omega⟩
    have : v = 0 := by simpa using h1
    subst this
    rw [LX12_areArities_19, if_neg (by omega)]
    rfl
  | succ m ih =>
    intro N v hN hv h1
    obtain ⟨N, rfl⟩ : ∃ M, N = M + 1 := ⟨N - 1, by omega⟩
    rw [LX12_areArities_19]
    by_cases q : v = 0
    · subst q
      rw [if_neg (by omega), okA_zero]
      rfl
    · have z : ∀ w : Nat, LX12_areArities_19 F k N 0 (w : Int) h = k 0 h := fun w => by
        obtain ⟨N, rfl⟩ : ∃ M, N = M + 1 := ⟨N - 1, by omega⟩
        rw [LX12_areArities_19]
        by_cases qw : 0 < (w : Int)
        · rw [if_pos qw, if_pos rfl]
        · rw [if_neg qw]
      rw [if_pos (by omega), if_neg (by decide), zdv_ok (by decide), show (10 : Int) = ((10 : Nat) : Int) from rfl, wrem_N hv, okA_s q]
      simp only [zlet, zjn]
      by_cases q1 : v % 10 < 1
      · rw [if_pos (by omega), zdv_ok (by decide), wdiv_N hv, z, decide_eq_false (show ¬ 1 ≤ v % 10 by omega)]
        rfl
      · rw [if_neg (by omega), zdv_ok (by decide)]
        by_cases q2 : 3 < v % 10
        · rw [if_pos (by omega), zdv_ok (by decide), wdiv_N hv, z, decide_eq_false (show ¬ v % 10 ≤ 3 by omega), Bool.and_false]
          rfl
        · rw [if_neg (by omega), zdv_ok (by decide), wdiv_N hv, ih N (v / 10) (by omega) (by omega) (by rw [Nat.pow_succ] at h1; omega), decide_eq_true (show 1 ≤ v % 10 by omega), decide_eq_true (show v % 10 ≤ 3 by omega)]
          rfl
theorem areArities_eq {F : Nat} {a : Int} {h : HF} (hF : 6 ≤ F) (ra : rng a) : fX12_areArities F 181 a h = some (bl (0 ≤ a ∧ okA 4 a.toNat = true), h) := by
  obtain ⟨N, e⟩ : ∃ M, F = M + 1 := ⟨F - 1, by omega⟩
  unfold fX12_areArities
  simp only [zjn]
  by_cases q1 : a < 0
  · rw [if_pos q1, bl_neg (by omega), e, LX12_areArities_19, if_neg (by omega)]; rfl
  · rw [if_neg q1]
    obtain ⟨v, rfl⟩ : ∃ v : Nat, a = (v : Int) := ⟨a.toNat, by omega⟩
    have hv : v < 2 ^ 31 := by have := ra.2; omega
    rw [Int.toNat_natCast]
    by_cases q2 : 9999 < (v : Int)
    · have : okA 4 v = false := by
        cases q4 : okA 4 v
        · rfl
        · have := okA_lt 4 v q4
          omega
      rw [if_pos q2, this, bl_neg (by simp), e, LX12_areArities_19, if_pos (by omega), if_pos rfl]; rfl
    · rw [if_neg q2, areAr_L 4 F v (by omega) hv (by omega)]
      cases q4 : okA 4 v
      · rw [bl_neg (by simp)]; rfl
      · rw [bl_pos ⟨by omega, rfl⟩]; rfl
