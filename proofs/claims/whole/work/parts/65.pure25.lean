/-! traits: the class's loops over abstract values V -/
def alB (p : Nat → Bool) : Nat → Nat → Bool
  | _, 0 => true
  | i, m + 1 => p i && alB p (i + 1) m
def exB (p : Nat → Bool) : Nat → Nat → Bool
  | _, 0 => false
  | i, m + 1 => p i || exB p (i + 1) m
def orF (f : Nat → Nat) : Nat → Int → Nat → Int
  | _, x, 0 => x
  | i, x, m + 1 => orF f (i + 1) (wor x (wshl 1 ((f i : Nat) : Int))) m
theorem alB_s {p : Nat → Bool} {i m : Nat} : alB p i (m + 1) = (p i && alB p (i + 1) m) := rfl
theorem exB_s {p : Nat → Bool} {i m : Nat} : exB p i (m + 1) = (p i || exB p (i + 1) m) := rfl
theorem orF_s {f : Nat → Nat} {i m : Nat} {x : Int} : orF f i x (m + 1) = orF f (i + 1) (wor x (wshl 1 ((f i : Nat) : Int))) m := rfl
theorem wr_s {i : Nat} (h : i < 1000000) : wr ((i : Int) + 1) = ((i + 1 : Nat) : Int) := by rw [wr_id ⟨by omega, by omega⟩]; omega
section TR
variable {F A n : Nat} {o : Int} {h : HF} {V : Nat → Nat → Nat}
theorem cAs3 (h0 : h A 0 = (n : Int)) (hn : n ≤ 7) (hV : ∀ a b : Nat, a < n → b < n → fX0_value F A o (a : Int) (b : Int) h = some (((V a b : Nat) : Int), h)) (hB : ∀ a b : Nat, a < n → b < n → V a b < n) {a b : Nat} (ha : a < n) (hb : b < n) {k75 : Int → HF → RO} {k67 : HF → RO} : ∀ (m c N : Nat), c + m = n → m + 1 ≤ N → LX0_isAssociative_32 F A o (a : Int) (b : Int) ((V a b : Nat) : Int) k75 k67 N (c : Int) h = if alB (fun c => decide (V (V a b) c = V a (V b c))) c m = true then k75 (b : Int) h else k67 h := by
  intro m
  induction m with
  | zero =>
    intro c N hc hN
    obtain ⟨N, rfl⟩ : ∃ M, N = M + 1 := ⟨N - 1, by omega⟩
    rw [LX0_isAssociative_32]
    simp only [zgf]
    rw [h0, if_neg (by omega)]
    rfl
  | succ m ih =>
    intro c N hc hN
    obtain ⟨N, rfl⟩ : ∃ M, N = M + 1 := ⟨N - 1, by omega⟩
    rw [LX0_isAssociative_32]
    simp only [zgf, zlet]
    rw [h0, if_pos (by omega), hV (V a b) c (hB a b ha hb) (by omega), zbd_some, hV b c hb (by omega), zbd_some, hV a (V b c) ha (hB b c hb (by omega)), zbd_some, wr_s (by omega), ih (c + 1) N (by omega) (by omega), alB_s]
    by_cases q : V (V a b) c = V a (V b c)
    · rw [if_pos (by rw [q]), decide_eq_true q, Bool.true_and]
    · rw [if_neg (by omega), decide_eq_false q, Bool.false_and, if_neg (by decide)]
theorem cAs2 (h0 : h A 0 = (n : Int)) (hn : n ≤ 7) (hV : ∀ a b : Nat, a < n → b < n → fX0_value F A o (a : Int) (b : Int) h = some (((V a b : Nat) : Int), h)) (hB : ∀ a b : Nat, a < n → b < n → V a b < n) (hF : 8 ≤ F) {a : Nat} (ha : a < n) {k81 : Int → HF → RO} {k67 : HF → RO} : ∀ (m b N : Nat), b + m = n → m + 1 ≤ N → LX0_isAssociative_12 F A o (a : Int) k81 k67 N (b : Int) h = if alB (fun b => alB (fun c => decide (V (V a b) c = V a (V b c))) 0 n) b m = true then k81 (a : Int) h else k67 h := by
  intro m
  induction m with
  | zero =>
    intro c N hc hN
    obtain ⟨N, rfl⟩ : ∃ M, N = M + 1 := ⟨N - 1, by omega⟩
    rw [LX0_isAssociative_12]
    simp only [zgf]
    rw [h0, if_neg (by omega)]
    rfl
  | succ m ih =>
    intro b N hb hN
    obtain ⟨N, rfl⟩ : ∃ M, N = M + 1 := ⟨N - 1, by omega⟩
    rw [LX0_isAssociative_12]
    simp only [zgf, zlet, zjn]
    rw [h0, if_pos (by omega), hV a b ha (by omega), zbd_some]
    refine (cAs3 (F := F) (o := o) (h := h) h0 hn hV hB ha (show b < n by omega) n 0 F (by omega) (by omega)).trans ?_
    rw [wr_s (by omega), ih (b + 1) N (by omega) (by omega), alB_s]
    generalize alB (fun c => decide (V (V a b) c = V a (V b c))) 0 n = w
    cases w with
    | false => rfl
    | true => rfl
theorem cAs1 (h0 : h A 0 = (n : Int)) (hn : n ≤ 7) (hV : ∀ a b : Nat, a < n → b < n → fX0_value F A o (a : Int) (b : Int) h = some (((V a b : Nat) : Int), h)) (hB : ∀ a b : Nat, a < n → b < n → V a b < n) (hF : 8 ≤ F) {k87 : HF → RO} {k67 : HF → RO} : ∀ (m a N : Nat), a + m = n → m + 1 ≤ N → LX0_isAssociative_2 F A o k87 k67 N (a : Int) h = if alB (fun a => alB (fun b => alB (fun c => decide (V (V a b) c = V a (V b c))) 0 n) 0 n) a m = true then k87 h else k67 h := by
  intro m
  induction m with
  | zero =>
    intro c N hc hN
    obtain ⟨N, rfl⟩ : ∃ M, N = M + 1 := ⟨N - 1, by omega⟩
    rw [LX0_isAssociative_2]
    simp only [zgf]
    rw [h0, if_neg (by omega)]
    rfl
  | succ m ih =>
    intro a N ha hN
    obtain ⟨N, rfl⟩ : ∃ M, N = M + 1 := ⟨N - 1, by omega⟩
    rw [LX0_isAssociative_2]
    simp only [zgf, zlet, zjn]
    rw [h0, if_pos (by omega)]
    refine (cAs2 (F := F) (o := o) (h := h) h0 hn hV hB hF (show a < n by omega) n 0 F (by omega) (by omega)).trans ?_
    rw [wr_s (by omega), ih (a + 1) N (by omega) (by omega), alB_s]
    generalize alB (fun b => alB (fun c => decide (V (V a b) c = V a (V b c))) 0 n) 0 n = w
    cases w with
    | false => rfl
    | true => rfl
theorem cSd3 (h0 : h A 0 = (n : Int)) (hn : n ≤ 7) (hV : ∀ a b : Nat, a < n → b < n → fX0_value F A o (a : Int) (b : Int) h = some (((V a b : Nat) : Int), h)) (hB : ∀ a b : Nat, a < n → b < n → V a b < n) {a b : Nat} (ha : a < n) (hb : b < n) {k75 : Int → HF → RO} {k67 : HF → RO} : ∀ (m c N : Nat), c + m = n → m + 1 ≤ N → LX0_isSelfDistributive_32 F A o (a : Int) (b : Int) ((V a b : Nat) : Int) k75 k67 N (c : Int) h = if alB (fun c => decide (V a (V b c) = V (V a b) (V a c))) c m = true then k75 (b : Int) h else k67 h := by
  intro m
  induction m with
  | zero =>
    intro c N hc hN
    obtain ⟨N, rfl⟩ : ∃ M, N = M + 1 := ⟨N - 1, by omega⟩
    rw [LX0_isSelfDistributive_32]
    simp only [zgf]
    rw [h0, if_neg (by omega)]
    rfl
  | succ m ih =>
    intro c N hc hN
    obtain ⟨N, rfl⟩ : ∃ M, N = M + 1 := ⟨N - 1, by omega⟩
    have hcn : c < n := by omega
    rw [LX0_isSelfDistributive_32]
    simp only [zgf, zlet]
    rw [h0, if_pos (by omega), hV b c hb hcn, zbd_some, hV a (V b c) ha (hB b c hb hcn), zbd_some, hV a c ha hcn, zbd_some, hV (V a b) (V a c) (hB a b ha hb) (hB a c ha hcn), zbd_some, wr_s (by omega), ih (c + 1) N (by omega) (by omega), alB_s]
    by_cases q : V a (V b c) = V (V a b) (V a c)
    · rw [if_pos (by rw [q]), decide_eq_true q, Bool.true_and]
    · rw [if_neg (by omega), decide_eq_false q, Bool.false_and, if_neg (by decide)]
theorem cSd2 (h0 : h A 0 = (n : Int)) (hn : n ≤ 7) (hV : ∀ a b : Nat, a < n → b < n → fX0_value F A o (a : Int) (b : Int) h = some (((V a b : Nat) : Int), h)) (hB : ∀ a b : Nat, a < n → b < n → V a b < n) (hF : 8 ≤ F) {a : Nat} (ha : a < n) {k81 : Int → HF → RO} {k67 : HF → RO} : ∀ (m b N : Nat), b + m = n → m + 1 ≤ N → LX0_isSelfDistributive_12 F A o (a : Int) k81 k67 N (b : Int) h = if alB (fun b => alB (fun c => decide (V a (V b c) = V (V a b) (V a c))) 0 n) b m = true then k81 (a : Int) h else k67 h := by
  intro m
  induction m with
  | zero =>
    intro c N hc hN
    obtain ⟨N, rfl⟩ : ∃ M, N = M + 1 := ⟨N - 1, by omega⟩
    rw [LX0_isSelfDistributive_12]
    simp only [zgf]
    rw [h0, if_neg (by omega)]
    rfl
  | succ m ih =>
    intro b N hb hN
    obtain ⟨N, rfl⟩ : ∃ M, N = M + 1 := ⟨N - 1, by omega⟩
    rw [LX0_isSelfDistributive_12]
    simp only [zgf, zlet, zjn]
    rw [h0, if_pos (by omega), hV a b ha (by omega), zbd_some]
    refine (cSd3 (F := F) (o := o) (h := h) h0 hn hV hB ha (show b < n by omega) n 0 F (by omega) (by omega)).trans ?_
    rw [wr_s (by omega), ih (b + 1) N (by omega) (by omega), alB_s]
    generalize alB (fun c => decide (V a (V b c) = V (V a b) (V a c))) 0 n = w
    cases w with
    | false => rfl
    | true => rfl
theorem cSd1 (h0 : h A 0 = (n : Int)) (hn : n ≤ 7) (hV : ∀ a b : Nat, a < n → b < n → fX0_value F A o (a : Int) (b : Int) h = some (((V a b : Nat) : Int), h)) (hB : ∀ a b : Nat, a < n → b < n → V a b < n) (hF : 8 ≤ F) {k87 : HF → RO} {k67 : HF → RO} : ∀ (m a N : Nat), a + m = n → m + 1 ≤ N → LX0_isSelfDistributive_2 F A o k87 k67 N (a : Int) h = if alB (fun a => alB (fun b => alB (fun c => decide (V a (V b c) = V (V a b) (V a c))) 0 n) 0 n) a m = true then k87 h else k67 h := by
  intro m
  induction m with
  | zero =>
    intro c N hc hN
    obtain ⟨N, rfl⟩ : ∃ M, N = M + 1 := ⟨N - 1, by omega⟩
    rw [LX0_isSelfDistributive_2]
    simp only [zgf]
    rw [h0, if_neg (by omega)]
    rfl
  | succ m ih =>
    intro a N ha hN
    obtain ⟨N, rfl⟩ : ∃ M, N = M + 1 := ⟨N - 1, by omega⟩
    rw [LX0_isSelfDistributive_2]
    simp only [zgf, zlet, zjn]
    rw [h0, if_pos (by omega)]
    refine (cSd2 (F := F) (o := o) (h := h) h0 hn hV hB hF (show a < n by omega) n 0 F (by omega) (by omega)).trans ?_
    rw [wr_s (by omega), ih (a + 1) N (by omega) (by omega), alB_s]
    generalize alB (fun b => alB (fun c => decide (V a (V b c) = V (V a b) (V a c))) 0 n) 0 n = w
    cases w with
    | false => rfl
    | true => rfl
theorem cNe2 (h0 : h A 0 = (n : Int)) (hn : n ≤ 7) (hV : ∀ a b : Nat, a < n → b < n → fX0_value F A o (a : Int) (b : Int) h = some (((V a b : Nat) : Int), h)) {e : Nat} (he : e < n) {k : Int → Int → HF → RO} : ∀ (m a N : Nat) (w : Bool), a + m = n → m + 1 ≤ N → LX0_hasNeutral_15 F A o (e : Int) k N (bi w) (a : Int) h = k (e : Int) (bi (w && alB (fun a => decide (V e a = a) && decide (V a e = a)) a m)) h := by
  intro m
  induction m with
  | zero =>
    intro c N w hc hN
    obtain ⟨N, rfl⟩ : ∃ M, N = M + 1 := ⟨N - 1, by omega⟩
    rw [LX0_hasNeutral_15]
    simp only [zgf]
    rw [h0, if_neg (by omega)]
    simp [alB]
  | succ m ih =>
    intro a N w ha hN
    obtain ⟨N, rfl⟩ : ∃ M, N = M + 1 := ⟨N - 1, by omega⟩
    rw [LX0_hasNeutral_15]
    simp only [zgf, zlet, zjn]
    rw [h0, if_pos (by omega)]
    cases w with
    | false =>
      rw [bi_f, if_pos rfl]
      rfl
    | true =>
      have i1 := ih (a + 1) N true (by omega) (by omega)
      have i0 := ih (a + 1) N false (by omega) (by omega)
      rw [bi_t] at i1
      rw [bi_f] at i0
      rw [bi_t, if_neg (by decide), hV e a he (by omega), zbd_some, hV a e (by omega) he, zbd_some, wr_s (by omega), i1, i0, alB_s]
      by_cases q1 : V e a = a
      · rw [if_pos (by rw [q1]), decide_eq_true q1]
        by_cases q2 : V a e = a
        · rw [if_pos (by rw [q2]), decide_eq_true q2]; rfl
        · rw [if_neg (by omega), decide_eq_false q2]; rfl
      · rw [if_neg (by omega), decide_eq_false q1]; rfl
theorem cNe1 (h0 : h A 0 = (n : Int)) (hn : n ≤ 7) (hV : ∀ a b : Nat, a < n → b < n → fX0_value F A o (a : Int) (b : Int) h = some (((V a b : Nat) : Int), h)) (hF : 8 ≤ F) {k78 k70 : HF → RO} : ∀ (m e N : Nat), e + m = n → m + 1 ≤ N → LX0_hasNeutral_2 F A o k78 k70 N (e : Int) h = if exB (fun e => alB (fun a => decide (V e a = a) && decide (V a e = a)) 0 n) e m = true then k70 h else k78 h := by
  intro m
  induction m with
  | zero =>
    intro c N hc hN
    obtain ⟨N, rfl⟩ : ∃ M, N = M + 1 := ⟨N - 1, by omega⟩
    rw [LX0_hasNeutral_2]
    simp only [zgf]
    rw [h0, if_neg (by omega)]
    rfl
  | succ m ih =>
    intro e N he hN
    obtain ⟨N, rfl⟩ : ∃ M, N = M + 1 := ⟨N - 1, by omega⟩
    rw [LX0_hasNeutral_2]
    simp only [zgf, zlet, zjn]
    rw [h0, if_pos (by omega)]
    refine (cNe2 (F := F) (o := o) (h := h) h0 hn hV (show e < n by omega) n 0 F true (by omega) (by omega)).trans ?_
    rw [wr_s (by omega), ih (e + 1) N (by omega) (by omega), exB_s, Bool.true_and]
    generalize alB (fun a => decide (V e a = a) && decide (V a e = a)) 0 n = w
    cases w with
    | false => rfl
    | true => rfl
theorem cId1 (h0 : h A 0 = (n : Int)) (hn : n ≤ 7) (hV : ∀ a b : Nat, a < n → b < n → fX0_value F A o (a : Int) (b : Int) h = some (((V a b : Nat) : Int), h)) {k29 k21 : HF → RO} : ∀ (m a N : Nat), a + m = n → m + 1 ≤ N → LX0_isIdempotent_2 F A o k29 k21 N (a : Int) h = if alB (fun a => decide (V a a = a)) a m = true then k29 h else k21 h := by
  intro m
  induction m with
  | zero =>
    intro c N hc hN
    obtain ⟨N, rfl⟩ : ∃ M, N = M + 1 := ⟨N - 1, by omega⟩
    rw [LX0_isIdempotent_2]
    simp only [zgf]
    rw [h0, if_neg (by omega)]
    rfl
  | succ m ih =>
    intro a N ha hN
    obtain ⟨N, rfl⟩ : ∃ M, N = M + 1 := ⟨N - 1, by omega⟩
    rw [LX0_isIdempotent_2]
    simp only [zgf, zlet]
    rw [h0, if_pos (by omega), hV a a (by omega) (by omega), zbd_some, wr_s (by omega), ih (a + 1) N (by omega) (by omega), alB_s]
    by_cases q : V a a = a
    · rw [if_pos (by rw [q]), decide_eq_true q, Bool.true_and]
    · rw [if_neg (by omega), decide_eq_false q, Bool.false_and, if_neg (by decide)]
theorem cLa2 (h0 : h A 0 = (n : Int)) (hn : n ≤ 7) (hV : ∀ a b : Nat, a < n → b < n → fX0_value F A o (a : Int) (b : Int) h = some (((V a b : Nat) : Int), h)) {a : Nat} (ha : a < n) {k : Int → Int → Int → HF → RO} : ∀ (m b N : Nat) (x y : Int), b + m = n → m + 1 ≤ N → LX0_isLatin_18 F A o (a : Int) k N x y (b : Int) h = k (a : Int) (orF (V a) b x m) (orF (fun b => V b a) b y m) h := by
  intro m
  induction m with
  | zero =>
    intro b N x y hc hN
    obtain ⟨N, rfl⟩ : ∃ M, N = M + 1 := ⟨N - 1, by omega⟩
    rw [LX0_isLatin_18]
    simp only [zgf]
    rw [h0, if_neg (by omega)]
    rfl
  | succ m ih =>
    intro b N x y hb hN
    obtain ⟨N, rfl⟩ : ∃ M, N = M + 1 := ⟨N - 1, by omega⟩
    rw [LX0_isLatin_18]
    simp only [zgf, zlet]
    rw [h0, if_pos (by omega), hV a b ha (by omega), zbd_some, hV b a (by omega) ha, zbd_some, wr_s (by omega), ih (b + 1) N _ _ (by omega) (by omega)]
    rfl
theorem cLa1 (h0 : h A 0 = (n : Int)) (hn : n ≤ 7) (hV : ∀ a b : Nat, a < n → b < n → fX0_value F A o (a : Int) (b : Int) h = some (((V a b : Nat) : Int), h)) (hF : 8 ≤ F) {k86 k78 : HF → RO} : ∀ (m a N : Nat), a + m = n → m + 1 ≤ N → LX0_isLatin_2 F A o k86 k78 N (a : Int) h = if alB (fun a => decide (orF (V a) 0 0 n = wr (wshl 1 (n : Int) - 1)) && decide (orF (fun b => V b a) 0 0 n = wr (wshl 1 (n : Int) - 1))) a m = true then k86 h else k78 h := by
  intro m
  induction m with
  | zero =>
    intro c N hc hN
    obtain ⟨N, rfl⟩ : ∃ M, N = M + 1 := ⟨N - 1, by omega⟩
    rw [LX0_isLatin_2]
    simp only [zgf]
    rw [h0, if_neg (by omega)]
    rfl
  | succ m ih =>
    intro a N ha hN
    obtain ⟨N, rfl⟩ : ∃ M, N = M + 1 := ⟨N - 1, by omega⟩
    rw [LX0_isLatin_2]
    simp only [zgf, zlet, zjn]
    rw [h0, if_pos (by omega)]
    refine (cLa2 (F := F) (o := o) (h := h) h0 hn hV (show a < n by omega) n 0 F 0 0 (by omega) (by omega)).trans ?_
    unfold fX0_allBits
    simp only [zgf, h0]
    rw [zbd_some, zbd_some, h0, wr_s (by omega), ih (a + 1) N (by omega) (by omega), alB_s]
    by_cases q1 : orF (V a) 0 0 n = wr (wshl 1 (n : Int) - 1)
    · rw [if_pos q1, decide_eq_true q1, Bool.true_and]
      by_cases q2 : orF (fun b => V b a) 0 0 n = wr (wshl 1 (n : Int) - 1)
      · rw [if_pos q2, decide_eq_true q2, Bool.true_and]
      · rw [if_neg q2, decide_eq_false q2, Bool.false_and, if_neg (by decide)]
    · rw [if_neg q1, decide_eq_false q1, Bool.false_and, Bool.false_and, if_neg (by decide)]
end TR
