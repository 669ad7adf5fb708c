/-! bits of sets; traits, the call -/
theorem alB_iff {p : Nat → Bool} : ∀ {m i : Nat}, alB p i m = true ↔ ∀ j, i ≤ j → j < i + m → p j = true
  | 0, i => ⟨fun _ j h1 h2 => absurd h2 (by omega), fun _ => rfl⟩
  | m + 1, i => by
    rw [alB_s, Bool.and_eq_true, alB_iff]
    refine ⟨fun ⟨h0, h1⟩ j q1 q2 => ?_, fun hh => ⟨hh i (Nat.le_refl _) (by omega), fun j q1 q2 => hh j (by omega) (by omega)⟩⟩
    by_cases z : j = i
    · rw [z]; exact h0
    · exact h1 j (by omega) (by omega)
theorem exB_iff {p : Nat → Bool} : ∀ {m i : Nat}, exB p i m = true ↔ ∃ j, i ≤ j ∧ j < i + m ∧ p j = true
  | 0, i => ⟨fun h => absurd h (by simp [exB]), fun ⟨j, h1, h2, _⟩ => absurd h2 (by omega)⟩
  | m + 1, i => by
    rw [exB_s, Bool.or_eq_true, exB_iff]
    constructor
    · rintro (h0 | ⟨j, h1, h2, h3⟩)
      · exact ⟨i, Nat.le_refl _, by omega, h0⟩
      · exact ⟨j, by omega, by omega, h3⟩
    · rintro ⟨j, h1, h2, h3⟩
      by_cases z : j = i
      · rw [z] at h3; exact Or.inl h3
      · exact Or.inr ⟨j, by omega, by omega, h3⟩
theorem cb_bits {W : Nat → Nat → Int} {n : Nat} : ∀ (m a x : Nat), a + m ≤ 30 → x < 2 ^ a → ∃ y : Nat, cbF W n a (x : Int) m = (y : Int) ∧ y < 2 ^ (a + m) ∧ ∀ j, y.testBit j = (x.testBit j || (decide (a ≤ j ∧ j < a + m) && cmF W j 0 n)) := by
  intro m
  induction m with
  | zero =>
    intro a x ha hx
    refine ⟨x, rfl, hx, fun j => ?_⟩
    rw [decide_eq_false (by omega), Bool.false_and, Bool.or_false]
  | succ m ih =>
    intro a x ha hx
    have hp : 2 ^ a < 2 ^ 31 := Nat.pow_lt_pow_right (by decide) (by omega)
    have hp1 : 2 ^ (a + 1) = 2 * 2 ^ a := by rw [Nat.pow_succ]; omega
    simp only [cbF]
    have key : ∃ x' : Nat, (if cmF W a 0 n = true then wor (x : Int) (wshl 1 (a : Int)) else (x : Int)) = (x' : Int) ∧ x' < 2 ^ (a + 1) ∧ ∀ j, x'.testBit j = (x.testBit j || (decide (j = a) && cmF W a 0 n)) := by
      by_cases q : cmF W a 0 n = true
      · refine ⟨x ||| 2 ^ a, ?_, Nat.or_lt_two_pow (by omega) (by omega), fun j => ?_⟩
        · rw [if_pos q, wshl_1 (by omega), wor_N (by omega) hp]
        · rw [Nat.testBit_or, Nat.testBit_two_pow, q, Bool.and_true]
          congr 1
          by_cases z : a = j
          · simp [z]
          · simp [z, Ne.symm z]
      · have q' : cmF W a 0 n = false := by simpa using q
        refine ⟨x, by rw [if_neg q], by omega, fun j => by rw [q', Bool.and_false, Bool.or_false]⟩
    obtain ⟨x', e1, e2, e3⟩ := key
    rw [e1]
    obtain ⟨y, f1, f2, f3⟩ := ih (a + 1) x' (by omega) e2
    refine ⟨y, f1, by rw [show a + (m + 1) = a + 1 + m by omega]; exact f2, fun j => ?_⟩
    rw [f3, e3]
    by_cases z : j = a
    · subst z
      rw [decide_eq_true rfl, decide_eq_false (show ¬ (j + 1 ≤ j ∧ j < j + 1 + m) by omega), decide_eq_true (show j ≤ j ∧ j < j + (m + 1) by omega), Bool.false_and, Bool.or_false]
    · rw [decide_eq_false z, Bool.false_and, Bool.or_false]
      congr 2
      by_cases z1 : a + 1 ≤ j ∧ j < a + 1 + m
      · rw [decide_eq_true z1, decide_eq_true (by omega)]
      · rw [decide_eq_false z1, decide_eq_false (by omega)]
theorem full_eq {n : Nat} (hn : n ≤ 7) : wr (wshl 1 (n : Int) - 1) = ((2 ^ n - 1 : Nat) : Int) := by
  have hp : 2 ^ n ≤ 2 ^ 7 := Nat.pow_le_pow_right (by decide) hn
  have hp0 : 0 < 2 ^ n := Nat.pow_pos (by decide)
  rw [wshl_1 (by omega), wr_id ⟨by omega, by omega⟩]
  omega
theorem cb_full {W : Nat → Nat → Int} {n : Nat} (hn : n ≤ 7) : (cbF W n 0 0 n = wr (wshl 1 (n : Int) - 1)) = (alB (fun a => cmF W a 0 n) 0 n = true) := by
  obtain ⟨y, e1, e2, e3⟩ := cb_bits (W := W) (n := n) n 0 0 (by omega) (by decide)
  rw [full_eq hn, show cbF W n 0 0 n = (y : Int) from e1, alB_iff]
  apply propext
  constructor
  · intro q j _ hj
    have qy : y = 2 ^ n - 1 := by omega
    have := e3 j
    rw [qy, Nat.testBit_two_pow_sub_one, decide_eq_true (show j < n by omega), Nat.zero_testBit, Bool.false_or, decide_eq_true (show 0 ≤ j ∧ j < 0 + n by omega), Bool.true_and] at this
    exact this.symm
  · intro q
    have : y = 2 ^ n - 1 := by
      apply Nat.eq_of_testBit_eq
      intro j
      rw [e3 j, Nat.testBit_two_pow_sub_one, Nat.zero_testBit, Bool.false_or]
      by_cases z : j < n
      · rw [decide_eq_true (show 0 ≤ j ∧ j < 0 + n by omega), decide_eq_true z, Bool.true_and, q j (Nat.zero_le _) (by omega)]
      · rw [decide_eq_false (show ¬ (0 ≤ j ∧ j < 0 + n) by omega), decide_eq_false z, Bool.false_and]
    rw [this]
def trAS (V : Nat → Nat → Nat) (n : Nat) : Bool := alB (fun a => alB (fun b => alB (fun c => decide (V (V a b) c = V a (V b c))) 0 n) 0 n) 0 n
def trCM (V : Nat → Nat → Nat) (n : Nat) : Bool := alB (fun a => alB (fun b => decide (V a b = V b a)) 0 n) 0 n
def trID (V : Nat → Nat → Nat) (n : Nat) : Bool := alB (fun a => decide (V a a = a)) 0 n
def trSD (V : Nat → Nat → Nat) (n : Nat) : Bool := alB (fun a => alB (fun b => alB (fun c => decide (V a (V b c) = V (V a b) (V a c))) 0 n) 0 n) 0 n
def trLA (V : Nat → Nat → Nat) (n : Nat) : Bool := alB (fun a => decide (orF (V a) 0 0 n = wr (wshl 1 (n : Int) - 1)) && decide (orF (fun b => V b a) 0 0 n = wr (wshl 1 (n : Int) - 1))) 0 n
def trHN (V : Nat → Nat → Nat) (n : Nat) : Bool := exB (fun e => alB (fun a => decide (V e a = a) && decide (V a e = a)) 0 n) 0 n
def trS (b1 b2 b3 b4 b5 b6 : Bool) : Int := bi b1 + 2 * bi b2 + 4 * bi b3 + 8 * bi b4 + 16 * bi b5 + 32 * bi b6
theorem cm_al {tb : Nat → Nat → Int} {V : Nat → Nat → Nat} {o n a : Nat} (hT : ∀ a b, a < n → b < n → tb o (ix n 2 a b) = ((V a b : Nat) : Int)) (ha : a < n) : ∀ (m b : Nat), b + m ≤ n → cmF (fun a b => tb o (ix n 2 a b)) a b m = alB (fun b => decide (V a b = V b a)) b m
  | 0, _, _ => rfl
  | m + 1, b, hb => by
    rw [alB_s]
    simp only [cmF]
    have e1 := hT a b ha (by omega)
    have e2 := hT b a (by omega) ha
    rw [cm_al hT ha m (b + 1) (by omega)]
    by_cases q : V a b = V b a
    · rw [decide_eq_true q, decide_eq_true (show tb o (ix n 2 a b) = tb o (ix n 2 b a) by rw [e1, e2, q])]
    · rw [decide_eq_false q, decide_eq_false (show ¬ tb o (ix n 2 a b) = tb o (ix n 2 b a) by omega)]
theorem al_congr {p q : Nat → Bool} : ∀ (m i : Nat), (∀ j, i ≤ j → j < i + m → p j = q j) → alB p i m = alB q i m
  | 0, _, _ => rfl
  | m + 1, i, h => by rw [alB_s, alB_s, h i (Nat.le_refl _) (by omega), al_congr m (i + 1) (fun j h1 h2 => h j (by omega) (by omega))]
theorem c_traits {F A n o : Nat} {ar : List Nat} {tb : Nat → Nat → Int} {h : HF} {V : Nat → Nat → Nat} (hF : 8 ≤ F) (hk : kt A = 0 + 3) (hw : WF n ar tb) (hr : RepC h A n ar tb) (ho : o < ar.length) (h2 : ar.getD o 0 = 2) (hT : ∀ a b, a < n → b < n → tb o (ix n 2 a b) = ((V a b : Nat) : Int)) (hB : ∀ a b : Nat, a < n → b < n → V a b < n) : fX0_traitSum F A (o : Int) h = some (trS (trAS V n) (trCM V n) (trHN V n) (trLA V n) (trID V n) (trSD V n), h) := by
  have hn := hw.1.2
  have hV : ∀ a b : Nat, a < n → b < n → fX0_value F A (o : Int) (a : Int) (b : Int) h = some (((V a b : Nat) : Int), h) := fun a b ha hb => by rw [val2 hk hw hr ho h2 ha hb, hT a b ha hb]
  have a1 : fX0_isAssociative F A (o : Int) h = some (bi (trAS V n), h) := by
    unfold fX0_isAssociative
    simp only [zjn]
    refine (cAs1 (F := F) hr.1 hn hV hB hF (k87 := fun h => zrz 1 h) (k67 := fun h => zrz 0 h) n 0 F (by omega) (by omega)).trans ?_
    show (if trAS V n = true then zrz 1 h else zrz 0 h) = _
    cases trAS V n <;> rfl
  have a2 : fX0_isSelfDistributive F A (o : Int) h = some (bi (trSD V n), h) := by
    unfold fX0_isSelfDistributive
    simp only [zjn]
    refine (cSd1 (F := F) hr.1 hn hV hB hF (k87 := fun h => zrz 1 h) (k67 := fun h => zrz 0 h) n 0 F (by omega) (by omega)).trans ?_
    show (if trSD V n = true then zrz 1 h else zrz 0 h) = _
    cases trSD V n <;> rfl
  have a3 : fX0_hasNeutral F A (o : Int) h = some (bi (trHN V n), h) := by
    unfold fX0_hasNeutral
    simp only [zjn]
    refine (cNe1 (F := F) hr.1 hn hV hF (k78 := fun h => zrz 0 h) (k70 := fun h => zrz 1 h) n 0 F (by omega) (by omega)).trans ?_
    show (if trHN V n = true then zrz 1 h else zrz 0 h) = _
    cases trHN V n <;> rfl
  have a4 : fX0_isIdempotent F A (o : Int) h = some (bi (trID V n), h) := by
    unfold fX0_isIdempotent
    simp only [zjn]
    refine (cId1 (F := F) hr.1 hn hV (k29 := fun h => zrz 1 h) (k21 := fun h => zrz 0 h) n 0 F (by omega) (by omega)).trans ?_
    show (if trID V n = true then zrz 1 h else zrz 0 h) = _
    cases trID V n <;> rfl
  have a5 : fX0_isLatin F A (o : Int) h = some (bi (trLA V n), h) := by
    unfold fX0_isLatin
    simp only [zjn]
    refine (cLa1 (F := F) hr.1 hn hV hF (k86 := fun h => zrz 1 h) (k78 := fun h => zrz 0 h) n 0 F (by omega) (by omega)).trans ?_
    show (if trLA V n = true then zrz 1 h else zrz 0 h) = _
    cases trLA V n <;> rfl
  have a6 : fX0_centreBits F A (o : Int) h = some (cbF (fun a b => tb o (ix n 2 a b)) n 0 0 n, h) := by
    unfold fX0_centreBits
    simp only [zjn]
    exact cOut (F := F) hk hw hr ho h2 hF (k := fun x h => some (x, h)) n 0 F 0 (by omega) (by omega)
  have a7 : (cbF (fun a b => tb o (ix n 2 a b)) n 0 0 n = wr (wshl 1 (n : Int) - 1)) = (trCM V n = true) := by
    rw [cb_full hn]
    unfold trCM
    rw [al_congr n 0 (fun j _ hj => cm_al hT (show j < n by omega) n 0 (by omega))]
  unfold fX0_traitSum fX0_allBits
  simp only [zjn, zlet, zgf, a1, a2, a3, a4, a5, a6, zbd_some, hr.1, a7]
  generalize trAS V n = b1
  generalize trCM V n = b2
  generalize trHN V n = b3
  generalize trLA V n = b4
  generalize trID V n = b5
  generalize trSD V n = b6
  cases b1 <;> cases b2 <;> cases b3 <;> cases b4 <;> cases b5 <;> cases b6 <;> (show (some (_, h) : RO) = some (_, h)) <;> exact so_eq (by decide)
theorem ps_traits {I5 I6 : HF → Prop} {F : Nat} (hF : 8 ≤ F) : PS_traits F (InvP I4d I5 I6) := by
  intro h a1 a2 hI _ _
  have hI' := Inv_thrown hI
  have hD : ∀ d, d < 8 → DR h d := fun d hd => I4d_get hI.2.2.2.1 hd
  unfold fX11_traits fX12_traits
  simp only [zjn, zpf]
  by_cases q : rfs h a1 = 0
  · obtain ⟨d, n, ar, tb, rfl, hd, hw, hc, hm⟩ := held hD q
    have hm' := RepM_thrown hm
    obtain ⟨r, e1, e2, e3⟩ := binary (F := F) (y := a2) hD hd q hw hc hm
    have e2 := e2 _ hm' (by rw [rfs_thrown]; exact q)
    have hn := hw.1.2
    by_cases q0 : r = 0
    · obtain ⟨o, rfl, ho, h2⟩ := e3 q0
      have hcell : ∀ a b, a < n → b < n → 0 ≤ tb o (ix n 2 a b) ∧ tb o (ix n 2 a b) < (n : Int) := fun a b ha hb => hw.2.2.2 o ho _ (by rw [h2]; exact ix2_lt ha hb)
      have hT : ∀ a b, a < n → b < n → tb o (ix n 2 a b) = (((fun a b => (tb o (ix n 2 a b)).toNat) a b : Nat) : Int) := fun a b ha hb => by have := hcell a b ha hb; show _ = ((tb o (ix n 2 a b)).toNat : Int); omega
      have hB : ∀ a b : Nat, a < n → b < n → (fun a b => (tb o (ix n 2 a b)).toNat) a b < n := fun a b ha hb => by have := hcell a b ha hb; show (tb o (ix n 2 a b)).toNat < n; omega
      generalize (fun a b => (tb o (ix n 2 a b)).toNat) = V at hT hB
      have hM : ∀ a b : Nat, a < n → b < n → fX12_value F 181 (d : Int) (o : Int) (a : Int) (b : Int) (stp h 181 0 0) = some (((V a b : Nat) : Int), stp h 181 0 0) := fun a b ha hb => by rw [mval2 (by omega) hw hm' ho h2 ha hb, hT a b ha hb]
      refine ⟨trS (trAS V n) (trCM V n) (trHN V n) (trLA V n) (trID V n) (trSD V n), h, stp h 181 0 0, ?_, ?_, hI'⟩
      · rw [e1, zbd_some, if_pos q0, drw_at hd, c_traits hF (kt_drw d hd) hw hc ho h2 hT hB, zbd_some]
      · rw [e2, zbd_some, if_pos q0, msz (by omega) hm']
        refine (mTr1 hF hn hM hB n 0 F true true true true true false (by omega) (by omega)).trans ?_
        rw [Bool.true_and, Bool.true_and, Bool.true_and, Bool.true_and, Bool.true_and, Bool.false_or]
        rw [show alB (fun a => alB (fun b => alB (fun c => decide (V (V a b) c = V a (V b c))) 0 n) 0 n) 0 n = trAS V n from rfl, show alB (fun a => alB (fun b => decide (V a b = V b a)) 0 n) 0 n = trCM V n from rfl, show alB (fun a => decide (V a a = a)) 0 n = trID V n from rfl, show alB (fun a => alB (fun b => alB (fun c => decide (V a (V b c) = V (V a b) (V a c))) 0 n) 0 n) 0 n = trSD V n from rfl, show alB (fun a => decide (orF (V a) 0 0 n = wr (wshl 1 (n : Int) - 1)) && decide (orF (fun b => V b a) 0 0 n = wr (wshl 1 (n : Int) - 1))) 0 n = trLA V n from rfl, show exB (fun a => alB (fun b => decide (V a b = b) && decide (V b a = b)) 0 n) 0 n = trHN V n from rfl]
        generalize trAS V n = b1
        generalize trCM V n = b2
        generalize trHN V n = b3
        generalize trLA V n = b4
        generalize trID V n = b5
        generalize trSD V n = b6
        cases b1 <;> cases b2 <;> cases b3 <;> cases b4 <;> cases b5 <;> cases b6 <;> exact so_eq (by decide)
    · refine ⟨r, h, stp h 181 0 0, ?_, ?_, hI'⟩
      · rw [e1, zbd_some, if_neg q0]
      · rw [e2, zbd_some, if_neg q0]
  · obtain ⟨e1, e2⟩ := binary_no (F := F) (y := a2) hD q
    refine ⟨rfs h a1, h, stp h 181 0 0, ?_, ?_, hI'⟩
    · rw [e1, zbd_some, if_neg q]
    · rw [e2 _ rfs_thrown, zbd_some, if_neg q]
